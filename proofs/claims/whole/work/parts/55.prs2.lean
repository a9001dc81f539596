theorem pr_keep {c : Ab} (hW : CW c) (v : Int32) : Pr mX6_keep mX7_keep [.int v] c := by
  by_cases q : (0 : Int) ≤ v.toInt ∧ v.toInt ≤ 1
  · obtain ⟨k, hk, rfl⟩ := toNat_of (n := 2) q.1 (by omega)
    refine ⟨(kpR c.2.1 k), (c.1, updK c.2.1 k c.1, c.2.2), fun d S hd hC => ?_, fun d S hd hM => ?_, hW.1, fun j L1 e => ?_, hW.2.2⟩
    · refine zEv_to (ev_keepC (by omega) hC.1 hC.2.1 hW.1.1 k hk) (fun S' k' => ⟨⟨k'.1, k'.2.1, hC.2.2.1.fr k'.2.2 (fun k j q1 q2 => by unfold kpC; omega), hC.2.2.2.1.fr k'.2.2 (by unfold kpC; omega) (fun j => by unfold kpC; omega), ?_, ?_⟩, k'.2.2.mono (fun k j z => by unfold kpC at z; unfold cP; omega)⟩)
      · rw [k'.2.2 39 2 (by unfold kpC; omega)]; exact hC.2.2.2.2.1
      · rw [k'.2.2 0 9 (by unfold kpC; omega)]; exact hC.2.2.2.2.2
    · refine zEv_to (ev_keepM (by omega) hM.1 hM.2.1 hW.1.1 (fun k L1 e => (hW.2.1 k L1 e).1) k hk) (fun S' k' => ⟨⟨k'.1, k'.2.1, hM.2.2.1.fr k'.2.2 (fun k j q1 q2 => by unfold kpM; omega), hM.2.2.2.1.fr k'.2.2 (by unfold kpM; omega) (fun j => by unfold kpM; omega), ?_, ?_⟩, k'.2.2.mono (fun k j z => by unfold kpM at z; unfold mP; omega)⟩)
      · rw [k'.2.2 57 12 (by unfold kpM; omega)]; exact hM.2.2.2.2.1
      · rw [k'.2.2 57 27 (by unfold kpM; omega)]; exact hM.2.2.2.2.2
    · have e : (if j = k then some c.1 else c.2.1 j) = some L1 := e
      by_cases z : j = k
      · rw [if_pos z] at e
        obtain rfl : c.1 = L1 := Option.some.inj e
        exact hW.1
      · rw [if_neg z] at e; exact hW.2.1 j L1 e
  · exact ⟨(-1), c, fun d S hd hC => zEv_xy (ev_keepCx (by omega) S v q) hC.same, fun d S hd hM => zEv_xy (ev_keepMx (by omega) S v q) hM.same, hW⟩
theorem pr_back {c : Ab} (hW : CW c) (v : Int32) : Pr mX6_back mX7_back [.int v] c := by
  by_cases q : (0 : Int) ≤ v.toInt ∧ v.toInt ≤ 1
  · obtain ⟨k, hk, rfl⟩ := toNat_of (n := 2) q.1 (by omega)
    cases e : c.2.1 k with
    | none => exact ⟨(-2), c, fun d S hd hC => zEv_xy (ev_backC0 (by omega) hC.2.1 k hk e) hC.same, fun d S hd hM => zEv_xy (ev_backM0 (by omega) hM.2.1 k hk e) hM.same, hW⟩
    | some L1 =>
      have w := hW.2.1 k L1 e
      exact ⟨(iv (L1 0 13)), (L1, c.2), fun d S hd hC => zEv_to (ev_backC (by omega) hC.2.1 w.1 k hk e) (fun S' k' => ⟨hC.land k'.1 k'.2, k'.2.mono cls_c⟩), fun d S hd hM => zEv_to (ev_backM (by omega) hM.2.1 w.1 k hk e) (fun S' k' => ⟨hM.land hW k'.1 k'.2, k'.2.mono mod_m⟩), w, hW.2⟩
  · exact ⟨(-1), c, fun d S hd hC => zEv_xy (ev_backCx (by omega) S v q) hC.same, fun d S hd hM => zEv_xy (ev_backMx (by omega) S v q) hM.same, hW⟩
/-- the sheets alone change -/
theorem CI.sheets {S S' : ZSt} {c : Ab} {sh : Sh} (h : CI S c) (hS : SC S' sh) (hf : FrI scP S S') : CI S' (c.1, c.2.1, sh, c.2.2.2) ∧ FrI cP S S' := by
  obtain ⟨a1, a2, a3, a4, a5, a6⟩ := h
  refine ⟨⟨a1.frB hf (fun r j q => by unfold scP; omega), a2.fr hf (fun k j q1 q2 => by unfold scP; omega), hS, a4.fr hf (by unfold scP; omega) (fun j => by unfold scP; omega), ?_, ?_⟩, hf.mono (fun k j z => by unfold scP at z; unfold cP; omega)⟩
  · rw [hf 39 2 (by unfold scP; omega)]; exact a5
  · rw [hf 0 9 (by unfold scP; omega)]; exact a6
theorem MI.sheets {S S' : ZSt} {c : Ab} {sh : Sh} (hW : CW c) (h : MI S c) (hS : SM S' sh) (hf : FrI smP S S') : MI S' (c.1, c.2.1, sh, c.2.2.2) ∧ FrI mP S S' := by
  obtain ⟨a1, a2, a3, a4, a5, a6⟩ := h
  refine ⟨⟨a1.frI hf (fun i => by unfold smP; omega), a2.fr hW.2.1 hf (fun j => by unfold smP; omega) (fun j _ => by unfold smP; omega), hS, a4.fr hf (by unfold smP; omega) (fun j => by unfold smP; omega), ?_, ?_⟩, hf.mono (fun k j z => by unfold smP at z; unfold mP; omega)⟩
  · rw [hf 57 12 (by unfold smP; omega)]; exact a5
  · rw [hf 57 27 (by unfold smP; omega)]; exact a6
theorem SW_upd {sh : Sh} (h : SW sh) {i ln sz : Nat} {ce : Nat → Int32} (hl : ln ≤ 2) (hs : sz ≤ 40) : SW (updS sh i (ln, sz, ce)) := by
  intro j l s c e
  unfold updS at e
  by_cases q : j = i
  · rw [if_pos q] at e
    have e := Option.some.inj e
    have a1 : ln = l := congrArg Prod.fst e
    have a2 : sz = s := congrArg (fun z => z.2.1) e
    omega
  · rw [if_neg q] at e; exact h j l s c e
theorem pr_sheet {c : Ab} (hW : CW c) (v1 v2 v3 : Int32) : Pr mX6_sheet mX7_sheet [.int v1, .int v2, .int v3] c := by
  by_cases q : ((0 ≤ v1.toInt ∧ v1.toInt ≤ 3) ∧ (0 ≤ v2.toInt ∧ v2.toInt ≤ 2)) ∧ (v3 ≤ 40 ∧ 0 ≤ v3)
  · obtain ⟨i, hi, rfl⟩ := toNat_of (n := 4) q.1.1.1 (by omega)
    obtain ⟨ln, hl, rfl⟩ := toNat_of (n := 3) q.1.2.1 (by omega)
    obtain ⟨sz, hs, rfl⟩ := sz_in q.2.2 q.2.1
    exact ⟨1, (c.1, c.2.1, updS c.2.2.1 i (ln, sz, fun _ => 0), c.2.2.2), fun d S hd hC => zEv_to (ev_sheetC (by omega) hC.2.2.1 hW.2.2.1 i ln sz hi (by omega) hs) (fun S' k => hC.sheets k.1 k.2), fun d S hd hM => zEv_to (ev_sheetM (by omega) hM.2.2.1 hW.2.2.1 i ln sz hi (by omega) hs) (fun S' k => hM.sheets hW k.1 k.2), hW.1, hW.2.1, SW_upd hW.2.2.1 (by omega) hs, hW.2.2.2⟩
  · exact ⟨(shB v1 v2 v3), c, fun d S hd hC => zEv_xy (ev_sheetC0 (by omega) S v1 v2 v3 q) hC.same, fun d S hd hM => zEv_xy (ev_sheetM0 (by omega) S v1 v2 v3 q) hM.same, hW⟩
theorem pr_lay {c : Ab} (hW : CW c) (v1 v2 v3 : Int32) : Pr mX6_lay mX7_lay [.int v1, .int v2, .int v3] c := by
  by_cases q : (0 : Int) ≤ v1.toInt ∧ v1.toInt ≤ 3
  · obtain ⟨i, hi, rfl⟩ := toNat_of (n := 4) q.1 (by omega)
    by_cases q2 : layB c.2.2.1 i v2 = 1
    · unfold layB at q2
      cases e : c.2.2.1 i with
      | none => rw [e] at q2; simp only [] at q2; exact absurd q2 (by decide)
      | some x =>
        obtain ⟨ln, sz, ce⟩ := x
        rw [e] at q2
        simp only [] at q2
        have w := hW.2.2.1 i ln sz ce e
        by_cases q3 : 0 ≤ v2.toInt ∧ v2.toInt ≤ (sz : Int) - 1
        · obtain ⟨j, hj, rfl⟩ := toNat_of (n := sz) q3.1 (by omega)
          exact ⟨1, (c.1, c.2.1, updS c.2.2.1 i (ln, sz, updC ce j (nwB ln v3)), c.2.2.2), fun d S hd hC => zEv_to (ev_layC (by omega) hC.2.2.1 hW.2.2.1 hi e hj v3) (fun S' k => hC.sheets k.1 k.2), fun d S hd hM => zEv_to (ev_layM (by omega) hM.2.2.1 hW.2.2.1 hi e hj v3) (fun S' k => hM.sheets hW k.1 k.2), hW.1, hW.2.1, SW_upd hW.2.2.1 w.1 w.2, hW.2.2.2⟩
        · rw [if_neg q3] at q2; exact absurd q2 (by decide)
    · exact ⟨(layB c.2.2.1 i v2), c, fun d S hd hC => zEv_xy (ev_layC0 (by omega) hC.2.2.1 hW.2.2.1 i hi v2 v3 q2) hC.same, fun d S hd hM => zEv_xy (ev_layM0 (by omega) hM.2.2.1 hW.2.2.1 i hi v2 v3 q2) hM.same, hW⟩
  · exact ⟨(-1), c, fun d S hd hC => zEv_xy (ev_layCx (by omega) S v1 v2 v3 q) hC.same, fun d S hd hM => zEv_xy (ev_layMx (by omega) S v1 v2 v3 q) hM.same, hW⟩
theorem rdF_ok {L : Lnd} {sh : Sh} {i : Nat} {ln v : Int32} : ∀ (m k g : Nat) (ft : Int32) (ok : Bool), rdF L sh i ln v m k = (g, ft, ok) → (∀ t, t < k → okP L sh i v t) → ∀ t, t < g → okP L sh i v t
  | 0, k, g, ft, ok, e, h => by
    rw [rdF] at e
    obtain rfl : k = g := congrArg Prod.fst e
    exact h
  | m + 1, k, g, ft, ok, e, h => by
    rw [rdF] at e
    by_cases q : pfA sh i ln v k = 0
    · rw [if_pos q] at e
      by_cases o : okB L sh i v k = true
      · rw [if_pos o] at e
        exact rdF_ok m (k + 1) g ft ok e (fun t ht => by
          by_cases z : t = k
          · rw [z]; exact okB_p.mp o
          · exact h t (by omega))
      · rw [if_neg o] at e
        obtain rfl : k = g := congrArg Prod.fst e
        exact h
    · rw [if_neg q] at e
      obtain rfl : k = g := congrArg Prod.fst e
      exact h
theorem pr_read {c : Ab} (hW : CW c) (v1 v2 v3 v4 : Int32) : Pr mX6_read mX7_read [.int v1, .int v2, .int v3, .int v4] c := by
  by_cases q : ((0 : Int) ≤ v1.toInt ∧ v1.toInt ≤ 3) ∧ ((0 : Int) ≤ v2.toInt ∧ v2.toInt ≤ 2) ∧ ((0 : Int) ≤ v4.toInt ∧ v4.toInt ≤ 20)
  · obtain ⟨i, hi, rfl⟩ := toNat_of (n := 4) q.1.1 (by omega)
    obtain ⟨ln, hl, rfl⟩ := toNat_of (n := 3) q.2.1.1 (by omega)
    obtain ⟨n, hn, rfl⟩ := toNat_of (n := 21) q.2.2.1 (by omega)
    obtain ⟨g, ft, ok, er⟩ : ∃ g ft ok, rdF c.1 c.2.2.1 i (nI ln) v3 n 0 = (g, ft, ok) := ⟨_, _, _, rfl⟩
    have wo := rdF_ok n 0 g ft ok er (fun t ht => absurd ht (by omega))
    cases ok with
    | true =>
      refine ⟨(nI g), (mrL c.2.2.1 i v3 c.1 g, c.2.1, c.2.2.1, c.2.2.2.1, c.2.2.2.2.1, c.2.2.2.2.2.1, ft), fun d S hd hC => ?_, fun d S hd hM => ?_, mrL_WF hW.1 g wo, hW.2⟩
      · refine zEv_to (ev_readC (by omega) hC.1 hC.2.2.1 hW.2.2.1 hW.1 i ln n hi (by omega) (by omega) v3 g ft true er) (fun S' k => ?_)
        rw [if_pos rfl] at k
        obtain ⟨k1, k2, k3⟩ := k
        refine ⟨⟨k1, hC.2.1.fr k3 (fun k j q1 q2 => by unfold ldC; omega), hC.2.2.1.fr k3 (fun k j q1 q2 => by unfold ldC; omega), hC.2.2.2.1.fr k3 (by unfold ldC; omega) (fun j => by unfold ldC; omega), ?_, k2⟩, k3.mono (fun k j z => by unfold ldC at z; unfold cP; omega)⟩
        rw [k3 39 2 (by unfold ldC; omega)]; exact hC.2.2.2.2.1
      · refine zEv_to (ev_readM (by omega) hM.1 hM.2.2.1 hW.2.2.1 hW.1 i ln n hi (by omega) (by omega) v3 g ft true er) (fun S' k => ?_)
        obtain ⟨k1, k3⟩ := k
        rw [if_pos rfl] at k1
        refine ⟨⟨k1.1, hM.2.1.fr hW.2.1 k3 (fun j => by unfold rmQ rmP; omega) (fun j _ => by unfold rmQ rmP; omega), hM.2.2.1.fr k3 (fun k j q1 q2 => by unfold rmQ rmP; omega), hM.2.2.2.1.fr k3 (by unfold rmQ rmP; omega) (fun j => by unfold rmQ rmP; omega), ?_, k1.2⟩, k3.mono (fun k j z => by unfold rmQ rmP at z; unfold mP; omega)⟩
        rw [k3 57 12 (by unfold rmQ rmP; omega)]; exact hM.2.2.2.2.1
    | false =>
      refine ⟨(-20 - nI g), c, fun d S hd hC => ?_, fun d S hd hM => ?_, hW⟩
      · refine zEv_to (ev_readC (by omega) hC.1 hC.2.2.1 hW.2.2.1 hW.1 i ln n hi (by omega) (by omega) v3 g ft false er) (fun S' k => ?_)
        rw [if_neg (by decide)] at k
        rw [k]; exact hC.same
      · refine zEv_to (ev_readM (by omega) hM.1 hM.2.2.1 hW.2.2.1 hW.1 i ln n hi (by omega) (by omega) v3 g ft false er) (fun S' k => ?_)
        obtain ⟨k1, k3⟩ := k
        rw [if_neg (by decide)] at k1
        refine ⟨⟨k1.1, hM.2.1.fr hW.2.1 k3 (fun j => by unfold rmQ rmP; omega) (fun j _ => by unfold rmQ rmP; omega), hM.2.2.1.fr k3 (fun k j q1 q2 => by unfold rmQ rmP; omega), hM.2.2.2.1.fr k3 (by unfold rmQ rmP; omega) (fun j => by unfold rmQ rmP; omega), ?_, ?_⟩, k3.mono (fun k j z => by unfold rmQ rmP at z; unfold mP; omega)⟩
        · rw [k3 57 12 (by unfold rmQ rmP; omega)]; exact hM.2.2.2.2.1
        · rw [k1.2]; exact hM.2.2.2.2.2
  · refine ⟨(-1), c, fun d S hd hC => ?_, fun d S hd hM => ?_, hW⟩
    · obtain ⟨d, rfl⟩ : ∃ d', d = d' + 1 := ⟨d - 1, by omega⟩
      exact zEv.of cw_X6_read (Nat.le_of_ble_eq_true rfl) rfl (blk_X6_read_0 ⟨_, S, ev_within S _ 0 3, b01_if (fun _ => ⟨rfl, hC.same⟩) (fun q1 => ⟨_, S, ev_within S _ 0 2, b01_if (fun _ => ⟨rfl, hC.same⟩) (fun q2 => ⟨_, S, ev_within S _ 0 20, b01_if' (fun q3 => absurd ⟨q1, q2, q3⟩ q) (fun _ => ⟨rfl, hC.same⟩)⟩)⟩)⟩)
    · obtain ⟨d, rfl⟩ : ∃ d', d = d' + 1 := ⟨d - 1, by omega⟩
      exact zEv.of cw_X7_read (Nat.le_of_ble_eq_true rfl) rfl (blk_X7_read_0 ⟨_, S, ev_isSheet (by omega) S _ _, b01_if (fun _ => ⟨rfl, hM.same⟩) (fun q1 => ⟨_, S, ev_inI S _ 0 20 0 20 rfl rfl, b01_if' (fun q3 => absurd ⟨q1.1, q1.2, q3⟩ q) (fun _ => ⟨rfl, hM.same⟩)⟩)⟩)
/-! count -/
def ctA (c : Ab) : Int32 := match c.2.2.1 0 with
  | none => -4
  | some (_, sz, _) => nI sz
theorem pr_count {c : Ab} (hW : CW c) (v : Int32) : Pr mX6_count mX7_count [.int v] c := by
  have hn4 := hW.1.1.nB
  have hn6 := hW.1.1.nF
  refine ⟨(rl v (iv (c.1 0 10)) (kpR c.2.1 0 + kpR c.2.1 1) (nI c.2.2.2.1) (ctA c) (iv (sm_ (c.1 3) (nF c.1))) (iv (sm_ (c.1 5) (nB c.1))) (-1)), c, fun d S hd hC => ?_, fun d S hd hM => ?_, hW⟩
  · obtain ⟨d, rfl⟩ : ∃ d', d = d' + 1 := ⟨d - 1, by omega⟩
    have one : ∀ k, ¬ kpR c.2.1 k = 0 → kpR c.2.1 k = 1 := by intro k; unfold kpR; cases c.2.1 k <;> simp
    refine zEv.of cw_X6_count (Nat.le_of_ble_eq_true rfl) rfl (blk_X6_count_0 ?_)
    rw [hC.2.1.at (k := 0) (by omega), hC.2.1.at (k := 1) (by omega)]
    refine ⟨fun q => ?_, fun q => ⟨fun q1 => ⟨fun q2 => ?_, fun q2 => ?_⟩, fun q1 => ⟨fun q2 => ?_, fun q2 => ?_⟩⟩, fun q => ?_, fun q => ?_, fun q => ⟨_, S, ev_allBlight (by omega) zLd_1 hC.1 hW.1.1, ?_⟩, fun q => ⟨_, S, ev_allLoud (by omega) zLd_1 hC.1 hW.1.1, ?_⟩, fun q => ?_⟩
    · rw [rl_0 q, hC.1.g0 (by omega)]; exact ⟨rfl, hC.same⟩
    · rw [rl_1 q, q1, q2]; exact ⟨rfl, hC.same⟩
    · rw [rl_1 q, q1, one 1 q2]; exact ⟨rfl, hC.same⟩
    · rw [rl_1 q, one 0 q1, q2]; exact ⟨rfl, hC.same⟩
    · rw [rl_1 q, one 0 q1, one 1 q2]; exact ⟨rfl, hC.same⟩
    · rw [rl_2 q, hC.2.2.2.1.1]; exact ⟨rfl, hC.same⟩
    · rw [rl_3 q]
      unfold ctA
      cases e : c.2.2.1 0 with
      | none =>
        rw [(hC.2.2.1 0 (by omega)).1 e]
        exact ⟨fun z => absurd z (by decide), fun _ => ⟨rfl, hC.same⟩⟩
      | some x =>
        obtain ⟨l, sz, ce⟩ := x
        have w := hW.2.2.1 0 l sz ce e
        rw [((hC.2.2.1 0 (by omega)).2 l sz ce e).2.1]
        exact ⟨fun _ => ⟨rfl, hC.same⟩, fun z => absurd (nI_pos' (by omega)) z⟩
    · rw [rl_4 q]; exact ⟨rfl, hC.same⟩
    · rw [rl_5 q]; exact ⟨rfl, hC.same⟩
    · have : rl v (iv (c.1 0 10)) (kpR c.2.1 0 + kpR c.2.1 1) (nI c.2.2.2.1) (ctA c) (iv (sm_ (c.1 3) (nF c.1))) (iv (sm_ (c.1 5) (nB c.1))) (-1) = -1 := by
        by_cases z : v = 6
        · exact rl_6 z
        · refine rl_7 ?_
          by_cases z2 : v.toInt < 0
          · exact Or.inl z2
          · refine Or.inr ?_
            have : v.toInt ≠ 6 := fun y => z (Int32.toInt_inj.mp (by rw [y]; decide))
            omega
      rw [this]; exact ⟨rfl, hC.same⟩
  · obtain ⟨d, rfl⟩ : ∃ d', d = d' + 1 := ⟨d - 1, by omega⟩
    refine zEv.of cw_X7_count (Nat.le_of_ble_eq_true rfl) rfl (blk_X7_count_0 ⟨_, ev_starts hM.1 hW.1.1, fun S1 k1 => ?_⟩)
    have f1 : FrI nwP S S1 := k1.2.2.2.2.I st_nw
    have m1 : FrI modP S S1 := f1.mono nw_mod
    have M1 : MI S1 c := hM.land hW (hM.1.frI f1 nw_58) m1
    have s := M1.1.s
    have g27 : gI S1 58 27 = nI (nB c.1) := by rw [s.2.1, hn4.2, nI_iv]
    have R : MI S1 c ∧ FrI mP S S1 := ⟨M1, m1.mono mod_m⟩
    have key : ∀ (m j : Nat), j + m = nB c.1 → zSem (d + 1) mX7_count 8 [some (.ref 57), some (.int v), some (.int (iv (sm_ (c.1 5) j))), some (.int (nI j))] [] S1 (zY (some (.int (rl v (iv (c.1 0 10)) (kpR c.2.1 0 + kpR c.2.1 1) (nI c.2.2.2.1) (ctA c) (iv (sm_ (c.1 3) (nF c.1))) (iv (sm_ (c.1 5) (nB c.1))) (-1)))) (fun S' => MI S' c ∧ FrI mP S S')) := by
      intro m
      induction m with
      | zero =>
        intro j hj
        obtain rfl : j = nB c.1 := by omega
        refine blk_X7_count_8 ⟨fun _ => ⟨fun q => ?_, fun q => ?_, fun q => ?_, fun q => ?_, fun q => ⟨_, S1, ev_sumOf7 (by omega) k1.1 hW.1.1 2 (by omega), ?_⟩, fun q => ?_, fun q => ?_⟩, fun q => absurd (by rw [g27]; exact nI_le (by omega) (by omega)) q⟩
        · rw [rl_0 q, s.2.2.1]; exact ⟨rfl, R⟩
        · rw [rl_1 q]
          exact ⟨kpR c.2.1 0, S1, by rw [M1.2.1.at (k := 0) (by omega), kpR_b01]; exact ev_flag S1 _, kpR c.2.1 1, S1, by rw [M1.2.1.at (k := 1) (by omega), kpR_b01]; exact ev_flag S1 _, rfl, R⟩
        · rw [rl_2 q, M1.2.2.2.1.1]; exact ⟨rfl, R⟩
        · rw [rl_3 q]
          unfold ctA
          cases e : c.2.2.1 0 with
          | none =>
            rw [(M1.2.2.1 0 (by omega)).1 e]
            exact ⟨fun z => absurd rfl z, fun _ => ⟨rfl, R⟩⟩
          | some x =>
            obtain ⟨l, sz, ce⟩ := x
            have w := hW.2.2.1 0 l sz ce e
            have o := (M1.2.2.1 0 (by omega)).2 l sz ce e
            have n4 : ¬ nI l = -4 := by rcases (show l = 0 ∨ l = 1 ∨ l = 2 by omega) with rfl | rfl | rfl <;> decide
            rw [o.1, o.2.1]
            exact ⟨fun _ => ⟨rfl, R⟩, fun z => absurd z n4⟩
        · rw [rl_4 q]; exact ⟨rfl, R⟩
        · rw [rl_5 q]; exact ⟨rfl, R⟩
        · have : rl v (iv (c.1 0 10)) (kpR c.2.1 0 + kpR c.2.1 1) (nI c.2.2.2.1) (ctA c) (iv (sm_ (c.1 3) (nF c.1))) (iv (sm_ (c.1 5) (nB c.1))) (-1) = -1 := by
            by_cases z : v = 6
            · exact rl_6 z
            · refine rl_7 ?_
              by_cases z2 : v.toInt < 0
              · exact Or.inl z2
              · refine Or.inr ?_
                have : v.toInt ≠ 6 := fun y => z (Int32.toInt_inj.mp (by rw [y]; decide))
                omega
          rw [this]; exact ⟨rfl, R⟩
      | succ m ih =>
        intro j hj
        have hj2 : j < nB c.1 := by omega
        have h5 := k1.1 5 j (inR_b (r := 5) (by omega) hj2)
        rw [mpos_b (by omega)] at h5
        have z4 : zi S1 57 14 = -4 := by unfold zi; rw [k1.2.2.1]; decide
        have e5 := h5.2 (fun q => by rw [z4] at q; omega)
        refine blk_X7_count_8 ⟨fun q => absurd q (by rw [g27]; exact nI_ge (by omega) (by omega)), fun _ => ⟨_, S1, ev_ofBand S1 j 1 (by omega), ?_⟩⟩
        rw [show 19 + 2 * j + 1 = 19 + 2 * j + (5 - 4) from rfl, gI_zi, e5, iv_add, nI_1]
        exact ih (j + 1) (by omega)
    exact key (nB c.1) 0 (by omega)
