/-! read: the class's loops -/
theorem pf_ok {sh : Sh} {i : Nat} {ln v : Int32} {k : Nat} (h : pfA sh i ln v k = 0) : fltA sh i ln (v + 2 * nI k) = 0 ∧ fltA sh i ln (v + 2 * nI k + 1) = 0 := by
  unfold pfA at h
  by_cases q : fltA sh i ln (v + 2 * nI k) = 0
  · rw [if_pos q] at h; exact ⟨q, h⟩
  · rw [if_neg q] at h; exact absurd h q
def ldC : Nat → Nat → Prop := fun k _ => 1 ≤ k ∧ k ≤ 9
theorem SC.fr {S S' : ZSt} {sh : Sh} {P : Nat → Nat → Prop} (h : SC S sh) (hf : FrI P S S') (hp : ∀ k j, 54 ≤ k → k ≤ 56 → ¬ P k j) : SC S' sh := by
  intro i hi
  refine ⟨fun z => by rw [hf 56 i (hp _ _ (by omega) (by omega))]; exact (h i hi).1 z, fun l sz ce e => ?_⟩
  have o := (h i hi).2 l sz ce e
  rw [hf 55 i (hp _ _ (by omega) (by omega)), hf 56 i (hp _ _ (by omega) (by omega))]
  exact ⟨o.1, o.2.1, fun j hj => by rw [hf 54 _ (hp _ _ (by omega) (by omega))]; exact o.2.2 j hj⟩
theorem ev_readC {d : Nat} (hd : 9 ≤ d) {S : ZSt} {L : Lnd} {sh : Sh} (hC : HoC S 1 L) (hS : SC S sh) (hw : SW sh) (h : WFc L) (i ln n : Nat) (hi : i < 4) (hl : ln ≤ 2) (hn : n ≤ 20) (v : Int32) (g : Nat) (ft : Int32) (ok : Bool) (er : rdF L sh i (nI ln) v n 0 = (g, ft, ok)) : zEv d mX6_read [.ref 0, .int (nI i), .int (nI ln), .int v, .int (nI n)] S (zY (some (.int (if ok = true then nI g else -20 - nI g))) (fun S' => if ok = true then HoC S' 1 (mrL sh i v L g) ∧ gI S' 0 9 = ft ∧ FrI (fun k j => ldC k j ∨ (k = 0 ∧ j = 9)) S S' else S' = S)) := by
  obtain ⟨d, rfl, hd⟩ := dsucc hd
  have c1 : (0 : Int) ≤ (nI i).toInt ∧ (nI i).toInt ≤ 3 := by rw [nI_toInt (by omega)]; omega
  have c2 : (0 : Int) ≤ (nI ln).toInt ∧ (nI ln).toInt ≤ 2 := by rw [nI_toInt (by omega)]; omega
  have c3 : (0 : Int) ≤ (nI n).toInt ∧ (nI n).toInt ≤ 20 := by rw [nI_toInt (by omega)]; omega
  have hn4 := h.1.nB
  have hn6 := h.1.nF
  refine zEv.of cw_X6_read (Nat.le_of_ble_eq_true rfl) rfl (blk_X6_read_0 ⟨_, S, ev_within S _ 0 3, b01_if (fun q => absurd c1 q) (fun _ => ⟨_, S, ev_within S _ 0 2, b01_if (fun q => absurd c2 q) (fun _ => ⟨_, S, ev_within S _ 0 20, b01_if' (fun _ => ?_) (fun q => absurd c3 q)⟩)⟩)⟩)
  -- the marches
  have fin : ∀ (g : Nat) (ft : Int32), g ≤ 20 → (∀ t, t < g → okP L sh i v t ∧ pfA sh i (nI ln) v t = 0) → zSem (d + 1) mX6_read 136 [some (.ref 0), some (.int (nI i)), none, some (.int v), none, some (.int (nI g)), some (.int ft), some (.int 0)] [] S (zY (some (.int (nI g))) (fun S' => HoC S' 1 (mrL sh i v L g) ∧ gI S' 0 9 = ft ∧ FrI (fun k j => ldC k j ∨ (k = 0 ∧ j = 9)) S S')) := by
    intro g ft hg ho
    have key : ∀ (m t : Nat) (S1 : ZSt), t + m = g → HoC S1 1 (mrL sh i v L t) → FrI ldC S S1 → zSem (d + 1) mX6_read 136 [some (.ref 0), some (.int (nI i)), none, some (.int v), none, some (.int (nI g)), some (.int ft), some (.int (nI t))] [] S1 (zY (some (.int (nI g))) (fun S' => HoC S' 1 (mrL sh i v L g) ∧ gI S' 0 9 = ft ∧ FrI (fun k j => ldC k j ∨ (k = 0 ∧ j = 9)) S S')) := by
      intro m
      induction m with
      | zero =>
        intro t S1 ht C1 F1
        obtain rfl : t = g := by omega
        refine blk_X6_read_136 ⟨fun q => ⟨rfl, ?_, ?_, ?_⟩, fun q => absurd (nI_le (by omega) (by omega)) q⟩
        · exact C1.frB (P := fun k _ => k = 0) ((FrI.rf _ S1).pI _ rfl) (fun r j q => by omega)
        · rw [gI_pI, if_pos ⟨rfl, rfl⟩]
        · exact (F1.mono (fun k j q => Or.inl q)).pI _ (Or.inr ⟨rfl, rfl⟩)
      | succ m ih =>
        intro t S1 htm C1 F1
        obtain ⟨ok, pf⟩ := ho t (by omega)
        have pf2 := pf_ok pf
        have S1c : SC S1 sh := hS.fr F1 (fun k j q1 q2 => by unfold ldC; omega)
        have W1 := mrL_WF h t (fun t' ht' => (ho t' (by omega)).1)
        have n1 := mrL_n (sh := sh) (i := i) (v := v) (L := L) t
        have ok' := ok
        unfold okP at ok'
        obtain ⟨b, hb, eb⟩ := toNat_of (n := nB L) ok'.1.1 (by omega)
        obtain ⟨f, hf, ef⟩ := toNat_of (n := nF L) ok'.2.1 (by omega)
        refine blk_X6_read_136 ⟨fun q => absurd q (nI_ge (by omega) (by omega)), fun q => ⟨_, S1, ev_get S1c hw i hi pf2.1, _, S1, ev_get S1c hw i hi pf2.2, ?_⟩⟩
        rw [eb, ef]
        refine ⟨_, _, ev_marchC (by omega) C1 W1 b f (by rw [n1.2.1]; exact hb) (by rw [n1.1]; exact hf), fun S4 k4 => ?_⟩
        rw [nI_1]
        refine ih (t + 1) S4 (by omega) ?_ (F1.tr (k4.2.mono (fun k j q => q)))
        rw [mrL, eb, ef, nI_toInt (by omega), nI_toInt (by omega), Int.toNat_natCast]
        exact k4.1
    exact key g 0 S (by omega) hC (FrI.rf _ _)
  have key : ∀ (m k : Nat), k + m = n → rdF L sh i (nI ln) v m k = (g, ft, ok) → (∀ t, t < k → okP L sh i v t ∧ pfA sh i (nI ln) v t = 0) → zSem (d + 1) mX6_read 40 [some (.ref 0), some (.int (nI i)), some (.int (nI ln)), some (.int v), some (.int (nI n)), some (.int (nI k)), some (.int 0), some (.int (nI k))] [] S (zY (some (.int (if ok = true then nI g else -20 - nI g))) (fun S' => if ok = true then HoC S' 1 (mrL sh i v L g) ∧ gI S' 0 9 = ft ∧ FrI (fun k j => ldC k j ∨ (k = 0 ∧ j = 9)) S S' else S' = S)) := by
    intro m
    induction m with
    | zero =>
      intro k hk e ho
      rw [rdF] at e
      obtain ⟨e1, e2, e3⟩ : k = g ∧ (0 : Int32) = ft ∧ true = ok := ⟨congrArg Prod.fst e, congrArg (fun z => z.2.1) e, congrArg (fun z => z.2.2) e⟩
      subst e1 e2 e3
      simp only [if_true]
      refine blk_X6_read_40 ⟨fun q => fin k 0 (by omega) ho, fun q => absurd (nI_le (by omega) (by omega)) q⟩
    | succ m ih =>
      intro k hkm e ho
      rw [rdF] at e
      refine blk_X6_read_40 ⟨fun q => absurd q (nI_ge (by omega) (by omega)), fun q => ⟨fun z => absurd rfl z, fun _ => ⟨_, S, ev_pairFault (by omega) hS hw i hi (nI ln) v k, fun q2 => ?_, fun q2 => ?_⟩⟩⟩
      · rw [if_neg q2] at e
        obtain ⟨e1, e2, e3⟩ : k = g ∧ pfA sh i (nI ln) v k = ft ∧ true = ok := ⟨congrArg Prod.fst e, congrArg (fun z => z.2.1) e, congrArg (fun z => z.2.2) e⟩
        subst e1 e2 e3
        simp only [if_true]
        exact blk_X6_read_40 ⟨fun _ => fin k _ (by omega) ho, fun _ => ⟨fun _ => fin k _ (by omega) ho, fun z => absurd z q2⟩⟩
      · rw [if_pos q2] at e
        have pf2 := pf_ok q2
        refine ⟨_, S, ev_get hS hw i hi pf2.1, _, S, ev_isBand (by omega) hC h.1 _, b01_if (fun q3 => ?_) (fun q3 => ⟨_, S, ev_get hS hw i hi pf2.2, _, S, ev_isField (by omega) hC h.1 _, b01_if' (fun q4 => ?_) (fun q4 => ?_)⟩)⟩
        · rw [if_neg (fun z => q3 (okB_p.mp z).1)] at e
          obtain ⟨e1, e2, e3⟩ : k = g ∧ (0 : Int32) = ft ∧ false = ok := ⟨congrArg Prod.fst e, congrArg (fun z => z.2.1) e, congrArg (fun z => z.2.2) e⟩
          subst e1 e2 e3
          exact ⟨rfl, rfl⟩
        · have o : okP L sh i v k := ⟨q3, q4⟩
          rw [if_pos (okB_p.mpr o)] at e
          rw [nI_1, q2]
          exact ih (k + 1) (by omega) e (fun t ht => by
            by_cases q5 : t = k
            · rw [q5]; exact ⟨o, q2⟩
            · exact ho t (by omega))
        · rw [if_neg (fun z => q4 (okB_p.mp z).2)] at e
          obtain ⟨e1, e2, e3⟩ : k = g ∧ (0 : Int32) = ft ∧ false = ok := ⟨congrArg Prod.fst e, congrArg (fun z => z.2.1) e, congrArg (fun z => z.2.2) e⟩
          subst e1 e2 e3
          exact ⟨rfl, rfl⟩
  exact key n 0 (by omega) er (fun t ht => absurd ht (by omega))
