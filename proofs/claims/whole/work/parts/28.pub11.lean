/-! rule, drift -/
theorem and_small (a : Int32) : ∃ t : Nat, t ≤ 32767 ∧ a &&& 32767 = nI t := by
  refine ⟨(a &&& 32767).toBitVec.toNat, ?_, ?_⟩
  · rw [Int32.toBitVec_and, BitVec.toNat_and]
    exact Nat.and_le_right
  · apply Int32.toBitVec_inj.mp
    apply BitVec.eq_of_toNat_eq
    show _ = ((Int32.ofNat ((a &&& 32767).toBitVec.toNat)).toBitVec).toNat
    rw [Int32.toBitVec_ofNat', BitVec.toNat_ofNat, Nat.mod_eq_of_lt (BitVec.isLt _)]
theorem shr_small (a : Int32) : ((a.toUInt32 >>> (((16 : Int32)).toUInt32 &&& Int32.toUInt32 31)).toInt32 &&& 32767) = ((a >>> ((16 : Int32) &&& 31)) &&& 32767) := by
  apply Int32.toBitVec_inj.mp
  rw [Int32.toBitVec_and, Int32.toBitVec_and]
  apply BitVec.eq_of_getLsbD_eq
  intro i hi
  rw [BitVec.getLsbD_and, BitVec.getLsbD_and]
  by_cases q : i < 15
  · congr 1
    show ((a.toBitVec) >>> (16 : Nat)).getLsbD i = (a.toBitVec.sshiftRight 16).getLsbD i
    rw [BitVec.getLsbD_ushiftRight, BitVec.getLsbD_sshiftRight]
    simp [show ¬ 32 ≤ i by omega, show 16 + i < 32 by omega]
  · have : ∀ j : Fin 32, ¬ j.val < 15 → (Int32.toBitVec 32767).getLsbD j.val = false := by decide
    rw [this ⟨i, hi⟩ q, Bool.and_false, Bool.and_false]
def drN (v : Int32) : Int32 := v * 1103515245 + 12345
def drT (v : Int32) : Nat := (((drN v) >>> ((16 : Int32) &&& 31)) &&& 32767).toInt.toNat
theorem drT_eq (v : Int32) : drT v ≤ 32767 ∧ ((drN v) >>> ((16 : Int32) &&& 31)) &&& 32767 = nI (drT v) := by
  obtain ⟨t, ht, e⟩ := and_small ((drN v) >>> ((16 : Int32) &&& 31))
  have : drT v = t := by unfold drT; rw [e, nI_toInt (by omega)]; omega
  rw [this]; exact ⟨ht, e⟩
def drL (L : Lnd) (v : Int32) : Lnd := wk (updL L 4 (drT v % nB L) ((drT v / 8 % nF L : Nat) : Int))
def drF : Nat → Int32 → Lnd → Lnd
  | 0, _, L => L
  | k + 1, v, L => drF k (drN v) (drL L v)
theorem nI_rem {a b : Nat} (ha : a ≤ 32767) (hb : 0 < b ∧ b < 1000) : nI a - nI a / nI b * nI b = nI (a % b) := by
  rw [nI_iv a, nI_iv b, iv_rem (by omega) (by omega), ← Int.natCast_emod, ← nI_iv]
theorem nI_div8 {a : Nat} (ha : a ≤ 32767) : nI a / 8 = nI (a / 8) := by
  rw [nI_iv a, show (8 : Int32) = iv 8 from rfl, iv_div (by omega) (by omega), show (a : Int) / 8 = ((a / 8 : Nat) : Int) from by omega, ← nI_iv]
theorem pub_drift {L : Lnd} (h : WFc L) (v1 v2 v3 : Int32) : Both mX6_drift mX7_drift [.int v1, .int v2, .int v3] L := by
  have hn4 := h.1.nB
  have hn6 := h.1.nF
  by_cases c : ((1 : Int) ≤ v2.toInt ∧ v2.toInt ≤ 60) ∧ ((0 : Int) ≤ v3.toInt ∧ v3.toInt ≤ 1)
  · obtain ⟨n, hn, rfl⟩ := toNat_of (v := v2) (n := 61) (by omega) (by omega)
    by_cases c0 : nB L = 0
    · refine ⟨-2, L, fun d S hd hC => ?_, fun d S hd hM => ?_, h⟩
      · obtain ⟨d, rfl, hd⟩ := dsucc hd
        have g9 : gI S 1 9 = 0 := by rw [hC.gnB h.1, c0]; rfl
        exact zEv.of cw_X6_drift (Nat.le_of_ble_eq_true rfl) rfl (blk_X6_drift_0 ⟨_, S, ev_within S _ 1 60, b01_if (fun q => absurd c.1 q) (fun _ => ⟨_, S, ev_within S v3 0 1, b01_if' (fun _ => ⟨fun _ => ⟨rfl, hC, FrI.rf _ _⟩, fun q => absurd g9 q⟩) (fun q => absurd c.2 q)⟩)⟩)
      · obtain ⟨d, rfl, hd⟩ := dsucc hd
        have g9 : gI S 58 27 = 0 := by rw [hM.s.2.1, hn4.2, c0]; rfl
        exact zEv.of cw_X7_drift (Nat.le_of_ble_eq_true rfl) rfl (blk_X7_drift_0 ⟨_, S, ev_inI S _ 1 60 1 60 rfl rfl, b01_if (fun q => absurd c.1 q) (fun _ => ⟨_, S, ev_isPart (by omega) S v3, b01_if' (fun _ => ⟨fun q => absurd g9 q, fun _ => ⟨rfl, hM, FrI.rf _ _⟩⟩) (fun q => absurd c.2 q)⟩)⟩)
    · have hF0 : 0 < nF L := by have := (h.1.b (b := 0) (by omega)).1; omega
      have hB0 : 0 < nB L := by omega
      have z4 : ¬ nI (nB L) = 0 := fun z => nI_ne (a := nB L) (b := 0) (by omega) (by omega) (by omega) (z.trans nI_0.symm)
      have z6 : ¬ nI (nF L) = 0 := fun z => nI_ne (a := nF L) (b := 0) (by omega) (by omega) (by omega) (z.trans nI_0.symm)
      refine ⟨if v3 = 0 then iv (sm_ (drF n v1 L 2) (nF (drF n v1 L))) else iv (drF n v1 L 0 12), L, fun d S hd hC => ?_, fun d S hd hM => ?_, h⟩
      · obtain ⟨d, rfl, hd⟩ := dsucc hd
        refine zEv.of cw_X6_drift (Nat.le_of_ble_eq_true rfl) rfl (blk_X6_drift_0 ⟨_, S, ev_within S _ 1 60, b01_if (fun q => absurd c.1 q) (fun _ => ⟨_, S, ev_within S v3 0 1, b01_if' (fun _ => ⟨fun q => absurd q (by rw [hC.gnB h.1]; exact z4), fun q => ⟨fun _ => ⟨_, ev_copyFrom (by omega) zLd_10 zLd_1 (by omega) hC h.1.n, fun S7 k7 => ?_⟩, fun q => absurd q (by rw [hC.gnF h.1]; exact z6)⟩⟩) (fun q => absurd c.2 q)⟩)⟩)
        have key : ∀ (m j : Nat) (v : Int32) (L1 : Lnd) (S1 : ZSt), j + m = n → HoC S1 10 L1 → WF L1 → nF L1 = nF L → nB L1 = nB L → L1 0 13 ≤ 999 + j → drF m v L1 = drF n v1 L → Fr (ldP 10) S S1 → zSem (d + 1) mX6_drift 61 [some (.ref 0), none, some (.int (nI n)), some (.int v3), some (.int v), some (.int (nI j)), none] [] S1 (zY (some (.int (if v3 = 0 then iv (sm_ (drF n v1 L 2) (nF (drF n v1 L))) else iv (drF n v1 L 0 12)))) (fun S' => HoC S' 1 L ∧ FrI clsP S S')) := by
          intro m
          induction m with
          | zero =>
            intro j v L1 S1 hj C1 W1 e1 e2 e3 e4 f1
            have C0 : HoC S1 1 L := hC.fr f1 (fun r j q => by unfold ldP; omega)
            rw [← e4]
            refine blk_X6_drift_61 ⟨fun q => ⟨fun q2 => ?_, fun q2 => ⟨_, S1, ev_allEars (by omega) zLd_10 C1 W1, ?_⟩⟩, fun q => absurd (nI_le (by omega) (by omega)) q⟩
            · rw [if_neg q2, C1.g0 (by omega)]; exact ⟨rfl, C0, f1.I ld10_cls⟩
            · rw [if_pos q2]; exact ⟨rfl, C0, f1.I ld10_cls⟩
          | succ m ih =>
            intro j v L1 S1 hj C1 W1 e1 e2 e3 e4 f1
            have C0 : HoC S1 1 L := hC.fr f1 (fun r j q => by unfold ldP; omega)
            have t := drT_eq v
            have tb : drT v % nB L < nB L := Nat.mod_lt _ hB0
            have tf : drT v / 8 % nF L < nF L := Nat.mod_lt _ hF0
            have ex : ((((v * 1103515245) + 12345)).toUInt32 >>> (((16 : Int32)).toUInt32 &&& Int32.toUInt32 31)).toInt32 &&& 32767 = nI (drT v) := (shr_small (drN v)).trans t.2
            refine blk_X6_drift_61 ⟨fun q => absurd q (nI_ge (by omega) (by omega)), fun q => ⟨by rw [C0.gnB h.1]; exact z4, by rw [C0.gnF h.1]; exact z6, ?_⟩⟩
            rw [C0.gnB h.1, C0.gnF h.1, ex, nI_div8 t.1, nI_rem t.1 (by omega), nI_rem (by omega) (by omega)]
            refine ⟨ix_in (by omega) (by omega), ?_⟩
            rw [ix_cl (by omega)]
            have n1 := W1.nF
            have P1 := C1.put 4 (drT v % nB L) (z := ((drT v / 8 % nF L : Nat) : Int)) (by unfold inB; omega) (by omega)
            rw [← nI_iv] at P1
            have W2 : WF (updL L1 4 (drT v % nB L) ((drT v / 8 % nF L : Nat) : Int)) := WF_put W1 (by omega) (by omega) (by omega) (by omega) (fun _ => by omega) (by omega) (by omega)
            obtain ⟨m1, m2, m3⟩ := nn_upd (L := L1) (r := 4) (j := drT v % nB L) (z := ((drT v / 8 % nF L : Nat) : Int)) (by omega)
            refine ⟨_, _, ev_passWeek (by omega) zLd_10 P1 W2 (by rw [updL_ne _ _ _ _ (by omega)]; omega), fun S4 k4 => ?_⟩
            rw [nI_1]
            refine ih (j + 1) (drN v) _ S4 (by omega) k4.1 (wk_WF W2) (by rw [wk_n.1, m1, e1]) (by rw [wk_n.2.1, m2, e2]) (by rw [wk_13, updL_ne _ _ _ _ (by omega)]; omega) ?_ ((f1.pI _ (by unfold ldP; omega)).tr k4.2)
            rw [← e4, drF, drL, e1, e2]
        exact key n 0 v1 L S7 (by omega) k7.1 h.1 rfl rfl (by have := h.2.2; omega) rfl k7.2
      · obtain ⟨d, rfl, hd⟩ := dsucc hd
        refine zEv.of cw_X7_drift (Nat.le_of_ble_eq_true rfl) rfl (blk_X7_drift_0 ⟨_, S, ev_inI S _ 1 60 1 60 rfl rfl, b01_if (fun q => absurd c.1 q) (fun _ => ⟨_, S, ev_isPart (by omega) S v3, b01_if' (fun _ => ⟨fun q => ⟨_, ev_starts hM h.1, fun S6 k6 => ?_⟩, fun q => absurd q (by rw [hM.s.2.1, hn4.2, ← nI_iv]; exact z4)⟩) (fun q => absurd c.2 q)⟩)⟩)
        have key : ∀ (m j : Nat) (v : Int32) (L1 : Lnd) (S1 : ZSt), j + m = n → HoN S1 L1 → gI S1 57 14 = -4 → WF L1 → nF L1 = nF L → nB L1 = nB L → L1 0 13 ≤ 999 + j → drF m v L1 = drF n v1 L → FrI nwP S S1 → zSem (d + 1) mX7_drift 44 [some (.ref 57), none, some (.int (nI n)), some (.int v3), some (.int v), some (.int (nI j)), none] [] S1 (zY (some (.int (if v3 = 0 then iv (sm_ (drF n v1 L 2) (nF (drF n v1 L))) else iv (drF n v1 L 0 12)))) (fun S' => HoM S' 58 0 L ∧ FrI modP S S')) := by
          intro m
          induction m with
          | zero =>
            intro j v L1 S1 hj N1 e0 W1 e1 e2 e3 e4 f1
            have M1 := hM.frI f1 nw_58
            rw [← e4]
            refine blk_X7_drift_44 ⟨fun q => ⟨fun q2 => ?_, fun q2 => ⟨_, S1, ev_sumOf7 (by omega) N1 W1 1 (by omega), ?_⟩⟩, fun q => absurd (nI_le (by omega) (by omega)) q⟩
            · rw [if_neg q2, N1.s.2.2.2.2.1]; exact ⟨rfl, M1, f1.mono nw_mod⟩
            · rw [if_pos q2]; exact ⟨rfl, M1, f1.mono nw_mod⟩
          | succ m ih =>
            intro j v L1 S1 hj N1 e0 W1 e1 e2 e3 e4 f1
            have M1 := hM.frI f1 nw_58
            have t := drT_eq v
            have tb : drT v % nB L < nB L := Nat.mod_lt _ hB0
            have tf : drT v / 8 % nF L < nF L := Nat.mod_lt _ hF0
            have ex : (((v * 1103515245) + 12345) >>> ((16 : Int32) &&& 31)) &&& 32767 = nI (drT v) := t.2
            have gB : gI S1 58 27 = nI (nB L) := by rw [M1.s.2.1, hn4.2, ← nI_iv]
            have gF : gI S1 58 18 = nI (nF L) := by rw [M1.s.1, hn6.2, ← nI_iv]
            refine blk_X7_drift_44 ⟨fun q => absurd q (nI_ge (by omega) (by omega)), fun q => ⟨by rw [gB]; exact z4, by rw [gF]; exact z6, ?_⟩⟩
            rw [gB, gF, ex, nI_div8 t.1, nI_rem t.1 (by omega), nI_rem (by omega) (by omega)]
            have n1 := W1.nF
            have W2 : WF (updL L1 4 (drT v % nB L) ((drT v / 8 % nF L : Nat) : Int)) := WF_put W1 (by omega) (by omega) (by omega) (by omega) (fun _ => by omega) (by omega) (by omega)
            obtain ⟨m1, m2, m3⟩ := nn_upd (L := L1) (r := 4) (j := drT v % nB L) (z := ((drT v / 8 % nF L : Nat) : Int)) (by omega)
            refine ⟨_, ev_bandBecomes S1 (drT v % nB L) 0 _ (by omega), fun S3 k3 => ?_⟩
            have a3 : HoN S3 (updL L1 4 (drT v % nB L) ((drT v / 8 % nF L : Nat) : Int)) := by
              have := N1.putq W1.n e0 (r := 4) (j := drT v % nB L) (nI (drT v / 8 % nF L)) (inR_b (by omega) (by rw [e2]; exact tb)) (by omega)
              rw [mpos_b (by omega), nI_toInt (by omega)] at this
              rw [k3]; exact this
            have f3 : FrI nwP S S3 := by rw [k3]; exact f1.pI _ (by unfold nwP; omega)
            have e03 : gI S3 57 14 = -4 := by rw [k3, gI_pI, if_neg (by omega)]; exact e0
            refine ⟨_, ev_weekGoes0 (by omega) a3 W2 (by rw [updL_ne _ _ _ _ (by omega)]; omega), fun S5 k5 => ?_⟩
            rw [nI_1]
            refine ih (j + 1) (drN v) _ S5 (by omega) k5.1 (by rw [k5.2.2.1 57 14 (by unfold mdP; omega)]; exact e03) (wk_WF W2) (by rw [wk_n.1, m1, e1]) (by rw [wk_n.2.1, m2, e2]) (by rw [wk_13, updL_ne _ _ _ _ (by omega)]; omega) ?_ (f3.tr (k5.2.2.I md_nw))
            rw [← e4, drF, drL, e1, e2]
        exact key n 0 v1 L S6 (by omega) k6.1 k6.2.2.1 h.1 rfl rfl (by have := h.2.2; omega) rfl (k6.2.2.2.2.I st_nw)
  · refine ⟨-1, L, fun d S hd hC => ?_, fun d S hd hM => ?_, h⟩
    · obtain ⟨d, rfl, hd⟩ := dsucc hd
      exact zEv.of cw_X6_drift (Nat.le_of_ble_eq_true rfl) rfl (blk_X6_drift_0 ⟨_, S, ev_within S _ 1 60, b01_if (fun _ => ⟨rfl, hC, FrI.rf _ _⟩) (fun q => ⟨_, S, ev_within S v3 0 1, b01_if' (fun q2 => absurd ⟨q, q2⟩ c) (fun _ => ⟨rfl, hC, FrI.rf _ _⟩)⟩)⟩)
    · obtain ⟨d, rfl, hd⟩ := dsucc hd
      exact zEv.of cw_X7_drift (Nat.le_of_ble_eq_true rfl) rfl (blk_X7_drift_0 ⟨_, S, ev_inI S _ 1 60 1 60 rfl rfl, b01_if (fun _ => ⟨rfl, hM, FrI.rf _ _⟩) (fun q => ⟨_, S, ev_isPart (by omega) S v3, b01_if' (fun q2 => absurd ⟨q, q2⟩ c) (fun _ => ⟨rfl, hM, FrI.rf _ _⟩)⟩)⟩)
def bt (k : Nat) : Int32 := (1 : Int32) <<< (nI k &&& 31)
def orS (s : Nat → Bool) : Nat → Int32
  | 0 => 0
  | n + 1 => if s n = true then orS s n ||| bt n else orS s n
theorem orS_congr {s s' : Nat → Bool} : ∀ n, (∀ j, j < n → s' j = s j) → orS s' n = orS s n
  | 0, _ => rfl
  | n + 1, h => by rw [orS, orS, orS_congr n (fun j hj => h j (by omega)), h n (by omega)]
theorem orS_add {s s' : Nat → Bool} {k : Nat} (hs : s' k = true) (hne : ∀ j, j ≠ k → s' j = s j) : ∀ n, k < n → orS s n ||| bt k = orS s' n
  | 0, h => absurd h (by omega)
  | n + 1, h => by
    rw [orS, orS]
    by_cases q : k = n
    · subst q
      rw [if_pos hs, orS_congr k (fun j hj => hne j (by omega))]
      split
      · rw [Int32.or_assoc, Int32.or_self]
      · rfl
    · rw [hne n (fun z => q z.symm), ← orS_add hs hne n (by omega)]
      split
      · rw [Int32.or_assoc, Int32.or_comm (bt n), ← Int32.or_assoc]
      · rfl
theorem orS_0 {s : Nat → Bool} : ∀ n, (∀ j, j < n → s j = false) → orS s n = 0
  | 0, _ => rfl
  | n + 1, h => by rw [orS, h n (by omega), if_neg (by decide)]; exact orS_0 n (fun j hj => h j (by omega))
def hrB (L : Lnd) (m f : Nat) : Bool := decide (0 < hd L f m)
theorem ev_hearingFields {d : Nat} {B : Nat} (hB : zLd B) {S : ZSt} {L : Lnd} (h : HoC S B L) (hW : WFc L) : zEv d mX2_hearingFields [.ref B] S (zX (some (.int (orS (hrB L (nB L)) (nF L)))) S) := by
  have hn4 := hW.1.nB.1
  have hn6 := hW.1.nF
  have gb := h.gnB hW.1
  refine zEv.of cw_X2_hearingFields (Nat.le_of_ble_eq_true rfl) rfl (blk_X2_hearingFields_0 hB ?_)
  have key : ∀ (m j : Nat), j + m = nB L → zSem d mX2_hearingFields 4 [some (.ref B), some (.int (orS (hrB L j) (nF L))), some (.int (nI j))] [] S (zX (some (.int (orS (hrB L (nB L)) (nF L)))) S) := by
    intro m
    induction m with
    | zero =>
      intro j hj
      obtain rfl : j = nB L := by omega
      exact blk_X2_hearingFields_4 hB ⟨fun q => ⟨rfl, rfl⟩, fun q => absurd (by rw [gb]; exact nI_le (by omega) (by omega)) q⟩
    | succ m ih =>
      intro j hj
      have hj2 : j < nB L := by omega
      have g4 := h.g (inR_b (r := 4) (by omega) hj2)
      have w := hW.1.b hj2
      have w5 := hW.2.1 j hj2
      obtain ⟨g, hg, eg⟩ : ∃ g : Nat, g < nF L ∧ L 4 j = (g : Int) := ⟨(L 4 j).toNat, by omega, by omega⟩
      refine blk_X2_hearingFields_4 hB ⟨fun q => absurd q (by rw [gb]; exact nI_ge (by omega) (by omega)), fun q => ⟨ix_in (by omega) (by omega), ?_⟩⟩
      rw [ix_cl (by omega), nI_1, g4, eg, ← nI_iv]
      have := orS_add (s := hrB L j) (s' := hrB L (j + 1)) (k := g) (by
        unfold hrB; rw [hd, if_pos eg]
        have := hd_in hW.1 (g : Int) j (by omega)
        exact decide_eq_true (by omega)) (fun i hi => by
        unfold hrB; rw [hd, if_neg (by omega), Int.add_zero]) (nF L) hg
      unfold bt at this
      rw [this]
      exact ih (j + 1) (by omega)
  have := key (nB L) 0 (by omega)
  rw [orS_0 (s := hrB L 0) (nF L) (fun j _ => rfl)] at this
  exact this
def rl (v a b c d e f g : Int32) : Int32 := if v = 0 then a else if v = 1 then b else if v = 2 then c else if v = 3 then d else if v = 4 then e else if v = 5 then f else if v = 6 then g else -1
theorem rl_0 {v a b c d e f g : Int32} (h : v = 0) : rl v a b c d e f g = a := if_pos h
theorem rl_1 {v a b c d e f g : Int32} (h : v = 1) : rl v a b c d e f g = b := by subst h; rfl
theorem rl_2 {v a b c d e f g : Int32} (h : v = 2) : rl v a b c d e f g = c := by subst h; rfl
theorem rl_3 {v a b c d e f g : Int32} (h : v = 3) : rl v a b c d e f g = d := by subst h; rfl
theorem rl_4 {v a b c d e f g : Int32} (h : v = 4) : rl v a b c d e f g = e := by subst h; rfl
theorem rl_5 {v a b c d e f g : Int32} (h : v = 5) : rl v a b c d e f g = f := by subst h; rfl
theorem rl_6 {v a b c d e f g : Int32} (h : v = 6) : rl v a b c d e f g = g := by subst h; rfl
theorem rl_7 {v a b c d e f g : Int32} (h : v.toInt < 0 ∨ 6 < v.toInt) : rl v a b c d e f g = -1 := by
  have z0 : Int32.toInt 0 = 0 := by decide
  have z1 : Int32.toInt 1 = 1 := by decide
  have z2 : Int32.toInt 2 = 2 := by decide
  have z3 : Int32.toInt 3 = 3 := by decide
  have z4 : Int32.toInt 4 = 4 := by decide
  have z5 : Int32.toInt 5 = 5 := by decide
  have z6 : Int32.toInt 6 = 6 := by decide
  unfold rl
  rw [if_neg (fun q => by rw [q, z0] at h; omega), if_neg (fun q => by rw [q, z1] at h; omega), if_neg (fun q => by rw [q, z2] at h; omega), if_neg (fun q => by rw [q, z3] at h; omega), if_neg (fun q => by rw [q, z4] at h; omega), if_neg (fun q => by rw [q, z5] at h; omega), if_neg (fun q => by rw [q, z6] at h; omega)]
theorem pub_rule {L : Lnd} (h : WFc L) (v : Int32) : Both mX6_rule mX7_rule [.int v] L := by
  have hn4 := h.1.nB
  have hn6 := h.1.nF
  refine ⟨rl v (iv (L 0 8)) (iv (L 0 9)) (iv (L 0 13)) (iv (L 0 12)) (iv (sm_ (L 2) (nF L))) (iv (L 0 11)) (orS (hrB L (nB L)) (nF L)), L, fun d S hd hC => ?_, fun d S hd hM => ?_, h⟩
  · obtain ⟨d, rfl, hd⟩ := dsucc hd
    refine zEv.of cw_X6_rule (Nat.le_of_ble_eq_true rfl) rfl (blk_X6_rule_0 ⟨fun q => ?_, fun q => ?_, fun q => ?_, fun q => ?_, fun q => ⟨_, S, ev_allEars (by omega) zLd_1 hC h.1, ?_⟩, fun q => ?_, fun q => ⟨_, S, ev_hearingFields zLd_1 hC h, ?_⟩, fun q => ?_⟩)
    · rw [rl_0 q, hC.g0 (by omega)]; exact ⟨rfl, hC, FrI.rf _ _⟩
    · rw [rl_1 q, hC.g0 (by omega)]; exact ⟨rfl, hC, FrI.rf _ _⟩
    · rw [rl_2 q, hC.g0 (by omega)]; exact ⟨rfl, hC, FrI.rf _ _⟩
    · rw [rl_3 q, hC.g0 (by omega)]; exact ⟨rfl, hC, FrI.rf _ _⟩
    · rw [rl_4 q]; exact ⟨rfl, hC, FrI.rf _ _⟩
    · rw [rl_5 q, hC.g0 (by omega)]; exact ⟨rfl, hC, FrI.rf _ _⟩
    · rw [rl_6 q]; exact ⟨rfl, hC, FrI.rf _ _⟩
    · rw [rl_7 q]; exact ⟨rfl, hC, FrI.rf _ _⟩
  · obtain ⟨d, rfl, hd⟩ := dsucc hd
    refine zEv.of cw_X7_rule (Nat.le_of_ble_eq_true rfl) rfl (blk_X7_rule_0 ⟨_, ev_starts hM h.1, fun S1 k1 => ?_⟩)
    have f1 : FrI nwP S S1 := k1.2.2.2.2.I st_nw
    have M1 : HoM S1 58 0 L := hM.frI f1 nw_58
    have m1 : FrI modP S S1 := f1.mono nw_mod
    have gf : gI S1 58 18 = nI (nF L) := by rw [M1.s.1, hn6.2, nI_iv]
    have s := M1.s
    have key : ∀ (m j : Nat), j + m = nF L → zSem (d + 1) mX7_rule 8 [some (.ref 57), some (.int v), some (.int (orS (hrB L (nB L)) j)), some (.int (nI j))] [] S1 (zY (some (.int (rl v (iv (L 0 8)) (iv (L 0 9)) (iv (L 0 13)) (iv (L 0 12)) (iv (sm_ (L 2) (nF L))) (iv (L 0 11)) (orS (hrB L (nB L)) (nF L))))) (fun S' => HoM S' 58 0 L ∧ FrI modP S S')) := by
      intro m
      induction m with
      | zero =>
        intro j hj
        obtain rfl : j = nF L := by omega
        refine blk_X7_rule_8 ⟨fun q => ⟨fun q => ?_, fun q => ?_, fun q => ?_, fun q => ?_, fun q => ⟨_, S1, ev_sumOf7 (by omega) k1.1 h.1 1 (by omega), ?_⟩, fun q => ?_, fun q => ?_, fun q => ?_⟩, fun q => absurd (by rw [gf]; exact nI_le (by omega) (by omega)) q⟩
        · rw [rl_0 q, s.1]; exact ⟨rfl, M1, m1⟩
        · rw [rl_1 q, s.2.1]; exact ⟨rfl, M1, m1⟩
        · rw [rl_2 q, s.2.2.2.2.2]; exact ⟨rfl, M1, m1⟩
        · rw [rl_3 q, s.2.2.2.2.1]; exact ⟨rfl, M1, m1⟩
        · rw [rl_4 q]; exact ⟨rfl, M1, m1⟩
        · rw [rl_5 q, s.2.2.2.1]; exact ⟨rfl, M1, m1⟩
        · rw [rl_6 q]; exact ⟨rfl, M1, m1⟩
        · rw [rl_7 q]; exact ⟨rfl, M1, m1⟩
      | succ m ih =>
        intro j hj
        have hj2 : j < nF L := by omega
        have nx := ih (j + 1) (by omega)
        have w := hdL_in h.1 j
        rw [orS] at nx
        have e : iv (hdL L j) ≤ 0 ↔ hdL L j ≤ 0 := by rw [k0]; exact iv_le (by unfold inB; omega) (by unfold inB; omega)
        refine blk_X7_rule_8 ⟨fun q => absurd q (by rw [gf]; exact nI_ge (by omega) (by omega)), fun q => ⟨_, S1, ev_heardAt7N (by omega) k1.1 h.1 j (by omega), fun q2 => ⟨_, S1, ev_flag S1 False, ?_⟩, fun q2 => ⟨_, S1, ev_flag S1 True, ?_⟩⟩⟩
        · rw [if_neg (by unfold hrB; rw [decide_eq_true_iff]; have := e.mp q2; unfold hdL at this; omega)] at nx
          rw [nI_1, show b01 False = 0 from rfl, Int32.zero_shiftLeft, Int32.or_zero]; exact nx
        · rw [if_pos (by unfold hrB; rw [decide_eq_true_iff]; have : ¬ hdL L j ≤ 0 := fun z => q2 (e.mpr z); unfold hdL at this; omega)] at nx
          rw [nI_1]; exact nx
    exact key (nF L) 0 (by omega)
