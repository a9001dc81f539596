/-! luck, mean -/
theorem ten8 {n : Nat} (h : n ≤ 8) : 0 < 10 ^ n ∧ 10 ^ n ≤ 100000000 := ⟨Nat.pow_pos (by omega), Nat.pow_le_pow_right (n := 10) (by omega) h⟩
theorem fulN_lt {L : Lnd} {f v n : Nat} {w : Int} (hv : v ≤ 10) (hn : n ≤ 8) : fulN L f v n w < 2 ^ 63 := by
  have t := ten8 hn
  have p := p2_le8 hn
  have := sN_le (g := fun j => if (wyL L f j n).1 < w then 0 else wtN v (Nat.testBit j) n) (b := 100000000) (2 ^ n) (fun j _ => by
    show (if (wyL L f j n).1 < w then 0 else wtN v (Nat.testBit j) n) ≤ 100000000
    have := wtN_in hv (t := Nat.testBit j) n
    split <;> omega)
  have q : 2 ^ n * 100000000 ≤ 256 * 100000000 := Nat.mul_le_mul_right _ p
  unfold fulN
  omega
theorem eaT_lt {L : Lnd} (hW : WF L) {v n : Nat} (hv : v ≤ 10) (hn : n ≤ 8) : sN (eaT L v n) (2 ^ n) < 2 ^ 63 := by
  have t := ten8 hn
  have p := p2_le8 hn
  have hn6 := hW.nF.1
  have := sN_le (g := eaT L v n) (b := 100000000 * 594) (2 ^ n) (fun j _ => by
    have a := wtN_in hv (t := Nat.testBit j) n
    have b : sN (fun f => (wyL L f j n).1.toNat) (nF L) ≤ nF L * 99 := sN_le _ (fun f hf => by have := (wyL_in hW hf j n).1; omega)
    have b2 : nF L * 99 ≤ 6 * 99 := Nat.mul_le_mul_right 99 hn6
    unfold eaT
    exact Nat.mul_le_mul (by omega) (by omega))
  have q : 2 ^ n * (100000000 * 594) ≤ 256 * (100000000 * 594) := Nat.mul_le_mul_right _ p
  omega
theorem hl_cls : ∀ k j, hlP k j → clsP k j := fun k j h => by unfold hlP at h; unfold clsP; omega
theorem pr_luck {c : Ab} (hW : CW c) (v1 v2 v3 v4 v5 : Int32) : PrJ mX6_luck mX7_luck [.int v1, .int v2, .int v3, .int v4, .int v5] c := by
  have hn6 := hW.1.1.nF
  by_cases q : ((0 : Int) ≤ v1.toInt ∧ v1.toInt ≤ 10) ∧ (0 ≤ v2.toInt ∧ v2.toInt ≤ c.1 0 8 - 1) ∧ ((0 : Int) ≤ v3.toInt ∧ v3.toInt ≤ 8) ∧ ((0 : Int) ≤ v4.toInt ∧ v4.toInt ≤ 99) ∧ ((0 : Int) ≤ v5.toInt ∧ v5.toInt ≤ 1)
  · obtain ⟨v, hv, rfl⟩ := toNat_of (n := 11) q.1.1 (by omega)
    obtain ⟨f, hf, rfl⟩ := toNat_of (n := nF c.1) q.2.1.1 (by omega)
    obtain ⟨n, hn, rfl⟩ := toNat_of (n := 9) q.2.2.1.1 (by omega)
    obtain ⟨w, ew, hw⟩ : ∃ w, v4 = iv w ∧ inB w := ⟨v4.toInt, (iv_of _).symm, toInt_inB _⟩
    have t := ten8 (n := n) (by omega)
    have b63 : 10 ^ n < 2 ^ 63 := by omega
    refine ⟨(ltA (fulN c.1 f v n w) (10 ^ n) v5), c, fun d S hd hC => ?_, fun d S hd hM => ?_, hW⟩
    · obtain ⟨d, rfl⟩ : ∃ d', d = d' + 4 := ⟨d - 4, by omega⟩
      refine zEv.of cw_X6_luck (Nat.le_of_ble_eq_true rfl) rfl (blk_X6_luck_0 ⟨_, S, ev_within S _ 0 10, b01_if (fun z => absurd q.1 z) (fun _ => ⟨_, S, ev_isField (by omega) hC.1 hW.1.1 _, b01_if (fun z => absurd q.2.1 z) (fun _ => ⟨_, S, ev_within S _ 0 8, b01_if (fun z => absurd q.2.2.1 z) (fun _ => ⟨_, S, ev_within S _ 0 99, b01_if (fun z => absurd q.2.2.2.1 z) (fun _ => ⟨_, S, ev_within S _ 0 1, b01_if' (fun _ => ⟨_, ev_fallOn hC.1 hW.1.1 f n v hf (by omega) (by omega), fun S11 k => ?_⟩) (fun z => absurd q.2.2.2.2 z)⟩)⟩)⟩)⟩)⟩)
      rw [ew]
      exact ⟨_, S11, ev_weightOf hW.1.1 hf (by omega) k.1 w hw, _, S11, ev_tenToThe S11 n (by omega), _, S11, ev_lowestTerms S11 _ _ _ (fulN_lt (by omega) (by omega)) t.1 b63, rfl, hC.land (hC.1.frB k.2 (fun r j z => by unfold hlP; omega)) (k.2.mono hl_cls), (k.2.mono hl_cls).mono cls_c⟩
    · obtain ⟨d, rfl⟩ : ∃ d', d = d' + 7 := ⟨d - 7, by omega⟩
      have ev := fun T (hT : HoM T 58 0 c.1) => ev_findOdds (d := d) hT hW.1 v n (by omega) (by omega) (nI f) w hw (fun j => if (wyL c.1 f j n).1 < w then 0 else wtN v (Nat.testBit j) n) (Or.inr ⟨f, hf, rfl, fun j => rfl⟩)
      refine zEv.of cw_X7_luck (Nat.le_of_ble_eq_true rfl) rfl (blk_X7_luck_0 ⟨_, S, ev_inI S _ 0 10 0 10 rfl rfl, b01_if (fun z => absurd q.1 z) (fun _ => ⟨_, S, ev_isField7 (by omega) hM.1 hW.1.1 _, b01_if (fun z => absurd q.2.1 z) (fun _ => ⟨_, S, ev_inI S _ 0 8 0 8 rfl rfl, b01_if (fun z => absurd q.2.2.1 z) (fun _ => ⟨_, S, ev_areEars (by omega) S _, b01_if (fun z => absurd q.2.2.2.1 z) (fun _ => ⟨_, S, ev_isPart (by omega) S _, b01_if' (fun _ => ⟨_, by rw [ew]; exact ev S hM.1, fun S11 k => ?_⟩) (fun z => absurd q.2.2.2.2 z)⟩)⟩)⟩)⟩)⟩)
      rw [k.1, k.2.2.1]
      exact ⟨_, S11, ev_lowest S11 _ _ _ (fulN_lt (f := f) (w := w) (by omega) (by omega)) t.1 b63, rfl, hM.land hW (hM.1.frI k.2.2.2 nw_58) (k.2.2.2.mono nw_mod), (k.2.2.2.mono nw_mod).mono mod_m⟩
  · refine ⟨(-1), c, fun d S hd hC => ?_, fun d S hd hM => ?_, hW⟩
    · obtain ⟨d, rfl⟩ : ∃ d', d = d' + 4 := ⟨d - 4, by omega⟩
      exact zEv.of cw_X6_luck (Nat.le_of_ble_eq_true rfl) rfl (blk_X6_luck_0 ⟨_, S, ev_within S _ 0 10, b01_if (fun _ => ⟨rfl, hC.same⟩) (fun q1 => ⟨_, S, ev_isField (by omega) hC.1 hW.1.1 _, b01_if (fun _ => ⟨rfl, hC.same⟩) (fun q2 => ⟨_, S, ev_within S _ 0 8, b01_if (fun _ => ⟨rfl, hC.same⟩) (fun q3 => ⟨_, S, ev_within S _ 0 99, b01_if (fun _ => ⟨rfl, hC.same⟩) (fun q4 => ⟨_, S, ev_within S _ 0 1, b01_if' (fun q5 => absurd ⟨q1, q2, q3, q4, q5⟩ q) (fun _ => ⟨rfl, hC.same⟩)⟩)⟩)⟩)⟩)⟩)
    · obtain ⟨d, rfl⟩ : ∃ d', d = d' + 7 := ⟨d - 7, by omega⟩
      exact zEv.of cw_X7_luck (Nat.le_of_ble_eq_true rfl) rfl (blk_X7_luck_0 ⟨_, S, ev_inI S _ 0 10 0 10 rfl rfl, b01_if (fun _ => ⟨rfl, hM.same⟩) (fun q1 => ⟨_, S, ev_isField7 (by omega) hM.1 hW.1.1 _, b01_if (fun _ => ⟨rfl, hM.same⟩) (fun q2 => ⟨_, S, ev_inI S _ 0 8 0 8 rfl rfl, b01_if (fun _ => ⟨rfl, hM.same⟩) (fun q3 => ⟨_, S, ev_areEars (by omega) S _, b01_if (fun _ => ⟨rfl, hM.same⟩) (fun q4 => ⟨_, S, ev_isPart (by omega) S _, b01_if' (fun q5 => absurd ⟨q1, q2, q3, q4, q5⟩ q) (fun _ => ⟨rfl, hM.same⟩)⟩)⟩)⟩)⟩)⟩)
theorem pr_mean {c : Ab} (hW : CW c) (v1 v2 v3 : Int32) : PrJ mX6_mean mX7_mean [.int v1, .int v2, .int v3] c := by
  have hn6 := hW.1.1.nF
  by_cases q : ((0 : Int) ≤ v1.toInt ∧ v1.toInt ≤ 10) ∧ ((0 : Int) ≤ v2.toInt ∧ v2.toInt ≤ 8) ∧ ((0 : Int) ≤ v3.toInt ∧ v3.toInt ≤ 1)
  · obtain ⟨v, hv, rfl⟩ := toNat_of (n := 11) q.1.1 (by omega)
    obtain ⟨n, hn, rfl⟩ := toNat_of (n := 9) q.2.1.1 (by omega)
    have t := ten8 (n := n) (by omega)
    have b63 : 10 ^ n < 2 ^ 63 := by omega
    have lt := eaT_lt hW.1.1 (v := v) (n := n) (by omega) (by omega)
    refine ⟨(ltA (sN (eaT c.1 v n) (2 ^ n)) (10 ^ n) v3), c, fun d S hd hC => ?_, fun d S hd hM => ?_, hW⟩
    · obtain ⟨d, rfl⟩ : ∃ d', d = d' + 4 := ⟨d - 4, by omega⟩
      refine zEv.of cw_X6_mean (Nat.le_of_ble_eq_true rfl) rfl (blk_X6_mean_0 ⟨_, S, ev_within S _ 0 10, b01_if (fun z => absurd q.1 z) (fun _ => ⟨_, S, ev_within S _ 0 8, b01_if (fun z => absurd q.2.1 z) (fun _ => ⟨_, S, ev_within S _ 0 1, b01_if' (fun _ => ?_) (fun z => absurd q.2.2 z)⟩)⟩)⟩)
      have key : ∀ (m f : Nat) (S1 : ZSt), f + m = nF c.1 → FrI hlP S S1 → zSem (d + 4) mX6_mean 39 [some (.ref 0), some (.int (nI v)), some (.int (nI n)), some (.int v3), some (.long (lN (sN (fun f => earN c.1 f v n) f))), none, some (.int (nI f))] [] S1 (zY (some (.long (ltA (sN (eaT c.1 v n) (2 ^ n)) (10 ^ n) v3))) (fun S' => CI S' c ∧ FrI cP S S')) := by
        intro m
        induction m with
        | zero =>
          intro f S1 hf F1
          obtain rfl : f = nF c.1 := by omega
          have C1 : HoC S1 1 c.1 := hC.1.frB F1 (fun r j z => by unfold hlP; omega)
          refine blk_X6_mean_39 ?_
          rw [C1.gnF hW.1.1, ← eaT_swap]
          exact ⟨fun _ => ⟨_, S1, ev_tenToThe S1 n (by omega), _, S1, ev_lowestTerms S1 _ _ _ lt t.1 b63, rfl, hC.land C1 (F1.mono hl_cls), (F1.mono hl_cls).mono cls_c⟩, fun z => absurd (nI_le (by omega) (by omega)) z⟩
        | succ m ih =>
          intro f S1 hf F1
          have C1 : HoC S1 1 c.1 := hC.1.frB F1 (fun r j z => by unfold hlP; omega)
          refine blk_X6_mean_39 ?_
          rw [C1.gnF hW.1.1]
          refine ⟨fun z => absurd z (nI_ge (by omega) (by omega)), fun _ => ⟨_, ev_fallOn C1 hW.1.1 f n v (by omega) (by omega) (by omega), fun S4 k => ⟨_, S4, ev_weighedEars hW.1.1 (by omega) (by omega) k.1, ?_⟩⟩⟩
          rw [lN_add, nI_1]
          exact ih (f + 1) S4 (by omega) (F1.tr k.2)
      exact key (nF c.1) 0 S (by omega) (FrI.rf _ _)
    · obtain ⟨d, rfl⟩ : ∃ d', d = d' + 7 := ⟨d - 7, by omega⟩
      have ev := fun T (hT : HoM T 58 0 c.1) => ev_findOdds (d := d) hT hW.1 v n (by omega) (by omega) (-4) 0 (by unfold inB; omega) (fun j => 0) (Or.inl ⟨rfl, fun j => rfl⟩)
      refine zEv.of cw_X7_mean (Nat.le_of_ble_eq_true rfl) rfl (blk_X7_mean_0 ⟨_, S, ev_inI S _ 0 10 0 10 rfl rfl, b01_if (fun z => absurd q.1 z) (fun _ => ⟨_, S, ev_inI S _ 0 8 0 8 rfl rfl, b01_if (fun z => absurd q.2.1 z) (fun _ => ⟨_, S, ev_isPart (by omega) S _, b01_if' (fun _ => ⟨_, ev S hM.1, fun S11 k => ?_⟩) (fun z => absurd q.2.2 z)⟩)⟩)⟩)
      rw [k.2.1, k.2.2.1]
      exact ⟨_, S11, ev_lowest S11 _ _ _ lt t.1 b63, rfl, hM.land hW (hM.1.frI k.2.2.2 nw_58) (k.2.2.2.mono nw_mod), (k.2.2.2.mono nw_mod).mono mod_m⟩
  · refine ⟨(-1), c, fun d S hd hC => ?_, fun d S hd hM => ?_, hW⟩
    · obtain ⟨d, rfl⟩ : ∃ d', d = d' + 4 := ⟨d - 4, by omega⟩
      exact zEv.of cw_X6_mean (Nat.le_of_ble_eq_true rfl) rfl (blk_X6_mean_0 ⟨_, S, ev_within S _ 0 10, b01_if (fun _ => ⟨rfl, hC.same⟩) (fun q1 => ⟨_, S, ev_within S _ 0 8, b01_if (fun _ => ⟨rfl, hC.same⟩) (fun q3 => ⟨_, S, ev_within S _ 0 1, b01_if' (fun q5 => absurd ⟨q1, q3, q5⟩ q) (fun _ => ⟨rfl, hC.same⟩)⟩)⟩)⟩)
    · obtain ⟨d, rfl⟩ : ∃ d', d = d' + 7 := ⟨d - 7, by omega⟩
      exact zEv.of cw_X7_mean (Nat.le_of_ble_eq_true rfl) rfl (blk_X7_mean_0 ⟨_, S, ev_inI S _ 0 10 0 10 rfl rfl, b01_if (fun _ => ⟨rfl, hM.same⟩) (fun q1 => ⟨_, S, ev_inI S _ 0 8 0 8 rfl rfl, b01_if (fun _ => ⟨rfl, hM.same⟩) (fun q3 => ⟨_, S, ev_isPart (by omega) S _, b01_if' (fun q5 => absurd ⟨q1, q3, q5⟩ q) (fun _ => ⟨rfl, hM.same⟩)⟩)⟩)⟩)
