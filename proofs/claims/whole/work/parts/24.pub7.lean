/-! hire, see -/
theorem adB_n {L : Lnd} {f l : Int} (h : 0 ≤ L 0 9) : nB (adB L f l) = nB L + 1 ∧ nF (adB L f l) = nF L ∧ nS (adB L f l) = nS L := by
  refine ⟨?_, ?_, ?_⟩
  · unfold nB adB; rw [if_pos ⟨rfl, rfl⟩]; omega
  · unfold nF adB; rw [if_neg (by omega), if_neg (by omega), if_neg (by omega)]
  · unfold nS adB; rw [if_neg (by omega), if_neg (by omega), if_neg (by omega)]
theorem HoM.addB {S : ZSt} {L : Lnd} (h : HoM S 58 0 L) (hW : WF L) (hn : nB L < 4) (x y : Int32) : HoM (pI (pI (pI S 58 (19 + 2 * nB L + 0) x) 58 (19 + 2 * nB L + 1) y) 58 27 (nI (nB L + 1))) 58 0 (adB L x.toInt y.toInt) := by
  obtain ⟨n1, n2, n3⟩ := adB_n (L := L) (f := x.toInt) (l := y.toInt) hW.2.1.1
  have hN := hW.n
  have hb : nF (adB L x.toInt y.toInt) ≤ 6 ∧ nB (adB L x.toInt y.toInt) ≤ 4 ∧ nS (adB L x.toInt y.toInt) ≤ 6 := by rw [n1, n2, n3]; omega
  have p4 : mpos 4 (nB L) = 19 + 2 * nB L + 0 := mpos_b (by omega)
  have p5 : mpos 5 (nB L) = 19 + 2 * nB L + 1 := mpos_b (by omega)
  have i4 : inR (adB L x.toInt y.toInt) 4 (nB L) := inR_b (by omega) (by omega)
  have i5 : inR (adB L x.toInt y.toInt) 5 (nB L) := inR_b (by omega) (by omega)
  have i9 : inR (adB L x.toInt y.toInt) 0 9 := inR_0 (by omega)
  intro r j hr
  unfold zi
  rw [Nat.zero_add]
  by_cases q1 : r = 0 ∧ j = 9
  · obtain ⟨rfl, rfl⟩ := q1
    rw [gI_pI, if_pos ⟨rfl, rfl⟩, nI_toInt (by omega)]
    unfold adB
    rw [if_pos ⟨rfl, rfl⟩, hW.nB.2]; push_cast; rfl
  · rw [gI_pI, if_neg (fun z => q1 (mpos_inj hb hr i9 z.2))]
    by_cases q3 : r = 5 ∧ j = nB L
    · obtain ⟨rfl, rfl⟩ := q3
      rw [p5, gI_pI, if_pos ⟨rfl, rfl⟩]
      unfold adB
      rw [if_neg (by omega), if_neg (by omega), if_pos ⟨rfl, rfl⟩]
    · rw [gI_pI, if_neg (fun z => q3 (mpos_inj hb hr i5 (z.2.trans p5.symm)))]
      by_cases q2 : r = 4 ∧ j = nB L
      · obtain ⟨rfl, rfl⟩ := q2
        rw [p4, gI_pI, if_pos ⟨rfl, rfl⟩]
        unfold adB
        rw [if_neg (by omega), if_pos ⟨rfl, rfl⟩]
      · rw [gI_pI, if_neg (fun z => q2 (mpos_inj hb hr i4 (z.2.trans p4.symm)))]
        have hr2 : inR L r j := by unfold inR at hr ⊢; rw [n1, n2, n3] at hr; omega
        have := h r j hr2
        unfold zi at this
        rw [Nat.zero_add] at this
        rw [this]
        unfold adB
        rw [if_neg q1, if_neg q2, if_neg q3]
theorem WFc_adB {L : Lnd} (h : WFc L) (hn : nB L < 4) {f l : Int} (hf : 0 ≤ f ∧ f < L 0 8) (hl : 1 ≤ l ∧ l ≤ 9) : WFc (adB L f l) := by
  obtain ⟨n1, n2, n3⟩ := adB_n (L := L) (f := f) (l := l) h.1.2.1.1
  have e9 : adB L f l 0 9 = L 0 9 + 1 := by unfold adB; rw [if_pos ⟨rfl, rfl⟩]
  have e0 : ∀ j, j ≠ 9 → adB L f l 0 j = L 0 j := fun j hj => by unfold adB; rw [if_neg (by omega), if_neg (by omega), if_neg (by omega)]
  have er : ∀ r j, r ≠ 0 → r ≠ 4 → r ≠ 5 → adB L f l r j = L r j := fun r j a b c => by unfold adB; rw [if_neg (by omega), if_neg (by omega), if_neg (by omega)]
  have e4 : ∀ j, adB L f l 4 j = if j = nB L then f else L 4 j := fun j => by unfold adB; by_cases q : j = nB L <;> simp [q]
  have e5 : ∀ j, adB L f l 5 j = if j = nB L then l else L 5 j := fun j => by unfold adB; by_cases q : j = nB L <;> simp [q]
  have w9 := h.1.nB
  refine ⟨⟨by rw [e0 8 (by omega)]; exact h.1.1, by rw [e9]; omega, by rw [e0 10 (by omega)]; exact h.1.2.2.1, by rw [e0 11 (by omega)]; exact h.1.2.2.2.1, by rw [e0 12 (by omega)]; exact h.1.2.2.2.2.1, by rw [e0 13 (by omega)]; exact h.1.2.2.2.2.2.1, fun i hi => ?_, fun b hb => ?_, fun i hi => ?_⟩, fun b hb => ?_, by rw [e0 13 (by omega)]; exact h.2.2⟩
  · rw [er 1 i (by omega) (by omega) (by omega), er 2 i (by omega) (by omega) (by omega), er 3 i (by omega) (by omega) (by omega)]
    exact h.1.f (by rw [← n2]; exact hi)
  · rw [e0 8 (by omega), e4, e5]
    by_cases q : b = nB L
    · rw [if_pos q, if_pos q]; omega
    · rw [if_neg q, if_neg q]; exact h.1.b (by omega)
  · rw [e0 8 (by omega), er 6 i (by omega) (by omega) (by omega), er 7 i (by omega) (by omega) (by omega), er 8 i (by omega) (by omega) (by omega)]
    exact h.1.s (by rw [← n3]; exact hi)
  · rw [e5]
    by_cases q : b = nB L
    · rw [if_pos q]; omega
    · rw [if_neg q]; exact h.2.1 b (by omega)
theorem pub_hire {L : Lnd} (h : WFc L) (v1 v2 : Int32) : Both mX6_hire mX7_hire [.int v1, .int v2] L := by
  have w9 := h.1.2.1
  have n9 := h.1.nB
  by_cases c : (0 ≤ v1.toInt ∧ v1.toInt ≤ L 0 8 - 1) ∧ ((1 : Int) ≤ v2.toInt ∧ v2.toInt ≤ 9)
  · by_cases c4 : L 0 9 < 4
    · refine ⟨nI (nB L + 1), adB L v1.toInt v2.toInt, fun d S hd hC => ?_, fun d S hd hM => ?_, WFc_adB h (by omega) (by omega) c.2⟩
      · obtain ⟨d, rfl, hd⟩ := dsucc hd
        have e := ev_addBand (d := d) zLd_1 hC w9 v1.toInt v2.toInt (toInt_inB _) (toInt_inB _)
        rw [iv_of, iv_of, if_pos c4] at e
        refine zEv.of cw_X6_hire (Nat.le_of_ble_eq_true rfl) rfl (blk_X6_hire_0 ⟨_, S, ev_isField (by omega) hC h.1 _, b01_if (fun q => absurd c.1 q) (fun _ => ⟨_, S, ev_within S v2 1 9, b01_if' (fun _ => ⟨_, _, e, fun S5 k5 => b01_if (fun q => absurd c4 q) (fun _ => ?_)⟩) (fun q => absurd c.2 q)⟩)⟩)
        refine ⟨?_, k5.1, k5.2.I ld1_cls⟩
        rw [k5.1.g0 (by omega)]
        unfold adB
        rw [if_pos ⟨rfl, rfl⟩, n9.2, nI_iv]; push_cast; rfl
      · obtain ⟨d, rfl, hd⟩ := dsucc hd
        have g27 : gI S 58 27 = nI (nB L) := by rw [hM.s.2.1, n9.2, nI_iv]
        refine zEv.of cw_X7_hire (Nat.le_of_ble_eq_true rfl) rfl (blk_X7_hire_0 ⟨_, S, ev_isField7 (by omega) hM h.1 _, b01_if (fun q => absurd c.1 q) (fun _ => ⟨_, S, ev_inI S v2 1 9 1 9 rfl rfl, b01_if' (fun _ => ⟨fun q => ?_, fun q => ?_⟩) (fun q => absurd c.2 q)⟩)⟩)
        · rw [g27, show ((19 : Int32) + 2 * nI (nB L) + 0) = nI (19 + 2 * nB L + 0) from ix2 (nB L) 0, ix_cl (by omega)]
          refine ⟨ix_in (by omega) (by omega), fun S6 e6 => ?_⟩
          have g6 : gI S6 58 27 = nI (nB L) := by rw [e6, gI_pI, if_neg (by omega), g27]
          rw [g6, show ((19 : Int32) + 2 * nI (nB L) + 1) = nI (19 + 2 * nB L + 1) from ix2 (nB L) 1, ix_cl (by omega)]
          refine ⟨ix_in (by omega) (by omega), fun S7 e7 S8 e8 => ?_⟩
          have g7 : gI S7 58 27 = nI (nB L) := by rw [e7, gI_pI, if_neg (by omega), g6]
          rw [g7, nI_1] at e8
          subst e6; subst e7; subst e8
          refine ⟨by rw [gI_pI, if_pos ⟨rfl, rfl⟩], hM.addB h.1 (by omega) v1 v2, ?_⟩
          exact (((FrI.rf _ _).pI _ (by unfold modP; omega)).pI _ (by unfold modP; omega)).pI _ (by unfold modP; omega)
        · rw [g27, show (4 : Int32) = nI 4 from rfl, nI_eq (by omega) (by omega)] at q
          omega
    · have c4' : L 0 9 = 4 := by omega
      refine ⟨-3, L, fun d S hd hC => ?_, fun d S hd hM => ?_, h⟩
      · obtain ⟨d, rfl, hd⟩ := dsucc hd
        have e := ev_addBand (d := d) zLd_1 hC w9 v1.toInt v2.toInt (toInt_inB _) (toInt_inB _)
        rw [iv_of, iv_of, if_neg c4] at e
        exact zEv.of cw_X6_hire (Nat.le_of_ble_eq_true rfl) rfl (blk_X6_hire_0 ⟨_, S, ev_isField (by omega) hC h.1 _, b01_if (fun q => absurd c.1 q) (fun _ => ⟨_, S, ev_within S v2 1 9, b01_if' (fun _ => ⟨_, _, e, fun S5 k5 => b01_if (fun _ => ⟨rfl, k5.1, k5.2.I ld1_cls⟩) (fun q => absurd q c4)⟩) (fun q => absurd c.2 q)⟩)⟩)
      · obtain ⟨d, rfl, hd⟩ := dsucc hd
        have g27 : gI S 58 27 = 4 := by rw [hM.s.2.1, c4']; rfl
        exact zEv.of cw_X7_hire (Nat.le_of_ble_eq_true rfl) rfl (blk_X7_hire_0 ⟨_, S, ev_isField7 (by omega) hM h.1 _, b01_if (fun q => absurd c.1 q) (fun _ => ⟨_, S, ev_inI S v2 1 9 1 9 rfl rfl, b01_if' (fun _ => ⟨fun q => absurd g27 q, fun _ => ⟨rfl, hM, FrI.rf _ _⟩⟩) (fun q => absurd c.2 q)⟩)⟩)
  · refine ⟨-1, L, fun d S hd hC => ?_, fun d S hd hM => ?_, h⟩
    · obtain ⟨d, rfl, hd⟩ := dsucc hd
      exact zEv.of cw_X6_hire (Nat.le_of_ble_eq_true rfl) rfl (blk_X6_hire_0 ⟨_, S, ev_isField (by omega) hC h.1 _, b01_if (fun _ => ⟨rfl, hC, FrI.rf _ _⟩) (fun q => ⟨_, S, ev_within S v2 1 9, b01_if' (fun q2 => absurd ⟨q, q2⟩ c) (fun _ => ⟨rfl, hC, FrI.rf _ _⟩)⟩)⟩)
    · obtain ⟨d, rfl, hd⟩ := dsucc hd
      exact zEv.of cw_X7_hire (Nat.le_of_ble_eq_true rfl) rfl (blk_X7_hire_0 ⟨_, S, ev_isField7 (by omega) hM h.1 _, b01_if (fun _ => ⟨rfl, hM, FrI.rf _ _⟩) (fun q => ⟨_, S, ev_inI S v2 1 9 1 9 rfl rfl, b01_if' (fun q2 => absurd ⟨q, q2⟩ c) (fun _ => ⟨rfl, hM, FrI.rf _ _⟩)⟩)⟩)
theorem adS_n {L : Lnd} {n f v : Int} (h : 0 ≤ L 0 10) : nS (adS L n f v) = nS L + 1 ∧ nF (adS L n f v) = nF L ∧ nB (adS L n f v) = nB L := by
  refine ⟨?_, ?_, ?_⟩
  · unfold nS adS; rw [if_pos ⟨rfl, rfl⟩]; omega
  · unfold nF adS; rw [if_neg (by omega), if_neg (by omega), if_neg (by omega), if_neg (by omega)]
  · unfold nB adS; rw [if_neg (by omega), if_neg (by omega), if_neg (by omega), if_neg (by omega)]
theorem HoM.addS {S : ZSt} {L : Lnd} (h : HoM S 58 0 L) (hW : WF L) (hn : nS L < 6) (x y z : Int32) : HoM (pI (pI (pI (pI S 58 (32 + 3 * nS L) x) 58 (32 + 3 * nS L + 1) y) 58 (32 + 3 * nS L + 2) z) 58 31 (nI (nS L + 1))) 58 0 (adS L x.toInt y.toInt z.toInt) := by
  obtain ⟨n1, n2, n3⟩ := adS_n (L := L) (n := x.toInt) (f := y.toInt) (v := z.toInt) hW.2.2.1.1
  have hN := hW.n
  have hb : nF (adS L x.toInt y.toInt z.toInt) ≤ 6 ∧ nB (adS L x.toInt y.toInt z.toInt) ≤ 4 ∧ nS (adS L x.toInt y.toInt z.toInt) ≤ 6 := by rw [n1, n2, n3]; omega
  have p6 : mpos 6 (nS L) = 32 + 3 * nS L := mpos_s (by omega)
  have p7 : mpos 7 (nS L) = 32 + 3 * nS L + 1 := mpos_s (by omega)
  have p8 : mpos 8 (nS L) = 32 + 3 * nS L + 2 := mpos_s (by omega)
  have i6 : inR (adS L x.toInt y.toInt z.toInt) 6 (nS L) := inR_s (by omega) (by omega)
  have i7 : inR (adS L x.toInt y.toInt z.toInt) 7 (nS L) := inR_s (by omega) (by omega)
  have i8 : inR (adS L x.toInt y.toInt z.toInt) 8 (nS L) := inR_s (by omega) (by omega)
  have i10 : inR (adS L x.toInt y.toInt z.toInt) 0 10 := inR_0 (by omega)
  intro r j hr
  unfold zi
  rw [Nat.zero_add]
  by_cases q1 : r = 0 ∧ j = 10
  · obtain ⟨rfl, rfl⟩ := q1
    rw [gI_pI, if_pos ⟨rfl, rfl⟩, nI_toInt (by omega)]
    unfold adS
    rw [if_pos ⟨rfl, rfl⟩, hW.nS.2]; push_cast; rfl
  · rw [gI_pI, if_neg (fun w => q1 (mpos_inj hb hr i10 w.2))]
    by_cases q4 : r = 8 ∧ j = nS L
    · obtain ⟨rfl, rfl⟩ := q4
      rw [p8, gI_pI, if_pos ⟨rfl, rfl⟩]
      unfold adS
      rw [if_neg (by omega), if_neg (by omega), if_neg (by omega), if_pos ⟨rfl, rfl⟩]
    · rw [gI_pI, if_neg (fun w => q4 (mpos_inj hb hr i8 (w.2.trans p8.symm)))]
      by_cases q3 : r = 7 ∧ j = nS L
      · obtain ⟨rfl, rfl⟩ := q3
        rw [p7, gI_pI, if_pos ⟨rfl, rfl⟩]
        unfold adS
        rw [if_neg (by omega), if_neg (by omega), if_pos ⟨rfl, rfl⟩]
      · rw [gI_pI, if_neg (fun w => q3 (mpos_inj hb hr i7 (w.2.trans p7.symm)))]
        by_cases q2 : r = 6 ∧ j = nS L
        · obtain ⟨rfl, rfl⟩ := q2
          rw [p6, gI_pI, if_pos ⟨rfl, rfl⟩]
          unfold adS
          rw [if_neg (by omega), if_pos ⟨rfl, rfl⟩]
        · rw [gI_pI, if_neg (fun w => q2 (mpos_inj hb hr i6 (w.2.trans p6.symm)))]
          have hr2 : inR L r j := by unfold inR at hr ⊢; rw [n1, n2, n3] at hr; omega
          have := h r j hr2
          unfold zi at this
          rw [Nat.zero_add] at this
          rw [this]
          unfold adS
          rw [if_neg q1, if_neg q2, if_neg q3, if_neg q4]
theorem WFc_adS {L : Lnd} (h : WFc L) (hn : nS L < 6) {n f v : Int} (hn0 : 0 ≤ n ∧ n ≤ 20) (hf : 0 ≤ f ∧ f < L 0 8) (hv : 0 ≤ v ∧ v ≤ 99) : WFc (adS L n f v) := by
  obtain ⟨n1, n2, n3⟩ := adS_n (L := L) (n := n) (f := f) (v := v) h.1.2.2.1.1
  have e10 : adS L n f v 0 10 = L 0 10 + 1 := by unfold adS; rw [if_pos ⟨rfl, rfl⟩]
  have e0 : ∀ j, j ≠ 10 → adS L n f v 0 j = L 0 j := fun j hj => by unfold adS; rw [if_neg (by omega), if_neg (by omega), if_neg (by omega), if_neg (by omega)]
  have er : ∀ r j, r ≠ 0 → r ≤ 5 → adS L n f v r j = L r j := fun r j a b => by unfold adS; rw [if_neg (by omega), if_neg (by omega), if_neg (by omega), if_neg (by omega)]
  have e6 : ∀ j, adS L n f v 6 j = if j = nS L then n else L 6 j := fun j => by unfold adS; by_cases q : j = nS L <;> simp [q]
  have e7 : ∀ j, adS L n f v 7 j = if j = nS L then f else L 7 j := fun j => by unfold adS; by_cases q : j = nS L <;> simp [q]
  have e8 : ∀ j, adS L n f v 8 j = if j = nS L then v else L 8 j := fun j => by unfold adS; by_cases q : j = nS L <;> simp [q]
  have w10 := h.1.nS
  refine ⟨⟨by rw [e0 8 (by omega)]; exact h.1.1, by rw [e0 9 (by omega)]; exact h.1.2.1, by rw [e10]; omega, by rw [e0 11 (by omega)]; exact h.1.2.2.2.1, by rw [e0 12 (by omega)]; exact h.1.2.2.2.2.1, by rw [e0 13 (by omega)]; exact h.1.2.2.2.2.2.1, fun i hi => ?_, fun b hb => ?_, fun i hi => ?_⟩, fun b hb => ?_, by rw [e0 13 (by omega)]; exact h.2.2⟩
  · rw [er 1 i (by omega) (by omega), er 2 i (by omega) (by omega), er 3 i (by omega) (by omega)]
    exact h.1.f (by rw [← n2]; exact hi)
  · rw [e0 8 (by omega), er 4 b (by omega) (by omega), er 5 b (by omega) (by omega)]
    exact h.1.b (by rw [← n3]; exact hb)
  · rw [e0 8 (by omega), e6, e7, e8]
    by_cases q : i = nS L
    · rw [if_pos q, if_pos q, if_pos q]; exact ⟨hn0, hf, hv⟩
    · rw [if_neg q, if_neg q, if_neg q]; exact h.1.s (by omega)
  · rw [er 5 b (by omega) (by omega)]; exact h.2.1 b (by rw [← n3]; exact hb)
theorem ix33 (f : Nat) : (32 : Int32) + 3 * nI f = nI (32 + 3 * f) := by rw [show (3 : Int32) = nI 3 from rfl, show (32 : Int32) = nI 32 from rfl, pk_mul, nI_add]
theorem pub_see {L : Lnd} (h : WFc L) (v1 v2 v3 : Int32) : Both mX6_see mX7_see [.int v1, .int v2, .int v3] L := by
  have w10 := h.1.2.2.1
  have n10 := h.1.nS
  by_cases c : ((0 : Int) ≤ v1.toInt ∧ v1.toInt ≤ 20) ∧ (0 ≤ v2.toInt ∧ v2.toInt ≤ L 0 8 - 1) ∧ ((0 : Int) ≤ v3.toInt ∧ v3.toInt ≤ 99)
  · by_cases c6 : L 0 10 < 6
    · refine ⟨nI (nS L + 1), adS L v1.toInt v2.toInt v3.toInt, fun d S hd hC => ?_, fun d S hd hM => ?_, WFc_adS h (by omega) c.1 (by omega) c.2.2⟩
      · obtain ⟨d, rfl, hd⟩ := dsucc hd
        have e := ev_addSeen (d := d) zLd_1 hC w10 v1.toInt v2.toInt v3.toInt (toInt_inB _) (toInt_inB _) (toInt_inB _)
        rw [iv_of, iv_of, iv_of, if_pos c6] at e
        refine zEv.of cw_X6_see (Nat.le_of_ble_eq_true rfl) rfl (blk_X6_see_0 ⟨_, S, ev_within S v1 0 20, b01_if (fun q => absurd c.1 q) (fun _ => ⟨_, S, ev_isField (by omega) hC h.1 _, b01_if (fun q => absurd c.2.1 q) (fun _ => ⟨_, S, ev_within S v3 0 99, b01_if' (fun _ => ⟨_, _, e, fun S7 k7 => b01_if (fun q => absurd c6 q) (fun _ => ?_)⟩) (fun q => absurd c.2.2 q)⟩)⟩)⟩)
        refine ⟨?_, k7.1, k7.2.I ld1_cls⟩
        rw [k7.1.g0 (by omega)]
        unfold adS
        rw [if_pos ⟨rfl, rfl⟩, n10.2, nI_iv]; push_cast; rfl
      · obtain ⟨d, rfl, hd⟩ := dsucc hd
        have g31 : gI S 58 31 = nI (nS L) := by rw [hM.s.2.2.1, n10.2, nI_iv]
        refine zEv.of cw_X7_see (Nat.le_of_ble_eq_true rfl) rfl (blk_X7_see_0 ⟨_, S, ev_inI S v1 0 20 0 20 rfl rfl, b01_if (fun q => absurd c.1 q) (fun _ => ⟨_, S, ev_isField7 (by omega) hM h.1 _, b01_if (fun q => absurd c.2.1 q) (fun _ => ⟨_, S, ev_areEars (by omega) S v3, b01_if' (fun _ => ⟨fun q => ?_, fun q => ?_⟩) (fun q => absurd c.2.2 q)⟩)⟩)⟩)
        · rw [g31, ix33, ix_cl (by omega), nI_1, ix_cl (by omega), show nI (32 + 3 * nS L) + 2 = nI (32 + 3 * nS L + 2) from nI_add (32 + 3 * nS L) 2, ix_cl (by omega)]
          refine ⟨ix_in (by omega) (by omega), fun S8 e8 => ⟨ix_in (by omega) (by omega), fun S9 e9 => ⟨ix_in (by omega) (by omega), fun S10 e10 S11 e11 => ?_⟩⟩⟩
          have g10 : gI S10 58 31 = nI (nS L) := by rw [e10, gI_pI, if_neg (by omega), e9, gI_pI, if_neg (by omega), e8, gI_pI, if_neg (by omega), g31]
          rw [g10, nI_1] at e11
          subst e8; subst e9; subst e10; subst e11
          refine ⟨by rw [gI_pI, if_pos ⟨rfl, rfl⟩], hM.addS h.1 (by omega) v1 v2 v3, ?_⟩
          exact ((((FrI.rf _ _).pI _ (by unfold modP; omega)).pI _ (by unfold modP; omega)).pI _ (by unfold modP; omega)).pI _ (by unfold modP; omega)
        · rw [g31, show (6 : Int32) = nI 6 from rfl, nI_eq (by omega) (by omega)] at q
          omega
    · have c6' : L 0 10 = 6 := by omega
      refine ⟨-3, L, fun d S hd hC => ?_, fun d S hd hM => ?_, h⟩
      · obtain ⟨d, rfl, hd⟩ := dsucc hd
        have e := ev_addSeen (d := d) zLd_1 hC w10 v1.toInt v2.toInt v3.toInt (toInt_inB _) (toInt_inB _) (toInt_inB _)
        rw [iv_of, iv_of, iv_of, if_neg c6] at e
        exact zEv.of cw_X6_see (Nat.le_of_ble_eq_true rfl) rfl (blk_X6_see_0 ⟨_, S, ev_within S v1 0 20, b01_if (fun q => absurd c.1 q) (fun _ => ⟨_, S, ev_isField (by omega) hC h.1 _, b01_if (fun q => absurd c.2.1 q) (fun _ => ⟨_, S, ev_within S v3 0 99, b01_if' (fun _ => ⟨_, _, e, fun S7 k7 => b01_if (fun _ => ⟨rfl, k7.1, k7.2.I ld1_cls⟩) (fun q => absurd q c6)⟩) (fun q => absurd c.2.2 q)⟩)⟩)⟩)
      · obtain ⟨d, rfl, hd⟩ := dsucc hd
        have g31 : gI S 58 31 = 6 := by rw [hM.s.2.2.1, c6']; rfl
        exact zEv.of cw_X7_see (Nat.le_of_ble_eq_true rfl) rfl (blk_X7_see_0 ⟨_, S, ev_inI S v1 0 20 0 20 rfl rfl, b01_if (fun q => absurd c.1 q) (fun _ => ⟨_, S, ev_isField7 (by omega) hM h.1 _, b01_if (fun q => absurd c.2.1 q) (fun _ => ⟨_, S, ev_areEars (by omega) S v3, b01_if' (fun _ => ⟨fun q => absurd g31 q, fun _ => ⟨rfl, hM, FrI.rf _ _⟩⟩) (fun q => absurd c.2.2 q)⟩)⟩)⟩)
  · refine ⟨-1, L, fun d S hd hC => ?_, fun d S hd hM => ?_, h⟩
    · obtain ⟨d, rfl, hd⟩ := dsucc hd
      exact zEv.of cw_X6_see (Nat.le_of_ble_eq_true rfl) rfl (blk_X6_see_0 ⟨_, S, ev_within S v1 0 20, b01_if (fun _ => ⟨rfl, hC, FrI.rf _ _⟩) (fun q => ⟨_, S, ev_isField (by omega) hC h.1 _, b01_if (fun _ => ⟨rfl, hC, FrI.rf _ _⟩) (fun q2 => ⟨_, S, ev_within S v3 0 99, b01_if' (fun q3 => absurd ⟨q, q2, q3⟩ c) (fun _ => ⟨rfl, hC, FrI.rf _ _⟩)⟩)⟩)⟩)
    · obtain ⟨d, rfl, hd⟩ := dsucc hd
      exact zEv.of cw_X7_see (Nat.le_of_ble_eq_true rfl) rfl (blk_X7_see_0 ⟨_, S, ev_inI S v1 0 20 0 20 rfl rfl, b01_if (fun _ => ⟨rfl, hM, FrI.rf _ _⟩) (fun q => ⟨_, S, ev_isField7 (by omega) hM h.1 _, b01_if (fun _ => ⟨rfl, hM, FrI.rf _ _⟩) (fun q2 => ⟨_, S, ev_areEars (by omega) S v3, b01_if' (fun q3 => absurd ⟨q, q2, q3⟩ c) (fun _ => ⟨rfl, hM, FrI.rf _ _⟩)⟩)⟩)⟩)
