/-! leave, forget, march, play, band -/
theorem WFc_cut {L : Lnd} (h : WFc L) {c : Nat} {z : Int} (hc : c = 9 ∨ c = 10) (hz : 0 ≤ z ∧ z ≤ L 0 c) : WFc (updL L 0 c z) := by
  have hI : ∀ r j, inR (updL L 0 c z) r j → inR L r j := fun r j q => inR_cnt hc hz.2 q
  have w := h.1
  have w9 := w.2.1
  have w10 := w.2.2.1
  have nb : nB (updL L 0 c z) ≤ nB L := by unfold nB updL; rcases hc with rfl | rfl <;> simp <;> omega
  have ns : nS (updL L 0 c z) ≤ nS L := by unfold nS updL; rcases hc with rfl | rfl <;> simp <;> omega
  have e8 : updL L 0 c z 0 8 = L 0 8 := updL_ne _ _ _ _ (by omega)
  refine ⟨⟨by rw [e8]; exact w.1, ?_, ?_, ?_, ?_, ?_, fun f hf => ?_, fun b hb => ?_, fun i hi => ?_⟩, fun b hb => ?_, ?_⟩
  · unfold updL; rcases hc with rfl | rfl <;> simp <;> omega
  · unfold updL; rcases hc with rfl | rfl <;> simp <;> omega
  · rw [updL_ne _ _ _ _ (by omega)]; exact w.2.2.2.1
  · rw [updL_ne _ _ _ _ (by omega)]; exact w.2.2.2.2.1
  · rw [updL_ne _ _ _ _ (by omega)]; exact w.2.2.2.2.2.1
  · rw [updL_ne _ _ _ _ (by omega), updL_ne _ _ _ _ (by omega), updL_ne _ _ _ _ (by omega)]
    exact w.f (by unfold nF at hf ⊢; rw [e8] at hf; exact hf)
  · rw [e8, updL_ne _ _ _ _ (by omega), updL_ne _ _ _ _ (by omega)]
    exact w.b (by omega)
  · rw [e8, updL_ne _ _ _ _ (by omega), updL_ne _ _ _ _ (by omega), updL_ne _ _ _ _ (by omega)]
    exact w.s (by omega)
  · rw [updL_ne _ _ _ _ (by omega)]
    exact h.2.1 b (by omega)
  · rw [updL_ne _ _ _ _ (by omega)]; exact h.2.2
theorem pub_leave {L : Lnd} (h : WFc L) (v : Int32) : Both mX6_leave mX7_leave [.int v] L := by
  have w := h.1.2.1
  by_cases c : (0 : Int) ≤ v.toInt ∧ v.toInt ≤ L 0 9
  · refine ⟨iv (L 0 9), updL L 0 9 v.toInt, fun d S hd hC => ?_, fun d S hd hM => ?_, WFc_cut h (Or.inl rfl) c⟩
    · obtain ⟨d, rfl, hd⟩ := dsucc hd
      have e := ev_within (d := d) S v 0 (gI S 1 9)
      rw [hC.g0 (by omega), iv_toInt (by unfold inB; omega)] at e
      refine zEv.of cw_X6_leave (Nat.le_of_ble_eq_true rfl) rfl (blk_X6_leave_0 ⟨_, S, by rw [hC.g0 (by omega)]; exact e, b01_if' (fun _ => ?_) (fun q => absurd c q)⟩)
      rw [hC.g0 (by omega)]
      have := hC.cut (Or.inl rfl) c.2 (toInt_inB v)
      rw [iv_of] at this
      exact ⟨rfl, this, (FrI.rf _ _).pI _ (by unfold clsP; omega)⟩
    · obtain ⟨d, rfl, hd⟩ := dsucc hd
      have e := ev_inI (d := d) S v 0 (gI S 58 27).toInt64 0 (L 0 9) rfl (by rw [hM.s.2.1, Int32.toInt_toInt64, iv_toInt (by unfold inB; omega)])
      refine zEv.of cw_X7_leave (Nat.le_of_ble_eq_true rfl) rfl (blk_X7_leave_0 ⟨_, S, e, b01_if (fun q => absurd c q) (fun _ => ⟨_, _, ev_becomes S 27 (by omega) v, ?_⟩)⟩)
      rintro S3 rfl
      have := hM.cut h.1.n (Or.inl rfl) c.2 (toInt_inB v)
      rw [iv_of] at this
      exact ⟨by rw [hM.s.2.1], this, (FrI.rf _ _).pI _ (by unfold modP; omega)⟩
  · refine ⟨-1, L, fun d S hd hC => ?_, fun d S hd hM => ?_, h⟩
    · obtain ⟨d, rfl, hd⟩ := dsucc hd
      have e := ev_within (d := d) S v 0 (gI S 1 9)
      rw [hC.g0 (by omega), iv_toInt (by unfold inB; omega)] at e
      exact zEv.of cw_X6_leave (Nat.le_of_ble_eq_true rfl) rfl (blk_X6_leave_0 ⟨_, S, by rw [hC.g0 (by omega)]; exact e, b01_if' (fun q => absurd q c) (fun _ => ⟨rfl, hC, FrI.rf _ _⟩)⟩)
    · obtain ⟨d, rfl, hd⟩ := dsucc hd
      have e := ev_inI (d := d) S v 0 (gI S 58 27).toInt64 0 (L 0 9) rfl (by rw [hM.s.2.1, Int32.toInt_toInt64, iv_toInt (by unfold inB; omega)])
      exact zEv.of cw_X7_leave (Nat.le_of_ble_eq_true rfl) rfl (blk_X7_leave_0 ⟨_, S, e, b01_if (fun _ => ⟨rfl, hM, FrI.rf _ _⟩) (fun q => absurd q c)⟩)
theorem pub_forget {L : Lnd} (h : WFc L) (v : Int32) : Both mX6_forget mX7_forget [.int v] L := by
  have w := h.1.2.2.1
  by_cases c : (0 : Int) ≤ v.toInt ∧ v.toInt ≤ L 0 10
  · refine ⟨iv (L 0 10), updL L 0 10 v.toInt, fun d S hd hC => ?_, fun d S hd hM => ?_, WFc_cut h (Or.inr rfl) c⟩
    · obtain ⟨d, rfl, hd⟩ := dsucc hd
      have e := ev_within (d := d) S v 0 (gI S 1 10)
      rw [hC.g0 (by omega), iv_toInt (by unfold inB; omega)] at e
      refine zEv.of cw_X6_forget (Nat.le_of_ble_eq_true rfl) rfl (blk_X6_forget_0 ⟨_, S, by rw [hC.g0 (by omega)]; exact e, b01_if' (fun _ => ?_) (fun q => absurd c q)⟩)
      rw [hC.g0 (by omega)]
      have := hC.cut (Or.inr rfl) c.2 (toInt_inB v)
      rw [iv_of] at this
      exact ⟨rfl, this, (FrI.rf _ _).pI _ (by unfold clsP; omega)⟩
    · obtain ⟨d, rfl, hd⟩ := dsucc hd
      have e := ev_inI (d := d) S v 0 (gI S 58 31).toInt64 0 (L 0 10) rfl (by rw [hM.s.2.2.1, Int32.toInt_toInt64, iv_toInt (by unfold inB; omega)])
      refine zEv.of cw_X7_forget (Nat.le_of_ble_eq_true rfl) rfl (blk_X7_forget_0 ⟨_, S, e, b01_if (fun q => absurd c q) (fun _ => ⟨_, _, ev_becomes S 31 (by omega) v, ?_⟩)⟩)
      rintro S3 rfl
      have := hM.cut h.1.n (Or.inr rfl) c.2 (toInt_inB v)
      rw [iv_of] at this
      exact ⟨by rw [hM.s.2.2.1], this, (FrI.rf _ _).pI _ (by unfold modP; omega)⟩
  · refine ⟨-1, L, fun d S hd hC => ?_, fun d S hd hM => ?_, h⟩
    · obtain ⟨d, rfl, hd⟩ := dsucc hd
      have e := ev_within (d := d) S v 0 (gI S 1 10)
      rw [hC.g0 (by omega), iv_toInt (by unfold inB; omega)] at e
      exact zEv.of cw_X6_forget (Nat.le_of_ble_eq_true rfl) rfl (blk_X6_forget_0 ⟨_, S, by rw [hC.g0 (by omega)]; exact e, b01_if' (fun q => absurd q c) (fun _ => ⟨rfl, hC, FrI.rf _ _⟩)⟩)
    · obtain ⟨d, rfl, hd⟩ := dsucc hd
      have e := ev_inI (d := d) S v 0 (gI S 58 31).toInt64 0 (L 0 10) rfl (by rw [hM.s.2.2.1, Int32.toInt_toInt64, iv_toInt (by unfold inB; omega)])
      exact zEv.of cw_X7_forget (Nat.le_of_ble_eq_true rfl) rfl (blk_X7_forget_0 ⟨_, S, e, b01_if (fun _ => ⟨rfl, hM, FrI.rf _ _⟩) (fun q => absurd q c)⟩)
theorem isB_of {L : Lnd} (hW : WF L) {v : Int32} (c : 0 ≤ v.toInt ∧ v.toInt ≤ L 0 9 - 1) : ∃ b : Nat, b < nB L ∧ v = nI b := toNat_of c.1 (by have := hW.nB.2; omega)
theorem isF_of {L : Lnd} (hW : WF L) {v : Int32} (c : 0 ≤ v.toInt ∧ v.toInt ≤ L 0 8 - 1) : ∃ f : Nat, f < nF L ∧ v = nI f := toNat_of c.1 (by have := hW.nF.2; omega)
theorem pub_march {L : Lnd} (h : WFc L) (v1 v2 : Int32) : Both mX6_march mX7_march [.int v1, .int v2] L := by
  by_cases c : (0 ≤ v1.toInt ∧ v1.toInt ≤ L 0 9 - 1) ∧ (0 ≤ v2.toInt ∧ v2.toInt ≤ L 0 8 - 1)
  · obtain ⟨b, hb, rfl⟩ := isB_of h.1 c.1
    have hn := h.1.nB.1
    refine ⟨iv (L 4 b), updL L 4 b v2.toInt, fun d S hd hC => ?_, fun d S hd hM => ?_, WFc_put h (by omega) (by omega) (by omega) (by omega) (fun _ => ⟨c.2.1, by omega⟩) (by omega) (by omega)⟩
    · obtain ⟨d, rfl, hd⟩ := dsucc hd
      refine zEv.of cw_X6_march (Nat.le_of_ble_eq_true rfl) rfl (blk_X6_march_0 ⟨_, S, ev_isBand (by omega) hC h.1 _, b01_if (fun q => absurd c.1 q) (fun _ => ⟨_, S, ev_isField (by omega) hC h.1 _, b01_if' (fun _ => ⟨ix_in (by omega) (by omega), ix_in (by omega) (by omega), ?_⟩) (fun q => absurd c.2 q)⟩)⟩)
      rw [ix_cl (by omega)]
      exact ⟨by rw [← hC.g (inR_b (r := 4) (by omega) hb)], hC.putv 4 b v2 (by omega), (FrI.rf _ _).pI _ (by unfold clsP; omega)⟩
    · obtain ⟨d, rfl, hd⟩ := dsucc hd
      refine zEv.of cw_X7_march (Nat.le_of_ble_eq_true rfl) rfl (blk_X7_march_0 ⟨_, S, ev_isBand7 (by omega) hM h.1 _, b01_if (fun q => absurd c.1 q) (fun _ => ⟨_, S, ev_isField7 (by omega) hM h.1 _, b01_if (fun q => absurd c.2 q) (fun _ => ⟨_, _, by rw [show ((19 : Int32) + 2 * nI b + 0) = nI (19 + 2 * b + 0) from ix2 b 0]; exact ev_becomes S (19 + 2 * b + 0) (by omega) v2, ?_⟩)⟩)⟩)
      rintro S5 rfl
      have := hM.putv h.1.n (r := 4) (j := b) v2 (inR_b (by omega) hb) (by omega)
      rw [mpos_b (by omega)] at this
      exact ⟨by rw [(hM.b hb).1], this, (FrI.rf _ _).pI _ (by unfold modP; omega)⟩
  · refine ⟨-1, L, fun d S hd hC => ?_, fun d S hd hM => ?_, h⟩
    · obtain ⟨d, rfl, hd⟩ := dsucc hd
      exact zEv.of cw_X6_march (Nat.le_of_ble_eq_true rfl) rfl (blk_X6_march_0 ⟨_, S, ev_isBand (by omega) hC h.1 _, b01_if (fun _ => ⟨rfl, hC, FrI.rf _ _⟩) (fun q => ⟨_, S, ev_isField (by omega) hC h.1 _, b01_if' (fun q2 => absurd ⟨q, q2⟩ c) (fun _ => ⟨rfl, hC, FrI.rf _ _⟩)⟩)⟩)
    · obtain ⟨d, rfl, hd⟩ := dsucc hd
      exact zEv.of cw_X7_march (Nat.le_of_ble_eq_true rfl) rfl (blk_X7_march_0 ⟨_, S, ev_isBand7 (by omega) hM h.1 _, b01_if (fun _ => ⟨rfl, hM, FrI.rf _ _⟩) (fun q => ⟨_, S, ev_isField7 (by omega) hM h.1 _, b01_if (fun _ => ⟨rfl, hM, FrI.rf _ _⟩) (fun q2 => absurd ⟨q, q2⟩ c)⟩)⟩)
theorem pub_play {L : Lnd} (h : WFc L) (v1 v2 : Int32) : Both mX6_play mX7_play [.int v1, .int v2] L := by
  by_cases c : (0 ≤ v1.toInt ∧ v1.toInt ≤ L 0 9 - 1) ∧ ((1 : Int) ≤ v2.toInt ∧ v2.toInt ≤ 9)
  · obtain ⟨b, hb, rfl⟩ := isB_of h.1 c.1
    have hn := h.1.nB.1
    refine ⟨iv (L 5 b), updL L 5 b v2.toInt, fun d S hd hC => ?_, fun d S hd hM => ?_, WFc_put h (by omega) (by omega) (by omega) (by omega) (by omega) (fun _ => c.2) (by omega)⟩
    · obtain ⟨d, rfl, hd⟩ := dsucc hd
      refine zEv.of cw_X6_play (Nat.le_of_ble_eq_true rfl) rfl (blk_X6_play_0 ⟨_, S, ev_isBand (by omega) hC h.1 _, b01_if (fun q => absurd c.1 q) (fun _ => ⟨_, S, ev_within S v2 1 9, b01_if' (fun _ => ⟨ix_in (by omega) (by omega), ix_in (by omega) (by omega), ?_⟩) (fun q => absurd c.2 q)⟩)⟩)
      rw [ix_cl (by omega)]
      exact ⟨by rw [← hC.g (inR_b (r := 5) (by omega) hb)], hC.putv 5 b v2 (by omega), (FrI.rf _ _).pI _ (by unfold clsP; omega)⟩
    · obtain ⟨d, rfl, hd⟩ := dsucc hd
      refine zEv.of cw_X7_play (Nat.le_of_ble_eq_true rfl) rfl (blk_X7_play_0 ⟨_, S, ev_isBand7 (by omega) hM h.1 _, b01_if (fun q => absurd c.1 q) (fun _ => ⟨_, S, ev_inI S v2 1 9 1 9 rfl rfl, b01_if (fun q => absurd c.2 q) (fun _ => ⟨_, _, by rw [show ((19 : Int32) + 2 * nI b + 1) = nI (19 + 2 * b + 1) from ix2 b 1]; exact ev_becomes S (19 + 2 * b + 1) (by omega) v2, ?_⟩)⟩)⟩)
      rintro S5 rfl
      have := hM.putv h.1.n (r := 5) (j := b) v2 (inR_b (by omega) hb) (by omega)
      rw [mpos_b (by omega)] at this
      exact ⟨by rw [(hM.b hb).2], this, (FrI.rf _ _).pI _ (by unfold modP; omega)⟩
  · refine ⟨-1, L, fun d S hd hC => ?_, fun d S hd hM => ?_, h⟩
    · obtain ⟨d, rfl, hd⟩ := dsucc hd
      exact zEv.of cw_X6_play (Nat.le_of_ble_eq_true rfl) rfl (blk_X6_play_0 ⟨_, S, ev_isBand (by omega) hC h.1 _, b01_if (fun _ => ⟨rfl, hC, FrI.rf _ _⟩) (fun q => ⟨_, S, ev_within S v2 1 9, b01_if' (fun q2 => absurd ⟨q, q2⟩ c) (fun _ => ⟨rfl, hC, FrI.rf _ _⟩)⟩)⟩)
    · obtain ⟨d, rfl, hd⟩ := dsucc hd
      exact zEv.of cw_X7_play (Nat.le_of_ble_eq_true rfl) rfl (blk_X7_play_0 ⟨_, S, ev_isBand7 (by omega) hM h.1 _, b01_if (fun _ => ⟨rfl, hM, FrI.rf _ _⟩) (fun q => ⟨_, S, ev_inI S v2 1 9 1 9 rfl rfl, b01_if (fun _ => ⟨rfl, hM, FrI.rf _ _⟩) (fun q2 => absurd ⟨q, q2⟩ c)⟩)⟩)
theorem eq01 {v : Int32} (h : 0 ≤ v.toInt ∧ v.toInt ≤ 1) : v = nI 0 ∨ v = nI 1 := by
  obtain ⟨f, hf, rfl⟩ := toNat_of (n := 2) h.1 (by omega)
  rcases (show f = 0 ∨ f = 1 by omega) with rfl | rfl
  · exact Or.inl rfl
  · exact Or.inr rfl
theorem pub_band {L : Lnd} (h : WFc L) (v1 v2 : Int32) : Both mX6_band mX7_band [.int v1, .int v2] L := by
  by_cases c : (0 ≤ v1.toInt ∧ v1.toInt ≤ L 0 9 - 1) ∧ ((0 : Int) ≤ v2.toInt ∧ v2.toInt ≤ 1)
  · obtain ⟨b, hb, rfl⟩ := isB_of h.1 c.1
    have hn := h.1.nB.1
    have c2 := eq01 c.2
    refine ⟨if v2 = 0 then iv (L 4 b) else iv (L 5 b), L, fun d S hd hC => ?_, fun d S hd hM => ?_, h⟩
    · obtain ⟨d, rfl, hd⟩ := dsucc hd
      refine zEv.of cw_X6_band (Nat.le_of_ble_eq_true rfl) rfl (blk_X6_band_0 ⟨_, S, ev_isBand (by omega) hC h.1 _, b01_if (fun q => absurd c.1 q) (fun _ => ⟨_, S, ev_within S v2 0 1, b01_if' (fun _ => ⟨fun q => ⟨ix_in (by omega) (by omega), ?_⟩, fun q => ⟨ix_in (by omega) (by omega), ?_⟩⟩) (fun q => absurd c.2 q)⟩)⟩)
      · rw [ix_cl (by omega), if_neg q]
        exact ⟨by rw [← hC.g (inR_b (r := 5) (by omega) hb)], hC, FrI.rf _ _⟩
      · rw [ix_cl (by omega), if_pos q]
        exact ⟨by rw [← hC.g (inR_b (r := 4) (by omega) hb)], hC, FrI.rf _ _⟩
    · obtain ⟨d, rfl, hd⟩ := dsucc hd
      refine zEv.of cw_X7_band (Nat.le_of_ble_eq_true rfl) rfl (blk_X7_band_0 ⟨_, S, ev_isBand7 (by omega) hM h.1 _, b01_if (fun q => absurd c.1 q) (fun _ => ⟨_, S, ev_isPart (by omega) S v2, b01_if (fun q => absurd c.2 q) (fun _ => ?_)⟩)⟩)
      rcases c2 with rfl | rfl
      · rw [ix2, ix_cl (by omega), if_pos nI_0]
        exact ⟨ix_in (by omega) (by omega), by rw [(hM.b hb).1], hM, FrI.rf _ _⟩
      · rw [ix2, ix_cl (by omega), if_neg (by decide)]
        exact ⟨ix_in (by omega) (by omega), by rw [(hM.b hb).2], hM, FrI.rf _ _⟩
  · refine ⟨-1, L, fun d S hd hC => ?_, fun d S hd hM => ?_, h⟩
    · obtain ⟨d, rfl, hd⟩ := dsucc hd
      exact zEv.of cw_X6_band (Nat.le_of_ble_eq_true rfl) rfl (blk_X6_band_0 ⟨_, S, ev_isBand (by omega) hC h.1 _, b01_if (fun _ => ⟨rfl, hC, FrI.rf _ _⟩) (fun q => ⟨_, S, ev_within S v2 0 1, b01_if' (fun q2 => absurd ⟨q, q2⟩ c) (fun _ => ⟨rfl, hC, FrI.rf _ _⟩)⟩)⟩)
    · obtain ⟨d, rfl, hd⟩ := dsucc hd
      exact zEv.of cw_X7_band (Nat.le_of_ble_eq_true rfl) rfl (blk_X7_band_0 ⟨_, S, ev_isBand7 (by omega) hM h.1 _, b01_if (fun _ => ⟨rfl, hM, FrI.rf _ _⟩) (fun q => ⟨_, S, ev_isPart (by omega) S v2, b01_if (fun _ => ⟨rfl, hM, FrI.rf _ _⟩) (fun q2 => absurd ⟨q, q2⟩ c)⟩)⟩)
