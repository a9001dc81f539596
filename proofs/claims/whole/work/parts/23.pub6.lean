/-! alter, hire, see, field -/
theorem ev_replace {d : Nat} (hd : 1 ≤ d) {A : Nat} (hA : zAr A 0 6) (S : ZSt) (f : Nat) (hf : f < 6) (v most : Int32) : zEv d mX6_replace [.ref A, .int (nI f), .int v, .int most] S (zY (some (.int (if 0 ≤ v.toInt ∧ v.toInt ≤ most.toInt then gI S A f else -1))) (fun S' => S' = if 0 ≤ v.toInt ∧ v.toInt ≤ most.toInt then pI S A f v else S)) := by
  obtain ⟨d, rfl⟩ : ∃ d', d = d' + 1 := ⟨d - 1, by omega⟩
  have e6 : (Int32.ofNat 6 - 1 : Int32).toInt = 5 := by decide
  have efi : (nI f).toInt = (f : Int) := nI_toInt (by omega)
  have z0 : Int32.toInt 0 = 0 := by decide
  refine zEv.of cw_X6_replace (Nat.le_of_ble_eq_true rfl) rfl (blk_X6_replace_0 hA ⟨_, S, ev_within S v 0 most, b01_if (fun q => ?_) (fun q => ⟨_, S, ev_within S (nI f) 0 _, b01_if' (fun q2 => ⟨ix_in (by omega) (by omega), ix_in (by omega) (by omega), ?_⟩) (fun q2 => ?_)⟩)⟩)
  · have q : ¬ (0 ≤ v.toInt ∧ v.toInt ≤ most.toInt) := q
    rw [if_neg q, if_neg q]; exact ⟨rfl, rfl⟩
  · have q : (0 ≤ v.toInt ∧ v.toInt ≤ most.toInt) := q
    rw [ix_cl (by omega), if_pos q, if_pos q]; exact ⟨rfl, rfl⟩
  · rw [e6, efi] at q2
    exact absurd ⟨by omega, by omega⟩ q2
theorem eq012 {v : Int32} (h : 0 ≤ v.toInt ∧ v.toInt ≤ 2) : v = nI 0 ∨ v = nI 1 ∨ v = nI 2 := by
  obtain ⟨f, hf, rfl⟩ := toNat_of (n := 3) h.1 (by omega)
  rcases (show f = 0 ∨ f = 1 ∨ f = 2 by omega) with rfl | rfl | rfl
  · exact Or.inl rfl
  · exact Or.inr (Or.inl rfl)
  · exact Or.inr (Or.inr rfl)
theorem pub_alter {L : Lnd} (h : WFc L) (v1 v2 v3 : Int32) : Both mX6_alter mX7_alter [.int v1, .int v2, .int v3] L := by
  have hn6 := h.1.nF.1
  have n0 : (nI 0 : Int32) = 0 := nI_0
  by_cases cw : (0 : Int) ≤ v2.toInt ∧ v2.toInt ≤ 2
  · by_cases cf : (0 ≤ v1.toInt ∧ v1.toInt ≤ L 0 8 - 1)
    · obtain ⟨f, hf, rfl⟩ := isF_of h.1 cf
      rcases eq012 cw with rfl | rfl | rfl
      · by_cases cv : (0 : Int) ≤ v3.toInt ∧ v3.toInt ≤ 3
        · refine ⟨iv (L 1 f), updL L 1 f v3.toInt, fun d S hd hC => ?_, fun d S hd hM => ?_, WFc_put h (by omega) (fun _ => cv) (by omega) (by omega) (by omega) (by omega) (by omega)⟩
          · obtain ⟨d, rfl, hd⟩ := dsucc hd
            have e := ev_replace (d := d) (by omega) ar_2 S f (by omega) v3 3
            rw [if_pos (show 0 ≤ v3.toInt ∧ v3.toInt ≤ (3 : Int32).toInt from cv), if_pos (show 0 ≤ v3.toInt ∧ v3.toInt ≤ (3 : Int32).toInt from cv)] at e
            refine zEv.of cw_X6_alter (Nat.le_of_ble_eq_true rfl) rfl (blk_X6_alter_0 ⟨_, S, ev_isField (by omega) hC h.1 _, b01_if' (fun _ => ⟨fun q => ⟨_, _, e, ?_⟩, fun q => absurd q (by decide), fun q => absurd q (by decide), fun q => absurd q (by decide)⟩) (fun q => absurd cf q)⟩)
            rintro S4 rfl
            exact ⟨by rw [show gI S 2 f = iv (L 1 f) from hC.g (inR_f (r := 1) (by omega) hf)], hC.putv 1 f v3 (by omega), (FrI.rf _ _).pI _ (by unfold clsP; omega)⟩
          · obtain ⟨d, rfl, hd⟩ := dsucc hd
            refine zEv.of cw_X7_alter (Nat.le_of_ble_eq_true rfl) rfl (blk_X7_alter_0 ⟨fun q => absurd n0 q, fun q => ⟨_, S, ev_inI S v3 0 3 0 3 rfl rfl, ⟨_, S, ev_isField7 (by omega) hM h.1 _, b01_if (fun q => absurd cf q) (fun _ => b01_if (fun q => absurd cv q) (fun _ => ⟨_, _, by rw [ix3]; exact ev_becomes S (3 * f + 0) (by omega) v3, ?_⟩))⟩⟩⟩)
            rintro S5 rfl
            have e := hM.putv h.1.n (r := 1) (j := f) v3 (inR_f (by omega) hf) (by omega)
            rw [mpos_f (by omega)] at e
            exact ⟨by rw [(hM.f hf).1], e, (FrI.rf _ _).pI _ (by unfold modP; omega)⟩
        · refine ⟨-1, L, fun d S hd hC => ?_, fun d S hd hM => ?_, h⟩
          · obtain ⟨d, rfl, hd⟩ := dsucc hd
            have e := ev_replace (d := d) (by omega) ar_2 S f (by omega) v3 3
            rw [if_neg (show ¬ (0 ≤ v3.toInt ∧ v3.toInt ≤ (3 : Int32).toInt) from cv), if_neg (show ¬ (0 ≤ v3.toInt ∧ v3.toInt ≤ (3 : Int32).toInt) from cv)] at e
            refine zEv.of cw_X6_alter (Nat.le_of_ble_eq_true rfl) rfl (blk_X6_alter_0 ⟨_, S, ev_isField (by omega) hC h.1 _, b01_if' (fun _ => ⟨fun q => ⟨_, _, e, ?_⟩, fun q => absurd q (by decide), fun q => absurd q (by decide), fun q => absurd q (by decide)⟩) (fun q => absurd cf q)⟩)
            rintro S4 rfl
            exact ⟨rfl, hC, FrI.rf _ _⟩
          · obtain ⟨d, rfl, hd⟩ := dsucc hd
            exact zEv.of cw_X7_alter (Nat.le_of_ble_eq_true rfl) rfl (blk_X7_alter_0 ⟨fun q => absurd n0 q, fun q => ⟨_, S, ev_inI S v3 0 3 0 3 rfl rfl, ⟨_, S, ev_isField7 (by omega) hM h.1 _, b01_if (fun q => absurd cf q) (fun _ => b01_if (fun _ => ⟨rfl, hM, FrI.rf _ _⟩) (fun q => absurd q cv))⟩⟩⟩)
      · by_cases cv : (0 : Int) ≤ v3.toInt ∧ v3.toInt ≤ 99
        · refine ⟨iv (L 2 f), updL L 2 f v3.toInt, fun d S hd hC => ?_, fun d S hd hM => ?_, WFc_put h (by omega) (by omega) (fun _ => cv) (by omega) (by omega) (by omega) (by omega)⟩
          · obtain ⟨d, rfl, hd⟩ := dsucc hd
            have e := ev_replace (d := d) (by omega) ar_3 S f (by omega) v3 99
            rw [if_pos (show 0 ≤ v3.toInt ∧ v3.toInt ≤ (99 : Int32).toInt from cv), if_pos (show 0 ≤ v3.toInt ∧ v3.toInt ≤ (99 : Int32).toInt from cv)] at e
            refine zEv.of cw_X6_alter (Nat.le_of_ble_eq_true rfl) rfl (blk_X6_alter_0 ⟨_, S, ev_isField (by omega) hC h.1 _, b01_if' (fun _ => ⟨fun q => absurd q (by decide), fun q => ⟨_, _, e, ?_⟩, fun q => absurd q (by decide), fun q => absurd q (by decide)⟩) (fun q => absurd cf q)⟩)
            rintro S4 rfl
            exact ⟨by rw [show gI S 3 f = iv (L 2 f) from hC.g (inR_f (r := 2) (by omega) hf)], hC.putv 2 f v3 (by omega), (FrI.rf _ _).pI _ (by unfold clsP; omega)⟩
          · obtain ⟨d, rfl, hd⟩ := dsucc hd
            refine zEv.of cw_X7_alter (Nat.le_of_ble_eq_true rfl) rfl (blk_X7_alter_0 ⟨fun q => ⟨fun q => absurd rfl q, fun q => ⟨_, S, ev_areEars (by omega) S v3, ⟨_, S, ev_isField7 (by omega) hM h.1 _, b01_if (fun q => absurd cf q) (fun _ => b01_if (fun q => absurd cv q) (fun _ => ⟨_, _, by rw [ix3]; exact ev_becomes S (3 * f + 1) (by omega) v3, ?_⟩))⟩⟩⟩, fun q => absurd q (by decide)⟩)
            rintro S5 rfl
            have e := hM.putv h.1.n (r := 2) (j := f) v3 (inR_f (by omega) hf) (by omega)
            rw [mpos_f (by omega)] at e
            exact ⟨by rw [(hM.f hf).2.1], e, (FrI.rf _ _).pI _ (by unfold modP; omega)⟩
        · refine ⟨-1, L, fun d S hd hC => ?_, fun d S hd hM => ?_, h⟩
          · obtain ⟨d, rfl, hd⟩ := dsucc hd
            have e := ev_replace (d := d) (by omega) ar_3 S f (by omega) v3 99
            rw [if_neg (show ¬ (0 ≤ v3.toInt ∧ v3.toInt ≤ (99 : Int32).toInt) from cv), if_neg (show ¬ (0 ≤ v3.toInt ∧ v3.toInt ≤ (99 : Int32).toInt) from cv)] at e
            refine zEv.of cw_X6_alter (Nat.le_of_ble_eq_true rfl) rfl (blk_X6_alter_0 ⟨_, S, ev_isField (by omega) hC h.1 _, b01_if' (fun _ => ⟨fun q => absurd q (by decide), fun q => ⟨_, _, e, ?_⟩, fun q => absurd q (by decide), fun q => absurd q (by decide)⟩) (fun q => absurd cf q)⟩)
            rintro S4 rfl
            exact ⟨rfl, hC, FrI.rf _ _⟩
          · obtain ⟨d, rfl, hd⟩ := dsucc hd
            exact zEv.of cw_X7_alter (Nat.le_of_ble_eq_true rfl) rfl (blk_X7_alter_0 ⟨fun q => ⟨fun q => absurd rfl q, fun q => ⟨_, S, ev_areEars (by omega) S v3, ⟨_, S, ev_isField7 (by omega) hM h.1 _, b01_if (fun q => absurd cf q) (fun _ => b01_if (fun _ => ⟨rfl, hM, FrI.rf _ _⟩) (fun q => absurd q cv))⟩⟩⟩, fun q => absurd q (by decide)⟩)
      · by_cases cv : (0 : Int) ≤ v3.toInt ∧ v3.toInt ≤ 9
        · refine ⟨iv (L 3 f), updL L 3 f v3.toInt, fun d S hd hC => ?_, fun d S hd hM => ?_, WFc_put h (by omega) (by omega) (by omega) (fun _ => cv) (by omega) (by omega) (by omega)⟩
          · obtain ⟨d, rfl, hd⟩ := dsucc hd
            have e := ev_replace (d := d) (by omega) ar_4 S f (by omega) v3 9
            rw [if_pos (show 0 ≤ v3.toInt ∧ v3.toInt ≤ (9 : Int32).toInt from cv), if_pos (show 0 ≤ v3.toInt ∧ v3.toInt ≤ (9 : Int32).toInt from cv)] at e
            refine zEv.of cw_X6_alter (Nat.le_of_ble_eq_true rfl) rfl (blk_X6_alter_0 ⟨_, S, ev_isField (by omega) hC h.1 _, b01_if' (fun _ => ⟨fun q => absurd q (by decide), fun q => absurd q (by decide), fun q => ⟨_, _, e, ?_⟩, fun q => absurd q (by decide)⟩) (fun q => absurd cf q)⟩)
            rintro S4 rfl
            exact ⟨by rw [show gI S 4 f = iv (L 3 f) from hC.g (inR_f (r := 3) (by omega) hf)], hC.putv 3 f v3 (by omega), (FrI.rf _ _).pI _ (by unfold clsP; omega)⟩
          · obtain ⟨d, rfl, hd⟩ := dsucc hd
            refine zEv.of cw_X7_alter (Nat.le_of_ble_eq_true rfl) rfl (blk_X7_alter_0 ⟨fun q => ⟨fun q => ⟨fun q => absurd rfl q, fun q => ⟨_, S, ev_inI S v3 0 9 0 9 rfl rfl, b01_if (fun q => absurd cv q) (fun _ => ⟨_, S, ev_isField7 (by omega) hM h.1 _, b01_if (fun q => absurd cf q) (fun _ => ⟨fun q => absurd q (by decide), fun _ => ⟨_, _, by rw [ix3]; exact ev_becomes S (3 * f + 2) (by omega) v3, ?_⟩⟩)⟩)⟩⟩, fun q => absurd q (by decide)⟩, fun q => absurd q (by decide)⟩)
            rintro S5 rfl
            have e := hM.putv h.1.n (r := 3) (j := f) v3 (inR_f (by omega) hf) (by omega)
            rw [mpos_f (by omega)] at e
            exact ⟨by rw [(hM.f hf).2.2], e, (FrI.rf _ _).pI _ (by unfold modP; omega)⟩
        · refine ⟨-1, L, fun d S hd hC => ?_, fun d S hd hM => ?_, h⟩
          · obtain ⟨d, rfl, hd⟩ := dsucc hd
            have e := ev_replace (d := d) (by omega) ar_4 S f (by omega) v3 9
            rw [if_neg (show ¬ (0 ≤ v3.toInt ∧ v3.toInt ≤ (9 : Int32).toInt) from cv), if_neg (show ¬ (0 ≤ v3.toInt ∧ v3.toInt ≤ (9 : Int32).toInt) from cv)] at e
            refine zEv.of cw_X6_alter (Nat.le_of_ble_eq_true rfl) rfl (blk_X6_alter_0 ⟨_, S, ev_isField (by omega) hC h.1 _, b01_if' (fun _ => ⟨fun q => absurd q (by decide), fun q => absurd q (by decide), fun q => ⟨_, _, e, ?_⟩, fun q => absurd q (by decide)⟩) (fun q => absurd cf q)⟩)
            rintro S4 rfl
            exact ⟨rfl, hC, FrI.rf _ _⟩
          · obtain ⟨d, rfl, hd⟩ := dsucc hd
            exact zEv.of cw_X7_alter (Nat.le_of_ble_eq_true rfl) rfl (blk_X7_alter_0 ⟨fun q => ⟨fun q => ⟨fun q => absurd rfl q, fun q => ⟨_, S, ev_inI S v3 0 9 0 9 rfl rfl, b01_if (fun _ => ⟨_, S, ev_isField7 (by omega) hM h.1 _, b01_if (fun q => absurd cf q) (fun _ => ⟨fun _ => ⟨rfl, hM, FrI.rf _ _⟩, fun q => absurd rfl q⟩)⟩) (fun q => absurd q cv)⟩⟩, fun q => absurd q (by decide)⟩, fun q => absurd q (by decide)⟩)
    · refine ⟨-1, L, fun d S hd hC => ?_, fun d S hd hM => ?_, h⟩
      · obtain ⟨d, rfl, hd⟩ := dsucc hd
        exact zEv.of cw_X6_alter (Nat.le_of_ble_eq_true rfl) rfl (blk_X6_alter_0 ⟨_, S, ev_isField (by omega) hC h.1 _, b01_if' (fun q => absurd q cf) (fun _ => ⟨rfl, hC, FrI.rf _ _⟩)⟩)
      · obtain ⟨d, rfl, hd⟩ := dsucc hd
        have bad : ∀ {A : Prop}, (b01 (0 ≤ v1.toInt ∧ v1.toInt ≤ L 0 8 - 1) = 0 → zY (some (.int (-1))) (fun S' => HoM S' 58 0 L ∧ FrI modP S S') (some (.int (-1))) S) ∧ (¬ b01 (0 ≤ v1.toInt ∧ v1.toInt ≤ L 0 8 - 1) = 0 → A) := b01_if (fun _ => ⟨rfl, hM, FrI.rf _ _⟩) (fun q => absurd q cf)
        exact zEv.of cw_X7_alter (Nat.le_of_ble_eq_true rfl) rfl (blk_X7_alter_0 ⟨fun q => ⟨fun q => ⟨fun q => ⟨_, S, ev_isField7 (by omega) hM h.1 _, bad⟩, fun q => ⟨_, S, ev_inI S v3 0 9 0 9 rfl rfl, fun _ => ⟨_, S, ev_isField7 (by omega) hM h.1 _, bad⟩, fun _ => ⟨_, S, ev_isField7 (by omega) hM h.1 _, bad⟩⟩⟩, fun q => ⟨_, S, ev_areEars (by omega) S v3, _, S, ev_isField7 (by omega) hM h.1 _, bad⟩⟩, fun q => ⟨_, S, ev_inI S v3 0 3 0 3 rfl rfl, _, S, ev_isField7 (by omega) hM h.1 _, bad⟩⟩)
  · have d0 : ¬ v2 = 0 := fun q => cw (by rw [q]; decide)
    have d1 : ¬ v2 = 1 := fun q => cw (by rw [q]; decide)
    have d2 : ¬ v2 = 2 := fun q => cw (by rw [q]; decide)
    refine ⟨-1, L, fun d S hd hC => ?_, fun d S hd hM => ?_, h⟩
    · obtain ⟨d, rfl, hd⟩ := dsucc hd
      exact zEv.of cw_X6_alter (Nat.le_of_ble_eq_true rfl) rfl (blk_X6_alter_0 ⟨_, S, ev_isField (by omega) hC h.1 _, b01_if' (fun _ => ⟨fun q => absurd q d0, fun q => absurd q d1, fun q => absurd q d2, fun _ => ⟨rfl, hC, FrI.rf _ _⟩⟩) (fun _ => ⟨rfl, hC, FrI.rf _ _⟩)⟩)
    · obtain ⟨d, rfl, hd⟩ := dsucc hd
      exact zEv.of cw_X7_alter (Nat.le_of_ble_eq_true rfl) rfl (blk_X7_alter_0 ⟨fun _ => ⟨fun _ => ⟨fun _ => ⟨_, S, ev_isField7 (by omega) hM h.1 _, b01_if (fun _ => ⟨rfl, hM, FrI.rf _ _⟩) (fun _ => ⟨fun _ => ⟨rfl, hM, FrI.rf _ _⟩, fun q => absurd rfl q⟩)⟩, fun q => absurd q d2⟩, fun q => absurd q d1⟩, fun q => absurd q d0⟩)
theorem pub_field {L : Lnd} (h : WFc L) (v1 v2 : Int32) : Both mX6_field mX7_field [.int v1, .int v2] L := by
  have hn6 := h.1.nF.1
  by_cases cf : (0 ≤ v1.toInt ∧ v1.toInt ≤ L 0 8 - 1)
  · obtain ⟨f, hf, rfl⟩ := isF_of h.1 cf
    have w := h.1.f hf
    have hh := hdL_in h.1 f
    refine ⟨if v2 = 0 then iv (L 1 f) else if v2 = 1 then iv (L 2 f) else if v2 = 2 then iv (L 3 f) else if v2 = 3 then iv (hdL L f) else if v2 = 4 then 80 + iv (gro (L 1 f) (hdL L f - L 3 f)) else if v2 = 5 then iv (hee (L 1 f)) else -1, L, fun d S hd hC => ?_, fun d S hd hM => ?_, h⟩
    · obtain ⟨d, rfl, hd⟩ := dsucc hd
      have g2 : gI S 2 f = iv (L 1 f) := hC.g (inR_f (r := 1) (by omega) hf)
      have g3 : gI S 3 f = iv (L 2 f) := hC.g (inR_f (r := 2) (by omega) hf)
      have g4 : gI S 4 f = iv (L 3 f) := hC.g (inR_f (r := 3) (by omega) hf)
      have ix : vp_in (nI f) 6 := ix_in (by omega) (by omega)
      refine zEv.of cw_X6_field (Nat.le_of_ble_eq_true rfl) rfl (blk_X6_field_0 ⟨_, S, ev_isField (by omega) hC h.1 _, b01_if' (fun _ => ⟨_, S, ev_heardAtN zLd_1 hC h.1 f (by omega), ?_⟩) (fun q => absurd cf q)⟩)
      rw [ix_cl (by omega), g2, g3, g4]
      refine ⟨fun q => ⟨ix, ?_⟩, fun q => ⟨ix, ?_⟩, fun q => ⟨ix, ?_⟩, fun q => ?_, fun q => ⟨ix, ix, _, S, by rw [iv_sub]; exact ev_growth S _ _ (by unfold inB; omega) (by unfold inB; omega), ?_⟩, fun q => ⟨ix, _, S, ev_heed S _ (by unfold inB; omega), ?_⟩, fun q => ?_⟩
      · subst q; exact ⟨rfl, hC, FrI.rf _ _⟩
      · subst q; exact ⟨rfl, hC, FrI.rf _ _⟩
      · subst q; exact ⟨rfl, hC, FrI.rf _ _⟩
      · subst q; exact ⟨rfl, hC, FrI.rf _ _⟩
      · subst q; exact ⟨rfl, hC, FrI.rf _ _⟩
      · subst q; exact ⟨rfl, hC, FrI.rf _ _⟩
      · have ne : ∀ k : Int32, 0 ≤ k.toInt → k.toInt ≤ 5 → ¬ v2 = k := fun k a b z => by rw [z] at q; omega
        rw [if_neg (ne 0 (by decide) (by decide)), if_neg (ne 1 (by decide) (by decide)), if_neg (ne 2 (by decide) (by decide)), if_neg (ne 3 (by decide) (by decide)), if_neg (ne 4 (by decide) (by decide)), if_neg (ne 5 (by decide) (by decide))]
        exact ⟨rfl, hC, FrI.rf _ _⟩
    · obtain ⟨d, rfl, hd⟩ := dsucc hd
      refine zEv.of cw_X7_field (Nat.le_of_ble_eq_true rfl) rfl (blk_X7_field_0 ⟨_, S, ev_isField7 (by omega) hM h.1 _, b01_if' (fun _ => ⟨_, ev_starts hM h.1, fun S3 k3 => ?_⟩) (fun q => absurd cf q)⟩)
      have fr : FrI nwP S S3 := k3.2.2.2.2.I st_nw
      have g := k3.1.g1 hf
      have en : HoM S3 58 0 L ∧ FrI modP S S3 := ⟨hM.frI fr nw_58, fr.mono nw_mod⟩
      refine ⟨fun q => ?_, fun q => ?_, fun q => ?_, fun q => ⟨_, S3, ev_heardAt7N (by omega) k3.1 h.1 f (by omega), ?_⟩, fun q => ⟨_, S3, ev_growsBy (by omega) k3.1 h.1 f hf, ?_⟩, fun q => ⟨_, S3, ev_heeds (by omega) k3.1 h.1 f hf, ?_⟩, fun q => ?_⟩
      · subst q; exact ⟨_, S3, ev_of S3 f 0 (by omega), by rw [g.1]; rfl, en⟩
      · subst q; exact ⟨_, S3, ev_of S3 f 1 (by omega), by rw [g.2.1]; rfl, en⟩
      · subst q; exact ⟨_, S3, ev_of S3 f 2 (by omega), by rw [g.2.2]; rfl, en⟩
      · subst q; exact ⟨rfl, en⟩
      · subst q; exact ⟨rfl, en⟩
      · subst q; exact ⟨rfl, en⟩
      · have ne : ∀ k : Int32, 0 ≤ k.toInt → k.toInt ≤ 5 → ¬ v2 = k := fun k a b z => by rw [z] at q; omega
        rw [if_neg (ne 0 (by decide) (by decide)), if_neg (ne 1 (by decide) (by decide)), if_neg (ne 2 (by decide) (by decide)), if_neg (ne 3 (by decide) (by decide)), if_neg (ne 4 (by decide) (by decide)), if_neg (ne 5 (by decide) (by decide))]
        exact ⟨rfl, en⟩
  · refine ⟨-1, L, fun d S hd hC => ?_, fun d S hd hM => ?_, h⟩
    · obtain ⟨d, rfl, hd⟩ := dsucc hd
      exact zEv.of cw_X6_field (Nat.le_of_ble_eq_true rfl) rfl (blk_X6_field_0 ⟨_, S, ev_isField (by omega) hC h.1 _, b01_if' (fun q => absurd q cf) (fun _ => ⟨rfl, hC, FrI.rf _ _⟩)⟩)
    · obtain ⟨d, rfl, hd⟩ := dsucc hd
      exact zEv.of cw_X7_field (Nat.le_of_ble_eq_true rfl) rfl (blk_X7_field_0 ⟨_, S, ev_isField7 (by omega) hM h.1 _, b01_if' (fun q => absurd q cf) (fun _ => ⟨rfl, hM, FrI.rf _ _⟩)⟩)
