/-! order -/
theorem pub_order {L : Lnd} (h : WFc L) (v : Int32) : Both mX6_order mX7_order [.int v] L := by
  have hW := h.1
  have hn4 := hW.nB
  have hn6 := hW.nF
  have oc : ∀ r j, r ≤ 8 → ¬ orP (1 + r) j := fun r j q => by unfold orP; omega
  by_cases cF : nF L = 0
  · -- no field
    have gC : ∀ S, HoC S 1 L → gI S 1 8 = 0 := fun S hC => by rw [hC.gnF hW, cF]; rfl
    have gM : ∀ S, HoM S 58 0 L → gI S 58 18 = 0 := fun S hM => by rw [hM.s.1, hn6.2, cF]; rfl
    by_cases c : v = 0 ∨ ((10 : Int) ≤ v.toInt ∧ v.toInt ≤ 13)
    · refine ⟨-2, L, fun d S hd hC => ?_, fun d S hd hM => ?_, h⟩
      · obtain ⟨d, rfl, hd⟩ := dsucc hd
        refine zEv.of cw_X6_order (Nat.le_of_ble_eq_true rfl) rfl (blk_X6_order_0 ⟨fun _ => ⟨fun q => absurd (gC S hC) q, fun _ => ⟨rfl, hC, FrI.rf _ _⟩⟩, fun q => ⟨_, S, ev_within S v 10 13, b01_if' (fun _ => ⟨fun q => absurd (gC S hC) q, fun _ => ⟨rfl, hC, FrI.rf _ _⟩⟩) (fun q2 => ?_)⟩⟩)
        rcases c with c | c
        · exact absurd c q
        · exact absurd c q2
      · obtain ⟨d, rfl, hd⟩ := dsucc hd
        refine zEv.of cw_X7_order (Nat.le_of_ble_eq_true rfl) rfl (blk_X7_order_0 ⟨fun _ => ⟨fun q => absurd (gM S hM) q, fun _ => ⟨rfl, hM, FrI.rf _ _⟩⟩, fun q => ⟨_, S, ev_inI S v 10 13 10 13 rfl rfl, b01_if' (fun _ => ⟨fun q => absurd (gM S hM) q, fun _ => ⟨rfl, hM, FrI.rf _ _⟩⟩) (fun q2 => ?_)⟩⟩)
        rcases c with c | c
        · exact absurd c q
        · exact absurd c q2
    · refine ⟨-1, L, fun d S hd hC => ?_, fun d S hd hM => ?_, h⟩
      · obtain ⟨d, rfl, hd⟩ := dsucc hd
        exact zEv.of cw_X6_order (Nat.le_of_ble_eq_true rfl) rfl (blk_X6_order_0 ⟨fun q => absurd (Or.inl q) c, fun q => ⟨_, S, ev_within S v 10 13, b01_if' (fun q2 => absurd (Or.inr q2) c) (fun q2 => ⟨rfl, hC, FrI.rf _ _⟩)⟩⟩)
      · obtain ⟨d, rfl, hd⟩ := dsucc hd
        exact zEv.of cw_X7_order (Nat.le_of_ble_eq_true rfl) rfl (blk_X7_order_0 ⟨fun q => absurd (Or.inl q) c, fun q => ⟨_, S, ev_inI S v 10 13 10 13 rfl rfl, b01_if' (fun q2 => absurd (Or.inr q2) c) (fun q2 => ⟨rfl, hM, FrI.rf _ _⟩)⟩⟩)
  · have hF : 0 < nF L := by omega
    have z6 : ¬ nI (nF L) = 0 := fun z => nI_ne (a := nF L) (b := 0) (by omega) (by omega) (by omega) (z.trans nI_0.symm)
    have gC : ∀ S, HoC S 1 L → ¬ gI S 1 8 = 0 := fun S hC => by rw [hC.gnF hW]; exact z6
    have gM : ∀ S, HoM S 58 0 L → ¬ gI S 58 18 = 0 := fun S hM => by rw [hM.s.1, hn6.2, ← nI_iv]; exact z6
    by_cases c0 : v = 0
    · refine ⟨iv (orF L (nF L ^ nB L)).2, L, fun d S hd hC => ?_, fun d S hd hM => ?_, h⟩
      · obtain ⟨d, rfl, hd⟩ := dsucc hd
        exact zEv.of cw_X6_order (Nat.le_of_ble_eq_true rfl) rfl (blk_X6_order_0 ⟨fun _ => ⟨fun _ => ⟨fun _ => ⟨_, ev_findBest (by omega) hC hW hF, fun S4 k4 => ⟨fun q => absurd c0 q, fun _ => ⟨by rw [k4.1], hC.frI' k4.2.2 oc, k4.2.2.mono or_cls⟩⟩⟩, fun q => absurd c0 q⟩, fun q => absurd q (gC S hC)⟩, fun q => absurd c0 q⟩)
      · obtain ⟨d, rfl, hd⟩ := dsucc hd
        exact zEv.of cw_X7_order (Nat.le_of_ble_eq_true rfl) rfl (blk_X7_order_0 ⟨fun _ => ⟨fun _ => ⟨_, ev_findOrder (by omega) hM h hF, fun S3 k3 => ⟨fun q => absurd c0 q, fun _ => ⟨by rw [k3.1], hM.frI k3.2.2 nw_58, k3.2.2.mono nw_mod⟩⟩⟩, fun q => absurd q (gM S hM)⟩, fun q => absurd c0 q⟩)
    · by_cases c1 : (10 : Int) ≤ v.toInt ∧ v.toInt ≤ 13
      · obtain ⟨b, hb, ev⟩ : ∃ b : Nat, b < 4 ∧ v - 10 = nI b := by
          refine ⟨(v.toInt - 10).toNat, by omega, ?_⟩
          have := iv_of v
          rw [← this, show (10 : Int32) = iv 10 from rfl, iv_sub, iv_nI (by omega)]
          rw [iv_of v]
        by_cases cb : b < nB L
        · have isb : 0 ≤ (nI b).toInt ∧ (nI b).toInt ≤ L 0 9 - 1 := by rw [nI_toInt (by omega)]; omega
          refine ⟨nI ((orF L (nF L ^ nB L)).1 b), L, fun d S hd hC => ?_, fun d S hd hM => ?_, h⟩
          · obtain ⟨d, rfl, hd⟩ := dsucc hd
            refine zEv.of cw_X6_order (Nat.le_of_ble_eq_true rfl) rfl (blk_X6_order_0 ⟨fun q => absurd q c0, fun _ => ⟨_, S, ev_within S v 10 13, b01_if' (fun _ => ⟨fun _ => ⟨fun q => absurd q c0, fun _ => ?_⟩, fun q => absurd q (gC S hC)⟩) (fun q => absurd c1 q)⟩⟩)
            rw [ev]
            refine ⟨_, S, ev_isBand (by omega) hC hW _, b01_if' (fun _ => ⟨_, ev_findBest (by omega) hC hW hF, fun S4 k4 => ⟨fun _ => ⟨ix_in (by omega) (by omega), ?_⟩, fun q => absurd q c0⟩⟩) (fun q => absurd isb q)⟩
            rw [ix_cl (by omega), k4.2.1 b cb]
            exact ⟨rfl, hC.frI' k4.2.2 oc, k4.2.2.mono or_cls⟩
          · obtain ⟨d, rfl, hd⟩ := dsucc hd
            refine zEv.of cw_X7_order (Nat.le_of_ble_eq_true rfl) rfl (blk_X7_order_0 ⟨fun q => absurd q c0, fun _ => ⟨_, S, ev_inI S v 10 13 10 13 rfl rfl, b01_if' (fun _ => ⟨fun _ => ⟨_, ev_findOrder (by omega) hM h hF, fun S3 k3 => ⟨fun _ => ?_, fun q => absurd q c0⟩⟩, fun q => absurd q (gM S hM)⟩) (fun q => absurd c1 q)⟩⟩)
            have M3 := hM.frI k3.2.2 nw_58
            rw [ev]
            refine ⟨_, S3, ev_isBand7 (by omega) M3 hW _, b01_if (fun q => absurd isb q) (fun _ => ⟨ix_in (by omega) (by omega), ?_⟩)⟩
            rw [ix_cl (by omega), k3.2.1 b cb]
            exact ⟨rfl, M3, k3.2.2.mono nw_mod⟩
        · have isb : ¬ (0 ≤ (nI b).toInt ∧ (nI b).toInt ≤ L 0 9 - 1) := by rw [nI_toInt (by omega)]; omega
          refine ⟨-4, L, fun d S hd hC => ?_, fun d S hd hM => ?_, h⟩
          · obtain ⟨d, rfl, hd⟩ := dsucc hd
            refine zEv.of cw_X6_order (Nat.le_of_ble_eq_true rfl) rfl (blk_X6_order_0 ⟨fun q => absurd q c0, fun _ => ⟨_, S, ev_within S v 10 13, b01_if' (fun _ => ⟨fun _ => ⟨fun q => absurd q c0, fun _ => ?_⟩, fun q => absurd q (gC S hC)⟩) (fun q => absurd c1 q)⟩⟩)
            rw [ev]
            exact ⟨_, S, ev_isBand (by omega) hC hW _, b01_if' (fun q => absurd q isb) (fun _ => ⟨rfl, hC, FrI.rf _ _⟩)⟩
          · obtain ⟨d, rfl, hd⟩ := dsucc hd
            refine zEv.of cw_X7_order (Nat.le_of_ble_eq_true rfl) rfl (blk_X7_order_0 ⟨fun q => absurd q c0, fun _ => ⟨_, S, ev_inI S v 10 13 10 13 rfl rfl, b01_if' (fun _ => ⟨fun _ => ⟨_, ev_findOrder (by omega) hM h hF, fun S3 k3 => ⟨fun _ => ?_, fun q => absurd q c0⟩⟩, fun q => absurd q (gM S hM)⟩) (fun q => absurd c1 q)⟩⟩)
            have M3 := hM.frI k3.2.2 nw_58
            rw [ev]
            exact ⟨_, S3, ev_isBand7 (by omega) M3 hW _, b01_if (fun _ => ⟨rfl, M3, k3.2.2.mono nw_mod⟩) (fun q => absurd q isb)⟩
      · refine ⟨-1, L, fun d S hd hC => ?_, fun d S hd hM => ?_, h⟩
        · obtain ⟨d, rfl, hd⟩ := dsucc hd
          exact zEv.of cw_X6_order (Nat.le_of_ble_eq_true rfl) rfl (blk_X6_order_0 ⟨fun q => absurd q c0, fun q => ⟨_, S, ev_within S v 10 13, b01_if' (fun q2 => absurd q2 c1) (fun q2 => ⟨rfl, hC, FrI.rf _ _⟩)⟩⟩)
        · obtain ⟨d, rfl, hd⟩ := dsucc hd
          exact zEv.of cw_X7_order (Nat.le_of_ble_eq_true rfl) rfl (blk_X7_order_0 ⟨fun q => absurd q c0, fun q => ⟨_, S, ev_inI S v 10 13 10 13 rfl rfl, b01_if' (fun q2 => absurd q2 c1) (fun q2 => ⟨rfl, hM, FrI.rf _ _⟩)⟩⟩)
