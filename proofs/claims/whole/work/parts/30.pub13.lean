/-! kinds, blights -/
theorem or_step {s : Nat → Bool} {k : Nat} : orS s k ||| (b01 (s k = true) <<< (nI k &&& 31)) = orS s (k + 1) := by
  rw [orS]
  by_cases q : s k = true
  · rw [if_pos q, b01_p q]; rfl
  · rw [if_neg q, b01_f q, Int32.zero_shiftLeft, Int32.or_zero]
def sok (L : Lnd) (f : Nat) (k : Nat) : Bool := soR (updL L 1 f (k : Int)) (nS L) 0
def sob (L : Lnd) (f : Nat) (b : Nat) : Bool := soR (updL L 3 f (b : Int)) (nS L) 0
theorem ev_blightsAsSeen {d : Nat} (hdp : 5 ≤ d) {S : ZSt} {L : Lnd} (hC : HoC S 1 L) (hW : WF L) (f : Nat) (hf : f < nF L) : zEv d mX6_blightsAsSeen [.ref 0, .int (nI f)] S (zX (some (.int (orS (sob L f) 10))) S) := by
  obtain ⟨d, rfl⟩ : ∃ d', d = d' + 1 := ⟨d - 1, by omega⟩
  have hn6 := hW.nF.1
  have g2 : gI S 2 f = iv (L 1 f) := hC.g (inR_f (r := 1) (by omega) hf)
  refine zEv.of cw_X6_blightsAsSeen (Nat.le_of_ble_eq_true rfl) rfl (blk_X6_blightsAsSeen_0 ?_)
  have key : ∀ (m j : Nat), j + m = 10 → zSem (d + 1) mX6_blightsAsSeen 4 [some (.ref 0), some (.int (nI f)), some (.int (orS (sob L f) j)), some (.int (nI j))] [] S (zX (some (.int (orS (sob L f) 10))) S) := by
    intro m
    induction m with
    | zero =>
      intro j hj
      obtain rfl : j = 10 := by omega
      exact blk_X6_blightsAsSeen_4 ⟨fun q => ⟨rfl, rfl⟩, fun q => absurd (nI_lt (a := 9) (b := 10) (by omega) (by omega)) q⟩
    | succ m ih =>
      intro j hj
      have nx := ih (j + 1) (by omega)
      rw [orS] at nx
      have e := ev_isAsSeen (d := d) (by omega) zLd_1 hC hW f hf (L 1 f) (j : Int) (hW.f hf).1 (by omega)
      rw [kb_3, ← nI_iv] at e
      refine blk_X6_blightsAsSeen_4 ⟨fun q => absurd q (nI_nlt (a := 9) (b := j) (by omega) (by omega)), fun q => ⟨ix_in (by omega) (by omega), ?_⟩⟩
      rw [ix_cl (by omega), g2, nI_1]
      refine ⟨_, S, e, b01_if (fun q2 => ?_) (fun q2 => ?_)⟩
      · rw [if_neg (show ¬ sob L f j = true from q2)] at nx; exact nx
      · rw [if_pos (show sob L f j = true from q2)] at nx; exact nx
  exact key 10 0 (by omega)
theorem ev_which {d : Nat} (hdp : 7 ≤ d) {S : ZSt} {L : Lnd} (hM : HoM S 58 0 L) (h : WFc L) {r f : Nat} (hr : r = 1 ∨ r = 3) (hf : f < nF L) (N : Nat) (h1 : r = 1 → N ≤ 3) (h3 : r = 3 → N ≤ 9) : zEv d mX7_which [.ref 57, .int (nI (mpos r f)), .int (nI N)] S (zY (some (.int (orS (fun k => soR (updL L r f (k : Int)) (nS L) 0) (N + 1)))) (fun S' => FrI isP S S')) := by
  obtain ⟨d, rfl⟩ : ∃ d', d = d' + 1 := ⟨d - 1, by omega⟩
  refine zEv.of cw_X7_which (Nat.le_of_ble_eq_true rfl) rfl (blk_X7_which_0 ?_)
  have key : ∀ (m j : Nat) (S1 : ZSt), j + m = N + 1 → FrI isP S S1 → zSem (d + 1) mX7_which 5 [some (.ref 57), some (.int (nI (mpos r f))), some (.int (nI N)), some (.int (orS (fun k => soR (updL L r f (k : Int)) (nS L) 0) j)), some (.int (nI j))] [] S1 (zY (some (.int (orS (fun k => soR (updL L r f (k : Int)) (nS L) 0) (N + 1)))) (fun S' => FrI isP S S')) := by
    intro m
    induction m with
    | zero =>
      intro j S1 hj F1
      obtain rfl : j = N + 1 := by omega
      exact blk_X7_which_5 ⟨fun q => ⟨rfl, F1⟩, fun q => absurd (nI_lt (a := N) (b := N + 1) (by omega) (by omega)) q⟩
    | succ m ih =>
      intro j S1 hj F1
      refine blk_X7_which_5 ⟨fun q => absurd q (nI_nlt (a := N) (b := j) (by omega) (by omega)), fun q => ⟨_, _, ev_isSoWith (by omega) (hM.frI F1 is_58) h hr hf j (fun z => by have := h1 z; omega) (fun z => by have := h3 z; omega), fun S2 k2 => ⟨_, S2, ev_flag S2 _, ?_⟩⟩⟩
      have st : orS (fun k => soR (updL L r f (k : Int)) (nS L) 0) j ||| (b01 (soR (updL L r f (j : Int)) (nS L) 0 = true) <<< (nI j &&& 31)) = orS (fun k => soR (updL L r f (k : Int)) (nS L) 0) (j + 1) := or_step (s := fun k => soR (updL L r f (k : Int)) (nS L) 0) (k := j)
      rw [nI_1, st]
      exact ih (j + 1) S2 (by omega) (F1.tr k2.2)
  exact key (N + 1) 0 S (by omega) (FrI.rf _ _)
theorem pub_kinds {L : Lnd} (h : WFc L) (v : Int32) : Both mX6_kinds mX7_kinds [.int v] L := by
  by_cases c : (0 ≤ v.toInt ∧ v.toInt ≤ L 0 8 - 1)
  · obtain ⟨f, hf, rfl⟩ := isF_of h.1 c
    have hn6 := h.1.nF.1
    refine ⟨orS (sok L f) 4, L, fun d S hd hC => ?_, fun d S hd hM => ?_, h⟩
    · obtain ⟨d, rfl, hd⟩ := dsucc hd
      have g4 : gI S 4 f = iv (L 3 f) := hC.g (inR_f (r := 3) (by omega) hf)
      refine zEv.of cw_X6_kinds (Nat.le_of_ble_eq_true rfl) rfl (blk_X6_kinds_0 ⟨_, S, ev_isField (by omega) hC h.1 _, b01_if' (fun _ => ?_) (fun q => absurd c q)⟩)
      have key : ∀ (m j : Nat), j + m = 4 → zSem (d + 1) mX6_kinds 14 [some (.ref 0), some (.int (nI f)), some (.int (orS (sok L f) j)), some (.int (nI j))] [] S (zY (some (.int (orS (sok L f) 4))) (fun S' => HoC S' 1 L ∧ FrI clsP S S')) := by
        intro m
        induction m with
        | zero =>
          intro j hj
          obtain rfl : j = 4 := by omega
          exact blk_X6_kinds_14 ⟨fun q => ⟨rfl, hC, FrI.rf _ _⟩, fun q => absurd (nI_le (a := 4) (b := 4) (by omega) (by omega)) q⟩
        | succ m ih =>
          intro j hj
          have nx := ih (j + 1) (by omega)
          rw [orS] at nx
          have e := ev_isAsSeen (d := d) (by omega) zLd_1 hC h.1 f hf (j : Int) (L 3 f) (by omega) (h.1.f hf).2.2
          rw [kb_1, ← nI_iv] at e
          refine blk_X6_kinds_14 ⟨fun q => absurd q (nI_ge (a := j) (b := 4) (by omega) (by omega)), fun q => ⟨ix_in (by omega) (by omega), ?_⟩⟩
          rw [ix_cl (by omega), g4, nI_1]
          refine ⟨_, S, e, b01_if (fun q2 => ?_) (fun q2 => ?_)⟩
          · rw [if_neg (show ¬ sok L f j = true from q2)] at nx; exact nx
          · rw [if_pos (show sok L f j = true from q2)] at nx; exact nx
      exact key 4 0 (by omega)
    · obtain ⟨d, rfl, hd⟩ := dsucc hd
      have e : (3 : Int32) * nI f + 0 = nI (mpos 1 f) := by rw [mpos_f (by omega)]; exact ix3 f 0
      refine zEv.of cw_X7_kinds (Nat.le_of_ble_eq_true rfl) rfl (blk_X7_kinds_0 ⟨_, S, ev_isField7 (by omega) hM h.1 _, b01_if (fun q => absurd c q) (fun _ => ?_)⟩)
      rw [e]
      exact ⟨_, _, ev_which (by omega) hM h (Or.inl rfl) hf 3 (by omega) (by omega), fun S3 k3 => ⟨rfl, hM.frI k3 is_58, k3.mono (fun k j q => nw_mod k j (is_nw k j q))⟩⟩
  · refine ⟨-1, L, fun d S hd hC => ?_, fun d S hd hM => ?_, h⟩
    · obtain ⟨d, rfl, hd⟩ := dsucc hd
      exact zEv.of cw_X6_kinds (Nat.le_of_ble_eq_true rfl) rfl (blk_X6_kinds_0 ⟨_, S, ev_isField (by omega) hC h.1 _, b01_if' (fun q => absurd q c) (fun _ => ⟨rfl, hC, FrI.rf _ _⟩)⟩)
    · obtain ⟨d, rfl, hd⟩ := dsucc hd
      exact zEv.of cw_X7_kinds (Nat.le_of_ble_eq_true rfl) rfl (blk_X7_kinds_0 ⟨_, S, ev_isField7 (by omega) hM h.1 _, b01_if (fun _ => ⟨rfl, hM, FrI.rf _ _⟩) (fun q => absurd q c)⟩)
theorem pub_blights {L : Lnd} (h : WFc L) (v : Int32) : Both mX6_blights mX7_blights [.int v] L := by
  by_cases c : (0 ≤ v.toInt ∧ v.toInt ≤ L 0 8 - 1)
  · obtain ⟨f, hf, rfl⟩ := isF_of h.1 c
    have hn6 := h.1.nF.1
    refine ⟨orS (sob L f) 10, L, fun d S hd hC => ?_, fun d S hd hM => ?_, h⟩
    · obtain ⟨d, rfl, hd⟩ := dsucc hd
      exact zEv.of cw_X6_blights (Nat.le_of_ble_eq_true rfl) rfl (blk_X6_blights_0 ⟨_, S, ev_isField (by omega) hC h.1 _, b01_if (fun q => absurd c q) (fun _ => ⟨_, S, ev_blightsAsSeen (by omega) hC h.1 f hf, rfl, hC, FrI.rf _ _⟩)⟩)
    · obtain ⟨d, rfl, hd⟩ := dsucc hd
      have e : (3 : Int32) * nI f + 2 = nI (mpos 3 f) := by rw [mpos_f (by omega)]; exact ix3 f 2
      refine zEv.of cw_X7_blights (Nat.le_of_ble_eq_true rfl) rfl (blk_X7_blights_0 ⟨_, S, ev_isField7 (by omega) hM h.1 _, b01_if (fun q => absurd c q) (fun _ => ?_)⟩)
      rw [e]
      exact ⟨_, _, ev_which (by omega) hM h (Or.inr rfl) hf 9 (by omega) (by omega), fun S3 k3 => ⟨rfl, hM.frI k3 is_58, k3.mono (fun k j q => nw_mod k j (is_nw k j q))⟩⟩
  · refine ⟨-1, L, fun d S hd hC => ?_, fun d S hd hM => ?_, h⟩
    · obtain ⟨d, rfl, hd⟩ := dsucc hd
      exact zEv.of cw_X6_blights (Nat.le_of_ble_eq_true rfl) rfl (blk_X6_blights_0 ⟨_, S, ev_isField (by omega) hC h.1 _, b01_if (fun _ => ⟨rfl, hC, FrI.rf _ _⟩) (fun q => absurd q c)⟩)
    · obtain ⟨d, rfl, hd⟩ := dsucc hd
      exact zEv.of cw_X7_blights (Nat.le_of_ble_eq_true rfl) rfl (blk_X7_blights_0 ⟨_, S, ev_isField7 (by omega) hM h.1 _, b01_if (fun _ => ⟨rfl, hM, FrI.rf _ _⟩) (fun q => absurd q c)⟩)
