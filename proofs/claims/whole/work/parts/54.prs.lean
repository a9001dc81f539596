/-! THE PAIRS: fault, torn, end, feed, keep, back, sheet, lay, read -/
theorem CI.same {S : ZSt} {c : Ab} (h : CI S c) : CI S c ∧ FrI cP S S := ⟨h, FrI.rf _ _⟩
theorem MI.same {S : ZSt} {c : Ab} (h : MI S c) : MI S c ∧ FrI mP S S := ⟨h, FrI.rf _ _⟩
theorem pr_fault {c : Ab} (hW : CW c) : Pr mX6_fault mX7_fault [] c := by
  refine ⟨c.2.2.2.2.2.1, c, fun d S hd hC => ?_, fun d S hd hM => ?_, hW⟩
  · exact zEv.of cw_X6_fault (Nat.le_of_ble_eq_true rfl) rfl (blk_X6_fault_0 ⟨by rw [hC.2.2.2.2.1], hC.same⟩)
  · exact zEv.of cw_X7_fault (Nat.le_of_ble_eq_true rfl) rfl (blk_X7_fault_0 ⟨by rw [hM.2.2.2.2.1], hM.same⟩)
theorem pr_torn {c : Ab} (hW : CW c) : Pr mX6_torn mX7_torn [] c := by
  refine ⟨c.2.2.2.2.2.2, c, fun d S hd hC => ?_, fun d S hd hM => ?_, hW⟩
  · exact zEv.of cw_X6_torn (Nat.le_of_ble_eq_true rfl) rfl (blk_X6_torn_0 ⟨by rw [hC.2.2.2.2.2], hC.same⟩)
  · exact zEv.of cw_X7_torn (Nat.le_of_ble_eq_true rfl) rfl (blk_X7_torn_0 ⟨by rw [hM.2.2.2.2.2], hM.same⟩)
/-- the tape alone changes -/
def tpC : Nat → Nat → Prop := fun k j => k = 40 ∨ (k = 39 ∧ j ≠ 2)
def tpM : Nat → Nat → Prop := fun k j => k = 62 ∨ (k = 57 ∧ j = 7)
theorem CI.tape {S S' : ZSt} {c : Ab} {n : Nat} {tp : Nat → Nat} (h : CI S c) (hf : FrI tpC S S') (ht : TC S' n tp) : CI S' (c.1, c.2.1, c.2.2.1, n, tp, c.2.2.2.2.2) := by
  obtain ⟨a1, a2, a3, a4, a5, a6⟩ := h
  refine ⟨a1.frB hf (fun r j q => by unfold tpC; omega), a2.fr hf (fun k j q1 q2 => by unfold tpC; omega), a3.fr hf (fun k j q1 q2 => by unfold tpC; omega), ht, ?_, ?_⟩
  · rw [hf 39 2 (by unfold tpC; omega)]; exact a5
  · rw [hf 0 9 (by unfold tpC; omega)]; exact a6
theorem MI.tape {S S' : ZSt} {c : Ab} {n : Nat} {tp : Nat → Nat} (hW : CW c) (h : MI S c) (hf : FrI tpM S S') (ht : TM S' n tp) : MI S' (c.1, c.2.1, c.2.2.1, n, tp, c.2.2.2.2.2) := by
  obtain ⟨a1, a2, a3, a4, a5, a6⟩ := h
  refine ⟨a1.frI hf (fun i => by unfold tpM; omega), a2.fr hW.2.1 hf (fun j => by unfold tpM; omega) (fun j _ => by unfold tpM; omega), a3.fr hf (fun k j q1 q2 => by unfold tpM; omega), ht, ?_, ?_⟩
  · rw [hf 57 12 (by unfold tpM; omega)]; exact a5
  · rw [hf 57 27 (by unfold tpM; omega)]; exact a6
theorem tpC_c : ∀ k j, tpC k j → cP k j := fun k j h => by unfold tpC at h; unfold cP; omega
theorem tpM_m : ∀ k j, tpM k j → mP k j := fun k j h => by unfold tpM at h; unfold mP; omega
theorem pr_end {c : Ab} (hW : CW c) (v : Int32) : Pr mX6_end mX7_end [.int v] c := by
  have hn := hW.2.2.2.1
  have hi : (nI c.2.2.2.1).toInt = (c.2.2.2.1 : Int) := nI_toInt (by omega)
  by_cases q : 0 ≤ v.toInt ∧ v.toInt ≤ (c.2.2.2.1 : Int)
  · obtain ⟨n, hn2, rfl⟩ := toNat_of (n := c.2.2.2.1 + 1) q.1 (by omega)
    refine ⟨(nI c.2.2.2.1), (c.1, c.2.1, c.2.2.1, n, c.2.2.2.2.1, c.2.2.2.2.2), fun d S hd hC => ?_, fun d S hd hM => ?_, hW.1, hW.2.1, hW.2.2.1, by show n ≤ 160; omega, fun j hj => hW.2.2.2.2 j (by have : j < n := hj; omega)⟩
    · obtain ⟨d, rfl⟩ : ∃ d', d = d' + 1 := ⟨d - 1, by omega⟩
      have t := hC.2.2.2.1
      have e := ev_within (d := d) S (nI n) 0 (nI c.2.2.2.1)
      rw [hi] at e
      refine zEv.of cw_X6_end (Nat.le_of_ble_eq_true rfl) rfl (blk_X6_end_0 ⟨_, S, by rw [t.1]; exact e, b01_if' (fun _ => ?_) (fun z => absurd q z)⟩)
      rw [t.1]
      have F : FrI tpC S (pI S 39 1 (nI n)) := (FrI.rf _ _).pI _ (by unfold tpC; omega)
      exact ⟨rfl, hC.tape F ⟨by rw [gI_pI, if_pos ⟨rfl, rfl⟩], fun j hj => by rw [gI_pI, if_neg (by omega)]; exact t.2 j (by omega)⟩, F.mono tpC_c⟩
    · obtain ⟨d, rfl⟩ : ∃ d', d = d' + 1 := ⟨d - 1, by omega⟩
      have t := hM.2.2.2.1
      have e := ev_inI (d := d) S (nI n) 0 (nI c.2.2.2.1).toInt64 0 (c.2.2.2.1 : Int) rfl (by rw [Int32.toInt_toInt64, hi])
      refine zEv.of cw_X7_end (Nat.le_of_ble_eq_true rfl) rfl (blk_X7_end_0 ⟨_, S, by rw [t.1]; exact e, b01_if' (fun _ => ?_) (fun z => absurd q z)⟩)
      rw [t.1]
      have F : FrI tpM S (pI S 57 7 (nI n)) := (FrI.rf _ _).pI _ (by unfold tpM; omega)
      exact ⟨rfl, hM.tape hW F ⟨by rw [gI_pI, if_pos ⟨rfl, rfl⟩], fun j hj => by rw [gI_pI, if_neg (by omega)]; exact t.2 j (by omega)⟩, F.mono tpM_m⟩
  · refine ⟨(-1), c, fun d S hd hC => ?_, fun d S hd hM => ?_, hW⟩
    · obtain ⟨d, rfl⟩ : ∃ d', d = d' + 1 := ⟨d - 1, by omega⟩
      have t := hC.2.2.2.1
      have e := ev_within (d := d) S v 0 (nI c.2.2.2.1)
      rw [hi] at e
      exact zEv.of cw_X6_end (Nat.le_of_ble_eq_true rfl) rfl (blk_X6_end_0 ⟨_, S, by rw [t.1]; exact e, b01_if' (fun z => absurd z q) (fun _ => ⟨rfl, hC.same⟩)⟩)
    · obtain ⟨d, rfl⟩ : ∃ d', d = d' + 1 := ⟨d - 1, by omega⟩
      have t := hM.2.2.2.1
      have e := ev_inI (d := d) S v 0 (nI c.2.2.2.1).toInt64 0 (c.2.2.2.1 : Int) rfl (by rw [Int32.toInt_toInt64, hi])
      exact zEv.of cw_X7_end (Nat.le_of_ble_eq_true rfl) rfl (blk_X7_end_0 ⟨_, S, by rw [t.1]; exact e, b01_if' (fun z => absurd z q) (fun _ => ⟨rfl, hM.same⟩)⟩)
theorem nar_b : ∀ m : Nat, m < 128 → vp_nar .byte ((nI m).toInt8.toInt32) = nI m := by decide +kernel
def updT (tp : Nat → Nat) (n v : Nat) : Nat → Nat := fun j => if j = n then v else tp j
theorem pr_feed {c : Ab} (hW : CW c) (v : Int32) : Pr mX6_feed mX7_feed [.int v] c := by
  have hn := hW.2.2.2.1
  by_cases q : (0 : Int) ≤ v.toInt ∧ v.toInt ≤ 127
  · obtain ⟨m, hm, rfl⟩ := toNat_of (n := 128) q.1 (by omega)
    by_cases q2 : c.2.2.2.1 = 160
    · refine ⟨(-3), c, fun d S hd hC => ?_, fun d S hd hM => ?_, hW⟩
      · obtain ⟨d, rfl⟩ : ∃ d', d = d' + 1 := ⟨d - 1, by omega⟩
        have t := hC.2.2.2.1
        have ea : zEv d mX5_append [.ref 39, .int (nI m)] S (zY (some (.int 0)) (fun S' => S' = S)) := by
          refine zEv.of cw_X5_append (Nat.le_of_ble_eq_true rfl) rfl (blk_X5_append_0 ?_)
          rw [t.1, q2]
          exact ⟨fun z => absurd z (nI_nlt (a := 160) (b := 160) (by omega) (by omega)), fun _ => ⟨rfl, rfl⟩⟩
        exact zEv.of cw_X6_feed (Nat.le_of_ble_eq_true rfl) rfl (blk_X6_feed_0 ⟨_, S, ev_within S _ 0 127, b01_if' (fun _ => ⟨_, _, ea, fun S3 k3 => ⟨fun _ => ⟨rfl, by rw [k3]; exact hC.same⟩, fun z => absurd rfl z⟩⟩) (fun z => absurd q z)⟩)
      · obtain ⟨d, rfl⟩ : ∃ d', d = d' + 1 := ⟨d - 1, by omega⟩
        have t := hM.2.2.2.1
        refine zEv.of cw_X7_feed (Nat.le_of_ble_eq_true rfl) rfl (blk_X7_feed_0 ⟨_, S, ev_inI S _ 0 127 0 127 rfl rfl, b01_if' (fun _ => ?_) (fun z => absurd q z)⟩)
        rw [t.1, q2]
        exact ⟨fun z => absurd rfl z, fun _ => ⟨rfl, hM.same⟩⟩
    · obtain ⟨n, en⟩ : ∃ n, n = c.2.2.2.1 := ⟨_, rfl⟩
      have w : TW (n + 1) (updT c.2.2.2.2.1 n m) := ⟨by omega, fun j hj => by
        unfold updT
        by_cases z : j = n
        · rw [if_pos z]; omega
        · rw [if_neg z]; exact hW.2.2.2.2 j (by omega)⟩
      refine ⟨(nI (n + 1)), (c.1, c.2.1, c.2.2.1, n + 1, updT c.2.2.2.2.1 n m, c.2.2.2.2.2), fun d S hd hC => ?_, fun d S hd hM => ?_, hW.1, hW.2.1, hW.2.2.1, w⟩
      · obtain ⟨d, rfl⟩ : ∃ d', d = d' + 1 := ⟨d - 1, by omega⟩
        have t := hC.2.2.2.1
        rw [← en] at t
        have ea : zEv d mX5_append [.ref 39, .int (nI m)] S (zY (some (.int 1)) (fun S' => S' = pI (pI S 40 n (nI m)) 39 1 (nI (n + 1)))) := by
          refine zEv.of cw_X5_append (Nat.le_of_ble_eq_true rfl) rfl (blk_X5_append_0 ?_)
          rw [t.1, nar_b m hm, ix_cl (by omega), gI_pI, if_neg (by omega), t.1, nI_1]
          exact ⟨fun _ => ⟨ix_in (by omega) (by omega), rfl, rfl⟩, fun z => absurd (nI_lt (a := n) (b := 160) (by omega) (by omega)) z⟩
        refine zEv.of cw_X6_feed (Nat.le_of_ble_eq_true rfl) rfl (blk_X6_feed_0 ⟨_, S, ev_within S _ 0 127, b01_if' (fun _ => ⟨_, _, ea, fun S3 k3 => ⟨fun z => absurd z (by decide), fun _ => ?_⟩⟩) (fun z => absurd q z)⟩)
        have g1 : gI S3 39 1 = nI (n + 1) := by rw [k3, gI_pI, if_pos ⟨rfl, rfl⟩]
        have F : FrI tpC S S3 := by rw [k3]; exact ((FrI.rf _ _).pI _ (by unfold tpC; omega)).pI _ (by unfold tpC; omega)
        refine ⟨by rw [g1], hC.tape F ⟨g1, fun j hj => ?_⟩, F.mono tpC_c⟩
        rw [k3, gI_pI, if_neg (by omega), gI_pI]; unfold updT
        by_cases z : j = n
        · rw [if_pos ⟨rfl, z⟩, if_pos z]
        · rw [if_neg (by omega), if_neg z]; exact t.2 j (by omega)
      · obtain ⟨d, rfl⟩ : ∃ d', d = d' + 1 := ⟨d - 1, by omega⟩
        have t := hM.2.2.2.1
        rw [← en] at t
        refine zEv.of cw_X7_feed (Nat.le_of_ble_eq_true rfl) rfl (blk_X7_feed_0 ⟨_, S, ev_inI S _ 0 127 0 127 rfl rfl, b01_if' (fun _ => ?_) (fun z => absurd q z)⟩)
        obtain ⟨S3, k3⟩ : ∃ S3, S3 = pI (pI S 62 n (nI m)) 57 7 (nI (n + 1)) := ⟨_, rfl⟩
        rw [t.1, ix_cl (by omega), gI_pI (pI S 62 n (nI m)) 57 7, if_pos ⟨rfl, rfl⟩, gI_pI S 62 n, if_neg (by omega), t.1, nI_1, ← k3]
        refine ⟨fun _ => ⟨ix_in (by omega) (by omega), rfl, ?_⟩, fun z => absurd ((nI_eq (a := n) (b := 160) (by omega) (by omega)).mp z) (by omega)⟩
        have g1 : gI S3 57 7 = nI (n + 1) := by rw [k3, gI_pI, if_pos ⟨rfl, rfl⟩]
        have F : FrI tpM S S3 := by rw [k3]; exact ((FrI.rf _ _).pI _ (by unfold tpM; omega)).pI _ (by unfold tpM; omega)
        refine ⟨hM.tape hW F ⟨g1, fun j hj => ?_⟩, F.mono tpM_m⟩
        rw [k3, gI_pI, if_neg (by omega), gI_pI]; unfold updT
        by_cases z : j = n
        · rw [if_pos ⟨rfl, z⟩, if_pos z]
        · rw [if_neg (by omega), if_neg z]; exact t.2 j (by omega)
  · refine ⟨(-1), c, fun d S hd hC => ?_, fun d S hd hM => ?_, hW⟩
    · obtain ⟨d, rfl⟩ : ∃ d', d = d' + 1 := ⟨d - 1, by omega⟩
      exact zEv.of cw_X6_feed (Nat.le_of_ble_eq_true rfl) rfl (blk_X6_feed_0 ⟨_, S, ev_within S v 0 127, b01_if' (fun z => absurd z q) (fun _ => ⟨rfl, hC.same⟩)⟩)
    · obtain ⟨d, rfl⟩ : ∃ d', d = d' + 1 := ⟨d - 1, by omega⟩
      exact zEv.of cw_X7_feed (Nat.le_of_ble_eq_true rfl) rfl (blk_X7_feed_0 ⟨_, S, ev_inI S v 0 127 0 127 rfl rfl, b01_if' (fun z => absurd z q) (fun _ => ⟨rfl, hM.same⟩)⟩)
