/-! march, as read uses it -/
theorem ev_marchC {d : Nat} (hd : 3 ≤ d) {S : ZSt} {L : Lnd} (hC : HoC S 1 L) (h : WFc L) (b f : Nat) (hb : b < nB L) (hf : f < nF L) : zEv d mX6_march [.ref 0, .int (nI b), .int (nI f)] S (zY (some (.int (iv (L 4 b)))) (fun S' => HoC S' 1 (updL L 4 b (f : Int)) ∧ FrI (fun k _ => 1 ≤ k ∧ k ≤ 9) S S')) := by
  obtain ⟨d, rfl⟩ : ∃ d', d = d' + 1 := ⟨d - 1, by omega⟩
  have hn := h.1.nB
  have hn6 := h.1.nF
  have c1 : 0 ≤ (nI b).toInt ∧ (nI b).toInt ≤ L 0 9 - 1 := by rw [nI_toInt (by omega)]; omega
  have c2 : 0 ≤ (nI f).toInt ∧ (nI f).toInt ≤ L 0 8 - 1 := by rw [nI_toInt (by omega)]; omega
  refine zEv.of cw_X6_march (Nat.le_of_ble_eq_true rfl) rfl (blk_X6_march_0 ⟨_, S, ev_isBand (by omega) hC h.1 _, b01_if (fun q => absurd c1 q) (fun _ => ⟨_, S, ev_isField (by omega) hC h.1 _, b01_if' (fun _ => ⟨ix_in (by omega) (by omega), ix_in (by omega) (by omega), ?_⟩) (fun q => absurd c2 q)⟩)⟩)
  rw [ix_cl (by omega)]
  have p := hC.putv 4 b (nI f) (by omega)
  rw [nI_toInt (by omega)] at p
  exact ⟨by rw [← hC.g (inR_b (r := 4) (by omega) hb)], p, (FrI.rf _ _).pI _ (by omega)⟩
theorem ev_marchM {d : Nat} (hd : 3 ≤ d) {S : ZSt} {L : Lnd} (hM : HoM S 58 0 L) (h : WFc L) (b f : Nat) (hb : b < nB L) (hf : f < nF L) : zEv d mX7_march [.ref 57, .int (nI b), .int (nI f)] S (zY (some (.int (iv (L 4 b)))) (fun S' => HoM S' 58 0 (updL L 4 b (f : Int)) ∧ FrI (fun k i => k = 58 ∧ i < 50) S S')) := by
  obtain ⟨d, rfl⟩ : ∃ d', d = d' + 1 := ⟨d - 1, by omega⟩
  have hn := h.1.nB
  have hn6 := h.1.nF
  have c1 : 0 ≤ (nI b).toInt ∧ (nI b).toInt ≤ L 0 9 - 1 := by rw [nI_toInt (by omega)]; omega
  have c2 : 0 ≤ (nI f).toInt ∧ (nI f).toInt ≤ L 0 8 - 1 := by rw [nI_toInt (by omega)]; omega
  refine zEv.of cw_X7_march (Nat.le_of_ble_eq_true rfl) rfl (blk_X7_march_0 ⟨_, S, ev_isBand7 (by omega) hM h.1 _, b01_if (fun q => absurd c1 q) (fun _ => ⟨_, S, ev_isField7 (by omega) hM h.1 _, b01_if (fun q => absurd c2 q) (fun _ => ⟨_, _, by rw [show ((19 : Int32) + 2 * nI b + 0) = nI (19 + 2 * b + 0) from ix2 b 0]; exact ev_becomes S (19 + 2 * b + 0) (by omega) (nI f), ?_⟩)⟩)⟩)
  rintro S5 rfl
  have p := hM.putv h.1.n (r := 4) (j := b) (nI f) (inR_b (by omega) hb) (by omega)
  rw [mpos_b (by omega), nI_toInt (by omega)] at p
  exact ⟨by rw [(hM.b hb).1], p, (FrI.rf _ _).pI _ (by omega)⟩
theorem ev_marchM0 {d : Nat} (hd : 3 ≤ d) {S : ZSt} {L : Lnd} (hM : HoM S 58 0 L) (h : WF L) (v1 v2 : Int32) (c : ¬ ((0 ≤ v1.toInt ∧ v1.toInt ≤ L 0 9 - 1) ∧ (0 ≤ v2.toInt ∧ v2.toInt ≤ L 0 8 - 1))) : zEv d mX7_march [.ref 57, .int v1, .int v2] S (zY (some (.int (-1))) (fun S' => S' = S)) := by
  obtain ⟨d, rfl⟩ : ∃ d', d = d' + 1 := ⟨d - 1, by omega⟩
  exact zEv.of cw_X7_march (Nat.le_of_ble_eq_true rfl) rfl (blk_X7_march_0 ⟨_, S, ev_isBand7 (by omega) hM h _, b01_if (fun _ => ⟨rfl, rfl⟩) (fun q => ⟨_, S, ev_isField7 (by omega) hM h _, b01_if (fun _ => ⟨rfl, rfl⟩) (fun q2 => absurd ⟨q, q2⟩ c)⟩)⟩)
