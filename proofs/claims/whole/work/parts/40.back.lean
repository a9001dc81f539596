/-! keep of the reference; back -/
theorem kpR_b01 (K : Nat → Option Lnd) (k : Nat) : kpR K k = b01 ((K k).isSome = true) := by
  unfold kpR; cases K k <;> rfl
theorem ix50 (k : Nat) : (50 : Int32) * (nI k + 1) = nI (50 * (k + 1)) := by rw [nI_1, show (50 : Int32) = nI 50 from rfl, pk_mul]
theorem ev_keepM {d : Nat} (hd : 9 ≤ d) {S : ZSt} {L : Lnd} {K : Nat → Option Lnd} (hM : HoM S 58 0 L) (hK : KM S K) (hW : WF L) (hKW : ∀ k L1, K k = some L1 → WF L1) (k : Nat) (hk : k < 2) : zEv d mX7_keep [.ref 57, .int (nI k)] S (zY (some (.int (kpR K k))) (fun S' => HoM S' 58 0 L ∧ KM S' (updK K k L) ∧ FrI kpM S S')) := by
  obtain ⟨d, rfl, hd⟩ := dsucc hd
  have c : (0 : Int) ≤ (nI k).toInt ∧ (nI k).toInt ≤ 1 := by rw [nI_toInt (by omega)]; omega
  have nar : vp_nar .boolean (1 : Int32) = 1 := by decide
  refine zEv.of cw_X7_keep (Nat.le_of_ble_eq_true rfl) rfl (blk_X7_keep_0 ⟨_, S, ev_inI S _ 0 1 0 1 rfl rfl, b01_if' (fun _ => ⟨ix_in (by omega) (by omega), ?_⟩) (fun q => absurd c q)⟩)
  rw [ix_cl (by omega), hK.at hk, kpR_b01, ix50]
  refine ⟨_, S, ev_flag S _, ix_in (by omega) (by omega), _, ev_copies (pI S 60 k (vp_nar .boolean 1)) (50 * (k + 1)) 0 (by omega) (by omega) (by omega), fun S4 k4 => ⟨rfl, ?_, fun j hj => ?_, ?_⟩⟩
  · refine HoM.frB hW hM (fun i hi => ?_)
    rw [k4.2 58 _ (by omega), gI_pI, if_neg (by omega)]
  · unfold updK
    by_cases q : j = k
    · subst q
      rw [if_pos rfl]
      refine ⟨fun z => absurd z (by simp), fun L1 e1 => ?_⟩
      obtain rfl : L = L1 := Option.some.inj e1
      refine ⟨by rw [k4.2 60 _ (by omega), gI_pI, if_pos ⟨rfl, rfl⟩, nar], HoM.frB hW hM (fun i hi => ?_)⟩
      rw [k4.1 i hi, gI_pI, if_neg (by omega)]
    · rw [if_neg q]
      refine ⟨fun z => ?_, fun L1 e1 => ?_⟩
      · rw [k4.2 60 _ (by omega), gI_pI, if_neg (by omega)]; exact (hK j hj).1 z
      · refine ⟨by rw [k4.2 60 _ (by omega), gI_pI, if_neg (by omega)]; exact ((hK j hj).2 L1 e1).1, HoM.frB (hKW j L1 e1) ((hK j hj).2 L1 e1).2 (fun i hi => ?_)⟩
        rw [k4.2 58 _ (by omega), gI_pI, if_neg (by omega)]
  · exact ((FrI.rf kpM S).pI _ (by unfold kpM; omega)).tr (k4.2.mono (fun k' j q => by unfold kpM; omega))
theorem ev_backC0 {d : Nat} (hd : 9 ≤ d) {S : ZSt} {K : Nat → Option Lnd} (hK : KC S K) (k : Nat) (hk : k < 2) (e : K k = none) : zEv d mX6_back [.ref 0, .int (nI k)] S (zX (some (.int (-2))) S) := by
  obtain ⟨d, rfl, hd⟩ := dsucc hd
  have c : (0 : Int) ≤ (nI k).toInt ∧ (nI k).toInt ≤ 1 := by rw [nI_toInt (by omega)]; omega
  refine zEv.of cw_X6_back (Nat.le_of_ble_eq_true rfl) rfl (blk_X6_back_0 ⟨_, S, ev_within S _ 0 1, b01_if' (fun _ => ⟨ix_in (by omega) (by omega), ?_⟩) (fun q => absurd c q)⟩)
  rw [ix_cl (by omega), (hK k hk).1 e]
  exact ⟨fun z => absurd rfl z, fun _ => ⟨rfl, rfl⟩⟩
theorem ev_backC {d : Nat} (hd : 9 ≤ d) {S : ZSt} {K : Nat → Option Lnd} {L1 : Lnd} (hK : KC S K) (hW : WF L1) (k : Nat) (hk : k < 2) (e : K k = some L1) : zEv d mX6_back [.ref 0, .int (nI k)] S (zY (some (.int (iv (L1 0 13)))) (fun S' => HoC S' 1 L1 ∧ FrI clsP S S')) := by
  obtain ⟨d, rfl, hd⟩ := dsucc hd
  have c : (0 : Int) ≤ (nI k).toInt ∧ (nI k).toInt ≤ 1 := by rw [nI_toInt (by omega)]; omega
  have h1 := (hK k hk).2 L1 e
  refine zEv.of cw_X6_back (Nat.le_of_ble_eq_true rfl) rfl (blk_X6_back_0 ⟨_, S, ev_within S _ 0 1, b01_if' (fun _ => ⟨ix_in (by omega) (by omega), ?_⟩) (fun q => absurd c q)⟩)
  rw [ix_cl (by omega), h1.1]
  refine ⟨fun _ => ⟨ix_in (by omega) (by omega), ?_⟩, fun z => absurd z (by decide)⟩
  rcases (show k = 0 ∨ k = 1 by omega) with rfl | rfl
  · exact ⟨fun _ => ⟨_, ev_copyFrom (by omega) zLd_1 zLd_20 (by omega) h1.2 hW.n, fun S5 k5 => ⟨by rw [k5.1.g0 (by omega)], k5.1, k5.2.I ld1_cls⟩⟩, fun z => absurd rfl z⟩
  · exact ⟨fun z => absurd z (by omega), fun _ => ⟨_, ev_copyFrom (by omega) zLd_1 zLd_29 (by omega) h1.2 hW.n, fun S5 k5 => ⟨by rw [k5.1.g0 (by omega)], k5.1, k5.2.I ld1_cls⟩⟩⟩
theorem ev_backM0 {d : Nat} (hd : 9 ≤ d) {S : ZSt} {K : Nat → Option Lnd} (hK : KM S K) (k : Nat) (hk : k < 2) (e : K k = none) : zEv d mX7_back [.ref 57, .int (nI k)] S (zX (some (.int (-2))) S) := by
  obtain ⟨d, rfl, hd⟩ := dsucc hd
  have c : (0 : Int) ≤ (nI k).toInt ∧ (nI k).toInt ≤ 1 := by rw [nI_toInt (by omega)]; omega
  refine zEv.of cw_X7_back (Nat.le_of_ble_eq_true rfl) rfl (blk_X7_back_0 ⟨_, S, ev_inI S _ 0 1 0 1 rfl rfl, b01_if' (fun _ => ⟨ix_in (by omega) (by omega), ?_⟩) (fun q => absurd c q)⟩)
  rw [ix_cl (by omega), (hK k hk).1 e]
  exact ⟨fun z => absurd rfl z, fun _ => ⟨rfl, rfl⟩⟩
theorem ev_backM {d : Nat} (hd : 9 ≤ d) {S : ZSt} {K : Nat → Option Lnd} {L1 : Lnd} (hK : KM S K) (hW : WF L1) (k : Nat) (hk : k < 2) (e : K k = some L1) : zEv d mX7_back [.ref 57, .int (nI k)] S (zY (some (.int (iv (L1 0 13)))) (fun S' => HoM S' 58 0 L1 ∧ FrI modP S S')) := by
  obtain ⟨d, rfl, hd⟩ := dsucc hd
  have c : (0 : Int) ≤ (nI k).toInt ∧ (nI k).toInt ≤ 1 := by rw [nI_toInt (by omega)]; omega
  have h1 := (hK k hk).2 L1 e
  refine zEv.of cw_X7_back (Nat.le_of_ble_eq_true rfl) rfl (blk_X7_back_0 ⟨_, S, ev_inI S _ 0 1 0 1 rfl rfl, b01_if' (fun _ => ⟨ix_in (by omega) (by omega), ?_⟩) (fun q => absurd c q)⟩)
  rw [ix_cl (by omega), h1.1, ix50]
  refine ⟨fun _ => ⟨_, ev_copies S 0 (50 * (k + 1)) (by omega) (by omega) (by omega), fun S4 k4 => ?_⟩, fun z => absurd z (by decide)⟩
  have H4 : HoM S4 58 0 L1 := HoM.frB hW h1.2 k4.1
  exact ⟨by rw [H4.s.2.2.2.2.2], H4, k4.2.mono (fun k' j q => by unfold modP; omega)⟩
