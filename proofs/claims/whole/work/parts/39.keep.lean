/-! keep, back -/
def KC (S : ZSt) (K : Nat → Option Lnd) : Prop := ∀ k, k < 2 → (K k = none → gI S 38 k = 0) ∧ (∀ L1, K k = some L1 → gI S 38 k = 1 ∧ HoC S (20 + 9 * k) L1)
def KM (S : ZSt) (K : Nat → Option Lnd) : Prop := ∀ k, k < 2 → (K k = none → gI S 60 k = 0) ∧ (∀ L1, K k = some L1 → gI S 60 k = 1 ∧ HoM S 58 (50 * (k + 1)) L1)
def updK (K : Nat → Option Lnd) (k : Nat) (L : Lnd) : Nat → Option Lnd := fun j => if j = k then some L else K j
def kpC : Nat → Nat → Prop := fun k _ => 20 ≤ k ∧ k ≤ 38
def kpM : Nat → Nat → Prop := fun k i => k = 60 ∨ (k = 58 ∧ 50 ≤ i)
theorem HoC.frB {S S' : ZSt} {B : Nat} {L : Lnd} {P : Nat → Nat → Prop} (h : HoC S B L) (hf : FrI P S S') (hp : ∀ r j, r ≤ 8 → ¬ P (B + r) j) : HoC S' B L := by
  intro r j hr
  have : r ≤ 8 := by unfold inR at hr; omega
  unfold zi
  rw [hf _ _ (hp r j this)]
  exact h r j hr
theorem HoM.frB {S S' : ZSt} {o o' : Nat} {L : Lnd} (hW : WF L) (h : HoM S 58 o L) (hf : ∀ i, i < 50 → gI S' 58 (o' + i) = gI S 58 (o + i)) : HoM S' 58 o' L := by
  intro r j hr
  have := mpos_lt hW.n hr
  unfold zi
  rw [hf _ this]
  exact h r j hr
theorem ev_copies {d : Nat} (S : ZSt) (a b : Nat) (ha : a + 50 ≤ 150) (hb : b + 50 ≤ 150) (hab : a + 50 ≤ b ∨ b + 50 ≤ a) : zEv d mX7_copies [.ref 57, .int (nI a), .int (nI b)] S (zY none (fun S' => (∀ i, i < 50 → gI S' 58 (a + i) = gI S 58 (b + i)) ∧ FrI (fun k i => k = 58 ∧ a ≤ i ∧ i < a + 50) S S')) := by
  refine zEv.of cw_X7_copies (Nat.le_of_ble_eq_true rfl) rfl (blk_X7_copies_0 ?_)
  have key : ∀ (m j : Nat) (S1 : ZSt), j + m = 50 → (∀ i, i < j → gI S1 58 (a + i) = gI S 58 (b + i)) → FrI (fun k i => k = 58 ∧ a ≤ i ∧ i < a + 50) S S1 → zSem d mX7_copies 2 [some (.ref 57), some (.int (nI a)), some (.int (nI b)), some (.int (nI j))] [] S1 (zY none (fun S' => (∀ i, i < 50 → gI S' 58 (a + i) = gI S 58 (b + i)) ∧ FrI (fun k i => k = 58 ∧ a ≤ i ∧ i < a + 50) S S')) := by
    intro m
    induction m with
    | zero =>
      intro j S1 hj h1 F1
      obtain rfl : j = 50 := by omega
      exact blk_X7_copies_2 ⟨fun q => ⟨rfl, h1, F1⟩, fun q => absurd (nI_le (a := 50) (b := 50) (by omega) (by omega)) q⟩
    | succ m ih =>
      intro j S1 hj h1 F1
      refine blk_X7_copies_2 ⟨fun q => absurd q (nI_ge (a := j) (b := 50) (by omega) (by omega)), fun q => ?_⟩
      rw [nI_add, nI_add, ix_cl (by omega), ix_cl (by omega), nI_1]
      refine ⟨ix_in (by omega) (by omega), ix_in (by omega) (by omega), ih (j + 1) _ (by omega) (fun i hi => ?_) (F1.pI _ ⟨rfl, by omega, by omega⟩)⟩
      rw [gI_pI]
      by_cases q2 : i = j
      · rw [q2, if_pos ⟨rfl, rfl⟩]; exact F1 58 _ (by omega)
      · rw [if_neg (by omega)]; exact h1 i (by omega)
  exact key 50 0 S (by omega) (fun i hi => absurd hi (by omega)) (FrI.rf _ _)
def kpR (K : Nat → Option Lnd) (k : Nat) : Int32 := match K k with | none => 0 | some _ => 1
theorem KC.at {S : ZSt} {K : Nat → Option Lnd} (h : KC S K) {k : Nat} (hk : k < 2) : gI S 38 k = kpR K k := by
  unfold kpR
  cases e : K k with
  | none => exact (h k hk).1 e
  | some L1 => exact ((h k hk).2 L1 e).1
theorem KM.at {S : ZSt} {K : Nat → Option Lnd} (h : KM S K) {k : Nat} (hk : k < 2) : gI S 60 k = kpR K k := by
  unfold kpR
  cases e : K k with
  | none => exact (h k hk).1 e
  | some L1 => exact ((h k hk).2 L1 e).1
theorem kpR_0 {K : Nat → Option Lnd} {k : Nat} : kpR K k = 0 ↔ K k = none := by
  unfold kpR
  cases e : K k with
  | none => simp
  | some L1 => simp
theorem ev_keepC {d : Nat} (hd : 9 ≤ d) {S : ZSt} {L : Lnd} {K : Nat → Option Lnd} (hC : HoC S 1 L) (hK : KC S K) (hW : WF L) (k : Nat) (hk : k < 2) : zEv d mX6_keep [.ref 0, .int (nI k)] S (zY (some (.int (kpR K k))) (fun S' => HoC S' 1 L ∧ KC S' (updK K k L) ∧ FrI kpC S S')) := by
  obtain ⟨d, rfl, hd⟩ := dsucc hd
  have c : (0 : Int) ≤ (nI k).toInt ∧ (nI k).toInt ≤ 1 := by rw [nI_toInt (by omega)]; omega
  have e38 := hK.at hk
  have nar : vp_nar .boolean (1 : Int32) = 1 := by decide
  -- what lies behind the copy
  have fin : ∀ S5, HoC S5 (20 + 9 * k) L → Fr (ldP (20 + 9 * k)) S S5 → HoC (pI S5 38 k (vp_nar .boolean 1)) 1 L ∧ KC (pI S5 38 k (vp_nar .boolean 1)) (updK K k L) ∧ FrI kpC S (pI S5 38 k (vp_nar .boolean 1)) := by
    intro S5 H5 F5
    have F6 : FrI kpC S (pI S5 38 k (vp_nar .boolean 1)) := (F5.I (P' := kpC) (fun k' j q => by unfold ldP at q; unfold kpC; omega)).pI _ (by unfold kpC; omega)
    refine ⟨hC.frB F6 (fun r j q => by unfold kpC; omega), fun j hj => ?_, F6⟩
    unfold updK
    by_cases q : j = k
    · subst q
      rw [if_pos rfl]
      refine ⟨fun z => absurd z (by simp), fun L1 e1 => ?_⟩
      obtain rfl : L = L1 := Option.some.inj e1
      refine ⟨by rw [gI_pI, if_pos ⟨rfl, rfl⟩, nar], H5.frB (P := fun k _ => k = 38) ((FrI.rf _ S5).pI _ rfl) (fun r j q => by omega)⟩
    · rw [if_neg q]
      refine ⟨fun z => ?_, fun L1 e1 => ?_⟩
      · rw [gI_pI, if_neg (by omega), F5.1 38 j (by unfold ldP; omega)]; exact (hK j hj).1 z
      · refine ⟨by rw [gI_pI, if_neg (by omega), F5.1 38 j (by unfold ldP; omega)]; exact ((hK j hj).2 L1 e1).1, ?_⟩
        exact (((hK j hj).2 L1 e1).2.fr F5 (fun r j' q => by unfold ldP; omega)).frB (P := fun k _ => k = 38) ((FrI.rf _ S5).pI _ rfl) (fun r j q => by omega)
  refine zEv.of cw_X6_keep (Nat.le_of_ble_eq_true rfl) rfl (blk_X6_keep_0 ⟨_, S, ev_within S _ 0 1, b01_if' (fun _ => ⟨ix_in (by omega) (by omega), ?_⟩) (fun q => absurd c q)⟩)
  rw [ix_cl (by omega), e38]
  have one : ¬ kpR K k = 0 → kpR K k = 1 := by unfold kpR; cases K k <;> simp
  rcases (show k = 0 ∨ k = 1 by omega) with rfl | rfl
  · refine ⟨fun q => ⟨ix_in (by omega) (by omega), fun _ => ⟨_, ev_copyFrom (by omega) zLd_20 zLd_1 (by omega) hC hW.n, fun S5 k5 => ⟨ix_in (by omega) (by omega), by rw [q], fin S5 k5.1 k5.2⟩⟩, fun z => absurd rfl z⟩, fun q => ⟨ix_in (by omega) (by omega), fun _ => ⟨_, ev_copyFrom (by omega) zLd_20 zLd_1 (by omega) hC hW.n, fun S5 k5 => ⟨ix_in (by omega) (by omega), by rw [one q], fin S5 k5.1 k5.2⟩⟩, fun z => absurd rfl z⟩⟩
  · refine ⟨fun q => ⟨ix_in (by omega) (by omega), fun z => absurd z (by omega), fun _ => ⟨_, ev_copyFrom (by omega) zLd_29 zLd_1 (by omega) hC hW.n, fun S5 k5 => ⟨ix_in (by omega) (by omega), by rw [q], fin S5 k5.1 k5.2⟩⟩⟩, fun q => ⟨ix_in (by omega) (by omega), fun z => absurd z (by omega), fun _ => ⟨_, ev_copyFrom (by omega) zLd_29 zLd_1 (by omega) hC hW.n, fun S5 k5 => ⟨ix_in (by omega) (by omega), by rw [one q], fin S5 k5.1 k5.2⟩⟩⟩⟩
