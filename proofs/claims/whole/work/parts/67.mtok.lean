/-! TOKENS: the reference -/
def bA (tp : Nat → Nat) (n p : Nat) : Int32 := if p < n then nI (tp p) else -1
theorem bA_in {tp : Nat → Nat} {n p : Nat} (hw : TW n tp) (lo hi : Nat) : ((lo : Int) ≤ (bA tp n p).toInt ∧ (bA tp n p).toInt ≤ (hi : Int)) ↔ (p < n ∧ lo ≤ tp p ∧ tp p ≤ hi) := by
  unfold bA
  by_cases q : p < n
  · have := hw.2 p q
    rw [if_pos q, nI_toInt (by omega)]; omega
  · rw [if_neg q, show Int32.toInt (-1) = -1 from by decide]; omega
theorem ev_byteAt {d : Nat} {S : ZSt} {n : Nat} {tp : Nat → Nat} (h : TM S n tp) (hw : TW n tp) (p : Nat) (hp : p < 1000) : zEv d mX7_byteAt [.ref 57, .int (nI p)] S (zX (some (.int (bA tp n p))) S) := by
  have h160 := hw.1
  refine zEv.of cw_X7_byteAt (Nat.le_of_ble_eq_true rfl) rfl (blk_X7_byteAt_0 ?_)
  rw [h.1, ix_cl (by omega)]
  refine ⟨fun q => ?_, fun q => ?_⟩
  · have q := (nI_leiff (by omega) (by omega)).mp q
    unfold bA; rw [if_neg (by omega)]; exact ⟨rfl, rfl⟩
  · have q : ¬ n ≤ p := fun z => q (nI_le z (by omega))
    unfold bA; rw [if_pos (by omega), h.2 p (by omega)]; exact ⟨ix_in (by omega) (by omega), rfl, rfl⟩
theorem ev_reqY {d : Nat} {S : ZSt} {v1 v2 : Int32} (h : ¬ v1 = 0) : zEv d mX7_requires [.ref 57, .int v1, .int v2] S (zY none (fun S' => S' = S)) := zEv.of cw_X7_requires (Nat.le_of_ble_eq_true rfl) rfl (blk_X7_requires_0 ⟨fun _ => ⟨rfl, rfl⟩, fun z => absurd z h⟩)
theorem ev_reqB {d : Nat} {S : ZSt} {v1 v2 : Int32} (h : ¬ gI S 57 12 = 0) : zEv d mX7_requires [.ref 57, .int v1, .int v2] S (zY none (fun S' => S' = S)) := zEv.of cw_X7_requires (Nat.le_of_ble_eq_true rfl) rfl (blk_X7_requires_0 ⟨fun _ => ⟨rfl, rfl⟩, fun _ => ⟨fun _ => ⟨rfl, rfl⟩, fun z => absurd z h⟩⟩)
theorem ev_reqN {d : Nat} {S : ZSt} {v2 : Int32} (h : gI S 57 12 = 0) : zEv d mX7_requires [.ref 57, .int 0, .int v2] S (zY none (fun S' => S' = pI (pI S 57 12 v2) 57 13 (gI S 57 9))) := by
  refine zEv.of cw_X7_requires (Nat.le_of_ble_eq_true rfl) rfl (blk_X7_requires_0 ⟨fun z => absurd rfl z, fun _ => ⟨fun z => absurd h z, fun _ => ⟨rfl, ?_⟩⟩⟩)
  rw [gI_pI, if_neg (by omega)]
/-- the token at p has been read -/
def AtM (S : ZSt) (n : Nat) (tp : Nat → Nat) (p : Nat) : Prop := gI S 57 12 = 0 ∧ gI S 57 10 = nI (tK tp n p) ∧ gI S 57 8 = nI (tE tp n p) ∧ gI S 57 9 = nI (sk tp n p) ∧ (tK tp n p = 2 → gI S 57 11 = nI (tV tp n p))
def BdM (S : ZSt) (f w : Nat) : Prop := gI S 57 12 = nI f ∧ gI S 57 13 = nI w
def Cur (S : ZSt) (n : Nat) (tp : Nat → Nat) (p : Nat) : Prop := (tK tp n p ≠ 4 → AtM S n tp p) ∧ (tK tp n p = 4 → BdM S 1 (sk tp n p))
def rdP : Nat → Nat → Prop := fun k j => k = 57 ∧ 8 ≤ j ∧ j ≤ 13
theorem TM.rd {S S' : ZSt} {n : Nat} {tp : Nat → Nat} (h : TM S n tp) (hf : FrI rdP S S') : TM S' n tp := h.fr hf (by unfold rdP; omega) (fun j => by unfold rdP; omega)
theorem m_letters {d : Nat} {S0 : ZSt} {n s : Nat} {tp : Nat → Nat} {Q : Option Value → ZSt → Prop} (hw : TW n tp) (hs : s ≤ n) (fin : ∀ S1, FrI rdP S0 S1 → TM S1 n tp → gI S1 57 8 = nI (s + rn 97 122 tp n s) → gI S1 57 9 = gI S0 57 9 → gI S1 57 10 = gI S0 57 10 → gI S1 57 12 = gI S0 57 12 → Q none S1) (h : TM S0 n tp) (h8 : gI S0 57 8 = nI s) : zSem (d + 1) mX7_reads 82 [some (.ref 57), none] [] S0 Q := by
  have h160 := hw.1
  have key : ∀ (m k : Nat) (S1 : ZSt), n - (s + k) = m → s + k ≤ n → k + rn 97 122 tp n (s + k) = rn 97 122 tp n s → TM S1 n tp → gI S1 57 8 = nI (s + k) → FrI (fun k j => k = 57 ∧ j = 8) S0 S1 → zSem (d + 1) mX7_reads 82 [some (.ref 57), none] [] S1 Q := by
    intro m
    induction m with
    | zero =>
      intro k S1 hm hk e h1 a8 F1
      refine blk_X7_reads_82 ⟨bA tp n (s + k), S1, by rw [a8]; exact ev_byteAt h1 hw _ (by omega), _, S1, ev_inI S1 _ 97 122 97 122 rfl rfl, b01_if (fun q => ?_) (fun q => absurd ((bA_in hw 97 122).mp q) (by omega))⟩
      rw [rn_no (p := s + k) (by omega)] at e
      exact fin S1 (F1.mono (fun k j z => by unfold rdP; omega)) h1 (by rw [a8, ← e]; rfl) (F1 57 9 (by omega)) (F1 57 10 (by omega)) (F1 57 12 (by omega))
    | succ m ih =>
      intro k S1 hm hk e h1 a8 F1
      refine blk_X7_reads_82 ⟨bA tp n (s + k), S1, by rw [a8]; exact ev_byteAt h1 hw _ (by omega), _, S1, ev_inI S1 _ 97 122 97 122 rfl rfl, b01_if (fun q => ?_) (fun q S4 e4 => ?_)⟩
      · rw [rn_no (p := s + k) (fun z => q ((bA_in hw 97 122).mpr z))] at e
        exact fin S1 (F1.mono (fun k j z => by unfold rdP; omega)) h1 (by rw [a8, ← e]; rfl) (F1 57 9 (by omega)) (F1 57 10 (by omega)) (F1 57 12 (by omega))
      · rw [rn_yes (p := s + k) ((bA_in hw 97 122).mp q)] at e
        rw [a8, nI_1] at e4
        have F4 : FrI (fun k j => k = 57 ∧ j = 8) S1 S4 := by rw [e4]; exact (FrI.rf _ _).pI _ ⟨rfl, rfl⟩
        refine ih (k + 1) S4 (by omega) (by omega) (by rw [show s + (k + 1) = s + k + 1 by omega]; omega) (h1.fr F4 (by omega) (fun j => by omega)) ?_ (F1.tr F4)
        rw [e4, gI_pI, if_pos ⟨rfl, rfl⟩]; rfl
  exact key (n - s) 0 S0 (by omega) (by omega) (by rw [Nat.add_zero, Nat.zero_add]) h h8 (FrI.rf _ _)
theorem digM {a x : Nat} (h : 48 ≤ x ∧ x ≤ 57) (ha : a ≤ 9) : ((10 : Int32) * nI a + nI x) - 48 = nI (a * 10 + (x - 48)) := by
  rw [nI_iv, nI_iv, k10, show (48 : Int32) = iv 48 from rfl, iv_mul, iv_add, iv_sub, nI_iv]
  congr 1
  omega
theorem m_figures {d : Nat} {S0 : ZSt} {n s : Nat} {tp : Nat → Nat} {Q : Option Value → ZSt → Prop} (hw : TW n tp) (hs : s ≤ n) (fin : ∀ S1, FrI rdP S0 S1 → TM S1 n tp → (rn 48 57 tp n s ≤ 2 → gI S1 57 8 = nI (s + rn 48 57 tp n s) ∧ gI S1 57 9 = nI s ∧ gI S1 57 10 = gI S0 57 10 ∧ gI S1 57 11 = nI (vN tp s (rn 48 57 tp n s)) ∧ gI S1 57 12 = 0) → (2 < rn 48 57 tp n s → gI S1 57 12 = 1 ∧ gI S1 57 13 = nI s) → Q none S1) (h : TM S0 n tp) (h8 : gI S0 57 8 = nI s) (h9 : gI S0 57 9 = nI s) (h11 : gI S0 57 11 = 0) (h12 : gI S0 57 12 = 0) : zSem (d + 1) mX7_reads 140 [some (.ref 57), none] [] S0 Q := by
  have h160 := hw.1
  have rin := rn_in (lo := 48) (hi := 57) (tp := tp) hs
  have key : ∀ (m k : Nat) (S1 : ZSt), n - (s + k) = m → s + k ≤ n → k + rn 48 57 tp n (s + k) = rn 48 57 tp n s → TM S1 n tp → gI S1 57 8 = nI (s + k) → gI S1 57 11 = nI (vN tp s k) → FrI (fun k j => k = 57 ∧ (j = 8 ∨ j = 11)) S0 S1 → zSem (d + 1) mX7_reads 140 [some (.ref 57), none] [] S1 Q := by
    intro m
    -- no figure more
    have done : ∀ (k : Nat) (S1 : ZSt), k = rn 48 57 tp n s → TM S1 n tp → gI S1 57 8 = nI (s + k) → gI S1 57 11 = nI (vN tp s k) → FrI (fun k j => k = 57 ∧ (j = 8 ∨ j = 11)) S0 S1 → ((2 < ((gI S1 57 8) - (gI S1 57 9)) → (∃ P5 : ZSt → Prop, zEv d mX7_requires [.ref 57, .int 0, .int 1] S1 (zY none P5) ∧ ∀ S5 : ZSt, P5 S5 → Q none S5)) ∧ (¬ 2 < ((gI S1 57 8) - (gI S1 57 9)) → (∃ P6 : ZSt → Prop, zEv d mX7_requires [.ref 57, .int 1, .int 1] S1 (zY none P6) ∧ ∀ S6 : ZSt, P6 S6 → Q none S6))) := by
      intro k S1 ek h1 a8 a11 F1
      have a9 : gI S1 57 9 = nI s := by rw [F1 57 9 (by omega)]; exact h9
      have a12 : gI S1 57 12 = 0 := by rw [F1 57 12 (by omega)]; exact h12
      rw [a8, a9, nI_subN (by omega), show s + k - s = k by omega]
      refine ⟨fun q => ⟨_, ev_reqN a12, fun S5 k5 => ?_⟩, fun q => ⟨_, ev_reqY (by decide), fun S6 k6 => ?_⟩⟩
      · have q := (nI_ltiff (a := 2) (b := k) (by omega) (by omega)).mp q
        have F5 : FrI (fun k j => k = 57 ∧ (j = 12 ∨ j = 13)) S1 S5 := by rw [k5]; exact ((FrI.rf _ _).pI _ (by omega)).pI _ (by omega)
        refine fin S5 ((F1.mono (fun k j z => by unfold rdP; omega)).tr (F5.mono (fun k j z => by unfold rdP; omega))) (h1.fr F5 (by omega) (fun j => by omega)) (fun z => by omega) (fun _ => ?_)
        rw [k5, gI_pI, if_neg (by omega), gI_pI, if_pos ⟨rfl, rfl⟩, gI_pI, if_pos ⟨rfl, rfl⟩]; exact ⟨rfl, a9⟩
      · have q : ¬ 2 < k := fun z => q (nI_lt (a := 2) (b := k) z (by omega))
        rw [k6]
        exact fin S1 (F1.mono (fun k j z => by unfold rdP; omega)) h1 (fun _ => ⟨by rw [← ek]; exact a8, a9, F1 57 10 (by omega), by rw [← ek]; exact a11, a12⟩) (fun z => by omega)
    induction m with
    | zero =>
      intro k S1 hm hk e h1 a8 a11 F1
      rw [rn_no (p := s + k) (by omega)] at e
      exact blk_X7_reads_140 ⟨bA tp n (s + k), S1, by rw [a8]; exact ev_byteAt h1 hw _ (by omega), _, S1, ev_inI S1 _ 48 57 48 57 rfl rfl, b01_if (fun q => done k S1 (by omega) h1 a8 a11 F1) (fun q => absurd ((bA_in hw 48 57).mp q) (by omega))⟩
    | succ m ih =>
      intro k S1 hm hk e h1 a8 a11 F1
      have a9 : gI S1 57 9 = nI s := by rw [F1 57 9 (by omega)]; exact h9
      refine blk_X7_reads_140 ⟨bA tp n (s + k), S1, by rw [a8]; exact ev_byteAt h1 hw _ (by omega), _, S1, ev_inI S1 _ 48 57 48 57 rfl rfl, b01_if (fun q => ?_) (fun q => ?_)⟩
      · rw [rn_no (p := s + k) (fun z => q ((bA_in hw 48 57).mpr z))] at e
        exact done k S1 (by omega) h1 a8 a11 F1
      · have bb := (bA_in hw 48 57).mp q
        rw [rn_yes (p := s + k) bb] at e
        rw [a8, a9, nI_subN (by omega), show s + k - s = k by omega]
        refine ⟨fun q2 S8 e8 S9 e9 => ?_, fun q2 => ⟨bA tp n (s + k), S1, ev_byteAt h1 hw _ (by omega), fun S11 e11 S12 e12 => ?_⟩⟩
        · have q2 := (nI_leiff (a := 2) (b := k) (by omega) (by omega)).mp q2
          have g8 : gI S8 57 8 = nI (s + k) := by rw [e8, gI_pI, if_neg (by omega)]; exact a8
          rw [g8, nI_1] at e9
          have F9 : FrI (fun k j => k = 57 ∧ (j = 8 ∨ j = 11)) S1 S9 := by rw [e9, e8]; exact ((FrI.rf _ _).pI _ (by omega)).pI _ (by omega)
          refine ih (k + 1) S9 (by omega) (by omega) (by rw [show s + (k + 1) = s + k + 1 by omega]; omega) (h1.fr F9 (by omega) (fun j => by omega)) ?_ ?_ (F1.tr F9)
          · rw [e9, gI_pI, if_pos ⟨rfl, rfl⟩]; rfl
          · rw [e9, gI_pI, if_neg (by omega), e8, gI_pI, if_pos ⟨rfl, rfl⟩, a11, vN_2 q2, vN_2 (g := k + 1) (by omega)]
        · have q2 : ¬ 2 ≤ k := fun z => q2 (nI_le (a := 2) (b := k) z (by omega))
          rw [a11, show bA tp n (s + k) = nI (tp (s + k)) by unfold bA; rw [if_pos bb.1]] at e11
          have g8 : gI S11 57 8 = nI (s + k) := by rw [e11, gI_pI, if_neg (by omega)]; exact a8
          rw [g8, nI_1] at e12
          have F12 : FrI (fun k j => k = 57 ∧ (j = 8 ∨ j = 11)) S1 S12 := by rw [e12, e11]; exact ((FrI.rf _ _).pI _ (by omega)).pI _ (by omega)
          refine ih (k + 1) S12 (by omega) (by omega) (by rw [show s + (k + 1) = s + k + 1 by omega]; omega) (h1.fr F12 (by omega) (fun j => by omega)) ?_ ?_ (F1.tr F12)
          · rw [e12, gI_pI, if_pos ⟨rfl, rfl⟩]; rfl
          · rw [e12, gI_pI, if_neg (by omega), e11, gI_pI, if_pos ⟨rfl, rfl⟩]
            rcases (show k = 0 ∨ k = 1 by omega) with rfl | rfl
            · rw [digM bb.2 (by unfold vN; rw [if_pos rfl]; omega)]; unfold vN; rw [if_pos rfl, if_neg (by omega), if_pos rfl, Nat.add_zero]; congr 1; omega
            · have b0 := rn_each (lo := 48) (hi := 57) (tp := tp) (n := n) 0 s (by omega)
              rw [Nat.add_zero] at b0
              rw [digM bb.2 (by unfold vN; rw [if_neg (by omega), if_pos rfl]; omega)]; unfold vN; rw [if_neg (by omega), if_pos rfl, if_neg (by omega), if_neg (by omega)]
  exact key (n - s) 0 S0 (by omega) (by omega) (by rw [Nat.add_zero, Nat.zero_add]) h h8 (by rw [h11]; rfl) (FrI.rf _ _)
theorem ev_readsB {d : Nat} (hd : 1 ≤ d) {S : ZSt} {f : Nat} (hf : f ≠ 0) (hf2 : f < 1000) (h : gI S 57 12 = nI f) : zEv d mX7_reads [.ref 57] S (zY none (fun S' => S' = S)) := by
  obtain ⟨d, rfl⟩ : ∃ d', d = d' + 1 := ⟨d - 1, by omega⟩
  refine zEv.of cw_X7_reads (Nat.le_of_ble_eq_true rfl) rfl (blk_X7_reads_0 ?_)
  rw [h]
  exact ⟨fun z => absurd ((nI_leiff (b := 0) (by omega) (by omega)).mp z) (by omega), fun _ => ⟨rfl, rfl⟩⟩
theorem ev_reads {d : Nat} (hd : 1 ≤ d) {S : ZSt} {n p : Nat} {tp : Nat → Nat} (h : TM S n tp) (hw : TW n tp) (hp : gI S 57 8 = nI p) (hpn : p ≤ n) (h12 : gI S 57 12 = 0) : zEv d mX7_reads [.ref 57] S (zY none (fun S' => Cur S' n tp p ∧ FrI rdP S S')) := by
  obtain ⟨d, rfl⟩ : ∃ d', d = d' + 1 := ⟨d - 1, by omega⟩
  have h160 := hw.1
  refine zEv.of cw_X7_reads (Nat.le_of_ble_eq_true rfl) rfl (blk_X7_reads_0 ?_)
  rw [h12]
  refine ⟨fun _ => ?_, fun z => absurd (by decide) z⟩
  have key : ∀ (m q : Nat) (S1 : ZSt), n - q = m → q ≤ n → sk tp n q = sk tp n p → TM S1 n tp → gI S1 57 8 = nI q → gI S1 57 12 = 0 → FrI rdP S S1 → zSem (d + 1) mX7_reads 8 [some (.ref 57), none] [] S1 (zY none (fun S' => Cur S' n tp p ∧ FrI rdP S S')) := by
    intro m
    -- no space
    have tok : ∀ (s : Nat) (S1 : ZSt), s ≤ n → sk tp n p = s → TM S1 n tp → gI S1 57 8 = nI s → gI S1 57 12 = 0 → FrI rdP S S1 → (∀ S3 : ZSt, S3 = (pI S1 57 9 (gI S1 57 8)) → (∃ (u4 : Int32) (S4 : ZSt), zEv d mX7_byteAt [.ref 57, .int (gI S3 57 8)] S3 (zX (some (.int u4)) S4) ∧ ((0 ≤ u4 → (∃ (u6 : Int32) (S6 : ZSt), zEv d mX7_in [.long u4.toInt64, .long 97, .long 122] S4 (zX (some (.int u6)) S6) ∧ ((u6 = 0 → (∃ (u8 : Int32) (S8 : ZSt), zEv d mX7_in [.long u4.toInt64, .long 48, .long 57] S6 (zX (some (.int u8)) S8) ∧ ((u8 = 0 → (∀ S10 : ZSt, S10 = (pI S8 57 10 3) → ((¬ u4 = 59 → (∃ P12 : ZSt → Prop, zEv d mX7_requires [.ref 57, .int 0, .int 1] S10 (zY none P12) ∧ ∀ S12 : ZSt, P12 S12 → (∀ S13 : ZSt, S13 = (pI S12 57 8 ((gI S12 57 8) + 1)) → zY none (fun S' => Cur S' n tp p ∧ FrI rdP S S') none S13))) ∧ (u4 = 59 → (∃ P14 : ZSt → Prop, zEv d mX7_requires [.ref 57, .int 1, .int 1] S10 (zY none P14) ∧ ∀ S14 : ZSt, P14 S14 → (∀ S15 : ZSt, S15 = (pI S14 57 8 ((gI S14 57 8) + 1)) → zY none (fun S' => Cur S' n tp p ∧ FrI rdP S S') none S15)))))) ∧ (¬ u8 = 0 → (∀ S16 : ZSt, S16 = (pI S8 57 10 2) → (∀ S17 : ZSt, S17 = (pI S16 57 11 0) → zSem (d + 1) mX7_reads 140 [some (.ref 57), none] [] S17 (zY none (fun S' => Cur S' n tp p ∧ FrI rdP S S')))))))) ∧ (¬ u6 = 0 → (∀ S18 : ZSt, S18 = (pI S6 57 10 1) → zSem (d + 1) mX7_reads 82 [some (.ref 57), none] [] S18 (zY none (fun S' => Cur S' n tp p ∧ FrI rdP S S'))))))) ∧ (¬ 0 ≤ u4 → (∀ S19 : ZSt, S19 = (pI S4 57 10 0) → zY none (fun S' => Cur S' n tp p ∧ FrI rdP S S') none S19))))) := by
      intro s S1 hs es h1 a8 a12 F1 S3 e3
      rw [a8] at e3
      have F3 : FrI rdP S S3 := by rw [e3]; exact F1.pI _ (by unfold rdP; omega)
      have h3 : TM S3 n tp := h1.rd (by rw [e3]; exact (FrI.rf _ _).pI _ (by unfold rdP; omega))
      have b8 : gI S3 57 8 = nI s := by rw [e3, gI_pI, if_neg (by omega)]; exact a8
      have b9 : gI S3 57 9 = nI s := by rw [e3, gI_pI, if_pos ⟨rfl, rfl⟩]
      have b12 : gI S3 57 12 = 0 := by rw [e3, gI_pI, if_neg (by omega)]; exact a12
      have el : lt_ tp n p = rn 97 122 tp n s := by unfold lt_; rw [es]
      have eg : fg_ tp n p = rn 48 57 tp n s := by unfold fg_; rw [es]
      refine ⟨bA tp n s, S3, by rw [b8]; exact ev_byteAt h3 hw _ (by omega), fun q0 => ?_, fun q0 S19 e19 => ?_⟩
      · have sn : s < n := by
          rcases Nat.lt_or_ge s n with y | y
          · exact y
          · unfold bA at q0; rw [if_neg (by omega)] at q0; exact absurd q0 (by decide)
        have b127 := hw.2 s sn
        refine ⟨_, S3, ev_inI S3 _ 97 122 97 122 rfl rfl, b01_if (fun q1 => ⟨_, S3, ev_inI S3 _ 48 57 48 57 rfl rfl, b01_if (fun q2 S10 e10 => ?_) (fun q2 S16 e16 S17 e17 => ?_)⟩) (fun q1 S18 e18 => ?_)⟩
        · have z1 : lt_ tp n p = 0 := by rw [el]; exact rn_no (fun z => q1 ((bA_in hw 97 122).mpr z))
          have z2 : fg_ tp n p = 0 := by rw [eg]; exact rn_no (fun z => q2 ((bA_in hw 48 57).mpr z))
          have eE : tE tp n p = s + 1 := by unfold tE; rw [es, if_neg (by omega), if_neg (by omega), if_neg (by omega)]
          have c8 : gI S10 57 8 = nI s := by rw [e10, gI_pI, if_neg (by omega)]; exact b8
          have c9 : gI S10 57 9 = nI s := by rw [e10, gI_pI, if_neg (by omega)]; exact b9
          have c12 : gI S10 57 12 = 0 := by rw [e10, gI_pI, if_neg (by omega)]; exact b12
          have F10 : FrI rdP S S10 := by rw [e10]; exact F3.pI _ (by unfold rdP; omega)
          have eb : bA tp n s = nI (tp s) := by unfold bA; rw [if_pos sn]
          rw [eb]
          refine ⟨fun q3 => ⟨_, ev_reqN c12, fun S12 k12 S13 e13 => ?_⟩, fun q3 => ⟨_, ev_reqY (by decide), fun S14 k14 S15 e15 => ?_⟩⟩
          · have q3 : ¬ tp s = 59 := fun y => q3 (by rw [y]; rfl)
            have eK : tK tp n p = 4 := by unfold tK; rw [es, if_neg (by omega), if_neg (by omega), if_neg (by omega), if_neg q3]
            refine ⟨rfl, ⟨fun z => absurd eK z, fun _ => ⟨?_, ?_⟩⟩, ?_⟩
            · rw [e13, gI_pI, if_neg (by omega), k12, gI_pI, if_neg (by omega), gI_pI, if_pos ⟨rfl, rfl⟩]; rfl
            · rw [e13, gI_pI, if_neg (by omega), k12, gI_pI, if_pos ⟨rfl, rfl⟩, c9, es]
            · rw [e13, k12]; exact ((F10.pI _ (by unfold rdP; omega)).pI _ (by unfold rdP; omega)).pI _ (by unfold rdP; omega)
          · have q3 : tp s = 59 := (nI_eq (b := 59) (by omega) (by omega)).mp q3
            have eK : tK tp n p = 3 := by unfold tK; rw [es, if_neg (by omega), if_neg (by omega), if_neg (by omega), if_pos q3]
            rw [k14, c8, nI_1] at e15
            refine ⟨rfl, ⟨fun _ => ⟨?_, ?_, ?_, ?_, fun z => by omega⟩, fun z => by omega⟩, ?_⟩
            · rw [e15, gI_pI, if_neg (by omega)]; exact c12
            · rw [e15, gI_pI, if_neg (by omega), e10, gI_pI, if_pos ⟨rfl, rfl⟩, eK]; rfl
            · rw [e15, gI_pI, if_pos ⟨rfl, rfl⟩, eE]
            · rw [e15, gI_pI, if_neg (by omega), c9, es]
            · rw [e15]; exact F10.pI _ (by unfold rdP; omega)
        · have z1 : lt_ tp n p = 0 := by rw [el]; exact rn_no (fun z => q1 ((bA_in hw 97 122).mpr z))
          have z2 : 0 < fg_ tp n p := by rw [eg, rn_yes ((bA_in hw 48 57).mp q2)]; omega
          have eE : tE tp n p = s + fg_ tp n p := by unfold tE; rw [es, if_neg (by omega), if_neg (by omega), if_pos z2]
          have eK : tK tp n p = if fg_ tp n p ≤ 2 then 2 else 4 := by unfold tK; rw [es, if_neg (by omega), if_neg (by omega), if_pos z2]
          have eV : tV tp n p = vN tp s (fg_ tp n p) := by unfold tV; rw [es]
          have F17 : FrI rdP S S17 := by rw [e17, e16]; exact (F3.pI _ (by unfold rdP; omega)).pI _ (by unfold rdP; omega)
          have h17 : TM S17 n tp := h3.rd (by rw [e17, e16]; exact ((FrI.rf _ _).pI _ (by unfold rdP; omega)).pI _ (by unfold rdP; omega))
          refine m_figures hw hs (fun S2 F2 h2 good bad => ⟨rfl, ⟨fun z => ?_, fun z => ?_⟩, F17.tr F2⟩) h17 ?_ ?_ ?_ ?_
          · have g2 : fg_ tp n p ≤ 2 := by
              rcases Nat.lt_or_ge 2 (fg_ tp n p) with y | y
              · rw [eK, if_neg (by omega)] at z; exact absurd rfl z
              · exact y
            obtain ⟨g8, g9, g10, g11, g12⟩ := good (by rw [← eg]; exact g2)
            refine ⟨g12, ?_, by rw [g8, eE, eg], by rw [g9, es], fun _ => by rw [g11, eV, eg]⟩
            rw [g10, e17, gI_pI, if_neg (by omega), e16, gI_pI, if_pos ⟨rfl, rfl⟩, eK, if_pos g2]; rfl
          · have g2 : 2 < fg_ tp n p := by
              rcases Nat.lt_or_ge 2 (fg_ tp n p) with y | y
              · exact y
              · rw [eK, if_pos y] at z; omega
            have := bad (by rw [← eg]; exact g2)
            exact ⟨this.1, by rw [this.2, es]⟩
          · rw [e17, gI_pI, if_neg (by omega), e16, gI_pI, if_neg (by omega)]; exact b8
          · rw [e17, gI_pI, if_neg (by omega), e16, gI_pI, if_neg (by omega)]; exact b9
          · rw [e17, gI_pI, if_pos ⟨rfl, rfl⟩]
          · rw [e17, gI_pI, if_neg (by omega), e16, gI_pI, if_neg (by omega)]; exact b12
        · have z1 : 0 < lt_ tp n p := by rw [el, rn_yes ((bA_in hw 97 122).mp q1)]; omega
          have eE : tE tp n p = s + lt_ tp n p := by unfold tE; rw [es, if_neg (by omega), if_pos z1]
          have eK : tK tp n p = 1 := by unfold tK; rw [es, if_neg (by omega), if_pos z1]
          have F18 : FrI rdP S S18 := by rw [e18]; exact F3.pI _ (by unfold rdP; omega)
          have h18 : TM S18 n tp := h3.rd (by rw [e18]; exact (FrI.rf _ _).pI _ (by unfold rdP; omega))
          refine m_letters hw hs (fun S2 F2 h2 g8 g9 g10 g12 => ⟨rfl, ⟨fun _ => ⟨?_, ?_, ?_, ?_, fun z => by omega⟩, fun z => by omega⟩, F18.tr F2⟩) h18 ?_
          · rw [g12, e18, gI_pI, if_neg (by omega)]; exact b12
          · rw [g10, e18, gI_pI, if_pos ⟨rfl, rfl⟩, eK]; rfl
          · rw [g8, eE, el]
          · rw [g9, e18, gI_pI, if_neg (by omega), b9, es]
          · rw [e18, gI_pI, if_neg (by omega)]; exact b8
      · have sn : n ≤ s := by
          rcases Nat.lt_or_ge s n with y | y
          · unfold bA at q0; rw [if_pos y] at q0; exact absurd (nI_pos' (by have := hw.2 s y; omega)) q0
          · exact y
        have eE : tE tp n p = s := by unfold tE; rw [es, if_pos (by omega)]
        have eK : tK tp n p = 0 := by unfold tK; rw [es, if_pos (by omega)]
        refine ⟨rfl, ⟨fun _ => ⟨?_, ?_, ?_, ?_, fun z => by omega⟩, fun z => by omega⟩, ?_⟩
        · rw [e19, gI_pI, if_neg (by omega)]; exact b12
        · rw [e19, gI_pI, if_pos ⟨rfl, rfl⟩, eK]; rfl
        · rw [e19, gI_pI, if_neg (by omega), eE]; exact b8
        · rw [e19, gI_pI, if_neg (by omega), es]; exact b9
        · rw [e19]; exact F3.pI _ (by unfold rdP; omega)
    have b32 : ∀ q, q ≤ n → (bA tp n q = 32 ↔ (q < n ∧ tp q = 32)) := by
      intro q hq
      unfold bA
      by_cases y : q < n
      · have := hw.2 q y
        rw [if_pos y, show (32 : Int32) = nI 32 from rfl, nI_eq (by omega) (by omega)]; omega
      · rw [if_neg y]
        exact ⟨fun z => absurd z (by decide), fun z => by omega⟩
    induction m with
    | zero =>
      intro q S1 hm hq es h1 a8 a12 F1
      have e1 : sk tp n p = q := by rw [← es]; exact sk_ns (by omega)
      exact blk_X7_reads_8 ⟨bA tp n q, S1, by rw [a8]; exact ev_byteAt h1 hw _ (by omega), fun _ => tok q S1 hq e1 h1 a8 a12 F1, fun z => absurd ((b32 q hq).mp z) (by omega)⟩
    | succ m ih =>
      intro q S1 hm hq es h1 a8 a12 F1
      refine blk_X7_reads_8 ⟨bA tp n q, S1, by rw [a8]; exact ev_byteAt h1 hw _ (by omega), fun z => ?_, fun z S20 e20 => ?_⟩
      · have e1 : sk tp n p = q := by rw [← es]; exact sk_ns (fun y => z ((b32 q hq).mpr y))
        exact tok q S1 hq e1 h1 a8 a12 F1
      · have z := (b32 q hq).mp z
        rw [a8, nI_1] at e20
        refine ih (q + 1) S20 (by omega) (by omega) (by rw [← es]; exact (sk_sp z).symm) (h1.rd (by rw [e20]; exact (FrI.rf _ _).pI _ (by unfold rdP; omega))) ?_ ?_ ?_
        · rw [e20, gI_pI, if_pos ⟨rfl, rfl⟩]
        · rw [e20, gI_pI, if_neg (by omega)]; exact a12
        · rw [e20]; exact F1.pI _ (by unfold rdP; omega)
  exact key (n - p) p S rfl hpn rfl h hp h12 (FrI.rf _ _)
