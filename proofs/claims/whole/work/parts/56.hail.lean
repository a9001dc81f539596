/-! HAIL: a way (a set of weeks ahead of which it hails), by its number -/
def hbt (t : Bool) (b : Int) : Int := if t = true then clp (b + 2) 9 else b
def wy (k h e b : Int) (t : Nat → Bool) : Nat → Int × Int
  | 0 => (e, b)
  | i + 1 => (eN k (wy k h e b t i).1 (hbt (t i) (wy k h e b t i).2) h, bN k (hbt (t i) (wy k h e b t i).2) h)
def wtN (v : Nat) (t : Nat → Bool) : Nat → Nat
  | 0 => 1
  | i + 1 => wtN v t i * (if t i = true then v else 10 - v)
theorem wy_congr {k h e b : Int} {t t' : Nat → Bool} : ∀ i, (∀ j, j < i → t j = t' j) → wy k h e b t i = wy k h e b t' i
  | 0, _ => rfl
  | i + 1, q => by
    have ih := wy_congr (k := k) (h := h) (e := e) (b := b) i (fun j hj => q j (by omega))
    rw [wy, wy, ih, q i (by omega)]
theorem wtN_congr {v : Nat} {t t' : Nat → Bool} : ∀ i, (∀ j, j < i → t j = t' j) → wtN v t i = wtN v t' i
  | 0, _ => rfl
  | i + 1, q => by
    have ih := wtN_congr (v := v) i (fun j hj => q j (by omega))
    rw [wtN, wtN, ih, q i (by omega)]
theorem hbt_in {t : Bool} {b : Int} (h : 0 ≤ b ∧ b ≤ 9) : 0 ≤ hbt t b ∧ hbt t b ≤ 9 := by unfold hbt; split; exact clp_in (by omega); exact h
theorem wy_in {k h e b : Int} {t : Nat → Bool} (he : 0 ≤ e ∧ e ≤ 99) (hb : 0 ≤ b ∧ b ≤ 9) : ∀ i, (0 ≤ (wy k h e b t i).1 ∧ (wy k h e b t i).1 ≤ 99) ∧ (0 ≤ (wy k h e b t i).2 ∧ (wy k h e b t i).2 ≤ 9)
  | 0 => ⟨he, hb⟩
  | i + 1 => by rw [wy]; exact ⟨eN_in _ _ _ _, bN_in _ _ _⟩
theorem wtN_in {v : Nat} (hv : v ≤ 10) {t : Nat → Bool} : ∀ i, wtN v t i ≤ 10 ^ i
  | 0 => Nat.le_refl 1
  | i + 1 => by
    rw [wtN, Nat.pow_succ]
    refine Nat.mul_le_mul (wtN_in hv i) ?_
    split <;> omega
def wyL (L : Lnd) (f j i : Nat) : Int × Int := wy (L 1 f) (hdL L f) (L 2 f) (L 3 f) (Nat.testBit j) i
theorem wyL_in {L : Lnd} (hW : WF L) {f : Nat} (hf : f < nF L) (j i : Nat) : (0 ≤ (wyL L f j i).1 ∧ (wyL L f j i).1 ≤ 99) ∧ (0 ≤ (wyL L f j i).2 ∧ (wyL L f j i).2 ≤ 9) := wy_in (hW.f hf).2.1 (hW.f hf).2.2 i
theorem tb_lo {i j q : Nat} (h : q < i) : Nat.testBit (2 ^ i + j) q = Nat.testBit j q := Nat.testBit_two_pow_add_gt h j
theorem tb_hi {i j : Nat} (h : j < 2 ^ i) : Nat.testBit (2 ^ i + j) i = true := by rw [Nat.testBit_two_pow_add_eq, Nat.testBit_lt_two_pow h]; rfl
theorem wyL_hi (L : Lnd) (f i j : Nat) : wyL L f (2 ^ i + j) i = wyL L f j i := wy_congr i (fun q hq => tb_lo hq)
theorem wtN_hi (v i j : Nat) : wtN v (Nat.testBit (2 ^ i + j)) i = wtN v (Nat.testBit j) i := wtN_congr i (fun q hq => tb_lo hq)
/-- the class's ways behind i weeks -/
def HlC (S : ZSt) (L : Lnd) (f v i : Nat) : Prop := gI S 46 3 = nI (2 ^ i) ∧ ∀ j, j < 2 ^ i → gI S 47 j = iv (wyL L f j i).1 ∧ gI S 48 j = iv (wyL L f j i).2 ∧ gL S 49 j = lN (wtN v (Nat.testBit j) i)
def PtC (S : ZSt) (L : Lnd) (f v i : Nat) : Prop := gI S 46 3 = nI (2 ^ (i + 1)) ∧ ∀ j, j < 2 ^ (i + 1) → gI S 47 j = iv (wyL L f j i).1 ∧ gI S 48 j = iv (hbt (Nat.testBit j i) (wyL L f j i).2) ∧ gL S 49 j = lN (wtN v (Nat.testBit j) (i + 1))
def hlP : Nat → Nat → Prop := fun k _ => 46 ≤ k ∧ k ≤ 48
theorem p2_le {i : Nat} (h : i < 8) : 2 ^ i ≤ 128 := Nat.pow_le_pow_right (n := 2) (by omega) (show i ≤ 7 by omega)
theorem min9 {b : Int} (h : 0 ≤ b ∧ b ≤ 9) : (if iv b + 2 < 9 then iv b + 2 else 9) = iv (hbt true b) := by
  rw [k2, iv_add, k9, iv_iteLt (by unfold inB; omega) (by unfold inB; omega)]
  congr 1
  unfold hbt clp
  rw [if_pos rfl]
  repeat' split
  all_goals omega
theorem l10 {v : Nat} (h : v ≤ 10) : ((10 : Int32) - nI v).toInt64 = lN (10 - v) := by
  rw [show (10 : Int32) = nI 10 from rfl, nI_iv, nI_iv, iv_sub, show ((10 : Nat) : Int) - (v : Int) = ((10 - v : Nat) : Int) by omega, ← nI_iv, nI_l (by omega)]
theorem FrI.pL {P : Nat → Nat → Prop} {S S1 : ZSt} (h : FrI P S S1) {k j : Nat} {x : Int64} : FrI P S (pL S1 k j x) := h
theorem ev_part {d : Nat} {S : ZSt} {L : Lnd} (hW : WF L) {f v i : Nat} (hf : f < nF L) (hv : v ≤ 10) (hi : i < 8) (h : HlC S L f v i) : zEv (d + 1) mX1_part [.ref 46, .int (nI v)] S (zY none (fun S' => PtC S' L f v i ∧ FrI hlP S S')) := by
  refine zEv.of cw_X1_part (Nat.le_of_ble_eq_true rfl) rfl (blk_X1_part_0 ?_)
  have hp := p2_le hi
  obtain ⟨P, eP⟩ : ∃ P, P = 2 ^ i := ⟨_, rfl⟩
  have e2 : 2 ^ (i + 1) = 2 * P := by rw [eP, Nat.pow_succ]; omega
  unfold HlC at h
  rw [← eP] at h hp
  have key : ∀ (m q : Nat) (S1 : ZSt), q + m = P → gI S1 46 3 = nI P → (∀ j, j < P → gI S1 47 j = iv (wyL L f j i).1 ∧ gI S1 48 j = iv (wyL L f j i).2 ∧ (q ≤ j → gL S1 49 j = lN (wtN v (Nat.testBit j) i)) ∧ (j < q → gL S1 49 j = lN (wtN v (Nat.testBit j) (i + 1)))) → (∀ j, j < q → gI S1 47 (P + j) = iv (wyL L f j i).1 ∧ gI S1 48 (P + j) = iv (hbt true (wyL L f j i).2) ∧ gL S1 49 (P + j) = lN (wtN v (Nat.testBit j) i * v)) → FrI hlP S S1 → zSem (d + 1) mX1_part 2 [some (.ref 46), some (.int (nI v)), some (.int (nI q))] [] S1 (zY none (fun S' => PtC S' L f v i ∧ FrI hlP S S')) := by
    intro m
    induction m with
    | zero =>
      intro q S1 hq g1 lo up F1
      obtain rfl : q = P := by omega
      refine blk_X1_part_2 ?_
      rw [g1]
      refine ⟨fun _ S2 e2' => ⟨rfl, ⟨?_, fun j hj => ?_⟩, ?_⟩, fun z => absurd (nI_le (by omega) (by omega)) z⟩
      · rw [e2', gI_pI, if_pos ⟨rfl, rfl⟩, e2, show (2 : Int32) = nI 2 from rfl, pk_mul, Nat.mul_comm]
      · rw [e2] at hj
        rw [e2', gI_pI, if_neg (by omega), gI_pI, if_neg (by omega), gL_pI]
        by_cases z : j < q
        · have tf : Nat.testBit j i = false := Nat.testBit_lt_two_pow (by rw [← eP]; exact z)
          obtain ⟨a1, a2, a3, a4⟩ := lo j z
          refine ⟨a1, ?_, a4 z⟩
          rw [a2, tf]; rfl
        · obtain ⟨j', rfl⟩ : ∃ j', j = q + j' := ⟨j - q, by omega⟩
          obtain ⟨b1, b2, b3⟩ := up j' (by omega)
          have th : Nat.testBit (q + j') i = true := by rw [eP]; exact tb_hi (by rw [← eP]; omega)
          have wh := wyL_hi L f i j'
          have nh := wtN_hi v i j'
          rw [← eP] at wh nh
          refine ⟨by rw [wh]; exact b1, by rw [wh, th]; exact b2, ?_⟩
          rw [wtN, th, nh, if_pos rfl]; exact b3
      · rw [e2']; exact F1.pI _ (by unfold hlP; omega)
    | succ m ih =>
      intro q S1 hq g1 lo up F1
      obtain ⟨a1, a2, a3, a4⟩ := lo q (by omega)
      have a3 := a3 (Nat.le_refl _)
      have tf : Nat.testBit q i = false := Nat.testBit_lt_two_pow (by rw [← eP]; omega)
      have bi := (wyL_in hW hf q i).2
      refine blk_X1_part_2 ?_
      rw [g1]
      refine ⟨fun z => absurd z (nI_ge (by omega) (by omega)), fun _ => ?_⟩
      rw [nI_add, ix_cl (by omega), ix_cl (by omega), a1]
      refine ⟨ix_in (by omega) (by omega), ix_in (by omega) (by omega), fun S3 e3 => ?_⟩
      have g3 : gI S3 46 3 = nI P := by rw [e3, gI_pI, if_neg (by omega)]; exact g1
      have b3 : gI S3 48 q = iv (wyL L f q i).2 := by rw [e3, gI_pI, if_neg (by omega)]; exact a2
      rw [g3, nI_add, ix_cl (by omega), b3, min9 bi]
      refine ⟨ix_in (by omega) (by omega), ix_in (by omega) (by omega), fun S4 e4 => ?_⟩
      have g4 : gI S4 46 3 = nI P := by rw [e4, gI_pI, if_neg (by omega)]; exact g3
      have b4 : gL S4 49 q = lN (wtN v (Nat.testBit q) i) := by rw [e4, gL_pI, e3, gL_pI]; exact a3
      rw [g4, nI_add, ix_cl (by omega), b4, nI_l (by omega), lN_mul]
      refine ⟨ix_in (by omega) (by omega), ix_in (by omega) (by omega), fun S5 e5 => ?_⟩
      have b5 : gL S5 49 q = lN (wtN v (Nat.testBit q) i) := by rw [e5, gL_pL, if_neg (by omega)]; exact b4
      rw [b5, l10 hv, lN_mul, nI_1]
      refine ⟨ix_in (by omega) (by omega), ix_in (by omega) (by omega), fun S6 e6 => ih (q + 1) S6 (by omega) ?_ (fun j hj => ?_) (fun j hj => ?_) ?_⟩
      · rw [e6, gI_pL, e5, gI_pL]; exact g4
      · obtain ⟨c1, c2, c3, c4⟩ := lo j hj
        rw [e6, gI_pL, gI_pL, gL_pL, e5, gI_pL, gI_pL, gL_pL, if_neg (show ¬ (49 = 49 ∧ j = P + q) by omega), e4, gI_pI, if_neg (by omega), gI_pI, if_neg (by omega), gL_pI, e3, gI_pI, if_neg (by omega), gI_pI, if_neg (by omega), gL_pI]
        refine ⟨c1, c2, fun z => ?_, fun z => ?_⟩
        · rw [if_neg (by omega)]; exact c3 (by omega)
        · by_cases y : j = q
          · rw [if_pos ⟨rfl, y⟩, y, wtN, tf, if_neg (by decide)]
          · rw [if_neg (by omega)]; exact c4 (by omega)
      · rw [e6, gI_pL, gI_pL, gL_pL, if_neg (show ¬ (49 = 49 ∧ P + j = q) by omega), e5, gI_pL, gI_pL, gL_pL, e4, gI_pI, if_neg (by omega), gI_pI, gL_pI, e3, gI_pI, gI_pI, if_neg (show ¬ (48 = 47 ∧ P + j = P + q) by omega), gL_pI]
        by_cases y : j = q
        · rw [y, if_pos ⟨rfl, rfl⟩, if_pos ⟨rfl, rfl⟩, if_pos ⟨rfl, rfl⟩]; exact ⟨rfl, rfl, rfl⟩
        · rw [if_neg (by omega), if_neg (by omega), if_neg (by omega)]; exact up j (by omega)
      · rw [e6, e5, e4, e3]
        exact ((F1.pI (k := 47) (j := P + q) _ (by unfold hlP; omega)).pI (k := 48) (j := P + q) _ (by unfold hlP; omega)).pL.pL
  exact key P 0 S (by omega) h.1 (fun j hj => ⟨(h.2 j hj).1, (h.2 j hj).2.1, fun _ => (h.2 j hj).2.2, fun z => absurd z (by omega)⟩) (fun j hj => absurd hj (by omega)) (FrI.rf _ _)
