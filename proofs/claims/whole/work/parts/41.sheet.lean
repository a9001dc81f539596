/-! the sheets: sheet, lay -/
abbrev Sh : Type := Nat → Option (Nat × Nat × (Nat → Int32))
def SC (S : ZSt) (sh : Sh) : Prop := ∀ i, i < 4 → (sh i = none → gI S 56 i = -1) ∧ (∀ ln sz ce, sh i = some (ln, sz, ce) → gI S 55 i = nI ln ∧ gI S 56 i = nI sz ∧ ∀ j, j < sz → gI S 54 (i * 40 + j) = ce j)
def SM (S : ZSt) (sh : Sh) : Prop := ∀ i, i < 4 → (sh i = none → gI S 66 i = -4) ∧ (∀ ln sz ce, sh i = some (ln, sz, ce) → gI S 66 i = nI ln ∧ gI S 67 i = nI sz ∧ ∀ j, j < sz → gI S 68 (i * 40 + j) = ce j)
def SW (sh : Sh) : Prop := ∀ i ln sz ce, sh i = some (ln, sz, ce) → ln ≤ 2 ∧ sz ≤ 40
def updS (sh : Sh) (i : Nat) (x : Nat × Nat × (Nat → Int32)) : Sh := fun j => if j = i then some x else sh j
def scP : Nat → Nat → Prop := fun k _ => 54 ≤ k ∧ k ≤ 56
def smP : Nat → Nat → Prop := fun k _ => 66 ≤ k ∧ k ≤ 68
theorem ix40 (f m : Nat) : nI f * 40 + nI m = nI (f * 40 + m) := by rw [show (40 : Int32) = nI 40 from rfl, pk_mul, nI_add]
theorem ix40' (f m : Nat) : (40 : Int32) * nI f + nI m = nI (f * 40 + m) := by rw [show (40 : Int32) = nI 40 from rfl, pk_mul, nI_add, Nat.mul_comm]
theorem ev_renew {d : Nat} {S : ZSt} {sh : Sh} (h : SC S sh) (hw : SW sh) (i ln sz : Nat) (hi : i < 4) (hs : sz ≤ 40) : zEv d mX4_renew [.ref 53, .int (nI i), .int (nI ln), .int (nI sz)] S (zY none (fun S' => SC S' (updS sh i (ln, sz, fun _ => 0)) ∧ FrI scP S S')) := by
  refine zEv.of cw_X4_renew (Nat.le_of_ble_eq_true rfl) rfl (blk_X4_renew_0 ⟨ix_in (by omega) (by omega), fun S1 e1 => ⟨ix_in (by omega) (by omega), fun S2 e2 => ?_⟩⟩)
  rw [ix_cl (by omega)] at e1 e2
  have key : ∀ (m j : Nat) (S3 : ZSt), j + m = sz → (∀ t, t < j → gI S3 54 (i * 40 + t) = 0) → FrI (fun k p => k = 54 ∧ i * 40 ≤ p ∧ p < i * 40 + 40) S2 S3 → zSem d mX4_renew 17 [some (.ref 53), some (.int (nI i)), none, some (.int (nI sz)), some (.int (nI j))] [] S3 (zY none (fun S' => SC S' (updS sh i (ln, sz, fun _ => 0)) ∧ FrI scP S S')) := by
    intro m
    induction m with
    | zero =>
      intro j S3 hj h3 F3
      obtain rfl : j = sz := by omega
      have g55 : ∀ x, gI S3 55 x = if x = i then nI ln else gI S 55 x := fun x => by
        rw [F3 55 x (by omega), e2, gI_pI, if_neg (by omega), e1, gI_pI]
        by_cases q : x = i
        · rw [if_pos ⟨rfl, q⟩, if_pos q]
        · rw [if_neg (by omega), if_neg q]
      have g56 : ∀ x, gI S3 56 x = if x = i then nI j else gI S 56 x := fun x => by
        rw [F3 56 x (by omega), e2, gI_pI]
        by_cases q : x = i
        · rw [if_pos ⟨rfl, q⟩, if_pos q]
        · rw [if_neg (by omega), if_neg q, e1, gI_pI, if_neg (by omega)]
      refine blk_X4_renew_17 ⟨fun q => ⟨rfl, fun x hx => ?_, fun k p q => ?_⟩, fun q => absurd (nI_le (by omega) (by omega)) q⟩
      · unfold updS
        by_cases q : x = i
        · rw [if_pos q]
          refine ⟨fun z => absurd z (by simp), fun ln1 sz1 ce1 ee => ?_⟩
          have e := Option.some.inj ee
          have a1 : ln = ln1 := congrArg Prod.fst e
          have a2 : j = sz1 := congrArg (fun z => z.2.1) e
          have a3 : (fun _ => (0 : Int32)) = ce1 := congrArg (fun z => z.2.2) e
          subst a1 a2 a3
          rw [g55, g56, if_pos q, if_pos q, q]
          exact ⟨rfl, rfl, h3⟩
        · rw [if_neg q]
          refine ⟨fun z => by rw [g56, if_neg q]; exact (h x hx).1 z, fun ln1 sz1 ce1 ee => ?_⟩
          have o := (h x hx).2 ln1 sz1 ce1 ee
          rw [g55, g56, if_neg q, if_neg q]
          refine ⟨o.1, o.2.1, fun t ht => ?_⟩
          have w := hw x ln1 sz1 ce1 ee
          rw [F3 54 _ (by omega), e2, gI_pI, if_neg (by omega), e1, gI_pI, if_neg (by omega)]; exact o.2.2 t ht
      · rw [F3 k p (by unfold scP at q; omega), e2, gI_pI, if_neg (by unfold scP at q; omega), e1, gI_pI, if_neg (by unfold scP at q; omega)]
    | succ m ih =>
      intro j S3 hj h3 F3
      refine blk_X4_renew_17 ⟨fun q => absurd q (nI_ge (by omega) (by omega)), fun q => ?_⟩
      rw [ix40, ix_cl (by omega), nI_1]
      refine ⟨ix_in (by omega) (by omega), fun S4 e4 => ih (j + 1) S4 (by omega) (fun t ht => ?_) ?_⟩
      · rw [e4, gI_pI]
        by_cases q2 : t = j
        · rw [q2, if_pos ⟨rfl, rfl⟩]
        · rw [if_neg (by omega)]; exact h3 t (by omega)
      · rw [e4]; exact F3.pI _ ⟨rfl, by omega, by omega⟩
  exact key sz 0 S2 (by omega) (fun t ht => absurd ht (by omega)) (FrI.rf _ _)
