/-! read: the reference -/
theorem SM.fr {S S' : ZSt} {sh : Sh} {P : Nat → Nat → Prop} (h : SM S sh) (hf : FrI P S S') (hp : ∀ k j, 66 ≤ k → k ≤ 68 → ¬ P k j) : SM S' sh := by
  intro i hi
  refine ⟨fun z => by rw [hf 66 i (hp _ _ (by omega) (by omega))]; exact (h i hi).1 z, fun l sz ce e => ?_⟩
  have o := (h i hi).2 l sz ce e
  rw [hf 66 i (hp _ _ (by omega) (by omega)), hf 67 i (hp _ _ (by omega) (by omega))]
  exact ⟨o.1, o.2.1, fun j hj => by rw [hf 68 _ (hp _ _ (by omega) (by omega))]; exact o.2.2 j hj⟩
def rmP : Nat → Nat → Prop := fun k i => (k = 58 ∧ i < 50) ∨ k = 69
theorem rm_step {d : Nat} {S : ZSt} {sh : Sh} (hS : SM S sh) (hw : SW sh) (i ln k e : Nat) (hi : i < 4) (hl : ln ≤ 2) (hk : k ≤ 20) (he : e ≤ 1) (v nn gg : Int32) {Q : Option Value → ZSt → Prop} (h : zSem (d + 1) mX7_read 77 [some (.ref 57), some (.int (nI i)), some (.int (nI ln)), some (.int v), some (.int nn), some (.int (fltT sh i (nI ln) (v.toInt + 2 * k + e))), some (.int gg), some (.int (nI k)), some (.int (nI (e + 1))), none, none] [] S Q) : zSem (d + 1) mX7_read 77 [some (.ref 57), some (.int (nI i)), some (.int (nI ln)), some (.int v), some (.int nn), some (.int 0), some (.int gg), some (.int (nI k)), some (.int (nI e)), none, none] [] S Q := by
  refine blk_X7_read_77 ⟨fun q => absurd q (nI_ge (a := e) (b := 2) (by omega) (by omega)), fun _ => ⟨fun z => absurd rfl z, fun _ => ?_⟩⟩
  have ls := l_sum3 v k e hk he
  rw [ix_cl (by omega), nI_1]
  unfold fltT at h
  cases ee : sh i with
  | none =>
    rw [ee] at h
    rw [(hS i hi).1 ee]
    exact ⟨ix_in (by omega) (by omega), fun z => absurd rfl z, fun _ => h⟩
  | some x =>
    obtain ⟨l, sz, ce⟩ := x
    have o := (hS i hi).2 l sz ce ee
    have w := hw i l sz ce ee
    rw [ee] at h
    simp only [] at h
    have n4 : ¬ nI l = -4 := by rcases (show l = 0 ∨ l = 1 ∨ l = 2 by omega) with rfl | rfl | rfl <;> decide
    rw [o.1, o.2.1]
    have z0 : Int64.toInt 0 = 0 := by decide
    have zs : (nI sz).toInt64.toInt = (sz : Int) := by rw [Int32.toInt_toInt64, nI_toInt (by omega)]
    refine ⟨ix_in (by omega) (by omega), fun _ => ⟨ix_in (by omega) (by omega), fun q => ⟨fun q2 => ?_, fun q2 => ⟨ix_in (by omega) (by omega), fun q3 => ?_, fun q3 => ?_⟩⟩, fun q => ?_⟩, fun z => absurd z n4⟩
    · rw [lc_lt, Int64.lt_iff_toInt_lt, ls, z0] at q2
      rw [if_pos q, if_neg (by omega)] at h; exact h
    · rw [lc_lt, Int64.lt_iff_toInt_lt, ls, z0] at q2
      rw [lc_lt, Int64.lt_iff_toInt_lt, ls, zs] at q3
      rw [if_pos q, if_pos (by omega)] at h; exact h
    · rw [lc_lt, Int64.lt_iff_toInt_lt, ls, z0] at q2
      rw [lc_lt, Int64.lt_iff_toInt_lt, ls, zs] at q3
      rw [if_pos q, if_neg (by omega)] at h; exact h
    · rw [if_neg q] at h; exact h
