/-! read: the reference's fault of a pair -/
/-- while the pairs before are good, the true numbers say what the class's say -/
theorem pf_T {sh : Sh} (hw : SW sh) {i : Nat} {ln v : Int32} {k : Nat} (hk : k ≤ 20) (hp : k = 0 ∨ pfA sh i ln v 0 = 0) : pfA sh i ln v k = if fltT sh i ln (v.toInt + 2 * k + (0 : Nat)) = 0 then fltT sh i ln (v.toInt + 2 * k + (1 : Nat)) else fltT sh i ln (v.toInt + 2 * k + (0 : Nat)) := by
  have z0 : v + 2 * nI 0 = v := by rw [nI_0]; rw [Int32.mul_zero, Int32.add_zero]
  have rng : fltA sh i ln v = 0 → 0 ≤ v.toInt ∧ v.toInt ≤ 40 := fun q => by
    obtain ⟨l, sz, ce, e, h0, h1⟩ := flt_ok q
    have := hw i l sz ce e
    omega
  have a0 : (0 ≤ v.toInt ∧ v.toInt ≤ 40) → fltA sh i ln (v + 2 * nI k) = fltT sh i ln (v.toInt + 2 * k + (0 : Nat)) := fun r => by
    rw [flt_T]
    have := v_sum (v := v) (k := k) (e := 0) hk (by omega) r
    rw [nI_0, Int32.add_zero] at this
    rw [this]
  have a1 : (0 ≤ v.toInt ∧ v.toInt ≤ 40) → fltA sh i ln (v + 2 * nI k + 1) = fltT sh i ln (v.toInt + 2 * k + (1 : Nat)) := fun r => by
    rw [flt_T]
    have := v_sum (v := v) (k := k) (e := 1) hk (by omega) r
    rw [← this]; rfl
  unfold pfA
  rcases hp with rfl | hp
  · have b0 : fltT sh i ln (v.toInt + 2 * (0 : Nat) + (0 : Nat)) = fltA sh i ln (v + 2 * nI 0) := by
      rw [z0, flt_T]; congr 1; omega
    rw [b0]
    by_cases q : fltA sh i ln (v + 2 * nI 0) = 0
    · rw [if_pos q, if_pos q]
      rw [z0] at q
      exact a1 (rng q)
    · rw [if_neg q, if_neg q]
  · have q := (pf_ok hp).1
    rw [z0] at q
    rw [a0 (rng q), a1 (rng q)]
