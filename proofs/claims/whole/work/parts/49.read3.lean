/-! read: the reference's long places -/
theorem l_add {a b : Int64} (h : -4611686018427387904 ≤ a.toInt + b.toInt ∧ a.toInt + b.toInt ≤ 4611686018427387904) : (a + b).toInt = a.toInt + b.toInt := by
  rw [Int64.toInt_add]
  exact Int.bmod_eq_of_le (by omega) (by omega)
theorem l_sum3 (v : Int32) (k e : Nat) (hk : k ≤ 20) (he : e ≤ 1) : ((v.toInt64 + (2 * nI k).toInt64) + (nI e).toInt64).toInt = v.toInt + 2 * k + e := by
  have h1 := Int32.le_toInt v
  have h2 := Int32.toInt_lt v
  have e2 : (2 : Int32) * nI k = nI (2 * k) := by rw [show (2 : Int32) = nI 2 from rfl, pk_mul]
  have a1 : (v.toInt64 + (2 * nI k).toInt64).toInt = v.toInt + 2 * k := by
    rw [e2, l_add, Int32.toInt_toInt64, Int32.toInt_toInt64, nI_toInt (by omega)]
    · omega
    · rw [Int32.toInt_toInt64, Int32.toInt_toInt64, nI_toInt (by omega)]; omega
  rw [l_add, a1, Int32.toInt_toInt64, nI_toInt (by omega)]
  rw [a1, Int32.toInt_toInt64, nI_toInt (by omega)]; omega
/-- the fault of a place by its true number -/
def fltT (sh : Sh) (i : Nat) (ln : Int32) (s : Int) : Int32 := match sh i with
  | none => 1
  | some (l, sz, _) => if nI l = ln then (if 0 ≤ s ∧ s ≤ (sz : Int) - 1 then 0 else 2) else 3
theorem flt_T (sh : Sh) (i : Nat) (ln v : Int32) : fltA sh i ln v = fltT sh i ln v.toInt := rfl
theorem v_sum {v : Int32} {k e : Nat} (hk : k ≤ 20) (he : e ≤ 1) (h : 0 ≤ v.toInt ∧ v.toInt ≤ 40) : (v + 2 * nI k + nI e).toInt = v.toInt + 2 * k + e := by
  have := iv_of v
  rw [show (2 : Int32) * nI k = nI (2 * k) by rw [show (2 : Int32) = nI 2 from rfl, pk_mul]]
  obtain ⟨j, hj, rfl⟩ := toNat_of (n := 41) h.1 (by omega)
  rw [nI_add, nI_add, nI_toInt (by omega), nI_toInt (by omega)]
  omega
