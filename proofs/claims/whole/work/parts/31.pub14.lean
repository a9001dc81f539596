/-! ask -/
theorem bt_bit : ∀ (k : Fin 10) (i : Fin 32), (bt k.val).toBitVec.getLsbD i.val = decide (i.val = k.val) := by decide
theorem orS_bit {s : Nat → Bool} (i : Nat) (hi : i < 32) : ∀ n, n ≤ 10 → (orS s n).toBitVec.getLsbD i = (decide (i < n) && s i)
  | 0, _ => by
    rw [show decide (i < 0) = false from rfl, Bool.false_and]
    exact BitVec.getLsbD_zero
  | n + 1, hn => by
    have ih := orS_bit (s := s) i hi n (by omega)
    rw [orS]
    by_cases q : s n = true
    · rw [if_pos q, Int32.toBitVec_or, BitVec.getLsbD_or, ih, bt_bit ⟨n, by omega⟩ ⟨i, hi⟩]
      show ((decide (i < n) && s i) || decide (i = n)) = _
      by_cases q2 : i = n
      · subst q2; rw [q, decide_eq_true (show i < i + 1 by omega), decide_eq_true (show i = i from rfl), Bool.or_true]; rfl
      · rw [decide_eq_false q2, Bool.or_false]
        congr 1
        exact decide_eq_decide.mpr (by omega)
    · rw [if_neg q, ih]
      have q' : s n = false := by cases e : s n with
        | true => exact absurd e q
        | false => rfl
      by_cases q2 : i = n
      · subst q2; rw [q', Bool.and_false, Bool.and_false]
      · congr 1
        exact decide_eq_decide.mpr (by omega)
theorem sh_val : ∀ k : Fin 10, ((nI k.val) &&& 31).toBitVec.smod 32 = BitVec.ofNat 32 k.val := by decide
theorem bit_test {x : Int32} (k : Nat) (hk : k < 10) : (x >>> (nI k &&& 31)) &&& 1 = 0 ↔ x.toBitVec.getLsbD k = false := by
  have e : ((x >>> (nI k &&& 31)) &&& 1).toBitVec = (x.toBitVec.sshiftRight k) &&& 1#32 := by
    rw [Int32.toBitVec_and, Int32.toBitVec_shiftRight]
    have := sh_val ⟨k, hk⟩
    simp only [] at this
    rw [this]
    show x.toBitVec.sshiftRight ((BitVec.ofNat 32 k).toNat) &&& 1#32 = _
    rw [BitVec.toNat_ofNat, Nat.mod_eq_of_lt (by omega)]
  have l : (x.toBitVec.sshiftRight k).getLsbD 0 = x.toBitVec.getLsbD k := by
    rw [BitVec.getLsbD_sshiftRight]
    simp [show k < 32 by omega]
  rw [← Int32.toBitVec_inj, e, BitVec.and_one_eq_setWidth_ofBool_getLsbD, l]
  cases x.toBitVec.getLsbD k <;> decide
