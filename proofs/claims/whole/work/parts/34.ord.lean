/-! order: the rows, the sets -/
def updR (r : Nat → Nat) (k x : Nat) : Nat → Nat := fun j => if j = k then x else r j
theorem updR_at (r : Nat → Nat) (k x : Nat) : updR r k x k = x := if_pos rfl
theorem updR_ne {r : Nat → Nat} {k x j : Nat} (h : j ≠ k) : updR r k x j = r j := if_neg h
theorem updR_updR (r : Nat → Nat) (k x y : Nat) : updR (updR r k x) k y = updR r k y := by
  funext j; unfold updR; split <;> rfl
theorem updR_comm {r : Nat → Nat} {k l x y : Nat} (h : k ≠ l) : updR (updR r k x) l y = updR (updR r l y) k x := by
  funext j; unfold updR
  by_cases q : j = k
  · subst q; rw [if_neg h, if_pos rfl, if_pos rfl]
  · by_cases q2 : j = l
    · rw [if_pos q2, if_neg q, if_pos q2]
    · rw [if_neg q2, if_neg q, if_neg q, if_neg q2]
def dgR (F : Nat) : Nat → (Nat → Nat) → Nat → (Nat → Nat)
  | 0, r, _ => r
  | k + 1, r, c => dgR F k (updR r k (c % F)) (c / F)
def nxR (F : Nat) : Nat → (Nat → Nat) → (Nat → Nat)
  | 0, r => r
  | k + 1, r => if F - 1 ≤ r k then nxR F k (updR r k 0) else updR r k (r k + 1)
theorem dgR_ge {F : Nat} : ∀ k (r : Nat → Nat) c j, k ≤ j → dgR F k r c j = r j
  | 0, _, _, _, _ => rfl
  | k + 1, r, c, j, h => by rw [dgR, dgR_ge k _ _ j (by omega), updR_ne (by omega)]
theorem dgR_upd {F : Nat} : ∀ k (r : Nat → Nat) c l x, k ≤ l → updR (dgR F k r c) l x = dgR F k (updR r l x) c
  | 0, _, _, _, _, _ => rfl
  | k + 1, r, c, l, x, h => by rw [dgR, dgR, dgR_upd k _ _ l x (by omega), updR_comm (by omega)]
theorem dgR_lt {F : Nat} (hF : 0 < F) : ∀ k (r : Nat → Nat) c j, j < k → dgR F k r c j < F
  | 0, _, _, _, h => absurd h (by omega)
  | k + 1, r, c, j, h => by
    rw [dgR]
    by_cases q : j = k
    · subst q; rw [dgR_ge j _ _ j (Nat.le_refl _), updR_at]; exact Nat.mod_lt _ hF
    · exact dgR_lt hF k _ _ j (by omega)
theorem nx_dg {F : Nat} (hF : 0 < F) : ∀ k (r : Nat → Nat) c, nxR F k (dgR F k r c) = dgR F k r (c + 1)
  | 0, _, _ => rfl
  | k + 1, r, c => by
    have m := Nat.mod_lt c hF
    have dm := Nat.div_add_mod c F
    rw [dgR, dgR, nxR, dgR_ge k _ _ k (Nat.le_refl _), updR_at]
    by_cases q : F - 1 ≤ c % F
    · have e : c + 1 = F * (c / F + 1) := by rw [Nat.mul_add]; omega
      rw [if_pos q, dgR_upd k _ _ k 0 (Nat.le_refl _), updR_updR, nx_dg hF k, e, Nat.mul_mod_right, Nat.mul_div_cancel_left _ hF]
    · have e : c + 1 = (c % F + 1) + F * (c / F) := by omega
      have e1 : (c + 1) % F = c % F + 1 := by rw [e, Nat.add_mul_mod_self_left, Nat.mod_eq_of_lt (by omega)]
      have e2 : (c + 1) / F = c / F := by rw [e, Nat.add_mul_div_left _ _ hF, Nat.div_eq_of_lt (by omega), Nat.zero_add]
      rw [if_neg q, dgR_upd k _ _ k _ (Nat.le_refl _), updR_updR, e1, e2]
theorem dgR_0 {F : Nat} : ∀ k (r : Nat → Nat), (∀ j, r j = 0) → ∀ j, dgR F k r 0 j = 0
  | 0, r, h, j => h j
  | k + 1, r, h, j => by
    rw [dgR, Nat.zero_mod, Nat.zero_div]
    refine dgR_0 k _ (fun i => ?_) j
    unfold updR; split
    · rfl
    · exact h i
/-- the number of a set -/
def oN (s : Nat → Bool) : Nat → Nat
  | 0 => 0
  | n + 1 => if s n = true then oN s n + 2 ^ n else oN s n
theorem oN_lt {s : Nat → Bool} : ∀ n, oN s n < 2 ^ n
  | 0 => by rw [oN]; decide
  | n + 1 => by have := oN_lt (s := s) n; rw [oN, Nat.pow_succ]; split <;> omega
theorem or_bt : ∀ (n : Fin 4) (a : Fin 8), a.val < 2 ^ n.val → nI a.val ||| bt n.val = nI (a.val + 2 ^ n.val) := by decide
theorem pow4 {n : Nat} (h : n ≤ 4) : 2 ^ n ≤ 16 := by
  rcases (show n = 0 ∨ n = 1 ∨ n = 2 ∨ n = 3 ∨ n = 4 by omega) with rfl | rfl | rfl | rfl | rfl <;> decide
theorem orS_oN {s : Nat → Bool} : ∀ n, n ≤ 4 → orS s n = nI (oN s n)
  | 0, _ => rfl
  | n + 1, h => by
    have l := oN_lt (s := s) n
    have p : 2 ^ n ≤ 8 := by rcases (show n = 0 ∨ n = 1 ∨ n = 2 ∨ n = 3 by omega) with rfl | rfl | rfl | rfl <;> decide
    rw [orS, oN, orS_oN n (by omega)]
    split
    · exact or_bt ⟨n, by omega⟩ ⟨oN s n, by omega⟩ l
    · rfl
theorem oN_bit {s : Nat → Bool} {b : Nat} : ∀ n, b < n → oN s n / 2 ^ b % 2 = if s b = true then 1 else 0
  | 0, h => absurd h (by omega)
  | n + 1, h => by
    have l := oN_lt (s := s) n
    rw [oN]
    by_cases q : b = n
    · subst q
      by_cases q2 : s b = true
      · rw [if_pos q2, if_pos q2, Nat.add_div_right _ (by exact Nat.two_pow_pos b), Nat.div_eq_of_lt l]
      · rw [if_neg q2, if_neg q2, Nat.div_eq_of_lt l]
    · have ih := oN_bit (s := s) (b := b) n (by omega)
      split
      · have e : 2 ^ n = 2 ^ b * (2 * 2 ^ (n - b - 1)) := by
          rw [← Nat.mul_assoc, ← Nat.pow_succ, ← Nat.pow_add]; congr 1; omega
        rw [e, Nat.add_mul_div_left _ _ (Nat.two_pow_pos b), Nat.add_mul_mod_self_left, ih]
      · exact ih
theorem orS_xor {s s' : Nat → Bool} {k n : Nat} (hn : n ≤ 4) (hk : k < n) (h1 : s' k = !s k) (h2 : ∀ j, j ≠ k → s' j = s j) : orS s n ^^^ bt k = orS s' n := by
  apply Int32.toBitVec_inj.mp
  rw [Int32.toBitVec_xor]
  apply BitVec.eq_of_getLsbD_eq
  intro i hi
  rw [BitVec.getLsbD_xor, orS_bit i hi n (by omega), orS_bit i hi n (by omega), bt_bit ⟨k, by omega⟩ ⟨i, hi⟩]
  show ((decide (i < n) && s i) ^^ decide (i = k)) = _
  by_cases q : i = k
  · subst q
    rw [decide_eq_true hk, decide_eq_true (show i = i from rfl), h1]
    cases s i <;> rfl
  · rw [decide_eq_false q, h2 i q, Bool.xor_false]
theorem bit_of : ∀ (m : Fin 16) (b : Fin 4), (nI m.val >>> (nI b.val &&& 31)) &&& 1 = nI (m.val / 2 ^ b.val % 2) := by decide
theorem sh_pow : ∀ n : Fin 5, (1 : Int32) <<< (nI n.val &&& 31) = nI (2 ^ n.val) := by decide
theorem all_bits : ∀ n : Fin 5, (1 : Int32) <<< (nI n.val &&& 31) - 1 = nI (2 ^ n.val - 1) := by decide
theorem oN_all {s : Nat → Bool} : ∀ n, (∀ j, j < n → s j = true) → oN s n = 2 ^ n - 1
  | 0, _ => rfl
  | n + 1, h => by
    have := Nat.two_pow_pos n
    rw [oN, if_pos (h n (by omega)), oN_all n (fun j hj => h j (by omega)), Nat.pow_succ]; omega
