/-! NUMBERS: an int as iv of an Int -/
def iv (z : Int) : Int32 := Int32.ofInt z
def inB (z : Int) : Prop := -2147483648 ≤ z ∧ z < 2147483648
theorem iv_add (a b : Int) : iv a + iv b = iv (a + b) := (Int32.ofInt_add a b).symm
theorem iv_sub (a b : Int) : iv a - iv b = iv (a - b) := (Int32.ofInt_sub a b).symm
theorem iv_mul (a b : Int) : iv a * iv b = iv (a * b) := (Int32.ofInt_mul a b).symm
theorem iv_neg (a : Int) : -iv a = iv (-a) := (Int32.ofInt_neg a).symm
theorem iv_of (x : Int32) : iv x.toInt = x := Int32.ofInt_toInt x
theorem iv_toInt {z : Int} (h : inB z) : (iv z).toInt = z := by
  unfold iv
  rw [Int32.toInt_ofInt, show Int32.size = 4294967296 from rfl]
  obtain ⟨h1, h2⟩ := h
  exact Int.bmod_eq_of_le (by omega) (by omega)
theorem toInt_inB (x : Int32) : inB x.toInt := ⟨Int32.le_toInt x, Int32.toInt_lt x⟩
theorem iv_lt {a b : Int} (ha : inB a) (hb : inB b) : iv a < iv b ↔ a < b := by rw [Int32.lt_iff_toInt_lt, iv_toInt ha, iv_toInt hb]
theorem iv_le {a b : Int} (ha : inB a) (hb : inB b) : iv a ≤ iv b ↔ a ≤ b := by rw [Int32.le_iff_toInt_le, iv_toInt ha, iv_toInt hb]
theorem iv_eq {a b : Int} (ha : inB a) (hb : inB b) : iv a = iv b ↔ a = b := by rw [← Int32.toInt_inj, iv_toInt ha, iv_toInt hb]
theorem nI_iv (n : Nat) : nI n = iv (n : Int) := by
  unfold nI iv
  exact (Int32.ofInt_eq_ofNat ..).symm
theorem iv_nI {z : Int} (h : 0 ≤ z) : iv z = nI z.toNat := by rw [nI_iv, Int.toNat_of_nonneg h]
theorem iv_div {a b : Int} (ha : 0 ≤ a ∧ a < 2147483648) (hb : 0 < b ∧ b < 2147483648) : iv a / iv b = iv (a / b) := by
  rw [iv_nI ha.1, iv_nI (by omega : 0 ≤ b), pk_div (by omega) (by omega) (by omega), nI_iv]
  congr 1
  push_cast
  rw [Int.toNat_of_nonneg ha.1, Int.toNat_of_nonneg (by omega)]
theorem iv_rem {a b : Int} (ha : 0 ≤ a ∧ a < 2147483648) (hb : 0 < b ∧ b < 2147483648) : iv a - iv a / iv b * iv b = iv (a % b) := by
  rw [iv_div ha hb, iv_mul, iv_sub]
  congr 1
  rw [Int.emod_def, Int.mul_comm]
theorem k0 : (0 : Int32) = iv 0 := rfl
theorem k1 : (1 : Int32) = iv 1 := rfl
theorem k2 : (2 : Int32) = iv 2 := rfl
theorem k3 : (3 : Int32) = iv 3 := rfl
theorem k4 : (4 : Int32) = iv 4 := rfl
theorem k5 : (5 : Int32) = iv 5 := rfl
theorem k6 : (6 : Int32) = iv 6 := rfl
theorem k9 : (9 : Int32) = iv 9 := rfl
theorem k10 : (10 : Int32) = iv 10 := rfl
theorem k20 : (20 : Int32) = iv 20 := rfl
theorem k99 : (99 : Int32) = iv 99 := rfl
theorem k999 : (999 : Int32) = iv 999 := rfl
theorem km1 : (-1 : Int32) = iv (-1) := rfl
theorem km4 : (-4 : Int32) = iv (-4) := rfl
/-- an index -/
theorem ix_in {j n : Nat} (h : j < n) (hn : n < 2147483648) : vp_in (nI j) n := vp_in_nI h hn
theorem ix_cl {j : Nat} (h : j < 2147483648) : (nI j).toNatClampNeg = j := nI_clamp h
theorem iv_cl {z : Int} (h : 0 ≤ z ∧ z < 2147483648) : (iv z).toNatClampNeg = z.toNat := by rw [iv_nI h.1]; exact nI_clamp (by omega)
theorem iv_in {z : Int} {n : Nat} (h : 0 ≤ z ∧ z < n) (hn : n < 2147483648) : vp_in (iv z) n := by rw [iv_nI h.1]; exact vp_in_nI (by omega) hn
/-! the numbers of a cell -/
def zi (S : ZSt) (k j : Nat) : Int := (gI S k j).toInt
theorem gI_zi (S : ZSt) (k j : Nat) : gI S k j = iv (zi S k j) := (iv_of _).symm
theorem zi_inB (S : ZSt) (k j : Nat) : inB (zi S k j) := toInt_inB _
/-! GROWTH -/
def gro (k u : Int) : Int := if k = 1 then 2 * u else if k = 2 then (if 0 < u then u / 2 else u) else if k = 3 then (if 0 < u then 0 else u) else u
def hee (k : Int) : Int := if k = 1 then 2 else if k = 3 then 0 else 1
def clp (v most : Int) : Int := if v < 0 then 0 else if most < v then most else v
def eN (k e b h : Int) : Int := clp (e + gro k (h - b)) 99
def bN (k b h : Int) : Int := if 0 < h then clp (b - hee k) 9 else clp (b + 1) 9
def eB (k e b h : Int) : Nat → Int
  | 0 => e
  | n + 1 => eB k (eN k e b h) (bN k b h) h n
def bB (k b h : Int) : Nat → Int
  | 0 => b
  | n + 1 => bB k (bN k b h) h n
theorem clp_in {v most : Int} (h : 0 ≤ most) : 0 ≤ clp v most ∧ clp v most ≤ most := by unfold clp; split <;> (try split) <;> omega
theorem eN_in (k e b h : Int) : 0 ≤ eN k e b h ∧ eN k e b h ≤ 99 := clp_in (by omega)
theorem bN_in (k b h : Int) : 0 ≤ bN k b h ∧ bN k b h ≤ 9 := by unfold bN; split <;> exact clp_in (by omega)
theorem eB_in {k e b h : Int} (he : 0 ≤ e ∧ e ≤ 99) : ∀ n, 0 ≤ eB k e b h n ∧ eB k e b h n ≤ 99
  | 0 => he
  | n + 1 => eB_in (eN_in k e b h) n
theorem bB_in {k b h : Int} (hb : 0 ≤ b ∧ b ≤ 9) : ∀ n, 0 ≤ bB k b h n ∧ bB k b h n ≤ 9
  | 0 => hb
  | n + 1 => bB_in (bN_in k b h) n
