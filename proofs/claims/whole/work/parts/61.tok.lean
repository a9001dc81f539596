/-! THE TAPE: runs of bytes, tokens -/
def rnN (lo hi : Nat) (tp : Nat → Nat) (n : Nat) : Nat → Nat → Nat
  | 0, _ => 0
  | m + 1, p => if p < n ∧ lo ≤ tp p ∧ tp p ≤ hi then rnN lo hi tp n m (p + 1) + 1 else 0
def rn (lo hi : Nat) (tp : Nat → Nat) (n p : Nat) : Nat := rnN lo hi tp n (n - p) p
theorem rn_yes {lo hi n p : Nat} {tp : Nat → Nat} (h : p < n ∧ lo ≤ tp p ∧ tp p ≤ hi) : rn lo hi tp n p = rn lo hi tp n (p + 1) + 1 := by
  unfold rn
  obtain ⟨m, hm⟩ : ∃ m, n - p = m + 1 := ⟨n - p - 1, by omega⟩
  rw [hm, rnN, if_pos h, show n - (p + 1) = m by omega]
theorem rn_no {lo hi n p : Nat} {tp : Nat → Nat} (h : ¬ (p < n ∧ lo ≤ tp p ∧ tp p ≤ hi)) : rn lo hi tp n p = 0 := by
  unfold rn
  cases hm : n - p with
  | zero => rfl
  | succ m => rw [rnN, if_neg h]
theorem rn_le {lo hi n : Nat} {tp : Nat → Nat} : ∀ m p, n - p = m → rn lo hi tp n p ≤ m
  | 0, p, h => by rw [rn_no (by omega)]; exact Nat.le_refl 0
  | m + 1, p, h => by
    by_cases q : p < n ∧ lo ≤ tp p ∧ tp p ≤ hi
    · rw [rn_yes q]
      have := rn_le (lo := lo) (hi := hi) (tp := tp) (n := n) m (p + 1) (by omega)
      omega
    · rw [rn_no q]; omega
theorem rn_in {lo hi n p : Nat} {tp : Nat → Nat} (h : p ≤ n) : p + rn lo hi tp n p ≤ n := by have := rn_le (lo := lo) (hi := hi) (tp := tp) (n := n) (n - p) p rfl; omega
theorem rn_each {lo hi n : Nat} {tp : Nat → Nat} : ∀ j p, j < rn lo hi tp n p → p + j < n ∧ lo ≤ tp (p + j) ∧ tp (p + j) ≤ hi
  | 0, p, h => by
    by_cases q : p < n ∧ lo ≤ tp p ∧ tp p ≤ hi
    · exact q
    · rw [rn_no q] at h; omega
  | j + 1, p, h => by
    by_cases q : p < n ∧ lo ≤ tp p ∧ tp p ≤ hi
    · rw [rn_yes q] at h
      have := rn_each (lo := lo) (hi := hi) (tp := tp) (n := n) j (p + 1) (by omega)
      rw [show p + (j + 1) = p + 1 + j by omega]
      exact this
    · rw [rn_no q] at h; omega
theorem rn_end {lo hi n : Nat} {tp : Nat → Nat} : ∀ m p, n - p = m → ¬ (p + rn lo hi tp n p < n ∧ lo ≤ tp (p + rn lo hi tp n p) ∧ tp (p + rn lo hi tp n p) ≤ hi)
  | 0, p, h => by rw [rn_no (by omega)]; omega
  | m + 1, p, h => by
    by_cases q : p < n ∧ lo ≤ tp p ∧ tp p ≤ hi
    · rw [rn_yes q]
      have := rn_end (lo := lo) (hi := hi) (tp := tp) (n := n) m (p + 1) (by omega)
      rw [show p + (rn lo hi tp n (p + 1) + 1) = p + 1 + rn lo hi tp n (p + 1) by omega]
      exact this
    · rw [rn_no q, Nat.add_zero]; exact q
/-- where the token at p begins; its letters, its figures; its kind (0 end, 1 name, 2 number, 3 semicolon, 4 none); where it ends; its number -/
def sk (tp : Nat → Nat) (n p : Nat) : Nat := p + rn 32 32 tp n p
def lt_ (tp : Nat → Nat) (n p : Nat) : Nat := rn 97 122 tp n (sk tp n p)
def fg_ (tp : Nat → Nat) (n p : Nat) : Nat := rn 48 57 tp n (sk tp n p)
def tK (tp : Nat → Nat) (n p : Nat) : Nat := if n ≤ sk tp n p then 0 else if 0 < lt_ tp n p then 1 else if 0 < fg_ tp n p then (if fg_ tp n p ≤ 2 then 2 else 4) else if tp (sk tp n p) = 59 then 3 else 4
def tE (tp : Nat → Nat) (n p : Nat) : Nat := if n ≤ sk tp n p then sk tp n p else if 0 < lt_ tp n p then sk tp n p + lt_ tp n p else if 0 < fg_ tp n p then sk tp n p + fg_ tp n p else sk tp n p + 1
/-- the number of the first one or two figures -/
def vN (tp : Nat → Nat) (s g : Nat) : Nat := if g = 0 then 0 else if g = 1 then tp s - 48 else (tp s - 48) * 10 + (tp (s + 1) - 48)
def tV (tp : Nat → Nat) (n p : Nat) : Nat := vN tp (sk tp n p) (fg_ tp n p)
theorem sk_in {tp : Nat → Nat} {n p : Nat} (h : p ≤ n) : p ≤ sk tp n p ∧ sk tp n p ≤ n := ⟨Nat.le_add_right _ _, rn_in h⟩
theorem sk_sp {tp : Nat → Nat} {n p : Nat} (h : p < n ∧ tp p = 32) : sk tp n p = sk tp n (p + 1) := by
  unfold sk
  rw [rn_yes (by omega)]; omega
theorem sk_ns {tp : Nat → Nat} {n p : Nat} (h : ¬ (p < n ∧ tp p = 32)) : sk tp n p = p := by
  unfold sk
  rw [rn_no (by omega)]; rfl
theorem lt_fg {tp : Nat → Nat} {n p : Nat} (h : 0 < lt_ tp n p) : fg_ tp n p = 0 := by
  unfold lt_ at h
  unfold fg_
  have := rn_each 0 _ h
  rw [Nat.add_zero] at this
  exact rn_no (by omega)
theorem tE_in {tp : Nat → Nat} {n p : Nat} (h : p ≤ n) : sk tp n p ≤ tE tp n p ∧ tE tp n p ≤ n := by
  have a := sk_in (tp := tp) h
  have b := rn_in (lo := 97) (hi := 122) (tp := tp) a.2
  have c := rn_in (lo := 48) (hi := 57) (tp := tp) a.2
  unfold tE lt_ fg_
  repeat' split
  all_goals omega
theorem tE_lt {tp : Nat → Nat} {n p : Nat} (h : tK tp n p ≠ 0) : sk tp n p < tE tp n p ∧ sk tp n p < n := by
  have q : ¬ n ≤ sk tp n p := fun z => h (by unfold tK; rw [if_pos z])
  refine ⟨?_, by omega⟩
  unfold tE
  rw [if_neg q]
  repeat' split
  all_goals omega
/-- it hangs on where the spaces end alone -/
theorem tok_sk {tp : Nat → Nat} {n p q : Nat} (h : sk tp n p = sk tp n q) : tK tp n p = tK tp n q ∧ tE tp n p = tE tp n q ∧ tV tp n p = tV tp n q := by
  unfold tK tE tV lt_ fg_
  rw [h]
  exact ⟨rfl, rfl, rfl⟩
theorem tK_le (tp : Nat → Nat) (n p : Nat) : tK tp n p ≤ 4 := by
  unfold tK
  repeat' split
  all_goals omega
theorem fg_byte {tp : Nat → Nat} {n p : Nat} (h : 0 < fg_ tp n p) : 48 ≤ tp (sk tp n p) ∧ tp (sk tp n p) ≤ 57 := by
  have := rn_each 0 _ h
  rw [Nat.add_zero] at this
  omega
theorem fg_byte2 {tp : Nat → Nat} {n p : Nat} (h : 1 < fg_ tp n p) : 48 ≤ tp (sk tp n p + 1) ∧ tp (sk tp n p + 1) ≤ 57 := by
  have := rn_each 1 _ h
  omega
theorem tV_le {tp : Nat → Nat} {n p : Nat} : tV tp n p ≤ 99 := by
  unfold tV vN
  by_cases q : fg_ tp n p = 0
  · rw [if_pos q]; omega
  · rw [if_neg q]
    have a := fg_byte (tp := tp) (n := n) (p := p) (by omega)
    by_cases q2 : fg_ tp n p = 1
    · rw [if_pos q2]; omega
    · rw [if_neg q2]
      have b := fg_byte2 (tp := tp) (n := n) (p := p) (by omega)
      omega
/-! the class's stretch, readNumber, nextToken -/
theorem TC.b {S : ZSt} {n : Nat} {tp : Nat → Nat} (h : TC S n tp) {j : Nat} (hj : j < n) : gI S 40 j = nI (tp j) := h.2 j hj
theorem ev_stretch {d : Nat} {S : ZSt} {n s lo hi : Nat} {tp : Nat → Nat} (h : TC S n tp) (hw : TW n tp) (hs : gI S 39 4 = nI s) (hsn : s ≤ n) (hlo : lo < 1000) (hhi : hi < 1000) : zEv d mX5_stretch [.ref 39, .int (nI lo), .int (nI hi)] S (zX (some (.int (nI (rn lo hi tp n s)))) S) := by
  have h160 := hw.1
  refine zEv.of cw_X5_stretch (Nat.le_of_ble_eq_true rfl) rfl (blk_X5_stretch_0 ?_)
  have key : ∀ (m k : Nat), n - (s + k) = m → s + k ≤ n → k + rn lo hi tp n (s + k) = rn lo hi tp n s → zSem d mX5_stretch 2 [some (.ref 39), some (.int (nI lo)), some (.int (nI hi)), some (.int (nI k))] [] S (zX (some (.int (nI (rn lo hi tp n s)))) S) := by
    intro m
    induction m with
    | zero =>
      intro k hm hk e
      refine blk_X5_stretch_2 ?_
      rw [h.1, hs, nI_add]
      refine ⟨fun _ => ?_, fun z => absurd (nI_le (by omega) (by omega)) z⟩
      rw [rn_no (p := s + k) (by omega)] at e
      rw [← e]; exact ⟨rfl, rfl⟩
    | succ m ih =>
      intro k hm hk e
      have b := h.b (j := s + k) (by omega)
      have b127 := hw.2 (s + k) (by omega)
      refine blk_X5_stretch_2 ?_
      rw [h.1, hs, nI_add, ix_cl (by omega), b, nI_1]
      refine ⟨fun z => absurd z (nI_ge (by omega) (by omega)), fun _ => ⟨ix_in (by omega) (by omega), fun z => ?_, fun z => ⟨ix_in (by omega) (by omega), fun y => ?_, fun y => ?_⟩⟩⟩
      · rw [nI_ltiff (by omega) (by omega)] at z
        rw [rn_no (p := s + k) (by omega)] at e
        rw [← e]; exact ⟨rfl, rfl⟩
      · rw [nI_ltiff (by omega) (by omega)] at y
        rw [rn_no (p := s + k) (by omega)] at e
        rw [← e]; exact ⟨rfl, rfl⟩
      · rw [nI_ltiff (by omega) (by omega)] at y z
        rw [rn_yes (p := s + k) (by omega)] at e
        exact ih (k + 1) (by omega) (by omega) (by rw [show s + (k + 1) = s + k + 1 by omega]; omega)
  exact key (n - s) 0 (by omega) (by omega) (by rw [Nat.add_zero, Nat.zero_add])
