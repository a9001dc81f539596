/-! THE ENGINE: the machine over 70 cells that never move. State: ints by (cell, place), longs by (cell, place); references are the cells' numbers. -/
abbrev ZSt : Type := (Nat → Nat → Int32) × (Nat → Nat → Int64)
def gI (S : ZSt) (k j : Nat) : Int32 := S.1 k j
def gL (S : ZSt) (k j : Nat) : Int64 := S.2 k j
def pI (S : ZSt) (k j : Nat) (x : Int32) : ZSt := (fun a => if a = k then upd (S.1 k) j x else S.1 a, S.2)
def pL (S : ZSt) (k j : Nat) (x : Int64) : ZSt := (S.1, fun a => if a = k then vp_updL (S.2 k) j x else S.2 a)
def cpI (S : ZSt) (k k' sp dp n : Nat) : ZSt := (fun a => if a = k' then va_cpy (S.1 k) (S.1 k') sp dp n else S.1 a, S.2)
theorem gI_pI (S : ZSt) (k j : Nat) (x : Int32) (k' j' : Nat) : gI (pI S k j x) k' j' = if k' = k ∧ j' = j then x else gI S k' j' := by
  unfold gI pI upd
  by_cases h : k' = k
  · subst h
    by_cases h2 : j' = j
    · subst h2; simp
    · simp [h2]
  · simp [h]
theorem gL_pI (S : ZSt) (k j : Nat) (x : Int32) (k' j' : Nat) : gL (pI S k j x) k' j' = gL S k' j' := rfl
theorem gI_pL (S : ZSt) (k j : Nat) (x : Int64) (k' j' : Nat) : gI (pL S k j x) k' j' = gI S k' j' := rfl
theorem gL_pL (S : ZSt) (k j : Nat) (x : Int64) (k' j' : Nat) : gL (pL S k j x) k' j' = if k' = k ∧ j' = j then x else gL S k' j' := by
  unfold gL pL vp_updL
  by_cases h : k' = k
  · subst h
    by_cases h2 : j' = j
    · subst h2; simp
    · simp [h2]
  · simp [h]
theorem gI_cpI (S : ZSt) (k k1 sp dp n : Nat) (k' j' : Nat) : gI (cpI S k k1 sp dp n) k' j' = if k' = k1 ∧ dp ≤ j' ∧ j' < dp + n then gI S k (sp + (j' - dp)) else gI S k' j' := by
  unfold gI cpI va_cpy
  by_cases h : k' = k1
  · subst h; simp
  · simp [h]
theorem gL_cpI (S : ZSt) (k k1 sp dp n : Nat) (k' j' : Nat) : gL (cpI S k k1 sp dp n) k' j' = gL S k' j' := rfl
/-! the layout -/
def zlayT : List (Nat ⊕ (Nat × Nat)) :=
  [.inl 6,
   .inl 2, .inr (0, 6), .inr (0, 6), .inr (0, 6), .inr (0, 4), .inr (0, 4), .inr (0, 6), .inr (0, 6), .inr (0, 6),
   .inl 2, .inr (0, 6), .inr (0, 6), .inr (0, 6), .inr (0, 4), .inr (0, 4), .inr (0, 6), .inr (0, 6), .inr (0, 6),
   .inr (4, 2),
   .inl 2, .inr (0, 6), .inr (0, 6), .inr (0, 6), .inr (0, 4), .inr (0, 4), .inr (0, 6), .inr (0, 6), .inr (0, 6),
   .inl 2, .inr (0, 6), .inr (0, 6), .inr (0, 6), .inr (0, 4), .inr (0, 4), .inr (0, 6), .inr (0, 6), .inr (0, 6),
   .inr (1, 2),
   .inl 5, .inr (2, 160),
   .inl 3, .inr (0, 96), .inr (0, 6), .inr (0, 4), .inr (0, 4),
   .inl 1, .inr (0, 256), .inr (0, 256), .inr (3, 256),
   .inl 0, .inr (0, 10), .inr (0, 10),
   .inl 4, .inr (0, 160), .inr (0, 4), .inr (0, 4),
   .inl 7, .inr (0, 150), .inr (0, 50), .inr (1, 2), .inr (0, 50), .inr (0, 160), .inr (0, 4), .inr (0, 126), .inr (0, 210), .inr (0, 4), .inr (0, 4), .inr (0, 160), .inr (0, 50)]
def zlay (k : Nat) : Nat ⊕ (Nat × Nat) := zlayT.getD k (.inr (0, 0))
def zrf (k j : Nat) : Nat :=
  if k = 0 then [1, 10, 19, 38, 39, 41, 46, 50, 53].getD j 0
  else if k = 57 then [58, 59, 60, 61, 0, 0, 62, 0, 0, 0, 0, 0, 0, 0, 0, 0, 0, 0, 63, 0, 0, 0, 64, 65, 66, 67, 68, 0, 69].getD j 0
  else if k = 19 then (if j = 0 then 20 else 29)
  else k + 1 + j
def ztyA (t : Nat) : FieldType := match t with
  | 0 => .int
  | 1 => .boolean
  | 2 => .byte
  | 3 => .long
  | _ => .object "PraisedFields$Land"
def ztys (cA : Nat → ClassId) : List (ClassId × FieldType) := [(cA 0, .int), (cA 1, .boolean), (cA 2, .byte), (cA 3, .long), (cA 4, .object "PraisedFields$Land")]
def cv (ad : Nat → Nat) (v : Value) : Value := match v with
  | .ref k => .ref (ad k)
  | w => w
theorem cv_cat (ad : Nat → Nat) (v : Value) : (cv ad v).category = v.category := by cases v <;> rfl
def zfv (ad : Nat → Nat) (S : ZSt) (k ci j : Nat) : Value := match zty ci j with
  | .int => .int (S.1 k j)
  | .boolean => .int (S.1 k j)
  | .long => .long (S.2 k j)
  | _ => .ref (ad (zrf k j))
def zfs (ad : Nat → Nat) (S : ZSt) (k ci : Nat) : List Value := (List.range (zC ci).2.2).map (zfv ad S k ci)
def zar (ad : Nat → Nat) (S : ZSt) (k t : Nat) : (Nat → Int32) ⊕ (Nat → Int64) ⊕ (Nat → UInt32) ⊕ (Nat → UInt64) ⊕ (Nat → Option Nat) :=
  if t = 3 then .inr (.inl (S.2 k)) else if t = 4 then .inr (.inr (.inr (.inr (fun i => some (ad (zrf k i)))))) else .inl (S.1 k)
def zen (ad : Nat → Nat) (cA : Nat → ClassId) (S : ZSt) (k : Nat) : va_E := match zlay k with
  | .inl ci => .inr (ci, zfs ad S k ci)
  | .inr (t, n) => .inl (cA t, n, zar ad S k t)
def zws (ad : Nat → Nat) (cA : Nat → ClassId) (S : ZSt) : va_W := (List.range 70).map fun k => (ad k, zen ad cA S k)
def zInj (ad : Nat → Nat) : Prop := ∀ i j, i < 70 → j < 70 → ad i = ad j → i = j
def zA (ad : Nat → Nat) : Nat → Prop := fun q => ∃ k, k < 70 ∧ ad k = q
theorem zws_at (ad : Nat → Nat) (cA : Nat → ClassId) (S : ZSt) {k : Nat} (h : k < 70) : (zws ad cA S)[k]? = some (ad k, zen ad cA S k) := by
  unfold zws; rw [List.getElem?_map, List.getElem?_range h]; rfl
theorem zws_D (ad : Nat → Nat) (cA : Nat → ClassId) (S : ZSt) (hi : zInj ad) : va_D (zA ad) (zws ad cA S) := by
  have key : ∀ (k : Nat) (q : Nat × va_E), (zws ad cA S)[k]? = some q → k < 70 ∧ q.1 = ad k := by
    intro k q h
    have hl := (List.getElem?_eq_some_iff.mp h).1
    have hk : k < 70 := by simpa [zws] using hl
    rw [zws_at ad cA S hk] at h
    cases h
    exact ⟨hk, rfl⟩
  refine ⟨fun i j p q h1 h2 h3 => ?_, fun k q h => ?_⟩
  · obtain ⟨a1, a2⟩ := key i p h1
    obtain ⟨b1, b2⟩ := key j q h2
    exact hi i j a1 b1 (by rw [← a2, ← b2]; exact h3)
  · obtain ⟨a1, a2⟩ := key k q h
    exact ⟨k, a1, a2.symm⟩
theorem zws_set (ad : Nat → Nat) (cA : Nat → ClassId) (S S' : ZSt) (k : Nat) (e : va_E) (h1 : ∀ a, a ≠ k → zen ad cA S' a = zen ad cA S a) (h2 : zen ad cA S' k = e) : (zws ad cA S).set k (ad k, e) = zws ad cA S' := by
  apply List.ext_getElem?
  intro i
  by_cases hi : i < 70
  · by_cases hk : i = k
    · subst hk
      rw [List.getElem?_set_self (by simpa [zws] using hi), zws_at ad cA S' hi, h2]
    · rw [List.getElem?_set_ne (Ne.symm hk), zws_at ad cA S hi, zws_at ad cA S' hi, h1 i hk]
  · have a1 : ((zws ad cA S).set k (ad k, e)).length = 70 := by simp [zws]
    have a2 : (zws ad cA S').length = 70 := by simp [zws]
    rw [List.getElem?_eq_none (by omega), List.getElem?_eq_none (by omega)]
theorem zen_ne_I (ad : Nat → Nat) (cA : Nat → ClassId) (S : ZSt) (k j : Nat) (x : Int32) (a : Nat) (h : a ≠ k) : zen ad cA (pI S k j x) a = zen ad cA S a := by
  have e : (pI S k j x).1 a = S.1 a := by simp [pI, h]
  have e2 : (pI S k j x).2 = S.2 := rfl
  unfold zen
  split
  · congr 2
    unfold zfs
    congr 1
    funext q
    unfold zfv
    rw [e, e2]
  · unfold zar
    rw [e, e2]
theorem zen_ne_L (ad : Nat → Nat) (cA : Nat → ClassId) (S : ZSt) (k j : Nat) (x : Int64) (a : Nat) (h : a ≠ k) : zen ad cA (pL S k j x) a = zen ad cA S a := by
  have e : (pL S k j x).2 a = S.2 a := by simp [pL, h]
  have e2 : (pL S k j x).1 = S.1 := rfl
  unfold zen
  split
  · congr 2
    unfold zfs
    congr 1
    funext q
    unfold zfv
    rw [e, e2]
  · unfold zar
    rw [e, e2]
theorem zen_ne_C (ad : Nat → Nat) (cA : Nat → ClassId) (S : ZSt) (k k' sp dp n : Nat) (a : Nat) (h : a ≠ k') : zen ad cA (cpI S k k' sp dp n) a = zen ad cA S a := by
  have e : (cpI S k k' sp dp n).1 a = S.1 a := by simp [cpI, h]
  have e2 : (cpI S k k' sp dp n).2 = S.2 := rfl
  unfold zen
  split
  · congr 2
    unfold zfs
    congr 1
    funext q
    unfold zfv
    rw [e, e2]
  · unfold zar
    rw [e, e2]
theorem zmap_set {α : Type} (f f' : Nat → α) (n j : Nat) (v : α) (h1 : ∀ a, a ≠ j → f' a = f a) (h2 : f' j = v) : ((List.range n).map f).set j v = (List.range n).map f' := by
  apply List.ext_getElem?
  intro i
  by_cases hi : i < n
  · by_cases hj : i = j
    · subst hj
      rw [List.getElem?_set_self (by simpa using hi), List.getElem?_map, List.getElem?_range hi]
      simp [h2]
    · rw [List.getElem?_set_ne (Ne.symm hj), List.getElem?_map, List.getElem?_map, List.getElem?_range hi]
      simp [h1 i hj]
  · rw [List.getElem?_eq_none (by simpa using hi), List.getElem?_eq_none (by simpa using hi)]
/-! locals -/
def zprs (ad : Nat → Nat) : Nat → List (Option Value) → List (Nat × Value)
  | _, [] => []
  | i, none :: r => zprs ad (i + 1) r
  | i, some v :: r => (i, cv ad v) :: zprs ad (i + 1) r
theorem zprs_mem (ad : Nat → Nat) : ∀ (ls : List (Option Value)) (b : Nat) (q : Nat × Value), q ∈ zprs ad b ls ↔ ∃ (j : Nat) (u : Value), ls[j]? = some (some u) ∧ q = (b + j, cv ad u)
  | [], b, q => by simp [zprs]
  | none :: r, b, q => by
    rw [zprs, zprs_mem ad r (b + 1) q]
    constructor
    · rintro ⟨j, u, h1, h2⟩
      exact ⟨j + 1, u, by simpa using h1, by rw [h2]; congr 1; omega⟩
    · rintro ⟨j, u, h1, h2⟩
      cases j with
      | zero => simp at h1
      | succ j => exact ⟨j, u, by simpa using h1, by rw [h2]; congr 1; omega⟩
  | some v :: r, b, q => by
    rw [zprs, List.mem_cons, zprs_mem ad r (b + 1) q]
    constructor
    · rintro (h | ⟨j, u, h1, h2⟩)
      · exact ⟨0, v, rfl, h⟩
      · exact ⟨j + 1, u, by simpa using h1, by rw [h2]; congr 1; omega⟩
    · rintro ⟨j, u, h1, h2⟩
      cases j with
      | zero =>
        left
        simp at h1
        rw [h2, h1]; rfl
      | succ j => right; exact ⟨j, u, by simpa using h1, by rw [h2]; congr 1; omega⟩
def LH (ad : Nat → Nat) (ls' : Array Slot) (nL : Nat) (ls : List (Option Value)) : Prop := lv_has ls' nL (zprs ad 0 ls) ∧ ls.length = nL
theorem LH.get {ad : Nat → Nat} {ls' : Array Slot} {nL : Nat} {ls : List (Option Value)} (h : LH ad ls' nL ls) {i : Nat} {v : Value} (hi : ls[i]? = some (some v)) : ls'[i]? = some (.val (cv ad v)) := by
  have := h.1.2.2 (i, cv ad v) ((zprs_mem ad ls 0 _).mpr ⟨i, v, hi, by simp⟩)
  exact this
/-- not a value of two slots -/
def znl (o : Option Value) : Bool := match o with
  | some (.long _) => false
  | some (.double _) => false
  | _ => true
theorem znl_cat {v : Value} (h : znl (some v) = true) : v.category = 1 := by cases v <;> first | rfl | (simp [znl] at h)
/-- a store at place i: the one before it is no value of two slots -/
theorem LH.set1 {ad : Nat → Nat} {ls' ls2 : Array Slot} {nL : Nat} {ls : List (Option Value)} {i : Nat} {v : Value} (h : LH ad ls' nL ls) (hp : ∀ j o, i = j + 1 → ls[j]? = some o → znl o = true)
    (h2 : lv_has ls2 nL ((i, cv ad v) :: (zprs ad 0 ls).filter (fun q => !(q.1 == i) && !(q.1 + 1 == i && q.2.category == 2)))) : LH ad ls2 nL (ls.set i (some v)) := by
  refine ⟨⟨h2.1, h2.2.1, fun q hq => ?_⟩, by simpa using h.2⟩
  obtain ⟨j, u, a1, a2⟩ := (zprs_mem ad _ 0 q).mp hq
  by_cases hj : j = i
  · subst hj
    have hlt : j < ls.length := by
      have := (List.getElem?_eq_some_iff.mp a1).1
      simpa using this
    rw [List.getElem?_set_self hlt] at a1
    cases a1
    rw [a2]
    have := h2.2.2 (j, cv ad v) List.mem_cons_self
    simpa using this
  · rw [List.getElem?_set_ne (Ne.symm hj)] at a1
    refine h2.2.2 q (List.mem_cons_of_mem _ (List.mem_filter.mpr ⟨(zprs_mem ad ls 0 q).mpr ⟨j, u, a1, a2⟩, ?_⟩))
    rw [a2]
    have n1 : ¬ (0 + j = i) := by omega
    by_cases hj1 : 0 + j + 1 = i
    · have hz := hp j (some u) (by omega) a1
      have hc : (cv ad u).category = 1 := by rw [cv_cat]; exact znl_cat hz
      simp [hj, hc]
    · simp only [Nat.zero_add] at hj1 n1 ⊢
      simp [n1, hj1]
theorem LH.set2 {ad : Nat → Nat} {ls' ls2 : Array Slot} {nL : Nat} {ls : List (Option Value)} {i : Nat} {v : Value} (h : LH ad ls' nL ls) (hp : ∀ j o, i = j + 1 → ls[j]? = some o → znl o = true)
    (h2 : lv_has ls2 nL ((i, cv ad v) :: (zprs ad 0 ls).filter (fun q => !(q.1 == i) && (!(q.1 == i + 1) && !(q.1 + 1 == i && q.2.category == 2))))) : LH ad ls2 nL ((ls.set i (some v)).set (i + 1) none) := by
  refine ⟨⟨h2.1, h2.2.1, fun q hq => ?_⟩, by simpa using h.2⟩
  obtain ⟨j, u, a1, a2⟩ := (zprs_mem ad _ 0 q).mp hq
  have hj1' : j ≠ i + 1 := by
    intro hj
    subst hj
    have hlt : i + 1 < (ls.set i (some v)).length := by
      have := (List.getElem?_eq_some_iff.mp a1).1
      simpa using this
    rw [List.getElem?_set_self hlt] at a1
    cases a1
  rw [List.getElem?_set_ne (Ne.symm hj1')] at a1
  by_cases hj : j = i
  · subst hj
    have hlt : j < ls.length := by
      have := (List.getElem?_eq_some_iff.mp a1).1
      simpa using this
    rw [List.getElem?_set_self hlt] at a1
    cases a1
    rw [a2]
    have := h2.2.2 (j, cv ad v) List.mem_cons_self
    simpa using this
  · rw [List.getElem?_set_ne (Ne.symm hj)] at a1
    refine h2.2.2 q (List.mem_cons_of_mem _ (List.mem_filter.mpr ⟨(zprs_mem ad ls 0 q).mpr ⟨j, u, a1, a2⟩, ?_⟩))
    rw [a2]
    by_cases hj1 : 0 + j + 1 = i
    · have hz := hp j (some u) (by omega) a1
      have hc : (cv ad u).category = 1 := by rw [cv_cat]; exact znl_cat hz
      simp [hj, hc, hj1']
    · simp only [Nat.zero_add] at hj1 ⊢
      simp [hj, hj1, hj1']
/-- forgetting: any list that has no more -/
theorem LH.sub {ad : Nat → Nat} {ls' : Array Slot} {nL : Nat} {ls l2 : List (Option Value)} (h : LH ad ls' nL ls) (hl : l2.length = ls.length) (hs : ∀ (i : Nat) (v : Value), l2[i]? = some (some v) → ls[i]? = some (some v)) : LH ad ls' nL l2 := by
  refine ⟨⟨h.1.1, h.1.2.1, fun q hq => ?_⟩, hl.trans h.2⟩
  obtain ⟨j, u, a1, a2⟩ := (zprs_mem ad _ 0 q).mp hq
  exact h.1.2.2 q ((zprs_mem ad ls 0 q).mpr ⟨j, u, hs j u a1, a2⟩)
def zfg : List (Option Value) → List (Option Value) → Prop
  | [], [] => True
  | none :: a, _ :: b => zfg a b
  | some v :: a, w :: b => w = some v ∧ zfg a b
  | _, _ => False
theorem zfg_len : ∀ (a b : List (Option Value)), zfg a b → a.length = b.length
  | [], [], _ => rfl
  | none :: a, _ :: b, h => by simpa using zfg_len a b h
  | some v :: a, w :: b, h => by simpa using zfg_len a b h.2
  | [], _ :: _, h => h.elim
  | none :: _, [], h => h.elim
  | some _ :: _, [], h => h.elim
theorem zfg_at : ∀ (a b : List (Option Value)), zfg a b → ∀ (i : Nat) (v : Value), a[i]? = some (some v) → b[i]? = some (some v)
  | [], [], _, i, v, h => by simp at h
  | none :: a, _ :: b, h, i, v, hi => by
    cases i with
    | zero => simp at hi
    | succ i => simpa using zfg_at a b h i v (by simpa using hi)
  | some u :: a, w :: b, h, i, v, hi => by
    cases i with
    | zero => simp at hi; simp [h.1, hi]
    | succ i => simpa using zfg_at a b h.2 i v (by simpa using hi)
  | [], _ :: _, h, _, _, _ => h.elim
  | none :: _, [], h, _, _, _ => h.elim
  | some _ :: _, [], h, _, _, _ => h.elim
