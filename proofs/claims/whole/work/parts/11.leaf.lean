/-! LEAVES of the class -/
def b01 (p : Prop) [Decidable p] : Int32 := if p then 1 else 0
theorem b01_0 {p : Prop} [Decidable p] : b01 p = 0 ↔ ¬ p := by unfold b01; split <;> simp_all
theorem b01_n {p : Prop} [Decidable p] : ¬ b01 p = 0 ↔ p := by rw [b01_0]; exact Decidable.not_not
theorem b01_or (p : Prop) [Decidable p] : b01 p = 0 ∨ b01 p = 1 := by unfold b01; split <;> simp
theorem b01_if {p : Prop} [Decidable p] {A B : Prop} (h1 : ¬ p → A) (h2 : p → B) : (b01 p = 0 → A) ∧ (¬ b01 p = 0 → B) := ⟨fun c => h1 (b01_0.mp c), fun c => h2 (b01_n.mp c)⟩
theorem b01_if' {p : Prop} [Decidable p] {A B : Prop} (h1 : p → A) (h2 : ¬ p → B) : (¬ b01 p = 0 → A) ∧ (b01 p = 0 → B) := ⟨fun c => h1 (b01_n.mp c), fun c => h2 (b01_0.mp c)⟩
theorem b01_p {p : Prop} [Decidable p] (h : p) : b01 p = 1 := if_pos h
theorem b01_f {p : Prop} [Decidable p] (h : ¬ p) : b01 p = 0 := if_neg h
theorem ev_within {d : Nat} (S : ZSt) (v lo hi : Int32) : zEv d mX6_within [.int v, .int lo, .int hi] S (zX (some (.int (b01 (lo.toInt ≤ v.toInt ∧ v.toInt ≤ hi.toInt)))) S) := by
  refine zEv.of cw_X6_within (Nat.le_of_ble_eq_true rfl) rfl (blk_X6_within_0 ⟨fun c => ?_, fun c => ⟨fun c2 => ?_, fun c2 => ?_⟩⟩)
  · rw [Int32.lt_iff_toInt_lt] at c
    rw [b01_f (by omega)]; exact ⟨rfl, rfl⟩
  · rw [Int32.lt_iff_toInt_lt] at c c2
    rw [b01_f (by omega)]; exact ⟨rfl, rfl⟩
  · rw [Int32.lt_iff_toInt_lt] at c c2
    rw [b01_p (by omega)]; exact ⟨rfl, rfl⟩
theorem ev_growth {d : Nat} (S : ZSt) (k u : Int) (hk : inB k) (hu : inB u) : zEv d mX6_growth [.int (iv k), .int (iv u)] S (zX (some (.int (iv (gro k u)))) S) := by
  have e1 : ∀ c, inB c → (iv k = iv c ↔ k = c) := fun c hc => iv_eq hk hc
  have l0 : iv u ≤ 0 ↔ u ≤ 0 := by rw [k0]; exact iv_le hu (by unfold inB; omega)
  refine zEv.of cw_X6_growth (Nat.le_of_ble_eq_true rfl) rfl (blk_X6_growth_0 ⟨fun c => ?_, fun c => ⟨fun c2 => ?_, fun c2 => ?_⟩, fun c => ⟨fun c2 => ?_, fun c2 => ?_⟩, fun c => ?_⟩)
  · have := (e1 1 (by unfold inB; omega)).mp c
    subst this
    exact ⟨by rw [k2, iv_mul]; rfl, rfl⟩
  · have := (e1 2 (by unfold inB; omega)).mp c
    subst this
    have h2 := l0.mp c2
    exact ⟨by unfold gro; rw [if_neg (by omega), if_pos rfl, if_neg (by omega)], rfl⟩
  · have := (e1 2 (by unfold inB; omega)).mp c
    subst this
    have h2 : ¬ u ≤ 0 := fun q => c2 (l0.mpr q)
    unfold inB at hu
    exact ⟨by unfold gro; rw [if_neg (by omega), if_pos rfl, if_pos (by omega), k2, iv_div (by omega) (by omega)], rfl⟩
  · have := (e1 3 (by unfold inB; omega)).mp c
    subst this
    have h2 := l0.mp c2
    exact ⟨by unfold gro; rw [if_neg (by omega), if_neg (by omega), if_pos rfl, if_neg (by omega)], rfl⟩
  · have := (e1 3 (by unfold inB; omega)).mp c
    subst this
    have h2 : ¬ u ≤ 0 := fun q => c2 (l0.mpr q)
    exact ⟨by unfold gro; rw [if_neg (by omega), if_neg (by omega), if_pos rfl, if_pos (by omega)]; rfl, rfl⟩
  · rw [iv_toInt hk] at c
    exact ⟨by unfold gro; rw [if_neg (by omega), if_neg (by omega), if_neg (by omega)], rfl⟩
theorem ev_heed {d : Nat} (S : ZSt) (k : Int) (hk : inB k) : zEv d mX6_heed [.int (iv k)] S (zX (some (.int (iv (hee k)))) S) := by
  have e1 : ∀ c, inB c → (iv k = iv c ↔ k = c) := fun c hc => iv_eq hk hc
  refine zEv.of cw_X6_heed (Nat.le_of_ble_eq_true rfl) rfl (blk_X6_heed_0 ⟨fun c => ?_, fun c => ?_, fun c c2 => ?_⟩)
  · have := (e1 1 (by unfold inB; omega)).mp c
    subst this
    exact ⟨rfl, rfl⟩
  · have := (e1 3 (by unfold inB; omega)).mp c
    subst this
    exact ⟨rfl, rfl⟩
  · have h1 : ¬ k = 1 := fun q => c ((e1 1 (by unfold inB; omega)).mpr q)
    have h3 : ¬ k = 3 := fun q => c2 ((e1 3 (by unfold inB; omega)).mpr q)
    exact ⟨by unfold hee; rw [if_neg h1, if_neg h3]; rfl, rfl⟩
/-- small numbers -/
def sm (z : Int) : Prop := -100000 ≤ z ∧ z ≤ 100000
theorem sm.inB {z : Int} (h : sm z) : inB z := by unfold sm at h; unfold _root_.Jvm.Pilot.CPraisedFieldsLaw_law_r9335_a42203.inB; omega
theorem gro_sm {k u : Int} (hu : -1000 ≤ u ∧ u ≤ 1000) : -2000 ≤ gro k u ∧ gro k u ≤ 2000 := by
  unfold gro; repeat' split
  all_goals omega
theorem iv_iteLt {a b x y : Int} (ha : inB a) (hb : inB b) : (if iv a < iv b then iv x else iv y) = iv (if a < b then x else y) := by
  have h := iv_lt ha hb
  by_cases q : a < b
  · rw [if_pos q, if_pos (h.mpr q)]
  · rw [if_neg q, if_neg (fun z => q (h.mp z))]
theorem zXi {x y : Int32} {S : ZSt} (h : x = y) : zX (some (.int y)) S (some (.int x)) S := ⟨by rw [h], rfl⟩
theorem zXl {x y : Int64} {S : ZSt} (h : x = y) : zX (some (.long y)) S (some (.long x)) S := ⟨by rw [h], rfl⟩
theorem mm_clp {v most : Int} (hv : sm v) (hm : 0 ≤ most ∧ most ≤ 1000) : (if (0 : Int32) < (if iv v < iv most then iv v else iv most) then (if iv v < iv most then iv v else iv most) else 0) = iv (clp v most) := by
  have hv2 : -100000 ≤ v ∧ v ≤ 100000 := hv
  have e : inB (if v < most then v else most) := by unfold inB; split <;> omega
  rw [iv_iteLt hv.inB (by unfold inB; omega), k0, iv_iteLt (by unfold inB; omega) e]
  congr 1
  unfold clp
  repeat' split
  all_goals omega
theorem ev_earsNext {d : Nat} (hd : 1 ≤ d) (S : ZSt) (k e b h : Int) (hk : sm k) (he : -1000 ≤ e ∧ e ≤ 1000) (hb : -100 ≤ b ∧ b ≤ 100) (hh : -100 ≤ h ∧ h ≤ 100) : zEv d mX6_earsNext [.int (iv k), .int (iv e), .int (iv b), .int (iv h)] S (zX (some (.int (iv (eN k e b h)))) S) := by
  obtain ⟨d, rfl⟩ : ∃ d', d = d' + 1 := ⟨d - 1, by omega⟩
  have g := gro_sm (k := k) (u := h - b) (by omega)
  refine zEv.of cw_X6_earsNext (Nat.le_of_ble_eq_true rfl) rfl (blk_X6_earsNext_0 ⟨iv (gro k (h - b)), S, ?_, ?_⟩)
  · rw [iv_sub]
    exact ev_growth S k (h - b) hk.inB (by unfold inB; omega)
  · refine ⟨?_, rfl⟩
    rw [iv_add, k99, mm_clp (by unfold sm; omega) (by omega)]; rfl
theorem ev_blightNext {d : Nat} (hd : 1 ≤ d) (S : ZSt) (k b h : Int) (hk : sm k) (hb : 0 ≤ b ∧ b ≤ 9) (hh : sm h) : zEv d mX6_blightNext [.int (iv k), .int (iv b), .int (iv h)] S (zX (some (.int (iv (bN k b h)))) S) := by
  obtain ⟨d, rfl⟩ : ∃ d', d = d' + 1 := ⟨d - 1, by omega⟩
  have l0 : iv h ≤ 0 ↔ h ≤ 0 := by rw [k0]; exact iv_le hh.inB (by unfold inB; omega)
  have hh2 : 0 ≤ hee k ∧ hee k ≤ 2 := by unfold hee; repeat' split
                                         all_goals omega
  refine zEv.of cw_X6_blightNext (Nat.le_of_ble_eq_true rfl) rfl (blk_X6_blightNext_0 ⟨fun c => ?_, fun c => ⟨iv (hee k), S, ev_heed S k hk.inB, ?_⟩⟩)
  · have c := l0.mp c
    refine zXi ?_
    rw [k1, iv_add, k9, iv_iteLt (by unfold inB; omega) (by unfold inB; omega)]
    congr 1
    unfold bN clp
    repeat' split
    all_goals omega
  · have c : ¬ h ≤ 0 := fun q => c (l0.mpr q)
    refine zXi ?_
    rw [iv_sub, k0, iv_iteLt (by unfold inB; omega) (by unfold inB; omega)]
    congr 1
    unfold bN clp
    repeat' split
    all_goals omega
theorem ev_earsBehind {d : Nat} (hd : 2 ≤ d) (S : ZSt) (k e b h : Int) (n : Nat) (hk : sm k) (he : 0 ≤ e ∧ e ≤ 99) (hb : 0 ≤ b ∧ b ≤ 9) (hh : -100 ≤ h ∧ h ≤ 100) (hn : n < 1000) : zEv d mX6_earsBehind [.int (iv k), .int (iv e), .int (iv b), .int (iv h), .int (nI n)] S (zX (some (.int (iv (eB k e b h n)))) S) := by
  obtain ⟨d, rfl⟩ : ∃ d', d = d' + 1 := ⟨d - 1, by omega⟩
  refine zEv.of cw_X6_earsBehind (Nat.le_of_ble_eq_true rfl) rfl (blk_X6_earsBehind_0 ?_)
  have key : ∀ (m j : Nat) (e b : Int), j + m = n → 0 ≤ e ∧ e ≤ 99 → 0 ≤ b ∧ b ≤ 9 → zSem (d + 1) mX6_earsBehind 9 [some (.int (iv k)), none, none, some (.int (iv h)), some (.int (nI n)), some (.int (iv e)), some (.int (iv b)), some (.int (nI j))] [] S (zX (some (.int (iv (eB k e b h m)))) S) := by
    intro m
    induction m with
    | zero =>
      intro j e b hj he hb
      refine blk_X6_earsBehind_9 ⟨fun c => ⟨rfl, rfl⟩, fun c => absurd (nI_le (by omega) (by omega)) c⟩
    | succ m ih =>
      intro j e b hj he hb
      refine blk_X6_earsBehind_9 ⟨fun c => absurd c (nI_ge (by omega) (by omega)), fun c => ⟨iv (eN k e b h), S, ev_earsNext (by omega) S k e b h hk (by omega) (by omega) hh, iv (bN k b h), S, ev_blightNext (by omega) S k b h hk hb (by unfold sm; omega), ?_⟩⟩
      rw [nI_1]
      exact ih (j + 1) _ _ (by omega) (eN_in k e b h) (bN_in k b h)
  exact key n 0 e b (by omega) he hb
theorem ev_blightBehind {d : Nat} (hd : 2 ≤ d) (S : ZSt) (k b h : Int) (n : Nat) (hk : sm k) (hb : 0 ≤ b ∧ b ≤ 9) (hh : sm h) (hn : n < 1000) : zEv d mX6_blightBehind [.int (iv k), .int (iv b), .int (iv h), .int (nI n)] S (zX (some (.int (iv (bB k b h n)))) S) := by
  obtain ⟨d, rfl⟩ : ∃ d', d = d' + 1 := ⟨d - 1, by omega⟩
  refine zEv.of cw_X6_blightBehind (Nat.le_of_ble_eq_true rfl) rfl (blk_X6_blightBehind_0 ?_)
  have key : ∀ (m j : Nat) (b : Int), j + m = n → 0 ≤ b ∧ b ≤ 9 → zSem (d + 1) mX6_blightBehind 6 [some (.int (iv k)), none, some (.int (iv h)), some (.int (nI n)), some (.int (iv b)), some (.int (nI j))] [] S (zX (some (.int (iv (bB k b h m)))) S) := by
    intro m
    induction m with
    | zero =>
      intro j b hj hb
      refine blk_X6_blightBehind_6 ⟨fun c => ⟨rfl, rfl⟩, fun c => absurd (nI_le (by omega) (by omega)) c⟩
    | succ m ih =>
      intro j b hj hb
      refine blk_X6_blightBehind_6 ⟨fun c => absurd c (nI_ge (by omega) (by omega)), fun c => ⟨iv (bN k b h), S, ev_blightNext (by omega) S k b h hk hb hh, ?_⟩⟩
      rw [nI_1]
      exact ih (j + 1) _ (by omega) (bN_in k b h)
  exact key n 0 b (by omega) hb
