/-! THE LAW'S ENTRY: what the tables and the Statement give -/
theorem lw_zTb {s : State} {b : Nat} (hts : ∀ w ∈ lw_tbl, w.before #[Value.ref b] s = true) : zTb s := by
  intro w hw a
  obtain ⟨hm, hk⟩ := List.mem_filter.mp hw
  have h0 := hts w hm
  unfold zok at hk
  rcases Bool.or_eq_true _ _ |>.mp hk with h1 | h1
  · exact word_at (State.WarmedH.refl s) (Or.inl h1) h0
  · cases w <;> first | (simp [zNest] at h1; done) | exact va_Nw.use rfl (va_Nw.of rfl h0)
theorem lw_zAC {s : State} {b : Nat} (hts : ∀ w ∈ lw_tbl, w.before #[Value.ref b] s = true) : zAC s := by
  refine ⟨fun ty ht => ?_, va_AO.of (hts (.arrayOver (.object "PraisedFields$Land")) (by decide +kernel))⟩
  rcases ht with rfl | rfl | rfl | rfl
  · exact word_at (State.WarmedH.refl s) (Or.inr ⟨_, rfl⟩) (hts (.arrayClass .int) (by decide +kernel))
  · exact word_at (State.WarmedH.refl s) (Or.inr ⟨_, rfl⟩) (hts (.arrayClass .boolean) (by decide +kernel))
  · exact word_at (State.WarmedH.refl s) (Or.inr ⟨_, rfl⟩) (hts (.arrayClass .byte) (by decide +kernel))
  · exact word_at (State.WarmedH.refl s) (Or.inr ⟨_, rfl⟩) (hts (.arrayClass .long) (by decide +kernel))
theorem lw_arr {s : State} {ty : FieldType} (hne : ∀ C, ty ≠ .object C) (h : (Cond.arrayClass ty).before #[] s = true) : ∃ c : ClassId, ArrOfT s c ty ∧ va_RA s c ty := by
  obtain ⟨c, k, comp, h1, h2, h3⟩ := Cond.arrayClass_spec h
  refine ⟨c, fun n z => ⟨fun k h => (by cases h), k, h2, comp, h3⟩, ?_⟩
  cases ty <;> first | exact h1 | exact absurd rfl (hne _)
theorem lw_K {s : State} (hT : zTb s) (hAC : zAC s) : ∃ (D : va_G) (cA : Nat → ClassId), va_K D vwCl (ztys cA) s := by
  obtain ⟨c0, a1, a2⟩ := lw_arr (fun _ z => by cases z) (hAC.1 .int (Or.inl rfl))
  obtain ⟨c1, b1, b2⟩ := lw_arr (fun _ z => by cases z) (hAC.1 .boolean (Or.inr (Or.inl rfl)))
  obtain ⟨c2, d1, d2⟩ := lw_arr (fun _ z => by cases z) (hAC.1 .byte (Or.inr (Or.inr (Or.inl rfl))))
  obtain ⟨c3, e1, e2⟩ := lw_arr (fun _ z => by cases z) (hAC.1 .long (Or.inr (Or.inr (Or.inr rfl))))
  obtain ⟨comp, c4, k4, f1, f2, f3, f4, f5⟩ := Cond.arrayOver_spec hAC.2
  have hw : ∀ w ∈ zW, w.before #[] s = true := fun w hw => hT w hw #[]
  have kn : ∀ ci, ci < 8 → ∃ (cC : ClassId) (iS : Nat → Nat), u_Kn s (zC ci).1 (zC ci).2.1 (zC ci).2.2 cC iS := by
    intro ci hci
    match ci, hci with
    | 0, h => exact u_known hw (zhin 0 h) (hw _ (zg_1_5 _ (List.mem_of_getElem? (i := 22) rfl) rfl))
    | 1, h => exact u_known hw (zhin 1 h) (hw _ (zg_1_5 _ (List.mem_of_getElem? (i := 2) rfl) rfl))
    | 2, h => exact u_known hw (zhin 2 h) (hw _ (zg_1_0 _ (List.mem_of_getElem? (i := 24) rfl) rfl))
    | 3, h => exact u_known hw (zhin 3 h) (hw _ (zg_1_4 _ (List.mem_of_getElem? (i := 7) rfl) rfl))
    | 4, h => exact u_known hw (zhin 4 h) (hw _ (zg_1_6 _ (List.mem_of_getElem? (i := 7) rfl) rfl))
    | 5, h => exact u_known hw (zhin 5 h) (hw _ (zg_1_3 _ (List.mem_of_getElem? (i := 0) rfl) rfl))
    | 6, h => exact u_known hw (zhin 6 h) (hw _ (zg_1_0 _ (List.mem_of_getElem? (i := 16) rfl) rfl))
    | 7, h => exact u_known hw (zhin 7 h) (hw _ (zg_4_0 _ (List.mem_of_getElem? (i := 29) rfl) rfl))
  have kn2 : ∀ ci : Nat, ∃ q : ClassId × (Nat → Nat), ci < 8 → u_Kn s (zC ci).1 (zC ci).2.1 (zC ci).2.2 q.1 q.2 := by
    intro ci
    by_cases h : ci < 8
    · obtain ⟨x, y, z⟩ := kn ci h
      exact ⟨(x, y), fun _ => z⟩
    · exact ⟨(0, fun _ => 0), fun z => absurd z h⟩
  obtain ⟨f, hf⟩ := Classical.axiomOfChoice kn2
  refine ⟨(fun c => (f c).1, fun c => (f c).2), fun t => if t = 0 then c0 else if t = 1 then c1 else if t = 2 then c2 else if t = 3 then c3 else c4, fun c q hq => ?_, fun k q hq => ?_⟩
  · have hc : c < 8 := (List.getElem?_eq_some_iff.mp hq).1
    have h := hf c hc
    rw [zhcl c hc] at hq
    cases hq
    exact h
  · match k, hq with
    | 0, hq => cases hq; exact ⟨a1, a2⟩
    | 1, hq => cases hq; exact ⟨b1, b2⟩
    | 2, hq => cases hq; exact ⟨d1, d2⟩
    | 3, hq => cases hq; exact ⟨e1, e2⟩
    | 4, hq => cases hq; exact ⟨fun n z => ⟨fun k h => (by cases h), k4, f3, comp, f4⟩, k4, comp, f3, f4, f1, f5⟩
    | k + 5, hq => simp [ztys] at hq
def lwT : Jvm.Cond := Jvm.Cond.and given_1 narrow_1
def lwS (i : Nat) : Term := .string RX5 ((zpool.getD i (0, "")).1)
theorem lwF_ex : ∀ i, i < 6 → Cond.exactly (lwS i) "java/lang/String" ∈ flatC lwT := by decide +kernel
theorem lwF_co : ∀ i, i < 6 → Cond.eq (.field (lwS i) "java/lang/String" "coder" "B") (.int 0) ∈ flatC lwT := by decide +kernel
theorem lwF_ar : ∀ i, i < 6 → Cond.arrayOf (.field (lwS i) "java/lang/String" "value" "[B") .byte ∈ flatC lwT := by decide +kernel
theorem lwF_le : ∀ i, i < 6 → Cond.eq (.length (.field (lwS i) "java/lang/String" "value" "[B")) (.int (Int32.ofNat (zlens.getD i 0))) ∈ flatC lwT := by decide +kernel
theorem lwF_el : ∀ i, i < 6 → ∀ j, j < zlens.getD i 0 → Cond.eq (.elem (.field (lwS i) "java/lang/String" "value" "[B") (.int (Int32.ofNat j))) (.int ((zbyts.getD i []).getD j 0)) ∈ flatC lwT := by decide +kernel
theorem lwF_ne : ∀ i, i < 6 → ∀ j, j < 6 → i ≠ j → Cond.not (Cond.eq (lwS i) (lwS j)) ∈ flatC lwT ∨ Cond.not (Cond.eq (lwS j) (lwS i)) ∈ flatC lwT := by decide +kernel
theorem lwF_cs : Cond.eq (.static "java/lang/String" "COMPACT_STRINGS" "Z") (.int 1) ∈ flatC lwT := by decide +kernel
theorem lwF_fm : Cond.isRef (.static "jdk/internal/util/Preconditions" "SIOOBE_FORMATTER" "Ljava/util/function/BiFunction;") ∈ flatC lwT := by decide +kernel
theorem lw_Xt {s : State} {b : Nat} (hts : ∀ w ∈ lw_tbl, w.before #[Value.ref b] s = true) (hg : lwT.before #[Value.ref b] s = true) : ∃ sa : Nat → Nat, zXt sa (fun q => s.heap.size ≤ q) s s.heap := by
  have hs := flat_of_before _ hg
  have hw : ∀ w ∈ zW, w.before #[Value.ref b] s = true := fun w hw => lw_zTb hts w hw _
  have hA : ∀ a : Nat, a < s.heap.size → ¬ (fun q => s.heap.size ≤ q) a := fun a h => Nat.not_le.mpr h
  obtain ⟨adK, adV, h1, h2⟩ := vk_Sof (N := 6) (tm := lwS) (len := zlens) (byt := zbyts) (A := fun q => s.heap.size ≤ q) (by decide) (fun i hi => hs _ (lwF_ex i hi)) (fun i hi => hs _ (lwF_co i hi)) (fun i hi => hs _ (lwF_ar i hi)) (fun i hi => hs _ (lwF_le i hi)) (fun i hi j hj => hs _ (lwF_el i hi j hj)) (fun i j hi hj hij => (lwF_ne i hi j hj hij).imp (hs _) (hs _)) hA
  refine ⟨fun k => if k < 80 then adK (k - 70) else adV (k - 80), ⟨fun i hi => ?_, fun i j hi hj h => ?_⟩, fun i q hq => ?_, va_Zof (hts (.laysStatic "java/lang/String" "COMPACT_STRINGS" "Z") (by decide +kernel)) (hw _ ini_J0) (va_eqt (hs _ lwF_cs)) hA, va_Zqof (hts (.laysStatic "jdk/internal/util/Preconditions" "SIOOBE_FORMATTER" "Ljava/util/function/BiFunction;") (by decide +kernel)) (hw _ ini_J3) (hs _ lwF_fm) hA⟩
  · simp only [if_pos (show 70 + i < 80 by omega), if_neg (show ¬ 80 + i < 80 by omega), show 70 + i - 70 = i by omega, show 80 + i - 80 = i by omega]
    exact h1.1 i hi
  · simp only [if_pos (show 70 + i < 80 by omega), if_pos (show 70 + j < 80 by omega), show 70 + i - 70 = i by omega, show 70 + j - 70 = j by omega] at h
    exact h1.2 i j hi hj h
  · have hi : i < 6 := (List.getElem?_eq_some_iff.mp hq).1
    simp only [if_pos (show 70 + i < 80 by omega), show 70 + i - 70 = i by omega]
    have e := h2 i hi
    match i, hi, hq with
    | 0, _, hq => cases hq; exact vk_R.of (hts (.stringRef RX5 118 "plain") (by decide +kernel)) e
    | 1, _, hq => cases hq; exact vk_R.of (hts (.stringRef RX5 124 "vain") (by decide +kernel)) e
    | 2, _, hq => cases hq; exact vk_R.of (hts (.stringRef RX5 126 "shy") (by decide +kernel)) e
    | 3, _, hq => cases hq; exact vk_R.of (hts (.stringRef RX5 128 "deaf") (by decide +kernel)) e
    | 4, _, hq => cases hq; exact vk_R.of (hts (.stringRef RX5 130 "band") (by decide +kernel)) e
    | 5, _, hq => cases hq; exact vk_R.of (hts (.stringRef RX5 132 "glut") (by decide +kernel)) e
