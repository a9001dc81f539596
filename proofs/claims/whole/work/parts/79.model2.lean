/-! the reference's constructor: its loop, its two calls, and the state at the start -/
section X7
variable {p : Program} {l : Launch} {e : Env} {R : Room} {s : State} {m : MethodId} {args : Array Value} {below : List Frame} {meth : Method} {c : Code} {D : va_G} {ad : Nat → Nat} {cA : Nat → ClassId} {A : Nat → Prop} {ls : Array Slot} {Q : State → Prop} {h0 k n : Nat} {H : Heap} {locs : List Loc} {S : ZSt}
theorem x7_step (i : Nat) (hi : i < 4) (C : cX p R s m meth c D cA mX7_init A ls h0) (hI : zInj ad) (hA : ∀ q, zA ad q → A q) (hP : va_P D vwCl (zws ad cA S) H) (hS : va_S A s.heap H locs) {ls1 : Array Slot} (hls : lv_has ls1 2 [(1, .int (nI i)), (0, .ref (ad 57))])
    (kk : ∀ (H1 : Heap) (locs1 : List Loc) (ls2 : Array Slot), va_P D vwCl (zws ad cA (pI S 66 i (-4))) H1 → va_S A s.heap H1 locs1 → lv_has ls2 2 [(1, .int (nI (i + 1))), (0, .ref (ad 57))] → W p l e R s m args below meth c H1 locs1 k n Q (F0 m 102 ls2 [])) : W p l e R s m args below meth c H locs k n Q (F0 m 102 ls1 []) := by
  have hx := C.1
  have hb := C.2.1
  refine lv_iload_n hx hb dX7_init_102.1 rfl (lv_at hls 0 rfl) ?_
  refine lv_iconst (v := 4) hx hb dX7_init_103.1 rfl ?_
  obtain ⟨o1, e1, g1, -⟩ := dX7_init_104
  refine lv_icmp_ge hx hb e1 g1 (fun z => absurd z (by
    rw [show (4 : Int32) = nI 4 from rfl]
    intro z
    have := (nI_leiff (by omega) (by omega)).mp z
    omega)) (fun _ => ?_)
  refine lv_aload_n hx hb dX7_init_107.1 rfl (lv_at hls 1 rfl) ?_
  have hK := C.2.2.2.2.2.2.2.2.1
  refine va_get hx hb (fun w hw => C.2.2.2.2.1 w hw args) (zhin 7 (by decide)) C.2.2.2.1 hK hP 57 (zat_ob (b := 57) (ci := 7) ⟨by decide, rfl⟩) (zhcl 7 (by decide)) 24 (by decide) (C.2.2.2.2.1 _ fl_X7_35 args) (fun _ h9 => h9) (v := .ref (ad 66)) rfl dX7_init_108.1 ?_
  refine lv_iload_n hx hb dX7_init_111.1 rfl (lv_at hls 0 rfl) ?_
  refine lv_bipush (v := -4) hx hb dX7_init_112.1 (by decide) ?_
  have hz : zAr 66 0 4 := ⟨by decide, rfl⟩
  refine va_iast hx hb hK hP (A := A) ⟨(zws_D ad cA S hI).1, fun k q hq => hA _ ((zws_D ad cA S hI).2 k q hq)⟩ hS 66 0 (zat_arI hz (by decide)) rfl (i := nI i) (by
    intro z
    rcases z with z | z
    · exact absurd z (nI_pos (by omega))
    · rw [nI_clamp (by omega)] at z; omega) dX7_init_114.1 (fun H1 locs1 hP1 hD1 hS1 => ?_)
  rw [nI_clamp (by omega), zset_arI hz (by decide)] at hP1
  refine lv_iinc (k := 0) (v := nI (i + 1)) hx hb dX7_init_115.1 hls rfl (nI_succ i).symm (by decide) rfl (fun ls2 h2 => ?_)
  obtain ⟨o2, e2, g2⟩ := dX7_init_118
  refine lv_goto hx hb e2 g2 ?_
  exact kk H1 locs1 ls2 hP1 hS1 h2
def S4 : ZSt := pI (pI (pI (pI S0 66 0 (-4)) 66 1 (-4)) 66 2 (-4)) 66 3 (-4)
def Qs (S6 : ZSt) : Prop := ∃ S5 : ZSt, ((∀ q, q < 50 → gI S5 61 q = if q = 28 then 20 else 0) ∧ gI S5 57 4 = 0 ∧ gI S5 57 5 = -1 ∧ FrI (fun k j => k = 61 ∨ (k = 57 ∧ (j = 4 ∨ j = 5))) S4 S5) ∧ (∀ q, q < 50 → gI S6 58 q = gI S5 61 q) ∧ gI S6 60 0 = 0 ∧ gI S6 60 1 = 0 ∧ FrI kdP S5 S6
theorem x7_tail {u q sa : Nat → Nat} (hR : 1 ≤ R.frames ∧ 36 ≤ R.locals ∧ k ≤ R.cells ∧ n ≤ R.slots) (hq0 : q 0 = h0) (C : cX p R s m meth c D cA mX7_init A ls h0) (hX : zXt sa A s s.heap) (hP0 : va_P D vwCl (Wf7 u q cA) H) (hD0 : va_D A (Wf7 u q cA)) (hS0 : va_S A s.heap H locs)
    (kk : ∀ (S6 : ZSt) (H1 : Heap) (locs1 : List Loc) (ls2 : Array Slot), Qs S6 → zInj (ad7 u q sa) → (∀ x, zA (ad7 u q sa) x → A x) → va_P D vwCl (zws (ad7 u q sa) cA S6) H1 → va_S A s.heap H1 locs1 → W p l e R s m args below meth c H1 locs1 k n Q (F0 m 129 ls2 [])) : W p l e R s m args below meth c H locs k n Q (F0 m 100 ls []) := by
  have hPz : va_P D vwCl (zws (ad7 u q sa) cA S0) H := hP0.by g7 (w7_at u q sa cA)
  have hDz : va_D A (zws (ad7 u q sa) cA S0) := hD0.by g7 (w7_at u q sa cA) (fun i j _ _ h => g7_inj i j h)
  have hI : zInj (ad7 u q sa) := fun i j hi hj h => hDz.1 i j _ _ (zws_at _ cA S0 hi) (zws_at _ cA S0 hj) h
  have hA : ∀ x, zA (ad7 u q sa) x → A x := fun x hx => by
    obtain ⟨k, hk, rfl⟩ := hx
    exact hDz.2 k _ (zws_at _ cA S0 hk)
  have hs : ∀ k, 70 ≤ k → ad7 u q sa k = sa k := fun k hk => by unfold ad7; rw [if_neg (by omega), if_neg (by omega)]
  have h57 : ad7 u q sa 57 = h0 := hq0
  generalize ad7 u q sa = ad at *
  subst h57
  have hx := C.1
  have hb := C.2.1
  have hE : ∀ (H1 : Heap) (locs1 : List Loc), va_S A s.heap H1 locs1 → zExt ad s H1 := fun H1 locs1 h => (hX.kept h.2.1).to hA hs
  refine lv_iconst (v := 0) hx hb dX7_init_100.1 rfl ?_
  refine lv_istore_n hx hb dX7_init_101.1 rfl C.2.2.2.2.2.2.2.2.2.2.1 (by decide) rfl (fun l1 hl1 => ?_)
  refine x7_step 0 (by omega) C hI hA hPz hS0 hl1 (fun H1 locs1 l2 hP1 hS1 hl2 => ?_)
  refine x7_step 1 (by omega) C hI hA hP1 hS1 hl2 (fun H2 locs2 l3 hP2 hS2 hl3 => ?_)
  refine x7_step 2 (by omega) C hI hA hP2 hS2 hl3 (fun H3 locs3 l4 hP3 hS3 hl4 => ?_)
  refine x7_step 3 (by omega) C hI hA hP3 hS3 hl4 (fun H4 locs4 l5 hP4 hS4 hl5 => ?_)
  refine lv_iload_n hx hb dX7_init_102.1 rfl (lv_at hl5 0 rfl) ?_
  refine lv_iconst (v := 4) hx hb dX7_init_103.1 rfl ?_
  obtain ⟨o1, e1, g1, -⟩ := dX7_init_104
  refine lv_icmp_ge hx hb e1 g1 (fun _ => ?_) (fun z => absurd (by decide) z)
  refine lv_aload_n hx hb dX7_init_121.1 rfl (lv_at hl5 1 rfl) ?_
  refine g_callV (ad := ad) (rest := []) (As := []) (b := 57) (ci := 7) (d := 1) (d' := 0) hx hb C.2.2.1 C.2.2.2.1 C.2.2.2.2.1 C.2.2.2.2.2.2.2.2.1 hI (hE _ _ hS4) hP4 hS4 hA hl5.1 dX7_init_122.1 ml_X7_47 cw_X7_firstDraft iw_X7_firstDraft ⟨by decide, rfl⟩ ⟨by decide, rfl⟩ rfl rfl (by decide) (ev_firstDraft S4) (by decide) hR.1 hR.2.1 hR.2.2 (fun r5 S5 H5 locs5 hq5 hP5 hS5 _ => ?_)
  obtain ⟨rfl, hq5⟩ := hq5
  refine lv_aload_n hx hb dX7_init_125.1 rfl (lv_at hl5 1 rfl) ?_
  refine g_callV (ad := ad) (rest := []) (As := []) (b := 57) (ci := 7) (d := 1) (d' := 0) hx hb C.2.2.1 C.2.2.2.1 C.2.2.2.2.1 C.2.2.2.2.2.2.2.2.1 hI (hE _ _ hS5) hP5 hS5 hA hl5.1 dX7_init_126.1 ml_X7_50 cw_X7_keepDraft iw_X7_keepDraft ⟨by decide, rfl⟩ ⟨by decide, rfl⟩ rfl rfl (by decide) (ev_keepDraft S5) (by decide) hR.1 hR.2.1 hR.2.2 (fun r6 S6 H6 locs6 hq6 hP6 hS6 _ => ?_)
  obtain ⟨rfl, hq6⟩ := hq6
  exact kk S6 H6 locs6 l5 ⟨S5, hq5, hq6⟩ hI hA hP6 hS6
end X7
def c0 : Ab := (L0, fun _ => none, fun _ => none, 0, fun _ => 0, 0, 0)
theorem inR_L0 {r j : Nat} (h : inR L0 r j) : r = 0 ∧ 8 ≤ j ∧ j ≤ 13 := by
  rcases h with h | h | h | h
  · exact h
  · exact absurd h.2.2 (by rw [show nF L0 = 0 from rfl]; omega)
  · exact absurd h.2.2 (by rw [show nB L0 = 0 from rfl]; omega)
  · exact absurd h.2.2 (by rw [show nS L0 = 0 from rfl]; omega)
theorem Qs.ok {S : ZSt} (h : Qs S) : CI S c0 ∧ MI S c0 := by
  obtain ⟨S5, ⟨a1, a2, a3, a4⟩, b1, b2, b3, b4⟩ := h
  have lo : ∀ k j, k < 57 → gI S k j = gI S0 k j := by
    intro k j hk
    rw [b4 k j (by unfold kdP; omega), a4 k j (by omega)]
    unfold S4 gI pI
    simp only [if_neg (show ¬ k = 66 by omega)]
  have hi : ∀ k j, k = 57 ∨ 62 ≤ k → (k = 57 → j ≠ 4 ∧ j ≠ 5) → gI S k j = gI S4 k j := fun k j hk hj => by rw [b4 k j (by unfold kdP; omega), a4 k j (by omega)]
  have dr : ∀ j, 8 ≤ j ∧ j ≤ 13 → gI S 58 (0 + mpos 0 j) = if j = 11 then 20 else 0 := by
    intro j hj
    rw [b1 (0 + mpos 0 j) (by unfold mpos; simp only [if_true]; split <;> (try split) <;> (try split) <;> (try split) <;> (try split) <;> omega)]
    rw [a1 (0 + mpos 0 j) (by unfold mpos; simp only [if_true]; split <;> (try split) <;> (try split) <;> (try split) <;> (try split) <;> omega)]
    obtain h | h | h | h | h | h : j = 8 ∨ j = 9 ∨ j = 10 ∨ j = 11 ∨ j = 12 ∨ j = 13 := by omega
    all_goals subst h; rfl
  refine ⟨⟨fun r j hr => ?_, fun k hk => ⟨fun _ => ?_, fun L1 z => by cases z⟩, fun i hi4 => ⟨fun _ => ?_, fun _ _ _ z => by cases z⟩, ⟨?_, fun j hj => absurd hj (Nat.not_lt_zero _)⟩, ?_, ?_⟩, ⟨fun r j hr => ?_, fun k hk => ⟨fun _ => ?_, fun L1 z => by cases z⟩, fun i hi4 => ⟨fun _ => ?_, fun _ _ _ z => by cases z⟩, ⟨?_, fun j hj => absurd hj (Nat.not_lt_zero _)⟩, ?_, ?_⟩⟩
  · obtain ⟨rfl, hj⟩ := inR_L0 hr
    unfold zi
    rw [lo _ _ (by omega)]
    obtain h | h | h | h | h | h : j = 8 ∨ j = 9 ∨ j = 10 ∨ j = 11 ∨ j = 12 ∨ j = 13 := by omega
    all_goals subst h; rfl
  · rw [lo _ _ (by omega)]; rfl
  · rw [lo _ _ (by omega)]
    match i, hi4 with
    | 0, _ => rfl
    | 1, _ => rfl
    | 2, _ => rfl
    | 3, _ => rfl
  · rw [lo _ _ (by omega)]; rfl
  · rw [lo _ _ (by omega)]; rfl
  · rw [lo _ _ (by omega)]; rfl
  · obtain ⟨rfl, hj⟩ := inR_L0 hr
    unfold zi
    rw [dr j hj]
    obtain h | h | h | h | h | h : j = 8 ∨ j = 9 ∨ j = 10 ∨ j = 11 ∨ j = 12 ∨ j = 13 := by omega
    all_goals subst h; rfl
  · match k, hk with
    | 0, _ => exact b2
    | 1, _ => exact b3
  · rw [hi 66 i (by omega) (by omega)]
    match i, hi4 with
    | 0, _ => rfl
    | 1, _ => rfl
    | 2, _ => rfl
    | 3, _ => rfl
  · rw [hi 57 7 (by omega) (by omega)]; rfl
  · rw [hi 57 12 (by omega) (by omega)]; rfl
  · rw [hi 57 27 (by omega) (by omega)]; rfl
theorem CW_c0 : CW c0 := by
  refine ⟨⟨?_, fun b hb => absurd hb (Nat.not_lt_zero _), by decide⟩, (fun k L1 z => by cases z), (fun _ _ _ _ z => by cases z), by decide, fun j hj => absurd hj (Nat.not_lt_zero _)⟩
  exact ⟨by decide, by decide, by decide, by decide, by decide, by decide, fun f hf => absurd hf (Nat.not_lt_zero _), fun f hf => absurd hf (Nat.not_lt_zero _), fun f hf => absurd hf (Nat.not_lt_zero _)⟩
theorem met_X7 : mMet (fun S => CI S c0 ∧ MI S c0) { frames := 1, cells := 12, slots := ms7, locals := 36 } ms7 := by
  intro l D cA u sa h0 sz
  refine Met.ofW (cc := mX7_init.2.1) (maxL := 2) (ret := none) cw_X7_init.2.2.2.2 rfl ?_
  intro p e s m args below meth c s₁ B hml hpre
  obtain ⟨rfl, hsz, hP, hD, hK, hT, hAC, hX⟩ := hpre
  subst hsz
  rw [lg_entry_eq]
  have hle := lv_entry [Value.ref h0] (n := 2) (Nat.le_of_ble_eq_true rfl)
  have C : cX p { frames := 1, cells := 12, slots := ms7, locals := 36 } s m meth c D cA mX7_init (m7A u cA h0 s.heap.size) _ h0 := ⟨B.exec, B.bytes, hml, findClass_of_methodNamed B.named, hT, B.returns, B.notSynchronized, (name_of_methodNamed B.named B.method).1, hK, hAC, hle, fun q hq => Or.inr hq, ⟨by decide, by decide⟩⟩
  refine x7_run rfl rfl C (fun q hq => ?_) s.heap [] hP hD va_S.rf
  intro H locs hP1 hD1 hS1
  refine x7_tail ⟨by decide, by decide, Nat.le_refl _, Nat.le_refl _⟩ hq C hX hP1 hD1 hS1 (fun S6 H1 locs1 ls2 hQ hI hA hP2 hS2 => ?_)
  exact W.vret B.exec B.bytes B.returns (fun t ht hW => ⟨⟨(ad7 u q sa, S6), rfl, ⟨⟨fun k hk => if_pos hk, hq, fun k hk => by show ad7 u q sa k = sa k; unfold ad7; rw [if_neg (by omega), if_neg (by omega)]⟩, hI, hA, hQ.ok⟩, by show va_P D vwCl (zws (ad7 u q sa) cA S6) t.heap; rw [ht]; exact hP2⟩, hS2.F ht⟩) hS2.2.2 dX7_init_129.1 (hlocks := B.notSynchronized)
