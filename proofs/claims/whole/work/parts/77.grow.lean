/-! THE WHOLE STATE IN A HEAP THAT HAS GROWN -/
def zXt (sa : Nat → Nat) (A : Nat → Prop) (U : State) (H : Heap) : Prop :=
  vk_S 6 zlens zbyts (fun i => sa (70 + i)) (fun i => sa (80 + i)) A U H ∧ (∀ (i : Nat) (q : Nat × String), zpool[i]? = some q → vk_R RX5 q.1 q.2 (sa (70 + i)) U) ∧
  va_Z "java/lang/String" "COMPACT_STRINGS" "Z" (.int 1) A U H ∧ va_Zq "jdk/internal/util/Preconditions" "SIOOBE_FORMATTER" "Ljava/util/function/BiFunction;" A U H
theorem zXt.kept {sa : Nat → Nat} {A : Nat → Prop} {U : State} {H H1 : Heap} (h : zXt sa A U H) (hq : ∀ a : Nat, a < H.size → ¬ A a → H1[a]? = H[a]?) : zXt sa A U H1 := ⟨h.1.kept hq, h.2.1, h.2.2.1.kept hq, h.2.2.2.kept hq⟩
theorem zXt.warm {sa : Nat → Nat} {A : Nat → Prop} {s U : State} {H : Heap} (hW : s.WarmedH U.vm) (h : zXt sa A s H) : zXt sa A U H := ⟨h.1.moved hW.alike, fun i q hi => (h.2.1 i q hi).warm hW, h.2.2.1.moved hW.alike, h.2.2.2.moved hW.alike⟩
theorem zXt.same {sa : Nat → Nat} {A : Nat → Prop} {u U : State} {H : Heap} (hv : u.vm = U.vm) (h : zXt sa A u H) : zXt sa A U H := by
  have ha : u.vm.Alike U.vm := by rw [hv]; exact Vm.Alike.refl _
  exact ⟨h.1.moved ha, fun i q hi => (h.2.1 i q hi).same hv.symm, h.2.2.1.moved ha, h.2.2.2.moved ha⟩
theorem zXt.narrow {sa : Nat → Nat} {A B : Nat → Prop} {U : State} {H : Heap} (h : zXt sa A U H) (hAB : ∀ q, B q → A q) : zXt sa B U H := ⟨h.1.narrow hAB, h.2.1, h.2.2.1.narrow hAB, h.2.2.2.narrow hAB⟩
theorem zXt.to {sa ad : Nat → Nat} {A : Nat → Prop} {U : State} {H : Heap} (h : zXt sa A U H) (hA : ∀ q, zA ad q → A q) (hs : ∀ k, 70 ≤ k → ad k = sa k) : zExt ad U H := by
  have h := h.narrow hA
  unfold zExt
  rw [show (fun i => ad (70 + i)) = fun i => sa (70 + i) from funext fun i => hs _ (by omega), show (fun i => ad (80 + i)) = fun i => sa (80 + i) from funext fun i => hs _ (by omega)]
  exact ⟨h.1, fun i q hi => by rw [hs (70 + i) (by omega)]; exact h.2.1 i q hi, h.2.2⟩
section GG
variable {p : Program} {l : Launch} {e : Env} {R : Room} {s : State} {m : MethodId} {args a : Array Value} {below : List Frame} {meth : Method} {c : Code} {D : va_G} {ad : Nat → Nat} {cA : Nat → ClassId} {A : Nat → Prop} {H : Heap} {locs : List Loc} {k n pc : Nat} {ls : Array Slot} {st0 rest : List Value} {Q : State → Prop} {Q' : Option Value → ZSt → Prop}
theorem g_go (hr : va_Run p l e R s m args below meth c H locs k n 0 0 (F0 m pc ls st0) rest (zQc D ad cA Q' a) (zA ad)) (hS : va_S A s.heap H locs) (hA : ∀ q, zA ad q → A q) (hE : zExt ad s H)
    (kk : ∀ (r : Option Value) (S' : ZSt) (H1 : Heap) (locs1 : List Loc), Q' r S' → va_P D vwCl (zws ad cA S') H1 → va_S A s.heap H1 locs1 → zExt ad s H1 → W p l e R s m args below meth c H1 locs1 k n Q (F0 m (pc + 3) ls ((r.map (cv ad)).toList ++ rest))) : W p l e R s m args below meth c H locs k n Q (F0 m pc ls st0) := by
  intro T hT X
  obtain ⟨v, st₀, t, T', L, h0, X', hL, e1, e2, ⟨⟨r, S', hv, hq, hp⟩, hz, hk⟩, st⟩ := hr T hT X
  cases hv
  rw [h0] at hz hk
  obtain ⟨t2, a1, b1⟩ := kk r S' T'.heap (locs ++ L) hq (by rw [e1]; exact hp)
    ⟨Nat.le_trans hS.1 (by rw [e1]; exact hz), fun q h1 h2 => by rw [e1, hk q (Nat.lt_of_lt_of_le h1 hS.1) (fun z => h2 (hA q z))]; exact hS.2.1 q h1 h2, fun q hq => by
      rcases List.mem_append.mp hq with h | h
      · exact hS.2.2 q h
      · exact hA _ (hL q h)⟩ (hE.kept (fun q h1 h2 => by rw [e1]; exact hk q h1 h2)) T' rfl X'
  exact ⟨t2, st t2 a1, b1⟩
theorem g_callV {own : String} {cc : ByteArray} {nL d d' n' ix b ci : Nat} {M' : ZM} {S : ZSt} {As : List Value} (hx : p.tables.exec = Jvm.exec) (hb : c.code = cc) (hml : c.maxLocals = nL) (hown : s.vm.findClass own = some m.cls) (hT : zTb s) (hK : va_K D vwCl (ztys cA) s) (hI : zInj ad) (hE : zExt ad s H) (hP : va_P D vwCl (zws ad cA S) H) (hS : va_S A s.heap H locs) (hA : ∀ q, zA ad q → A q) (hsz : ls.size = nL)
    (h : decode cc pc = .ok (.invokevirtual ix, 3)) (hl : zML own ix M') (cw : zCW M' n') (iw : zIW M') (ho : zOb b ci) (hc : ci < 8 ∧ (zC ci).1 = M'.1.cls) (hst : st0 = (As.map (cv ad)).reverse ++ .ref (ad b) :: rest) (hn : As.length = n') (hw : (rest.map fun v => v.category).sum ≤ 8) (hEv : zEv d' M' (.ref b :: As) S Q') (hd : d' < d) (hF : d ≤ R.frames) (hL : 36 * d ≤ R.locals) (hR : k ≤ R.cells ∧ n ≤ R.slots)
    (kk : ∀ (r : Option Value) (S' : ZSt) (H1 : Heap) (locs1 : List Loc), Q' r S' → va_P D vwCl (zws ad cA S') H1 → va_S A s.heap H1 locs1 → zExt ad s H1 → W p l e R s m args below meth c H1 locs1 k n Q (F0 m (pc + 3) ls ((r.map (cv ad)).toList ++ rest))) : W p l e R s m args below meth c H locs k n Q (F0 m pc ls st0) := by
  subst hst
  have hrun := va_runV (p := p) (e := e) (R := R) (below := below) (meth := meth) (locs := locs) (cells := k) (slots := n) (g := F0 m pc ls ((As.map (cv ad)).reverse ++ .ref (ad b) :: rest)) (As := As.map (cv ad)) (rest := rest) ⟨hx, hb, hml, hown, fun w hw => hT w hw args⟩ (hEv l D ad cA { frames := d', cells := 0, slots := 0, locals := 36 * d' } rfl rfl (Nat.le_refl _) (Nat.le_refl _)) ⟨z_CB hT cw hd hF hL (hT _ hl args), hT _ iw.1 args, hT _ iw.2 args⟩ ⟨zblind D ad cA (.ref b :: As) S, by rw [← hc.2]; exact va_recv hK hP (zhcl ci hc.1) (zat_ob ho), fun U hU hW => ⟨rfl, by rw [hU]; exact hP, va_K.moved hW.alike hK, hT.warm hW, hI, by rw [hU]; exact hE.warm hW⟩⟩ rfl (by rw [List.length_map]; exact hn) hsz rfl (lv_room hw) h ⟨hR.1, hR.2⟩
  exact g_go hrun hS hA hE kk
end GG
/-! the addresses, once the reference is made -/
def ad7 (u q sa : Nat → Nat) : Nat → Nat := fun i => if i < 57 then u i else if i < 70 then q (i - 57) else sa i
def W7 (u : Nat → Nat) (cA : Nat → ClassId) (fs : List Value) (h0 : Nat) : va_W := (h0, .inr (7, fs)) :: mk6 u cA
