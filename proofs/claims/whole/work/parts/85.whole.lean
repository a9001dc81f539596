/-! THE LAW, from its entry -/
theorem g_CB {R : Room} {s : State} {args : Array Value} {own : String} {M' : ZM} {rm : Room} {ix mc ms n : Nat} (hT : zTb s) (cw : zCW M' n) (h1 : rm.cells = mc) (h2 : rm.slots = ms) (hF : rm.frames + 1 ≤ R.frames) (hLo : 8 + (M'.2.2.1 + 11) + rm.locals ≤ R.locals) (hl : (Cond.methodLink own ix M'.1).before args s = true) :
    CallB R s args own ix M'.1 M'.2.1 M'.2.2.1 M'.2.2.2 [.code M'.1 M'.2.1 M'.2.2.1 M'.2.2.2] rm mc ms n := by
  refine ⟨h1, h2, hF, hLo, fun w hw a' U hW => ?_, List.mem_singleton.mpr rfl, hT _ cw.1 args, hT _ cw.2.1 args, ⟨cw.2.2.1.1, cw.2.2.1.2.1⟩, fun sig h => ?_, hl⟩
  · rw [List.mem_singleton.mp hw]
    exact hT.warm hW _ cw.1 a'
  · have h2 := cw.2.2.1.2.2
    rw [h] at h2
    exact (Option.some.inj h2).symm
def nul6 : List Value := [.null, .null, .null, .null, .null, .null, .null, .null, .null, .int 0]
def g8 (k : Nat) : Nat := if k = 0 then 57 else k - 1
theorem w8_at (u : Nat → Nat) (cA : Nat → ClassId) (h0 : Nat) : ∀ (k : Nat) (x : Nat × va_E), (W7 u cA nul7 h0)[k]? = some x → (mk6 u cA ++ [(h0, .inr (7, nul7))])[g8 k]? = some x := by
  intro k x hx
  match k with
  | 0 =>
    rw [show g8 0 = 57 from rfl, List.getElem?_append_right (by rw [mk6_len]; exact Nat.le_refl _), mk6_len]
    exact hx
  | k + 1 =>
    have hx : (mk6 u cA)[k]? = some x := hx
    rw [show g8 (k + 1) = k from rfl, List.getElem?_append_left (List.getElem?_eq_some_iff.mp hx).1]
    exact hx
theorem w8_inj (u : Nat → Nat) (cA : Nat → ClassId) (h0 : Nat) (i j : Nat) (hi : i < (W7 u cA nul7 h0).length) (hj : j < (W7 u cA nul7 h0).length) (h : g8 i = g8 j) : i = j := by
  have e : (W7 u cA nul7 h0).length = 58 := by unfold W7; rw [List.length_cons, mk6_len]
  rw [e] at hi hj
  unfold g8 at h
  split at h <;> split at h <;> omega
theorem whole_start {p : Program} {e : Env} {s : State} {m : MethodId} {below : List Frame} {meth : Method} {c : Code} (l : Launch) {b L : Nat} {xs : Nat → Int32} (hL : L ≤ 3072) (C0 : lw_At p s m meth c b L xs) : W p l e room_1 s m #[Value.ref b] below meth c s.heap [] 0 0 (lw_Z below #[Value.ref b] s) (entryFrame m ([Value.ref b] : List Value).toArray 4) := by
  obtain ⟨hx, hb, hr, hml, hown, hts, hX, hbl, hlocks, hgv⟩ := id C0
  have hT : zTb s := lw_zTb hts
  have hAC : zAC s := lw_zAC hts
  obtain ⟨D, cA, hK⟩ := lw_K hT hAC
  obtain ⟨sa, hXt⟩ := lw_Xt hts hgv
  have hA : ∀ q : Nat, s.heap.size ≤ q → (fun q : Nat => s.heap.size ≤ q) q := fun _ h => h
  have hwz : ∀ w ∈ zW, w.before #[Value.ref b] s = true := fun w hw => hT w hw _
  have hS : va_S (fun q : Nat => s.heap.size ≤ q) s.heap s.heap [] := va_S.rf
  have hP : va_P D vwCl [] s.heap := fun k q h => by simp at h
  have hD : va_D (fun q : Nat => s.heap.size ≤ q) [] := ⟨fun i j p q h => by simp at h, fun k q h => by simp at h⟩
  have hl := lv_entry ([.ref b]) (n := 4) (Nat.le_of_ble_eq_true rfl)
  rw [lg_entry_eq]
  generalize (lg_sl ([.ref b]) ++ List.replicate (4 - (lg_sl ([.ref b])).length) Slot.unset).toArray = ls at hl ⊢
  have hl : lv_has ls 4 [(0, .ref b)] := hl
  refine va_new (ci := 6) (fs := nul6) hx hb hwz (zhin 6 (by decide)) (zty 6) (zhty 6 (by decide)) hown (hwz _ (zg_1_0 _ (List.mem_of_getElem? (i := 15) rfl) rfl)) (hwz _ (zg_1_0 _ (List.mem_of_getElem? (i := 16) rfl) rfl)) (hwz _ ini_X6) hK hP hD hS hA (zhcl 6 (by decide)) (by decide) (Nat.le_of_ble_eq_true rfl) (Nat.le_of_ble_eq_true rfl) dL_law_0.1 (fun q0 H1 hP1 hD1 hS1 => ?_)
  refine lv_dup hx hb dL_law_3.1 rfl ?_
  have hrun1 := va_runI (p := p) (e := e) (R := room_1) (below := below) (meth := meth) (locs := []) (cells := 0 + 1) (slots := 0 + (zC 6).2.2) (g := F0 m 4 ls [.ref q0, .ref q0]) (As := []) (rest := [.ref q0]) (Ts := zW) (nL := 4) ⟨hx, hb, hml, hown, hwz⟩ (met_X6 l D cA q0 H1.size) ⟨g_CB hT cw_X6_init rfl rfl (by decide) (by decide) (hwz _ ml_L_9), rfl, hwz _ (zg_1_0 _ (List.mem_of_getElem? (i := 18) rfl) rfl)⟩ ⟨fun a U g mk2 z => by
      obtain ⟨z1, z2, z3, z4, z5, z6⟩ := z
      have hv : U.vm = (U.calling g mk2 a).vm := rfl
      exact ⟨z1, z2, z3, va_K.moved (u := U) (U := U.calling g mk2 a) (Vm.Alike.refl U.vm) z4, z5.same hv, zAC.warm (s := U) (U := U.calling g mk2 a) (State.WarmedH.refl U) z6⟩, fun U hU hW => ⟨rfl, by rw [hU], by rw [hU]; exact hP1, va_K.moved hW.alike hK, hT.warm hW, hAC.warm hW⟩⟩ rfl rfl hl.1 rfl (lv_room (Nat.le_of_ble_eq_true rfl)) dL_law_4.1 ⟨by decide, by decide⟩
  refine c_go (M' := mX6_init) (ws := []) (A := fun q : Nat => s.heap.size ≤ q) hA hrun1 hP1 hD1 hS1 (fun u hu => ?_)
  subst hu
  intro H2 locs2 hP2 hD2 hS2
  have hP2 : va_P D vwCl (mk6 u cA) H2 := hP2
  have hD2 : va_D (fun q : Nat => s.heap.size ≤ q) (mk6 u cA) := hD2
  refine lv_astore_n hx hb dL_law_7.1 rfl hl (by decide) rfl (fun ls1 hl1 => ?_)
  refine va_new (ci := 7) (fs := nul7) hx hb hwz (zhin 7 (by decide)) (zty 7) (zhty 7 (by decide)) hown (hwz _ (zg_4_0 _ (List.mem_of_getElem? (i := 28) rfl) rfl)) (hwz _ (zg_4_0 _ (List.mem_of_getElem? (i := 29) rfl) rfl)) (hwz _ ini_X7) hK hP2 hD2 hS2 hA (zhcl 7 (by decide)) (by decide) (by decide) (by decide) dL_law_8.1 (fun q7 H3 hP3 hD3 hS3 => ?_)
  refine lv_dup hx hb dL_law_11.1 rfl ?_
  have hP4 : va_P D vwCl (W7 u cA nul7 q7) H3 := hP3.by g8 (w8_at u cA q7)
  have hD4 : va_D (fun q : Nat => s.heap.size ≤ q) (W7 u cA nul7 q7) := hD3.by g8 (w8_at u cA q7) (w8_inj u cA q7)
  have hF : ∀ q, m7A u cA q7 H3.size q → s.heap.size ≤ q := fun q z => by
    rcases z with ⟨k, e2, z⟩ | z
    · exact hD4.2 k (q, e2) z
    · exact Nat.le_trans hS3.1 z
  have hrun2 := va_runI (p := p) (e := e) (R := room_1) (below := below) (meth := meth) (locs := locs2) (cells := 0 + 1 + 56 + 1) (slots := 0 + (zC 6).2.2 + 1487 + (zC 7).2.2) (g := F0 m 12 ls1 [.ref q7, .ref q7]) (As := []) (rest := [.ref q7]) (Ts := zW) (nL := 4) ⟨hx, hb, hml, hown, hwz⟩ (met_X7 l D cA u sa q7 H3.size) ⟨g_CB hT cw_X7_init rfl rfl (by decide) (by decide) (hwz _ ml_L_12), rfl, hwz _ (zg_4_0 _ (List.mem_of_getElem? (i := 31) rfl) rfl)⟩ ⟨fun a U g mk2 z => by
      obtain ⟨z1, z2, z3, z4, z5, z6, z7, z8⟩ := z
      have hv : U.vm = (U.calling g mk2 a).vm := rfl
      exact ⟨z1, z2, z3, z4, va_K.moved (u := U) (U := U.calling g mk2 a) (Vm.Alike.refl U.vm) z5, z6.same hv, zAC.warm (s := U) (U := U.calling g mk2 a) (State.WarmedH.refl U) z7, z8.same hv⟩, fun U hU hW => ⟨rfl, by rw [hU], by rw [hU]; exact hP4, hD4.self, va_K.moved hW.alike hK, hT.warm hW, hAC.warm hW, by rw [hU]; exact ((hXt.kept hS3.2.1).narrow hF).warm hW⟩⟩ rfl rfl hl1.1 rfl (lv_room (Nat.le_of_ble_eq_true rfl)) dL_law_12.1 ⟨by decide, by decide⟩
  refine va_callv hrun2 hS3 (fun q _ z => hF q z) hF (fun y t H5 locs5 ht hvm hpost hB hz hk hS5 => ?_)
  obtain ⟨⟨k1, k2, k3⟩, hI, hzA, hCM⟩ := hpost
  rw [ht] at hB
  refine lv_astore_n hx hb dL_law_15.1 rfl hl1 (by decide) rfl (fun ls2 hl2 => ?_)
  refine lv_iconst (v := 0) hx hb dL_law_16.1 rfl ?_
  refine lv_istore_n hx hb dL_law_17.1 rfl hl2 (by decide) rfl (fun ls3 hl3 => ?_)
  have C : lX p s m c D y.1 sa cA b L xs := ⟨hx, hb, hml, hown, hT, hK, hI, fun q z => hF q (hzA q z), hXt, k3, hX, hbl, hL⟩
  refine l_loop C (fun S' j H6 locs6 ls6 hP6 hS6 hl6 => ?_) (L + 6) 0 y.2 c0 (by omega) (by omega) ⟨hCM.1, hCM.2, CW_c0⟩ H5 locs5 ls3 hB hS5 (by
    rw [k2, k1 0 (by decide)]
    exact hl3)
  refine lv_iconst (v := 1) hx hb dL_law_1459.1 rfl ?_
  refine va_forget hS6.2.2 ?_
  exact lw_ret hx hb hr hlocks dL_law_1460.1
