/-! THE REFERENCE'S WEEKS -/
def mdP : Nat → Nat → Prop := fun k i => k = 59 ∨ (k = 57 ∧ i = 15)
theorem HoN.f15 {S : ZSt} {L : Lnd} (h : HoN S L) (x : Int32) : HoN (pI S 57 15 x) L := by
  intro r j hr
  have e1 : zi (pI S 57 15 x) 57 14 = zi S 57 14 := by unfold zi; rw [gI_pI, if_neg (by omega)]
  have e2 : ∀ i, zi (pI S 57 15 x) 59 i = zi S 59 i := fun i => by unfold zi; rw [gI_pI, if_neg (by omega)]
  rw [e1, e2]
  exact h r j hr
theorem HoN.fr {S S' : ZSt} {L : Lnd} {P : Nat → Nat → Prop} (h : HoN S L) (hf : Fr P S S') (h1 : ¬ P 57 14) (h2 : ∀ i, ¬ P 59 i) : HoN S' L := by
  intro r j hr
  have e1 : zi S' 57 14 = zi S 57 14 := by unfold zi; rw [hf.1 _ _ h1]
  have e2 : ∀ i, zi S' 59 i = zi S 59 i := fun i => by unfold zi; rw [hf.1 _ _ (h2 i)]
  rw [e1, e2]
  exact h r j hr
theorem ev_heedsG {d : Nat} (hd : 1 ≤ d) {S : ZSt} (f : Nat) (hf : f < 6) (k : Int) (hg : gI S 59 (3 * f + 0) = iv k) (hk : inB k) : zEv d mX7_heeds [.ref 57, .int (nI f)] S (zX (some (.int (iv (hee k)))) S) := by
  obtain ⟨d, rfl⟩ : ∃ d', d = d' + 1 := ⟨d - 1, by omega⟩
  have e1 : ∀ c, inB c → (iv k = iv c ↔ k = c) := fun c hc => iv_eq hk hc
  refine zEv.of cw_X7_heeds (Nat.le_of_ble_eq_true rfl) rfl (blk_X7_heeds_0 ⟨_, S, ev_of S f 0 (by omega), ?_⟩)
  rw [hg]
  refine ⟨fun q => ⟨fun q2 => zXi ?_, fun q2 => zXi ?_⟩, fun q => zXi ?_⟩
  · have q : ¬ k = 1 := fun z => q ((e1 1 (by unfold inB; omega)).mpr z)
    have q2 : ¬ k = 3 := fun z => q2 ((e1 3 (by unfold inB; omega)).mpr z)
    unfold hee; rw [if_neg q, if_neg q2]; rfl
  · have q : ¬ k = 1 := fun z => q ((e1 1 (by unfold inB; omega)).mpr z)
    have q2 := (e1 3 (by unfold inB; omega)).mp q2
    unfold hee; rw [if_neg q, if_pos q2]; rfl
  · have q := (e1 1 (by unfold inB; omega)).mp q
    unfold hee; rw [if_pos q]; rfl
theorem ev_fieldGoes {d : Nat} (hd : 3 ≤ d) {S1 : ZSt} {L : Lnd} (j : Nat) (hj2 : j < nF L) (h1 : HoN S1 (wkI L j)) (hW : WF L) : zEv d mX7_fieldGoes [.ref 57, .int (nI j)] S1 (zY none (fun S' => HoN S' (wkI L (j + 1)) ∧ gI S' 57 15 = gI S1 57 15 + iv (fnF L (j + 1) - fnF L j) ∧ Fr mdP S1 S')) := by
  obtain ⟨d, rfl⟩ : ∃ d', d = d' + 1 := ⟨d - 1, by omega⟩
  have hn6 := hW.nF.1
  have W1 := wkI_WF hW j
  have n1 := (wkI_n (L := L) (j := j))
  have hj3 : j < nF (wkI L j) := by rw [n1.1]; exact hj2
  have w := hW.f hj2
  have hh := hdL_in hW j
  have he : 0 ≤ wkE L j ∧ wkE L j ≤ 99 := eN_in (L 1 j) (L 2 j) (L 3 j) (hdL L j)
  have hb : 0 ≤ wkB L j ∧ wkB L j ≤ 9 := bN_in (L 1 j) (L 3 j) (hdL L j)
  have hs := shF_in hW j
  have hs2 := shF_in hW (j + 1)
  have hk2 : 0 ≤ hee (L 1 j) ∧ hee (L 1 j) ≤ 2 := by
    unfold hee; repeat' split
    all_goals omega
  have g := h1.g1 hj3
  rw [wkI_r (r := 1) (by omega), wkI_2, if_neg (by omega), wkI_3, if_neg (by omega)] at g
  have gg := gro_sm (k := L 1 j) (u := hdL L j - L 3 j) (by omega)
  have w11 := hW.2.2.2.1
  have hnn : nF (wkI L j) ≤ 6 ∧ nB (wkI L j) ≤ 4 ∧ nS (wkI L j) ≤ 6 := W1.n
  obtain ⟨S5, e5⟩ : ∃ S5, S5 = pI S1 59 (3 * j + 1) (iv (wkE L j)) := ⟨_, rfl⟩
  obtain ⟨S9, e9⟩ : ∃ S9, S9 = pI S5 59 (3 * j + 2) (iv (wkB L j)) := ⟨_, rfl⟩
  have a1 : HoN S5 (updL (wkI L j) 2 j (wkE L j)) := by
    rw [e5]
    have := h1.put hnn (inR_f (r := 2) (by omega) hj3) (z := wkE L j) (by unfold inB; omega) (by omega) (by omega)
    rw [mpos_f (by omega)] at this
    exact this
  have inr3 : inR (updL (wkI L j) 2 j (wkE L j)) 3 j := by
    refine inR_f (by omega) ?_
    show j < (updL (wkI L j) 2 j (wkE L j) 0 8).toNat
    rw [updL_ne _ _ _ _ (by omega)]; exact hj3
  have nn2 : nF (updL (wkI L j) 2 j (wkE L j)) ≤ 6 ∧ nB (updL (wkI L j) 2 j (wkE L j)) ≤ 4 ∧ nS (updL (wkI L j) 2 j (wkE L j)) ≤ 6 := by
    unfold nF nB nS; rw [updL_ne _ _ _ _ (by omega), updL_ne _ _ _ _ (by omega), updL_ne _ _ _ _ (by omega)]; exact hnn
  have a2 : HoN S9 (updL (updL (wkI L j) 2 j (wkE L j)) 3 j (wkB L j)) := by
    rw [e9]
    have := a1.put nn2 inr3 (z := wkB L j) (by unfold inB; omega) (by omega) (by omega)
    rw [mpos_f (by omega)] at this
    exact this
  have nn3 : nF (updL (updL (wkI L j) 2 j (wkE L j)) 3 j (wkB L j)) ≤ 6 ∧ nB (updL (updL (wkI L j) 2 j (wkE L j)) 3 j (wkB L j)) ≤ 4 ∧ nS (updL (updL (wkI L j) 2 j (wkE L j)) 3 j (wkB L j)) ≤ 6 := by
    unfold nF nB nS; rw [updL_ne _ _ _ _ (by omega), updL_ne _ _ _ _ (by omega), updL_ne _ _ _ _ (by omega)]; exact nn2
  have s29 : gI S9 59 29 = iv (shF L j) := by rw [a2.s.2.2.2.2.1, updL_ne _ _ _ _ (by omega), updL_ne _ _ _ _ (by omega), wkI_s]
  have s28 : gI S9 59 28 = iv (L 0 11) := by rw [a2.s.2.2.2.1, updL_ne _ _ _ _ (by omega), updL_ne _ _ _ _ (by omega), wkI_0 (by omega)]
  have s1 : gI S9 59 (3 * j + 1) = iv (wkE L j) := by rw [e9, gI_pI, if_neg (by omega), e5, gI_pI, if_pos ⟨rfl, rfl⟩]
  have b5 : gI S5 59 (3 * j + 2) = iv (L 3 j) := by rw [e5, gI_pI, if_neg (by omega), g.2.2]
  have b0 : gI S5 59 (3 * j + 0) = iv (L 1 j) := by rw [e5, gI_pI, if_neg (by omega), g.1]
  have f2 : Fr mdP S1 S9 := by rw [e9, e5]; exact ((Fr.rf mdP S1).pI _ (Or.inl rfl)).pI _ (Or.inl rfl)
  have p12 : ∀ z, inB z → HoN (pI S9 59 29 (iv z)) (updL (updL (updL (wkI L j) 2 j (wkE L j)) 3 j (wkB L j)) 0 12 z) := fun z hz => a2.put nn3 (r := 0) (j := 12) (inR_0 (by omega)) hz (by omega) (by omega)
  have c0 : iv (hdL L j) ≤ 0 ↔ hdL L j ≤ 0 := by rw [k0]; exact iv_le (by unfold inB; omega) (by unfold inB; omega)
  have hl : iv (wkE L j) < iv (L 0 11) ↔ wkE L j < L 0 11 := iv_lt (by unfold inB; omega) (by unfold inB; omega)
  have evh := ev_heardAt7N (d := d) (by omega) h1 W1 j (by omega)
  rw [wkI_hd] at evh
  have evg := ev_growsBy (d := d) (by omega) h1 W1 j hj3
  rw [wkI_hd, wkI_r (r := 1) (by omega), wkI_3, if_neg (by omega)] at evg
  refine zEv.of cw_X7_fieldGoes (Nat.le_of_ble_eq_true rfl) rfl (blk_X7_fieldGoes_0 ⟨_, S1, evh, _, S1, ev_of S1 j 1 (by omega), _, S1, evg, iv (wkE L j), S1, ?_, _, ev_becomesOf S1 j 1 _ (by omega), ?_⟩)
  · rw [g.2.1, iv_add]
    exact ev_within7 S1 _ 99 (by unfold inB; omega) (by unfold inB; omega)
  · intro S5' e5'
    obtain rfl : S5' = S5 := e5'.trans e5.symm
    refine ⟨fun c => ⟨_, S5', ev_of S5' j 2 (by omega), iv (wkB L j), S5', ?_, _, ev_becomesOf S5' j 2 _ (by omega), ?_⟩, fun c => ⟨_, S5', ev_of S5' j 2 (by omega), _, S5', ev_heedsG (by omega) j (by omega) _ b0 (by unfold inB; omega), iv (wkB L j), S5', ?_, _, ev_becomesOf S5' j 2 _ (by omega), ?_⟩⟩
    · have c := c0.mp c
      rw [b5, k1, iv_add]
      have e : wkB L j = clp (L 3 j + 1) 9 := by unfold wkB bN; rw [if_neg (by omega)]
      rw [e]
      exact ev_within7 _ _ 9 (by unfold inB; omega) (by unfold inB; omega)
    · have c := c0.mp c
      have c' : hdL L j = 0 := by omega
      intro S9' e9'
      obtain rfl : S9' = S9 := e9'.trans e9.symm
      refine ⟨_, S9', ev_of S9' j 1 (by omega), iv (shS L j (shF L j)), S9', ?_, ?_⟩
      · rw [s29, s1, k10, iv_div (by omega) (by omega), iv_add]
        have e : shS L j (shF L j) = clp (shF L j + wkE L j / 10) 999 := by
          unfold shS clp; rw [if_pos c']; repeat' split
          all_goals omega
        rw [e]
        exact ev_within7 _ _ 999 (by unfold inB; omega) (by unfold inB; omega)
      · rintro S12 rfl
        refine ⟨rfl, ?_, ?_, f2.pI _ (Or.inl rfl)⟩
        · rw [← wkI_next]
          exact p12 _ (by show inB (shF L (j + 1)); unfold inB; omega)
        · rw [gI_pI, if_neg (by omega), e9, gI_pI, if_neg (by omega), e5, gI_pI, if_neg (by omega), fnF, if_pos c', show fnF L j + 0 - fnF L j = 0 by omega, ← k0, Int32.add_zero]
    · have c : ¬ hdL L j ≤ 0 := fun z => c (c0.mpr z)
      rw [b5, iv_sub]
      have e : wkB L j = clp (L 3 j - hee (L 1 j)) 9 := by unfold wkB bN; rw [if_pos (by omega)]
      rw [e]
      exact ev_within7 _ _ 9 (by unfold inB; omega) (by unfold inB; omega)
    · have c : ¬ hdL L j ≤ 0 := fun z => c (c0.mpr z)
      have c' : ¬ hdL L j = 0 := by omega
      intro S9' e9'
      obtain rfl : S9' = S9 := e9'.trans e9.symm
      refine ⟨_, S9', ev_of S9' j 1 (by omega), ?_⟩
      rw [s1, s28]
      refine ⟨fun q => ?_, fun q => ?_⟩
      · have q := hl.mp q
        refine ⟨rfl, ?_, ?_, f2⟩
        · have e1 : shS L j (shF L j) = shF L j := by unfold shS; rw [if_neg c', if_pos q]
          have e3 := wkI_next L j
          rw [e1] at e3
          have e4 : updL (updL (wkI L j) 2 j (wkE L j)) 3 j (wkB L j) = wkI L (j + 1) := by
            rw [← e3]
            have := updL_self (updL (updL (wkI L j) 2 j (wkE L j)) 3 j (wkB L j)) 0 12
            rw [updL_ne _ _ _ _ (by omega), updL_ne _ _ _ _ (by omega), wkI_s] at this
            exact this.symm
          rw [← e4]
          exact a2
        · rw [e9, gI_pI, if_neg (by omega), e5, gI_pI, if_neg (by omega), fnF, if_neg c', if_pos q, show fnF L j + 0 - fnF L j = 0 by omega, ← k0, Int32.add_zero]
      · have q : ¬ wkE L j < L 0 11 := fun z => q (hl.mpr z)
        rintro S19 rfl
        refine ⟨iv (shS L j (shF L j)), pI S9' 57 15 (gI S9' 57 15 + 1), ?_, ?_⟩
        · rw [gI_pI, if_neg (by omega), s29, k1, iv_sub]
          have e : shS L j (shF L j) = clp (shF L j - 1) 999 := by
            unfold shS clp; rw [if_neg c', if_neg q]; repeat' split
            all_goals omega
          rw [e]
          exact ev_within7 _ _ 999 (by unfold inB; omega) (by unfold inB; omega)
        · rintro S21 rfl
          have sw : ∀ (T : ZSt) (x y : Int32), pI (pI T 57 15 x) 59 29 y = pI (pI T 59 29 y) 57 15 x := by
            intro T x y
            unfold pI
            refine Prod.ext ?_ rfl
            funext a
            by_cases h1 : a = 59
            · subst h1; simp
            · by_cases h2 : a = 57
              · subst h2; simp
              · simp [h1, h2]
          refine ⟨rfl, ?_, ?_, (f2.pI _ (Or.inr ⟨rfl, rfl⟩)).pI _ (Or.inl rfl)⟩
          · rw [sw, ← wkI_next]
            exact (p12 _ (by show inB (shF L (j + 1)); unfold inB; omega)).f15 _
          · rw [gI_pI, if_neg (by omega), gI_pI, if_pos ⟨rfl, rfl⟩, e9, gI_pI, if_neg (by omega), e5, gI_pI, if_neg (by omega), fnF, if_neg c', if_neg q, show fnF L j + 1 - fnF L j = 1 by omega]
            rfl
