/-! THE REFERENCE'S WEEKS, one behind another; its other leaves -/
def hlI (L : Lnd) (j : Nat) : Lnd := fun r i => if r = 3 ∧ i < j then clp (L 3 i + 2) 9 else L r i
theorem hlI_r {L : Lnd} {j r : Nat} (h : r ≠ 3) (i : Nat) : hlI L j r i = L r i := by unfold hlI; rw [if_neg (fun q => h q.1)]
theorem hlI_3 {L : Lnd} {j i : Nat} : hlI L j 3 i = if i < j then clp (L 3 i + 2) 9 else L 3 i := by unfold hlI; by_cases h : i < j <;> simp [h]
theorem hlI_n {L : Lnd} {j : Nat} : nF (hlI L j) = nF L ∧ nB (hlI L j) = nB L ∧ nS (hlI L j) = nS L := by unfold nF nB nS; rw [hlI_r (by omega), hlI_r (by omega), hlI_r (by omega)]; exact ⟨rfl, rfl, rfl⟩
theorem hlI_WF {L : Lnd} (hW : WF L) (j : Nat) : WF (hlI L j) := by
  obtain ⟨n1, n2, n3⟩ := hlI_n (L := L) (j := j)
  refine ⟨?_, ?_, ?_, ?_, ?_, ?_, fun f hf => ?_, fun b hb => ?_, fun i hi => ?_⟩
  · rw [hlI_r (by omega)]; exact hW.1
  · rw [hlI_r (by omega)]; exact hW.2.1
  · rw [hlI_r (by omega)]; exact hW.2.2.1
  · rw [hlI_r (by omega)]; exact hW.2.2.2.1
  · rw [hlI_r (by omega)]; exact hW.2.2.2.2.1
  · rw [hlI_r (by omega)]; exact hW.2.2.2.2.2.1
  · rw [n1] at hf
    have w := hW.f hf
    rw [hlI_r (r := 1) (by omega), hlI_r (r := 2) (by omega), hlI_3]
    refine ⟨w.1, w.2.1, ?_⟩
    split
    · exact clp_in (by omega)
    · exact w.2.2
  · rw [n2] at hb
    rw [hlI_r (r := 4) (by omega), hlI_r (r := 5) (by omega), hlI_r (r := 0) (by omega)]
    exact hW.b hb
  · rw [n3] at hi
    rw [hlI_r (r := 6) (by omega), hlI_r (r := 7) (by omega), hlI_r (r := 8) (by omega), hlI_r (r := 0) (by omega)]
    exact hW.s hi
theorem hlI_next (L : Lnd) (j : Nat) : updL (hlI L j) 3 j (clp (L 3 j + 2) 9) = hlI L (j + 1) := by
  funext r i
  by_cases h3 : r = 3
  · subst h3
    by_cases hi : i = j
    · subst hi; rw [updL_at, hlI_3, if_pos (by omega)]
    · rw [updL_ne _ _ _ _ (by omega), hlI_3, hlI_3]
      by_cases hj : i < j
      · rw [if_pos hj, if_pos (by omega)]
      · rw [if_neg hj, if_neg (by omega)]
  · rw [updL_ne _ _ _ _ (by omega), hlI_r h3, hlI_r h3]
theorem hlI_at0 {L : Lnd} : hlI L 0 = L := by
  funext r i
  unfold hlI
  rw [if_neg (by omega)]
/-- with hail or without -/
def hlL (L : Lnd) (p : Prop) [Decidable p] : Lnd := if p then hlI L (nF L) else L
theorem hlL_n {L : Lnd} (p : Prop) [Decidable p] : nF (hlL L p) = nF L ∧ nB (hlL L p) = nB L ∧ nS (hlL L p) = nS L := by unfold hlL; split; exact hlI_n; exact ⟨rfl, rfl, rfl⟩
theorem hlL_WF {L : Lnd} (hW : WF L) (p : Prop) [Decidable p] : WF (hlL L p) := by unfold hlL; split; exact hlI_WF hW _; exact hW
theorem HoN.n18 {S : ZSt} {L : Lnd} (h : HoN S L) (hW : WF L) : gI S 59 18 = nI (nF L) := by rw [h.s.1, hW.nF.2, nI_iv]
theorem ev_weekGoes {d : Nat} (hdp : 4 ≤ d) {S : ZSt} {L : Lnd} (h : HoN S L) (hW : WF L) (hw : L 0 13 < 2000000000) (p : Prop) [Decidable p] : zEv d mX7_weekGoes [.ref 57, .int (b01 p)] S (zY none (fun S' => HoN S' (wk (hlL L p)) ∧ gI S' 57 15 = gI S 57 15 + iv (fnF (hlL L p) (nF L)) ∧ Fr mdP S S')) := by
  obtain ⟨d, rfl⟩ : ∃ d', d = d' + 1 := ⟨d - 1, by omega⟩
  have hn6 := hW.nF.1
  refine zEv.of cw_X7_weekGoes (Nat.le_of_ble_eq_true rfl) rfl (blk_X7_weekGoes_0 ?_)
  have W2 := hlL_WF hW p
  obtain ⟨m1, m2, m3⟩ := hlL_n (L := L) p
  have e13 : hlL L p 0 13 = L 0 13 := by unfold hlL; split; exact hlI_r (by omega) _; rfl
  -- the fields, one behind another
  have key2 : ∀ (m j : Nat) (S1 : ZSt), j + m = nF L → HoN S1 (wkI (hlL L p) j) → gI S1 57 15 = gI S 57 15 + iv (fnF (hlL L p) j) → Fr mdP S S1 → zSem (d + 1) mX7_weekGoes 44 [some (.ref 57), none, some (.int (nI j))] [] S1 (zY none (fun S' => HoN S' (wk (hlL L p)) ∧ gI S' 57 15 = gI S 57 15 + iv (fnF (hlL L p) (nF L)) ∧ Fr mdP S S')) := by
    intro m
    induction m with
    | zero =>
      intro j S1 hj h1 e1 f1
      have W1 := wkI_WF W2 j
      have n1 := (wkI_n (L := hlL L p) (j := j)).1
      refine blk_X7_weekGoes_44 ⟨fun c => ?_, fun c => ?_⟩
      · obtain rfl : j = nF L := by omega
        refine ⟨rfl, ?_, ?_, f1.pI _ (Or.inl rfl)⟩
        · have w := hW.2.2.2.2.2.1
          have hp := h1.put W1.n (r := 0) (j := 13) (z := L 0 13 + 1) (inR_0 (by omega)) (by unfold inB; omega) (by omega) (by omega)
          rw [h1.s.2.2.2.2.2, wkI_0 (by omega), e13, k1, iv_add]
          unfold wk
          rw [m1, e13]
          exact hp
        · rw [gI_pI, if_neg (by omega)]; exact e1
      · rw [h1.n18 W1, n1, m1] at c
        exact absurd (nI_le (by omega) (by omega)) c
    | succ m ih =>
      intro j S1 hj h1 e1 f1
      have W1 := wkI_WF W2 j
      have n1 := (wkI_n (L := hlL L p) (j := j)).1
      refine blk_X7_weekGoes_44 ⟨fun c => ?_, fun c => ⟨_, ev_fieldGoes (by omega) j (by rw [m1]; omega) h1 W2, fun S2 k2 => ?_⟩⟩
      · rw [h1.n18 W1, n1, m1] at c
        exact absurd c (nI_ge (by omega) (by omega))
      · rw [nI_1]
        exact ih (j + 1) S2 (by omega) k2.1 (by rw [k2.2.1, e1, Int32.add_assoc, iv_add]; congr 2; omega) (f1.tr k2.2.2)
  have go : ∀ S1 : ZSt, HoN S1 (hlL L p) → gI S1 57 15 = gI S 57 15 → Fr mdP S S1 → zSem (d + 1) mX7_weekGoes 44 [some (.ref 57), none, some (.int 0)] [] S1 (zY none (fun S' => HoN S' (wk (hlL L p)) ∧ gI S' 57 15 = gI S 57 15 + iv (fnF (hlL L p) (nF L)) ∧ Fr mdP S S')) := by
    intro S1 h1 e1 f1
    refine key2 (nF L) 0 S1 (by omega) (by rw [wkI_at0]; exact h1) ?_ f1
    rw [e1, fnF, ← k0, Int32.add_zero]
  by_cases hp : p
  · have ep : b01 p = 1 := b01_p hp
    have el : hlL L p = hlI L (nF L) := if_pos hp
    rw [ep]
    have key : ∀ (m j : Nat) (S1 : ZSt), j + m = nF L → HoN S1 (hlI L j) → gI S1 57 15 = gI S 57 15 → Fr mdP S S1 → zSem (d + 1) mX7_weekGoes 2 [some (.ref 57), some (.int 1), some (.int (nI j))] [] S1 (zY none (fun S' => HoN S' (wk (hlL L p)) ∧ gI S' 57 15 = gI S 57 15 + iv (fnF (hlL L p) (nF L)) ∧ Fr mdP S S')) := by
      intro m
      induction m with
      | zero =>
        intro j S1 hj h1 e1 f1
        have W1 := hlI_WF hW j
        have n1 := (hlI_n (L := L) (j := j)).1
        obtain rfl : j = nF L := by omega
        refine blk_X7_weekGoes_2 ⟨fun c => go S1 (by rw [el]; exact h1) e1 f1, fun c => ?_⟩
        rw [h1.n18 W1, n1] at c
        exact absurd (nI_le (by omega) (by omega)) c
      | succ m ih =>
        intro j S1 hj h1 e1 f1
        have W1 := hlI_WF hW j
        have n1 := (hlI_n (L := L) (j := j)).1
        have hj2 : j < nF L := by omega
        have hj3 : j < nF (hlI L j) := by rw [n1]; exact hj2
        have w := hW.f hj2
        have g := h1.g1 hj3
        rw [hlI_3, if_neg (by omega)] at g
        have cl := clp_in (v := L 3 j + 2) (most := 9) (by omega)
        refine blk_X7_weekGoes_2 ⟨fun c => ?_, fun c => ⟨fun c2 => absurd c2 (by decide), fun c2 => ⟨_, S1, ev_of S1 j 2 (by omega), iv (clp (L 3 j + 2) 9), S1, ?_, _, ev_becomesOf S1 j 2 _ (by omega), ?_⟩⟩⟩
        · rw [h1.n18 W1, n1] at c
          exact absurd c (nI_ge (by omega) (by omega))
        · rw [g.2.2, k2, iv_add]
          exact ev_within7 _ _ 9 (by unfold inB; omega) (by unfold inB; omega)
        · rintro S5 rfl
          rw [nI_1]
          refine ih (j + 1) _ (by omega) ?_ (by rw [gI_pI, if_neg (by omega)]; exact e1) (f1.pI _ (Or.inl rfl))
          rw [← hlI_next]
          have := h1.put W1.n (inR_f (r := 3) (by omega) hj3) (z := clp (L 3 j + 2) 9) (by unfold inB; omega) (by omega) (by omega)
          rw [mpos_f (by omega)] at this
          exact this
    exact key (nF L) 0 S (by omega) (by rw [hlI_at0]; exact h) rfl (Fr.rf _ _)
  · have ep : b01 p = 0 := b01_f hp
    have el : hlL L p = L := if_neg hp
    rw [ep]
    have h0 : HoN S (hlL L p) := by rw [el]; exact h
    refine blk_X7_weekGoes_2 ⟨fun c => go S h0 rfl (Fr.rf _ _), fun c => ⟨fun c2 => go S h0 rfl (Fr.rf _ _), fun c2 => absurd rfl c2⟩⟩
theorem ev_weekGoes0 {d : Nat} (hdp : 4 ≤ d) {S : ZSt} {L : Lnd} (h : HoN S L) (hW : WF L) (hw : L 0 13 < 2000000000) : zEv d mX7_weekGoes [.ref 57, .int 0] S (zY none (fun S' => HoN S' (wk L) ∧ gI S' 57 15 = gI S 57 15 + iv (fnF L (nF L)) ∧ Fr mdP S S')) := ev_weekGoes hdp h hW hw False
theorem ev_weeksGo {d : Nat} (hdp : 5 ≤ d) {S : ZSt} {L : Lnd} (h : HoN S L) (hW : WF L) (n : Nat) (hn : n < 1000) (hw : L 0 13 ≤ 100000) : zEv d mX7_weeksGo [.ref 57, .int (nI n)] S (zY none (fun S' => HoN S' (wks L n) ∧ gI S' 57 15 = gI S 57 15 + iv (fns L n) ∧ Fr mdP S S')) := by
  obtain ⟨d, rfl⟩ : ∃ d', d = d' + 1 := ⟨d - 1, by omega⟩
  refine zEv.of cw_X7_weeksGo (Nat.le_of_ble_eq_true rfl) rfl (blk_X7_weeksGo_0 ?_)
  have key : ∀ (m j : Nat) (L1 : Lnd) (S1 : ZSt) (acc : Int), j + m = n → HoN S1 L1 → WF L1 → L1 0 13 ≤ 100000 + j → gI S1 57 15 = gI S 57 15 + iv acc → Fr mdP S S1 → wks L1 m = wks L n → acc + fns L1 m = fns L n → zSem (d + 1) mX7_weeksGo 2 [some (.ref 57), some (.int (nI n)), some (.int (nI j))] [] S1 (zY none (fun S' => HoN S' (wks L n) ∧ gI S' 57 15 = gI S 57 15 + iv (fns L n) ∧ Fr mdP S S')) := by
    intro m
    induction m with
    | zero =>
      intro j L1 S1 acc hj h1 W1 b1 e0 f1 e1 e2
      refine blk_X7_weeksGo_2 ⟨fun c => ?_, fun c => absurd (nI_le (by omega) (by omega)) c⟩
      rw [fns, Int.add_zero] at e2
      rw [wks] at e1
      rw [← e1, ← e2]
      exact ⟨rfl, h1, e0, f1⟩
    | succ m ih =>
      intro j L1 S1 acc hj h1 W1 b1 e0 f1 e1 e2
      refine blk_X7_weeksGo_2 ⟨fun c => absurd c (nI_ge (by omega) (by omega)), fun c => ⟨_, ev_weekGoes0 (by omega) h1 W1 (by omega), fun S2 k2 => ?_⟩⟩
      rw [nI_1]
      exact ih (j + 1) (wk L1) S2 (acc + fnF L1 (nF L1)) (by omega) k2.1 (wk_WF W1) (by rw [wk_13]; push_cast; omega) (by rw [k2.2.1, e0, Int32.add_assoc, iv_add]) (f1.tr k2.2.2) e1 (by rw [← e2, fns]; omega)
  exact key n 0 L S 0 (by omega) h hW (by omega) (by rw [← k0, Int32.add_zero]) (Fr.rf _ _) rfl (by omega)
theorem ev_sumOf7 {d : Nat} (hdp : 1 ≤ d) {S : ZSt} {L : Lnd} (h : HoN S L) (hW : WF L) (w : Nat) (hw : w ≤ 2) : zEv d mX7_sumOf [.ref 57, .int (nI w)] S (zX (some (.int (iv (sm_ (L (1 + w)) (nF L))))) S) := by
  obtain ⟨d, rfl⟩ : ∃ d', d = d' + 1 := ⟨d - 1, by omega⟩
  have hn6 := hW.nF.1
  refine zEv.of cw_X7_sumOf (Nat.le_of_ble_eq_true rfl) rfl (blk_X7_sumOf_0 ?_)
  have key : ∀ (m j : Nat), j + m = nF L → zSem (d + 1) mX7_sumOf 4 [some (.ref 57), some (.int (nI w)), some (.int (iv (sm_ (L (1 + w)) j))), some (.int (nI j))] [] S (zX (some (.int (iv (sm_ (L (1 + w)) (nF L))))) S) := by
    intro m
    induction m with
    | zero =>
      intro j hj
      obtain rfl : j = nF L := by omega
      refine blk_X7_sumOf_4 ⟨fun c => ⟨rfl, rfl⟩, fun c => ?_⟩
      rw [h.n18 hW] at c
      exact absurd (nI_le (by omega) (by omega)) c
    | succ m ih =>
      intro j hj
      have g : gI S 59 (3 * j + w) = iv (L (1 + w) j) := by
        have := h.g (inR_f (r := 1 + w) (by omega) (show j < nF L by omega)) (by omega)
        rw [mpos_f (by omega), show 1 + w - 1 = w by omega] at this
        exact this
      refine blk_X7_sumOf_4 ⟨fun c => ?_, fun c => ⟨_, S, ev_of S j w (by omega), ?_⟩⟩
      · rw [h.n18 hW] at c
        exact absurd c (nI_ge (by omega) (by omega))
      · rw [g, iv_add, nI_1]
        exact ih (j + 1) (by omega)
  exact key (nF L) 0 (by omega)
/-- ALL EARS behind n weeks -/
def aE (L : Lnd) (n : Nat) : Int := sm_ (fun f => eI L f (hdL L f) n) (nF L)
theorem aE_wks {L : Lnd} (n : Nat) : sm_ (wks L n 2) (nF (wks L n)) = aE L n := by
  rw [(wks_n n).1]
  exact sm_congr _ (fun j hj => wks_2 hj n)
theorem aE_in {L : Lnd} (hW : WF L) (n : Nat) : 0 ≤ aE L n ∧ aE L n ≤ 594 := by
  have h := sm_in (g := fun f => eI L f (hdL L f) n) (m := 99) (nF L) (fun j hj => eI_in hW hj _ n)
  have := hW.nF.1
  unfold aE; omega
theorem ev_earsBehind7 {d : Nat} (hdp : 6 ≤ d) {S : ZSt} {L : Lnd} (h : HoN S L) (hW : WF L) (n : Nat) (hn : n < 1000) (hw : L 0 13 ≤ 100000) : zEv d mX7_earsBehind [.ref 57, .int (nI n)] S (zY (some (.int (iv (aE L n)))) (fun S' => HoN S' (wks L n) ∧ gI S' 57 15 = gI S 57 15 + iv (fns L n) ∧ Fr mdP S S')) := by
  obtain ⟨d, rfl⟩ : ∃ d', d = d' + 1 := ⟨d - 1, by omega⟩
  refine zEv.of cw_X7_earsBehind (Nat.le_of_ble_eq_true rfl) rfl (blk_X7_earsBehind_0 ⟨_, ev_weeksGo (by omega) h hW n hn hw, fun S1 k1 => ⟨_, S1, ev_sumOf7 (by omega) k1.1 (wks_WF hW n) 1 (by omega), ?_, k1⟩⟩)
  rw [aE_wks]
def stP : Nat → Nat → Prop := fun k i => k = 59 ∨ (k = 57 ∧ (i = 14 ∨ i = 15))
theorem ev_starts {d : Nat} {S : ZSt} {L : Lnd} (h : HoM S 58 0 L) (hW : WF L) : zEv d mX7_starts [.ref 57] S (zY none (fun S' => HoN S' L ∧ gI S' 57 15 = 0 ∧ gI S' 57 14 = -4 ∧ (∀ i, i < 50 → gI S' 59 i = gI S 58 i) ∧ Fr stP S S')) := by
  refine zEv.of cw_X7_starts (Nat.le_of_ble_eq_true rfl) rfl (blk_X7_starts_0 ?_)
  have key : ∀ (m j : Nat) (S1 : ZSt), j + m = 50 → (∀ i, i < j → gI S1 59 i = gI S 58 i) → Fr stP S S1 → zSem d mX7_starts 2 [some (.ref 57), some (.int (nI j))] [] S1 (zY none (fun S' => HoN S' L ∧ gI S' 57 15 = 0 ∧ gI S' 57 14 = -4 ∧ (∀ i, i < 50 → gI S' 59 i = gI S 58 i) ∧ Fr stP S S')) := by
    intro m
    induction m with
    | zero =>
      intro j S1 hj h1 f1
      obtain rfl : j = 50 := by omega
      refine blk_X7_starts_2 ⟨fun c => ?_, fun c => absurd (nI_le (a := 50) (b := 50) (by omega) (by omega)) c⟩
      rintro S2 e2 S3 e3
      have e59 : ∀ i, gI S3 59 i = gI S1 59 i := fun i => by rw [e3, gI_pI, if_neg (by omega), e2, gI_pI, if_neg (by omega)]
      have e14 : gI S3 57 14 = -4 := by rw [e3, gI_pI, if_neg (by omega), e2, gI_pI, if_pos (by omega)]
      refine ⟨rfl, fun r i hr => ⟨fun q => ?_, fun q => ?_⟩, by rw [e3, gI_pI, if_pos (by omega)], e14, fun i hi => (e59 i).trans (h1 i hi), ?_⟩
      · have z : zi S3 57 14 = -4 := by unfold zi; rw [e14]; rfl
        rw [z] at q
        omega
      · have := h r i hr
        have hlt := mpos_lt hW.n hr
        unfold zi at this ⊢
        rw [e59, h1 _ hlt, ← this, Nat.zero_add]
      · rw [e3, e2]
        exact (f1.pI _ (Or.inr ⟨rfl, Or.inl rfl⟩)).pI _ (Or.inr ⟨rfl, Or.inr rfl⟩)
    | succ m ih =>
      intro j S1 hj h1 f1
      refine blk_X7_starts_2 ⟨fun c => absurd c (nI_ge (a := j) (b := 50) (by omega) (by omega)), fun c => ⟨ix_in (by omega) (by omega), ix_in (by omega) (by omega), fun S4 e4 => ?_⟩⟩
      rw [ix_cl (by omega)] at e4
      rw [nI_1]
      refine ih (j + 1) S4 (by omega) (fun i hi => ?_) (by rw [e4]; exact f1.pI _ (Or.inl rfl))
      rw [e4, gI_pI]
      by_cases q : i = j
      · subst q
        rw [if_pos ⟨rfl, rfl⟩]
        exact f1.1 58 i (by unfold stP; omega)
      · rw [if_neg (by omega)]
        exact h1 i (by omega)
  exact key 50 0 S (by omega) (fun i hi => absurd hi (by omega)) (Fr.rf _ _)
