/-! A WEEK -/
def wkE (L : Lnd) (f : Nat) : Int := eN (L 1 f) (L 2 f) (L 3 f) (hdL L f)
def wkB (L : Lnd) (f : Nat) : Int := bN (L 1 f) (L 3 f) (hdL L f)
def shS (L : Lnd) (f : Nat) (sh : Int) : Int := if hdL L f = 0 then (if sh + wkE L f / 10 < 999 then sh + wkE L f / 10 else 999) else if wkE L f < L 0 11 then sh else (if 0 < sh - 1 then sh - 1 else 0)
def shF (L : Lnd) : Nat → Int
  | 0 => L 0 12
  | f + 1 => shS L f (shF L f)
def fnF (L : Lnd) : Nat → Int
  | 0 => 0
  | f + 1 => fnF L f + (if hdL L f = 0 then 0 else if wkE L f < L 0 11 then 0 else 1)
def wkI (L : Lnd) (j : Nat) : Lnd := fun r i => if r = 2 ∧ i < j then wkE L i else if r = 3 ∧ i < j then wkB L i else if r = 0 ∧ i = 12 then shF L j else L r i
def wk (L : Lnd) : Lnd := updL (wkI L (nF L)) 0 13 (L 0 13 + 1)
theorem hd_eq {L L' : Lnd} (h4 : ∀ i, L' 4 i = L 4 i) (h5 : ∀ i, L' 5 i = L 5 i) (f : Int) : ∀ b, hd L' f b = hd L f b
  | 0 => rfl
  | b + 1 => by unfold hd; rw [hd_eq h4 h5 f b, h4, h5]
theorem hdL_eq {L L' : Lnd} (h4 : ∀ i, L' 4 i = L 4 i) (h5 : ∀ i, L' 5 i = L 5 i) (h9 : L' 0 9 = L 0 9) (f : Int) : hdL L' f = hdL L f := by unfold hdL nB; rw [h9]; exact hd_eq h4 h5 f _
theorem wkI_r {L : Lnd} {j r : Nat} (h : r ≠ 0 ∧ r ≠ 2 ∧ r ≠ 3) (i : Nat) : wkI L j r i = L r i := by unfold wkI; rw [if_neg (fun q => h.2.1 q.1), if_neg (fun q => h.2.2 q.1), if_neg (fun q => h.1 q.1)]
theorem wkI_0 {L : Lnd} {j i : Nat} (h : i ≠ 12) : wkI L j 0 i = L 0 i := by unfold wkI; rw [if_neg (by omega), if_neg (by omega), if_neg (by omega)]
theorem wkI_s {L : Lnd} {j : Nat} : wkI L j 0 12 = shF L j := by unfold wkI; rw [if_neg (by omega), if_neg (by omega), if_pos (by omega)]
theorem wkI_2 {L : Lnd} {j i : Nat} : wkI L j 2 i = if i < j then wkE L i else L 2 i := by unfold wkI; by_cases h : i < j <;> simp [h]
theorem wkI_3 {L : Lnd} {j i : Nat} : wkI L j 3 i = if i < j then wkB L i else L 3 i := by unfold wkI; by_cases h : i < j <;> simp [h]
theorem wkI_n {L : Lnd} {j : Nat} : nF (wkI L j) = nF L ∧ nB (wkI L j) = nB L ∧ nS (wkI L j) = nS L := by unfold nF nB nS; rw [wkI_0 (by omega), wkI_0 (by omega), wkI_0 (by omega)]; exact ⟨rfl, rfl, rfl⟩
theorem wkI_hd {L : Lnd} {j : Nat} (f : Int) : hdL (wkI L j) f = hdL L f := hdL_eq (fun i => wkI_r (by omega) i) (fun i => wkI_r (by omega) i) (wkI_0 (by omega)) f
theorem wkI_at0 {L : Lnd} : wkI L 0 = L := by
  funext r i
  unfold wkI
  rw [if_neg (by omega), if_neg (by omega)]
  by_cases h : r = 0 ∧ i = 12
  · rw [if_pos h, h.1, h.2]; rfl
  · rw [if_neg h]
theorem shF_in {L : Lnd} (hW : WF L) : ∀ j, 0 ≤ shF L j ∧ shF L j ≤ 999
  | 0 => hW.2.2.2.2.1
  | j + 1 => by
    have h := shF_in hW j
    have e := eN_in (L 1 j) (L 2 j) (L 3 j) (hdL L j)
    unfold shF shS wkE
    repeat' split
    all_goals omega
theorem fnF_in {L : Lnd} : ∀ j, 0 ≤ fnF L j ∧ fnF L j ≤ j
  | 0 => by simp [fnF]
  | j + 1 => by
    have h := fnF_in (L := L) j
    unfold fnF
    repeat' split
    all_goals (push_cast; omega)
theorem wkI_WF {L : Lnd} (hW : WF L) (j : Nat) : WF (wkI L j) := by
  obtain ⟨n1, n2, n3⟩ := wkI_n (L := L) (j := j)
  refine ⟨?_, ?_, ?_, ?_, ?_, ?_, fun f hf => ?_, fun b hb => ?_, fun i hi => ?_⟩
  · rw [wkI_0 (by omega)]; exact hW.1
  · rw [wkI_0 (by omega)]; exact hW.2.1
  · rw [wkI_0 (by omega)]; exact hW.2.2.1
  · rw [wkI_0 (by omega)]; exact hW.2.2.2.1
  · rw [wkI_s]; exact shF_in hW j
  · rw [wkI_0 (by omega)]; exact hW.2.2.2.2.2.1
  · rw [n1] at hf
    have w := hW.f hf
    rw [wkI_r (r := 1) (by omega), wkI_2, wkI_3]
    refine ⟨w.1, ?_, ?_⟩
    · split
      · exact eN_in _ _ _ _
      · exact w.2.1
    · split
      · exact bN_in _ _ _
      · exact w.2.2
  · rw [n2] at hb
    rw [wkI_r (r := 4) (by omega), wkI_r (r := 5) (by omega), wkI_0 (by omega)]
    exact hW.b hb
  · rw [n3] at hi
    rw [wkI_r (r := 6) (by omega), wkI_r (r := 7) (by omega), wkI_r (r := 8) (by omega), wkI_0 (by omega)]
    exact hW.s hi
theorem updL_at (L : Lnd) (r j : Nat) (z : Int) : updL L r j z r j = z := by unfold updL; rw [if_pos ⟨rfl, rfl⟩]
theorem updL_ne (L : Lnd) (r j : Nat) (z : Int) {r' j' : Nat} (h : ¬ (r' = r ∧ j' = j)) : updL L r j z r' j' = L r' j' := by unfold updL; rw [if_neg h]
theorem updL_self (L : Lnd) (r j : Nat) : updL L r j (L r j) = L := by
  funext a b
  unfold updL
  split
  · next h => rw [h.1, h.2]
  · rfl
theorem wkI_next (L : Lnd) (j : Nat) : updL (updL (updL (wkI L j) 2 j (wkE L j)) 3 j (wkB L j)) 0 12 (shS L j (shF L j)) = wkI L (j + 1) := by
  funext r i
  by_cases h0 : r = 0
  · subst h0
    by_cases hi : i = 12
    · subst hi; rw [updL_at, wkI_s]; rfl
    · rw [updL_ne _ _ _ _ (by omega), updL_ne _ _ _ _ (by omega), updL_ne _ _ _ _ (by omega), wkI_0 hi, wkI_0 hi]
  · rw [updL_ne _ _ _ _ (by omega)]
    by_cases h3 : r = 3
    · subst h3
      by_cases hi : i = j
      · subst hi; rw [updL_at, wkI_3, if_pos (by omega)]
      · rw [updL_ne _ _ _ _ (by omega), updL_ne _ _ _ _ (by omega), wkI_3, wkI_3]
        by_cases hj : i < j
        · rw [if_pos hj, if_pos (by omega)]
        · rw [if_neg hj, if_neg (by omega)]
    · rw [updL_ne _ _ _ _ (by omega)]
      by_cases h2 : r = 2
      · subst h2
        by_cases hi : i = j
        · subst hi; rw [updL_at, wkI_2, if_pos (by omega)]
        · rw [updL_ne _ _ _ _ (by omega), wkI_2, wkI_2]
          by_cases hj : i < j
          · rw [if_pos hj, if_pos (by omega)]
          · rw [if_neg hj, if_neg (by omega)]
      · rw [updL_ne _ _ _ _ (by omega), wkI_r ⟨h0, h2, h3⟩, wkI_r ⟨h0, h2, h3⟩]
theorem ldP_r {B r j : Nat} (h : r ≤ 8) : ldP B (B + r) j := by unfold ldP; omega
theorem ev_passWeek {d : Nat} (hd : 2 ≤ d) {B : Nat} (hB : zLd B) {S : ZSt} {L : Lnd} (h : HoC S B L) (hW : WF L) (hw : L 0 13 < 2000000000) : zEv d mX2_passWeek [.ref B] S (zY (some (.int (iv (fnF L (nF L))))) (fun S' => HoC S' B (wk L) ∧ Fr (ldP B) S S')) := by
  obtain ⟨d, rfl⟩ : ∃ d', d = d' + 1 := ⟨d - 1, by omega⟩
  have hn6 := hW.nF.1
  refine zEv.of cw_X2_passWeek (Nat.le_of_ble_eq_true rfl) rfl (blk_X2_passWeek_0 hB ?_)
  have key : ∀ (m j : Nat) (S1 : ZSt), j + m = nF L → HoC S1 B (wkI L j) → Fr (ldP B) S S1 → zSem (d + 1) mX2_passWeek 4 [some (.ref B), some (.int (iv (fnF L j))), some (.int (nI j)), none] [] S1 (zY (some (.int (iv (fnF L (nF L))))) (fun S' => HoC S' B (wk L) ∧ Fr (ldP B) S S')) := by
    intro m
    induction m with
    | zero =>
      intro j S1 hj h1 f1
      have W1 := wkI_WF hW j
      obtain rfl : j = nF L := by omega
      refine blk_X2_passWeek_4 hB ⟨fun c => ?_, fun c => ?_⟩
      · rintro S2 rfl
        refine ⟨rfl, ?_, f1.pI _ (ldP_r (r := 0) (by omega))⟩
        have w := hW.2.2.2.2.2.1
        rw [h1.g0 (by omega), wkI_0 (by omega), k1, iv_add]
        exact h1.put 0 13 (by unfold inB; omega) (by omega)
      · rw [h1.gnF W1, wkI_n.1] at c
        exact absurd (nI_le (by omega) (by omega)) c
    | succ m ih =>
      intro j S1 hj h1 f1
      have W1 := wkI_WF hW j
      have n1 := (wkI_n (L := L) (j := j)).1
      have hj2 : j < nF L := by omega
      have hj3 : j < nF (wkI L j) := by rw [n1]; exact hj2
      have w := hW.f hj2
      have hh := hdL_in hW j
      have he := eN_in (L 1 j) (L 2 j) (L 3 j) (hdL L j)
      have hb := bN_in (L 1 j) (L 3 j) (hdL L j)
      have hs := shF_in hW j
      have hs2 := shF_in hW (j + 1)
      have g1 : gI S1 (B + 1) j = iv (L 1 j) := by rw [h1.g (inR_f (by omega) hj3), wkI_r (by omega)]
      have g2 : gI S1 (B + 2) j = iv (L 2 j) := by rw [h1.g (inR_f (by omega) hj3), wkI_2, if_neg (by omega)]
      have g3 : gI S1 (B + 3) j = iv (L 3 j) := by rw [h1.g (inR_f (by omega) hj3), wkI_3, if_neg (by omega)]
      have a1 : HoC (pI S1 (B + 2) j (iv (wkE L j))) B (updL (wkI L j) 2 j (wkE L j)) := h1.put 2 j (by unfold inB wkE; omega) (by omega)
      have a2 : HoC (pI (pI S1 (B + 2) j (iv (wkE L j))) (B + 3) j (iv (wkB L j))) B (updL (updL (wkI L j) 2 j (wkE L j)) 3 j (wkB L j)) := a1.put 3 j (by unfold inB wkB; omega) (by omega)
      have f2 : Fr (ldP B) S (pI (pI S1 (B + 2) j (iv (wkE L j))) (B + 3) j (iv (wkB L j))) := (f1.pI _ (ldP_r (by omega))).pI _ (ldP_r (by omega))
      have q11 : gI (pI (pI S1 (B + 2) j (iv (wkE L j))) (B + 3) j (iv (wkB L j))) B 11 = iv (L 0 11) := by rw [a2.g0 (by omega), updL_ne _ _ _ _ (by omega), updL_ne _ _ _ _ (by omega), wkI_0 (by omega)]
      have q12 : gI (pI (pI S1 (B + 2) j (iv (wkE L j))) (B + 3) j (iv (wkB L j))) B 12 = iv (shF L j) := by rw [a2.g0 (by omega), updL_ne _ _ _ _ (by omega), updL_ne _ _ _ _ (by omega), wkI_s]
      have q2 : gI (pI (pI S1 (B + 2) j (iv (wkE L j))) (B + 3) j (iv (wkB L j))) (B + 2) j = iv (wkE L j) := by rw [gI_pI, if_neg (by omega), gI_pI, if_pos ⟨rfl, rfl⟩]
      have w11 := hW.2.2.2.1
      have hl : iv (wkE L j) < iv (L 0 11) ↔ wkE L j < L 0 11 := iv_lt (by unfold inB wkE; omega) (by unfold inB; omega)
      have hwe : 0 ≤ wkE L j ∧ wkE L j ≤ 99 := he
      have ce : iv (hdL L j) = 0 ↔ hdL L j = 0 := by rw [k0]; exact iv_eq (by unfold inB; omega) (by unfold inB; omega)
      have hi6 : vp_in (nI j) 6 := ix_in (by omega) (by omega)
      refine blk_X2_passWeek_4 hB ⟨fun c => ?_, fun c => ⟨iv (hdL L j), S1, ?_, hi6, hi6, hi6, iv (wkE L j), S1, ?_, hi6, ?_⟩⟩
      · rw [h1.gnF W1, n1] at c
        exact absurd c (nI_ge (by omega) (by omega))
      · have := ev_heardAtN (d := d) hB h1 W1 j (by omega)
        rw [wkI_hd] at this
        exact this
      · rw [ix_cl (by omega), g1, g2, g3]
        exact ev_earsNext (by omega) S1 _ _ _ _ (by unfold sm; omega) (by omega) (by omega) (by omega)
      · rintro S5 rfl
        rw [ix_cl (by omega)]
        refine ⟨hi6, hi6, iv (wkB L j), pI S1 (B + 2) j (iv (wkE L j)), ?_, hi6, ?_⟩
        · rw [gI_pI, if_neg (by omega), gI_pI, if_neg (by omega), g1, g3]
          exact ev_blightNext (by omega) _ _ _ _ (by unfold sm; omega) w.2.2 (by unfold sm; omega)
        · rintro S7 rfl
          rw [q11, q12, q2, nI_1]
          refine ⟨fun c => ⟨hi6, fun c2 => ?_, fun c2 => ?_⟩, fun c => ⟨hi6, ?_⟩⟩
          · have c : ¬ hdL L j = 0 := fun z => c (ce.mpr z)
            have c2 := hl.mp c2
            have e1 : shS L j (shF L j) = shF L j := by unfold shS; rw [if_neg c, if_pos c2]
            have e2 : fnF L (j + 1) = fnF L j := by rw [fnF, if_neg c, if_pos c2, Int.add_zero]
            have e3 := wkI_next L j
            rw [e1] at e3
            have e4 : updL (updL (wkI L j) 2 j (wkE L j)) 3 j (wkB L j) = wkI L (j + 1) := by
              rw [← e3]
              have := updL_self (updL (updL (wkI L j) 2 j (wkE L j)) 3 j (wkB L j)) 0 12
              rw [updL_ne _ _ _ _ (by omega), updL_ne _ _ _ _ (by omega), wkI_s] at this
              exact this.symm
            have := ih (j + 1) _ (by omega) (by rw [← e4]; exact a2) f2
            rw [e2] at this
            exact this
          · have c : ¬ hdL L j = 0 := fun z => c (ce.mpr z)
            have c2 : ¬ wkE L j < L 0 11 := fun z => c2 (hl.mpr z)
            rintro S10 rfl
            have e1 : shS L j (shF L j) = (if 0 < shF L j - 1 then shF L j - 1 else 0) := by unfold shS; rw [if_neg c, if_neg c2]
            have e2 : fnF L (j + 1) = fnF L j + 1 := by rw [fnF, if_neg c, if_neg c2]
            have e5 : (if (0 : Int32) < iv (shF L j) - 1 then iv (shF L j) - 1 else 0) = iv (shS L j (shF L j)) := by
              rw [e1, k1, iv_sub, k0, iv_iteLt (by unfold inB; omega) (by unfold inB; omega)]
            rw [e5]
            have := ih (j + 1) _ (by omega) (by rw [← wkI_next]; exact a2.put 0 12 (by show inB (shF L (j + 1)); unfold inB; omega) (by omega)) (f2.pI _ (ldP_r (r := 0) (by omega)))
            rw [e2, ← iv_add] at this
            exact this
          · have c := ce.mp c
            rintro S11 rfl
            have e1 : shS L j (shF L j) = (if shF L j + wkE L j / 10 < 999 then shF L j + wkE L j / 10 else 999) := by unfold shS; rw [if_pos c]
            have e2 : fnF L (j + 1) = fnF L j := by rw [fnF, if_pos c, Int.add_zero]
            have e5 : (if iv (shF L j) + iv (wkE L j) / 10 < 999 then iv (shF L j) + iv (wkE L j) / 10 else 999) = iv (shS L j (shF L j)) := by
              rw [e1, k10, iv_div (by omega) (by omega), iv_add, k999, iv_iteLt (by unfold inB; omega) (by unfold inB; omega)]
            rw [e5]
            have := ih (j + 1) _ (by omega) (by rw [← wkI_next]; exact a2.put 0 12 (by show inB (shF L (j + 1)); unfold inB; omega) (by omega)) (f2.pI _ (ldP_r (r := 0) (by omega)))
            rw [e2] at this
            exact this
  exact key (nF L) 0 S (by omega) (by rw [wkI_at0]; exact h) (Fr.rf _ _)
