/-! THE REFERENCE: its row of numbers, and its leaves -/
def mpos (r j : Nat) : Nat := if r = 0 then (if j = 8 then 18 else if j = 9 then 27 else if j = 10 then 31 else if j = 11 then 28 else if j = 12 then 29 else 30) else if r ≤ 3 then 3 * j + (r - 1) else if r ≤ 5 then 19 + 2 * j + (r - 4) else 32 + 3 * j + (r - 6)
def HoM (S : ZSt) (A o : Nat) (L : Lnd) : Prop := ∀ r j, inR L r j → zi S A (o + mpos r j) = L r j
/-- 'now' with the quiet band: what is held is heard -/
def HoN (S : ZSt) (L : Lnd) : Prop := ∀ r j, inR L r j → ((r = 5 ∧ (j : Int) = zi S 57 14) → L r j = 0) ∧ (¬ (r = 5 ∧ (j : Int) = zi S 57 14) → zi S 59 (mpos r j) = L r j)
theorem mpos_f {r j : Nat} (h : 1 ≤ r ∧ r ≤ 3) : mpos r j = 3 * j + (r - 1) := by unfold mpos; rw [if_neg (by omega), if_pos (by omega)]
theorem mpos_b {r j : Nat} (h : 4 ≤ r ∧ r ≤ 5) : mpos r j = 19 + 2 * j + (r - 4) := by unfold mpos; rw [if_neg (by omega), if_neg (by omega), if_pos (by omega)]
theorem mpos_s {r j : Nat} (h : 6 ≤ r) : mpos r j = 32 + 3 * j + (r - 6) := by unfold mpos; rw [if_neg (by omega), if_neg (by omega), if_neg (by omega)]
theorem mpos_lt {L : Lnd} (hn : nF L ≤ 6 ∧ nB L ≤ 4 ∧ nS L ≤ 6) {r j : Nat} (h : inR L r j) : mpos r j < 50 := by
  unfold inR at h
  unfold mpos
  repeat' split
  all_goals omega
theorem mpos0_inj : ∀ j, j < 14 → ∀ j', j' < 14 → 8 ≤ j → 8 ≤ j' → mpos 0 j = mpos 0 j' → j = j' := by decide
theorem mpos_inj {L : Lnd} (hn : nF L ≤ 6 ∧ nB L ≤ 4 ∧ nS L ≤ 6) {r j r' j' : Nat} (h : inR L r j) (h' : inR L r' j') (e : mpos r j = mpos r' j') : r = r' ∧ j = j' := by
  rcases h with ⟨a, b, c⟩ | ⟨a, b, c⟩ | ⟨a, b, c⟩ | ⟨a, b, c⟩ <;> rcases h' with ⟨a', b', c'⟩ | ⟨a', b', c'⟩ | ⟨a', b', c'⟩ | ⟨a', b', c'⟩
  · subst a; subst a'
    exact ⟨rfl, mpos0_inj j (by omega) j' (by omega) b b' e⟩
  · subst a; rw [mpos_f ⟨a', b'⟩] at e; unfold mpos at e; simp only [if_true] at e; repeat' split at e
    all_goals omega
  · subst a; rw [mpos_b ⟨a', b'⟩] at e; unfold mpos at e; simp only [if_true] at e; repeat' split at e
    all_goals omega
  · subst a; rw [mpos_s a'] at e; unfold mpos at e; simp only [if_true] at e; repeat' split at e
    all_goals omega
  · subst a'; rw [mpos_f ⟨a, b⟩] at e; unfold mpos at e; simp only [if_true] at e; repeat' split at e
    all_goals omega
  · rw [mpos_f ⟨a, b⟩, mpos_f ⟨a', b'⟩] at e; omega
  · rw [mpos_f ⟨a, b⟩, mpos_b ⟨a', b'⟩] at e; omega
  · rw [mpos_f ⟨a, b⟩, mpos_s a'] at e; omega
  · subst a'; rw [mpos_b ⟨a, b⟩] at e; unfold mpos at e; simp only [if_true] at e; repeat' split at e
    all_goals omega
  · rw [mpos_b ⟨a, b⟩, mpos_f ⟨a', b'⟩] at e; omega
  · rw [mpos_b ⟨a, b⟩, mpos_b ⟨a', b'⟩] at e; omega
  · rw [mpos_b ⟨a, b⟩, mpos_s a'] at e; omega
  · subst a'; rw [mpos_s a] at e; unfold mpos at e; simp only [if_true] at e; repeat' split at e
    all_goals omega
  · rw [mpos_s a, mpos_f ⟨a', b'⟩] at e; omega
  · rw [mpos_s a, mpos_b ⟨a', b'⟩] at e; omega
  · rw [mpos_s a, mpos_s a'] at e; omega
theorem WF.n {L : Lnd} (h : WF L) : _root_.Jvm.Pilot.CPraisedFieldsLaw_law_r9335_a42203.nF L ≤ 6 ∧ _root_.Jvm.Pilot.CPraisedFieldsLaw_law_r9335_a42203.nB L ≤ 4 ∧ _root_.Jvm.Pilot.CPraisedFieldsLaw_law_r9335_a42203.nS L ≤ 6 := ⟨h.nF.1, h.nB.1, h.nS.1⟩
theorem HoN.g {S : ZSt} {L : Lnd} (h : HoN S L) {r j : Nat} (hr : inR L r j) (h5 : r ≠ 5) : gI S 59 (mpos r j) = iv (L r j) := by rw [gI_zi, (h r j hr).2 (fun q => h5 q.1)]
theorem HoN.put {S : ZSt} {L : Lnd} (h : HoN S L) (hn : nF L ≤ 6 ∧ nB L ≤ 4 ∧ nS L ≤ 6) {r j : Nat} {z : Int} (hr : inR L r j) (hz : inB z) (h0 : ¬ (r = 0 ∧ j ≤ 10)) (h5 : r ≠ 5) : HoN (pI S 59 (mpos r j) (iv z)) (updL L r j z) := by
  have e8 : updL L r j z 0 8 = L 0 8 := updL_ne _ _ _ _ (by omega)
  have e9 : updL L r j z 0 9 = L 0 9 := updL_ne _ _ _ _ (by omega)
  have e10 : updL L r j z 0 10 = L 0 10 := updL_ne _ _ _ _ (by omega)
  intro r' j' hr'
  have hr2 : inR L r' j' := by
    unfold inR nF nB nS at hr' ⊢
    rw [e8, e9, e10] at hr'
    exact hr'
  have hq : zi (pI S 59 (mpos r j) (iv z)) 57 14 = zi S 57 14 := by rw [zi_pI _ _ _ _ hz, if_neg (by omega)]
  rw [hq, zi_pI _ _ _ _ hz]
  by_cases q : r' = r ∧ j' = j
  · obtain ⟨rfl, rfl⟩ := q
    rw [updL_at]
    exact ⟨fun w => absurd w.1 h5, fun _ => by rw [if_pos ⟨rfl, rfl⟩]⟩
  · rw [updL_ne _ _ _ _ q]
    refine ⟨(h r' j' hr2).1, fun w => ?_⟩
    rw [if_neg (fun w2 => q (mpos_inj hn hr2 hr w2.2))]
    exact (h r' j' hr2).2 w
/-! leaves -/
theorem lc_lt (x y : Int64) : lg_cmp x y < 0 ↔ x < y := lg_cmp_lt x y
theorem lc_gt (x y : Int64) : 0 < lg_cmp x y ↔ y < x := lg_cmp_gt x y
theorem ev_in {d : Nat} (S : ZSt) (v lo hi : Int64) : zEv d mX7_in [.long v, .long lo, .long hi] S (zX (some (.int (b01 (lo.toInt ≤ v.toInt ∧ v.toInt ≤ hi.toInt)))) S) := by
  refine zEv.of cw_X7_in (Nat.le_of_ble_eq_true rfl) rfl (blk_X7_in_0 ⟨fun c => ?_, fun c => ⟨fun c2 => ?_, fun c2 => ?_⟩⟩)
  · rw [lc_lt, Int64.lt_iff_toInt_lt] at c
    rw [b01_f (by omega)]; exact ⟨rfl, rfl⟩
  · rw [lc_lt, Int64.lt_iff_toInt_lt] at c
    rw [lc_gt, Int64.lt_iff_toInt_lt] at c2
    rw [b01_f (by omega)]; exact ⟨rfl, rfl⟩
  · rw [lc_lt, Int64.lt_iff_toInt_lt] at c
    rw [lc_gt, Int64.lt_iff_toInt_lt] at c2
    rw [b01_p (by omega)]; exact ⟨rfl, rfl⟩
/-- the ints that are asked, with bounds lo and hi -/
theorem ev_inI {d : Nat} (S : ZSt) (v : Int32) (lo hi : Int64) (a b : Int) (ha : lo.toInt = a) (hb : hi.toInt = b) : zEv d mX7_in [.long v.toInt64, .long lo, .long hi] S (zX (some (.int (b01 (a ≤ v.toInt ∧ v.toInt ≤ b)))) S) := by
  have h := ev_in (d := d) S v.toInt64 lo hi
  rw [ha, hb, Int32.toInt_toInt64] at h
  exact h
theorem ev_flag {d : Nat} (S : ZSt) (p : Prop) [Decidable p] : zEv d mX7_flag [.int (b01 p)] S (zX (some (.int (b01 p))) S) := by
  refine zEv.of cw_X7_flag (Nat.le_of_ble_eq_true rfl) rfl (blk_X7_flag_0 ⟨fun c => zXi c.symm, fun c => zXi ?_⟩)
  rw [b01_p (b01_n.mp c)]
theorem ev_within7 {d : Nat} (S : ZSt) (v m : Int) (hv : inB v) (hm : inB m) : zEv d mX7_within [.int (iv v), .int (iv m)] S (zX (some (.int (iv (clp v m)))) S) := by
  have a : (0 : Int32) ≤ iv v ↔ 0 ≤ v := by rw [k0]; exact iv_le (by unfold inB; omega) hv
  have b : iv v ≤ iv m ↔ v ≤ m := iv_le hv hm
  refine zEv.of cw_X7_within (Nat.le_of_ble_eq_true rfl) rfl (blk_X7_within_0 ⟨fun c => ⟨fun c2 => zXi ?_, fun c2 => zXi ?_⟩, fun c => zXi ?_⟩)
  · have c := a.mp c
    have c2 := b.mp c2
    unfold clp; rw [if_neg (by omega), if_neg (by omega)]
  · have c := a.mp c
    have c2 : ¬ v ≤ m := fun q => c2 (b.mpr q)
    unfold clp; rw [if_neg (by omega), if_pos (by omega)]
  · have c : ¬ 0 ≤ v := fun q => c (a.mpr q)
    unfold clp; rw [if_pos (by omega)]; rfl
theorem ix3 (f w : Nat) : (3 : Int32) * nI f + nI w = nI (3 * f + w) := by rw [show (3 : Int32) = nI 3 from rfl, pk_mul, nI_add]
theorem ix2 (f w : Nat) : (19 : Int32) + 2 * nI f + nI w = nI (19 + 2 * f + w) := by rw [show (2 : Int32) = nI 2 from rfl, show (19 : Int32) = nI 19 from rfl, pk_mul, nI_add, nI_add]
theorem ev_of {d : Nat} (S : ZSt) (f w : Nat) (h : 3 * f + w < 50) : zEv d mX7_of [.ref 57, .int (nI f), .int (nI w)] S (zX (some (.int (gI S 59 (3 * f + w)))) S) := by
  refine zEv.of cw_X7_of (Nat.le_of_ble_eq_true rfl) rfl (blk_X7_of_0 ?_)
  rw [ix3, ix_cl (by omega)]
  exact ⟨ix_in h (by omega), rfl, rfl⟩
theorem ev_becomesOf {d : Nat} (S : ZSt) (f w : Nat) (x : Int32) (h : 3 * f + w < 50) : zEv d mX7_becomesOf [.ref 57, .int (nI f), .int (nI w), .int x] S (zY none (fun S' => S' = pI S 59 (3 * f + w) x)) := by
  refine zEv.of cw_X7_becomesOf (Nat.le_of_ble_eq_true rfl) rfl (blk_X7_becomesOf_0 ?_)
  rw [ix3, ix_cl (by omega)]
  exact ⟨ix_in h (by omega), rfl, rfl⟩
theorem ev_ofBand {d : Nat} (S : ZSt) (f w : Nat) (h : 19 + 2 * f + w < 50) : zEv d mX7_ofBand [.ref 57, .int (nI f), .int (nI w)] S (zX (some (.int (gI S 59 (19 + 2 * f + w)))) S) := by
  refine zEv.of cw_X7_ofBand (Nat.le_of_ble_eq_true rfl) rfl (blk_X7_ofBand_0 ?_)
  rw [ix2, ix_cl (by omega)]
  exact ⟨ix_in h (by omega), rfl, rfl⟩
theorem ev_bandBecomes {d : Nat} (S : ZSt) (f w : Nat) (x : Int32) (h : 19 + 2 * f + w < 50) : zEv d mX7_bandBecomes [.ref 57, .int (nI f), .int (nI w), .int x] S (zY none (fun S' => S' = pI S 59 (19 + 2 * f + w) x)) := by
  refine zEv.of cw_X7_bandBecomes (Nat.le_of_ble_eq_true rfl) rfl (blk_X7_bandBecomes_0 ?_)
  rw [ix2, ix_cl (by omega)]
  exact ⟨ix_in h (by omega), rfl, rfl⟩
theorem HoN.g1 {S : ZSt} {L : Lnd} (h : HoN S L) {f : Nat} (hf : f < nF L) : gI S 59 (3 * f + 0) = iv (L 1 f) ∧ gI S 59 (3 * f + 1) = iv (L 2 f) ∧ gI S 59 (3 * f + 2) = iv (L 3 f) := by
  have a := h.g (inR_f (r := 1) (by omega) hf) (by omega)
  have b := h.g (inR_f (r := 2) (by omega) hf) (by omega)
  have c := h.g (inR_f (r := 3) (by omega) hf) (by omega)
  rw [mpos_f (by omega)] at a b c
  exact ⟨a, b, c⟩
theorem HoN.s {S : ZSt} {L : Lnd} (h : HoN S L) : gI S 59 18 = iv (L 0 8) ∧ gI S 59 27 = iv (L 0 9) ∧ gI S 59 31 = iv (L 0 10) ∧ gI S 59 28 = iv (L 0 11) ∧ gI S 59 29 = iv (L 0 12) ∧ gI S 59 30 = iv (L 0 13) :=
  ⟨h.g (r := 0) (j := 8) (inR_0 (by omega)) (by omega), h.g (r := 0) (j := 9) (inR_0 (by omega)) (by omega), h.g (r := 0) (j := 10) (inR_0 (by omega)) (by omega), h.g (r := 0) (j := 11) (inR_0 (by omega)) (by omega), h.g (r := 0) (j := 12) (inR_0 (by omega)) (by omega), h.g (r := 0) (j := 13) (inR_0 (by omega)) (by omega)⟩
theorem ev_heardAt7 {d : Nat} (hdp : 1 ≤ d) {S : ZSt} {L : Lnd} (h : HoN S L) (hW : WF L) (f : Int) (hf : inB f) : zEv d mX7_heardAt [.ref 57, .int (iv f)] S (zX (some (.int (iv (hdL L f)))) S) := by
  obtain ⟨d, rfl⟩ : ∃ d', d = d' + 1 := ⟨d - 1, by omega⟩
  have hn := hW.nB.1
  have g27 : gI S 59 27 = nI (nB L) := by rw [h.s.2.1, hW.nB.2, nI_iv]
  refine zEv.of cw_X7_heardAt (Nat.le_of_ble_eq_true rfl) rfl (blk_X7_heardAt_0 ?_)
  have key : ∀ (m j : Nat), j + m = nB L → zSem (d + 1) mX7_heardAt 4 [some (.ref 57), some (.int (iv f)), some (.int (iv (hd L f j))), some (.int (nI j))] [] S (zX (some (.int (iv (hdL L f)))) S) := by
    intro m
    induction m with
    | zero =>
      intro j hj
      refine blk_X7_heardAt_4 ⟨fun c => ?_, fun c => ?_⟩
      · obtain rfl : j = nB L := by omega
        exact ⟨rfl, rfl⟩
      · rw [g27] at c
        exact absurd (nI_le (by omega) (by omega)) c
    | succ m ih =>
      intro j hj
      have hj2 : j < nB L := by omega
      have w1 := hW.1
      have w4 := (hW.b hj2).1
      have h4 := h.g (inR_b (r := 4) (by omega) hj2) (by omega)
      have h5 := h 5 j (inR_b (r := 5) (by omega) hj2)
      rw [mpos_b (by omega)] at h4 h5
      have hq : nI j = gI S 57 14 ↔ (j : Int) = zi S 57 14 := by
        rw [nI_iv, gI_zi]; exact iv_eq (by unfold inB; omega) (zi_inB _ _ _)
      have nx := ih (j + 1) (by omega)
      rw [hd] at nx
      refine blk_X7_heardAt_4 ⟨fun c => ?_, fun c => ⟨fun c2 => ?_, fun c2 => ⟨_, S, ev_ofBand S j 0 (by omega), fun c3 => ?_, fun c3 => ⟨_, S, ev_ofBand S j 1 (by omega), ?_⟩⟩⟩⟩
      · rw [g27] at c
        exact absurd c (nI_ge (by omega) (by omega))
      · have e5 := h5.1 ⟨rfl, hq.mp c2⟩
        rw [e5, ite_self] at nx
        rw [nI_1, k0, iv_add]
        exact nx
      · rw [show 19 + 2 * j + 0 = 19 + 2 * j + (4 - 4) from rfl, h4, iv_eq (by unfold inB; omega) hf] at c3
        rw [if_neg c3] at nx
        rw [nI_1, k0, iv_add]
        exact nx
      · rw [show 19 + 2 * j + 0 = 19 + 2 * j + (4 - 4) from rfl, h4, iv_eq (by unfold inB; omega) hf] at c3
        rw [if_pos c3] at nx
        have e5 := h5.2 (fun q => c2 (hq.mpr q.2))
        rw [nI_1, show 19 + 2 * j + 1 = 19 + 2 * j + (5 - 4) from rfl, gI_zi, e5, iv_add]
        exact nx
  exact key (nB L) 0 (by omega)
theorem ev_heardAt7N {d : Nat} (hd : 1 ≤ d) {S : ZSt} {L : Lnd} (h : HoN S L) (hW : WF L) (f : Nat) (hf : f < 1000) : zEv d mX7_heardAt [.ref 57, .int (nI f)] S (zX (some (.int (iv (hdL L f)))) S) := by
  rw [nI_iv]; exact ev_heardAt7 hd h hW f (sm_f hf)
theorem ev_growsBy {d : Nat} (hd : 2 ≤ d) {S : ZSt} {L : Lnd} (h : HoN S L) (hW : WF L) (f : Nat) (hf : f < nF L) : zEv d mX7_growsBy [.ref 57, .int (nI f)] S (zX (some (.int (iv (gro (L 1 f) (hdL L f - L 3 f))))) S) := by
  obtain ⟨d, rfl⟩ : ∃ d', d = d' + 1 := ⟨d - 1, by omega⟩
  have hn := hW.nF.1
  have w := hW.f hf
  have hh := hdL_in hW f
  obtain ⟨a, b, c⟩ := h.g1 hf
  have e1 : ∀ c, inB c → (iv (L 1 f) = iv c ↔ L 1 f = c) := fun c hc => iv_eq (by unfold inB; omega) hc
  have l0 : iv (hdL L f - L 3 f) ≤ 0 ↔ hdL L f - L 3 f ≤ 0 := by rw [k0]; exact iv_le (by unfold inB; omega) (by unfold inB; omega)
  refine zEv.of cw_X7_growsBy (Nat.le_of_ble_eq_true rfl) rfl (blk_X7_growsBy_0 ⟨_, S, ev_heardAt7N (by omega) h hW f (by omega), _, S, ev_of S f 2 (by omega), _, S, ev_of S f 0 (by omega), ?_⟩)
  rw [a, c, iv_sub]
  refine ⟨fun q => ?_, fun q => ⟨fun q2 => ?_, fun q2 => ?_⟩, fun q => ⟨fun q2 => ?_, fun q2 => ?_⟩, fun q => ?_⟩
  · have q := (e1 1 (by unfold inB; omega)).mp q
    exact zXi (by rw [k2, iv_mul]; unfold gro; rw [if_pos q])
  · have q := (e1 2 (by unfold inB; omega)).mp q
    have q2 := l0.mp q2
    exact zXi (by unfold gro; rw [if_neg (by omega), if_pos q, if_neg (by omega)])
  · have q := (e1 2 (by unfold inB; omega)).mp q
    have q2 : ¬ hdL L f - L 3 f ≤ 0 := fun z => q2 (l0.mpr z)
    exact zXi (by unfold gro; rw [if_neg (by omega), if_pos q, if_pos (by omega), k2, iv_div (by omega) (by omega)])
  · have q := (e1 3 (by unfold inB; omega)).mp q
    have q2 := l0.mp q2
    exact zXi (by unfold gro; rw [if_neg (by omega), if_neg (by omega), if_pos q, if_neg (by omega)])
  · have q := (e1 3 (by unfold inB; omega)).mp q
    have q2 : ¬ hdL L f - L 3 f ≤ 0 := fun z => q2 (l0.mpr z)
    exact zXi (by unfold gro; rw [if_neg (by omega), if_neg (by omega), if_pos q, if_pos (by omega)]; rfl)
  · rw [iv_toInt (by unfold inB; omega)] at q
    exact zXi (by unfold gro; rw [if_neg (by omega), if_neg (by omega), if_neg (by omega)])
theorem ev_heeds {d : Nat} (hd : 1 ≤ d) {S : ZSt} {L : Lnd} (h : HoN S L) (hW : WF L) (f : Nat) (hf : f < nF L) : zEv d mX7_heeds [.ref 57, .int (nI f)] S (zX (some (.int (iv (hee (L 1 f))))) S) := by
  obtain ⟨d, rfl⟩ : ∃ d', d = d' + 1 := ⟨d - 1, by omega⟩
  have hn := hW.nF.1
  have w := hW.f hf
  have e1 : ∀ c, inB c → (iv (L 1 f) = iv c ↔ L 1 f = c) := fun c hc => iv_eq (by unfold inB; omega) hc
  refine zEv.of cw_X7_heeds (Nat.le_of_ble_eq_true rfl) rfl (blk_X7_heeds_0 ⟨_, S, ev_of S f 0 (by omega), ?_⟩)
  rw [(h.g1 hf).1]
  refine ⟨fun q => ⟨fun q2 => zXi ?_, fun q2 => zXi ?_⟩, fun q => zXi ?_⟩
  · have q : ¬ L 1 f = 1 := fun z => q ((e1 1 (by unfold inB; omega)).mpr z)
    have q2 : ¬ L 1 f = 3 := fun z => q2 ((e1 3 (by unfold inB; omega)).mpr z)
    unfold hee; rw [if_neg q, if_neg q2]; rfl
  · have q : ¬ L 1 f = 1 := fun z => q ((e1 1 (by unfold inB; omega)).mpr z)
    have q2 := (e1 3 (by unfold inB; omega)).mp q2
    unfold hee; rw [if_neg q, if_pos q2]; rfl
  · have q := (e1 1 (by unfold inB; omega)).mp q
    unfold hee; rw [if_pos q]; rfl
