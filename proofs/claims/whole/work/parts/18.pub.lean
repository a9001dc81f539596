/-! THE CALLS: one answer, one new land for both -/
def FrI (P : Nat → Nat → Prop) (S S' : ZSt) : Prop := ∀ k j, ¬ P k j → gI S' k j = gI S k j
def clsP : Nat → Nat → Prop := fun k _ => (1 ≤ k ∧ k ≤ 18) ∨ (41 ≤ k ∧ k ≤ 52)
def modP : Nat → Nat → Prop := fun k i => (k = 58 ∧ i < 50) ∨ k = 59 ∨ k = 61 ∨ (63 ≤ k ∧ k ≤ 65) ∨ k = 69 ∨ (k = 57 ∧ i ≠ 7 ∧ i ≠ 12 ∧ i ≠ 27)
theorem FrI.rf (P : Nat → Nat → Prop) (S : ZSt) : FrI P S S := fun _ _ _ => rfl
theorem FrI.tr {P : Nat → Nat → Prop} {S S1 S2 : ZSt} (h1 : FrI P S S1) (h2 : FrI P S1 S2) : FrI P S S2 := fun k j h => (h2 k j h).trans (h1 k j h)
theorem FrI.pI {P : Nat → Nat → Prop} {S S1 : ZSt} (h : FrI P S S1) {k j : Nat} (x : Int32) (hp : P k j) : FrI P S (pI S1 k j x) := fun k' j' q => by rw [gI_pI, if_neg (fun z => q (by rw [z.1, z.2]; exact hp))]; exact h k' j' q
theorem Fr.I {P P' : Nat → Nat → Prop} {S S1 : ZSt} (h : Fr P S S1) (hp : ∀ k j, P k j → P' k j) : FrI P' S S1 := fun k j q => h.1 k j (fun z => q (hp k j z))
theorem ld1_cls : ∀ k j, ldP 1 k j → clsP k j := fun k j h => by unfold ldP at h; unfold clsP; omega
theorem ld10_cls : ∀ k j, ldP 10 k j → clsP k j := fun k j h => by unfold ldP at h; unfold clsP; omega
theorem md_mod : ∀ k j, mdP k j → modP k j := fun k j h => by unfold mdP at h; unfold modP; omega
theorem st_mod : ∀ k j, stP k j → modP k j := fun k j h => by unfold stP at h; unfold modP; omega
def WFc (L : Lnd) : Prop := WF L ∧ (∀ b, b < nB L → 1 ≤ L 5 b) ∧ L 0 13 ≤ 999
def Cm (m : ZM) (as : List Value) (L : Lnd) (r : Int32) (L' : Lnd) : Prop := ∀ (d : Nat) (S : ZSt), 9 ≤ d → HoC S 1 L → zEv d m (.ref 0 :: as) S (zY (some (.int r)) (fun S' => HoC S' 1 L' ∧ FrI clsP S S'))
def Mm (m : ZM) (as : List Value) (L : Lnd) (r : Int32) (L' : Lnd) : Prop := ∀ (d : Nat) (S : ZSt), 9 ≤ d → HoM S 58 0 L → zEv d m (.ref 57 :: as) S (zY (some (.int r)) (fun S' => HoM S' 58 0 L' ∧ FrI modP S S'))
def Both (mc mm : ZM) (as : List Value) (L : Lnd) : Prop := ∃ (r : Int32) (L' : Lnd), Cm mc as L r L' ∧ Mm mm as L r L' ∧ WFc L'
theorem dsucc {d : Nat} (h : 9 ≤ d) : ∃ d', d = d' + 1 ∧ 8 ≤ d' := ⟨d - 1, by omega, by omega⟩
/-! what is held -/
theorem HoM.g {S : ZSt} {A o : Nat} {L : Lnd} (h : HoM S A o L) {r j : Nat} (hr : inR L r j) : gI S A (o + mpos r j) = iv (L r j) := by rw [gI_zi, h r j hr]
theorem HoM.g0 {S : ZSt} {L : Lnd} (h : HoM S 58 0 L) {r j : Nat} (hr : inR L r j) : gI S 58 (mpos r j) = iv (L r j) := by have := h.g hr; rw [Nat.zero_add] at this; exact this
theorem HoM.s {S : ZSt} {L : Lnd} (h : HoM S 58 0 L) : gI S 58 18 = iv (L 0 8) ∧ gI S 58 27 = iv (L 0 9) ∧ gI S 58 31 = iv (L 0 10) ∧ gI S 58 28 = iv (L 0 11) ∧ gI S 58 29 = iv (L 0 12) ∧ gI S 58 30 = iv (L 0 13) :=
  ⟨h.g0 (r := 0) (j := 8) (inR_0 (by omega)), h.g0 (r := 0) (j := 9) (inR_0 (by omega)), h.g0 (r := 0) (j := 10) (inR_0 (by omega)), h.g0 (r := 0) (j := 11) (inR_0 (by omega)), h.g0 (r := 0) (j := 12) (inR_0 (by omega)), h.g0 (r := 0) (j := 13) (inR_0 (by omega))⟩
theorem HoM.f {S : ZSt} {L : Lnd} (h : HoM S 58 0 L) {f : Nat} (hf : f < nF L) : gI S 58 (3 * f + 0) = iv (L 1 f) ∧ gI S 58 (3 * f + 1) = iv (L 2 f) ∧ gI S 58 (3 * f + 2) = iv (L 3 f) := by
  have a := h.g0 (inR_f (r := 1) (by omega) hf)
  have b := h.g0 (inR_f (r := 2) (by omega) hf)
  have c := h.g0 (inR_f (r := 3) (by omega) hf)
  rw [mpos_f (by omega)] at a b c
  exact ⟨a, b, c⟩
theorem HoM.b {S : ZSt} {L : Lnd} (h : HoM S 58 0 L) {b : Nat} (hb : b < nB L) : gI S 58 (19 + 2 * b + 0) = iv (L 4 b) ∧ gI S 58 (19 + 2 * b + 1) = iv (L 5 b) := by
  have a := h.g0 (inR_b (r := 4) (by omega) hb)
  have c := h.g0 (inR_b (r := 5) (by omega) hb)
  rw [mpos_b (by omega)] at a c
  exact ⟨a, c⟩
theorem HoM.put {S : ZSt} {L : Lnd} (h : HoM S 58 0 L) (hn : nF L ≤ 6 ∧ nB L ≤ 4 ∧ nS L ≤ 6) {r j : Nat} {z : Int} (hr : inR L r j) (hz : inB z) (h0 : ¬ (r = 0 ∧ j ≤ 10)) : HoM (pI S 58 (mpos r j) (iv z)) 58 0 (updL L r j z) := by
  have e8 : updL L r j z 0 8 = L 0 8 := updL_ne _ _ _ _ (by omega)
  have e9 : updL L r j z 0 9 = L 0 9 := updL_ne _ _ _ _ (by omega)
  have e10 : updL L r j z 0 10 = L 0 10 := updL_ne _ _ _ _ (by omega)
  intro r' j' hr'
  have hr2 : inR L r' j' := by
    unfold inR nF nB nS at hr' ⊢
    rw [e8, e9, e10] at hr'
    exact hr'
  rw [zi_pI _ _ _ _ hz, Nat.zero_add]
  by_cases q : r' = r ∧ j' = j
  · obtain ⟨rfl, rfl⟩ := q
    rw [updL_at, if_pos ⟨rfl, rfl⟩]
  · rw [updL_ne _ _ _ _ q, if_neg (fun w2 => q (mpos_inj hn hr2 hr w2.2))]
    have := h r' j' hr2
    rw [Nat.zero_add] at this
    exact this
theorem inR_cnt {L : Lnd} {c : Nat} {z : Int} (hc : c = 9 ∨ c = 10) (hz : z ≤ L 0 c) {r j : Nat} (h : inR (updL L 0 c z) r j) : inR L r j := by
  unfold inR nF nB nS updL at h
  unfold inR nF nB nS
  rcases hc with rfl | rfl
  · simp at h; omega
  · simp at h; omega
/-- fewer bands, or fewer seen -/
theorem HoC.cut {S : ZSt} {L : Lnd} (h : HoC S 1 L) {c : Nat} {z : Int} (hc : c = 9 ∨ c = 10) (hz : z ≤ L 0 c) (hb : inB z) : HoC (pI S 1 c (iv z)) 1 (updL L 0 c z) := by
  intro r j hr
  have hr2 := inR_cnt hc hz hr
  rw [zi_pI _ _ _ _ hb]
  by_cases q : r = 0 ∧ j = c
  · obtain ⟨rfl, rfl⟩ := q
    rw [updL_at, if_pos ⟨rfl, rfl⟩]
  · rw [updL_ne _ _ _ _ q, if_neg (by omega)]
    exact h r j hr2
theorem HoM.cut {S : ZSt} {L : Lnd} (h : HoM S 58 0 L) (hn : nF L ≤ 6 ∧ nB L ≤ 4 ∧ nS L ≤ 6) {c : Nat} {z : Int} (hc : c = 9 ∨ c = 10) (hz : z ≤ L 0 c) (hb : inB z) : HoM (pI S 58 (mpos 0 c) (iv z)) 58 0 (updL L 0 c z) := by
  intro r j hr
  have hr2 := inR_cnt hc hz hr
  rw [zi_pI _ _ _ _ hb, Nat.zero_add]
  by_cases q : r = 0 ∧ j = c
  · obtain ⟨rfl, rfl⟩ := q
    rw [updL_at, if_pos ⟨rfl, rfl⟩]
  · rw [updL_ne _ _ _ _ q, if_neg (fun w => q (mpos_inj hn hr2 (inR_0 (by omega)) w.2))]
    have := h r j hr2
    rw [Nat.zero_add] at this
    exact this
/-! who is there -/
theorem toNat_of {v : Int32} {n : Nat} (h0 : 0 ≤ v.toInt) (h1 : v.toInt < n) : ∃ f : Nat, f < n ∧ v = nI f := by
  refine ⟨v.toInt.toNat, by omega, ?_⟩
  rw [nI_iv, Int.toNat_of_nonneg h0, iv_of]
theorem ev_isField {d : Nat} (hd : 1 ≤ d) {S : ZSt} {L : Lnd} (h : HoC S 1 L) (hW : WF L) (v : Int32) : zEv d mX6_isField [.ref 0, .int v] S (zX (some (.int (b01 (0 ≤ v.toInt ∧ v.toInt ≤ L 0 8 - 1)))) S) := by
  obtain ⟨d, rfl⟩ : ∃ d', d = d' + 1 := ⟨d - 1, by omega⟩
  have w := hW.1
  have e := ev_within (d := d) S v 0 (gI S 1 8 - 1)
  rw [h.g0 (by omega), k1, iv_sub, iv_toInt (by unfold inB; omega)] at e
  refine zEv.of cw_X6_isField (Nat.le_of_ble_eq_true rfl) rfl (blk_X6_isField_0 ⟨_, S, by rw [h.g0 (by omega), k1, iv_sub]; exact e, b01_or _, rfl, rfl⟩)
theorem ev_isBand {d : Nat} (hd : 1 ≤ d) {S : ZSt} {L : Lnd} (h : HoC S 1 L) (hW : WF L) (v : Int32) : zEv d mX6_isBand [.ref 0, .int v] S (zX (some (.int (b01 (0 ≤ v.toInt ∧ v.toInt ≤ L 0 9 - 1)))) S) := by
  obtain ⟨d, rfl⟩ : ∃ d', d = d' + 1 := ⟨d - 1, by omega⟩
  have w := hW.2.1
  have e := ev_within (d := d) S v 0 (gI S 1 9 - 1)
  rw [h.g0 (by omega), k1, iv_sub, iv_toInt (by unfold inB; omega)] at e
  refine zEv.of cw_X6_isBand (Nat.le_of_ble_eq_true rfl) rfl (blk_X6_isBand_0 ⟨_, S, by rw [h.g0 (by omega), k1, iv_sub]; exact e, b01_or _, rfl, rfl⟩)
theorem ev_isField7 {d : Nat} (hd : 1 ≤ d) {S : ZSt} {L : Lnd} (h : HoM S 58 0 L) (hW : WF L) (v : Int32) : zEv d mX7_isField [.ref 57, .int v] S (zX (some (.int (b01 (0 ≤ v.toInt ∧ v.toInt ≤ L 0 8 - 1)))) S) := by
  obtain ⟨d, rfl⟩ : ∃ d', d = d' + 1 := ⟨d - 1, by omega⟩
  have w := hW.1
  refine zEv.of cw_X7_isField (Nat.le_of_ble_eq_true rfl) rfl (blk_X7_isField_0 ⟨_, S, ev_inI S v 0 _ 0 _ rfl ?_, b01_or _, rfl, rfl⟩)
  rw [h.s.1, k1, iv_sub, Int32.toInt_toInt64, iv_toInt (by unfold inB; omega)]
theorem ev_isBand7 {d : Nat} (hd : 1 ≤ d) {S : ZSt} {L : Lnd} (h : HoM S 58 0 L) (hW : WF L) (v : Int32) : zEv d mX7_isBand [.ref 57, .int v] S (zX (some (.int (b01 (0 ≤ v.toInt ∧ v.toInt ≤ L 0 9 - 1)))) S) := by
  obtain ⟨d, rfl⟩ : ∃ d', d = d' + 1 := ⟨d - 1, by omega⟩
  have w := hW.2.1
  refine zEv.of cw_X7_isBand (Nat.le_of_ble_eq_true rfl) rfl (blk_X7_isBand_0 ⟨_, S, ev_inI S v 0 _ 0 _ rfl ?_, b01_or _, rfl, rfl⟩)
  rw [h.s.2.1, k1, iv_sub, Int32.toInt_toInt64, iv_toInt (by unfold inB; omega)]
theorem ev_isPart {d : Nat} (hd : 1 ≤ d) (S : ZSt) (v : Int32) : zEv d mX7_isPart [.int v] S (zX (some (.int (b01 (0 ≤ v.toInt ∧ v.toInt ≤ 1)))) S) := by
  obtain ⟨d, rfl⟩ : ∃ d', d = d' + 1 := ⟨d - 1, by omega⟩
  exact zEv.of cw_X7_isPart (Nat.le_of_ble_eq_true rfl) rfl (blk_X7_isPart_0 ⟨_, S, ev_inI S v 0 1 0 1 rfl rfl, b01_or _, rfl, rfl⟩)
theorem ev_areEars {d : Nat} (hd : 1 ≤ d) (S : ZSt) (v : Int32) : zEv d mX7_areEars [.int v] S (zX (some (.int (b01 (0 ≤ v.toInt ∧ v.toInt ≤ 99)))) S) := by
  obtain ⟨d, rfl⟩ : ∃ d', d = d' + 1 := ⟨d - 1, by omega⟩
  exact zEv.of cw_X7_areEars (Nat.le_of_ble_eq_true rfl) rfl (blk_X7_areEars_0 ⟨_, S, ev_inI S v 0 99 0 99 rfl rfl, b01_or _, rfl, rfl⟩)
theorem ev_isFar {d : Nat} (hd : 1 ≤ d) (S : ZSt) (v : Int32) : zEv d mX7_isFar [.int v] S (zX (some (.int (b01 (0 ≤ v.toInt ∧ v.toInt ≤ 60)))) S) := by
  obtain ⟨d, rfl⟩ : ∃ d', d = d' + 1 := ⟨d - 1, by omega⟩
  exact zEv.of cw_X7_isFar (Nat.le_of_ble_eq_true rfl) rfl (blk_X7_isFar_0 ⟨_, S, ev_inI S v 0 60 0 60 rfl rfl, b01_or _, rfl, rfl⟩)
theorem ev_becomes {d : Nat} (S : ZSt) (k : Nat) (hk : k < 150) (x : Int32) : zEv d mX7_becomes [.ref 57, .int (nI k), .int x] S (zY (some (.int (gI S 58 k))) (fun S' => S' = pI S 58 k x)) := by
  refine zEv.of cw_X7_becomes (Nat.le_of_ble_eq_true rfl) rfl (blk_X7_becomes_0 ?_)
  rw [ix_cl (by omega)]
  exact ⟨ix_in hk (by omega), ix_in hk (by omega), rfl, rfl⟩
/-! glut, leave, march, play -/
theorem HoC.putv {S : ZSt} {B : Nat} {L : Lnd} (h : HoC S B L) (r j : Nat) (x : Int32) (hr : ¬ (r = 0 ∧ j ≤ 10)) : HoC (pI S (B + r) j x) B (updL L r j x.toInt) := by
  have := h.put r j (toInt_inB x) hr
  rw [iv_of] at this
  exact this
theorem HoM.putv {S : ZSt} {L : Lnd} (h : HoM S 58 0 L) (hn : nF L ≤ 6 ∧ nB L ≤ 4 ∧ nS L ≤ 6) {r j : Nat} (x : Int32) (hr : inR L r j) (h0 : ¬ (r = 0 ∧ j ≤ 10)) : HoM (pI S 58 (mpos r j) x) 58 0 (updL L r j x.toInt) := by
  have := h.put hn hr (toInt_inB x) h0
  rw [iv_of] at this
  exact this
theorem WF_put {L : Lnd} (h : WF L) {r j : Nat} {z : Int} (h0 : r = 0 → (j = 11 ∧ 1 ≤ z ∧ z ≤ 99) ∨ (j = 12 ∧ 0 ≤ z ∧ z ≤ 999)) (h1 : r = 1 → 0 ≤ z ∧ z ≤ 3) (h2 : r = 2 → 0 ≤ z ∧ z ≤ 99) (h3 : r = 3 → 0 ≤ z ∧ z ≤ 9) (h4 : r = 4 → 0 ≤ z ∧ z < L 0 8) (h5 : r = 5 → 0 ≤ z ∧ z ≤ 9) (hr : r ≤ 5) : WF (updL L r j z) := by
  have e8 : updL L r j z 0 8 = L 0 8 := updL_ne _ _ _ _ (by omega)
  have e9 : updL L r j z 0 9 = L 0 9 := updL_ne _ _ _ _ (by omega)
  have e10 : updL L r j z 0 10 = L 0 10 := updL_ne _ _ _ _ (by omega)
  have e13 : updL L r j z 0 13 = L 0 13 := updL_ne _ _ _ _ (by omega)
  have up : ∀ (a b : Nat) (lo hi : Int), (lo ≤ L a b ∧ L a b ≤ hi) → (r = a → j = b → lo ≤ z ∧ z ≤ hi) → lo ≤ updL L r j z a b ∧ updL L r j z a b ≤ hi := by
    intro a b lo hi q1 q2
    unfold updL
    split
    · next w => exact q2 w.1.symm w.2.symm
    · exact q1
  refine ⟨by rw [e8]; exact h.1, by rw [e9]; exact h.2.1, by rw [e10]; exact h.2.2.1, up 0 11 1 99 h.2.2.2.1 (fun q w => by have := h0 q; omega), up 0 12 0 999 h.2.2.2.2.1 (fun q w => by have := h0 q; omega), by rw [e13]; exact h.2.2.2.2.2.1, fun f hf => ?_, fun b hb => ?_, fun i hi => ?_⟩
  · have w := h.f (f := f) (by unfold nF at hf ⊢; rw [e8] at hf; exact hf)
    exact ⟨up 1 f 0 3 w.1 (fun q _ => h1 q), up 2 f 0 99 w.2.1 (fun q _ => h2 q), up 3 f 0 9 w.2.2 (fun q _ => h3 q)⟩
  · have w := h.b (b := b) (by unfold nB at hb ⊢; rw [e9] at hb; exact hb)
    rw [e8]
    have u4 := up 4 b 0 (L 0 8 - 1) ⟨w.1.1, by omega⟩ (fun q _ => ⟨(h4 q).1, by have := (h4 q).2; omega⟩)
    exact ⟨⟨u4.1, by omega⟩, up 5 b 0 9 w.2 (fun q _ => h5 q)⟩
  · have w := h.s (i := i) (by unfold nS at hi ⊢; rw [e10] at hi; exact hi)
    rw [e8, updL_ne _ _ _ _ (by omega), updL_ne _ _ _ _ (by omega), updL_ne _ _ _ _ (by omega)]
    exact w
theorem WFc_put {L : Lnd} (h : WFc L) {r j : Nat} {z : Int} (h0 : r = 0 → j = 11 ∧ 1 ≤ z ∧ z ≤ 99) (h1 : r = 1 → 0 ≤ z ∧ z ≤ 3) (h2 : r = 2 → 0 ≤ z ∧ z ≤ 99) (h3 : r = 3 → 0 ≤ z ∧ z ≤ 9) (h4 : r = 4 → 0 ≤ z ∧ z < L 0 8) (h5 : r = 5 → 1 ≤ z ∧ z ≤ 9) (hr : r ≤ 5) : WFc (updL L r j z) := by
  have e9 : updL L r j z 0 9 = L 0 9 := updL_ne _ _ _ _ (by omega)
  refine ⟨WF_put h.1 (fun q => Or.inl (h0 q)) h1 h2 h3 h4 (fun q => ⟨by have := (h5 q).1; omega, (h5 q).2⟩) hr, fun b hb => ?_, by rw [updL_ne _ _ _ _ (by omega)]; exact h.2.2⟩
  have w := h.2.1 b (by unfold nB at hb ⊢; rw [e9] at hb; exact hb)
  unfold updL
  split
  · next q => exact (h5 q.1.symm).1
  · exact w
theorem pub_glut {L : Lnd} (h : WFc L) (v : Int32) : Both mX6_glut mX7_glut [.int v] L := by
  by_cases c : (1 : Int) ≤ v.toInt ∧ v.toInt ≤ 99
  · refine ⟨iv (L 0 11), updL L 0 11 v.toInt, fun d S hd hC => ?_, fun d S hd hM => ?_, WFc_put h (fun _ => ⟨rfl, c⟩) (by omega) (by omega) (by omega) (by omega) (by omega) (by omega)⟩
    · obtain ⟨d, rfl, hd⟩ := dsucc hd
      refine zEv.of cw_X6_glut (Nat.le_of_ble_eq_true rfl) rfl (blk_X6_glut_0 ⟨_, S, ev_within S v 1 99, b01_if' (fun _ => ?_) (fun q => absurd c q)⟩)
      rw [hC.g0 (by omega)]
      exact ⟨rfl, hC.putv 0 11 v (by omega), (FrI.rf _ _).pI _ (by unfold clsP; omega)⟩
    · obtain ⟨d, rfl, hd⟩ := dsucc hd
      refine zEv.of cw_X7_glut (Nat.le_of_ble_eq_true rfl) rfl (blk_X7_glut_0 ⟨_, S, ev_inI S v 1 99 1 99 rfl rfl, b01_if (fun q => absurd c q) (fun _ => ⟨_, _, ev_becomes S 28 (by omega) v, ?_⟩)⟩)
      rintro S3 rfl
      exact ⟨by rw [hM.s.2.2.2.1], hM.putv h.1.n (r := 0) (j := 11) v (inR_0 (by omega)) (by omega), (FrI.rf _ _).pI _ (by unfold modP; omega)⟩
  · refine ⟨-1, L, fun d S hd hC => ?_, fun d S hd hM => ?_, h⟩
    · obtain ⟨d, rfl, hd⟩ := dsucc hd
      exact zEv.of cw_X6_glut (Nat.le_of_ble_eq_true rfl) rfl (blk_X6_glut_0 ⟨_, S, ev_within S v 1 99, b01_if' (fun q => absurd q c) (fun _ => ⟨rfl, hC, FrI.rf _ _⟩)⟩)
    · obtain ⟨d, rfl, hd⟩ := dsucc hd
      exact zEv.of cw_X7_glut (Nat.le_of_ble_eq_true rfl) rfl (blk_X7_glut_0 ⟨_, S, ev_inI S v 1 99 1 99 rfl rfl, b01_if (fun _ => ⟨rfl, hM, FrI.rf _ _⟩) (fun q => absurd q c)⟩)
