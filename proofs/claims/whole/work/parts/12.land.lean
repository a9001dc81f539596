/-! THE PURE LAND, and the class's Land that holds it -/
abbrev Lnd : Type := Nat → Nat → Int
def nF (L : Lnd) : Nat := (L 0 8).toNat
def nB (L : Lnd) : Nat := (L 0 9).toNat
def nS (L : Lnd) : Nat := (L 0 10).toNat
def inR (L : Lnd) (r j : Nat) : Prop := (r = 0 ∧ 8 ≤ j ∧ j ≤ 13) ∨ (1 ≤ r ∧ r ≤ 3 ∧ j < nF L) ∨ (4 ≤ r ∧ r ≤ 5 ∧ j < nB L) ∨ (6 ≤ r ∧ r ≤ 8 ∧ j < nS L)
def HoC (S : ZSt) (B : Nat) (L : Lnd) : Prop := ∀ r j, inR L r j → zi S (B + r) j = L r j
def WF (L : Lnd) : Prop :=
  (0 ≤ L 0 8 ∧ L 0 8 ≤ 6) ∧ (0 ≤ L 0 9 ∧ L 0 9 ≤ 4) ∧ (0 ≤ L 0 10 ∧ L 0 10 ≤ 6) ∧ (1 ≤ L 0 11 ∧ L 0 11 ≤ 99) ∧ (0 ≤ L 0 12 ∧ L 0 12 ≤ 999) ∧ (0 ≤ L 0 13) ∧
  (∀ f, f < nF L → (0 ≤ L 1 f ∧ L 1 f ≤ 3) ∧ (0 ≤ L 2 f ∧ L 2 f ≤ 99) ∧ (0 ≤ L 3 f ∧ L 3 f ≤ 9)) ∧
  (∀ b, b < nB L → (0 ≤ L 4 b ∧ L 4 b < L 0 8) ∧ (0 ≤ L 5 b ∧ L 5 b ≤ 9)) ∧
  (∀ i, i < nS L → (0 ≤ L 6 i ∧ L 6 i ≤ 20) ∧ (0 ≤ L 7 i ∧ L 7 i < L 0 8) ∧ (0 ≤ L 8 i ∧ L 8 i ≤ 99))
theorem WF.f {L : Lnd} (h : WF L) {f : Nat} (hf : f < nF L) : (0 ≤ L 1 f ∧ L 1 f ≤ 3) ∧ (0 ≤ L 2 f ∧ L 2 f ≤ 99) ∧ (0 ≤ L 3 f ∧ L 3 f ≤ 9) := h.2.2.2.2.2.2.1 f hf
theorem WF.b {L : Lnd} (h : WF L) {b : Nat} (hb : b < nB L) : (0 ≤ L 4 b ∧ L 4 b < L 0 8) ∧ (0 ≤ L 5 b ∧ L 5 b ≤ 9) := h.2.2.2.2.2.2.2.1 b hb
theorem WF.s {L : Lnd} (h : WF L) {i : Nat} (hi : i < nS L) : (0 ≤ L 6 i ∧ L 6 i ≤ 20) ∧ (0 ≤ L 7 i ∧ L 7 i < L 0 8) ∧ (0 ≤ L 8 i ∧ L 8 i ≤ 99) := h.2.2.2.2.2.2.2.2 i hi
theorem WF.nF {L : Lnd} (h : WF L) : nF L ≤ 6 ∧ L 0 8 = (nF L : Int) := by have := h.1; unfold _root_.Jvm.Pilot.CPraisedFieldsLaw_law_r9335_a42203.nF; omega
theorem WF.nB {L : Lnd} (h : WF L) : nB L ≤ 4 ∧ L 0 9 = (nB L : Int) := by have := h.2.1; unfold _root_.Jvm.Pilot.CPraisedFieldsLaw_law_r9335_a42203.nB; omega
theorem WF.nS {L : Lnd} (h : WF L) : nS L ≤ 6 ∧ L 0 10 = (nS L : Int) := by have := h.2.2.1; unfold _root_.Jvm.Pilot.CPraisedFieldsLaw_law_r9335_a42203.nS; omega
theorem inR_0 {L : Lnd} {j : Nat} (h : 8 ≤ j ∧ j ≤ 13) : inR L 0 j := Or.inl ⟨rfl, h.1, h.2⟩
theorem inR_f {L : Lnd} {r j : Nat} (h : 1 ≤ r ∧ r ≤ 3) (hj : j < nF L) : inR L r j := Or.inr (Or.inl ⟨h.1, h.2, hj⟩)
theorem inR_b {L : Lnd} {r j : Nat} (h : 4 ≤ r ∧ r ≤ 5) (hj : j < nB L) : inR L r j := Or.inr (Or.inr (Or.inl ⟨h.1, h.2, hj⟩))
theorem inR_s {L : Lnd} {r j : Nat} (h : 6 ≤ r ∧ r ≤ 8) (hj : j < nS L) : inR L r j := Or.inr (Or.inr (Or.inr ⟨h.1, h.2, hj⟩))
theorem HoC.g {S : ZSt} {B : Nat} {L : Lnd} (h : HoC S B L) {r j : Nat} (hr : inR L r j) : gI S (B + r) j = iv (L r j) := by rw [gI_zi, h r j hr]
theorem HoC.g0 {S : ZSt} {B : Nat} {L : Lnd} (h : HoC S B L) {j : Nat} (hr : 8 ≤ j ∧ j ≤ 13) : gI S B j = iv (L 0 j) := h.g (r := 0) (inR_0 hr)
theorem HoC.gnF {S : ZSt} {B : Nat} {L : Lnd} (h : HoC S B L) (hW : WF L) : gI S B 8 = nI (nF L) := by rw [h.g0 (by omega), hW.nF.2, nI_iv]
theorem HoC.gnB {S : ZSt} {B : Nat} {L : Lnd} (h : HoC S B L) (hW : WF L) : gI S B 9 = nI (nB L) := by rw [h.g0 (by omega), hW.nB.2, nI_iv]
theorem HoC.gnS {S : ZSt} {B : Nat} {L : Lnd} (h : HoC S B L) (hW : WF L) : gI S B 10 = nI (nS L) := by rw [h.g0 (by omega), hW.nS.2, nI_iv]
/-- which cells may have changed -/
def Fr (P : Nat → Nat → Prop) (S S' : ZSt) : Prop := (∀ k j, ¬ P k j → gI S' k j = gI S k j) ∧ S'.2 = S.2
theorem Fr.rf (P : Nat → Nat → Prop) (S : ZSt) : Fr P S S := ⟨fun _ _ _ => rfl, rfl⟩
theorem Fr.tr {P : Nat → Nat → Prop} {S S1 S2 : ZSt} (h1 : Fr P S S1) (h2 : Fr P S1 S2) : Fr P S S2 := ⟨fun k j h => (h2.1 k j h).trans (h1.1 k j h), h2.2.trans h1.2⟩
theorem Fr.mono {P P' : Nat → Nat → Prop} {S S1 : ZSt} (h : Fr P S S1) (hp : ∀ k j, P k j → P' k j) : Fr P' S S1 := ⟨fun k j q => h.1 k j (fun z => q (hp k j z)), h.2⟩
theorem Fr.pI {P : Nat → Nat → Prop} {S S1 : ZSt} (h : Fr P S S1) {k j : Nat} (x : Int32) (hp : P k j) : Fr P S (pI S1 k j x) := ⟨fun k' j' q => by rw [gI_pI, if_neg (fun z => q (by rw [z.1, z.2]; exact hp))]; exact h.1 k' j' q, h.2⟩
theorem Fr.cpI {P : Nat → Nat → Prop} {S S1 : ZSt} (h : Fr P S S1) {k k' : Nat} (n : Nat) (hp : ∀ j, P k' j) : Fr P S (cpI S1 k k' 0 0 n) := ⟨fun a j q => by rw [gI_cpI, if_neg (fun z => q (by rw [z.1]; exact hp j))]; exact h.1 a j q, h.2⟩
def ldP (B : Nat) : Nat → Nat → Prop := fun k _ => B ≤ k ∧ k ≤ B + 8
theorem HoC.fr {S S' : ZSt} {B : Nat} {L : Lnd} {P : Nat → Nat → Prop} (h : HoC S B L) (hf : Fr P S S') (hp : ∀ r j, r ≤ 8 → ¬ P (B + r) j) : HoC S' B L := by
  intro r j hr
  have : r ≤ 8 := by unfold inR at hr; omega
  unfold zi
  rw [hf.1 _ _ (hp r j this)]
  exact h r j hr
def updL (L : Lnd) (r j : Nat) (z : Int) : Lnd := fun r' j' => if r' = r ∧ j' = j then z else L r' j'
theorem zi_pI (S : ZSt) (k j : Nat) (z : Int) (hz : inB z) (k' j' : Nat) : zi (pI S k j (iv z)) k' j' = if k' = k ∧ j' = j then z else zi S k' j' := by
  unfold zi
  rw [gI_pI]
  split
  · exact iv_toInt hz
  · rfl
theorem HoC.put {S : ZSt} {B : Nat} {L : Lnd} (h : HoC S B L) (r j : Nat) {z : Int} (hz : inB z) (hr : ¬ (r = 0 ∧ j ≤ 10)) : HoC (pI S (B + r) j (iv z)) B (updL L r j z) := by
  intro r' j' hr'
  have e8 : updL L r j z 0 8 = L 0 8 := by unfold updL; rw [if_neg (by omega)]
  have e9 : updL L r j z 0 9 = L 0 9 := by unfold updL; rw [if_neg (by omega)]
  have e10 : updL L r j z 0 10 = L 0 10 := by unfold updL; rw [if_neg (by omega)]
  have hr2 : inR L r' j' := by
    unfold inR nF nB nS at hr' ⊢
    rw [e8, e9, e10] at hr'
    exact hr'
  rw [zi_pI S _ _ z hz]
  unfold updL
  by_cases q : r' = r ∧ j' = j
  · rw [if_pos (by omega), if_pos q]
  · rw [if_neg (by omega), if_neg q]
    exact h r' j' hr2
/-! what is heard -/
def hd (L : Lnd) (f : Int) : Nat → Int
  | 0 => 0
  | b + 1 => hd L f b + (if L 4 b = f then L 5 b else 0)
def hdL (L : Lnd) (f : Int) : Int := hd L f (nB L)
theorem hd_in {L : Lnd} (hW : WF L) (f : Int) : ∀ b, b ≤ nB L → 0 ≤ hd L f b ∧ hd L f b ≤ 9 * b
  | 0, _ => by simp [hd]
  | b + 1, hb => by
    have h1 := hd_in hW f b (by omega)
    have h2 := (hW.b (b := b) (by omega)).2
    unfold hd
    split <;> push_cast <;> omega
theorem hdL_in {L : Lnd} (hW : WF L) (f : Int) : 0 ≤ hdL L f ∧ hdL L f ≤ 36 := by
  have h1 := hd_in hW f (nB L) (Nat.le_refl _)
  have h2 := hW.nB.1
  unfold hdL; omega
theorem ev_heardAt {d : Nat} {B : Nat} (hB : zLd B) {S : ZSt} {L : Lnd} (h : HoC S B L) (hW : WF L) (f : Int) (hf : inB f) : zEv d mX2_heardAt [.ref B, .int (iv f)] S (zX (some (.int (iv (hdL L f)))) S) := by
  refine zEv.of cw_X2_heardAt (Nat.le_of_ble_eq_true rfl) rfl (blk_X2_heardAt_0 hB ?_)
  have hn := hW.nB.1
  have key : ∀ (m j : Nat), j + m = nB L → zSem d mX2_heardAt 4 [some (.ref B), some (.int (iv f)), some (.int (iv (hd L f j))), some (.int (nI j))] [] S (zX (some (.int (iv (hdL L f)))) S) := by
    intro m
    induction m with
    | zero =>
      intro j hj
      refine blk_X2_heardAt_4 hB ⟨fun c => ?_, fun c => ?_⟩
      · obtain rfl : j = nB L := by omega
        exact ⟨rfl, rfl⟩
      · rw [h.gnB hW] at c
        exact absurd (nI_le (by omega) (by omega)) c
    | succ m ih =>
      intro j hj
      have hj2 : j < nB L := by omega
      have g4 := h.g (inR_b (r := 4) (by omega) hj2)
      have g5 := h.g (inR_b (r := 5) (by omega) hj2)
      have h4 := (hW.b hj2).1
      have w1 := hW.1
      refine blk_X2_heardAt_4 hB ⟨fun c => ?_, fun c => ⟨ix_in (by omega) (by omega), fun c2 => ?_, fun c2 => ⟨ix_in (by omega) (by omega), ?_⟩⟩⟩
      · rw [h.gnB hW] at c
        exact absurd c (nI_ge (by omega) (by omega))
      · rw [ix_cl (by omega), g4, iv_eq (by unfold inB; omega) hf] at c2
        have := ih (j + 1) (by omega)
        rw [hd, if_neg c2, Int.add_zero] at this
        rw [nI_1]
        exact this
      · rw [ix_cl (by omega), g4, iv_eq (by unfold inB; omega) hf] at c2
        have := ih (j + 1) (by omega)
        rw [hd, if_pos c2] at this
        rw [nI_1, ix_cl (by omega), g5, iv_add]
        exact this
  exact key (nB L) 0 (by omega)
theorem sm_f {f : Nat} (h : f < 1000) : inB (f : Int) := by unfold inB; omega
theorem ev_heardAtN {d : Nat} {B : Nat} (hB : zLd B) {S : ZSt} {L : Lnd} (h : HoC S B L) (hW : WF L) (f : Nat) (hf : f < 1000) : zEv d mX2_heardAt [.ref B, .int (nI f)] S (zX (some (.int (iv (hdL L f)))) S) := by
  rw [nI_iv]; exact ev_heardAt hB h hW f (sm_f hf)
/-- EARS of field f behind n weeks, if h is heard -/
def eI (L : Lnd) (f : Nat) (h : Int) (n : Nat) : Int := eB (L 1 f) (L 2 f) (L 3 f) h n
theorem eI_in {L : Lnd} (hW : WF L) {f : Nat} (hf : f < nF L) (h : Int) (n : Nat) : 0 ≤ eI L f h n ∧ eI L f h n ≤ 99 := eB_in (hW.f hf).2.1 n
theorem ev_earsIf {d : Nat} (hd : 3 ≤ d) {B : Nat} (hB : zLd B) {S : ZSt} {L : Lnd} (h : HoC S B L) (hW : WF L) (f : Nat) (hf : f < nF L) (x : Int) (hx : -100 ≤ x ∧ x ≤ 100) (n : Nat) (hn : n < 1000) : zEv d mX2_earsIf [.ref B, .int (nI f), .int (iv x), .int (nI n)] S (zX (some (.int (iv (eI L f x n)))) S) := by
  obtain ⟨d, rfl⟩ : ∃ d', d = d' + 1 := ⟨d - 1, by omega⟩
  have hn6 := hW.nF.1
  have w := hW.f hf
  refine zEv.of cw_X2_earsIf (Nat.le_of_ble_eq_true rfl) rfl (blk_X2_earsIf_0 hB ⟨ix_in (by omega) (by omega), ix_in (by omega) (by omega), ix_in (by omega) (by omega), iv (eI L f x n), S, ?_, ⟨rfl, rfl⟩⟩)
  rw [ix_cl (by omega), h.g (inR_f (r := 1) (by omega) hf), h.g (inR_f (r := 2) (by omega) hf), h.g (inR_f (r := 3) (by omega) hf)]
  exact ev_earsBehind (by omega) S _ _ _ x n (by unfold sm; omega) w.2.1 w.2.2 hx hn
theorem ev_gainBy {d : Nat} (hd : 4 ≤ d) {B : Nat} (hB : zLd B) {S : ZSt} {L : Lnd} (h : HoC S B L) (hW : WF L) (f : Nat) (hf : f < nF L) (x : Int) (hx : -40 ≤ x ∧ x ≤ 40) (n : Nat) (hn : n < 1000) : zEv d mX2_gainBy [.ref B, .int (nI f), .int (iv x), .int (nI n)] S (zX (some (.int (iv (eI L f (hdL L f + x) n - eI L f (hdL L f) n)))) S) := by
  obtain ⟨d, rfl⟩ : ∃ d', d = d' + 1 := ⟨d - 1, by omega⟩
  have hn6 := hW.nF.1
  have w := hdL_in hW f
  refine zEv.of cw_X2_gainBy (Nat.le_of_ble_eq_true rfl) rfl (blk_X2_gainBy_0 hB ⟨fun c => ⟨_, S, ev_heardAtN hB h hW f (by omega), _, S, by rw [iv_add]; exact ev_earsIf (by omega) hB h hW f hf _ (by omega) n hn, _, S, ev_earsIf (by omega) hB h hW f hf _ (by omega) n hn, zXi (by rw [iv_sub])⟩, fun c => ?_⟩)
  rw [k0, iv_eq (by unfold inB; omega) (by unfold inB; omega)] at c
  refine zXi ?_
  rw [c, Int.add_zero, Int.sub_self]; rfl
/-- a sum over the first n -/
def sm_ (g : Nat → Int) : Nat → Int
  | 0 => 0
  | n + 1 => sm_ g n + g n
theorem sm_in {g : Nat → Int} {m : Int} (n : Nat) (h : ∀ j, j < n → 0 ≤ g j ∧ g j ≤ m) : 0 ≤ sm_ g n ∧ sm_ g n ≤ m * n := by
  induction n with
  | zero => simp [sm_]
  | succ n ih =>
    have h1 := ih (fun j hj => h j (by omega))
    have h2 := h n (by omega)
    unfold sm_
    push_cast
    rw [Int.mul_add, Int.mul_one]
    omega
theorem sm_congr {g g' : Nat → Int} (n : Nat) (h : ∀ j, j < n → g j = g' j) : sm_ g n = sm_ g' n := by
  induction n with
  | zero => rfl
  | succ n ih => unfold sm_; rw [ih (fun j hj => h j (by omega)), h n (by omega)]
theorem ev_sumOf {d : Nat} {A n : Nat} (hA : zAr A 0 n) (hn : n < 1000) {S : ZSt} {g : Nat → Int} (m : Nat) (hm : m ≤ n) (hg : ∀ j, j < m → gI S A j = iv (g j)) : zEv d mX2_sumOf [.ref A, .int (nI m)] S (zX (some (.int (iv (sm_ g m)))) S) := by
  refine zEv.of cw_X2_sumOf (Nat.le_of_ble_eq_true rfl) rfl (blk_X2_sumOf_0 hA ?_)
  have key : ∀ (q j : Nat), j + q = m → zSem d mX2_sumOf 4 [some (.ref A), some (.int (nI m)), some (.int (iv (sm_ g j))), some (.int (nI j))] [] S (zX (some (.int (iv (sm_ g m)))) S) := by
    intro q
    induction q with
    | zero =>
      intro j hj
      obtain rfl : j = m := by omega
      refine blk_X2_sumOf_4 hA ⟨fun c => ⟨rfl, rfl⟩, fun c => absurd (nI_le (by omega) (by omega)) c⟩
    | succ q ih =>
      intro j hj
      refine blk_X2_sumOf_4 hA ⟨fun c => absurd c (nI_ge (by omega) (by omega)), fun c => ⟨fun c => absurd c (nI_ge (a := j) (b := n) (by omega) (by omega)), fun c => ⟨ix_in (by omega) (by omega), ?_⟩⟩⟩
      rw [ix_cl (by omega), hg j (by omega), iv_add, nI_1]
      exact ih (j + 1) (by omega)
  exact key m 0 (by omega)
theorem ev_allEars {d : Nat} (hd : 1 ≤ d) {B : Nat} (hB : zLd B) {S : ZSt} {L : Lnd} (h : HoC S B L) (hW : WF L) : zEv d mX2_allEars [.ref B] S (zX (some (.int (iv (sm_ (L 2) (nF L))))) S) := by
  obtain ⟨d, rfl⟩ : ∃ d', d = d' + 1 := ⟨d - 1, by omega⟩
  refine zEv.of cw_X2_allEars (Nat.le_of_ble_eq_true rfl) rfl (blk_X2_allEars_0 hB ⟨_, S, ?_, ⟨rfl, rfl⟩⟩)
  rw [h.gnF hW]
  exact ev_sumOf hB.a2 (by omega) _ hW.nF.1 (fun j hj => h.g (inR_f (by omega) hj))
theorem ev_allBlight {d : Nat} (hd : 1 ≤ d) {B : Nat} (hB : zLd B) {S : ZSt} {L : Lnd} (h : HoC S B L) (hW : WF L) : zEv d mX2_allBlight [.ref B] S (zX (some (.int (iv (sm_ (L 3) (nF L))))) S) := by
  obtain ⟨d, rfl⟩ : ∃ d', d = d' + 1 := ⟨d - 1, by omega⟩
  refine zEv.of cw_X2_allBlight (Nat.le_of_ble_eq_true rfl) rfl (blk_X2_allBlight_0 hB ⟨_, S, ?_, ⟨rfl, rfl⟩⟩)
  rw [h.gnF hW]
  exact ev_sumOf hB.a3 (by omega) _ hW.nF.1 (fun j hj => h.g (inR_f (by omega) hj))
theorem ev_allLoud {d : Nat} (hd : 1 ≤ d) {B : Nat} (hB : zLd B) {S : ZSt} {L : Lnd} (h : HoC S B L) (hW : WF L) : zEv d mX2_allLoud [.ref B] S (zX (some (.int (iv (sm_ (L 5) (nB L))))) S) := by
  obtain ⟨d, rfl⟩ : ∃ d', d = d' + 1 := ⟨d - 1, by omega⟩
  refine zEv.of cw_X2_allLoud (Nat.le_of_ble_eq_true rfl) rfl (blk_X2_allLoud_0 hB ⟨_, S, ?_, ⟨rfl, rfl⟩⟩)
  rw [h.gnB hW]
  exact ev_sumOf hB.a5 (by omega) _ hW.nB.1 (fun j hj => h.g (inR_b (by omega) hj))
theorem ev_allEarsBehind {d : Nat} (hd : 4 ≤ d) {B : Nat} (hB : zLd B) {S : ZSt} {L : Lnd} (h : HoC S B L) (hW : WF L) (n : Nat) (hn : n < 1000) : zEv d mX2_allEarsBehind [.ref B, .int (nI n)] S (zX (some (.int (iv (sm_ (fun f => eI L f (hdL L f) n) (nF L))))) S) := by
  obtain ⟨d, rfl⟩ : ∃ d', d = d' + 1 := ⟨d - 1, by omega⟩
  have hn6 := hW.nF.1
  refine zEv.of cw_X2_allEarsBehind (Nat.le_of_ble_eq_true rfl) rfl (blk_X2_allEarsBehind_0 hB ?_)
  have key : ∀ (q j : Nat), j + q = nF L → zSem (d + 1) mX2_allEarsBehind 4 [some (.ref B), some (.int (nI n)), some (.int (iv (sm_ (fun f => eI L f (hdL L f) n) j))), some (.int (nI j))] [] S (zX (some (.int (iv (sm_ (fun f => eI L f (hdL L f) n) (nF L))))) S) := by
    intro q
    induction q with
    | zero =>
      intro j hj
      obtain rfl : j = nF L := by omega
      refine blk_X2_allEarsBehind_4 hB ⟨fun c => ⟨rfl, rfl⟩, fun c => ?_⟩
      rw [h.gnF hW] at c
      exact absurd (nI_le (by omega) (by omega)) c
    | succ q ih =>
      intro j hj
      have w := hdL_in hW j
      refine blk_X2_allEarsBehind_4 hB ⟨fun c => ?_, fun c => ⟨_, S, ev_heardAtN hB h hW j (by omega), _, S, ev_earsIf (by omega) hB h hW j (by omega) _ (by omega) n hn, ?_⟩⟩
      · rw [h.gnF hW] at c
        exact absurd c (nI_ge (by omega) (by omega))
      · rw [iv_add, nI_1]
        exact ih (j + 1) (by omega)
  exact key (nF L) 0 (by omega)
