/-! WEEKS, COPIES, MORE OF A KIND -/
theorem wk_n {L : Lnd} : nF (wk L) = nF L ∧ nB (wk L) = nB L ∧ nS (wk L) = nS L := by
  unfold wk nF nB nS
  rw [updL_ne _ _ _ _ (by omega), updL_ne _ _ _ _ (by omega), updL_ne _ _ _ _ (by omega)]
  exact wkI_n
theorem wk_13 {L : Lnd} : wk L 0 13 = L 0 13 + 1 := updL_at _ _ _ _
theorem wk_r {L : Lnd} {r : Nat} (h : r ≠ 0 ∧ r ≠ 2 ∧ r ≠ 3) (i : Nat) : wk L r i = L r i := by unfold wk; rw [updL_ne _ _ _ _ (by omega), wkI_r h]
theorem wk_0 {L : Lnd} {i : Nat} (h : i ≠ 12 ∧ i ≠ 13) : wk L 0 i = L 0 i := by unfold wk; rw [updL_ne _ _ _ _ (by omega), wkI_0 h.1]
theorem wk_2 {L : Lnd} {i : Nat} (h : i < nF L) : wk L 2 i = wkE L i := by unfold wk; rw [updL_ne _ _ _ _ (by omega), wkI_2, if_pos h]
theorem wk_3 {L : Lnd} {i : Nat} (h : i < nF L) : wk L 3 i = wkB L i := by unfold wk; rw [updL_ne _ _ _ _ (by omega), wkI_3, if_pos h]
theorem wk_12 {L : Lnd} : wk L 0 12 = shF L (nF L) := by unfold wk; rw [updL_ne _ _ _ _ (by omega), wkI_s]
theorem wk_hd {L : Lnd} (f : Int) : hdL (wk L) f = hdL L f := hdL_eq (fun i => wk_r (by omega) i) (fun i => wk_r (by omega) i) (wk_0 (by omega)) f
theorem wk_WF {L : Lnd} (hW : WF L) : WF (wk L) := by
  have h := wkI_WF hW (nF L)
  have e : ∀ r j, ¬ (r = 0 ∧ j = 13) → wk L r j = wkI L (nF L) r j := fun r j q => updL_ne _ _ _ _ q
  obtain ⟨n1, n2, n3⟩ := wk_n (L := L)
  obtain ⟨m1, m2, m3⟩ := wkI_n (L := L) (j := nF L)
  refine ⟨?_, ?_, ?_, ?_, ?_, ?_, fun f hf => ?_, fun b hb => ?_, fun i hi => ?_⟩
  · rw [e 0 8 (by omega)]; exact h.1
  · rw [e 0 9 (by omega)]; exact h.2.1
  · rw [e 0 10 (by omega)]; exact h.2.2.1
  · rw [e 0 11 (by omega)]; exact h.2.2.2.1
  · rw [e 0 12 (by omega)]; exact h.2.2.2.2.1
  · rw [wk_13]; have := hW.2.2.2.2.2.1; omega
  · rw [e 1 f (by omega), e 2 f (by omega), e 3 f (by omega)]; exact h.f (by rw [m1, ← n1]; exact hf)
  · rw [e 4 b (by omega), e 5 b (by omega), e 0 8 (by omega)]; exact h.b (by rw [m2, ← n2]; exact hb)
  · rw [e 6 i (by omega), e 7 i (by omega), e 8 i (by omega), e 0 8 (by omega)]; exact h.s (by rw [m3, ← n3]; exact hi)
def wks (L : Lnd) : Nat → Lnd
  | 0 => L
  | n + 1 => wks (wk L) n
def fns (L : Lnd) : Nat → Int
  | 0 => 0
  | n + 1 => fnF L (nF L) + fns (wk L) n
theorem wks_WF {L : Lnd} (hW : WF L) : ∀ n, WF (wks L n) := by
  intro n
  induction n generalizing L with
  | zero => exact hW
  | succ n ih => exact ih (wk_WF hW)
theorem wks_n {L : Lnd} : ∀ n, nF (wks L n) = nF L ∧ nB (wks L n) = nB L ∧ nS (wks L n) = nS L := by
  intro n
  induction n generalizing L with
  | zero => exact ⟨rfl, rfl, rfl⟩
  | succ n ih => obtain ⟨a, b, c⟩ := ih (L := wk L); obtain ⟨a', b', c'⟩ := wk_n (L := L); exact ⟨a.trans a', b.trans b', c.trans c'⟩
theorem wks_13 {L : Lnd} : ∀ n, wks L n 0 13 = L 0 13 + n := by
  intro n
  induction n generalizing L with
  | zero => simp [wks]
  | succ n ih => unfold wks; rw [ih, wk_13]; push_cast; omega
theorem wks_r {L : Lnd} {r : Nat} (h : r ≠ 0 ∧ r ≠ 2 ∧ r ≠ 3) (i : Nat) : ∀ n, wks L n r i = L r i := by
  intro n
  induction n generalizing L with
  | zero => rfl
  | succ n ih => unfold wks; rw [ih, wk_r h]
theorem wks_0 {L : Lnd} {i : Nat} (h : i ≠ 12 ∧ i ≠ 13) : ∀ n, wks L n 0 i = L 0 i := by
  intro n
  induction n generalizing L with
  | zero => rfl
  | succ n ih => unfold wks; rw [ih, wk_0 h]
/-- EARS behind n weeks, by the field alone -/
theorem wks_2 {L : Lnd} {f : Nat} (hf : f < nF L) : ∀ n, wks L n 2 f = eI L f (hdL L f) n := by
  intro n
  induction n generalizing L with
  | zero => rfl
  | succ n ih =>
    unfold wks
    rw [ih (by rw [wk_n.1]; exact hf)]
    unfold eI
    rw [wk_r (r := 1) (by omega), wk_2 hf, wk_3 hf, wk_hd]
    rfl
theorem wks_3 {L : Lnd} {f : Nat} (hf : f < nF L) : ∀ n, wks L n 3 f = bB (L 1 f) (L 3 f) (hdL L f) n := by
  intro n
  induction n generalizing L with
  | zero => rfl
  | succ n ih =>
    unfold wks
    rw [ih (by rw [wk_n.1]; exact hf), wk_r (r := 1) (by omega), wk_3 hf, wk_hd]
    rfl
theorem wks_add {L : Lnd} (a : Nat) : ∀ b, wks (wks L a) b = wks L (a + b) := by
  induction a generalizing L with
  | zero => intro b; rw [Nat.zero_add]; rfl
  | succ a ih => intro b; rw [Nat.succ_add]; exact ih (L := wk L) b
theorem ev_passWeeks {d : Nat} (hd : 3 ≤ d) {B : Nat} (hB : zLd B) {S : ZSt} {L : Lnd} (h : HoC S B L) (hW : WF L) (n : Nat) (hn : n < 1000) (hw : L 0 13 ≤ 100000) : zEv d mX2_passWeeks [.ref B, .int (nI n)] S (zY (some (.int (iv (fns L n)))) (fun S' => HoC S' B (wks L n) ∧ Fr (ldP B) S S')) := by
  obtain ⟨d, rfl⟩ : ∃ d', d = d' + 1 := ⟨d - 1, by omega⟩
  refine zEv.of cw_X2_passWeeks (Nat.le_of_ble_eq_true rfl) rfl (blk_X2_passWeeks_0 hB ?_)
  have key : ∀ (m j : Nat) (L1 : Lnd) (S1 : ZSt) (acc : Int), j + m = n → HoC S1 B L1 → WF L1 → L1 0 13 ≤ 100000 + j → Fr (ldP B) S S1 → wks L1 m = wks L n → acc + fns L1 m = fns L n → zSem (d + 1) mX2_passWeeks 4 [some (.ref B), some (.int (nI n)), some (.int (iv acc)), some (.int (nI j))] [] S1 (zY (some (.int (iv (fns L n)))) (fun S' => HoC S' B (wks L n) ∧ Fr (ldP B) S S')) := by
    intro m
    induction m with
    | zero =>
      intro j L1 S1 acc hj h1 W1 b1 f1 e1 e2
      refine blk_X2_passWeeks_4 hB ⟨fun c => ?_, fun c => absurd (nI_le (by omega) (by omega)) c⟩
      rw [fns, Int.add_zero] at e2
      rw [wks] at e1
      rw [← e1, ← e2]
      exact ⟨rfl, h1, f1⟩
    | succ m ih =>
      intro j L1 S1 acc hj h1 W1 b1 f1 e1 e2
      refine blk_X2_passWeeks_4 hB ⟨fun c => absurd c (nI_ge (by omega) (by omega)), fun c => ⟨_, _, ev_passWeek (by omega) hB h1 W1 (by omega), fun S2 k2 => ?_⟩⟩
      rw [iv_add, nI_1]
      exact ih (j + 1) (wk L1) S2 _ (by omega) k2.1 (wk_WF W1) (by rw [wk_13]; push_cast; omega) (f1.tr k2.2) e1 (by rw [← e2, fns]; omega)
  exact key n 0 L S 0 (by omega) h hW (by omega) (Fr.rf _ _) rfl (by omega)
theorem ev_copyFrom {d : Nat} (hd : 1 ≤ d) {B B2 : Nat} (hB : zLd B) (hB2 : zLd B2) (hne : B ≠ B2) {S : ZSt} {L : Lnd} (h : HoC S B2 L) (hW : nF L ≤ 6 ∧ nB L ≤ 4 ∧ nS L ≤ 6) : zEv d mX2_copyFrom [.ref B, .ref B2] S (zY none (fun S' => HoC S' B L ∧ Fr (ldP B) S S')) := by
  obtain ⟨d, rfl⟩ : ∃ d', d = d' + 1 := ⟨d - 1, by omega⟩
  have hap : B2 + 8 < B ∨ B + 8 < B2 := by
    rcases hB with rfl | rfl | rfl | rfl <;> rcases hB2 with rfl | rfl | rfl | rfl <;> omega
  refine zEv.of cw_X2_copyFrom (Nat.le_of_ble_eq_true rfl) rfl (blk_X2_copyFrom_0 hB hB2 ?_)
  intro S1 e1 S2 e2 S3 e3 S4 e4 S5 e5 S6 e6 S7 e7 S8 e8 S9 e9 S10 e10 S11 e11 S12 e12 S13 e13 S14 e14
  refine ⟨rfl, fun r j hr => ?_, ?_⟩
  · show (gI S14 (B + r) j).toInt = L r j
    have hz := h r j hr
    unfold zi at hz
    rw [← hz]
    congr 1
    have hr0 := hr
    unfold inR at hr
    have hr9 : r = 0 ∨ r = 1 ∨ r = 2 ∨ r = 3 ∨ r = 4 ∨ r = 5 ∨ r = 6 ∨ r = 7 ∨ r = 8 := by omega
    rcases hr9 with rfl | rfl | rfl | rfl | rfl | rfl | rfl | rfl | rfl
    · have hj : j = 8 ∨ j = 9 ∨ j = 10 ∨ j = 11 ∨ j = 12 ∨ j = 13 := by omega
      show gI S14 B j = gI S B2 j
      rcases hj with rfl | rfl | rfl | rfl | rfl | rfl
      · rw [e14, gI_pI, if_neg (by omega), e13, gI_pI, if_neg (by omega), e12, gI_pI, if_neg (by omega), e11, gI_pI, if_neg (by omega), e10, gI_pI, if_neg (by omega), e9, gI_pI, if_pos (by omega), e8, gI_cpI, if_neg (by omega), e7, gI_cpI, if_neg (by omega), e6, gI_cpI, if_neg (by omega), e5, gI_cpI, if_neg (by omega), e4, gI_cpI, if_neg (by omega), e3, gI_cpI, if_neg (by omega), e2, gI_cpI, if_neg (by omega), e1, gI_cpI, if_neg (by omega)]
      · rw [e14, gI_pI, if_neg (by omega), e13, gI_pI, if_neg (by omega), e12, gI_pI, if_neg (by omega), e11, gI_pI, if_neg (by omega), e10, gI_pI, if_pos (by omega), e9, gI_pI, if_neg (by omega), e8, gI_cpI, if_neg (by omega), e7, gI_cpI, if_neg (by omega), e6, gI_cpI, if_neg (by omega), e5, gI_cpI, if_neg (by omega), e4, gI_cpI, if_neg (by omega), e3, gI_cpI, if_neg (by omega), e2, gI_cpI, if_neg (by omega), e1, gI_cpI, if_neg (by omega)]
      · rw [e14, gI_pI, if_neg (by omega), e13, gI_pI, if_neg (by omega), e12, gI_pI, if_neg (by omega), e11, gI_pI, if_pos (by omega), e10, gI_pI, if_neg (by omega), e9, gI_pI, if_neg (by omega), e8, gI_cpI, if_neg (by omega), e7, gI_cpI, if_neg (by omega), e6, gI_cpI, if_neg (by omega), e5, gI_cpI, if_neg (by omega), e4, gI_cpI, if_neg (by omega), e3, gI_cpI, if_neg (by omega), e2, gI_cpI, if_neg (by omega), e1, gI_cpI, if_neg (by omega)]
      · rw [e14, gI_pI, if_neg (by omega), e13, gI_pI, if_neg (by omega), e12, gI_pI, if_pos (by omega), e11, gI_pI, if_neg (by omega), e10, gI_pI, if_neg (by omega), e9, gI_pI, if_neg (by omega), e8, gI_cpI, if_neg (by omega), e7, gI_cpI, if_neg (by omega), e6, gI_cpI, if_neg (by omega), e5, gI_cpI, if_neg (by omega), e4, gI_cpI, if_neg (by omega), e3, gI_cpI, if_neg (by omega), e2, gI_cpI, if_neg (by omega), e1, gI_cpI, if_neg (by omega)]
      · rw [e14, gI_pI, if_neg (by omega), e13, gI_pI, if_pos (by omega), e12, gI_pI, if_neg (by omega), e11, gI_pI, if_neg (by omega), e10, gI_pI, if_neg (by omega), e9, gI_pI, if_neg (by omega), e8, gI_cpI, if_neg (by omega), e7, gI_cpI, if_neg (by omega), e6, gI_cpI, if_neg (by omega), e5, gI_cpI, if_neg (by omega), e4, gI_cpI, if_neg (by omega), e3, gI_cpI, if_neg (by omega), e2, gI_cpI, if_neg (by omega), e1, gI_cpI, if_neg (by omega)]
      · rw [e14, gI_pI, if_pos (by omega), e13, gI_pI, if_neg (by omega), e12, gI_pI, if_neg (by omega), e11, gI_pI, if_neg (by omega), e10, gI_pI, if_neg (by omega), e9, gI_pI, if_neg (by omega), e8, gI_cpI, if_neg (by omega), e7, gI_cpI, if_neg (by omega), e6, gI_cpI, if_neg (by omega), e5, gI_cpI, if_neg (by omega), e4, gI_cpI, if_neg (by omega), e3, gI_cpI, if_neg (by omega), e2, gI_cpI, if_neg (by omega), e1, gI_cpI, if_neg (by omega)]
    · rw [e14, gI_pI, if_neg (by omega), e13, gI_pI, if_neg (by omega), e12, gI_pI, if_neg (by omega), e11, gI_pI, if_neg (by omega), e10, gI_pI, if_neg (by omega), e9, gI_pI, if_neg (by omega), e8, gI_cpI, if_neg (by omega), e7, gI_cpI, if_neg (by omega), e6, gI_cpI, if_neg (by omega), e5, gI_cpI, if_neg (by omega), e4, gI_cpI, if_neg (by omega), e3, gI_cpI, if_neg (by omega), e2, gI_cpI, if_neg (by omega), e1, gI_cpI, if_pos (by omega), Nat.sub_zero, Nat.zero_add]
    · rw [e14, gI_pI, if_neg (by omega), e13, gI_pI, if_neg (by omega), e12, gI_pI, if_neg (by omega), e11, gI_pI, if_neg (by omega), e10, gI_pI, if_neg (by omega), e9, gI_pI, if_neg (by omega), e8, gI_cpI, if_neg (by omega), e7, gI_cpI, if_neg (by omega), e6, gI_cpI, if_neg (by omega), e5, gI_cpI, if_neg (by omega), e4, gI_cpI, if_neg (by omega), e3, gI_cpI, if_neg (by omega), e2, gI_cpI, if_pos (by omega), e1, gI_cpI, if_neg (by omega), Nat.sub_zero, Nat.zero_add]
    · rw [e14, gI_pI, if_neg (by omega), e13, gI_pI, if_neg (by omega), e12, gI_pI, if_neg (by omega), e11, gI_pI, if_neg (by omega), e10, gI_pI, if_neg (by omega), e9, gI_pI, if_neg (by omega), e8, gI_cpI, if_neg (by omega), e7, gI_cpI, if_neg (by omega), e6, gI_cpI, if_neg (by omega), e5, gI_cpI, if_neg (by omega), e4, gI_cpI, if_neg (by omega), e3, gI_cpI, if_pos (by omega), e2, gI_cpI, if_neg (by omega), e1, gI_cpI, if_neg (by omega), Nat.sub_zero, Nat.zero_add]
    · rw [e14, gI_pI, if_neg (by omega), e13, gI_pI, if_neg (by omega), e12, gI_pI, if_neg (by omega), e11, gI_pI, if_neg (by omega), e10, gI_pI, if_neg (by omega), e9, gI_pI, if_neg (by omega), e8, gI_cpI, if_neg (by omega), e7, gI_cpI, if_neg (by omega), e6, gI_cpI, if_neg (by omega), e5, gI_cpI, if_neg (by omega), e4, gI_cpI, if_pos (by omega), e3, gI_cpI, if_neg (by omega), e2, gI_cpI, if_neg (by omega), e1, gI_cpI, if_neg (by omega), Nat.sub_zero, Nat.zero_add]
    · rw [e14, gI_pI, if_neg (by omega), e13, gI_pI, if_neg (by omega), e12, gI_pI, if_neg (by omega), e11, gI_pI, if_neg (by omega), e10, gI_pI, if_neg (by omega), e9, gI_pI, if_neg (by omega), e8, gI_cpI, if_neg (by omega), e7, gI_cpI, if_neg (by omega), e6, gI_cpI, if_neg (by omega), e5, gI_cpI, if_pos (by omega), e4, gI_cpI, if_neg (by omega), e3, gI_cpI, if_neg (by omega), e2, gI_cpI, if_neg (by omega), e1, gI_cpI, if_neg (by omega), Nat.sub_zero, Nat.zero_add]
    · rw [e14, gI_pI, if_neg (by omega), e13, gI_pI, if_neg (by omega), e12, gI_pI, if_neg (by omega), e11, gI_pI, if_neg (by omega), e10, gI_pI, if_neg (by omega), e9, gI_pI, if_neg (by omega), e8, gI_cpI, if_neg (by omega), e7, gI_cpI, if_neg (by omega), e6, gI_cpI, if_pos (by omega), e5, gI_cpI, if_neg (by omega), e4, gI_cpI, if_neg (by omega), e3, gI_cpI, if_neg (by omega), e2, gI_cpI, if_neg (by omega), e1, gI_cpI, if_neg (by omega), Nat.sub_zero, Nat.zero_add]
    · rw [e14, gI_pI, if_neg (by omega), e13, gI_pI, if_neg (by omega), e12, gI_pI, if_neg (by omega), e11, gI_pI, if_neg (by omega), e10, gI_pI, if_neg (by omega), e9, gI_pI, if_neg (by omega), e8, gI_cpI, if_neg (by omega), e7, gI_cpI, if_pos (by omega), e6, gI_cpI, if_neg (by omega), e5, gI_cpI, if_neg (by omega), e4, gI_cpI, if_neg (by omega), e3, gI_cpI, if_neg (by omega), e2, gI_cpI, if_neg (by omega), e1, gI_cpI, if_neg (by omega), Nat.sub_zero, Nat.zero_add]
    · rw [e14, gI_pI, if_neg (by omega), e13, gI_pI, if_neg (by omega), e12, gI_pI, if_neg (by omega), e11, gI_pI, if_neg (by omega), e10, gI_pI, if_neg (by omega), e9, gI_pI, if_neg (by omega), e8, gI_cpI, if_pos (by omega), e7, gI_cpI, if_neg (by omega), e6, gI_cpI, if_neg (by omega), e5, gI_cpI, if_neg (by omega), e4, gI_cpI, if_neg (by omega), e3, gI_cpI, if_neg (by omega), e2, gI_cpI, if_neg (by omega), e1, gI_cpI, if_neg (by omega), Nat.sub_zero, Nat.zero_add]
  · have f0 := Fr.rf (ldP B) S
    have f1 : Fr (ldP B) S S1 := by rw [e1]; exact f0.cpI 6 (fun j => ldP_r (by omega))
    have f2 : Fr (ldP B) S S2 := by rw [e2]; exact f1.cpI 6 (fun j => ldP_r (by omega))
    have f3 : Fr (ldP B) S S3 := by rw [e3]; exact f2.cpI 6 (fun j => ldP_r (by omega))
    have f4 : Fr (ldP B) S S4 := by rw [e4]; exact f3.cpI 4 (fun j => ldP_r (by omega))
    have f5 : Fr (ldP B) S S5 := by rw [e5]; exact f4.cpI 4 (fun j => ldP_r (by omega))
    have f6 : Fr (ldP B) S S6 := by rw [e6]; exact f5.cpI 6 (fun j => ldP_r (by omega))
    have f7 : Fr (ldP B) S S7 := by rw [e7]; exact f6.cpI 6 (fun j => ldP_r (by omega))
    have f8 : Fr (ldP B) S S8 := by rw [e8]; exact f7.cpI 6 (fun j => ldP_r (by omega))
    have f9 : Fr (ldP B) S S9 := by rw [e9]; exact f8.pI _ (ldP_r (r := 0) (by omega))
    have f10 : Fr (ldP B) S S10 := by rw [e10]; exact f9.pI _ (ldP_r (r := 0) (by omega))
    have f11 : Fr (ldP B) S S11 := by rw [e11]; exact f10.pI _ (ldP_r (r := 0) (by omega))
    have f12 : Fr (ldP B) S S12 := by rw [e12]; exact f11.pI _ (ldP_r (r := 0) (by omega))
    have f13 : Fr (ldP B) S S13 := by rw [e13]; exact f12.pI _ (ldP_r (r := 0) (by omega))
    have f14 : Fr (ldP B) S S14 := by rw [e14]; exact f13.pI _ (ldP_r (r := 0) (by omega))
    exact f14
def clL : Lnd := fun r j => if r = 0 ∧ j = 11 then 20 else 0
theorem clL_n : nF clL = 0 ∧ nB clL = 0 ∧ nS clL = 0 := ⟨rfl, rfl, rfl⟩
theorem ev_clear {d : Nat} {B : Nat} (hB : zLd B) (S : ZSt) : zEv d mX2_clear [.ref B] S (zY none (fun S' => HoC S' B clL ∧ Fr (ldP B) S S')) := by
  refine zEv.of cw_X2_clear (Nat.le_of_ble_eq_true rfl) rfl (blk_X2_clear_0 hB ?_)
  intro S1 e1 S2 e2 S3 e3 S4 e4 S5 e5 S6 e6
  refine ⟨rfl, fun r j hr => ?_, ?_⟩
  · unfold inR at hr
    rw [clL_n.1, clL_n.2.1, clL_n.2.2] at hr
    obtain ⟨rfl, hj⟩ : r = 0 ∧ 8 ≤ j ∧ j ≤ 13 := by omega
    have hj : j = 8 ∨ j = 9 ∨ j = 10 ∨ j = 11 ∨ j = 12 ∨ j = 13 := by omega
    show (gI S6 B j).toInt = _
    rw [e6, gI_pI, e5, gI_pI, e4, gI_pI, e3, gI_pI, e2, gI_pI, e1, gI_pI]
    rcases hj with rfl | rfl | rfl | rfl | rfl | rfl <;> simp [clL]
  · have f0 := Fr.rf (ldP B) S
    rw [e6, e5, e4, e3, e2, e1]
    exact (((((f0.pI _ (ldP_r (r := 0) (by omega))).pI _ (ldP_r (r := 0) (by omega))).pI _ (ldP_r (r := 0) (by omega))).pI _ (ldP_r (r := 0) (by omega))).pI _ (ldP_r (r := 0) (by omega))).pI _ (ldP_r (r := 0) (by omega))
/-- one band more -/
def adB (L : Lnd) (f l : Int) : Lnd := fun r j => if r = 0 ∧ j = 9 then L 0 9 + 1 else if r = 4 ∧ j = nB L then f else if r = 5 ∧ j = nB L then l else L r j
theorem ev_addBand {d : Nat} {B : Nat} (hB : zLd B) {S : ZSt} {L : Lnd} (h : HoC S B L) (hn : 0 ≤ L 0 9 ∧ L 0 9 ≤ 4) (f l : Int) (hf : inB f) (hl : inB l) : zEv d mX2_addBand [.ref B, .int (iv f), .int (iv l)] S (zY (some (.int (b01 (L 0 9 < 4)))) (fun S' => HoC S' B (if L 0 9 < 4 then adB L f l else L) ∧ Fr (ldP B) S S')) := by
  have g9 := h.g0 (j := 9) (by omega)
  have c4 : gI S B 9 < 4 ↔ L 0 9 < 4 := by rw [g9, k4]; exact iv_lt (by unfold inB; omega) (by unfold inB; omega)
  refine zEv.of cw_X2_addBand (Nat.le_of_ble_eq_true rfl) rfl (blk_X2_addBand_0 hB ⟨fun c => ?_, fun c => ?_⟩)
  · have c := c4.mp c
    have hN : nB L < 4 := by unfold nB; omega
    have hL9 : L 0 9 = (nB L : Int) := by unfold nB; omega
    have g9' : gI S B 9 = nI (nB L) := by rw [g9, hL9, nI_iv]
    rw [g9', ix_cl (by omega)]
    refine ⟨ix_in hN (by omega), fun S2 e2 => ?_⟩
    have g2 : gI S2 B 9 = nI (nB L) := by rw [e2, gI_pI, if_neg (by omega), g9, hL9, nI_iv]
    rw [g2, ix_cl (by omega)]
    refine ⟨ix_in hN (by omega), fun S3 e3 S4 e4 => ?_⟩
    have g3 : gI S3 B 9 = nI (nB L) := by rw [e3, gI_pI, if_neg (by omega), g2]
    rw [g3, nI_1] at e4
    rw [b01_p c, if_pos c]
    refine ⟨rfl, fun r j hr => ?_, ?_⟩
    · show (gI S4 (B + r) j).toInt = _
      have hn1 : nB (adB L f l) = nB L + 1 := by unfold nB adB; rw [if_pos ⟨rfl, rfl⟩]; omega
      have hn2 : nF (adB L f l) = nF L := by unfold nF adB; rw [if_neg (by omega), if_neg (by omega), if_neg (by omega)]
      have hn3 : nS (adB L f l) = nS L := by unfold nS adB; rw [if_neg (by omega), if_neg (by omega), if_neg (by omega)]
      unfold inR at hr
      rw [hn1, hn2, hn3] at hr
      unfold adB
      by_cases q1 : r = 0 ∧ j = 9
      · rw [e4, gI_pI, if_pos (by omega), if_pos q1, nI_toInt (by omega), hL9]; push_cast; rfl
      · rw [e4, gI_pI, if_neg (by omega), if_neg q1]
        by_cases q2 : r = 4 ∧ j = nB L
        · rw [if_pos q2, e3, gI_pI, if_neg (by omega), e2, gI_pI, if_pos (by omega), iv_toInt hf]
        · rw [if_neg q2]
          by_cases q3 : r = 5 ∧ j = nB L
          · rw [if_pos q3, e3, gI_pI, if_pos (by omega), iv_toInt hl]
          · rw [if_neg q3, e3, gI_pI, if_neg (by omega), e2, gI_pI, if_neg (by omega)]
            exact h r j (by unfold inR; omega)
    · rw [e4, e3, e2]
      exact (((Fr.rf (ldP B) S).pI _ (ldP_r (by omega))).pI _ (ldP_r (by omega))).pI _ (ldP_r (r := 0) (by omega))
  · have c : ¬ L 0 9 < 4 := fun q => c (c4.mpr q)
    rw [b01_f c, if_neg c]
    exact ⟨rfl, h, Fr.rf _ _⟩
/-- one more seen -/
def adS (L : Lnd) (n f v : Int) : Lnd := fun r j => if r = 0 ∧ j = 10 then L 0 10 + 1 else if r = 6 ∧ j = nS L then n else if r = 7 ∧ j = nS L then f else if r = 8 ∧ j = nS L then v else L r j
theorem ev_addSeen {d : Nat} {B : Nat} (hB : zLd B) {S : ZSt} {L : Lnd} (h : HoC S B L) (hn : 0 ≤ L 0 10 ∧ L 0 10 ≤ 6) (n f v : Int) (hn0 : inB n) (hf : inB f) (hl : inB v) : zEv d mX2_addSeen [.ref B, .int (iv n), .int (iv f), .int (iv v)] S (zY (some (.int (b01 (L 0 10 < 6)))) (fun S' => HoC S' B (if L 0 10 < 6 then adS L n f v else L) ∧ Fr (ldP B) S S')) := by
  have g9 := h.g0 (j := 10) (by omega)
  have c4 : gI S B 10 < 6 ↔ L 0 10 < 6 := by rw [g9, k6]; exact iv_lt (by unfold inB; omega) (by unfold inB; omega)
  refine zEv.of cw_X2_addSeen (Nat.le_of_ble_eq_true rfl) rfl (blk_X2_addSeen_0 hB ⟨fun c => ?_, fun c => ?_⟩)
  · have c := c4.mp c
    have hN : nS L < 6 := by unfold nS; omega
    have hL9 : L 0 10 = (nS L : Int) := by unfold nS; omega
    have g9' : gI S B 10 = nI (nS L) := by rw [g9, hL9, nI_iv]
    rw [g9', ix_cl (by omega)]
    refine ⟨ix_in hN (by omega), fun S2 e2 => ?_⟩
    have g2 : gI S2 B 10 = nI (nS L) := by rw [e2, gI_pI, if_neg (by omega), g9, hL9, nI_iv]
    rw [g2, ix_cl (by omega)]
    refine ⟨ix_in hN (by omega), fun S3 e3 => ?_⟩
    have g3 : gI S3 B 10 = nI (nS L) := by rw [e3, gI_pI, if_neg (by omega), g2]
    rw [g3, ix_cl (by omega)]
    refine ⟨ix_in hN (by omega), fun S4 e4 S5 e5 => ?_⟩
    have g4 : gI S4 B 10 = nI (nS L) := by rw [e4, gI_pI, if_neg (by omega), g3]
    rw [g4, nI_1] at e5
    rw [b01_p c, if_pos c]
    refine ⟨rfl, fun r j hr => ?_, ?_⟩
    · show (gI S5 (B + r) j).toInt = _
      have hn1 : nS (adS L n f v) = nS L + 1 := by unfold nS adS; rw [if_pos ⟨rfl, rfl⟩]; omega
      have hn2 : nF (adS L n f v) = nF L := by unfold nF adS; rw [if_neg (by omega), if_neg (by omega), if_neg (by omega), if_neg (by omega)]
      have hn3 : nB (adS L n f v) = nB L := by unfold nB adS; rw [if_neg (by omega), if_neg (by omega), if_neg (by omega), if_neg (by omega)]
      unfold inR at hr
      rw [hn1, hn2, hn3] at hr
      unfold adS
      by_cases q1 : r = 0 ∧ j = 10
      · rw [e5, gI_pI, if_pos (by omega), if_pos q1, nI_toInt (by omega), hL9]; push_cast; rfl
      · rw [e5, gI_pI, if_neg (by omega), if_neg q1]
        by_cases q2 : r = 6 ∧ j = nS L
        · rw [if_pos q2, e4, gI_pI, if_neg (by omega), e3, gI_pI, if_neg (by omega), e2, gI_pI, if_pos (by omega), iv_toInt hn0]
        · rw [if_neg q2]
          by_cases q3 : r = 7 ∧ j = nS L
          · rw [if_pos q3, e4, gI_pI, if_neg (by omega), e3, gI_pI, if_pos (by omega), iv_toInt hf]
          · rw [if_neg q3]
            by_cases q4 : r = 8 ∧ j = nS L
            · rw [if_pos q4, e4, gI_pI, if_pos (by omega), iv_toInt hl]
            · rw [if_neg q4, e4, gI_pI, if_neg (by omega), e3, gI_pI, if_neg (by omega), e2, gI_pI, if_neg (by omega)]
              exact h r j (by unfold inR; omega)
    · rw [e5, e4, e3, e2]
      exact ((((Fr.rf (ldP B) S).pI _ (ldP_r (by omega))).pI _ (ldP_r (by omega))).pI _ (ldP_r (by omega))).pI _ (ldP_r (r := 0) (by omega))
  · have c : ¬ L 0 10 < 6 := fun q => c (c4.mpr q)
    rw [b01_f c, if_neg c]
    exact ⟨rfl, h, Fr.rf _ _⟩
