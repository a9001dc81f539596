/-! takeLine, tellAll, text: the class -/
theorem nI_toI {k : Nat} (h : k < 1000) : (nI k).toInt = (k : Int) := nI_toInt (by omega)
theorem ev_takeLine {d : Nat} (hd : 6 ≤ d) {S : ZSt} {n p : Nat} {tp : Nat → Nat} {L : Lnd} {gt : Bool} (h : TC S n tp) (hw : TW n tp) (hpn : p ≤ n) (h4 : gI S 39 4 = nI (tE tp n p)) (h5 : gI S 39 5 = nI (tK tp n p)) (h6 : gI S 39 6 = nI (sk tp n p)) (h8 : gI S 39 8 = b01 (gt = true)) (hC : HoC S 10 L) (hW : WFd L) : zEv d mX5_takeLine [.ref 39, .ref 10] S (zY (some (.int (b01 ((lnO tp n p L gt).1 = 0)))) (RC S (lnO tp n p L gt))) := by
  obtain ⟨d, rfl⟩ : ∃ d', d = d' + 1 := ⟨d - 1, by omega⟩
  have h160 := hw.1
  have si := sk_in (tp := tp) hpn
  have e1 := tE_in (tp := tp) (n := n) (p := p) hpn
  have kl := tK_le tp n p
  have cl := nmC_le tp (sk tp n p) (tE tp n p)
  refine zEv.of cw_X5_takeLine (Nat.le_of_ble_eq_true rfl) rfl (blk_X5_takeLine_0 ⟨_, _, ev_isToken (d := d) (due := 1) (by omega) h5 h6 kl (by omega) (by omega), fun S1 k1 => b01_if' (fun q0 => ?_) (fun q0 => ?_)⟩)
  · obtain rfl := k1.1 q0
    unfold lnO
    rw [o1_0 q0]
    refine ⟨_, S1, ev_lineBegun (d := d) (by omega) h hw h4 h6 e1.1 e1.2, ?_⟩
    generalize nmC tp (sk tp n p) (tE tp n p) = c at cl ⊢
    have c1000 : c < 1000 := by omega
    unfold coO
    refine ⟨fun q => ?_, fun q => ?_, fun q => ?_, fun q => ?_⟩
    · have q : c = 4 := (nI_eq (b := 4) (by omega) (by omega)).mp q
      rw [if_neg (by omega), if_neg (by omega), if_pos q]
      exact ⟨_, _, ev_takeBand (d := d) (by omega) h hw h4 h6 h8 e1.2 hC hW, fun S5 k5 => ⟨b01_or _, rfl, k5⟩⟩
    · have q : c = 5 := (nI_eq (b := 5) (by omega) (by omega)).mp q
      rw [if_neg (by omega), if_pos q]
      exact ⟨_, _, ev_takeGlut (d := d) (by omega) h hw h4 h6 h8 e1.2 hC, fun S5 k5 => ⟨b01_or _, rfl, k5⟩⟩
    · have q : c = 6 := (nI_eq (b := 6) (by omega) (by omega)).mp q
      rw [if_pos q, h6]
      refine ⟨_, _, ev_refuse S1 2 _, fun S7 k7 => ⟨Or.inl rfl, RC_bad 2 (sk tp n p) ⟨rfl, rfl⟩ (by omega) ?_ ?_⟩⟩
      · rw [k7, gI_pI, if_neg (by omega), gI_pI, if_pos ⟨rfl, rfl⟩, gI_pI, if_pos ⟨rfl, rfl⟩]; exact ⟨rfl, rfl⟩
      · rw [k7]; exact ((FrI.rf _ _).pI _ (by unfold tlP; omega)).pI _ (by unfold tlP; omega)
    · rw [nI_toI c1000] at q
      rw [if_neg (by omega), if_neg (by omega), if_neg (by omega)]
      exact ⟨_, _, ev_takeField (d := d) (by omega) h hw h4 h6 h8 e1.2 hC hW (by omega), fun S8 k8 => ⟨b01_or _, rfl, k8⟩⟩
  · unfold lnO
    exact RC_bad _ _ (o1_n q0) q0 (k1.2.1 q0) (k1.2.2.mono (fun k j z => tk_tl k j (rf_tk k j z)))
/-- all lines: (fault, its place, how many, the land) -/
def alO (tp : Nat → Nat) (n : Nat) : Nat → Nat → Lnd → Bool → Nat → Nat × Nat × Nat × Lnd
  | 0, _, L, _, cnt => (0, 0, cnt, L)
  | m + 1, p, L, gt, cnt => if tK tp n p = 0 then (0, 0, cnt, L) else if (lnO tp n p L gt).1 = 0 then alO tp n m (lnO tp n p L gt).2.2.1 (lnO tp n p L gt).2.2.2.1 (lnO tp n p L gt).2.2.2.2 (cnt + 1) else ((lnO tp n p L gt).1, (lnO tp n p L gt).2.1, cnt, L)
/-- a band at no field -/
def bdN (L : Lnd) : Nat → Bool
  | 0 => false
  | b + 1 => bdN L b || decide (L 0 8 ≤ L 4 b)
theorem bdN_f {L : Lnd} : ∀ k, bdN L k = false → ∀ b, b < k → L 4 b < L 0 8
  | 0, _, b, hb => absurd hb (by omega)
  | k + 1, h, b, hb => by
    rw [bdN, Bool.or_eq_false_iff] at h
    by_cases q : b = k
    · have := of_decide_eq_false h.2
      rw [q]; omega
    · exact bdN_f k h.1 b (by omega)
theorem bdN_t {L : Lnd} : ∀ k b, b < k → L 0 8 ≤ L 4 b → bdN L k = true
  | 0, b, hb, _ => absurd hb (by omega)
  | k + 1, b, hb, h => by
    rw [bdN, Bool.or_eq_true]
    by_cases q : b = k
    · exact Or.inr (decide_eq_true (by rw [← q]; exact h))
    · exact Or.inl (bdN_t k b (by omega) h)
def fiO (n : Nat) (A : Nat × Nat × Nat × Lnd) : Nat × Nat × Nat × Lnd := if A.1 = 0 then (if bdN A.2.2.2 (nB A.2.2.2) = true then (6, n, A.2.2.1, A.2.2.2) else A) else A
def L0 : Lnd := fun r j => if r = 0 ∧ j = 11 then 20 else 0
def txO (tp : Nat → Nat) (n : Nat) : Nat × Nat × Nat × Lnd := fiO n (alO tp n (n + 1) 0 L0 false 0)
theorem L0_WFd : WFd L0 := by
  refine ⟨by decide, by decide, by decide, by decide, by decide, by decide, fun f hf => absurd hf (by show ¬ f < (L0 0 8).toNat; simp [L0]), fun f hf => absurd hf (by show ¬ f < (L0 0 9).toNat; simp [L0])⟩
/-- the draft of a good text is a land -/
theorem alO_W {tp : Nat → Nat} {n : Nat} : ∀ m p L gt cnt, WFd L → p ≤ n → WFd (alO tp n m p L gt cnt).2.2.2 ∧ ((alO tp n m p L gt cnt).2.2.1 ≤ cnt + m)
  | 0, p, L, gt, cnt, h, hp => ⟨h, Nat.le_refl _⟩
  | m + 1, p, L, gt, cnt, h, hp => by
    rw [alO]
    by_cases q : tK tp n p = 0
    · rw [if_pos q]; exact ⟨h, by show cnt ≤ cnt + (m + 1); omega⟩
    · rw [if_neg q]
      by_cases q2 : (lnO tp n p L gt).1 = 0
      · rw [if_pos q2]
        have o := lnO_ok h hp q2
        have := alO_W (tp := tp) (n := n) m (lnO tp n p L gt).2.2.1 (lnO tp n p L gt).2.2.2.1 (lnO tp n p L gt).2.2.2.2 (cnt + 1) o.1 o.2.2.1
        exact ⟨this.1, by omega⟩
      · rw [if_neg q2]; exact ⟨h, by show cnt ≤ cnt + (m + 1); omega⟩
theorem txO_W {tp : Nat → Nat} {n : Nat} (h : (txO tp n).1 = 0) : WFc (txO tp n).2.2.2 := by
  have w := (alO_W (tp := tp) (n := n) (n + 1) 0 L0 false 0 L0_WFd (by omega)).1
  unfold txO at h ⊢
  unfold fiO at h ⊢
  generalize alO tp n (n + 1) 0 L0 false 0 = A at w h ⊢
  by_cases q : A.1 = 0
  · rw [if_pos q] at h ⊢
    by_cases q2 : bdN A.2.2.2 (nB A.2.2.2) = true
    · rw [if_pos q2] at h; exact absurd h (by show ¬ (6 : Nat) = 0; omega)
    · rw [if_neg q2]
      have b := bdN_f _ (Bool.eq_false_iff.mpr q2)
      have s := w.s0
      refine ⟨⟨w.1, w.2.1, by rw [w.2.2.1]; omega, w.2.2.2.1, by rw [w.2.2.2.2.1]; omega, by rw [w.2.2.2.2.2.1]; omega, w.2.2.2.2.2.2.1, fun i hi => ⟨⟨(w.2.2.2.2.2.2.2 i hi).1.1, b i hi⟩, by have := (w.2.2.2.2.2.2.2 i hi).2; omega⟩, fun i hi => absurd hi (by omega)⟩, fun i hi => (w.2.2.2.2.2.2.2 i hi).2.1, by rw [w.2.2.2.2.2.1]; omega⟩
  · rw [if_neg q] at h; exact absurd h q
def TA (S : ZSt) (A : Nat × Nat × Nat × Lnd) : ZSt → Prop := fun S' => (A.1 = 0 → HoC S' 10 A.2.2.2 ∧ gI S' 39 2 = 0) ∧ (A.1 ≠ 0 → gI S' 39 2 = nI A.1 ∧ gI S' 39 3 = nI A.2.1) ∧ FrI tlP S S'
theorem ev_tellAll {d : Nat} (hd : 7 ≤ d) {S : ZSt} {n : Nat} {tp : Nat → Nat} (h : TC S n tp) (hw : TW n tp) : zEv d mX5_tellAll [.ref 39, .ref 10] S (zY (some (.int (if (txO tp n).1 = 0 then nI (txO tp n).2.2.1 else -1))) (TA S (txO tp n))) := by
  obtain ⟨d, rfl⟩ : ∃ d', d = d' + 1 := ⟨d - 1, by omega⟩
  have h160 := hw.1
  -- the bands
  have bands : ∀ (cnt : Nat) (L : Lnd) (S1 : ZSt), WFd L → TC S1 n tp → HoC S1 10 L → gI S1 39 2 = 0 → FrI tlP S S1 → txO tp n = fiO n (0, 0, cnt, L) → zSem (d + 1) mX5_tellAll 66 [some (.ref 39), some (.ref 10), some (.int (nI cnt)), some (.int 0)] [] S1 (zY (some (.int (if (txO tp n).1 = 0 then nI (txO tp n).2.2.1 else -1))) (TA S (txO tp n))) := by
    intro cnt L S1 hW h1 C1 f2 F1 eA
    have w9 := hW.b9
    have w8 := hW.f8
    have g9 : gI S1 10 9 = nI (nB L) := by rw [C1.g0 (by omega), w9.2, nI_iv]
    have g8 : gI S1 10 8 = iv (L 0 8) := C1.g0 (by omega)
    have key : ∀ (m b : Nat), b + m = nB L → (∀ i, i < b → L 4 i < L 0 8) → zSem (d + 1) mX5_tellAll 66 [some (.ref 39), some (.ref 10), some (.int (nI cnt)), some (.int (nI b))] [] S1 (zY (some (.int (if (txO tp n).1 = 0 then nI (txO tp n).2.2.1 else -1))) (TA S (txO tp n))) := by
      intro m
      induction m with
      | zero =>
        intro b hb ok
        obtain rfl : b = nB L := by omega
        have e : txO tp n = (0, 0, cnt, L) := by
          rw [eA]
          unfold fiO
          rw [if_pos rfl, if_neg (fun z => ?_)]
          have : ∀ k, (∀ i, i < k → L 4 i < L 0 8) → bdN L k = false := by
            intro k
            induction k with
            | zero => intro _; rfl
            | succ k ih => intro o; rw [bdN, ih (fun i hi => o i (by omega)), Bool.false_or]; exact decide_eq_false (by have := o k (by omega); omega)
          rw [this _ ok] at z
          exact absurd z (by decide)
        rw [e]
        refine blk_X5_tellAll_66 ?_
        rw [g9]
        exact ⟨fun _ => ⟨rfl, fun _ => ⟨C1, f2⟩, fun z => absurd rfl z, F1⟩, fun z => absurd (nI_le (by omega) (by omega)) z⟩
      | succ m ih =>
        intro b hb ok
        have hb2 : b < nB L := by omega
        have w4 := (hW.2.2.2.2.2.2.2 b hb2).1
        have g4 : gI S1 14 b = iv (L 4 b) := C1.g (r := 4) (inR_b (by omega) hb2)
        refine blk_X5_tellAll_66 ?_
        rw [g9, ix_cl (by omega), g4, g8, iv_lt (by unfold inB; omega) (by unfold inB; omega), nI_1]
        refine ⟨fun z => absurd z (nI_ge (by omega) (by omega)), fun _ => ⟨ix_in (by omega) (by omega), fun z => ih (b + 1) (by omega) (fun i hi => ?_), fun z => ⟨_, _, ev_refuse S1 6 _, fun S3 k3 => ?_⟩⟩⟩
        · by_cases q : i = b
          · rw [q]; exact z
          · exact ok i (by omega)
        · have e : txO tp n = (6, n, cnt, L) := by
            rw [eA]
            unfold fiO
            rw [if_pos rfl, if_pos (bdN_t (L := L) (nB L) b hb2 (by omega))]
          rw [e]
          refine ⟨rfl, fun z => absurd z (by show ¬ (6 : Nat) = 0; omega), fun _ => ?_, ?_⟩
          · rw [k3, gI_pI, if_neg (by omega), gI_pI, if_pos ⟨rfl, rfl⟩, gI_pI, if_pos ⟨rfl, rfl⟩, h1.1]; exact ⟨rfl, rfl⟩
          · rw [k3]; exact (F1.pI _ (by unfold tlP; omega)).pI _ (by unfold tlP; omega)
    exact key (nB L) 0 (by omega) (fun i hi => absurd hi (by omega))
  -- the lines
  have lines : ∀ (m p cnt : Nat) (L : Lnd) (gt : Bool) (S1 : ZSt), n < p + m → p ≤ n → cnt ≤ p → WFd L → TC S1 n tp → HoC S1 10 L → gI S1 39 2 = 0 → gI S1 39 8 = b01 (gt = true) → gI S1 39 4 = nI (tE tp n p) → gI S1 39 5 = nI (tK tp n p) → gI S1 39 6 = nI (sk tp n p) → FrI tlP S S1 → txO tp n = fiO n (alO tp n m p L gt cnt) → zSem (d + 1) mX5_tellAll 30 [some (.ref 39), some (.ref 10), some (.int (nI cnt)), none] [] S1 (zY (some (.int (if (txO tp n).1 = 0 then nI (txO tp n).2.2.1 else -1))) (TA S (txO tp n))) := by
    intro m
    induction m with
    | zero => intro p cnt L gt S1 hm hp; exact absurd hm (by omega)
    | succ m ih =>
      intro p cnt L gt S1 hm hp hc hW h1 C1 a2 a8 a4 a5 a6 F1 eA
      have kl := tK_le tp n p
      rw [alO] at eA
      refine blk_X5_tellAll_30 ?_
      rw [a5]
      refine ⟨fun z => absurd z (nI_nlt (a := 160) (b := cnt) (by omega) (by omega)), fun _ => ⟨fun q => ?_, fun q => ?_⟩⟩
      · have q : tK tp n p = 0 := (nI_eq (b := 0) (by omega) (by omega)).mp q
        rw [if_pos q] at eA
        exact bands cnt L S1 hW h1 C1 a2 F1 eA
      · have q : ¬ tK tp n p = 0 := fun z => q (by rw [z]; rfl)
        rw [if_neg q] at eA
        refine ⟨_, _, ev_takeLine (d := d) (by omega) h1 hw hp a4 a5 a6 a8 C1 hW, fun S3 k3 => b01_if' (fun q2 => ?_) (fun q2 => ?_)⟩
        · rw [if_pos q2] at eA
          have o := lnO_ok hW hp q2
          obtain ⟨b4, bC, b8, b2⟩ := k3.1 q2
          have T3 : TC S3 n tp := h1.fr k3.2.2 (by unfold tlP; omega) (fun j => by unfold tlP; omega)
          refine ⟨_, ev_nextToken (d := d) (by omega) T3 hw b4 o.2.2.1, fun S5 k5 => ?_⟩
          have F5 := k5.2.2.2.2.2
          rw [nI_1]
          refine ih _ (cnt + 1) _ _ S5 (by omega) o.2.2.1 (by omega) o.1 (T3.fr F5 (by unfold ntP; omega) (fun j => by unfold ntP; omega)) (bC.frB F5 (fun r j z => by unfold ntP; omega)) ?_ ?_ k5.1 k5.2.1 k5.2.2.1 ((F1.tr k3.2.2).tr (F5.mono (fun k j z => tk_tl k j (nt_tk k j z)))) eA
          · rw [F5 39 2 (by unfold ntP; omega), b2]; exact a2
          · rw [F5 39 8 (by unfold ntP; omega)]; exact b8
        · rw [if_neg q2] at eA
          have e : txO tp n = ((lnO tp n p L gt).1, (lnO tp n p L gt).2.1, cnt, L) := by rw [eA]; unfold fiO; rw [if_neg q2]
          rw [e]
          refine ⟨?_, fun z => absurd z q2, fun _ => k3.2.1 q2, F1.tr k3.2.2⟩
          rw [if_neg q2]
  refine zEv.of cw_X5_tellAll (Nat.le_of_ble_eq_true rfl) rfl (blk_X5_tellAll_0 ?_)
  have ec : zEv d mX2_clear [.ref 10] S (zY none (fun S' => HoC S' 10 L0 ∧ FrI tlP S S')) := by
    refine zEv.of cw_X2_clear (Nat.le_of_ble_eq_true rfl) rfl (blk_X2_clear_0 zLd_10 (fun S1 e1 S2 e2 S3 e3 S4 e4 S5 e5 S6 e6 => ⟨rfl, fun r j hr => ?_, ?_⟩))
    · have hr : r = 0 ∧ 8 ≤ j ∧ j ≤ 13 := by
        unfold inR nF nB nS at hr
        have a : (L0 0 8).toNat = 0 := by decide
        have b : (L0 0 9).toNat = 0 := by decide
        have c : (L0 0 10).toNat = 0 := by decide
        omega
      obtain ⟨rfl, hj1, hj2⟩ := hr
      unfold zi
      rcases (show j = 8 ∨ j = 9 ∨ j = 10 ∨ j = 11 ∨ j = 12 ∨ j = 13 by omega) with rfl | rfl | rfl | rfl | rfl | rfl
      · rw [e6, gI_pI, if_neg (by omega), e5, gI_pI, if_neg (by omega), e4, gI_pI, if_neg (by omega), e3, gI_pI, if_neg (by omega), e2, gI_pI, if_neg (by omega), e1, gI_pI, if_pos ⟨rfl, rfl⟩]; rfl
      · rw [e6, gI_pI, if_neg (by omega), e5, gI_pI, if_neg (by omega), e4, gI_pI, if_neg (by omega), e3, gI_pI, if_neg (by omega), e2, gI_pI, if_pos ⟨rfl, rfl⟩]; rfl
      · rw [e6, gI_pI, if_neg (by omega), e5, gI_pI, if_neg (by omega), e4, gI_pI, if_neg (by omega), e3, gI_pI, if_pos ⟨rfl, rfl⟩]; rfl
      · rw [e6, gI_pI, if_neg (by omega), e5, gI_pI, if_neg (by omega), e4, gI_pI, if_pos ⟨rfl, rfl⟩]; rfl
      · rw [e6, gI_pI, if_neg (by omega), e5, gI_pI, if_pos ⟨rfl, rfl⟩]; rfl
      · rw [e6, gI_pI, if_pos ⟨rfl, rfl⟩]; rfl
    · rw [e6, e5, e4, e3, e2, e1]
      exact ((((((FrI.rf tlP S).pI (k := 10) _ (by unfold tlP; omega)).pI (k := 10) _ (by unfold tlP; omega)).pI (k := 10) _ (by unfold tlP; omega)).pI (k := 10) _ (by unfold tlP; omega)).pI (k := 10) _ (by unfold tlP; omega)).pI (k := 10) _ (by unfold tlP; omega)
  refine ⟨_, ec, fun S1 k1 S2 e2 S3 e3 S4 e4 S5 e5 => ?_⟩
  have F5 : FrI (fun k j => k = 39 ∧ (j = 2 ∨ j = 3 ∨ j = 4 ∨ j = 8)) S1 S5 := by
    rw [e5, e4, e3, e2]
    exact ((((FrI.rf _ S1).pI (k := 39) (j := 2) _ (by omega)).pI (k := 39) (j := 3) _ (by omega)).pI (k := 39) (j := 4) _ (by omega)).pI (k := 39) (j := 8) _ (by omega)
  have T5 : TC S5 n tp := (h.fr k1.2 (by unfold tlP; omega) (fun j => by unfold tlP; omega)).fr F5 (by omega) (fun j => by omega)
  have C5 : HoC S5 10 L0 := k1.1.frB F5 (fun r j z => by omega)
  have p4 : gI S5 39 4 = nI 0 := by rw [e5, gI_pI, if_neg (by omega), e4, gI_pI, if_pos ⟨rfl, rfl⟩]; rfl
  have p2 : gI S5 39 2 = 0 := by rw [e5, gI_pI, if_neg (by omega), e4, gI_pI, if_neg (by omega), e3, gI_pI, if_neg (by omega), e2, gI_pI, if_pos ⟨rfl, rfl⟩]
  have p8 : gI S5 39 8 = b01 (false = true) := by rw [e5, gI_pI, if_pos ⟨rfl, rfl⟩]; rfl
  refine ⟨_, ev_nextToken (d := d) (by omega) T5 hw p4 (Nat.zero_le n), fun S6 k6 => ?_⟩
  have F6 := k6.2.2.2.2.2
  refine lines (n + 1) 0 0 L0 false S6 (by omega) (by omega) (by omega) L0_WFd (T5.fr F6 (by unfold ntP; omega) (fun j => by unfold ntP; omega)) (C5.frB F6 (fun r j z => by unfold ntP; omega)) ?_ ?_ k6.1 k6.2.1 k6.2.2.1 ((k1.2.tr (F5.mono (fun k j z => by unfold tlP; omega))).tr (F6.mono (fun k j z => tk_tl k j (nt_tk k j z)))) rfl
  · rw [F6 39 2 (by unfold ntP; omega)]; exact p2
  · rw [F6 39 8 (by unfold ntP; omega)]; exact p8
