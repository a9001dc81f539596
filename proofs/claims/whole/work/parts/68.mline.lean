/-! THE DRAFT of the reference -/
theorem inR_adB {L : Lnd} {f l : Int} (h : 0 ≤ L 0 9) {r j : Nat} (hr : inR (adB L f l) r j) : inR L r j ∨ ((r = 4 ∨ r = 5) ∧ j = nB L) := by
  obtain ⟨n1, n2, n3⟩ := adB_n (L := L) (f := f) (l := l) h
  unfold inR at hr ⊢
  rw [n1, n2, n3] at hr
  omega
theorem HoM61_B {S S' : ZSt} {L : Lnd} (h : HoM S 61 0 L) (hW : WFd L) (hn : nB L < 4) (x y : Nat) (hx : x < 1000) (hy : y < 1000) (e1 : gI S' 61 (19 + 2 * nB L + 0) = nI x) (e2 : gI S' 61 (19 + 2 * nB L + 1) = nI y) (e3 : gI S' 61 27 = nI (nB L + 1)) (eo : ∀ q, q ≠ 19 + 2 * nB L + 0 → q ≠ 19 + 2 * nB L + 1 → q ≠ 27 → gI S' 61 q = gI S 61 q) : HoM S' 61 0 (adB L x y) := by
  obtain ⟨n1, n2, n3⟩ := adB_n (L := L) (f := x) (l := y) hW.2.1.1
  have w8 := hW.f8
  have w9 := hW.b9
  have hb : nF (adB L x y) ≤ 6 ∧ nB (adB L x y) ≤ 4 ∧ nS (adB L x y) ≤ 6 := by rw [n1, n2, n3, hW.s0]; omega
  have p4 : mpos 4 (nB L) = 19 + 2 * nB L + 0 := mpos_b (by omega)
  have p5 : mpos 5 (nB L) = 19 + 2 * nB L + 1 := mpos_b (by omega)
  have i4 : inR (adB L x y) 4 (nB L) := inR_b (by omega) (by omega)
  have i5 : inR (adB L x y) 5 (nB L) := inR_b (by omega) (by omega)
  have i9 : inR (adB L x y) 0 9 := inR_0 (by omega)
  intro r j hr
  unfold zi
  rw [Nat.zero_add]
  by_cases q1 : r = 0 ∧ j = 9
  · obtain ⟨rfl, rfl⟩ := q1
    rw [show mpos 0 9 = 27 from rfl, e3, nI_toInt (by omega)]
    unfold adB
    rw [if_pos ⟨rfl, rfl⟩, w9.2]; push_cast; rfl
  · by_cases q2 : r = 4 ∧ j = nB L
    · obtain ⟨rfl, rfl⟩ := q2
      rw [p4, e1, nI_toInt (by omega)]
      unfold adB
      rw [if_neg (by omega), if_pos ⟨rfl, rfl⟩]
    · by_cases q3 : r = 5 ∧ j = nB L
      · obtain ⟨rfl, rfl⟩ := q3
        rw [p5, e2, nI_toInt (by omega)]
        unfold adB
        rw [if_neg (by omega), if_neg (by omega), if_pos ⟨rfl, rfl⟩]
      · rw [eo _ (fun z => q2 (mpos_inj hb hr i4 (z.trans p4.symm))) (fun z => q3 (mpos_inj hb hr i5 (z.trans p5.symm))) (fun z => q1 (mpos_inj hb hr i9 z))]
        have hr2 : inR L r j := by
          rcases inR_adB hW.2.1.1 hr with z | z
          · exact z
          · omega
        have := h r j hr2
        unfold zi at this
        rw [Nat.zero_add] at this
        rw [this]
        unfold adB
        rw [if_neg q1, if_neg q2, if_neg q3]
theorem HoM61_F {S S' : ZSt} {L : Lnd} (h : HoM S 61 0 L) (hW : WFd L) (hn : nF L < 6) (c x y : Nat) (hc : c < 1000) (hx : x < 1000) (hy : y < 1000) (e0 : gI S' 61 (3 * nF L + 0) = nI c) (e1 : gI S' 61 (3 * nF L + 1) = nI x) (e2 : gI S' 61 (3 * nF L + 2) = nI y) (e3 : gI S' 61 18 = nI (nF L + 1)) (eo : ∀ q, q ≠ 3 * nF L + 0 → q ≠ 3 * nF L + 1 → q ≠ 3 * nF L + 2 → q ≠ 18 → gI S' 61 q = gI S 61 q) : HoM S' 61 0 (adF L c x y) := by
  obtain ⟨n1, n2, n3⟩ := adF_n (L := L) (k := c) (e := x) (b := y) hW.1.1
  have w8 := hW.f8
  have w9 := hW.b9
  have hb : nF (adF L c x y) ≤ 6 ∧ nB (adF L c x y) ≤ 4 ∧ nS (adF L c x y) ≤ 6 := by rw [n1, n2, n3, hW.s0]; omega
  have p1 : mpos 1 (nF L) = 3 * nF L + 0 := mpos_f (by omega)
  have p2 : mpos 2 (nF L) = 3 * nF L + 1 := mpos_f (by omega)
  have p3 : mpos 3 (nF L) = 3 * nF L + 2 := mpos_f (by omega)
  have i1 : inR (adF L c x y) 1 (nF L) := inR_f (by omega) (by omega)
  have i2 : inR (adF L c x y) 2 (nF L) := inR_f (by omega) (by omega)
  have i3 : inR (adF L c x y) 3 (nF L) := inR_f (by omega) (by omega)
  have i8 : inR (adF L c x y) 0 8 := inR_0 (by omega)
  intro r j hr
  unfold zi
  rw [Nat.zero_add]
  by_cases q0 : r = 0 ∧ j = 8
  · obtain ⟨rfl, rfl⟩ := q0
    rw [show mpos 0 8 = 18 from rfl, e3, nI_toInt (by omega)]
    unfold adF
    rw [if_pos ⟨rfl, rfl⟩, w8.2]; push_cast; rfl
  · by_cases q1 : r = 1 ∧ j = nF L
    · obtain ⟨rfl, rfl⟩ := q1
      rw [p1, e0, nI_toInt (by omega)]
      unfold adF
      rw [if_neg (by omega), if_pos ⟨rfl, rfl⟩]
    · by_cases q2 : r = 2 ∧ j = nF L
      · obtain ⟨rfl, rfl⟩ := q2
        rw [p2, e1, nI_toInt (by omega)]
        unfold adF
        rw [if_neg (by omega), if_neg (by omega), if_pos ⟨rfl, rfl⟩]
      · by_cases q3 : r = 3 ∧ j = nF L
        · obtain ⟨rfl, rfl⟩ := q3
          rw [p3, e2, nI_toInt (by omega)]
          unfold adF
          rw [if_neg (by omega), if_neg (by omega), if_neg (by omega), if_pos ⟨rfl, rfl⟩]
        · rw [eo _ (fun z => q1 (mpos_inj hb hr i1 (z.trans p1.symm))) (fun z => q2 (mpos_inj hb hr i2 (z.trans p2.symm))) (fun z => q3 (mpos_inj hb hr i3 (z.trans p3.symm))) (fun z => q0 (mpos_inj hb hr i8 z))]
          have hr2 : inR L r j := by
            unfold inR at hr ⊢
            rw [n1, n2, n3] at hr
            omega
          have := h r j hr2
          unfold zi at this
          rw [Nat.zero_add] at this
          rw [this]
          unfold adF
          rw [if_neg q0, if_neg q1, if_neg q2, if_neg q3]
theorem HoM61_G {S S' : ZSt} {L : Lnd} (h : HoM S 61 0 L) (hW : WFd L) (x : Nat) (hx : x < 1000) (e1 : gI S' 61 28 = nI x) (eo : ∀ q, q ≠ 28 → gI S' 61 q = gI S 61 q) : HoM S' 61 0 (updL L 0 11 x) := by
  have nn := nn_upd (L := L) (r := 0) (j := 11) (z := (x : Int)) (by omega)
  have w8 := hW.f8
  have w9 := hW.b9
  have hb : nF L ≤ 6 ∧ nB L ≤ 4 ∧ nS L ≤ 6 := by rw [hW.s0]; omega
  intro r j hr
  have hr2 : inR L r j := by unfold inR at hr ⊢; rw [nn.1, nn.2.1, nn.2.2] at hr; exact hr
  unfold zi
  rw [Nat.zero_add]
  by_cases q : r = 0 ∧ j = 11
  · obtain ⟨rfl, rfl⟩ := q
    rw [show mpos 0 11 = 28 from rfl, e1, nI_toInt (by omega), updL_at]
  · rw [eo _ (fun z => q (mpos_inj hb hr2 (inR_0 (by omega)) z)), updL_ne _ _ _ _ q]
    have := h r j hr2
    unfold zi at this
    rw [Nat.zero_add] at this
    exact this
theorem HoM.fr61 {S S' : ZSt} {L : Lnd} {P : Nat → Nat → Prop} (h : HoM S 61 0 L) (hf : FrI P S S') (hp : ∀ i, ¬ P 61 i) : HoM S' 61 0 L := by
  intro r j hr
  unfold zi
  rw [hf 61 _ (hp _)]
  exact h r j hr
/-- the highest field that a band is at -/
def hiN (L : Lnd) : Nat → Int
  | 0 => -1
  | b + 1 => if hiN L b < L 4 b then L 4 b else hiN L b
theorem hiN_b {L : Lnd} (h8 : 0 ≤ L 0 8) : ∀ k, (bdN L k = true ↔ L 0 8 ≤ hiN L k)
  | 0 => by
    show (false = true ↔ L 0 8 ≤ -1)
    constructor
    · intro z; exact absurd z (by decide)
    · intro z; omega
  | k + 1 => by
    have ih := hiN_b h8 k
    rw [bdN, hiN, Bool.or_eq_true, ih, decide_eq_true_iff]
    split <;> omega
theorem hiN_congr {L L' : Lnd} : ∀ k, (∀ b, b < k → L' 4 b = L 4 b) → hiN L' k = hiN L k
  | 0, _ => rfl
  | k + 1, h => by rw [hiN, hiN, hiN_congr k (fun b hb => h b (by omega)), h k (by omega)]
theorem hiN_in {L : Lnd} (h : ∀ b, b < nB L → 0 ≤ L 4 b ∧ L 4 b ≤ 5) : ∀ k, k ≤ nB L → -1 ≤ hiN L k ∧ hiN L k ≤ 5
  | 0, _ => by show -1 ≤ (-1 : Int) ∧ (-1 : Int) ≤ 5; omega
  | k + 1, hk => by
    have ih := hiN_in h k (by omega)
    have := h k (by omega)
    rw [hiN]; split <;> omega
/-! names -/
theorem isN5 {tp : Nat → Nat} {s e : Nat} : isNb tp s e 0 = true ↔ (e = s + 5 ∧ tp s = 112 ∧ tp (s + 1) = 108 ∧ tp (s + 2) = 97) ∧ (tp (s + 3) = 105 ∧ tp (s + 4) = 110) := by
  rw [isNb_t]
  constructor
  · intro h; exact ⟨⟨h.1, h.2 0 (by decide), h.2 1 (by decide), h.2 2 (by decide)⟩, h.2 3 (by decide), h.2 4 (by decide)⟩
  · rintro ⟨⟨a, b, c, d⟩, e1, f⟩
    refine ⟨a, fun j hj => ?_⟩
    have hj : j < 5 := hj
    rcases (show j = 0 ∨ j = 1 ∨ j = 2 ∨ j = 3 ∨ j = 4 by omega) with rfl | rfl | rfl | rfl | rfl
    · exact b
    · exact c
    · exact d
    · exact e1
    · exact f
theorem isN3 {tp : Nat → Nat} {s e : Nat} : isNb tp s e 2 = true ↔ (e = s + 3 ∧ tp s = 115 ∧ tp (s + 1) = 104 ∧ tp (s + 2) = 121) := by
  rw [isNb_t]
  constructor
  · intro h; exact ⟨h.1, h.2 0 (by decide), h.2 1 (by decide), h.2 2 (by decide)⟩
  · rintro ⟨a, b, c, d⟩
    refine ⟨a, fun j hj => ?_⟩
    have hj : j < 3 := hj
    rcases (show j = 0 ∨ j = 1 ∨ j = 2 by omega) with rfl | rfl | rfl
    · exact b
    · exact c
    · exact d
theorem isN4 {tp : Nat → Nat} {s e i x0 x1 x2 x3 : Nat} (hl : nLen i = 4) (h0 : nmN i 0 = x0) (h1 : nmN i 1 = x1) (h2 : nmN i 2 = x2) (h3 : nmN i 3 = x3) : isNb tp s e i = true ↔ (e = s + 4 ∧ tp s = x0 ∧ tp (s + 1) = x1 ∧ tp (s + 2) = x2) ∧ (tp (s + 3) = x3) := by
  rw [isNb_t, hl]
  constructor
  · intro h; exact ⟨⟨h.1, by rw [← h0]; exact h.2 0 (by omega), by rw [← h1]; exact h.2 1 (by omega), by rw [← h2]; exact h.2 2 (by omega)⟩, by rw [← h3]; exact h.2 3 (by omega)⟩
  · rintro ⟨⟨a, b, c, d⟩, e1⟩
    refine ⟨a, fun j hj => ?_⟩
    rcases (show j = 0 ∨ j = 1 ∨ j = 2 ∨ j = 3 by omega) with rfl | rfl | rfl | rfl
    · rw [h0]; exact b
    · rw [h1]; exact c
    · rw [h2]; exact d
    · rw [h3]; exact e1
theorem bA_is {tp : Nat → Nat} {n p x : Nat} (hw : TW n tp) (hp : p < n) (hx : x < 1000) : bA tp n p = nI x ↔ tp p = x := by
  have := hw.2 p hp
  unfold bA
  rw [if_pos hp, nI_eq (by omega) (by omega)]
theorem ev_is {d : Nat} {S : ZSt} {n s e : Nat} {tp : Nat → Nat} (h : TM S n tp) (hw : TW n tp) (h8 : gI S 57 8 = nI e) (h9 : gI S 57 9 = nI s) (hse : s ≤ e) (hen : e ≤ n) (l a b c : Nat) (hl : 3 ≤ l ∧ l ≤ 5) (ha : a < 1000) (hb : b < 1000) (hc : c < 1000) : zEv (d + 1) mX7_is [.ref 57, .int (nI l), .int (nI a), .int (nI b), .int (nI c)] S (zX (some (.int (b01 (e = s + l ∧ tp s = a ∧ tp (s + 1) = b ∧ tp (s + 2) = c)))) S) := by
  have h160 := hw.1
  refine zEv.of cw_X7_is (Nat.le_of_ble_eq_true rfl) rfl (blk_X7_is_0 ?_)
  rw [h8, h9, nI_subN hse]
  refine ⟨fun q => ?_, fun q => ?_⟩
  · rw [b01_f (fun z => q (by rw [z.1]; congr 1; omega))]; exact ⟨rfl, rfl⟩
  · have q := (nI_eq (by omega) (by omega)).mp q
    refine ⟨bA tp n s, S, ev_byteAt h hw s (by omega), fun q1 => ?_, fun q1 => ⟨bA tp n (s + 1), S, by rw [h9, nI_1]; exact ev_byteAt h hw (s + 1) (by omega), fun q2 => ?_, fun q2 => ⟨bA tp n (s + 2), S, by rw [h9, show (2 : Int32) = nI 2 from rfl, nI_add]; exact ev_byteAt h hw (s + 2) (by omega), fun q3 => ?_, fun q3 => ?_⟩⟩⟩
    · rw [b01_f (fun z => q1 ((bA_is hw (by omega) ha).mpr z.2.1))]; exact ⟨rfl, rfl⟩
    · rw [b01_f (fun z => q2 ((bA_is hw (by omega) hb).mpr z.2.2.1))]; exact ⟨rfl, rfl⟩
    · rw [b01_f (fun z => q3 ((bA_is hw (by omega) hc).mpr z.2.2.2))]; exact ⟨rfl, rfl⟩
    · rw [b01_p ⟨by omega, (bA_is hw (by omega) ha).mp q1, (bA_is hw (by omega) hb).mp q2, (bA_is hw (by omega) hc).mp q3⟩]; exact ⟨rfl, rfl⟩
theorem ev_ends1 {d : Nat} {S : ZSt} {n s : Nat} {tp : Nat → Nat} (h : TM S n tp) (hw : TW n tp) (h9 : gI S 57 9 = nI s) (hs : s + 4 ≤ n) (a : Nat) (ha : a < 1000) : zEv (d + 1) mX7_endsIn [.ref 57, .int (nI a), .int 0] S (zX (some (.int (b01 (tp (s + 3) = a)))) S) := by
  have h160 := hw.1
  refine zEv.of cw_X7_endsIn (Nat.le_of_ble_eq_true rfl) rfl (blk_X7_endsIn_0 ⟨bA tp n (s + 3), S, by rw [h9, show (3 : Int32) = nI 3 from rfl, nI_add]; exact ev_byteAt h hw (s + 3) (by omega), fun q => ?_, fun q => ⟨fun _ => ?_, fun z => absurd rfl z⟩⟩)
  · rw [b01_f (fun z => q ((bA_is hw (by omega) ha).mpr z))]; exact ⟨rfl, rfl⟩
  · rw [b01_p ((bA_is hw (by omega) ha).mp q)]; exact ⟨rfl, rfl⟩
theorem ev_ends2 {d : Nat} {S : ZSt} {n s : Nat} {tp : Nat → Nat} (h : TM S n tp) (hw : TW n tp) (h9 : gI S 57 9 = nI s) (hs : s + 5 ≤ n) (a b : Nat) (ha : a < 1000) (hb : b < 1000) (hb0 : ¬ nI b = 0) : zEv (d + 1) mX7_endsIn [.ref 57, .int (nI a), .int (nI b)] S (zX (some (.int (b01 (tp (s + 3) = a ∧ tp (s + 4) = b)))) S) := by
  have h160 := hw.1
  refine zEv.of cw_X7_endsIn (Nat.le_of_ble_eq_true rfl) rfl (blk_X7_endsIn_0 ⟨bA tp n (s + 3), S, by rw [h9, show (3 : Int32) = nI 3 from rfl, nI_add]; exact ev_byteAt h hw (s + 3) (by omega), fun q => ?_, fun q => ⟨fun z => absurd z hb0, fun _ => ⟨bA tp n (s + 4), S, by rw [h9, show (4 : Int32) = nI 4 from rfl, nI_add]; exact ev_byteAt h hw (s + 4) (by omega), fun q2 => ?_, fun q2 => ?_⟩⟩⟩)
  · rw [b01_f (fun z => q ((bA_is hw (by omega) ha).mpr z.1))]; exact ⟨rfl, rfl⟩
  · rw [b01_f (fun z => q2 ((bA_is hw (by omega) hb).mpr z.2))]; exact ⟨rfl, rfl⟩
  · rw [b01_p ⟨(bA_is hw (by omega) ha).mp q, (bA_is hw (by omega) hb).mp q2⟩]; exact ⟨rfl, rfl⟩
def kkM (c : Nat) : Int32 := if c = 6 then -4 else nI c
theorem ev_lineNow {d : Nat} (hd : 2 ≤ d) {S : ZSt} {n s e : Nat} {tp : Nat → Nat} (h : TM S n tp) (hw : TW n tp) (h8 : gI S 57 8 = nI e) (h9 : gI S 57 9 = nI s) (hse : s ≤ e) (hen : e ≤ n) : zEv d mX7_lineNow [.ref 57] S (zX (some (.int (kkM (nmC tp s e)))) S) := by
  obtain ⟨d, rfl⟩ : ∃ d', d = d' + 2 := ⟨d - 2, by omega⟩
  have v4 : isNb tp s e 1 = true ↔ (e = s + 4 ∧ tp s = 118 ∧ tp (s + 1) = 97 ∧ tp (s + 2) = 105) ∧ (tp (s + 3) = 110) := isN4 rfl rfl rfl rfl rfl
  have d4 : isNb tp s e 3 = true ↔ (e = s + 4 ∧ tp s = 100 ∧ tp (s + 1) = 101 ∧ tp (s + 2) = 97) ∧ (tp (s + 3) = 102) := isN4 rfl rfl rfl rfl rfl
  have b4 : isNb tp s e 4 = true ↔ (e = s + 4 ∧ tp s = 98 ∧ tp (s + 1) = 97 ∧ tp (s + 2) = 110) ∧ (tp (s + 3) = 100) := isN4 rfl rfl rfl rfl rfl
  have g4 : isNb tp s e 5 = true ↔ (e = s + 4 ∧ tp s = 103 ∧ tp (s + 1) = 108 ∧ tp (s + 2) = 117) ∧ (tp (s + 3) = 116) := isN4 rfl rfl rfl rfl rfl
  have L5 : ¬ isNb tp s e 0 = true → ¬ isNb tp s e 1 = true → ¬ isNb tp s e 2 = true → ¬ isNb tp s e 3 = true → ¬ isNb tp s e 4 = true → zSem (d + 2) mX7_lineNow 123 [some (.ref 57)] [] S (zX (some (.int (kkM (nmC tp s e)))) S) := by
    intro n0 n1 n2 n3 n4
    have no : ¬ isNb tp s e 5 = true → zX (some (.int (kkM (nmC tp s e)))) S (some (.int (-4))) S := fun q => by
      unfold nmC; rw [if_neg n0, if_neg n1, if_neg n2, if_neg n3, if_neg n4, if_neg q]; exact ⟨rfl, rfl⟩
    refine blk_X7_lineNow_123 ⟨_, S, ev_is h hw h8 h9 hse hen 4 103 108 117 (by omega) (by omega) (by omega) (by omega), b01_if (fun q => no (fun z => q (g4.mp z).1)) (fun q => ⟨_, S, ev_ends1 h hw h9 (by omega) 116 (by omega), b01_if (fun q2 => no (fun z => q2 (g4.mp z).2)) (fun q2 => ?_)⟩)⟩
    unfold nmC; rw [if_neg n0, if_neg n1, if_neg n2, if_neg n3, if_neg n4, if_pos (g4.mpr ⟨q, q2⟩)]; exact ⟨rfl, rfl⟩
  have L4 : ¬ isNb tp s e 0 = true → ¬ isNb tp s e 1 = true → ¬ isNb tp s e 2 = true → ¬ isNb tp s e 3 = true → zSem (d + 2) mX7_lineNow 95 [some (.ref 57)] [] S (zX (some (.int (kkM (nmC tp s e)))) S) := by
    intro n0 n1 n2 n3
    refine blk_X7_lineNow_95 ⟨_, S, ev_is h hw h8 h9 hse hen 4 98 97 110 (by omega) (by omega) (by omega) (by omega), b01_if (fun q => L5 n0 n1 n2 n3 (fun z => q (b4.mp z).1)) (fun q => ⟨_, S, ev_ends1 h hw h9 (by omega) 100 (by omega), b01_if (fun q2 => L5 n0 n1 n2 n3 (fun z => q2 (b4.mp z).2)) (fun q2 => ?_)⟩)⟩
    unfold nmC; rw [if_neg n0, if_neg n1, if_neg n2, if_neg n3, if_pos (b4.mpr ⟨q, q2⟩)]; exact ⟨rfl, rfl⟩
  have L3 : ¬ isNb tp s e 0 = true → ¬ isNb tp s e 1 = true → zSem (d + 2) mX7_lineNow 53 [some (.ref 57)] [] S (zX (some (.int (kkM (nmC tp s e)))) S) := by
    intro n0 n1
    refine blk_X7_lineNow_53 ⟨_, S, ev_is h hw h8 h9 hse hen 3 115 104 121 (by omega) (by omega) (by omega) (by omega), b01_if (fun q => ?_) (fun q => ?_)⟩
    · have n2 : ¬ isNb tp s e 2 = true := fun z => q (isN3.mp z)
      refine ⟨_, S, ev_is h hw h8 h9 hse hen 4 100 101 97 (by omega) (by omega) (by omega) (by omega), b01_if (fun q => L4 n0 n1 n2 (fun z => q (d4.mp z).1)) (fun q => ⟨_, S, ev_ends1 h hw h9 (by omega) 102 (by omega), b01_if (fun q2 => L4 n0 n1 n2 (fun z => q2 (d4.mp z).2)) (fun q2 => ?_)⟩)⟩
      unfold nmC; rw [if_neg n0, if_neg n1, if_neg n2, if_pos (d4.mpr ⟨q, q2⟩)]; exact ⟨rfl, rfl⟩
    · unfold nmC; rw [if_neg n0, if_neg n1, if_pos (isN3.mpr q)]; exact ⟨rfl, rfl⟩
  have L1 : ¬ isNb tp s e 0 = true → zSem (d + 2) mX7_lineNow 27 [some (.ref 57)] [] S (zX (some (.int (kkM (nmC tp s e)))) S) := by
    intro n0
    refine blk_X7_lineNow_27 ⟨_, S, ev_is h hw h8 h9 hse hen 4 118 97 105 (by omega) (by omega) (by omega) (by omega), b01_if (fun q => L3 n0 (fun z => q (v4.mp z).1)) (fun q => ⟨_, S, ev_ends1 h hw h9 (by omega) 110 (by omega), b01_if (fun q2 => L3 n0 (fun z => q2 (v4.mp z).2)) (fun q2 => ?_)⟩)⟩
    unfold nmC; rw [if_neg n0, if_pos (v4.mpr ⟨q, q2⟩)]; exact ⟨rfl, rfl⟩
  refine zEv.of cw_X7_lineNow (Nat.le_of_ble_eq_true rfl) rfl (blk_X7_lineNow_0 ⟨_, S, ev_is h hw h8 h9 hse hen 5 112 108 97 (by omega) (by omega) (by omega) (by omega), b01_if (fun q => L1 (fun z => q (isN5.mp z).1)) (fun q => ⟨_, S, ev_ends2 h hw h9 (by omega) 105 110 (by omega) (by omega) (by decide), b01_if (fun q2 => L1 (fun z => q2 (isN5.mp z).2)) (fun q2 => ?_)⟩)⟩)
  unfold nmC; rw [if_pos (isN5.mpr ⟨q, q2⟩)]; exact ⟨rfl, rfl⟩
