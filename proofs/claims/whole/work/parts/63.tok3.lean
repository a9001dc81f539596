/-! names; what is due -/
def nmN (i j : Nat) : Nat := (([[112, 108, 97, 105, 110], [118, 97, 105, 110], [115, 104, 121], [100, 101, 97, 102], [98, 97, 110, 100], [103, 108, 117, 116]] : List (List Nat)).getD i []).getD j 0
theorem nm_is : ∀ i, i < 6 → ∀ j, j < 5 → nByt i j &&& 255 = nI (nmN i j) := by decide
theorem nm_lt : ∀ i, i < 6 → ∀ j, j < 5 → nmN i j < 128 := by decide
def isNb (tp : Nat → Nat) (s e i : Nat) : Bool := decide (e = s + nLen i ∧ ∀ j, j < nLen i → tp (s + j) = nmN i j)
theorem isNb_t {tp : Nat → Nat} {s e i : Nat} : isNb tp s e i = true ↔ (e = s + nLen i ∧ ∀ j, j < nLen i → tp (s + j) = nmN i j) := decide_eq_true_iff
theorem nI_subN {a b : Nat} (h : b ≤ a) : nI a - nI b = nI (a - b) := by
  rw [nI_iv, nI_iv, iv_sub, nI_iv]; congr 1; omega
theorem ev_isNamed {d : Nat} (hd : 4 ≤ d) {S : ZSt} {n s e : Nat} {tp : Nat → Nat} (h : TC S n tp) (hw : TW n tp) (h4 : gI S 39 4 = nI e) (h6 : gI S 39 6 = nI s) (hse : s ≤ e) (hen : e ≤ n) (i : Nat) (hi : i < 6) : zEv d mX5_isNamed [.ref 39, .ref (70 + i)] S (zX (some (.int (b01 (isNb tp s e i = true)))) S) := by
  obtain ⟨d, rfl⟩ : ∃ d', d = d' + 1 := ⟨d - 1, by omega⟩
  have h160 := hw.1
  have hl := nLen_le i hi
  have key : ∀ (m k : Nat), k + m = nLen i → e = s + nLen i → (∀ j, j < k → tp (s + j) = nmN i j) → zSem (d + 1) mX5_isNamed 20 [some (.ref 39), some (.ref (70 + i)), some (.int (nI k))] [] S (zX (some (.int (b01 (isNb tp s e i = true)))) S) := by
    intro m
    induction m with
    | zero =>
      intro k hk he hj
      obtain rfl : k = nLen i := by omega
      refine s_iload_n dX5_isNamed_20 rfl (s_aload_n dX5_isNamed_21 rfl (s_vS0 dX5_isNamed_22 ml_X5_134 cw_J0_length_8abf5 iw_J0_length_8abf5 hi rfl (Nat.le_of_ble_eq_true rfl) (ev_length (d := d) (by omega) S i hi) (Nat.lt_succ_self _) (s_icmp_ge dX5_isNamed_25 (fun _ => s_iconst (v := 1) dX5_isNamed_55 c_ic_1 (s_zreturn dX5_isNamed_56 rfl (Or.inr rfl) ?_)) (fun z => absurd (nI_le (Nat.le_refl _) (by omega)) z))))
      rw [b01_p (isNb_t.mpr ⟨he, hj⟩)]
      exact ⟨rfl, rfl⟩
    | succ m ih =>
      intro k hk he hj
      have nl := nm_lt i hi k (by omega)
      have b127 := hw.2 (s + k) (by omega)
      refine s_iload_n dX5_isNamed_20 rfl (s_aload_n dX5_isNamed_21 rfl (s_vS0 dX5_isNamed_22 ml_X5_134 cw_J0_length_8abf5 iw_J0_length_8abf5 hi rfl (Nat.le_of_ble_eq_true rfl) (ev_length (d := d) (by omega) S i hi) (Nat.lt_succ_self _) (s_icmp_ge dX5_isNamed_25 (fun z => absurd z (nI_ge (by omega) (by omega))) (fun _ => ?_))))
      refine s_aload_n dX5_isNamed_28 rfl (s_getR (b' := 40) dX5_isNamed_29 fl_X5_11 ob_39 ft_5_0 rfl (s_aload_n dX5_isNamed_32 rfl (s_getI dX5_isNamed_33 fl_X5_31 ob_39 ft_5_6 (s_iload_n dX5_isNamed_36 rfl (s_iadd dX5_isNamed_37 ?_)))))
      rw [h6, nI_add]
      refine s_baload dX5_isNamed_38 ar_40 (ix_in (by omega) (by omega)) (s_aload_n dX5_isNamed_39 rfl (s_iload_n dX5_isNamed_40 rfl (s_vS1 dX5_isNamed_41 ml_X5_138 cw_J0_charAt_5068e iw_J0_charAt_5068e hi rfl (Nat.le_of_ble_eq_true rfl) (ev_charAt (d := d) (by omega) S i k hi (by omega)) (Nat.lt_succ_self _) ?_)))
      rw [ix_cl (by omega), h.b (by omega), nm_is i hi k (by omega)]
      refine s_icmp_eq dX5_isNamed_44 (fun z => ?_) (fun z => s_iconst (v := 0) dX5_isNamed_47 c_ic_0 (s_zreturn dX5_isNamed_48 rfl (Or.inl rfl) ?_))
      · have z := (nI_eq (by omega) (by omega)).mp z
        refine s_iinc_2 dX5_isNamed_49 rfl (c_ii_1 _) (s_goto dX5_isNamed_52 ?_)
        rw [nI_1]
        exact ih (k + 1) (by omega) he (fun j hj2 => by
          by_cases q : j = k
          · rw [q]; exact z
          · exact hj j (by omega))
      · rw [b01_f (fun y => z (by rw [(isNb_t.mp y).2 k (by omega)]))]
        exact ⟨rfl, rfl⟩
  refine zEv.of cw_X5_isNamed (Nat.le_of_ble_eq_true rfl) rfl ?_
  refine s_aload_n dX5_isNamed_0 rfl (s_getI dX5_isNamed_1 fl_X5_25 ob_39 ft_5_4 (s_aload_n dX5_isNamed_4 rfl (s_getI dX5_isNamed_5 fl_X5_31 ob_39 ft_5_6 (s_isub dX5_isNamed_8 (s_aload_n dX5_isNamed_9 rfl (s_vS0 dX5_isNamed_10 ml_X5_134 cw_J0_length_8abf5 iw_J0_length_8abf5 hi rfl (Nat.le_of_ble_eq_true rfl) (ev_length (d := d) (by omega) S i hi) (Nat.lt_succ_self _) ?_))))))
  rw [h4, h6, nI_subN hse]
  refine s_icmp_eq dX5_isNamed_13 (fun z => s_iconst (v := 0) dX5_isNamed_18 c_ic_0 (s_istore_2 dX5_isNamed_19 rfl ?_)) (fun z => s_iconst (v := 0) dX5_isNamed_16 c_ic_0 (s_zreturn dX5_isNamed_17 rfl (Or.inl rfl) ?_))
  · have z := (nI_eq (by omega) (by omega)).mp z
    exact key (nLen i) 0 (by omega) (by omega) (fun j hj => absurd hj (by omega))
  · rw [b01_f (fun y => z (by rw [(isNb_t.mp y).1]; congr 1; omega))]
    exact ⟨rfl, rfl⟩
/-- which line begins: 0 .. 3 a field's kind, 4 band, 5 glut, 6 none -/
def nmC (tp : Nat → Nat) (s e : Nat) : Nat := if isNb tp s e 0 = true then 0 else if isNb tp s e 1 = true then 1 else if isNb tp s e 2 = true then 2 else if isNb tp s e 3 = true then 3 else if isNb tp s e 4 = true then 4 else if isNb tp s e 5 = true then 5 else 6
theorem nmC_le (tp : Nat → Nat) (s e : Nat) : nmC tp s e ≤ 6 := by
  unfold nmC
  repeat' split
  all_goals omega
theorem ev_lineBegun {d : Nat} (hd : 5 ≤ d) {S : ZSt} {n s e : Nat} {tp : Nat → Nat} (h : TC S n tp) (hw : TW n tp) (h4 : gI S 39 4 = nI e) (h6 : gI S 39 6 = nI s) (hse : s ≤ e) (hen : e ≤ n) : zEv d mX5_lineBegun [.ref 39] S (zX (some (.int (nI (nmC tp s e)))) S) := by
  obtain ⟨d, rfl⟩ : ∃ d', d = d' + 1 := ⟨d - 1, by omega⟩
  have ev := fun i hi => ev_isNamed (d := d) (by omega) h hw h4 h6 hse hen i hi
  refine zEv.of cw_X5_lineBegun (Nat.le_of_ble_eq_true rfl) rfl (blk_X5_lineBegun_0 ⟨_, S, ev 0 (by omega), b01_if (fun q0 => ⟨_, S, ev 1 (by omega), b01_if (fun q1 => ⟨_, S, ev 2 (by omega), b01_if (fun q2 => ⟨_, S, ev 3 (by omega), b01_if (fun q3 => ⟨_, S, ev 4 (by omega), b01_if (fun q4 => ⟨_, S, ev 5 (by omega), b01_if (fun q5 => ?_) (fun q5 => ?_)⟩) (fun q4 => ?_)⟩) (fun q3 => ?_)⟩) (fun q2 => ?_)⟩) (fun q1 => ?_)⟩) (fun q0 => ?_)⟩)
  · unfold nmC; rw [if_neg q0, if_neg q1, if_neg q2, if_neg q3, if_neg q4, if_neg q5]; exact ⟨rfl, rfl⟩
  · unfold nmC; rw [if_neg q0, if_neg q1, if_neg q2, if_neg q3, if_neg q4, if_pos q5]; exact ⟨rfl, rfl⟩
  · unfold nmC; rw [if_neg q0, if_neg q1, if_neg q2, if_neg q3, if_pos q4]; exact ⟨rfl, rfl⟩
  · unfold nmC; rw [if_neg q0, if_neg q1, if_neg q2, if_pos q3]; exact ⟨rfl, rfl⟩
  · unfold nmC; rw [if_neg q0, if_neg q1, if_pos q2]; exact ⟨rfl, rfl⟩
  · unfold nmC; rw [if_neg q0, if_pos q1]; exact ⟨rfl, rfl⟩
  · unfold nmC; rw [if_pos q0]; exact ⟨rfl, rfl⟩
theorem ev_refuse {d : Nat} (S : ZSt) (a b : Int32) : zEv d mX5_refuse [.ref 39, .int a, .int b] S (zY (some (.int 0)) (fun S' => S' = pI (pI S 39 2 a) 39 3 b)) := zEv.of cw_X5_refuse (Nat.le_of_ble_eq_true rfl) rfl (blk_X5_refuse_0 ⟨rfl, rfl⟩)
/-- the fault of a token of kind k where one of kind 'due' is due -/
def dueF (k due : Nat) : Nat := if k = 4 then 1 else if k = due then 0 else 2
def rfP : Nat → Nat → Prop := fun k j => k = 39 ∧ (j = 2 ∨ j = 3)
theorem ev_isToken {d : Nat} (hd : 1 ≤ d) {S : ZSt} {k due s : Nat} (h5 : gI S 39 5 = nI k) (h6 : gI S 39 6 = nI s) (hk : k ≤ 4) (hdue : due < 1000) (hs : s < 1000) : zEv d mX5_isToken [.ref 39, .int (nI due)] S (zY (some (.int (b01 (dueF k due = 0)))) (fun S' => (dueF k due = 0 → S' = S) ∧ (dueF k due ≠ 0 → gI S' 39 2 = nI (dueF k due) ∧ gI S' 39 3 = nI s) ∧ FrI rfP S S')) := by
  obtain ⟨d, rfl⟩ : ∃ d', d = d' + 1 := ⟨d - 1, by omega⟩
  have fr : ∀ a b : Int32, FrI rfP S (pI (pI S 39 2 a) 39 3 b) := fun a b => ((FrI.rf _ _).pI _ (by unfold rfP; omega)).pI _ (by unfold rfP; omega)
  refine zEv.of cw_X5_isToken (Nat.le_of_ble_eq_true rfl) rfl (blk_X5_isToken_0 ?_)
  rw [h5, h6]
  refine ⟨fun q => ⟨fun q2 => ?_, fun q2 => ⟨_, _, ev_refuse S 2 _, fun S3 k3 => ⟨fun _ => ?_, fun z => absurd rfl z⟩⟩⟩, fun q => ⟨_, _, ev_refuse S 1 _, fun S5 k5 => ⟨Or.inl rfl, ?_⟩⟩⟩
  · have q : ¬ k = 4 := fun z => q (by rw [z]; rfl)
    have q2 := (nI_eq (by omega) (by omega)).mp q2
    have e : dueF k due = 0 := by unfold dueF; rw [if_neg q, if_pos q2]
    rw [b01_p e]
    exact ⟨rfl, fun _ => rfl, fun z => absurd e z, FrI.rf _ _⟩
  · have q : ¬ k = 4 := fun z => q (by rw [z]; rfl)
    have q2 : ¬ k = due := fun z => q2 (by rw [z])
    have e : dueF k due = 2 := by unfold dueF; rw [if_neg q, if_neg q2]
    rw [b01_f (by omega)]
    refine ⟨rfl, fun z => absurd z (by omega), fun _ => ?_, by rw [k3]; exact fr _ _⟩
    rw [k3, gI_pI, if_neg (by omega), gI_pI, if_pos ⟨rfl, rfl⟩, gI_pI, if_pos ⟨rfl, rfl⟩, e]
    exact ⟨rfl, rfl⟩
  · have q : k = 4 := (nI_eq (b := 4) (by omega) (by omega)).mp q
    have e : dueF k due = 1 := by unfold dueF; rw [if_pos q]
    rw [b01_f (by omega)]
    refine ⟨rfl, fun z => absurd z (by omega), fun _ => ?_, by rw [k5]; exact fr _ _⟩
    rw [k5, gI_pI, if_neg (by omega), gI_pI, if_pos ⟨rfl, rfl⟩, gI_pI, if_pos ⟨rfl, rfl⟩, e]
    exact ⟨rfl, rfl⟩
def nmF (tp : Nat → Nat) (n p lo hi : Nat) : Nat := if dueF (tK tp n p) 2 = 0 then (if lo ≤ tV tp n p ∧ tV tp n p ≤ hi then 0 else 3) else dueF (tK tp n p) 2
def smF (tp : Nat → Nat) (n p : Nat) : Nat := dueF (tK tp n p) 3
theorem due_0 {k due : Nat} (h : dueF k due = 0) : k = due ∧ k ≠ 4 := by
  unfold dueF at h
  by_cases q : k = 4
  · rw [if_pos q] at h; omega
  · rw [if_neg q] at h
    by_cases q2 : k = due
    · exact ⟨q2, q⟩
    · rw [if_neg q2] at h; omega
def tkP : Nat → Nat → Prop := fun k j => k = 39 ∧ 2 ≤ j ∧ j ≤ 7
theorem nt_tk : ∀ k j, ntP k j → tkP k j := fun k j h => by unfold ntP at h; unfold tkP; omega
theorem rf_tk : ∀ k j, rfP k j → tkP k j := fun k j h => by unfold rfP at h; unfold tkP; omega
theorem ev_takeNumber {d : Nat} (hd : 2 ≤ d) {S : ZSt} {n p : Nat} {tp : Nat → Nat} (h : TC S n tp) (hw : TW n tp) (hp : gI S 39 4 = nI p) (hpn : p ≤ n) (lo hi : Nat) (hlo : lo < 1000) (hhi : hi < 1000) : zEv d mX5_takeNumber [.ref 39, .int (nI lo), .int (nI hi)] S (zY (some (.int (b01 (nmF tp n p lo hi = 0)))) (fun S' => (nmF tp n p lo hi = 0 → gI S' 39 4 = nI (tE tp n p) ∧ gI S' 39 7 = nI (tV tp n p) ∧ gI S' 39 2 = gI S 39 2) ∧ (nmF tp n p lo hi ≠ 0 → gI S' 39 2 = nI (nmF tp n p lo hi) ∧ gI S' 39 3 = nI (sk tp n p)) ∧ FrI tkP S S')) := by
  obtain ⟨d, rfl⟩ : ∃ d', d = d' + 1 := ⟨d - 1, by omega⟩
  have h160 := hw.1
  have si := sk_in (tp := tp) hpn
  have kl := tK_le tp n p
  have vl := tV_le (tp := tp) (n := n) (p := p)
  refine zEv.of cw_X5_takeNumber (Nat.le_of_ble_eq_true rfl) rfl (blk_X5_takeNumber_0 ⟨_, ev_nextToken (d := d) (by omega) h hw hp hpn, fun S1 k1 => ⟨_, _, ev_isToken (due := 2) (by omega) k1.2.1 k1.2.2.1 kl (by omega) (by omega), fun S2 k2 => b01_if' (fun q => ?_) (fun q => ?_)⟩⟩)
  · obtain rfl := k2.1 q
    have tk := due_0 q
    have v7 := k1.2.2.2.1 tk.1
    have ew := ev_within (d := d) S2 (nI (tV tp n p)) (nI lo) (nI hi)
    rw [nI_toInt (by omega), nI_toInt (by omega), nI_toInt (by omega)] at ew
    rw [v7]
    refine ⟨_, S2, ew, b01_if' (fun q2 => ?_) (fun q2 => ?_)⟩
    · have e : nmF tp n p lo hi = 0 := by unfold nmF; rw [if_pos q, if_pos (by omega)]
      rw [b01_p e]
      exact ⟨rfl, fun _ => ⟨k1.1, v7, k1.2.2.2.2.2 39 2 (by unfold ntP; omega)⟩, fun z => absurd e z, k1.2.2.2.2.2.mono nt_tk⟩
    · have e : nmF tp n p lo hi = 3 := by unfold nmF; rw [if_pos q, if_neg (by omega)]
      refine ⟨_, _, ev_refuse S2 3 _, fun S6 k6 => ⟨fun _ => ?_, fun z => absurd rfl z⟩⟩
      rw [b01_f (by omega)]
      refine ⟨rfl, fun z => absurd z (by omega), fun _ => ?_, ?_⟩
      · rw [k6, gI_pI, if_neg (by omega), gI_pI, if_pos ⟨rfl, rfl⟩, gI_pI, if_pos ⟨rfl, rfl⟩, k1.2.2.1, e]
        exact ⟨rfl, rfl⟩
      · rw [k6]; exact ((k1.2.2.2.2.2.mono nt_tk).pI _ (by unfold tkP; omega)).pI _ (by unfold tkP; omega)
  · have e : nmF tp n p lo hi = dueF (tK tp n p) 2 := by unfold nmF; rw [if_neg q]
    rw [b01_f (by omega)]
    refine ⟨rfl, fun z => absurd z (by omega), fun _ => ?_, (k1.2.2.2.2.2.mono nt_tk).tr (k2.2.2.mono rf_tk)⟩
    rw [e]; exact k2.2.1 q
theorem ev_takeSemicolon {d : Nat} (hd : 2 ≤ d) {S : ZSt} {n p : Nat} {tp : Nat → Nat} (h : TC S n tp) (hw : TW n tp) (hp : gI S 39 4 = nI p) (hpn : p ≤ n) : zEv d mX5_takeSemicolon [.ref 39] S (zY (some (.int (b01 (smF tp n p = 0)))) (fun S' => (smF tp n p = 0 → gI S' 39 4 = nI (tE tp n p) ∧ gI S' 39 7 = gI S 39 7 ∧ gI S' 39 2 = gI S 39 2) ∧ (smF tp n p ≠ 0 → gI S' 39 2 = nI (smF tp n p) ∧ gI S' 39 3 = nI (sk tp n p)) ∧ FrI tkP S S')) := by
  obtain ⟨d, rfl⟩ : ∃ d', d = d' + 1 := ⟨d - 1, by omega⟩
  have h160 := hw.1
  have si := sk_in (tp := tp) hpn
  have kl := tK_le tp n p
  refine zEv.of cw_X5_takeSemicolon (Nat.le_of_ble_eq_true rfl) rfl (blk_X5_takeSemicolon_0 ⟨_, ev_nextToken (d := d) (by omega) h hw hp hpn, fun S1 k1 => ⟨_, _, ev_isToken (due := 3) (by omega) k1.2.1 k1.2.2.1 kl (by omega) (by omega), fun S2 k2 => ⟨b01_or _, rfl, fun q => ?_, fun q => k2.2.1 q, (k1.2.2.2.2.2.mono nt_tk).tr (k2.2.2.mono rf_tk)⟩⟩⟩)
  obtain rfl := k2.1 q
  have tk := due_0 q
  exact ⟨k1.1, k1.2.2.2.2.1 (by omega) tk.2, k1.2.2.2.2.2 39 2 (by unfold ntP; omega)⟩
