/-! read: the class -/
def pfA (sh : Sh) (i : Nat) (ln v : Int32) (k : Nat) : Int32 := if fltA sh i ln (v + 2 * nI k) = 0 then fltA sh i ln (v + 2 * nI k + 1) else fltA sh i ln (v + 2 * nI k)
theorem ev_pairFault {d : Nat} (hd : 2 ≤ d) {S : ZSt} {sh : Sh} (h : SC S sh) (hw : SW sh) (i : Nat) (hi : i < 4) (ln v : Int32) (k : Nat) : zEv d mX4_pairFault [.ref 53, .int (nI i), .int ln, .int (v + 2 * nI k)] S (zX (some (.int (pfA sh i ln v k))) S) := by
  obtain ⟨d, rfl⟩ : ∃ d', d = d' + 1 := ⟨d - 1, by omega⟩
  refine zEv.of cw_X4_pairFault (Nat.le_of_ble_eq_true rfl) rfl (blk_X4_pairFault_0 ⟨_, S, ev_faultAt (by omega) h hw i hi _ _, fun q => ⟨_, S, ev_faultAt (by omega) h hw i hi _ _, ?_⟩, fun q => ?_⟩)
  · unfold pfA; rw [if_pos q]; exact ⟨rfl, rfl⟩
  · unfold pfA; rw [if_neg q]; exact ⟨rfl, rfl⟩
/-- a pair with no fault lies in the sheet -/
theorem flt_ok {sh : Sh} {i : Nat} {ln v : Int32} (h : fltA sh i ln v = 0) : ∃ l sz ce, sh i = some (l, sz, ce) ∧ 0 ≤ v.toInt ∧ v.toInt ≤ (sz : Int) - 1 := by
  unfold fltA at h
  cases e : sh i with
  | none =>
    rw [e] at h
    simp only [] at h
    exact absurd h (by decide)
  | some x =>
    obtain ⟨l, sz, ce⟩ := x
    rw [e] at h
    simp only [] at h
    by_cases q : nI l = ln
    · rw [if_pos q] at h
      by_cases q2 : 0 ≤ v.toInt ∧ v.toInt ≤ (sz : Int) - 1
      · exact ⟨l, sz, ce, rfl, q2⟩
      · rw [if_neg q2] at h; exact absurd h (by decide)
    · rw [if_neg q] at h; exact absurd h (by decide)
def ceA (sh : Sh) (i : Nat) (v : Int32) : Int32 := match sh i with
  | none => 0
  | some (_, _, ce) => ce v.toInt.toNat
theorem ev_get {d : Nat} {S : ZSt} {sh : Sh} (h : SC S sh) (hw : SW sh) (i : Nat) (hi : i < 4) {ln v : Int32} (hf : fltA sh i ln v = 0) : zEv d mX4_get [.ref 53, .int (nI i), .int v] S (zX (some (.int (ceA sh i v))) S) := by
  obtain ⟨l, sz, ce, e, h0, h1⟩ := flt_ok hf
  have w := hw i l sz ce e
  obtain ⟨j, hj, rfl⟩ := toNat_of (n := 41) h0 (by omega)
  have ej : (nI j).toInt = (j : Int) := nI_toInt (by omega)
  refine zEv.of cw_X4_get (Nat.le_of_ble_eq_true rfl) rfl (blk_X4_get_0 ?_)
  rw [ix40, ix_cl (by omega), ((h i hi).2 l sz ce e).2.2 j (by omega)]
  refine ⟨ix_in (by omega) (by omega), ?_⟩
  unfold ceA; rw [e, ej]
  exact ⟨rfl, rfl⟩
/-- the pairs: how many, the fault behind them, whether one is no order -/
def okP (L : Lnd) (sh : Sh) (i : Nat) (v : Int32) (k : Nat) : Prop := (0 ≤ (ceA sh i (v + 2 * nI k)).toInt ∧ (ceA sh i (v + 2 * nI k)).toInt ≤ L 0 9 - 1) ∧ (0 ≤ (ceA sh i (v + 2 * nI k + 1)).toInt ∧ (ceA sh i (v + 2 * nI k + 1)).toInt ≤ L 0 8 - 1)
def okB (L : Lnd) (sh : Sh) (i : Nat) (v : Int32) (k : Nat) : Bool := decide ((0 ≤ (ceA sh i (v + 2 * nI k)).toInt ∧ (ceA sh i (v + 2 * nI k)).toInt ≤ L 0 9 - 1) ∧ (0 ≤ (ceA sh i (v + 2 * nI k + 1)).toInt ∧ (ceA sh i (v + 2 * nI k + 1)).toInt ≤ L 0 8 - 1))
theorem okB_p {L : Lnd} {sh : Sh} {i : Nat} {v : Int32} {k : Nat} : okB L sh i v k = true ↔ okP L sh i v k := by unfold okB okP; exact decide_eq_true_iff
def rdF (L : Lnd) (sh : Sh) (i : Nat) (ln v : Int32) : Nat → Nat → Nat × Int32 × Bool
  | 0, k => (k, 0, true)
  | m + 1, k => if pfA sh i ln v k = 0 then (if okB L sh i v k = true then rdF L sh i ln v m (k + 1) else (k, 0, false)) else (k, pfA sh i ln v k, true)
def mrL (sh : Sh) (i : Nat) (v : Int32) (L : Lnd) : Nat → Lnd
  | 0 => L
  | k + 1 => updL (mrL sh i v L k) 4 (ceA sh i (v + 2 * nI k)).toInt.toNat (ceA sh i (v + 2 * nI k + 1)).toInt
theorem mrL_n {sh : Sh} {i : Nat} {v : Int32} {L : Lnd} : ∀ k, nF (mrL sh i v L k) = nF L ∧ nB (mrL sh i v L k) = nB L ∧ nS (mrL sh i v L k) = nS L
  | 0 => ⟨rfl, rfl, rfl⟩
  | k + 1 => by
    have a := mrL_n (sh := sh) (i := i) (v := v) (L := L) k
    have b := nn_upd (L := mrL sh i v L k) (r := 4) (j := (ceA sh i (v + 2 * nI k)).toInt.toNat) (z := (ceA sh i (v + 2 * nI k + 1)).toInt) (by omega)
    rw [mrL]; exact ⟨b.1.trans a.1, b.2.1.trans a.2.1, b.2.2.trans a.2.2⟩
theorem mrL_0 {sh : Sh} {i : Nat} {v : Int32} {L : Lnd} (r j : Nat) (hr : r ≠ 4) : ∀ k, mrL sh i v L k r j = L r j
  | 0 => rfl
  | k + 1 => by rw [mrL, updL_ne _ _ _ _ (by omega)]; exact mrL_0 r j hr k
theorem mrL_WF {sh : Sh} {i : Nat} {v : Int32} {L : Lnd} (h : WFc L) : ∀ k, (∀ t, t < k → okP L sh i v t) → WFc (mrL sh i v L k)
  | 0, _ => h
  | k + 1, o => by
    have ih := mrL_WF h k (fun t ht => o t (by omega))
    have ok := o k (by omega)
    unfold okP at ok
    rw [mrL]
    refine WFc_put ih (by omega) (by omega) (by omega) (by omega) (fun _ => ?_) (by omega) (by omega)
    rw [mrL_0 0 8 (by omega)]
    omega
