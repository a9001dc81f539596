/-! as it was seen: kinds, blights -/
def soR (L : Lnd) : Nat → Nat → Bool
  | 0, _ => true
  | m + 1, j => if eI L (L 7 j).toNat (hdL L (L 7 j)) (L 6 j).toNat = L 8 j then soR L m (j + 1) else false
def isP : Nat → Nat → Prop := fun k i => k = 59 ∨ k = 64 ∨ (k = 57 ∧ (i = 14 ∨ i = 15))
theorem is_nw : ∀ k j, isP k j → nwP k j := fun k j h => by unfold isP at h; unfold nwP; omega
theorem is_58 : ∀ i, ¬ isP 58 i := fun i h => by unfold isP at h; omega
theorem md_is : ∀ k j, mdP k j → isP k j := fun k j h => by unfold mdP at h; unfold isP; omega
theorem st_is : ∀ k j, stP k j → isP k j := fun k j h => by unfold stP at h; unfold isP; omega
def kb (L : Lnd) (f : Nat) (k b : Int) : Lnd := updL (updL L 1 f k) 3 f b
theorem kb_r {L : Lnd} {f : Nat} {k b : Int} {r j : Nat} (h : ¬ (r = 1 ∧ j = f) ∧ ¬ (r = 3 ∧ j = f)) : kb L f k b r j = L r j := by
  unfold kb; rw [updL_ne _ _ _ _ h.2, updL_ne _ _ _ _ h.1]
theorem kb_hd {L : Lnd} {f : Nat} {k b : Int} (g : Int) : hdL (kb L f k b) g = hdL L g := by
  unfold kb; rw [hdL_upd3 _ _ _ _ (by omega), hdL_upd3 _ _ _ _ (by omega)]
theorem kb_eI {L : Lnd} {f : Nat} {k b : Int} {g : Nat} (h : Int) (n : Nat) : eI (kb L f k b) g h n = if g = f then eB k (L 2 f) b h n else eI L g h n := by
  unfold eI
  by_cases q : g = f
  · subst q
    rw [if_pos rfl, kb_r (r := 2) (by omega)]
    unfold kb
    rw [updL_at, updL_ne _ _ _ _ (by omega), updL_at]
  · rw [if_neg q, kb_r (by omega), kb_r (by omega), kb_r (by omega)]
theorem kb_n {L : Lnd} {f : Nat} {k b : Int} : nF (kb L f k b) = nF L ∧ nB (kb L f k b) = nB L ∧ nS (kb L f k b) = nS L := by
  unfold nF nB nS; rw [kb_r (by omega), kb_r (by omega), kb_r (by omega)]; exact ⟨rfl, rfl, rfl⟩
theorem kb_1 (L : Lnd) (f : Nat) (k : Int) : kb L f k (L 3 f) = updL L 1 f k := by
  unfold kb
  have := updL_self (updL L 1 f k) 3 f
  rw [updL_ne L 1 f k (r' := 3) (by omega)] at this
  exact this
theorem kb_3 (L : Lnd) (f : Nat) (b : Int) : kb L f (L 1 f) b = updL L 3 f b := by
  unfold kb; rw [updL_self]
theorem ev_isAsSeen {d : Nat} (hdp : 4 ≤ d) {B : Nat} (hB : zLd B) {S : ZSt} {L : Lnd} (h : HoC S B L) (hW : WF L) (f : Nat) (hf : f < nF L) (k b : Int) (hk : 0 ≤ k ∧ k ≤ 3) (hb : 0 ≤ b ∧ b ≤ 9) : zEv d mX2_isAsSeen [.ref B, .int (nI f), .int (iv k), .int (iv b)] S (zX (some (.int (b01 (soR (kb L f k b) (nS L) 0 = true)))) S) := by
  obtain ⟨d, rfl⟩ : ∃ d', d = d' + 1 := ⟨d - 1, by omega⟩
  have hn6 := hW.nF
  have hnS := hW.nS
  have gs := h.gnS hW
  have wf := hW.f hf
  refine zEv.of cw_X2_isAsSeen (Nat.le_of_ble_eq_true rfl) rfl (blk_X2_isAsSeen_0 hB ?_)
  have key : ∀ (m j : Nat), j + m = nS L → zSem (d + 1) mX2_isAsSeen 3 [some (.ref B), some (.int (nI f)), some (.int (iv k)), some (.int (iv b)), some (.int (nI j)), none, none, none, none] [] S (zX (some (.int (b01 (soR (kb L f k b) m j = true)))) S) := by
    intro m
    induction m with
    | zero =>
      intro j hj
      obtain rfl : j = nS L := by omega
      exact blk_X2_isAsSeen_3 hB ⟨fun q => ⟨rfl, rfl⟩, fun q => absurd (by rw [gs]; exact nI_le (by omega) (by omega)) q⟩
    | succ m ih =>
      intro j hjm
      have hj : j < nS L := by omega
      have w := hW.s hj
      obtain ⟨g, hg, eg⟩ : ∃ g : Nat, g < nF L ∧ L 7 j = (g : Int) := ⟨(L 7 j).toNat, by omega, by omega⟩
      obtain ⟨n, hn, en⟩ : ∃ n : Nat, n ≤ 20 ∧ L 6 j = (n : Int) := ⟨(L 6 j).toNat, by omega, by omega⟩
      have g7 : gI S (B + 7) j = nI g := by rw [h.g (inR_s (r := 7) (by omega) hj), eg, nI_iv]
      have g6 : gI S (B + 6) j = nI n := by rw [h.g (inR_s (r := 6) (by omega) hj), en, nI_iv]
      have g8 : gI S (B + 8) j = iv (L 8 j) := h.g (inR_s (r := 8) (by omega) hj)
      have g2 : gI S (B + 2) g = iv (L 2 g) := h.g (inR_f (r := 2) (by omega) hg)
      have hh := hdL_in hW g
      have nx := ih (j + 1) (by omega)
      rw [soR, kb_r (r := 7) (by omega), kb_r (r := 6) (by omega), kb_r (r := 8) (by omega), eg, en, kb_hd, kb_eI, Int.toNat_natCast, Int.toNat_natCast]
      refine blk_X2_isAsSeen_3 hB ⟨fun q => absurd q (by rw [gs]; exact nI_ge (by omega) (by omega)), fun q => ?_⟩
      rw [ix_cl (by omega), g7, ix_cl (by omega)]
      refine ⟨ix_in (by omega) (by omega), _, S, ev_heardAtN hB h hW g (by omega), ix_in (by omega) (by omega), fun q2 => ?_, fun q2 => ?_⟩
      · have hne : g ≠ f := fun z => q2 (by rw [z])
        have ei := eI_in hW hg (hdL L g) n
        rw [g6]
        refine ⟨_, S, ev_earsIf (by omega) hB h hW g hg _ (by omega) n (by omega), ix_in (by omega) (by omega), ?_⟩
        rw [g8, iv_eq (by unfold inB; omega) (by unfold inB; omega), if_neg hne]
        refine ⟨fun q3 => ?_, fun q3 => ?_⟩
        · rw [if_pos q3, nI_1]; exact nx
        · rw [if_neg q3]; exact ⟨rfl, rfl⟩
      · have e2 : g = f := Classical.byContradiction (fun z => nI_ne (by omega) (by omega) z q2)
        subst e2
        have ei := eB_in (k := k) (b := b) (h := hdL L g) wf.2.1 n
        rw [g6, g2]
        refine ⟨ix_in (by omega) (by omega), _, S, ev_earsBehind (by omega) S k (L 2 g) b (hdL L g) n (by unfold sm; omega) wf.2.1 hb (by omega) (by omega), ix_in (by omega) (by omega), ?_⟩
        rw [g8, iv_eq (by unfold inB; omega) (by unfold inB; omega), if_pos rfl]
        refine ⟨fun q3 => ?_, fun q3 => ?_⟩
        · rw [if_pos q3, nI_1]; exact nx
        · rw [if_neg q3]; exact ⟨rfl, rfl⟩
  exact key (nS L) 0 (by omega)
theorem wks_snoc {L : Lnd} : ∀ n, wks L (n + 1) = wk (wks L n) := by
  intro n
  induction n generalizing L with
  | zero => rfl
  | succ n ih => rw [wks, ih, wks]
theorem ix6 (t g : Nat) : (6 : Int32) * nI t + nI g = nI (6 * t + g) := by rw [show (6 : Int32) = nI 6 from rfl, pk_mul, nI_add]
theorem ixs (j : Nat) : (32 : Int32) + 3 * nI j = nI (32 + 3 * j) := by rw [show (3 : Int32) = nI 3 from rfl, show (32 : Int32) = nI 32 from rfl, pk_mul, nI_add]
theorem ixs1 (j : Nat) : nI (32 + 3 * j) + 1 = nI (32 + 3 * j + 1) := nI_1 _
theorem ixs2 (j : Nat) : nI (32 + 3 * j) + 2 = nI (32 + 3 * j + 2) := by rw [show (2 : Int32) = nI 2 from rfl, nI_add]
def HAD (S : ZSt) (L : Lnd) (t : Nat) : Prop := ∀ i, i < t → ∀ g, g < nF L → gI S 64 (6 * i + g) = iv (eI L g (hdL L g) i)
theorem ev_isSoWith {d : Nat} (hdp : 6 ≤ d) {S : ZSt} {L : Lnd} (hM : HoM S 58 0 L) (h : WFc L) {r f : Nat} (hr : r = 1 ∨ r = 3) (hf : f < nF L) (k : Nat) (h1 : r = 1 → k ≤ 3) (h3 : r = 3 → k ≤ 9) : zEv d mX7_isSoWith [.ref 57, .int (nI (mpos r f)), .int (nI k)] S (zY (some (.int (b01 (soR (updL L r f (k : Int)) (nS L) 0 = true)))) (fun S' => HAD S' (updL L r f (k : Int)) 21 ∧ FrI isP S S')) := by
  obtain ⟨d, rfl⟩ : ∃ d', d = d' + 1 := ⟨d - 1, by omega⟩
  have hn6 := h.1.nF
  have hnS := h.1.nS
  have hk : k ≤ 9 := by omega
  have hp : mpos r f < 50 := mpos_lt h.1.n (inR_f (by omega) hf)
  obtain ⟨L', hL'⟩ : ∃ L', L' = updL L r f (k : Int) := ⟨_, rfl⟩
  rw [← hL']
  obtain ⟨n1, n2, n3⟩ : nF L' = nF L ∧ nB L' = nB L ∧ nS L' = nS L := by rw [hL']; exact nn_upd (by omega)
  have W' : WF L' := by rw [hL']; exact WF_put h.1 (by omega) (fun q => by have := h1 q; omega) (by omega) (fun q => by omega) (by omega) (by omega) (by omega)
  have L13 : L' 0 13 ≤ 999 := by rw [hL', updL_ne _ _ _ _ (by omega)]; exact h.2.2
  have Lr : ∀ r' j, 6 ≤ r' → L' r' j = L r' j := fun r' j q => by rw [hL', updL_ne _ _ _ _ (by omega)]
  refine zEv.of cw_X7_isSoWith (Nat.le_of_ble_eq_true rfl) rfl (blk_X7_isSoWith_0 ⟨_, ev_starts hM h.1, fun S1 k1 => ⟨ix_in hp (by omega), ?_⟩⟩)
  rw [ix_cl (by omega)]
  have N1 : HoN (pI S1 59 (mpos r f) (nI k)) L' := by
    have := k1.1.putq h.1.n k1.2.2.1 (r := r) (j := f) (nI k) (inR_f (by omega) hf) (by omega)
    rw [nI_toInt (by omega), ← hL'] at this
    exact this
  have F1 : FrI isP S (pI S1 59 (mpos r f) (nI k)) := (k1.2.2.2.2.I st_is).pI _ (by unfold isP; omega)
  have key3 : ∀ (m j : Nat) (S2 : ZSt) (p : Bool), j + m = nS L → HAD S2 L' 21 → FrI isP S S2 → zSem (d + 1) mX7_isSoWith 75 [some (.ref 57), none, none, some (.int (b01 (p = true))), some (.int (nI j)), none] [] S2 (zY (some (.int (b01 ((p && soR L' m j) = true)))) (fun S' => HAD S' L' 21 ∧ FrI isP S S')) := by
    intro m
    induction m with
    | zero =>
      intro j S2 p hj H2 F2
      obtain rfl : j = nS L := by omega
      have M2 := hM.frI F2 is_58
      have gs : gI S2 58 31 = nI (nS L) := by rw [M2.s.2.2.1, hnS.2, nI_iv]
      rw [soR, Bool.and_true]
      exact blk_X7_isSoWith_75 ⟨fun q => ⟨b01_or _, rfl, H2, F2⟩, fun q => absurd (by rw [gs]; exact nI_le (by omega) (by omega)) q⟩
    | succ m ih =>
      intro j S2 p hjm H2 F2
      have hj : j < nS L := by omega
      have M2 := hM.frI F2 is_58
      have gs : gI S2 58 31 = nI (nS L) := by rw [M2.s.2.2.1, hnS.2, nI_iv]
      have w := h.1.s hj
      obtain ⟨g, hg, eg⟩ : ∃ g : Nat, g < nF L ∧ L 7 j = (g : Int) := ⟨(L 7 j).toNat, by omega, by omega⟩
      obtain ⟨n, hn, en⟩ : ∃ n : Nat, n ≤ 20 ∧ L 6 j = (n : Int) := ⟨(L 6 j).toNat, by omega, by omega⟩
      have g6 : gI S2 58 (32 + 3 * j) = nI n := by
        have := M2.g0 (inR_s (r := 6) (by omega) hj)
        rw [mpos_s (by omega), en, ← nI_iv] at this; exact this
      have g7 : gI S2 58 (32 + 3 * j + 1) = nI g := by
        have := M2.g0 (inR_s (r := 7) (by omega) hj)
        rw [mpos_s (by omega), eg, ← nI_iv] at this; exact this
      have g8 : gI S2 58 (32 + 3 * j + 2) = iv (L 8 j) := by
        have := M2.g0 (inR_s (r := 8) (by omega) hj)
        rw [mpos_s (by omega)] at this; exact this
      have hd2 := H2 n (by omega) g (by rw [n1]; exact hg)
      have ei := eI_in W' (f := g) (by rw [n1]; exact hg) (hdL L' g) n
      rw [soR, Lr 7 j (by omega), Lr 6 j (by omega), Lr 8 j (by omega), eg, en, Int.toNat_natCast, Int.toNat_natCast]
      refine blk_X7_isSoWith_75 ⟨fun q => absurd q (by rw [gs]; exact nI_ge (by omega) (by omega)), fun q => ?_⟩
      rw [nI_1]
      refine b01_if (fun q2 => ?_) (fun q2 => ?_)
      · have := ih (j + 1) S2 p (by omega) H2 F2
        have pf : p = false := by cases p with
          | true => exact absurd rfl q2
          | false => rfl
        rw [pf, Bool.false_and] at this
        rw [pf, Bool.false_and]
        exact this
      · rw [q2, ixs, ixs1, ixs2, ix_cl (by omega), ix_cl (by omega), ix_cl (by omega), g6, g7, g8, ix6, ix_cl (by omega), hd2, iv_eq (by unfold inB; omega) (by unfold inB; omega)]
        refine ⟨ix_in (by omega) (by omega), ix_in (by omega) (by omega), ix_in (by omega) (by omega), ix_in (by omega) (by omega), fun q3 => ?_, fun q3 => ?_⟩
        · have := ih (j + 1) S2 false (by omega) H2 F2
          rw [if_neg q3, Bool.and_false]
          rw [Bool.false_and] at this
          exact this
        · have := ih (j + 1) S2 true (by omega) H2 F2
          rw [if_pos q3]
          exact this
  have key1 : ∀ (m t : Nat) (S2 : ZSt), t + m = 21 → HoN S2 (wks L' t) → HAD S2 L' t → FrI isP S S2 → zSem (d + 1) mX7_isSoWith 13 [some (.ref 57), none, none, some (.int (nI t)), none, none] [] S2 (zY (some (.int (b01 (soR L' (nS L) 0 = true)))) (fun S' => HAD S' L' 21 ∧ FrI isP S S')) := by
    intro m
    induction m with
    | zero =>
      intro t S2 ht N2 H2 F2
      obtain rfl : t = 21 := by omega
      refine blk_X7_isSoWith_13 ⟨fun q => ?_, fun q => absurd (nI_lt (a := 20) (b := 21) (by omega) (by omega)) q⟩
      have := key3 (nS L) 0 S2 true (by omega) H2 F2
      rw [Bool.true_and] at this
      exact this
    | succ m ih =>
      intro t S2 htm N2 H2 F2
      refine blk_X7_isSoWith_13 ⟨fun q => absurd q (nI_nlt (a := 20) (b := t) (by omega) (by omega)), fun q => ?_⟩
      have Wt := wks_WF W' t
      have nt := wks_n (L := L') t
      have key2 : ∀ (m2 g : Nat) (S2 : ZSt), g + m2 = nF L → HoN S2 (wks L' t) → HAD S2 L' t → (∀ i, i < g → gI S2 64 (6 * t + i) = iv (eI L' i (hdL L' i) t)) → FrI isP S S2 → zSem (d + 1) mX7_isSoWith 22 [some (.ref 57), none, none, some (.int (nI t)), some (.int (nI g)), none] [] S2 (zY (some (.int (b01 (soR L' (nS L) 0 = true)))) (fun S' => HAD S' L' 21 ∧ FrI isP S S')) := by
        intro m2
        induction m2 with
        | zero =>
          intro g S2 hg N2 H2 T2 F2
          obtain rfl : g = nF L := by omega
          have gf : gI S2 59 18 = nI (nF L) := by rw [N2.s.1, Wt.nF.2, nt.1, n1, nI_iv]
          refine blk_X7_isSoWith_22 ⟨fun q => ⟨_, ev_weekGoes0 (by omega) N2 Wt (by rw [wks_13]; omega), fun S3 k3 => ?_⟩, fun q => absurd (by rw [gf]; exact nI_le (by omega) (by omega)) q⟩
          have f3 : FrI isP S S3 := F2.tr (k3.2.2.I md_is)
          rw [nI_1]
          refine ih (t + 1) S3 (by omega) ?_ ?_ f3
          · rw [wks_snoc]; exact k3.1
          · intro i hi g' hg'
            rw [k3.2.2.1 64 _ (by unfold mdP; omega)]
            by_cases q2 : i = t
            · subst q2; exact T2 g' (by omega)
            · exact H2 i (by omega) g' hg'
        | succ m2 ih2 =>
          intro g S2 hgm N2 H2 T2 F2
          have hg : g < nF L := by omega
          have gf : gI S2 59 18 = nI (nF L) := by rw [N2.s.1, Wt.nF.2, nt.1, n1, nI_iv]
          refine blk_X7_isSoWith_22 ⟨fun q => absurd q (by rw [gf]; exact nI_ge (by omega) (by omega)), fun q => ⟨_, S2, ev_of S2 g 1 (by omega), ?_⟩⟩
          rw [ix6, ix_cl (by omega), nI_1]
          have g1 := (N2.g1 (f := g) (by rw [nt.1, n1]; exact hg)).2.1
          rw [wks_2 (by rw [n1]; exact hg)] at g1
          refine ⟨ix_in (by omega) (by omega), ih2 (g + 1) _ (by omega) ?_ ?_ ?_ (F2.pI _ (by unfold isP; omega))⟩
          · exact N2.fr ((Fr.rf (fun k _ => k = 64) S2).pI _ rfl) (by omega) (fun j => by omega)
          · intro i hi g' hg'
            rw [gI_pI, if_neg (by omega)]; exact H2 i hi g' hg'
          · intro i hi
            rw [gI_pI]
            by_cases q2 : i = g
            · subst q2; rw [if_pos ⟨rfl, rfl⟩, g1]
            · rw [if_neg (by omega)]; exact T2 i (by omega)
      exact key2 (nF L) 0 S2 (by omega) N2 H2 (fun i hi => absurd hi (by omega)) F2
  exact key1 21 0 _ (by omega) N1 (fun i hi => absurd hi (by omega)) F1
