/-! need, bear, kind -/
theorem hd_upd5 {L : Lnd} (b : Nat) (x g : Int) : ∀ m, hd (updL L 5 b x) g m = hd L g m + (if b < m ∧ L 4 b = g then x - L 5 b else 0)
  | 0 => by rw [hd, hd, if_neg (by omega)]; rfl
  | m + 1 => by
    rw [hd, hd, hd_upd5 b x g m, updL_ne _ _ _ _ (by omega)]
    by_cases q : m = b
    · subst q
      rw [updL_at, if_neg (show ¬ (m < m ∧ L 4 m = g) by omega)]
      by_cases q2 : L 4 m = g
      · rw [if_pos q2, if_pos q2, if_pos ⟨by omega, q2⟩]; omega
      · rw [if_neg q2, if_neg q2, if_neg (fun z => q2 z.2)]
    · have e : (b < m ∧ L 4 b = g) ↔ (b < m + 1 ∧ L 4 b = g) := ⟨fun z => ⟨by omega, z.2⟩, fun z => ⟨by omega, z.2⟩⟩
      rw [updL_ne _ _ _ _ (by omega)]
      simp only [e]
      rw [Int.add_right_comm]
theorem hdL_upd5 {L : Lnd} {b : Nat} (hb : b < nB L) (x g : Int) : hdL (updL L 5 b x) g = hdL L g + (if L 4 b = g then x - L 5 b else 0) := by
  have e : nB (updL L 5 b x) = nB L := by unfold nB; rw [updL_ne _ _ _ _ (by omega)]
  unfold hdL
  rw [e, hd_upd5]
  by_cases q : L 4 b = g
  · rw [if_pos ⟨hb, q⟩, if_pos q]
  · rw [if_neg (fun z => q z.2), if_neg q]
theorem nn_upd {L : Lnd} {r j : Nat} {z : Int} (h : ¬ (r = 0 ∧ j ≤ 10)) : nF (updL L r j z) = nF L ∧ nB (updL L r j z) = nB L ∧ nS (updL L r j z) = nS L := by
  unfold nF nB nS; rw [updL_ne _ _ _ _ (by omega), updL_ne _ _ _ _ (by omega), updL_ne _ _ _ _ (by omega)]; exact ⟨rfl, rfl, rfl⟩
theorem pub_need {L : Lnd} (h : WFc L) (v1 v2 v3 : Int32) : Both mX6_need mX7_need [.int v1, .int v2, .int v3] L := by
  by_cases c : (0 ≤ v1.toInt ∧ v1.toInt ≤ L 0 9 - 1) ∧ ((0 : Int) ≤ v2.toInt ∧ v2.toInt ≤ 60) ∧ ((0 : Int) ≤ v3.toInt ∧ v3.toInt ≤ 99)
  · obtain ⟨b, hb, rfl⟩ := isB_of h.1 c.1
    obtain ⟨n, hn, rfl⟩ := toNat_of (n := 61) c.2.1.1 (by omega)
    have hn4 := h.1.nB.1
    have hn6 := h.1.nF
    have wb := h.1.b hb
    obtain ⟨f, hf, ef⟩ : ∃ f : Nat, f < nF L ∧ L 4 b = (f : Int) := ⟨(L 4 b).toNat, by omega, by omega⟩
    have hh := hdL_in h.1 f
    have hhb : 0 ≤ hdL L f - L 5 b := by
      have e := hdL_upd5 hb 0 (f : Int)
      rw [if_pos ef] at e
      have := hdL_in (WF_put h.1 (r := 5) (j := b) (z := 0) (by omega) (by omega) (by omega) (by omega) (by omega) (by omega) (by omega)) f
      omega
    have lt : ∀ n x, iv (eI L f x n) < v3 ↔ eI L f x n < v3.toInt := fun n x => by
      have := eI_in h.1 hf x n
      rw [Int32.lt_iff_toInt_lt, iv_toInt (by unfold inB; omega)]
    refine ⟨srch (fun k => ¬ eI L f (hdL L f - L 5 b + k) n < v3.toInt) 9 1, L, fun d S hd hC => ?_, fun d S hd hM => ?_, h⟩
    · obtain ⟨d, rfl, hd⟩ := dsucc hd
      have g5 : gI S 5 b = nI f := by rw [show gI S 5 b = iv (L 4 b) from hC.g (inR_b (r := 4) (by omega) hb), ef, nI_iv]
      have g6 : gI S 6 b = iv (L 5 b) := hC.g (inR_b (r := 5) (by omega) hb)
      refine zEv.of cw_X6_need (Nat.le_of_ble_eq_true rfl) rfl (blk_X6_need_0 ⟨_, S, ev_isBand (by omega) hC h.1 _, b01_if (fun q => absurd c.1 q) (fun _ => ⟨_, S, ev_within S _ 0 60, b01_if (fun q => absurd c.2.1 q) (fun _ => ⟨_, S, ev_within S v3 0 99, b01_if' (fun _ => ⟨ix_in (by omega) (by omega), iv (hdL L f), S, ?_, ix_in (by omega) (by omega), ?_⟩) (fun q => absurd c.2.2 q)⟩)⟩)⟩)
      · rw [ix_cl (by omega), g5]
        exact ev_heardAtN zLd_1 hC h.1 f (by omega)
      · rw [ix_cl (by omega), g5, g6, iv_sub]
        have key : ∀ (m j : Nat), j + m = 10 → zSem (d + 1) mX6_need 65 [some (.ref 0), none, some (.int (nI n)), some (.int v3), some (.int (nI f)), some (.int (iv (hdL L f - L 5 b))), some (.int (nI j))] [] S (zY (some (.int (srch (fun k => ¬ eI L f (hdL L f - L 5 b + k) n < v3.toInt) m j))) (fun S' => HoC S' 1 L ∧ FrI clsP S S')) := by
          intro m
          induction m with
          | zero =>
            intro j hj
            refine blk_X6_need_65 ⟨fun q => ⟨rfl, hC, FrI.rf _ _⟩, fun q => absurd (nI_lt (a := 9) (b := j) (by omega) (by omega)) q⟩
          | succ m ih =>
            intro j hj
            rw [srch]
            refine blk_X6_need_65 ⟨fun q => absurd q (nI_nlt (a := 9) (b := j) (by omega) (by omega)), fun q => ⟨iv (eI L f (hdL L f - L 5 b + j) n), S, ?_, fun q2 => ?_, fun q2 => ?_⟩⟩
            · rw [nI_iv j, iv_add]
              exact ev_earsIf (by omega) zLd_1 hC h.1 f hf _ (by omega) n (by omega)
            · rw [if_neg (fun z => z ((lt n _).mp q2)), nI_1]
              exact ih (j + 1) (by omega)
            · rw [if_pos (fun z => q2 ((lt n _).mpr z))]
              exact ⟨rfl, hC, FrI.rf _ _⟩
        exact key 9 1 (by omega)
    · obtain ⟨d, rfl, hd⟩ := dsucc hd
      refine zEv.of cw_X7_need (Nat.le_of_ble_eq_true rfl) rfl (blk_X7_need_0 ⟨_, S, ev_isBand7 (by omega) hM h.1 _, b01_if (fun q => absurd c.1 q) (fun _ => ⟨_, S, ev_isFar (by omega) S _, b01_if (fun q => absurd c.2.1 q) (fun _ => ⟨_, S, ev_areEars (by omega) S v3, b01_if' (fun _ => ?_) (fun q => absurd c.2.2 q)⟩)⟩)⟩)
      have key : ∀ (m j : Nat) (S1 : ZSt), 1 ≤ j → j + m = 10 → FrI nwP S S1 → zSem (d + 1) mX7_need 27 [some (.ref 57), some (.int (nI b)), some (.int (nI n)), some (.int v3), some (.int (nI j))] [] S1 (zY (some (.int (srch (fun k => ¬ eI L f (hdL L f - L 5 b + k) n < v3.toInt) m j))) (fun S' => HoM S' 58 0 L ∧ FrI modP S S')) := by
        intro m
        induction m with
        | zero =>
          intro j S1 hj0 hj f1
          refine blk_X7_need_27 ⟨fun q => ⟨rfl, hM.frI f1 nw_58, f1.mono nw_mod⟩, fun q => absurd (nI_lt (a := 9) (b := j) (by omega) (by omega)) q⟩
        | succ m ih =>
          intro j S1 hj0 hj f1
          rw [srch]
          have M1 := hM.frI f1 nw_58
          have W5 : WF (updL L 5 b (j : Int)) := WF_put h.1 (by omega) (by omega) (by omega) (by omega) (by omega) (fun _ => by omega) (by omega)
          obtain ⟨m1, m2, m3⟩ := nn_upd (L := L) (r := 5) (j := b) (z := (j : Int)) (by omega)
          refine blk_X7_need_27 ⟨fun q => absurd q (nI_nlt (a := 9) (b := j) (by omega) (by omega)), fun q => ⟨_, ev_starts M1 h.1, fun S2 k2 => ⟨_, ev_bandBecomes S2 b 1 _ (by omega), fun S3 k3 => ?_⟩⟩⟩
          have a3 : HoN S3 (updL L 5 b (j : Int)) := by
            have := k2.1.putq h.1.n k2.2.2.1 (r := 5) (j := b) (nI j) (inR_b (by omega) hb) (by omega)
            rw [mpos_b (by omega), nI_toInt (by omega)] at this
            rw [k3]; exact this
          have f3 : FrI nwP S S3 := by rw [k3]; exact (f1.tr (k2.2.2.2.2.I st_nw)).pI _ (by unfold nwP; omega)
          refine ⟨_, ev_weeksGo (by omega) a3 W5 n (by omega) (by rw [updL_ne _ _ _ _ (by omega)]; exact wks_bound h), fun S4 k4 => ⟨_, S4, ev_ofBand S4 b 0 (by omega), iv (eI L f (hdL L f - L 5 b + j) n), S4, ?_, ?_⟩⟩
          · have hb4 : b < nB (wks (updL L 5 b (j : Int)) n) := by rw [(wks_n n).2.1, m2]; exact hb
            have g4 := k4.1.g (inR_b (r := 4) (by omega) hb4) (by omega)
            rw [mpos_b (by omega), wks_r (by omega), updL_ne _ _ _ _ (by omega), ef, ← nI_iv] at g4
            have hf4 : f < nF (wks (updL L 5 b (j : Int)) n) := by rw [(wks_n n).1, m1]; exact hf
            have g := (k4.1.g1 hf4).2.1
            rw [wks_2 (by rw [m1]; exact hf), hdL_upd5 hb, if_pos ef] at g
            rw [show 19 + 2 * b + 0 = 19 + 2 * b + (4 - 4) from rfl, g4]
            have e := ev_of (d := d) S4 f 1 (by omega)
            rw [g] at e
            unfold eI at e ⊢
            rw [updL_ne _ _ _ _ (by omega), updL_ne _ _ _ _ (by omega), updL_ne _ _ _ _ (by omega), show hdL L f + ((j : Int) - L 5 b) = hdL L f - L 5 b + j by omega] at e
            exact e
          · have f4 : FrI nwP S S4 := f3.tr (k4.2.2.I md_nw)
            refine ⟨fun q2 => ?_, fun q2 => ?_⟩
            · rw [if_neg (fun z => z ((lt n _).mp q2)), nI_1]
              exact ih (j + 1) S4 (by omega) (by omega) f4
            · rw [if_pos (fun z => q2 ((lt n _).mpr z))]
              exact ⟨rfl, hM.frI f4 nw_58, f4.mono nw_mod⟩
      exact key 9 1 S (by omega) (by omega) (FrI.rf _ _)
  · refine ⟨-1, L, fun d S hd hC => ?_, fun d S hd hM => ?_, h⟩
    · obtain ⟨d, rfl, hd⟩ := dsucc hd
      exact zEv.of cw_X6_need (Nat.le_of_ble_eq_true rfl) rfl (blk_X6_need_0 ⟨_, S, ev_isBand (by omega) hC h.1 _, b01_if (fun _ => ⟨rfl, hC, FrI.rf _ _⟩) (fun q => ⟨_, S, ev_within S _ 0 60, b01_if (fun _ => ⟨rfl, hC, FrI.rf _ _⟩) (fun q2 => ⟨_, S, ev_within S v3 0 99, b01_if' (fun q3 => absurd ⟨q, q2, q3⟩ c) (fun _ => ⟨rfl, hC, FrI.rf _ _⟩)⟩)⟩)⟩)
    · obtain ⟨d, rfl, hd⟩ := dsucc hd
      exact zEv.of cw_X7_need (Nat.le_of_ble_eq_true rfl) rfl (blk_X7_need_0 ⟨_, S, ev_isBand7 (by omega) hM h.1 _, b01_if (fun _ => ⟨rfl, hM, FrI.rf _ _⟩) (fun q => ⟨_, S, ev_isFar (by omega) S _, b01_if (fun _ => ⟨rfl, hM, FrI.rf _ _⟩) (fun q2 => ⟨_, S, ev_areEars (by omega) S v3, b01_if' (fun q3 => absurd ⟨q, q2, q3⟩ c) (fun _ => ⟨rfl, hM, FrI.rf _ _⟩)⟩)⟩)⟩)
/-- the last of m from below: the first met on the way down -/
def srchD (p : Nat → Prop) [DecidablePred p] : Nat → Int32
  | 0 => -4
  | m + 1 => if p m then nI m else srchD p m
theorem hdL_upd3 {L : Lnd} (r j : Nat) (z g : Int) (hr : r ≠ 4 ∧ r ≠ 5 ∧ r ≠ 0) : hdL (updL L r j z) g = hdL L g := hdL_eq (fun i => updL_ne _ _ _ _ (by omega)) (fun i => updL_ne _ _ _ _ (by omega)) (updL_ne _ _ _ _ (by omega)) g
theorem pub_bear {L : Lnd} (h : WFc L) (v1 v2 v3 : Int32) : Both mX6_bear mX7_bear [.int v1, .int v2, .int v3] L := by
  by_cases c : (0 ≤ v1.toInt ∧ v1.toInt ≤ L 0 8 - 1) ∧ ((0 : Int) ≤ v2.toInt ∧ v2.toInt ≤ 60) ∧ ((0 : Int) ≤ v3.toInt ∧ v3.toInt ≤ 99)
  · obtain ⟨f, hf, rfl⟩ := isF_of h.1 c.1
    obtain ⟨n, hn, rfl⟩ := toNat_of (n := 61) c.2.1.1 (by omega)
    have hn6 := h.1.nF.1
    have w := h.1.f hf
    have hh := hdL_in h.1 f
    have ein : ∀ k : Int, 0 ≤ eB (L 1 f) (L 2 f) k (hdL L f) n ∧ eB (L 1 f) (L 2 f) k (hdL L f) n ≤ 99 := fun k => eB_in w.2.1 n
    have lt : ∀ k : Int, iv (eB (L 1 f) (L 2 f) k (hdL L f) n) < v3 ↔ eB (L 1 f) (L 2 f) k (hdL L f) n < v3.toInt := fun k => by
      have := ein k
      rw [Int32.lt_iff_toInt_lt, iv_toInt (by unfold inB; omega)]
    refine ⟨srchD (fun k => ¬ eB (L 1 f) (L 2 f) k (hdL L f) n < v3.toInt) 10, L, fun d S hd hC => ?_, fun d S hd hM => ?_, h⟩
    · obtain ⟨d, rfl, hd⟩ := dsucc hd
      have g2 : gI S 2 f = iv (L 1 f) := hC.g (inR_f (r := 1) (by omega) hf)
      have g3 : gI S 3 f = iv (L 2 f) := hC.g (inR_f (r := 2) (by omega) hf)
      refine zEv.of cw_X6_bear (Nat.le_of_ble_eq_true rfl) rfl (blk_X6_bear_0 ⟨_, S, ev_isField (by omega) hC h.1 _, b01_if (fun q => absurd c.1 q) (fun _ => ⟨_, S, ev_within S _ 0 60, b01_if (fun q => absurd c.2.1 q) (fun _ => ⟨_, S, ev_within S v3 0 99, b01_if' (fun _ => ⟨_, S, ev_heardAtN zLd_1 hC h.1 f (by omega), ?_⟩) (fun q => absurd c.2.2 q)⟩)⟩)⟩)
      have key : ∀ (m : Nat), m ≤ 10 → zSem (d + 1) mX6_bear 44 [some (.ref 0), some (.int (nI f)), some (.int (nI n)), some (.int v3), some (.int (iv (hdL L f))), some (.int (iv ((m : Int) - 1)))] [] S (zY (some (.int (srchD (fun k => ¬ eB (L 1 f) (L 2 f) k (hdL L f) n < v3.toInt) m))) (fun S' => HoC S' 1 L ∧ FrI clsP S S')) := by
        intro m
        induction m with
        | zero =>
          intro hm
          refine blk_X6_bear_44 ⟨fun q => ⟨rfl, hC, FrI.rf _ _⟩, fun q => absurd (by decide) q⟩
        | succ m ih =>
          intro hm
          rw [show ((m + 1 : Nat) : Int) - 1 = (m : Int) by omega, srchD]
          have q0 : ¬ iv (m : Int) < 0 := by rw [k0, iv_lt (by unfold inB; omega) (by unfold inB; omega)]; omega
          refine blk_X6_bear_44 ⟨fun q => absurd q q0, fun q => ⟨ix_in (by omega) (by omega), ix_in (by omega) (by omega), iv (eB (L 1 f) (L 2 f) m (hdL L f) n), S, ?_, fun q2 => ?_, fun q2 => ?_⟩⟩
          · rw [ix_cl (by omega), g2, g3]
            exact ev_earsBehind (by omega) S _ _ _ _ n (by unfold sm; omega) w.2.1 (by omega) (by omega) (by omega)
          · rw [if_neg (fun z => z ((lt m).mp q2)), km1, iv_add]
            exact ih (by omega)
          · rw [if_pos (fun z => q2 ((lt m).mpr z)), nI_iv]
            exact ⟨rfl, hC, FrI.rf _ _⟩
      exact key 10 (by omega)
    · obtain ⟨d, rfl, hd⟩ := dsucc hd
      refine zEv.of cw_X7_bear (Nat.le_of_ble_eq_true rfl) rfl (blk_X7_bear_0 ⟨_, S, ev_isField7 (by omega) hM h.1 _, b01_if (fun q => absurd c.1 q) (fun _ => ⟨_, S, ev_isFar (by omega) S _, b01_if (fun q => absurd c.2.1 q) (fun _ => ⟨_, S, ev_areEars (by omega) S v3, b01_if' (fun _ => ?_) (fun q => absurd c.2.2 q)⟩)⟩)⟩)
      have key : ∀ (m : Nat) (S1 : ZSt), m ≤ 10 → FrI nwP S S1 → zSem (d + 1) mX7_bear 28 [some (.ref 57), some (.int (nI f)), some (.int (nI n)), some (.int v3), some (.int (iv ((m : Int) - 1)))] [] S1 (zY (some (.int (srchD (fun k => ¬ eB (L 1 f) (L 2 f) k (hdL L f) n < v3.toInt) m))) (fun S' => HoM S' 58 0 L ∧ FrI modP S S')) := by
        intro m
        induction m with
        | zero =>
          intro S1 hm f1
          refine blk_X7_bear_28 ⟨fun q => ⟨rfl, hM.frI f1 nw_58, f1.mono nw_mod⟩, fun q => absurd (by decide) q⟩
        | succ m ih =>
          intro S1 hm f1
          rw [show ((m + 1 : Nat) : Int) - 1 = (m : Int) by omega, srchD]
          have q0 : ¬ iv (m : Int) < 0 := by rw [k0, iv_lt (by unfold inB; omega) (by unfold inB; omega)]; omega
          have M1 := hM.frI f1 nw_58
          have W5 : WF (updL L 3 f (m : Int)) := WF_put h.1 (by omega) (by omega) (by omega) (fun _ => by omega) (by omega) (by omega) (by omega)
          obtain ⟨m1, m2, m3⟩ := nn_upd (L := L) (r := 3) (j := f) (z := (m : Int)) (by omega)
          refine blk_X7_bear_28 ⟨fun q => absurd q q0, fun q => ⟨_, ev_starts M1 h.1, fun S2 k2 => ⟨_, ev_becomesOf S2 f 2 _ (by omega), fun S3 k3 => ?_⟩⟩⟩
          have a3 : HoN S3 (updL L 3 f (m : Int)) := by
            have := k2.1.putq h.1.n k2.2.2.1 (r := 3) (j := f) (iv (m : Int)) (inR_f (by omega) hf) (by omega)
            rw [mpos_f (by omega), iv_toInt (by unfold inB; omega)] at this
            rw [k3]; exact this
          have f3 : FrI nwP S S3 := by rw [k3]; exact (f1.tr (k2.2.2.2.2.I st_nw)).pI _ (by unfold nwP; omega)
          refine ⟨_, ev_weeksGo (by omega) a3 W5 n (by omega) (by rw [updL_ne _ _ _ _ (by omega)]; exact wks_bound h), fun S4 k4 => ⟨iv (eB (L 1 f) (L 2 f) m (hdL L f) n), S4, ?_, ?_⟩⟩
          · have hf4 : f < nF (wks (updL L 3 f (m : Int)) n) := by rw [(wks_n n).1, m1]; exact hf
            have g := (k4.1.g1 hf4).2.1
            rw [wks_2 (by rw [m1]; exact hf), hdL_upd3 _ _ _ _ (by omega)] at g
            unfold eI at g
            rw [updL_ne _ _ _ _ (by omega), updL_ne _ _ _ _ (by omega), updL_at] at g
            have e := ev_of (d := d) S4 f 1 (by omega)
            rw [g] at e
            exact e
          · have f4 : FrI nwP S S4 := f3.tr (k4.2.2.I md_nw)
            refine ⟨fun q2 => ?_, fun q2 => ?_⟩
            · rw [if_neg (fun z => z ((lt m).mp q2)), km1, iv_add]
              exact ih S4 (by omega) f4
            · rw [if_pos (fun z => q2 ((lt m).mpr z)), nI_iv]
              exact ⟨rfl, hM.frI f4 nw_58, f4.mono nw_mod⟩
      exact key 10 S (by omega) (FrI.rf _ _)
  · refine ⟨-1, L, fun d S hd hC => ?_, fun d S hd hM => ?_, h⟩
    · obtain ⟨d, rfl, hd⟩ := dsucc hd
      exact zEv.of cw_X6_bear (Nat.le_of_ble_eq_true rfl) rfl (blk_X6_bear_0 ⟨_, S, ev_isField (by omega) hC h.1 _, b01_if (fun _ => ⟨rfl, hC, FrI.rf _ _⟩) (fun q => ⟨_, S, ev_within S _ 0 60, b01_if (fun _ => ⟨rfl, hC, FrI.rf _ _⟩) (fun q2 => ⟨_, S, ev_within S v3 0 99, b01_if' (fun q3 => absurd ⟨q, q2, q3⟩ c) (fun _ => ⟨rfl, hC, FrI.rf _ _⟩)⟩)⟩)⟩)
    · obtain ⟨d, rfl, hd⟩ := dsucc hd
      exact zEv.of cw_X7_bear (Nat.le_of_ble_eq_true rfl) rfl (blk_X7_bear_0 ⟨_, S, ev_isField7 (by omega) hM h.1 _, b01_if (fun _ => ⟨rfl, hM, FrI.rf _ _⟩) (fun q => ⟨_, S, ev_isFar (by omega) S _, b01_if (fun _ => ⟨rfl, hM, FrI.rf _ _⟩) (fun q2 => ⟨_, S, ev_areEars (by omega) S v3, b01_if' (fun q3 => absurd ⟨q, q2, q3⟩ c) (fun _ => ⟨rfl, hM, FrI.rf _ _⟩)⟩)⟩)⟩)
