/-! weeks, ahead, late, need, bear -/
theorem HoM.frI {S S' : ZSt} {L : Lnd} {P : Nat → Nat → Prop} (h : HoM S 58 0 L) (hf : FrI P S S') (hp : ∀ i, ¬ P 58 i) : HoM S' 58 0 L := by
  intro r j hr
  unfold zi
  rw [hf _ _ (hp _)]
  exact h r j hr
theorem HoC.frI {S S' : ZSt} {B : Nat} {L : Lnd} {P : Nat → Nat → Prop} (h : HoC S B L) (hf : FrI P S S') (hp : ∀ r j, r ≤ 8 → ¬ P (B + r) j) : HoC S' B L := by
  intro r j hr
  have : r ≤ 8 := by unfold inR at hr; omega
  unfold zi
  rw [hf _ _ (hp r j this)]
  exact h r j hr
/-- what the reference's questions write: 'now' and its own numbers -/
def nwP : Nat → Nat → Prop := fun k i => k = 59 ∨ (63 ≤ k ∧ k ≤ 65) ∨ (k = 57 ∧ 14 ≤ i ∧ i ≤ 17)
theorem nw_mod : ∀ k j, nwP k j → modP k j := fun k j h => by unfold nwP at h; unfold modP; omega
theorem nw_58 : ∀ i, ¬ nwP 58 i := fun i h => by unfold nwP at h; omega
theorem st_nw : ∀ k j, stP k j → nwP k j := fun k j h => by unfold stP at h; unfold nwP; omega
theorem md_nw : ∀ k j, mdP k j → nwP k j := fun k j h => by unfold mdP at h; unfold nwP; omega
theorem FrI.mono {P P' : Nat → Nat → Prop} {S S1 : ZSt} (h : FrI P S S1) (hp : ∀ k j, P k j → P' k j) : FrI P' S S1 := fun k j q => h k j (fun z => q (hp k j z))
/-- 'now' with any number changed, no band being quiet -/
theorem HoN.putq {S : ZSt} {L : Lnd} (h : HoN S L) (hn : nF L ≤ 6 ∧ nB L ≤ 4 ∧ nS L ≤ 6) (hq : gI S 57 14 = -4) {r j : Nat} (x : Int32) (hr : inR L r j) (h0 : ¬ (r = 0 ∧ j ≤ 10)) : HoN (pI S 59 (mpos r j) x) (updL L r j x.toInt) := by
  have e8 : updL L r j x.toInt 0 8 = L 0 8 := updL_ne _ _ _ _ (by omega)
  have e9 : updL L r j x.toInt 0 9 = L 0 9 := updL_ne _ _ _ _ (by omega)
  have e10 : updL L r j x.toInt 0 10 = L 0 10 := updL_ne _ _ _ _ (by omega)
  have q1 : zi S 57 14 = -4 := by unfold zi; rw [hq]; rfl
  have q2 : zi (pI S 59 (mpos r j) x) 57 14 = -4 := by unfold zi; rw [gI_pI, if_neg (by omega), hq]; rfl
  intro r' j' hr'
  have hr2 : inR L r' j' := by
    unfold inR nF nB nS at hr' ⊢
    rw [e8, e9, e10] at hr'
    exact hr'
  rw [q2]
  refine ⟨fun w => absurd w.2 (by omega), fun _ => ?_⟩
  have hh := (h r' j' hr2).2 (by rw [q1]; omega)
  unfold zi at hh ⊢
  rw [gI_pI]
  by_cases q : r' = r ∧ j' = j
  · obtain ⟨rfl, rfl⟩ := q
    rw [updL_at, if_pos ⟨rfl, rfl⟩]
  · rw [updL_ne _ _ _ _ q, if_neg (fun w2 => q (mpos_inj hn hr2 hr w2.2))]
    exact hh
theorem wks_bound {L : Lnd} (h : WFc L) : L 0 13 ≤ 100000 := by have := h.2.2; omega
theorem ev_settles {d : Nat} {S : ZSt} {L : Lnd} (h : HoN S L) (hq : gI S 57 14 = -4) (hW : WF L) : zEv d mX7_settles [.ref 57] S (zY none (fun S' => HoM S' 58 0 L ∧ FrI modP S S')) := by
  refine zEv.of cw_X7_settles (Nat.le_of_ble_eq_true rfl) rfl (blk_X7_settles_0 ?_)
  have q1 : zi S 57 14 = -4 := by unfold zi; rw [hq]; rfl
  have key : ∀ (m j : Nat) (S1 : ZSt), j + m = 50 → (∀ i, i < j → gI S1 58 i = gI S 59 i) → (∀ i, gI S1 59 i = gI S 59 i) → FrI modP S S1 → zSem d mX7_settles 2 [some (.ref 57), some (.int (nI j))] [] S1 (zY none (fun S' => HoM S' 58 0 L ∧ FrI modP S S')) := by
    intro m
    induction m with
    | zero =>
      intro j S1 hj h1 h2 f1
      obtain rfl : j = 50 := by omega
      refine blk_X7_settles_2 ⟨fun c => ⟨rfl, fun r i hr => ?_, f1⟩, fun c => absurd (nI_le (a := 50) (b := 50) (by omega) (by omega)) c⟩
      have hlt := mpos_lt hW.n hr
      have := (h r i hr).2 (by rw [q1]; omega)
      unfold zi at this ⊢
      rw [Nat.zero_add, h1 _ hlt]
      exact this
    | succ m ih =>
      intro j S1 hj h1 h2 f1
      refine blk_X7_settles_2 ⟨fun c => absurd c (nI_ge (a := j) (b := 50) (by omega) (by omega)), fun c => ⟨ix_in (by omega) (by omega), ix_in (by omega) (by omega), ?_⟩⟩
      rw [ix_cl (by omega), nI_1]
      refine ih (j + 1) _ (by omega) (fun i hi => ?_) (fun i => ?_) (f1.pI _ (by unfold modP; omega))
      · rw [gI_pI]
        by_cases q : i = j
        · subst q; rw [if_pos ⟨rfl, rfl⟩]; exact h2 i
        · rw [if_neg (by omega)]; exact h1 i (by omega)
      · rw [gI_pI, if_neg (by omega)]; exact h2 i
  exact key 50 0 S (by omega) (fun i hi => absurd hi (by omega)) (fun _ => rfl) (FrI.rf _ _)
theorem pub_weeks {L : Lnd} (h : WFc L) (v : Int32) : Both mX6_weeks mX7_weeks [.int v] L := by
  have w13 := h.1.2.2.2.2.2.1
  have w13' := h.2.2
  by_cases c : (0 : Int) ≤ v.toInt ∧ v.toInt ≤ 30
  · obtain ⟨n, hn, rfl⟩ := toNat_of (n := 31) c.1 (by omega)
    have c3 : iv (L 0 13) + nI n < 1000 ↔ L 0 13 + n < 1000 := by rw [nI_iv, iv_add]; exact iv_lt (a := L 0 13 + n) (b := 1000) (by unfold inB; omega) (by unfold inB; omega)
    have c4 : iv (L 0 13) + nI n ≤ 999 ↔ L 0 13 + n ≤ 999 := by rw [nI_iv, iv_add]; exact iv_le (a := L 0 13 + n) (b := 999) (by unfold inB; omega) (by unfold inB; omega)
    by_cases c2 : L 0 13 + n < 1000
    · refine ⟨iv (aE L n), wks L n, fun d S hd hC => ?_, fun d S hd hM => ?_, ⟨wks_WF h.1 n, fun b hb => ?_, ?_⟩⟩
      · obtain ⟨d, rfl, hd⟩ := dsucc hd
        refine zEv.of cw_X6_weeks (Nat.le_of_ble_eq_true rfl) rfl (blk_X6_weeks_0 ⟨_, S, ev_within S _ 0 30, b01_if' (fun _ => ⟨fun _ => ⟨_, _, ev_passWeeks (by omega) zLd_1 hC h.1 n (by omega) (wks_bound h), fun S4 k4 => ⟨_, S4, ev_allEars (by omega) zLd_1 k4.1 (wks_WF h.1 n), ?_, k4.1, k4.2.I ld1_cls⟩⟩, fun q => ?_⟩) (fun q => absurd c q)⟩)
        · rw [aE_wks]
        · rw [hC.g0 (by omega)] at q
          exact absurd (c3.mpr c2) q
      · obtain ⟨d, rfl, hd⟩ := dsucc hd
        refine zEv.of cw_X7_weeks (Nat.le_of_ble_eq_true rfl) rfl (blk_X7_weeks_0 ⟨_, S, ev_inI S _ 0 30 0 30 rfl rfl, b01_if' (fun _ => ⟨fun _ => ⟨_, ev_starts hM h.1, fun S4 k4 => ⟨_, _, ev_earsBehind7 (by omega) k4.1 h.1 n (by omega) (wks_bound h), fun S5 k5 => ⟨_, ev_settles k5.1 ?_ (wks_WF h.1 n), fun S6 k6 => ⟨rfl, k6.1, ((k4.2.2.2.2.I st_mod).tr (k5.2.2.I md_mod)).tr k6.2⟩⟩⟩⟩, fun q => ?_⟩) (fun q => absurd c q)⟩)
        · rw [k5.2.2.1 57 14 (by unfold mdP; omega)]; exact k4.2.2.1
        · rw [hM.s.2.2.2.2.2] at q
          exact absurd (c4.mpr (by omega)) q
      · rw [wks_r (by omega)]; rw [(wks_n n).2.1] at hb; exact h.2.1 b hb
      · rw [wks_13]; omega
    · refine ⟨-3, L, fun d S hd hC => ?_, fun d S hd hM => ?_, h⟩
      · obtain ⟨d, rfl, hd⟩ := dsucc hd
        refine zEv.of cw_X6_weeks (Nat.le_of_ble_eq_true rfl) rfl (blk_X6_weeks_0 ⟨_, S, ev_within S _ 0 30, b01_if' (fun _ => ⟨fun q => ?_, fun q => ⟨rfl, hC, FrI.rf _ _⟩⟩) (fun q => absurd c q)⟩)
        rw [hC.g0 (by omega)] at q
        exact absurd (c3.mp q) c2
      · obtain ⟨d, rfl, hd⟩ := dsucc hd
        refine zEv.of cw_X7_weeks (Nat.le_of_ble_eq_true rfl) rfl (blk_X7_weeks_0 ⟨_, S, ev_inI S _ 0 30 0 30 rfl rfl, b01_if' (fun _ => ⟨fun q => ?_, fun q => ⟨rfl, hM, FrI.rf _ _⟩⟩) (fun q => absurd c q)⟩)
        rw [hM.s.2.2.2.2.2] at q
        have := c4.mp q
        omega
  · refine ⟨-1, L, fun d S hd hC => ?_, fun d S hd hM => ?_, h⟩
    · obtain ⟨d, rfl, hd⟩ := dsucc hd
      exact zEv.of cw_X6_weeks (Nat.le_of_ble_eq_true rfl) rfl (blk_X6_weeks_0 ⟨_, S, ev_within S v 0 30, b01_if' (fun q => absurd q c) (fun _ => ⟨rfl, hC, FrI.rf _ _⟩)⟩)
    · obtain ⟨d, rfl, hd⟩ := dsucc hd
      exact zEv.of cw_X7_weeks (Nat.le_of_ble_eq_true rfl) rfl (blk_X7_weeks_0 ⟨_, S, ev_inI S v 0 30 0 30 rfl rfl, b01_if' (fun q => absurd q c) (fun _ => ⟨rfl, hM, FrI.rf _ _⟩)⟩)
theorem pub_ahead {L : Lnd} (h : WFc L) (v1 v2 v3 : Int32) : Both mX6_ahead mX7_ahead [.int v1, .int v2, .int v3] L := by
  by_cases c : (0 ≤ v1.toInt ∧ v1.toInt ≤ L 0 8 - 1) ∧ ((0 : Int) ≤ v2.toInt ∧ v2.toInt ≤ 60) ∧ ((0 : Int) ≤ v3.toInt ∧ v3.toInt ≤ 1)
  · obtain ⟨f, hf, rfl⟩ := isF_of h.1 c.1
    obtain ⟨n, hn, rfl⟩ := toNat_of (n := 61) c.2.1.1 (by omega)
    have hn6 := h.1.nF.1
    have w := h.1.f hf
    have hh := hdL_in h.1 f
    have c3 := eq01 c.2.2
    refine ⟨if v3 = 0 then iv (eI L f (hdL L f) n) else iv (bB (L 1 f) (L 3 f) (hdL L f) n), L, fun d S hd hC => ?_, fun d S hd hM => ?_, h⟩
    · obtain ⟨d, rfl, hd⟩ := dsucc hd
      refine zEv.of cw_X6_ahead (Nat.le_of_ble_eq_true rfl) rfl (blk_X6_ahead_0 ⟨_, S, ev_isField (by omega) hC h.1 _, b01_if (fun q => absurd c.1 q) (fun _ => ⟨_, S, ev_within S _ 0 60, b01_if (fun q => absurd c.2.1 q) (fun _ => ⟨_, S, ev_within S v3 0 1, b01_if' (fun _ => ⟨fun q => ⟨ix_in (by omega) (by omega), ix_in (by omega) (by omega), _, S, ev_heardAtN zLd_1 hC h.1 f (by omega), iv (bB (L 1 f) (L 3 f) (hdL L f) n), S, ?_, ?_⟩, fun q => ⟨_, S, ev_heardAtN zLd_1 hC h.1 f (by omega), _, S, ev_earsIf (by omega) zLd_1 hC h.1 f hf _ (by omega) n (by omega), ?_⟩⟩) (fun q => absurd c.2.2 q)⟩)⟩)⟩)
      · rw [ix_cl (by omega), show gI S 2 f = iv (L 1 f) from hC.g (inR_f (r := 1) (by omega) hf), show gI S 4 f = iv (L 3 f) from hC.g (inR_f (r := 3) (by omega) hf)]
        exact ev_blightBehind (by omega) S _ _ _ n (by unfold sm; omega) w.2.2 (by unfold sm; omega) (by omega)
      · rw [if_neg q]; exact ⟨rfl, hC, FrI.rf _ _⟩
      · rw [if_pos q]; exact ⟨rfl, hC, FrI.rf _ _⟩
    · obtain ⟨d, rfl, hd⟩ := dsucc hd
      refine zEv.of cw_X7_ahead (Nat.le_of_ble_eq_true rfl) rfl (blk_X7_ahead_0 ⟨_, S, ev_isField7 (by omega) hM h.1 _, b01_if (fun q => absurd c.1 q) (fun _ => ⟨_, S, ev_isFar (by omega) S _, b01_if (fun q => absurd c.2.1 q) (fun _ => ⟨_, S, ev_isPart (by omega) S v3, b01_if' (fun _ => ⟨_, ev_starts hM h.1, fun S7 k7 => ⟨_, ev_weeksGo (by omega) k7.1 h.1 n (by omega) (wks_bound h), fun S8 k8 => ?_⟩⟩) (fun q => absurd c.2.2 q)⟩)⟩)⟩)
      have fr : FrI nwP S S8 := (k7.2.2.2.2.I st_nw).tr (k8.2.2.I md_nw)
      have hf8 : f < nF (wks L n) := by rw [(wks_n n).1]; exact hf
      have g := k8.1.g1 hf8
      rcases c3 with rfl | rfl
      · refine ⟨_, S8, ev_of S8 f 1 (by omega), ?_, hM.frI fr nw_58, fr.mono nw_mod⟩
        rw [g.2.1, wks_2 hf, if_pos nI_0]
      · refine ⟨_, S8, ev_of S8 f 2 (by omega), ?_, hM.frI fr nw_58, fr.mono nw_mod⟩
        rw [g.2.2, wks_3 hf, if_neg (by decide)]
  · refine ⟨-1, L, fun d S hd hC => ?_, fun d S hd hM => ?_, h⟩
    · obtain ⟨d, rfl, hd⟩ := dsucc hd
      exact zEv.of cw_X6_ahead (Nat.le_of_ble_eq_true rfl) rfl (blk_X6_ahead_0 ⟨_, S, ev_isField (by omega) hC h.1 _, b01_if (fun _ => ⟨rfl, hC, FrI.rf _ _⟩) (fun q => ⟨_, S, ev_within S _ 0 60, b01_if (fun _ => ⟨rfl, hC, FrI.rf _ _⟩) (fun q2 => ⟨_, S, ev_within S v3 0 1, b01_if' (fun q3 => absurd ⟨q, q2, q3⟩ c) (fun _ => ⟨rfl, hC, FrI.rf _ _⟩)⟩)⟩)⟩)
    · obtain ⟨d, rfl, hd⟩ := dsucc hd
      exact zEv.of cw_X7_ahead (Nat.le_of_ble_eq_true rfl) rfl (blk_X7_ahead_0 ⟨_, S, ev_isField7 (by omega) hM h.1 _, b01_if (fun _ => ⟨rfl, hM, FrI.rf _ _⟩) (fun q => ⟨_, S, ev_isFar (by omega) S _, b01_if (fun _ => ⟨rfl, hM, FrI.rf _ _⟩) (fun q2 => ⟨_, S, ev_isPart (by omega) S v3, b01_if' (fun q3 => absurd ⟨q, q2, q3⟩ c) (fun _ => ⟨rfl, hM, FrI.rf _ _⟩)⟩)⟩)⟩)
/-- the first of m from j on -/
def srch (p : Nat → Prop) [DecidablePred p] : Nat → Nat → Int32
  | 0, _ => -4
  | m + 1, j => if p j then nI j else srch p m (j + 1)
theorem bB_succ (k b h : Int) : ∀ n, bB k b h (n + 1) = bN k (bB k b h n) h := by
  intro n
  induction n generalizing b with
  | zero => rfl
  | succ n ih => rw [bB, ih]; rfl
theorem eB_succ (k e b h : Int) : ∀ n, eB k e b h (n + 1) = eN k (eB k e b h n) (bB k b h n) h := by
  intro n
  induction n generalizing e b with
  | zero => rfl
  | succ n ih => rw [eB, ih]; rfl
theorem pub_late {L : Lnd} (h : WFc L) (v1 v2 : Int32) : Both mX6_late mX7_late [.int v1, .int v2] L := by
  by_cases c : (0 ≤ v1.toInt ∧ v1.toInt ≤ L 0 8 - 1) ∧ ((0 : Int) ≤ v2.toInt ∧ v2.toInt ≤ 99)
  · obtain ⟨f, hf, rfl⟩ := isF_of h.1 c.1
    have hn6 := h.1.nF.1
    have w := h.1.f hf
    have hh := hdL_in h.1 f
    have lt : ∀ n, iv (eI L f (hdL L f) n) < v2 ↔ eI L f (hdL L f) n < v2.toInt := fun n => by
      have := eI_in h.1 hf (hdL L f) n
      rw [Int32.lt_iff_toInt_lt, iv_toInt (by unfold inB; omega)]
    refine ⟨srch (fun n => ¬ eI L f (hdL L f) n < v2.toInt) 61 0, L, fun d S hd hC => ?_, fun d S hd hM => ?_, h⟩
    · obtain ⟨d, rfl, hd⟩ := dsucc hd
      refine zEv.of cw_X6_late (Nat.le_of_ble_eq_true rfl) rfl (blk_X6_late_0 ⟨_, S, ev_isField (by omega) hC h.1 _, b01_if (fun q => absurd c.1 q) (fun _ => ⟨_, S, ev_within S v2 0 99, b01_if' (fun _ => ⟨_, S, ev_heardAtN zLd_1 hC h.1 f (by omega), ix_in (by omega) (by omega), ix_in (by omega) (by omega), ix_in (by omega) (by omega), ?_⟩) (fun q => absurd c.2 q)⟩)⟩)
      rw [ix_cl (by omega), show gI S 2 f = iv (L 1 f) from hC.g (inR_f (r := 1) (by omega) hf), show gI S 3 f = iv (L 2 f) from hC.g (inR_f (r := 2) (by omega) hf), show gI S 4 f = iv (L 3 f) from hC.g (inR_f (r := 3) (by omega) hf)]
      have key : ∀ (m j : Nat), j + m = 61 → zSem (d + 1) mX6_late 65 [none, none, some (.int v2), some (.int (iv (hdL L f))), some (.int (iv (L 1 f))), some (.int (iv (eI L f (hdL L f) j))), some (.int (iv (bB (L 1 f) (L 3 f) (hdL L f) j))), some (.int (nI j))] [] S (zY (some (.int (srch (fun n => ¬ eI L f (hdL L f) n < v2.toInt) m j))) (fun S' => HoC S' 1 L ∧ FrI clsP S S')) := by
        intro m
        induction m with
        | zero =>
          intro j hj
          refine blk_X6_late_65 ⟨fun q => ⟨rfl, hC, FrI.rf _ _⟩, fun q => absurd (nI_lt (a := 60) (b := j) (by omega) (by omega)) q⟩
        | succ m ih =>
          intro j hj
          have he := eI_in h.1 hf (hdL L f) j
          have hb := bB_in (k := L 1 f) (h := hdL L f) w.2.2 j
          rw [srch]
          refine blk_X6_late_65 ⟨fun q => absurd q (nI_nlt (a := 60) (b := j) (by omega) (by omega)), fun q => ⟨fun q2 => ⟨_, S, ev_earsNext (by omega) S _ _ _ _ (by unfold sm; omega) (by omega) (by omega) (by omega), _, S, ev_blightNext (by omega) S _ _ _ (by unfold sm; omega) hb (by unfold sm; omega), ?_⟩, fun q2 => ?_⟩⟩
          · rw [if_neg (fun z => z ((lt j).mp q2)), nI_1]
            have := ih (j + 1) (by omega)
            unfold eI at this ⊢
            rw [eB_succ, bB_succ] at this
            exact this
          · rw [if_pos (fun z => q2 ((lt j).mpr z))]
            exact ⟨rfl, hC, FrI.rf _ _⟩
      exact key 61 0 (by omega)
    · obtain ⟨d, rfl, hd⟩ := dsucc hd
      refine zEv.of cw_X7_late (Nat.le_of_ble_eq_true rfl) rfl (blk_X7_late_0 ⟨_, S, ev_isField7 (by omega) hM h.1 _, b01_if (fun q => absurd c.1 q) (fun _ => ⟨_, S, ev_areEars (by omega) S v2, b01_if' (fun _ => ⟨_, ev_starts hM h.1, fun S5 k5 => ?_⟩) (fun q => absurd c.2 q)⟩)⟩)
      have key : ∀ (m j : Nat) (S1 : ZSt), j + m = 61 → HoN S1 (wks L j) → FrI nwP S S1 → zSem (d + 1) mX7_late 23 [some (.ref 57), some (.int (nI f)), some (.int v2), some (.int (nI j))] [] S1 (zY (some (.int (srch (fun n => ¬ eI L f (hdL L f) n < v2.toInt) m j))) (fun S' => HoM S' 58 0 L ∧ FrI modP S S')) := by
        intro m
        induction m with
        | zero =>
          intro j S1 hj h1 f1
          refine blk_X7_late_23 ⟨fun q => ⟨rfl, hM.frI f1 nw_58, f1.mono nw_mod⟩, fun q => absurd (nI_lt (a := 60) (b := j) (by omega) (by omega)) q⟩
        | succ m ih =>
          intro j S1 hj h1 f1
          have hf8 : f < nF (wks L j) := by rw [(wks_n j).1]; exact hf
          have g := (h1.g1 hf8).2.1
          rw [wks_2 hf] at g
          have b13 : wks L j 0 13 < 2000000000 := by rw [wks_13]; have := h.2.2; omega
          rw [srch]
          refine blk_X7_late_23 ⟨fun q => absurd q (nI_nlt (a := 60) (b := j) (by omega) (by omega)), fun q => ⟨_, S1, ev_of S1 f 1 (by omega), fun q2 => ⟨_, ev_weekGoes0 (by omega) h1 (wks_WF h.1 j) b13, fun S4 k4 => ?_⟩, fun q2 => ?_⟩⟩
          · rw [g] at q2
            rw [if_neg (fun z => z ((lt j).mp q2)), nI_1]
            refine ih (j + 1) S4 (by omega) ?_ (f1.tr (k4.2.2.I md_nw))
            have := k4.1
            rw [show wk (wks L j) = wks L (j + 1) from wks_add (L := L) j 1] at this
            exact this
          · rw [g] at q2
            rw [if_pos (fun z => q2 ((lt j).mpr z))]
            exact ⟨rfl, hM.frI f1 nw_58, f1.mono nw_mod⟩
      exact key 61 0 S5 (by omega) k5.1 (k5.2.2.2.2.I st_nw)
  · refine ⟨-1, L, fun d S hd hC => ?_, fun d S hd hM => ?_, h⟩
    · obtain ⟨d, rfl, hd⟩ := dsucc hd
      exact zEv.of cw_X6_late (Nat.le_of_ble_eq_true rfl) rfl (blk_X6_late_0 ⟨_, S, ev_isField (by omega) hC h.1 _, b01_if (fun _ => ⟨rfl, hC, FrI.rf _ _⟩) (fun q => ⟨_, S, ev_within S v2 0 99, b01_if' (fun q2 => absurd ⟨q, q2⟩ c) (fun _ => ⟨rfl, hC, FrI.rf _ _⟩)⟩)⟩)
    · obtain ⟨d, rfl, hd⟩ := dsucc hd
      exact zEv.of cw_X7_late (Nat.le_of_ble_eq_true rfl) rfl (blk_X7_late_0 ⟨_, S, ev_isField7 (by omega) hM h.1 _, b01_if (fun _ => ⟨rfl, hM, FrI.rf _ _⟩) (fun q => ⟨_, S, ev_areEars (by omega) S v2, b01_if' (fun q2 => absurd ⟨q, q2⟩ c) (fun _ => ⟨rfl, hM, FrI.rf _ _⟩)⟩)⟩)
