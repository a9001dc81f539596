/-! which is best: kind, move, swap -/
def jst (s : Int32 × Int) (cd : Int32) (z : Int) : Int32 × Int := if z ≤ s.2 then s else (cd, z)
def jr (s : Int32 × Int) (what : Int32) : Int32 := if s.1 = -4 then -4 else if what = 0 then s.1 else iv s.2
def Jg (S : ZSt) (s : Int32 × Int) : Prop := gI S 57 16 = s.1 ∧ gI S 57 17 = iv s.2
def jgP : Nat → Nat → Prop := fun k i => k = 57 ∧ (i = 16 ∨ i = 17)
theorem jg_nw : ∀ k j, jgP k j → nwP k j := fun k j h => by unfold jgP at h; unfold nwP; omega
theorem Jg.fr {S S' : ZSt} {s : Int32 × Int} {P : Nat → Nat → Prop} (h : Jg S s) (hf : Fr P S S') (h1 : ¬ P 57 16) (h2 : ¬ P 57 17) : Jg S' s := ⟨(hf.1 _ _ h1).trans h.1, (hf.1 _ _ h2).trans h.2⟩
theorem Jg.pI {S : ZSt} {s : Int32 × Int} (h : Jg S s) (i : Nat) (x : Int32) : Jg (pI S 59 i x) s := ⟨by rw [gI_pI, if_neg (by omega)]; exact h.1, by rw [gI_pI, if_neg (by omega)]; exact h.2⟩
theorem ev_startsJudging {d : Nat} (S : ZSt) (z : Int) : zEv d mX7_startsJudging [.ref 57, .int (iv z)] S (zY none (fun S' => Jg S' (-4, z) ∧ FrI nwP S S')) := by
  refine zEv.of cw_X7_startsJudging (Nat.le_of_ble_eq_true rfl) rfl (blk_X7_startsJudging_0 ⟨rfl, ⟨?_, ?_⟩, ((FrI.rf nwP S).pI _ (by unfold nwP; omega)).pI _ (by unfold nwP; omega)⟩)
  · rw [gI_pI, if_neg (by omega), gI_pI, if_pos ⟨rfl, rfl⟩]
  · rw [gI_pI, if_pos ⟨rfl, rfl⟩]
theorem ev_judges {d : Nat} (S : ZSt) {s : Int32 × Int} (h : Jg S s) (hs : inB s.2) (cd : Int32) (z : Int) (hz : inB z) : zEv d mX7_judges [.ref 57, .int cd, .int (iv z)] S (zY none (fun S' => Jg S' (jst s cd z) ∧ FrI nwP S S')) := by
  have e : iv z ≤ gI S 57 17 ↔ z ≤ s.2 := by rw [h.2]; exact iv_le hz hs
  refine zEv.of cw_X7_judges (Nat.le_of_ble_eq_true rfl) rfl (blk_X7_judges_0 ⟨fun c => ⟨rfl, ?_, FrI.rf _ _⟩, fun c => ⟨rfl, ?_, ((FrI.rf nwP S).pI _ (by unfold nwP; omega)).pI _ (by unfold nwP; omega)⟩⟩)
  · unfold jst; rw [if_pos (e.mp c)]; exact h
  · unfold jst; rw [if_neg (fun q => c (e.mpr q))]
    refine ⟨?_, ?_⟩
    · rw [gI_pI, if_neg (by omega), gI_pI, if_pos ⟨rfl, rfl⟩]
    · rw [gI_pI, if_pos ⟨rfl, rfl⟩]
theorem ev_judged {d : Nat} (S : ZSt) {s : Int32 × Int} (h : Jg S s) (what : Int32) : zEv d mX7_judged [.ref 57, .int what] S (zX (some (.int (jr s what))) S) := by
  refine zEv.of cw_X7_judged (Nat.le_of_ble_eq_true rfl) rfl (blk_X7_judged_0 ?_)
  rw [h.1, h.2]
  unfold jr
  refine ⟨fun c => ⟨fun c2 => ?_, fun c2 => ?_⟩, fun c => ?_⟩
  · rw [if_neg c, if_neg c2]; exact ⟨rfl, rfl⟩
  · rw [if_neg c, if_pos c2]; exact ⟨rfl, rfl⟩
  · rw [if_pos c]; exact ⟨rfl, rfl⟩
theorem sm_one {g g' : Nat → Int} {f : Nat} : ∀ n, f < n → (∀ j, j < n → j ≠ f → g' j = g j) → sm_ g' n = sm_ g n - g f + g' f
  | 0, hf, _ => absurd hf (by omega)
  | n + 1, hf, h => by
    rw [sm_, sm_]
    by_cases q : f = n
    · subst q
      rw [sm_congr f (fun j hj => h j (by omega) (by omega))]; omega
    · rw [sm_one n (by omega) (fun j hj hne => h j (by omega) hne), h n (by omega) (fun z => q z.symm)]; omega
theorem sm_two {g g' : Nat → Int} {f1 f2 : Nat} (n : Nat) (h1 : f1 < n) (h2 : f2 < n) (hne : f1 ≠ f2) (h : ∀ j, j < n → j ≠ f1 → j ≠ f2 → g' j = g j) : sm_ g' n = sm_ g n + (g' f1 - g f1) + (g' f2 - g f2) := by
  have a := sm_one (g := g) (g' := fun j => if j = f1 then g' j else g j) (f := f1) n h1 (fun j _ q => if_neg q)
  have b := sm_one (g := fun j => if j = f1 then g' j else g j) (g' := g') (f := f2) n h2 (fun j hj q => by
    by_cases z : j = f1
    · simp [z]
    · simp only [z, if_false]; exact h j hj z q)
  simp only [if_true] at a
  rw [if_neg (fun z => hne z.symm)] at b
  omega
def jF (cd : Nat → Int32) (g : Nat → Int) (s0 : Int32 × Int) : Nat → Int32 × Int
  | 0 => s0
  | k + 1 => jst (jF cd g s0 k) (cd k) (g k)
theorem jF_kind {E : Nat → Int} (Ein : ∀ k, 0 ≤ E k ∧ E k ≤ 99) {bs : Int} (hb : 0 ≤ bs) : ∀ k, (jF nI (fun k => bs + E k) (-4, -1) (k + 1)).1 = (jF nI E (0, -1) (k + 1)).1 ∧ (jF nI (fun k => bs + E k) (-4, -1) (k + 1)).2 = bs + (jF nI E (0, -1) (k + 1)).2 ∧ 0 ≤ (jF nI E (0, -1) (k + 1)).2 ∧ (jF nI E (0, -1) (k + 1)).2 ≤ 99 ∧ ∃ i : Nat, i ≤ k ∧ (jF nI E (0, -1) (k + 1)).1 = nI i
  | 0 => by
    have e := Ein 0
    have a : jF nI E (0, -1) (0 + 1) = (nI 0, E 0) := if_neg (by show ¬ E 0 ≤ -1; omega)
    have b : jF nI (fun k => bs + E k) (-4, -1) (0 + 1) = (nI 0, bs + E 0) := if_neg (by show ¬ bs + E 0 ≤ -1; omega)
    rw [a, b]
    exact ⟨rfl, rfl, e.1, e.2, 0, by omega, rfl⟩
  | k + 1 => by
    obtain ⟨r1, r2, r3, r4, i, hi, r5⟩ := jF_kind Ein hb k
    have e := Ein (k + 1)
    rw [jF.eq_2 nI E (0, -1) (k + 1), jF.eq_2 nI (fun k => bs + E k) (-4, -1) (k + 1)]
    unfold jst
    rw [r2]
    by_cases q : E (k + 1) ≤ (jF nI E (0, -1) (k + 1)).2
    · rw [if_pos q, if_pos (by omega)]
      exact ⟨r1, r2, r3, r4, i, by omega, r5⟩
    · rw [if_neg q, if_neg (by omega)]
      exact ⟨rfl, rfl, by show 0 ≤ E (k + 1); omega, by show E (k + 1) ≤ 99; omega, k + 1, by omega, rfl⟩
theorem pub_kind {L : Lnd} (h : WFc L) (v1 v2 v3 : Int32) : Both mX6_kind mX7_kind [.int v1, .int v2, .int v3] L := by
  by_cases c : (0 ≤ v1.toInt ∧ v1.toInt ≤ L 0 8 - 1) ∧ ((0 : Int) ≤ v2.toInt ∧ v2.toInt ≤ 60) ∧ ((0 : Int) ≤ v3.toInt ∧ v3.toInt ≤ 1)
  · obtain ⟨f, hf, rfl⟩ := isF_of h.1 c.1
    obtain ⟨n, hn, rfl⟩ := toNat_of (n := 61) c.2.1.1 (by omega)
    have hn6 := h.1.nF.1
    have w := h.1.f hf
    have hh := hdL_in h.1 f
    have c3 := eq01 c.2.2
    have hae := aE_in h.1 n
    -- the sum with another kind
    have tot : ∀ k : Int, aE (updL L 1 f k) n = aE L n - eI L f (hdL L f) n + eB k (L 2 f) (L 3 f) (hdL L f) n := by
      intro k
      unfold aE
      rw [(nn_upd (by omega)).1]
      have := sm_one (g := fun j => eI L j (hdL L j) n) (g' := fun j => eI (updL L 1 f k) j (hdL (updL L 1 f k) j) n) (f := f) (nF L) hf (fun j hj q => by
        show eI (updL L 1 f k) j (hdL (updL L 1 f k) j) n = eI L j (hdL L j) n
        rw [hdL_upd3 _ _ _ _ (by omega)]; unfold eI
        rw [updL_ne _ _ _ _ (by omega), updL_ne _ _ _ _ (by omega), updL_ne _ _ _ _ (by omega)])
      rw [this]
      congr 1
      show eI (updL L 1 f k) f (hdL (updL L 1 f k) f) n = _
      rw [hdL_upd3 _ _ _ _ (by omega)]; unfold eI
      rw [updL_at, updL_ne _ _ _ _ (by omega), updL_ne _ _ _ _ (by omega)]
    have ein : ∀ k : Int, 0 ≤ eB k (L 2 f) (L 3 f) (hdL L f) n ∧ eB k (L 2 f) (L 3 f) (hdL L f) n ≤ 99 := fun k => eB_in w.2.1 n
    have base0 : 0 ≤ aE L n - eI L f (hdL L f) n := by
      have t0 := tot 0
      have a0 := aE_in (WF_put h.1 (r := 1) (j := f) (z := 0) (by omega) (fun _ => by omega) (by omega) (by omega) (by omega) (by omega) (by omega)) n
      have e0 := ein 0
      have := tot (L 1 f)
      -- the others' sum
      have hs := sm_in (g := fun j => if j = f then 0 else eI L j (hdL L j) n) (m := 99) (nF L) (fun j hj => by
        show 0 ≤ (if j = f then (0 : Int) else eI L j (hdL L j) n) ∧ (if j = f then (0 : Int) else eI L j (hdL L j) n) ≤ 99
        split
        · omega
        · exact eI_in h.1 hj _ n)
      have h1 := sm_one (g := fun j => eI L j (hdL L j) n) (g' := fun j => if j = f then 0 else eI L j (hdL L j) n) (f := f) (nF L) hf (fun j hj q => if_neg q)
      simp only [if_true] at h1
      unfold aE
      omega
    obtain ⟨bs, hbs⟩ : ∃ bs, bs = aE L n - eI L f (hdL L f) n := ⟨_, rfl⟩
    obtain ⟨E, hE⟩ : ∃ E : Nat → Int, E = fun k : Nat => eB (k : Int) (L 2 f) (L 3 f) (hdL L f) n := ⟨_, rfl⟩
    have Ein : ∀ k, 0 ≤ E k ∧ E k ≤ 99 := fun k => by rw [hE]; exact ein k
    have bsin : 0 ≤ bs ∧ bs ≤ 594 := by rw [hbs]; have := eI_in h.1 hf (hdL L f) n; omega
    obtain ⟨jc, hjc⟩ : ∃ jc, jc = jF nI E (0, -1) := ⟨_, rfl⟩
    obtain ⟨jm, hjm⟩ : ∃ jm, jm = jF nI (fun k => bs + E k) (-4, -1) := ⟨_, rfl⟩
    have jcs : ∀ k, jc (k + 1) = jst (jc k) (nI k) (E k) := fun k => by rw [hjc]; rfl
    have jms : ∀ k, jm (k + 1) = jst (jm k) (nI k) (bs + E k) := fun k => by rw [hjm]; rfl
    have rel : ∀ k, (jm (k + 1)).1 = (jc (k + 1)).1 ∧ (jm (k + 1)).2 = bs + (jc (k + 1)).2 ∧ 0 ≤ (jc (k + 1)).2 ∧ (jc (k + 1)).2 ≤ 99 ∧ ∃ i : Nat, i ≤ k ∧ (jc (k + 1)).1 = nI i := by rw [hjc, hjm]; exact jF_kind Ein bsin.1
    have jc0 : jc 0 = (0, -1) := by rw [hjc]; rfl
    have jm0 : jm 0 = (-4, -1) := by rw [hjm]; rfl
    obtain ⟨r1, r2, r3, r4, i, hi, r5⟩ := rel 3
    refine ⟨jr (jm 4) v3, L, fun d S hd hC => ?_, fun d S hd hM => ?_, h⟩
    · obtain ⟨d, rfl, hd⟩ := dsucc hd
      have g3 : gI S 3 f = iv (L 2 f) := hC.g (inR_f (r := 2) (by omega) hf)
      have g4 : gI S 4 f = iv (L 3 f) := hC.g (inR_f (r := 3) (by omega) hf)
      refine zEv.of cw_X6_kind (Nat.le_of_ble_eq_true rfl) rfl (blk_X6_kind_0 ⟨_, S, ev_isField (by omega) hC h.1 _, b01_if (fun q => absurd c.1 q) (fun _ => ⟨_, S, ev_within S _ 0 60, b01_if (fun q => absurd c.2.1 q) (fun _ => ⟨_, S, ev_within S v3 0 1, b01_if' (fun _ => ⟨_, S, ev_heardAtN zLd_1 hC h.1 f (by omega), ?_⟩) (fun q => absurd c.2.2 q)⟩)⟩)⟩)
      have bnd : ∀ k, -1 ≤ (jc k).2 ∧ (jc k).2 ≤ 99 := fun k => by
        cases k with
        | zero => rw [jc0]; exact ⟨by decide, by decide⟩
        | succ k => obtain ⟨_, _, a, b, _⟩ := rel k; omega
      have key : ∀ (m k : Nat), k + m = 4 → zSem (d + 1) mX6_kind 48 [some (.ref 0), some (.int (nI f)), some (.int (nI n)), some (.int v3), some (.int (iv (hdL L f))), some (.int (iv (jc k).2)), some (.int (jc k).1), some (.int (nI k)), none] [] S (zY (some (.int (jr (jm 4) v3))) (fun S' => HoC S' 1 L ∧ FrI clsP S S')) := by
        intro m
        induction m with
        | zero =>
          intro k hk
          obtain rfl : k = 4 := by omega
          have nm4 : ¬ (jm 4).1 = -4 := by
            rw [r1, r5]
            rcases (show i = 0 ∨ i = 1 ∨ i = 2 ∨ i = 3 by omega) with rfl | rfl | rfl | rfl <;> decide
          refine blk_X6_kind_48 ⟨fun q => ⟨fun q2 => ⟨_, S, ev_allEarsBehind (by omega) zLd_1 hC h.1 n (by omega), _, S, ev_earsIf (by omega) zLd_1 hC h.1 f hf _ (by omega) n (by omega), ?_⟩, fun q2 => ?_⟩, fun q => absurd (nI_le (a := 4) (b := 4) (by omega) (by omega)) q⟩
          · unfold jr
            rw [if_neg nm4, if_neg q2, r2, iv_sub, iv_add, hbs]
            exact ⟨rfl, hC, FrI.rf _ _⟩
          · unfold jr
            rw [if_neg nm4, if_pos q2, r1]
            exact ⟨rfl, hC, FrI.rf _ _⟩
        | succ m ih =>
          intro k hk
          have e := Ein k
          have b := bnd k
          have le : iv (E k) ≤ iv (jc k).2 ↔ E k ≤ (jc k).2 := iv_le (by unfold inB; omega) (by unfold inB; omega)
          have nx := ih (k + 1) (by omega)
          rw [jcs] at nx
          unfold jst at nx
          refine blk_X6_kind_48 ⟨fun q => absurd q (nI_ge (a := k) (b := 4) (by omega) (by omega)), fun q => ⟨ix_in (by omega) (by omega), ix_in (by omega) (by omega), iv (E k), S, ?_, fun q2 => ?_, fun q2 => ?_⟩⟩
          · rw [ix_cl (by omega), g3, g4, nI_iv k, hE]
            exact ev_earsBehind (by omega) S _ _ _ _ n (by unfold sm; omega) w.2.1 w.2.2 (by omega) (by omega)
          · rw [if_pos (le.mp q2)] at nx
            rw [nI_1]
            exact nx
          · rw [if_neg (fun z => q2 (le.mpr z))] at nx
            rw [nI_1]
            exact nx
      have k0' := key 4 0 (by omega)
      rw [jc0] at k0'
      exact k0'
    · obtain ⟨d, rfl, hd⟩ := dsucc hd
      refine zEv.of cw_X7_kind (Nat.le_of_ble_eq_true rfl) rfl (blk_X7_kind_0 ⟨_, S, ev_isField7 (by omega) hM h.1 _, b01_if (fun q => absurd c.1 q) (fun _ => ⟨_, S, ev_isFar (by omega) S _, b01_if (fun q => absurd c.2.1 q) (fun _ => ⟨_, S, ev_isPart (by omega) S v3, b01_if' (fun _ => ⟨_, ev_startsJudging S (-1), fun S7 k7 => ?_⟩) (fun q => absurd c.2.2 q)⟩)⟩)⟩)
      have bnd : ∀ k, inB (jm k).2 := fun k => by
        cases k with
        | zero => rw [jm0]; exact ⟨by decide, by decide⟩
        | succ k => obtain ⟨_, a, b, e, _⟩ := rel k; unfold inB; omega
      have key : ∀ (m k : Nat) (S1 : ZSt), k + m = 4 → Jg S1 (jm k) → FrI nwP S S1 → zSem (d + 1) mX7_kind 32 [some (.ref 57), some (.int (nI f)), some (.int (nI n)), some (.int v3), some (.int (nI k))] [] S1 (zY (some (.int (jr (jm 4) v3))) (fun S' => HoM S' 58 0 L ∧ FrI modP S S')) := by
        intro m
        induction m with
        | zero =>
          intro k S1 hk j1 f1
          obtain rfl : k = 4 := by omega
          refine blk_X7_kind_32 ⟨fun q => ⟨_, S1, ev_judged S1 j1 v3, rfl, hM.frI f1 nw_58, f1.mono nw_mod⟩, fun q => absurd (nI_le (a := 4) (b := 4) (by omega) (by omega)) q⟩
        | succ m ih =>
          intro k S1 hk j1 f1
          have M1 := hM.frI f1 nw_58
          have W5 : WF (updL L 1 f (k : Int)) := WF_put h.1 (by omega) (fun _ => by omega) (by omega) (by omega) (by omega) (by omega) (by omega)
          have e := Ein k
          refine blk_X7_kind_32 ⟨fun q => absurd q (nI_ge (a := k) (b := 4) (by omega) (by omega)), fun q => ⟨_, ev_starts M1 h.1, fun S2 k2 => ⟨_, ev_becomesOf S2 f 0 _ (by omega), fun S3 k3 => ?_⟩⟩⟩
          have a3 : HoN S3 (updL L 1 f (k : Int)) := by
            have := k2.1.putq h.1.n k2.2.2.1 (r := 1) (j := f) (nI k) (inR_f (by omega) hf) (by omega)
            rw [mpos_f (by omega), nI_toInt (by omega)] at this
            rw [k3]; exact this
          have f3 : FrI nwP S S3 := by rw [k3]; exact (f1.tr (k2.2.2.2.2.I st_nw)).pI _ (by unfold nwP; omega)
          have j3 : Jg S3 (jm k) := by rw [k3]; exact (j1.fr k2.2.2.2.2 (by unfold stP; omega) (by unfold stP; omega)).pI _ _
          refine ⟨_, _, ev_earsBehind7 (by omega) a3 W5 n (by omega) (by rw [updL_ne _ _ _ _ (by omega)]; exact wks_bound h), fun S5 k5 => ?_⟩
          have j5 : Jg S5 (jm k) := j3.fr k5.2.2 (by unfold mdP; omega) (by unfold mdP; omega)
          have et : aE (updL L 1 f (k : Int)) n = bs + E k := by rw [tot, hbs, hE]
          rw [et]
          refine ⟨_, ev_judges S5 j5 (bnd k) (nI k) (bs + E k) (by unfold inB; omega), fun S6 k6 => ?_⟩
          rw [nI_1]
          exact ih (k + 1) S6 (by omega) (by rw [jms]; exact k6.1) ((f3.tr (k5.2.2.I md_nw)).tr k6.2)
      exact key 4 0 S7 (by omega) (by rw [jm0]; exact k7.1) k7.2
  · refine ⟨-1, L, fun d S hd hC => ?_, fun d S hd hM => ?_, h⟩
    · obtain ⟨d, rfl, hd⟩ := dsucc hd
      exact zEv.of cw_X6_kind (Nat.le_of_ble_eq_true rfl) rfl (blk_X6_kind_0 ⟨_, S, ev_isField (by omega) hC h.1 _, b01_if (fun _ => ⟨rfl, hC, FrI.rf _ _⟩) (fun q => ⟨_, S, ev_within S _ 0 60, b01_if (fun _ => ⟨rfl, hC, FrI.rf _ _⟩) (fun q2 => ⟨_, S, ev_within S v3 0 1, b01_if' (fun q3 => absurd ⟨q, q2, q3⟩ c) (fun _ => ⟨rfl, hC, FrI.rf _ _⟩)⟩)⟩)⟩)
    · obtain ⟨d, rfl, hd⟩ := dsucc hd
      exact zEv.of cw_X7_kind (Nat.le_of_ble_eq_true rfl) rfl (blk_X7_kind_0 ⟨_, S, ev_isField7 (by omega) hM h.1 _, b01_if (fun _ => ⟨rfl, hM, FrI.rf _ _⟩) (fun q => ⟨_, S, ev_isFar (by omega) S _, b01_if (fun _ => ⟨rfl, hM, FrI.rf _ _⟩) (fun q2 => ⟨_, S, ev_isPart (by omega) S v3, b01_if' (fun q3 => absurd ⟨q, q2, q3⟩ c) (fun _ => ⟨rfl, hM, FrI.rf _ _⟩)⟩)⟩)⟩)
