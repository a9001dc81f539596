/-! move, swap -/
def jO (C : Nat → Nat → Int32) (G : Nat → Nat → Int) (W : Nat → Nat) (s0 : Int32 × Int) : Nat → Int32 × Int
  | 0 => s0
  | b + 1 => jF (C b) (G b) (jO C G W s0 b) (W b)
theorem jF_in {cd : Nat → Int32} {g : Nat → Int} {s0 : Int32 × Int} {lo hi : Int} (h0 : lo ≤ s0.2 ∧ s0.2 ≤ hi) : ∀ k, (∀ j, j < k → g j ≤ hi) → lo ≤ (jF cd g s0 k).2 ∧ (jF cd g s0 k).2 ≤ hi
  | 0, _ => h0
  | k + 1, hg => by
    have i := jF_in (cd := cd) h0 k (fun j hj => hg j (by omega))
    have := hg k (by omega)
    rw [jF]; unfold jst
    split
    · exact i
    · exact ⟨by show lo ≤ g k; omega, by show g k ≤ hi; omega⟩
theorem jO_in {C : Nat → Nat → Int32} {G : Nat → Nat → Int} {W : Nat → Nat} {s0 : Int32 × Int} {lo hi : Int} (h0 : lo ≤ s0.2 ∧ s0.2 ≤ hi) : ∀ b, (∀ i, i < b → ∀ j, j < W i → G i j ≤ hi) → lo ≤ (jO C G W s0 b).2 ∧ (jO C G W s0 b).2 ≤ hi
  | 0, _ => h0
  | b + 1, hg => jF_in (jO_in h0 b (fun i hi j hj => hg i (by omega) j hj)) _ (fun j hj => hg b (by omega) j hj)
theorem hd_upd4 {L : Lnd} (b : Nat) (x g : Int) : ∀ m, hd (updL L 4 b x) g m = hd L g m + (if b < m then (if x = g then L 5 b else 0) - (if L 4 b = g then L 5 b else 0) else 0)
  | 0 => by rw [hd, hd, if_neg (by omega)]; rfl
  | m + 1 => by
    rw [hd, hd, hd_upd4 b x g m, updL_ne _ _ _ _ (show ¬ (5 = 4 ∧ m = b) by omega)]
    by_cases q : m = b
    · subst q
      rw [updL_at, if_neg (show ¬ (m < m) by omega), if_pos (show m < m + 1 by omega)]
      omega
    · rw [updL_ne _ _ _ _ (by omega)]
      by_cases q2 : b < m
      · rw [if_pos q2, if_pos (show b < m + 1 by omega)]; omega
      · rw [if_neg q2, if_neg (show ¬ b < m + 1 by omega)]; omega
theorem hdL_upd4 {L : Lnd} {b : Nat} (hb : b < nB L) (x g : Int) : hdL (updL L 4 b x) g = hdL L g + ((if x = g then L 5 b else 0) - (if L 4 b = g then L 5 b else 0)) := by
  have e : nB (updL L 4 b x) = nB L := (nn_upd (by omega)).2.1
  unfold hdL
  rw [e, hd_upd4, if_pos hb]
theorem eI_upd4 (L : Lnd) (b : Nat) (x : Int) (f : Nat) (h : Int) (n : Nat) : eI (updL L 4 b x) f h n = eI L f h n := by
  unfold eI
  rw [updL_ne _ _ _ _ (by omega), updL_ne _ _ _ _ (by omega), updL_ne _ _ _ _ (by omega)]
theorem aE_move {L : Lnd} {b f0 f : Nat} (hb : b < nB L) (h0 : f0 < nF L) (hf : f < nF L) (e0 : L 4 b = (f0 : Int)) (hne : f ≠ f0) (n : Nat) : aE (updL L 4 b (f : Int)) n = aE L n + (eI L f0 (hdL L f0 + -(L 5 b)) n - eI L f0 (hdL L f0) n) + (eI L f (hdL L f + L 5 b) n - eI L f (hdL L f) n) := by
  have := sm_two (g := fun j => eI L j (hdL L j) n) (g' := fun j => eI (updL L 4 b (f : Int)) j (hdL (updL L 4 b (f : Int)) j) n) (f1 := f0) (f2 := f) (nF L) h0 hf (fun z => hne z.symm) (fun j hj q1 q2 => by
    show eI (updL L 4 b (f : Int)) j (hdL (updL L 4 b (f : Int)) j) n = eI L j (hdL L j) n
    rw [eI_upd4, hdL_upd4 hb, if_neg (by omega), if_neg (by omega), Int.sub_zero, Int.add_zero])
  unfold aE
  rw [(nn_upd (by omega)).1, this]
  show _ + (eI (updL L 4 b (f : Int)) f0 (hdL (updL L 4 b (f : Int)) f0) n - eI L f0 (hdL L f0) n) + (eI (updL L 4 b (f : Int)) f (hdL (updL L 4 b (f : Int)) f) n - eI L f (hdL L f) n) = _
  rw [eI_upd4, eI_upd4, hdL_upd4 hb, hdL_upd4 hb, if_neg (by omega), if_pos e0, if_pos rfl, if_neg (by omega), Int.zero_sub, Int.sub_zero]
def mvG (L : Lnd) (n : Nat) (b f : Nat) : Int := aE (updL L 4 b (f : Int)) n
def mvC (b f : Nat) : Int32 := 10 * nI b + nI f
theorem pub_move {L : Lnd} (h : WFc L) (v1 v2 : Int32) : Both mX6_move mX7_move [.int v1, .int v2] L := by
  by_cases c : ((0 : Int) ≤ v1.toInt ∧ v1.toInt ≤ 60) ∧ ((0 : Int) ≤ v2.toInt ∧ v2.toInt ≤ 1)
  · obtain ⟨n, hn, rfl⟩ := toNat_of (n := 61) c.1.1 (by omega)
    have hn4 := h.1.nB
    have hn6 := h.1.nF
    have hae := aE_in h.1 n
    have W5 : ∀ b f : Nat, b < nB L → f < nF L → WF (updL L 4 b (f : Int)) := fun b f hb hf => WF_put h.1 (by omega) (by omega) (by omega) (by omega) (fun _ => by omega) (by omega) (by omega)
    have gin : ∀ b f : Nat, b < nB L → f < nF L → 0 ≤ mvG L n b f ∧ mvG L n b f ≤ 594 := fun b f hb hf => aE_in (W5 b f hb hf) n
    obtain ⟨J, hJ⟩ : ∃ J, J = jO mvC (mvG L n) (fun _ => nF L) (-4, aE L n) := ⟨_, rfl⟩
    have Jin : ∀ b, b ≤ nB L → aE L n ≤ (J b).2 ∧ (J b).2 ≤ 594 := fun b hb => by
      rw [hJ]; exact jO_in (by show aE L n ≤ aE L n ∧ aE L n ≤ 594; omega) b (fun i hi j hj => (gin i j (by omega) hj).2)
    obtain ⟨I, hI⟩ : ∃ I : Nat → Nat → Int32 × Int, I = fun b => jF (mvC b) (mvG L n b) (J b) := ⟨_, rfl⟩
    have I0 : ∀ b, I b 0 = J b := fun b => by rw [hI]; rfl
    have Is : ∀ b f, I b (f + 1) = jst (I b f) (mvC b f) (mvG L n b f) := fun b f => by rw [hI]; rfl
    have Ie : ∀ b, I b (nF L) = J (b + 1) := fun b => by rw [hI, hJ]; rfl
    have Iin : ∀ b f, b < nB L → f ≤ nF L → aE L n ≤ (I b f).2 ∧ (I b f).2 ≤ 594 := fun b f hb hf => by
      rw [hI]; exact jF_in (Jin b (by omega)) f (fun j hj => (gin b j hb (by omega)).2)
    have J0 : J 0 = (-4, aE L n) := by rw [hJ]; rfl
    refine ⟨jr (J (nB L)) v2, L, fun d S hd hC => ?_, fun d S hd hM => ?_, h⟩
    · obtain ⟨d, rfl, hd⟩ := dsucc hd
      have gn := hC.gnB h.1
      have gf := hC.gnF h.1
      refine zEv.of cw_X6_move (Nat.le_of_ble_eq_true rfl) rfl (blk_X6_move_0 ⟨_, S, ev_within S _ 0 60, b01_if (fun q => absurd c.1 q) (fun _ => ⟨_, S, ev_within S v2 0 1, b01_if' (fun _ => ?_) (fun q => absurd c.2 q)⟩)⟩)
      have key : ∀ (m b : Nat), b + m = nB L → zSem (d + 1) mX6_move 30 [some (.ref 0), some (.int (nI n)), some (.int v2), some (.int (iv ((J b).2 - aE L n))), some (.int (J b).1), some (.int (nI b)), none, none, none, none] [] S (zY (some (.int (jr (J (nB L)) v2))) (fun S' => HoC S' 1 L ∧ FrI clsP S S')) := by
        intro m
        induction m with
        | zero =>
          intro b hb
          obtain rfl : b = nB L := by omega
          refine blk_X6_move_30 ⟨fun q => ⟨fun q1 => ?_, fun q1 => ⟨fun q2 => ⟨_, S, ev_allEarsBehind (by omega) zLd_1 hC h.1 n (by omega), ?_⟩, fun q2 => ?_⟩⟩, fun q => absurd (by rw [gn]; exact nI_le (by omega) (by omega)) q⟩
          · unfold jr; rw [if_pos q1, q1]; exact ⟨rfl, hC, FrI.rf _ _⟩
          · unfold jr; rw [if_neg q1, if_neg q2, iv_add, show sm_ (fun f => eI L f (hdL L f) n) (nF L) = aE L n from rfl, show aE L n + ((J (nB L)).2 - aE L n) = (J (nB L)).2 by omega]; exact ⟨rfl, hC, FrI.rf _ _⟩
          · unfold jr; rw [if_neg q1, if_pos q2]; exact ⟨rfl, hC, FrI.rf _ _⟩
        | succ m ih =>
          intro b hbm
          have hb : b < nB L := by omega
          have wb := h.1.b hb
          obtain ⟨f0, h0, e0⟩ : ∃ f : Nat, f < nF L ∧ L 4 b = (f : Int) := ⟨(L 4 b).toNat, by omega, by omega⟩
          have g5 : gI S 5 b = nI f0 := by rw [show gI S 5 b = iv (L 4 b) from hC.g (inR_b (r := 4) (by omega) hb), e0, nI_iv]
          have g6 : gI S 6 b = iv (L 5 b) := hC.g (inR_b (r := 5) (by omega) hb)
          refine blk_X6_move_30 ⟨fun q => absurd q (by rw [gn]; exact nI_ge (by omega) (by omega)), fun q => ⟨ix_in (by omega) (by omega), ix_in (by omega) (by omega), ?_⟩⟩
          rw [ix_cl (by omega), g5, g6, iv_neg]
          refine ⟨_, S, ev_gainBy (by omega) zLd_1 hC h.1 f0 h0 (-(L 5 b)) (by omega) n (by omega), ?_⟩
          have key2 : ∀ (m2 f : Nat), f + m2 = nF L → zSem (d + 1) mX6_move 80 [some (.ref 0), some (.int (nI n)), some (.int v2), some (.int (iv ((I b f).2 - aE L n))), some (.int (I b f).1), some (.int (nI b)), some (.int (nI f0)), some (.int (iv (eI L f0 (hdL L f0 + -(L 5 b)) n - eI L f0 (hdL L f0) n))), some (.int (nI f)), none] [] S (zY (some (.int (jr (J (nB L)) v2))) (fun S' => HoC S' 1 L ∧ FrI clsP S S')) := by
            intro m2
            induction m2 with
            | zero =>
              intro f hf
              obtain rfl : f = nF L := by omega
              refine blk_X6_move_80 ⟨fun q => ?_, fun q => absurd (by rw [gf]; exact nI_le (by omega) (by omega)) q⟩
              rw [nI_1, Ie]
              exact ih (b + 1) (by omega)
            | succ m2 ih2 =>
              intro f hfm
              have hf : f < nF L := by omega
              have iin := Iin b f hb (by omega)
              have nx := ih2 (f + 1) (by omega)
              rw [Is] at nx
              unfold jst at nx
              refine blk_X6_move_80 ⟨fun q => absurd q (by rw [gf]; exact nI_ge (by omega) (by omega)), fun q => ⟨fun q2 => ⟨ix_in (by omega) (by omega), ?_⟩, fun q2 => ?_⟩⟩
              · have hne : f ≠ f0 := fun z => q2 (by rw [z])
                have ge := aE_move hb h0 hf e0 hne n
                have gi := gin b f hb hf
                rw [ix_cl (by omega), g6]
                refine ⟨_, S, ev_gainBy (by omega) zLd_1 hC h.1 f hf (L 5 b) (by omega) n (by omega), ?_⟩
                have eg : eI L f0 (hdL L f0 + -(L 5 b)) n - eI L f0 (hdL L f0) n + (eI L f (hdL L f + L 5 b) n - eI L f (hdL L f) n) = mvG L n b f - aE L n := by unfold mvG; omega
                rw [iv_add, eg, iv_le (by unfold inB; omega) (by unfold inB; omega), nI_1]
                refine ⟨fun q3 => ?_, fun q3 => ?_⟩
                · rw [if_pos (by omega)] at nx; exact nx
                · rw [if_neg (by omega)] at nx; exact nx
              · have e2 : f = f0 := by
                  have := congrArg Int32.toInt q2
                  rw [nI_toInt (by omega), nI_toInt (by omega)] at this; omega
                have eg : mvG L n b f = aE L n := by unfold mvG; rw [e2, ← e0, updL_self]
                rw [eg, if_pos iin.1] at nx
                refine ⟨fun q3 => ?_, fun q3 => absurd ?_ q3⟩
                · rw [nI_1]; exact nx
                · rw [k0, iv_le (by unfold inB; omega) (by unfold inB; omega)]; omega
          have := key2 (nF L) 0 (by omega)
          rw [I0] at this
          exact this
      have k0' := key (nB L) 0 (by omega)
      rw [J0, Int.sub_self] at k0'
      exact k0'
    · obtain ⟨d, rfl, hd⟩ := dsucc hd
      refine zEv.of cw_X7_move (Nat.le_of_ble_eq_true rfl) rfl (blk_X7_move_0 ⟨_, S, ev_isFar (by omega) S _, b01_if (fun q => absurd c.1 q) (fun _ => ⟨_, S, ev_isPart (by omega) S v2, b01_if' (fun _ => ⟨_, ev_starts hM h.1, fun S5 k5 => ⟨_, _, ev_earsBehind7 (by omega) k5.1 h.1 n (by omega) (wks_bound h), fun S6 k6 => ⟨_, ev_startsJudging S6 _, fun S7 k7 => ?_⟩⟩⟩) (fun q => absurd c.2 q)⟩)⟩)
      have f7 : FrI nwP S S7 := ((k5.2.2.2.2.I st_nw).tr (k6.2.2.I md_nw)).tr k7.2
      have key : ∀ (m b : Nat) (S1 : ZSt), b + m = nB L → Jg S1 (J b) → FrI nwP S S1 → zSem (d + 1) mX7_move 31 [some (.ref 57), some (.int (nI n)), some (.int v2), some (.int (nI b)), none] [] S1 (zY (some (.int (jr (J (nB L)) v2))) (fun S' => HoM S' 58 0 L ∧ FrI modP S S')) := by
        intro m
        induction m with
        | zero =>
          intro b S1 hb j1 f1
          obtain rfl : b = nB L := by omega
          have M1 := hM.frI f1 nw_58
          have gn : gI S1 58 27 = nI (nB L) := by rw [M1.s.2.1, hn4.2, nI_iv]
          refine blk_X7_move_31 ⟨fun q => ⟨_, S1, ev_judged S1 j1 v2, rfl, M1, f1.mono nw_mod⟩, fun q => absurd (by rw [gn]; exact nI_le (by omega) (by omega)) q⟩
        | succ m ih =>
          intro b S1 hbm j1 f1
          have hb : b < nB L := by omega
          have M1 := hM.frI f1 nw_58
          have gn : gI S1 58 27 = nI (nB L) := by rw [M1.s.2.1, hn4.2, nI_iv]
          refine blk_X7_move_31 ⟨fun q => absurd q (by rw [gn]; exact nI_ge (by omega) (by omega)), fun q => ?_⟩
          have key2 : ∀ (m2 f : Nat) (S1 : ZSt), f + m2 = nF L → Jg S1 (I b f) → FrI nwP S S1 → zSem (d + 1) mX7_move 45 [some (.ref 57), some (.int (nI n)), some (.int v2), some (.int (nI b)), some (.int (nI f))] [] S1 (zY (some (.int (jr (J (nB L)) v2))) (fun S' => HoM S' 58 0 L ∧ FrI modP S S')) := by
            intro m2
            induction m2 with
            | zero =>
              intro f S1 hf j1 f1
              obtain rfl : f = nF L := by omega
              have M1 := hM.frI f1 nw_58
              have gf : gI S1 58 18 = nI (nF L) := by rw [M1.s.1, hn6.2, nI_iv]
              refine blk_X7_move_45 ⟨fun q => ?_, fun q => absurd (by rw [gf]; exact nI_le (by omega) (by omega)) q⟩
              rw [nI_1]
              exact ih (b + 1) S1 (by omega) (by rw [← Ie]; exact j1) f1
            | succ m2 ih2 =>
              intro f S1 hfm j1 f1
              have hf : f < nF L := by omega
              have M1 := hM.frI f1 nw_58
              have gf : gI S1 58 18 = nI (nF L) := by rw [M1.s.1, hn6.2, nI_iv]
              have iin := Iin b f hb (by omega)
              have gi := gin b f hb hf
              refine blk_X7_move_45 ⟨fun q => absurd q (by rw [gf]; exact nI_ge (by omega) (by omega)), fun q => ⟨_, ev_starts M1 h.1, fun S2 k2 => ⟨_, ev_bandBecomes S2 b 0 _ (by omega), fun S3 k3 => ?_⟩⟩⟩
              have a3 : HoN S3 (updL L 4 b (f : Int)) := by
                have := k2.1.putq h.1.n k2.2.2.1 (r := 4) (j := b) (nI f) (inR_b (by omega) hb) (by omega)
                rw [mpos_b (by omega), nI_toInt (by omega)] at this
                rw [k3]; exact this
              have f3 : FrI nwP S S3 := by rw [k3]; exact (f1.tr (k2.2.2.2.2.I st_nw)).pI _ (by unfold nwP; omega)
              have j3 : Jg S3 (I b f) := by rw [k3]; exact (j1.fr k2.2.2.2.2 (by unfold stP; omega) (by unfold stP; omega)).pI _ _
              refine ⟨_, _, ev_earsBehind7 (by omega) a3 (W5 b f hb hf) n (by omega) (by rw [updL_ne _ _ _ _ (by omega)]; exact wks_bound h), fun S5 k5 => ?_⟩
              have j5 : Jg S5 (I b f) := j3.fr k5.2.2 (by unfold mdP; omega) (by unfold mdP; omega)
              refine ⟨_, ev_judges S5 j5 (by unfold inB; omega) (mvC b f) (mvG L n b f) (by unfold inB; omega), fun S6 k6 => ?_⟩
              rw [nI_1]
              exact ih2 (f + 1) S6 (by omega) (by rw [Is]; exact k6.1) ((f3.tr (k5.2.2.I md_nw)).tr k6.2)
          exact key2 (nF L) 0 S1 (by omega) (by rw [I0]; exact j1) f1
      exact key (nB L) 0 S7 (by omega) (by rw [J0]; exact k7.1) f7
  · refine ⟨-1, L, fun d S hd hC => ?_, fun d S hd hM => ?_, h⟩
    · obtain ⟨d, rfl, hd⟩ := dsucc hd
      exact zEv.of cw_X6_move (Nat.le_of_ble_eq_true rfl) rfl (blk_X6_move_0 ⟨_, S, ev_within S _ 0 60, b01_if (fun _ => ⟨rfl, hC, FrI.rf _ _⟩) (fun q => ⟨_, S, ev_within S v2 0 1, b01_if' (fun q2 => absurd ⟨q, q2⟩ c) (fun _ => ⟨rfl, hC, FrI.rf _ _⟩)⟩)⟩)
    · obtain ⟨d, rfl, hd⟩ := dsucc hd
      exact zEv.of cw_X7_move (Nat.le_of_ble_eq_true rfl) rfl (blk_X7_move_0 ⟨_, S, ev_isFar (by omega) S _, b01_if (fun _ => ⟨rfl, hM, FrI.rf _ _⟩) (fun q => ⟨_, S, ev_isPart (by omega) S v2, b01_if' (fun q2 => absurd ⟨q, q2⟩ c) (fun _ => ⟨rfl, hM, FrI.rf _ _⟩)⟩)⟩)
