/-! swap -/
def sw (f k x : Int) : Int := if x = f then k else if x = k then f else x
def swP (L : Lnd) (f k : Int) : Nat → Lnd
  | 0 => L
  | m + 1 => updL (swP L f k m) 4 m (sw f k (L 4 m))
theorem swP_r {L : Lnd} {f k : Int} {r j : Nat} (hr : r ≠ 4) : ∀ m, swP L f k m r j = L r j
  | 0 => rfl
  | m + 1 => by rw [swP, updL_ne _ _ _ _ (by omega)]; exact swP_r hr m
theorem swP_4 {L : Lnd} {f k : Int} {j : Nat} : ∀ m, swP L f k m 4 j = if j < m then sw f k (L 4 j) else L 4 j
  | 0 => by rw [if_neg (by omega)]; rfl
  | m + 1 => by
    rw [swP]
    by_cases q : j = m
    · subst q; rw [updL_at, if_pos (by omega)]
    · rw [updL_ne _ _ _ _ (by omega), swP_4 m]
      by_cases q2 : j < m
      · rw [if_pos q2, if_pos (by omega)]
      · rw [if_neg q2, if_neg (by omega)]
theorem swP_n {L : Lnd} {f k : Int} (m : Nat) : nF (swP L f k m) = nF L ∧ nB (swP L f k m) = nB L ∧ nS (swP L f k m) = nS L := by
  unfold nF nB nS; rw [swP_r (by omega), swP_r (by omega), swP_r (by omega)]; exact ⟨rfl, rfl, rfl⟩
theorem sw_in {f k x n : Int} (hf : 0 ≤ f ∧ f < n) (hk : 0 ≤ k ∧ k < n) (hx : 0 ≤ x ∧ x < n) : 0 ≤ sw f k x ∧ sw f k x < n := by
  unfold sw; split
  · exact hk
  · split
    · exact hf
    · exact hx
theorem swP_WF {L : Lnd} (hW : WF L) {f k : Int} (hf : 0 ≤ f ∧ f < L 0 8) (hk : 0 ≤ k ∧ k < L 0 8) : ∀ m, m ≤ nB L → WF (swP L f k m)
  | 0, _ => hW
  | m + 1, hm => by
    rw [swP]
    refine WF_put (swP_WF hW hf hk m (by omega)) (by omega) (by omega) (by omega) (by omega) (fun _ => ?_) (by omega) (by omega)
    rw [swP_r (by omega)]
    exact sw_in hf hk (hW.b (by omega)).1
theorem sw_eq (f k x g : Int) : sw f k x = g ↔ x = sw f k g := by
  unfold sw
  constructor <;> intro h <;> (repeat' split at h) <;> (repeat' split) <;> omega
theorem hd_swP {L : Lnd} {f k g : Int} {M : Nat} : ∀ m, m ≤ M → hd (swP L f k M) g m = hd L (sw f k g) m
  | 0, _ => rfl
  | m + 1, hm => by
    rw [hd, hd, hd_swP m (by omega), swP_r (r := 5) (by omega), swP_4, if_pos (show m < M by omega)]
    simp only [sw_eq]
theorem hdL_swP {L : Lnd} {f k g : Int} : hdL (swP L f k (nB L)) g = hdL L (sw f k g) := by
  unfold hdL; rw [(swP_n _).2.1]; exact hd_swP _ (Nat.le_refl _)
theorem eI_swP {L : Lnd} {f k : Int} (m j : Nat) (x : Int) (n : Nat) : eI (swP L f k m) j x n = eI L j x n := by
  unfold eI; rw [swP_r (by omega), swP_r (by omega), swP_r (by omega)]
theorem aE_swap {L : Lnd} {f k : Nat} (hf : f < nF L) (hk : k < nF L) (hne : f ≠ k) (n : Nat) : aE (swP L f k (nB L)) n = aE L n + (eI L f (hdL L k) n - eI L f (hdL L f) n) + (eI L k (hdL L f) n - eI L k (hdL L k) n) := by
  have := sm_two (g := fun j => eI L j (hdL L j) n) (g' := fun j => eI (swP L f k (nB L)) j (hdL (swP L f k (nB L)) j) n) (f1 := f) (f2 := k) (nF L) hf hk hne (fun j hj q1 q2 => by
    show eI (swP L f k (nB L)) j (hdL (swP L f k (nB L)) j) n = eI L j (hdL L j) n
    rw [eI_swP, hdL_swP]; unfold sw; rw [if_neg (by omega), if_neg (by omega)])
  unfold aE
  rw [(swP_n _).1, this]
  show _ + (eI (swP L f k (nB L)) f (hdL (swP L f k (nB L)) f) n - eI L f (hdL L f) n) + (eI (swP L f k (nB L)) k (hdL (swP L f k (nB L)) k) n - eI L k (hdL L k) n) = _
  rw [eI_swP, eI_swP, hdL_swP, hdL_swP]; unfold sw; rw [if_pos rfl, if_neg (by omega), if_pos rfl]
def swG (L : Lnd) (n : Nat) (f i : Nat) : Int := aE (swP L (f : Int) ((f + 1 + i : Nat) : Int) (nB L)) n
def swC (f i : Nat) : Int32 := 10 * nI f + nI (f + 1 + i)
theorem nI_ne {a b : Nat} (ha : a < 1000) (hb : b < 1000) (h : a ≠ b) : ¬ nI a = nI b := fun z => by
  have := congrArg Int32.toInt z
  rw [nI_toInt (by omega), nI_toInt (by omega)] at this; omega
theorem pub_swap {L : Lnd} (h : WFc L) (v1 v2 : Int32) : Both mX6_swap mX7_swap [.int v1, .int v2] L := by
  by_cases c : ((0 : Int) ≤ v1.toInt ∧ v1.toInt ≤ 60) ∧ ((0 : Int) ≤ v2.toInt ∧ v2.toInt ≤ 1)
  · obtain ⟨n, hn, rfl⟩ := toNat_of (n := 61) c.1.1 (by omega)
    have hn4 := h.1.nB
    have hn6 := h.1.nF
    have hae := aE_in h.1 n
    have W5 : ∀ f k m : Nat, f < nF L → k < nF L → m ≤ nB L → WF (swP L f k m) := fun f k m hf hk hm => swP_WF h.1 (by omega) (by omega) m hm
    have gin : ∀ f i : Nat, f < nF L → f + 1 + i < nF L → 0 ≤ swG L n f i ∧ swG L n f i ≤ 594 := fun f i hf hk => aE_in (W5 f (f + 1 + i) _ hf hk (Nat.le_refl _)) n
    obtain ⟨J, hJ⟩ : ∃ J, J = jO swC (swG L n) (fun f => nF L - (f + 1)) (-4, aE L n) := ⟨_, rfl⟩
    have Jin : ∀ b, b ≤ nF L → aE L n ≤ (J b).2 ∧ (J b).2 ≤ 594 := fun b hb => by
      rw [hJ]; exact jO_in (by show aE L n ≤ aE L n ∧ aE L n ≤ 594; omega) b (fun i hi j hj => (gin i j (by omega) (by omega)).2)
    obtain ⟨I, hI⟩ : ∃ I : Nat → Nat → Int32 × Int, I = fun b => jF (swC b) (swG L n b) (J b) := ⟨_, rfl⟩
    have I0 : ∀ b, I b 0 = J b := fun b => by rw [hI]; rfl
    have Is : ∀ b f, I b (f + 1) = jst (I b f) (swC b f) (swG L n b f) := fun b f => by rw [hI]; rfl
    have Ie : ∀ b, I b (nF L - (b + 1)) = J (b + 1) := fun b => by rw [hI, hJ]; rfl
    have Iin : ∀ b f, b < nF L → f ≤ nF L - (b + 1) → aE L n ≤ (I b f).2 ∧ (I b f).2 ≤ 594 := fun b f hb hf => by
      rw [hI]; exact jF_in (Jin b (by omega)) f (fun j hj => (gin b j hb (by omega)).2)
    have J0 : J 0 = (-4, aE L n) := by rw [hJ]; rfl
    refine ⟨jr (J (nF L)) v2, L, fun d S hd hC => ?_, fun d S hd hM => ?_, h⟩
    · obtain ⟨d, rfl, hd⟩ := dsucc hd
      have gf := hC.gnF h.1
      refine zEv.of cw_X6_swap (Nat.le_of_ble_eq_true rfl) rfl (blk_X6_swap_0 ⟨_, S, ev_within S _ 0 60, b01_if (fun q => absurd c.1 q) (fun _ => ⟨_, S, ev_within S v2 0 1, b01_if' (fun _ => ?_) (fun q => absurd c.2 q)⟩)⟩)
      have key : ∀ (m b : Nat), b + m = nF L → zSem (d + 1) mX6_swap 30 [some (.ref 0), some (.int (nI n)), some (.int v2), some (.int (iv ((J b).2 - aE L n))), some (.int (J b).1), some (.int (nI b)), none, none, none] [] S (zY (some (.int (jr (J (nF L)) v2))) (fun S' => HoC S' 1 L ∧ FrI clsP S S')) := by
        intro m
        induction m with
        | zero =>
          intro b hb
          obtain rfl : b = nF L := by omega
          refine blk_X6_swap_30 ⟨fun q => ⟨fun q1 => ?_, fun q1 => ⟨fun q2 => ⟨_, S, ev_allEarsBehind (by omega) zLd_1 hC h.1 n (by omega), ?_⟩, fun q2 => ?_⟩⟩, fun q => absurd (by rw [gf]; exact nI_le (by omega) (by omega)) q⟩
          · unfold jr; rw [if_pos q1, q1]; exact ⟨rfl, hC, FrI.rf _ _⟩
          · unfold jr; rw [if_neg q1, if_neg q2, iv_add, show sm_ (fun f => eI L f (hdL L f) n) (nF L) = aE L n from rfl, show aE L n + ((J (nF L)).2 - aE L n) = (J (nF L)).2 by omega]; exact ⟨rfl, hC, FrI.rf _ _⟩
          · unfold jr; rw [if_neg q1, if_pos q2]; exact ⟨rfl, hC, FrI.rf _ _⟩
        | succ m ih =>
          intro b hbm
          have hb : b < nF L := by omega
          refine blk_X6_swap_30 ⟨fun q => absurd q (by rw [gf]; exact nI_ge (by omega) (by omega)), fun q => ?_⟩
          rw [nI_1]
          have key2 : ∀ (m2 i : Nat), i + m2 = nF L - (b + 1) → zSem (d + 1) mX6_swap 48 [some (.ref 0), some (.int (nI n)), some (.int v2), some (.int (iv ((I b i).2 - aE L n))), some (.int (I b i).1), some (.int (nI b)), some (.int (nI (b + 1 + i))), none, none] [] S (zY (some (.int (jr (J (nF L)) v2))) (fun S' => HoC S' 1 L ∧ FrI clsP S S')) := by
            intro m2
            induction m2 with
            | zero =>
              intro i hi
              obtain rfl : i = nF L - (b + 1) := by omega
              refine blk_X6_swap_48 ⟨fun q => ?_, fun q => absurd (by rw [gf]; exact nI_le (by omega) (by omega)) q⟩
              rw [nI_1, Ie]
              exact ih (b + 1) (by omega)
            | succ m2 ih2 =>
              intro i him
              have hk : b + 1 + i < nF L := by omega
              have iin := Iin b i hb (by omega)
              have nx := ih2 (i + 1) (by omega)
              rw [Is, show b + 1 + (i + 1) = b + 1 + i + 1 from rfl] at nx
              unfold jst at nx
              have w1 := hdL_in h.1 b
              have w2 := hdL_in h.1 (b + 1 + i : Nat)
              have ge := aE_swap hb hk (by omega) n
              have gi := gin b i hb hk
              refine blk_X6_swap_48 ⟨fun q => absurd q (by rw [gf]; exact nI_ge (by omega) (by omega)), fun q => ⟨_, S, ev_heardAtN zLd_1 hC h.1 (b + 1 + i) (by omega), _, S, ev_heardAtN zLd_1 hC h.1 b (by omega), ?_⟩⟩
              rw [iv_sub, iv_neg]
              refine ⟨_, S, ev_gainBy (by omega) zLd_1 hC h.1 b hb _ (by omega) n (by omega), _, S, ev_gainBy (by omega) zLd_1 hC h.1 (b + 1 + i) hk _ (by omega) n (by omega), ?_⟩
              rw [show hdL L b + (hdL L (b + 1 + i : Nat) - hdL L b) = hdL L (b + 1 + i : Nat) by omega, show hdL L (b + 1 + i : Nat) + -(hdL L (b + 1 + i : Nat) - hdL L b) = hdL L b by omega]
              have eg : eI L b (hdL L (b + 1 + i : Nat)) n - eI L b (hdL L b) n + (eI L (b + 1 + i) (hdL L b) n - eI L (b + 1 + i) (hdL L (b + 1 + i : Nat)) n) = swG L n b i - aE L n := by unfold swG; omega
              rw [iv_add, eg, iv_le (by unfold inB; omega) (by unfold inB; omega), nI_1]
              refine ⟨fun q3 => ?_, fun q3 => ?_⟩
              · rw [if_pos (by omega)] at nx; exact nx
              · rw [if_neg (by omega)] at nx; exact nx
          have := key2 (nF L - (b + 1)) 0 (by omega)
          rw [I0] at this
          exact this
      have k0' := key (nF L) 0 (by omega)
      rw [J0, Int.sub_self] at k0'
      exact k0'
    · obtain ⟨d, rfl, hd⟩ := dsucc hd
      refine zEv.of cw_X7_swap (Nat.le_of_ble_eq_true rfl) rfl (blk_X7_swap_0 ⟨_, S, ev_isFar (by omega) S _, b01_if (fun q => absurd c.1 q) (fun _ => ⟨_, S, ev_isPart (by omega) S v2, b01_if' (fun _ => ⟨_, ev_starts hM h.1, fun S5 k5 => ⟨_, _, ev_earsBehind7 (by omega) k5.1 h.1 n (by omega) (wks_bound h), fun S6 k6 => ⟨_, ev_startsJudging S6 _, fun S7 k7 => ?_⟩⟩⟩) (fun q => absurd c.2 q)⟩)⟩)
      have f7 : FrI nwP S S7 := ((k5.2.2.2.2.I st_nw).tr (k6.2.2.I md_nw)).tr k7.2
      have key : ∀ (m b : Nat) (S1 : ZSt), b + m = nF L → Jg S1 (J b) → FrI nwP S S1 → zSem (d + 1) mX7_swap 31 [some (.ref 57), some (.int (nI n)), some (.int v2), some (.int (nI b)), none, none, none] [] S1 (zY (some (.int (jr (J (nF L)) v2))) (fun S' => HoM S' 58 0 L ∧ FrI modP S S')) := by
        intro m
        induction m with
        | zero =>
          intro b S1 hb j1 f1
          obtain rfl : b = nF L := by omega
          have M1 := hM.frI f1 nw_58
          have gf : gI S1 58 18 = nI (nF L) := by rw [M1.s.1, hn6.2, nI_iv]
          refine blk_X7_swap_31 ⟨fun q => ⟨_, S1, ev_judged S1 j1 v2, rfl, M1, f1.mono nw_mod⟩, fun q => absurd (by rw [gf]; exact nI_le (by omega) (by omega)) q⟩
        | succ m ih =>
          intro b S1 hbm j1 f1
          have hb : b < nF L := by omega
          have M1 := hM.frI f1 nw_58
          have gf : gI S1 58 18 = nI (nF L) := by rw [M1.s.1, hn6.2, nI_iv]
          refine blk_X7_swap_31 ⟨fun q => absurd q (by rw [gf]; exact nI_ge (by omega) (by omega)), fun q => ?_⟩
          rw [nI_1]
          have key2 : ∀ (m2 i : Nat) (S1 : ZSt), i + m2 = nF L - (b + 1) → Jg S1 (I b i) → FrI nwP S S1 → zSem (d + 1) mX7_swap 47 [some (.ref 57), some (.int (nI n)), some (.int v2), some (.int (nI b)), some (.int (nI (b + 1 + i))), none, none] [] S1 (zY (some (.int (jr (J (nF L)) v2))) (fun S' => HoM S' 58 0 L ∧ FrI modP S S')) := by
            intro m2
            induction m2 with
            | zero =>
              intro i S1 hi j1 f1
              obtain rfl : i = nF L - (b + 1) := by omega
              have M1 := hM.frI f1 nw_58
              have gf : gI S1 58 18 = nI (nF L) := by rw [M1.s.1, hn6.2, nI_iv]
              refine blk_X7_swap_47 ⟨fun q => ?_, fun q => absurd (by rw [gf]; exact nI_le (by omega) (by omega)) q⟩
              rw [nI_1]
              exact ih (b + 1) S1 (by omega) (by rw [← Ie]; exact j1) f1
            | succ m2 ih2 =>
              intro i S1 him j1 f1
              have hk : b + 1 + i < nF L := by omega
              have M1 := hM.frI f1 nw_58
              have gf : gI S1 58 18 = nI (nF L) := by rw [M1.s.1, hn6.2, nI_iv]
              have iin := Iin b i hb (by omega)
              have gi := gin b i hb hk
              refine blk_X7_swap_47 ⟨fun q => absurd q (by rw [gf]; exact nI_ge (by omega) (by omega)), fun q => ⟨_, ev_starts M1 h.1, fun S2 k2 => ?_⟩⟩
              have key3 : ∀ (m3 t : Nat) (S1 : ZSt), t + m3 = nB L → HoN S1 (swP L (b : Int) ((b + 1 + i : Nat) : Int) t) → gI S1 57 14 = -4 → Jg S1 (I b i) → FrI nwP S S1 → zSem (d + 1) mX7_swap 66 [some (.ref 57), some (.int (nI n)), some (.int v2), some (.int (nI b)), some (.int (nI (b + 1 + i))), some (.int (nI t)), none] [] S1 (zY (some (.int (jr (J (nF L)) v2))) (fun S' => HoM S' 58 0 L ∧ FrI modP S S')) := by
                intro m3
                induction m3 with
                | zero =>
                  intro t S1 ht a1 e1 j1 f1
                  obtain rfl : t = nB L := by omega
                  have M1 := hM.frI f1 nw_58
                  have gn : gI S1 58 27 = nI (nB L) := by rw [M1.s.2.1, hn4.2, nI_iv]
                  refine blk_X7_swap_66 ⟨fun q => ⟨_, _, ev_earsBehind7 (by omega) a1 (W5 b (b + 1 + i) _ hb hk (Nat.le_refl _)) n (by omega) (by rw [swP_r (by omega)]; exact wks_bound h), fun S5 k5 => ?_⟩, fun q => absurd (by rw [gn]; exact nI_le (by omega) (by omega)) q⟩
                  have j5 : Jg S5 (I b i) := j1.fr k5.2.2 (by unfold mdP; omega) (by unfold mdP; omega)
                  refine ⟨_, ev_judges S5 j5 (by unfold inB; omega) (swC b i) (swG L n b i) (by unfold inB; omega), fun S6 k6 => ?_⟩
                  rw [nI_1]
                  exact ih2 (i + 1) S6 (by omega) (by rw [Is]; exact k6.1) ((f1.tr (k5.2.2.I md_nw)).tr k6.2)
                | succ m3 ih3 =>
                  intro t S1 htm a1 e1 j1 f1
                  have ht : t < nB L := by omega
                  have wt := h.1.b ht
                  have M1 := hM.frI f1 nw_58
                  have gn : gI S1 58 27 = nI (nB L) := by rw [M1.s.2.1, hn4.2, nI_iv]
                  obtain ⟨g, hg, eg⟩ : ∃ g : Nat, g < nF L ∧ L 4 t = (g : Int) := ⟨(L 4 t).toNat, by omega, by omega⟩
                  have n3 := swP_n (L := L) (f := (b : Int)) (k := ((b + 1 + i : Nat) : Int)) t
                  have g4 := a1.g (r := 4) (j := t) (inR_b (by omega) (by rw [n3.2.1]; exact ht)) (by omega)
                  rw [mpos_b (by omega), swP_4, if_neg (by omega), eg, ← nI_iv] at g4
                  have nxt : ∀ (x : Nat), x < nF L → sw (b : Int) ((b + 1 + i : Nat) : Int) (g : Int) = (x : Int) → ∃ P9 : ZSt → Prop, zEv d mX7_bandBecomes [.ref 57, .int (nI t), .int 0, .int (nI x)] S1 (zY none P9) ∧ ∀ S9 : ZSt, P9 S9 → zSem (d + 1) mX7_swap 66 [some (.ref 57), some (.int (nI n)), some (.int v2), some (.int (nI b)), some (.int (nI (b + 1 + i))), some (.int (nI t + 1)), none] [] S9 (zY (some (.int (jr (J (nF L)) v2))) (fun S' => HoM S' 58 0 L ∧ FrI modP S S')) := by
                    intro x hx ex
                    refine ⟨_, ev_bandBecomes S1 t 0 _ (by omega), fun S3 k3 => ?_⟩
                    rw [nI_1, k3]
                    refine ih3 (t + 1) _ (by omega) ?_ ?_ (j1.pI _ _) (f1.pI _ (by unfold nwP; omega))
                    · have := a1.putq (by rw [n3.1, n3.2.1, n3.2.2]; exact h.1.n) e1 (r := 4) (j := t) (nI x) (inR_b (by omega) (by rw [n3.2.1]; exact ht)) (by omega)
                      rw [mpos_b (by omega), nI_toInt (by omega)] at this
                      rw [swP, eg, ex]
                      exact this
                    · rw [gI_pI, if_neg (by omega)]; exact e1
                  refine blk_X7_swap_66 ⟨fun q => absurd q (by rw [gn]; exact nI_ge (by omega) (by omega)), fun q => ⟨_, S1, ev_ofBand S1 t 0 (by omega), ?_⟩⟩
                  rw [show 19 + 2 * t + 0 = 19 + 2 * t + (4 - 4) from rfl, g4]
                  refine ⟨fun q1 => ⟨fun q2 => ?_, fun q2 => ?_⟩, fun q1 => ?_⟩
                  · refine nxt g hg ?_
                    unfold sw; rw [if_neg (fun z => q1 (by rw [Int.ofNat.inj z])), if_neg (fun z => q2 (by rw [Int.ofNat.inj z]))]
                  · refine nxt b hb ?_
                    have e2 : g = b + 1 + i := Classical.byContradiction (fun z => nI_ne (by omega) (by omega) z q2)
                    unfold sw; rw [e2, if_neg (by omega), if_pos rfl]
                  · refine nxt (b + 1 + i) hk ?_
                    have e2 : g = b := Classical.byContradiction (fun z => nI_ne (by omega) (by omega) z q1)
                    unfold sw; rw [e2, if_pos rfl]
              exact key3 (nB L) 0 S2 (by omega) k2.1 k2.2.2.1 (j1.fr k2.2.2.2.2 (by unfold stP; omega) (by unfold stP; omega)) (f1.tr (k2.2.2.2.2.I st_nw))
          exact key2 (nF L - (b + 1)) 0 S1 (by omega) (by rw [I0]; exact j1) f1
      exact key (nF L) 0 S7 (by omega) (by rw [J0]; exact k7.1) f7
  · refine ⟨-1, L, fun d S hd hC => ?_, fun d S hd hM => ?_, h⟩
    · obtain ⟨d, rfl, hd⟩ := dsucc hd
      exact zEv.of cw_X6_swap (Nat.le_of_ble_eq_true rfl) rfl (blk_X6_swap_0 ⟨_, S, ev_within S _ 0 60, b01_if (fun _ => ⟨rfl, hC, FrI.rf _ _⟩) (fun q => ⟨_, S, ev_within S v2 0 1, b01_if' (fun q2 => absurd ⟨q, q2⟩ c) (fun _ => ⟨rfl, hC, FrI.rf _ _⟩)⟩)⟩)
    · obtain ⟨d, rfl, hd⟩ := dsucc hd
      exact zEv.of cw_X7_swap (Nat.le_of_ble_eq_true rfl) rfl (blk_X7_swap_0 ⟨_, S, ev_isFar (by omega) S _, b01_if (fun _ => ⟨rfl, hM, FrI.rf _ _⟩) (fun q => ⟨_, S, ev_isPart (by omega) S v2, b01_if' (fun q2 => absurd ⟨q, q2⟩ c) (fun _ => ⟨rfl, hM, FrI.rf _ _⟩)⟩)⟩)
