/-! runs, still -/
def ru (v a b c d e : Int32) : Int32 := if v = 0 then a else if v = 1 then b else if v = 2 then c else if v = 3 then d else e
theorem ru_0 {v a b c d e : Int32} (h : v = 0) : ru v a b c d e = a := if_pos h
theorem ru_1 {v a b c d e : Int32} (h : v = 1) : ru v a b c d e = b := by subst h; rfl
theorem ru_2 {v a b c d e : Int32} (h : v = 2) : ru v a b c d e = c := by subst h; rfl
theorem ru_3 {v a b c d e : Int32} (h : v = 3) : ru v a b c d e = d := by subst h; rfl
theorem ru_4 {v a b c d e : Int32} (h : v.toInt < 0 ∨ 3 < v.toInt) : ru v a b c d e = e := by
  have z0 : Int32.toInt 0 = 0 := by decide
  have z1 : Int32.toInt 1 = 1 := by decide
  have z2 : Int32.toInt 2 = 2 := by decide
  have z3 : Int32.toInt 3 = 3 := by decide
  unfold ru
  rw [if_neg (fun q => by rw [q, z0] at h; omega), if_neg (fun q => by rw [q, z1] at h; omega), if_neg (fun q => by rw [q, z2] at h; omega), if_neg (fun q => by rw [q, z3] at h; omega)]
def elB (g : Nat → Int) : Nat → Int32
  | 0 => 0
  | n + 1 => if g n = 0 then elB g n ||| ((1 : Int32) <<< (nI n &&& 31)) else elB g n
theorem ev_earlessFields {d : Nat} {B : Nat} (hB : zLd B) {S : ZSt} {L : Lnd} (h : HoC S B L) (hW : WF L) : zEv d mX2_earlessFields [.ref B] S (zX (some (.int (elB (L 2) (nF L)))) S) := by
  have hn6 := hW.nF.1
  have gf := h.gnF hW
  refine zEv.of cw_X2_earlessFields (Nat.le_of_ble_eq_true rfl) rfl (blk_X2_earlessFields_0 hB ?_)
  have key : ∀ (m j : Nat), j + m = nF L → zSem d mX2_earlessFields 4 [some (.ref B), some (.int (elB (L 2) j)), some (.int (nI j))] [] S (zX (some (.int (elB (L 2) (nF L)))) S) := by
    intro m
    induction m with
    | zero =>
      intro j hj
      obtain rfl : j = nF L := by omega
      exact blk_X2_earlessFields_4 hB ⟨fun q => ⟨rfl, rfl⟩, fun q => absurd (by rw [gf]; exact nI_le (by omega) (by omega)) q⟩
    | succ m ih =>
      intro j hj
      have hj2 : j < nF L := by omega
      have g2 := h.g (inR_f (r := 2) (by omega) hj2)
      have w := hW.f hj2
      have nx := ih (j + 1) (by omega)
      rw [elB] at nx
      have e : gI S (B + 2) j = 0 ↔ L 2 j = 0 := by rw [g2, k0]; exact iv_eq (by unfold inB; omega) (by unfold inB; omega)
      refine blk_X2_earlessFields_4 hB ⟨fun q => absurd q (by rw [gf]; exact nI_ge (by omega) (by omega)), fun q => ⟨ix_in (by omega) (by omega), ?_⟩⟩
      rw [ix_cl (by omega), nI_1]
      refine ⟨fun q2 => ?_, fun q2 => ?_⟩
      · rw [if_neg (fun z => q2 (e.mpr z))] at nx; exact nx
      · rw [if_pos (e.mp q2)] at nx; exact nx
  exact key (nF L) 0 (by omega)
theorem ev_emptyNow {d : Nat} (hdp : 1 ≤ d) {S : ZSt} {L : Lnd} (h : HoN S L) (hW : WF L) : zEv d mX7_emptyNow [.ref 57] S (zX (some (.int (elB (L 2) (nF L)))) S) := by
  obtain ⟨d, rfl⟩ : ∃ d', d = d' + 1 := ⟨d - 1, by omega⟩
  have hn6 := hW.nF
  have gf : gI S 59 18 = nI (nF L) := by rw [h.s.1, hn6.2, nI_iv]
  refine zEv.of cw_X7_emptyNow (Nat.le_of_ble_eq_true rfl) rfl (blk_X7_emptyNow_0 ?_)
  have key : ∀ (m j : Nat), j + m = nF L → zSem (d + 1) mX7_emptyNow 4 [some (.ref 57), some (.int (elB (L 2) j)), some (.int (nI j))] [] S (zX (some (.int (elB (L 2) (nF L)))) S) := by
    intro m
    induction m with
    | zero =>
      intro j hj
      obtain rfl : j = nF L := by omega
      exact blk_X7_emptyNow_4 ⟨fun q => ⟨rfl, rfl⟩, fun q => absurd (by rw [gf]; exact nI_le (by omega) (by omega)) q⟩
    | succ m ih =>
      intro j hj
      have hj2 : j < nF L := by omega
      have g2 := (h.g1 hj2).2.1
      have w := hW.f hj2
      have nx := ih (j + 1) (by omega)
      rw [elB] at nx
      have e : gI S 59 (3 * j + 1) = 0 ↔ L 2 j = 0 := by rw [g2, k0]; exact iv_eq (by unfold inB; omega) (by unfold inB; omega)
      refine blk_X7_emptyNow_4 ⟨fun q => absurd q (by rw [gf]; exact nI_ge (by omega) (by omega)), fun q => ⟨_, S, ev_of S j 1 (by omega), fun q2 => ⟨_, S, ev_flag S False, ?_⟩, fun q2 => ⟨_, S, ev_flag S True, ?_⟩⟩⟩
      · rw [if_neg (fun z => q2 (e.mpr z))] at nx
        rw [nI_1, show b01 False = 0 from rfl, Int32.zero_shiftLeft, Int32.or_zero]; exact nx
      · rw [if_pos (e.mp q2)] at nx
        rw [nI_1]; exact nx
  exact key (nF L) 0 (by omega)
theorem pub_runs {L : Lnd} (h : WFc L) (v1 v2 : Int32) : Both mX6_runs mX7_runs [.int v1, .int v2] L := by
  by_cases c : ((0 : Int) ≤ v1.toInt ∧ v1.toInt ≤ 60) ∧ ((0 : Int) ≤ v2.toInt ∧ v2.toInt ≤ 4)
  · obtain ⟨n, hn, rfl⟩ := toNat_of (n := 61) c.1.1 (by omega)
    have W := wks_WF h.1 n
    refine ⟨ru v2 (iv (sm_ (wks L n 2) (nF (wks L n)))) (iv (wks L n 0 12)) (iv (sm_ (wks L n 3) (nF (wks L n)))) (iv (fns L n)) (elB (wks L n 2) (nF (wks L n))), L, fun d S hd hC => ?_, fun d S hd hM => ?_, h⟩
    · obtain ⟨d, rfl, hd⟩ := dsucc hd
      refine zEv.of cw_X6_runs (Nat.le_of_ble_eq_true rfl) rfl (blk_X6_runs_0 ⟨_, S, ev_within S _ 0 60, b01_if (fun q => absurd c.1 q) (fun _ => ⟨_, S, ev_within S v2 0 4, b01_if' (fun _ => ⟨_, ev_copyFrom (by omega) zLd_10 zLd_1 (by omega) hC h.1.n, fun S5 k5 => ⟨_, _, ev_passWeeks (by omega) zLd_10 k5.1 h.1 n (by omega) (wks_bound h), fun S6 k6 => ?_⟩⟩) (fun q => absurd c.2 q)⟩)⟩)
      have f6 : FrI clsP S S6 := (k5.2.tr k6.2).I ld10_cls
      have C6 : HoC S6 1 L := (hC.fr k5.2 (fun r j q => by unfold ldP; omega)).fr k6.2 (fun r j q => by unfold ldP; omega)
      refine ⟨fun q => ⟨_, S6, ev_allEars (by omega) zLd_10 k6.1 W, ?_⟩, fun q => ?_, fun q => ⟨_, S6, ev_allBlight (by omega) zLd_10 k6.1 W, ?_⟩, fun q => ?_, fun q => ⟨_, S6, ev_earlessFields zLd_10 k6.1 W, ?_⟩⟩
      · rw [ru_0 q]; exact ⟨rfl, C6, f6⟩
      · rw [ru_1 q, k6.1.g0 (by omega)]; exact ⟨rfl, C6, f6⟩
      · rw [ru_2 q]; exact ⟨rfl, C6, f6⟩
      · rw [ru_3 q]; exact ⟨rfl, C6, f6⟩
      · rw [ru_4 q]; exact ⟨rfl, C6, f6⟩
    · obtain ⟨d, rfl, hd⟩ := dsucc hd
      refine zEv.of cw_X7_runs (Nat.le_of_ble_eq_true rfl) rfl (blk_X7_runs_0 ⟨_, S, ev_isFar (by omega) S _, b01_if (fun q => absurd c.1 q) (fun _ => ⟨_, S, ev_inI S v2 0 4 0 4 rfl rfl, b01_if' (fun _ => ⟨_, ev_starts hM h.1, fun S5 k5 => ⟨_, ev_weeksGo (by omega) k5.1 h.1 n (by omega) (wks_bound h), fun S6 k6 => ?_⟩⟩) (fun q => absurd c.2 q)⟩)⟩)
      have f6 : FrI nwP S S6 := (k5.2.2.2.2.I st_nw).tr (k6.2.2.I md_nw)
      have C6 : HoM S6 58 0 L := hM.frI f6 nw_58
      have m6 : FrI modP S S6 := f6.mono nw_mod
      have g15 : gI S6 57 15 = iv (fns L n) := by rw [k6.2.1, k5.2.1, Int32.zero_add]
      refine ⟨fun q => ⟨_, S6, ev_sumOf7 (by omega) k6.1 W 1 (by omega), ?_⟩, fun q => ?_, fun q => ⟨_, S6, ev_sumOf7 (by omega) k6.1 W 2 (by omega), ?_⟩, fun q => ?_, fun q => ⟨_, S6, ev_emptyNow (by omega) k6.1 W, ?_⟩⟩
      · rw [ru_0 q]; exact ⟨rfl, C6, m6⟩
      · rw [ru_1 q, k6.1.s.2.2.2.2.1]; exact ⟨rfl, C6, m6⟩
      · rw [ru_2 q]; exact ⟨rfl, C6, m6⟩
      · rw [ru_3 q, g15]; exact ⟨rfl, C6, m6⟩
      · rw [ru_4 q]; exact ⟨rfl, C6, m6⟩
  · refine ⟨-1, L, fun d S hd hC => ?_, fun d S hd hM => ?_, h⟩
    · obtain ⟨d, rfl, hd⟩ := dsucc hd
      exact zEv.of cw_X6_runs (Nat.le_of_ble_eq_true rfl) rfl (blk_X6_runs_0 ⟨_, S, ev_within S _ 0 60, b01_if (fun _ => ⟨rfl, hC, FrI.rf _ _⟩) (fun q => ⟨_, S, ev_within S v2 0 4, b01_if' (fun q2 => absurd ⟨q, q2⟩ c) (fun _ => ⟨rfl, hC, FrI.rf _ _⟩)⟩)⟩)
    · obtain ⟨d, rfl, hd⟩ := dsucc hd
      exact zEv.of cw_X7_runs (Nat.le_of_ble_eq_true rfl) rfl (blk_X7_runs_0 ⟨_, S, ev_isFar (by omega) S _, b01_if (fun _ => ⟨rfl, hM, FrI.rf _ _⟩) (fun q => ⟨_, S, ev_inI S v2 0 4 0 4 rfl rfl, b01_if' (fun q2 => absurd ⟨q, q2⟩ c) (fun _ => ⟨rfl, hM, FrI.rf _ _⟩)⟩)⟩)
theorem HoN_quiet {S : ZSt} {L : Lnd} (h : HoN S L) (hq : gI S 57 14 = -4) {b : Nat} (hb : b < 1000) : HoN (pI S 57 14 (nI b)) (updL L 5 b 0) := by
  intro r j hr
  have hr2 : inR L r j := by
    unfold inR nF nB nS at hr ⊢
    rw [updL_ne _ _ _ _ (by omega), updL_ne _ _ _ _ (by omega), updL_ne _ _ _ _ (by omega)] at hr
    exact hr
  have q1 : zi S 57 14 = -4 := by unfold zi; rw [hq]; rfl
  have q2 : zi (pI S 57 14 (nI b)) 57 14 = (b : Int) := by unfold zi; rw [gI_pI, if_pos ⟨rfl, rfl⟩]; exact nI_toInt (by omega)
  have q3 : zi (pI S 57 14 (nI b)) 59 (mpos r j) = zi S 59 (mpos r j) := by unfold zi; rw [gI_pI, if_neg (by omega)]
  rw [q2, q3]
  refine ⟨fun q => ?_, fun q => ?_⟩
  · obtain rfl : r = 5 := q.1
    obtain rfl : j = b := by omega
    exact updL_at _ _ _ _
  · rw [updL_ne _ _ _ _ (by omega)]
    exact (h r j hr2).2 (by rw [q1]; omega)
def stV (L : Lnd) (n : Nat) (b : Nat) : Int := wks (updL L 5 b 0) n 0 12
theorem ev_sheavesWithout {d : Nat} (hd : 5 ≤ d) {S : ZSt} {L : Lnd} (h : HoC S 1 L) (hW : WFc L) (b n : Nat) (hb : b < nB L) (hn : n < 1000) : zEv d mX6_sheavesWithout [.ref 0, .int (nI b), .int (nI n)] S (zY (some (.int (iv (stV L n b)))) (fun S' => HoC S' 1 L ∧ FrI clsP S S')) := by
  obtain ⟨d, rfl⟩ : ∃ d', d = d' + 1 := ⟨d - 1, by omega⟩
  have hn4 := hW.1.nB
  have W5 : WF (updL L 5 b 0) := WF_put hW.1 (by omega) (by omega) (by omega) (by omega) (by omega) (fun _ => by omega) (by omega)
  refine zEv.of cw_X6_sheavesWithout (Nat.le_of_ble_eq_true rfl) rfl (blk_X6_sheavesWithout_0 ⟨_, ev_copyFrom (by omega) zLd_10 zLd_1 (by omega) h hW.1.n, fun S1 k1 => ?_⟩)
  have C1 : HoC S1 1 L := h.fr k1.2 (fun r j q => by unfold ldP; omega)
  refine ⟨_, S1, ev_isBand (by omega) C1 hW.1 _, b01_if (fun q => absurd (by rw [nI_toInt (by omega)]; omega) q) (fun q => ⟨ix_in (by omega) (by omega), ?_⟩)⟩
  rw [ix_cl (by omega)]
  have P1 : HoC (pI S1 15 b 0) 10 (updL L 5 b 0) := k1.1.put 5 b (z := 0) (by unfold inB; omega) (by omega)
  refine ⟨_, _, ev_passWeeks (by omega) zLd_10 P1 W5 n hn (by rw [updL_ne _ _ _ _ (by omega)]; exact wks_bound hW), fun S4 k4 => ?_⟩
  have f1 : Fr (ldP 10) S (pI S1 15 b 0) := k1.2.pI _ (by unfold ldP; omega)
  exact ⟨by rw [k4.1.g0 (by omega)]; rfl, (h.fr f1 (fun r j q => by unfold ldP; omega)).fr k4.2 (fun r j q => by unfold ldP; omega), (f1.tr k4.2).I ld10_cls⟩
theorem ev_sheavesWithout0 {d : Nat} (hd : 5 ≤ d) {S : ZSt} {L : Lnd} (h : HoC S 1 L) (hW : WFc L) (n : Nat) (hn : n < 1000) : zEv d mX6_sheavesWithout [.ref 0, .int (-4), .int (nI n)] S (zY (some (.int (iv (wks L n 0 12)))) (fun S' => HoC S' 1 L ∧ FrI clsP S S')) := by
  obtain ⟨d, rfl⟩ : ∃ d', d = d' + 1 := ⟨d - 1, by omega⟩
  refine zEv.of cw_X6_sheavesWithout (Nat.le_of_ble_eq_true rfl) rfl (blk_X6_sheavesWithout_0 ⟨_, ev_copyFrom (by omega) zLd_10 zLd_1 (by omega) h hW.1.n, fun S1 k1 => ?_⟩)
  have C1 : HoC S1 1 L := h.fr k1.2 (fun r j q => by unfold ldP; omega)
  have zm : Int32.toInt (-4) = -4 := by decide
  refine ⟨_, S1, ev_isBand (by omega) C1 hW.1 _, b01_if (fun q => ⟨_, _, ev_passWeeks (by omega) zLd_10 k1.1 hW.1 n hn (wks_bound hW), fun S4 k4 => ?_⟩) (fun q => absurd q (by rw [zm]; omega))⟩
  exact ⟨by rw [k4.1.g0 (by omega)], C1.fr k4.2 (fun r j q => by unfold ldP; omega), (k1.2.tr k4.2).I ld10_cls⟩
theorem pub_still {L : Lnd} (h : WFc L) (v1 v2 : Int32) : Both mX6_still mX7_still [.int v1, .int v2] L := by
  by_cases c : ((0 : Int) ≤ v1.toInt ∧ v1.toInt ≤ 60) ∧ ((0 : Int) ≤ v2.toInt ∧ v2.toInt ≤ 1)
  · obtain ⟨n, hn, rfl⟩ := toNat_of (n := 61) c.1.1 (by omega)
    have hn4 := h.1.nB
    have W := wks_WF h.1 n
    have W5 : ∀ b, WF (updL L 5 b 0) := fun b => WF_put h.1 (by omega) (by omega) (by omega) (by omega) (by omega) (fun _ => by omega) (by omega)
    have gin : ∀ b, 0 ≤ stV L n b ∧ stV L n b ≤ 999 := fun b => (wks_WF (W5 b) n).2.2.2.2.1
    have g0in : 0 ≤ wks L n 0 12 ∧ wks L n 0 12 ≤ 999 := W.2.2.2.2.1
    obtain ⟨J, hJ⟩ : ∃ J, J = jF nI (stV L n) (-4, wks L n 0 12) := ⟨_, rfl⟩
    have Jin : ∀ b, wks L n 0 12 ≤ (J b).2 ∧ (J b).2 ≤ 999 := fun b => by
      rw [hJ]; exact jF_in (by show wks L n 0 12 ≤ wks L n 0 12 ∧ wks L n 0 12 ≤ 999; omega) b (fun j hj => (gin j).2)
    have Js : ∀ b, J (b + 1) = jst (J b) (nI b) (stV L n b) := fun b => by rw [hJ]; rfl
    have J0 : J 0 = (-4, wks L n 0 12) := by rw [hJ]; rfl
    refine ⟨jr (J (nB L)) v2, L, fun d S hd hC => ?_, fun d S hd hM => ?_, h⟩
    · obtain ⟨d, rfl, hd⟩ := dsucc hd
      refine zEv.of cw_X6_still (Nat.le_of_ble_eq_true rfl) rfl (blk_X6_still_0 ⟨_, S, ev_within S _ 0 60, b01_if (fun q => absurd c.1 q) (fun _ => ⟨_, S, ev_within S v2 0 1, b01_if' (fun _ => ⟨_, _, ev_sheavesWithout0 (by omega) hC h n (by omega), fun S5 k5 => ?_⟩) (fun q => absurd c.2 q)⟩)⟩)
      have key : ∀ (m b : Nat) (S1 : ZSt), b + m = nB L → HoC S1 1 L → FrI clsP S S1 → zSem (d + 1) mX6_still 36 [some (.ref 0), some (.int (nI n)), some (.int v2), some (.int (iv (J b).2)), some (.int (J b).1), some (.int (nI b)), none] [] S1 (zY (some (.int (jr (J (nB L)) v2))) (fun S' => HoC S' 1 L ∧ FrI clsP S S')) := by
        intro m
        induction m with
        | zero =>
          intro b S1 hb C1 f1
          obtain rfl : b = nB L := by omega
          have gn := C1.gnB h.1
          refine blk_X6_still_36 ⟨fun q => ⟨fun q1 => ?_, fun q1 => ⟨fun q2 => ?_, fun q2 => ?_⟩⟩, fun q => absurd (by rw [gn]; exact nI_le (by omega) (by omega)) q⟩
          · unfold jr; rw [if_pos q1, q1]; exact ⟨rfl, C1, f1⟩
          · unfold jr; rw [if_neg q1, if_neg q2]; exact ⟨rfl, C1, f1⟩
          · unfold jr; rw [if_neg q1, if_pos q2]; exact ⟨rfl, C1, f1⟩
        | succ m ih =>
          intro b S1 hbm C1 f1
          have hb : b < nB L := by omega
          have gn := C1.gnB h.1
          have gi := gin b
          have ji := Jin b
          refine blk_X6_still_36 ⟨fun q => absurd q (by rw [gn]; exact nI_ge (by omega) (by omega)), fun q => ⟨_, _, ev_sheavesWithout (by omega) C1 h b n hb (by omega), fun S4 k4 => ?_⟩⟩
          have nx := ih (b + 1) S4 (by omega) k4.1 (f1.tr k4.2)
          rw [Js] at nx
          unfold jst at nx
          rw [nI_1, iv_le (by unfold inB; omega) (by unfold inB; omega)]
          refine ⟨fun q3 => ?_, fun q3 => ?_⟩
          · rw [if_pos q3] at nx; exact nx
          · rw [if_neg q3] at nx; exact nx
      have k0' := key (nB L) 0 S5 (by omega) k5.1 k5.2
      rw [J0] at k0'
      exact k0'
    · obtain ⟨d, rfl, hd⟩ := dsucc hd
      refine zEv.of cw_X7_still (Nat.le_of_ble_eq_true rfl) rfl (blk_X7_still_0 ⟨_, S, ev_isFar (by omega) S _, b01_if (fun q => absurd c.1 q) (fun _ => ⟨_, S, ev_isPart (by omega) S v2, b01_if' (fun _ => ⟨_, ev_starts hM h.1, fun S5 k5 => ⟨_, ev_weeksGo (by omega) k5.1 h.1 n (by omega) (wks_bound h), fun S6 k6 => ?_⟩⟩) (fun q => absurd c.2 q)⟩)⟩)
      rw [k6.1.s.2.2.2.2.1]
      refine ⟨_, ev_startsJudging S6 _, fun S7 k7 => ?_⟩
      have f7 : FrI nwP S S7 := ((k5.2.2.2.2.I st_nw).tr (k6.2.2.I md_nw)).tr k7.2
      have key : ∀ (m b : Nat) (S1 : ZSt), b + m = nB L → Jg S1 (J b) → FrI nwP S S1 → zSem (d + 1) mX7_still 38 [some (.ref 57), some (.int (nI n)), some (.int v2), some (.int (nI b))] [] S1 (zY (some (.int (jr (J (nB L)) v2))) (fun S' => HoM S' 58 0 L ∧ FrI modP S S')) := by
        intro m
        induction m with
        | zero =>
          intro b S1 hb j1 f1
          obtain rfl : b = nB L := by omega
          have M1 := hM.frI f1 nw_58
          have gn : gI S1 58 27 = nI (nB L) := by rw [M1.s.2.1, hn4.2, nI_iv]
          refine blk_X7_still_38 ⟨fun q => ⟨_, S1, ev_judged S1 j1 v2, rfl, M1, f1.mono nw_mod⟩, fun q => absurd (by rw [gn]; exact nI_le (by omega) (by omega)) q⟩
        | succ m ih =>
          intro b S1 hbm j1 f1
          have hb : b < nB L := by omega
          have M1 := hM.frI f1 nw_58
          have gn : gI S1 58 27 = nI (nB L) := by rw [M1.s.2.1, hn4.2, nI_iv]
          have gi := gin b
          have ji := Jin b
          refine blk_X7_still_38 ⟨fun q => absurd q (by rw [gn]; exact nI_ge (by omega) (by omega)), fun q => ⟨_, ev_starts M1 h.1, fun S3 k3 => ?_⟩⟩
          have a3 := HoN_quiet k3.1 k3.2.2.1 (b := b) (by omega)
          have f3 : FrI nwP S (pI S3 57 14 (nI b)) := (f1.tr (k3.2.2.2.2.I st_nw)).pI _ (by unfold nwP; omega)
          have j3 : Jg (pI S3 57 14 (nI b)) (J b) := by
            have := j1.fr k3.2.2.2.2 (by unfold stP; omega) (by unfold stP; omega)
            exact ⟨by rw [gI_pI, if_neg (by omega)]; exact this.1, by rw [gI_pI, if_neg (by omega)]; exact this.2⟩
          refine ⟨_, ev_weeksGo (by omega) a3 (W5 b) n (by omega) (by rw [updL_ne _ _ _ _ (by omega)]; exact wks_bound h), fun S4 k4 => ?_⟩
          rw [k4.1.s.2.2.2.2.1]
          have j4 : Jg S4 (J b) := j3.fr k4.2.2 (by unfold mdP; omega) (by unfold mdP; omega)
          refine ⟨_, ev_judges S4 j4 (by unfold inB; omega) (nI b) (stV L n b) (by unfold inB; omega), fun S5 k5 => ?_⟩
          rw [nI_1]
          exact ih (b + 1) S5 (by omega) (by rw [Js]; exact k5.1) ((f3.tr (k4.2.2.I md_nw)).tr k5.2)
      exact key (nB L) 0 S7 (by omega) (by rw [J0]; exact k7.1) f7
  · refine ⟨-1, L, fun d S hd hC => ?_, fun d S hd hM => ?_, h⟩
    · obtain ⟨d, rfl, hd⟩ := dsucc hd
      exact zEv.of cw_X6_still (Nat.le_of_ble_eq_true rfl) rfl (blk_X6_still_0 ⟨_, S, ev_within S _ 0 60, b01_if (fun _ => ⟨rfl, hC, FrI.rf _ _⟩) (fun q => ⟨_, S, ev_within S v2 0 1, b01_if' (fun q2 => absurd ⟨q, q2⟩ c) (fun _ => ⟨rfl, hC, FrI.rf _ _⟩)⟩)⟩)
    · obtain ⟨d, rfl, hd⟩ := dsucc hd
      exact zEv.of cw_X7_still (Nat.le_of_ble_eq_true rfl) rfl (blk_X7_still_0 ⟨_, S, ev_isFar (by omega) S _, b01_if (fun _ => ⟨rfl, hM, FrI.rf _ _⟩) (fun q => ⟨_, S, ev_isPart (by omega) S v2, b01_if' (fun q2 => absurd ⟨q, q2⟩ c) (fun _ => ⟨rfl, hM, FrI.rf _ _⟩)⟩)⟩)
