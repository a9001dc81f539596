/-! order: the reference, and both -/
theorem dgR_dig {F : Nat} (hF : 0 < F) : ∀ k (r : Nat → Nat) c j, j < k → dgR F k r c j = c / F ^ (k - 1 - j) % F
  | 0, _, _, _, h => absurd h (by omega)
  | k + 1, r, c, j, h => by
    rw [dgR]
    by_cases q : j = k
    · subst q; rw [dgR_ge j _ _ j (Nat.le_refl _), updR_at, show j + 1 - 1 - j = 0 by omega, Nat.pow_zero, Nat.div_one]
    · rw [dgR_dig hF k _ _ j (by omega), Nat.div_div_eq_div_mul, ← Nat.pow_succ', show k + 1 - 1 - j = (k - 1 - j).succ by omega]
theorem nI_divN {a b : Nat} (ha : a ≤ 32767) (hb : 0 < b ∧ b < 1000) : nI a / nI b = nI (a / b) := by
  rw [nI_iv a, nI_iv b, iv_div (by omega) (by omega), ← Int.natCast_ediv, ← nI_iv]
theorem hd_row {L L1 : Lnd} {r : Nat → Nat} (h5 : ∀ j, L1 5 j = L 5 j) (f : Nat) : ∀ m, (∀ j, j < m → L1 4 j = (r j : Int)) → hd L1 f m = ldS L (sg r f) m
  | 0, _ => rfl
  | m + 1, h => by
    rw [hd, ldS, hd_row h5 f m (fun j hj => h j (by omega)), h m (by omega), h5]
    congr 1
    by_cases q : r m = f
    · rw [if_pos (by omega), if_pos (show sg r f m = true from decide_eq_true q)]
    · rw [if_neg (by omega), if_neg (by rw [show sg r f m = false from decide_eq_false q]; decide)]
theorem aE_row {L L1 : Lnd} (hR : ∀ R j, R ≠ 4 → L1 R j = L R j) (c : Nat) (h4 : ∀ j, j < nB L → L1 4 j = (oR L c j : Int)) : aE L1 6 = oT L c := by
  have n1 : nF L1 = nF L := by unfold nF; rw [hR 0 8 (by omega)]
  have n2 : nB L1 = nB L := by unfold nB; rw [hR 0 9 (by omega)]
  unfold aE oT
  rw [n1]
  refine sm_congr _ (fun f hf => ?_)
  show eI L1 f (hdL L1 f) 6 = XX L f (sg (oR L c) f)
  have e : hdL L1 f = ldS L (sg (oR L c) f) (nB L) := by unfold hdL; rw [n2]; exact hd_row (fun j => hR 5 j (by omega)) f _ h4
  rw [e]
  unfold eI XX eI
  rw [hR 1 f (by omega), hR 2 f (by omega), hR 3 f (by omega)]
theorem zEv_judgesF {d : Nat} (S : ZSt) {s : Int32 × Int} (h : Jg S s) (hs : inB s.2) (cd : Int32) (z : Int) (hz : inB z) : zEv d mX7_judges [.ref 57, .int cd, .int (iv z)] S (zY none (fun S' => Jg S' (jst s cd z) ∧ FrI jgP S S')) := by
  have e : iv z ≤ gI S 57 17 ↔ z ≤ s.2 := by rw [h.2]; exact iv_le hz hs
  refine zEv.of cw_X7_judges (Nat.le_of_ble_eq_true rfl) rfl (blk_X7_judges_0 ⟨fun c => ⟨rfl, ?_, FrI.rf _ _⟩, fun c => ⟨rfl, ?_, ((FrI.rf jgP S).pI _ (by unfold jgP; omega)).pI _ (by unfold jgP; omega)⟩⟩)
  · unfold jst; rw [if_pos (e.mp c)]; exact h
  · unfold jst; rw [if_neg (fun q => c (e.mpr q))]
    refine ⟨?_, ?_⟩
    · rw [gI_pI, if_neg (by omega), gI_pI, if_pos ⟨rfl, rfl⟩]
    · rw [gI_pI, if_pos ⟨rfl, rfl⟩]
theorem ev_findOrder {d : Nat} (hdp : 7 ≤ d) {S : ZSt} {L : Lnd} (hM : HoM S 58 0 L) (h : WFc L) (hF : 0 < nF L) : zEv d mX7_findOrder [.ref 57] S (zY none (fun S' => gI S' 57 17 = iv (orF L (nF L ^ nB L)).2 ∧ (∀ b, b < nB L → gI S' 63 b = nI ((orF L (nF L ^ nB L)).1 b)) ∧ FrI nwP S S')) := by
  obtain ⟨d, rfl⟩ : ∃ d', d = d' + 1 := ⟨d - 1, by omega⟩
  have hW := h.1
  have hn4 := hW.nB
  have hn6 := hW.nF
  have pw := pow_in hn6.1 hn4.1
  have z6 : ¬ nI (nF L) = 0 := fun z => nI_ne (a := nF L) (b := 0) (by omega) (by omega) (by omega) (z.trans nI_0.symm)
  have gB : ∀ S1, FrI nwP S S1 → gI S1 58 27 = nI (nB L) := fun S1 f1 => by rw [(hM.frI f1 nw_58).s.2.1, hn4.2, ← nI_iv]
  have gF : ∀ S1, FrI nwP S S1 → gI S1 58 18 = nI (nF L) := fun S1 f1 => by rw [(hM.frI f1 nw_58).s.1, hn6.2, ← nI_iv]
  have fin : (orF L (nF L ^ nB L)).2 ≠ -1 := by
    have : ∀ n, 0 < n → 0 ≤ (orF L n).2 := by
      intro n
      induction n with
      | zero => intro h; exact absurd h (by omega)
      | succ n ih =>
        intro _
        have t := oT_in hW n
        rw [orF]; split
        · next q => omega
        · exact t.1
    have := this _ (Nat.pow_pos hF (n := nB L))
    omega
  refine zEv.of cw_X7_findOrder (Nat.le_of_ble_eq_true rfl) rfl (blk_X7_findOrder_0 ?_)
  have key : ∀ (m c : Nat) (S1 : ZSt) (cd : Int32), c + m = nF L ^ nB L → Jg S1 (cd, (orF L c).2) → (∀ b, b < nB L → (orF L c).2 ≠ -1 → gI S1 63 b = nI ((orF L c).1 b)) → FrI nwP S S1 → zSem (d + 1) mX7_findOrder 38 [some (.ref 57), some (.int (nI (nF L ^ nB L))), some (.int (nI c)), none, none, none] [] S1 (zY none (fun S' => gI S' 57 17 = iv (orF L (nF L ^ nB L)).2 ∧ (∀ b, b < nB L → gI S' 63 b = nI ((orF L (nF L ^ nB L)).1 b)) ∧ FrI nwP S S')) := by
    intro m
    induction m with
    | zero =>
      intro c S1 cd hc j1 h63 F1
      obtain rfl : c = nF L ^ nB L := by omega
      exact blk_X7_findOrder_38 ⟨fun q => ⟨rfl, j1.2, fun b hb => h63 b hb fin, F1⟩, fun q => absurd (nI_le (by omega) (by omega)) q⟩
    | succ m ih =>
      intro c S1 cd hcm j1 h63 F1
      have M1 := hM.frI F1 nw_58
      have t := oT_in hW c
      have i := orF_in hW c
      refine blk_X7_findOrder_38 ⟨fun q => absurd q (nI_ge (by omega) (by omega)), fun q => ⟨_, ev_starts M1 hW, fun S2 k2 => ?_⟩⟩
      have F2 : FrI nwP S S2 := F1.tr (k2.2.2.2.2.I st_nw)
      have j2 : Jg S2 (cd, (orF L c).2) := j1.fr k2.2.2.2.2 (by unfold stP; omega) (by unfold stP; omega)
      have h2 : ∀ b, b < nB L → (orF L c).2 ≠ -1 → gI S2 63 b = nI ((orF L c).1 b) := fun b hb ne => by rw [k2.2.2.2.2.1 63 b (by unfold stP; omega)]; exact h63 b hb ne
      rw [gB S2 F2, nI_iv (nB L), k1, iv_sub]
      -- the row is laid
      have key2 : ∀ (k : Nat) (L1 : Lnd) (S3 : ZSt), k ≤ nB L → HoN S3 L1 → WF L1 → gI S3 57 14 = -4 → (∀ R j, R ≠ 4 → L1 R j = L R j) → (∀ j, k ≤ j → j < nB L → L1 4 j = (oR L c j : Int)) → Jg S3 (cd, (orF L c).2) → (∀ b, b < nB L → (orF L c).2 ≠ -1 → gI S3 63 b = nI ((orF L c).1 b)) → FrI nwP S S3 → zSem (d + 1) mX7_findOrder 60 [some (.ref 57), some (.int (nI (nF L ^ nB L))), some (.int (nI c)), some (.int (nI (c / nF L ^ (nB L - k)))), some (.int (iv ((k : Int) - 1))), none] [] S3 (zY none (fun S' => gI S' 57 17 = iv (orF L (nF L ^ nB L)).2 ∧ (∀ b, b < nB L → gI S' 63 b = nI ((orF L (nF L ^ nB L)).1 b)) ∧ FrI nwP S S')) := by
        intro k
        induction k with
        | zero =>
          intro L1 S3 hk N3 W1 e3 R1 D1 j3 h3 F3
          refine blk_X7_findOrder_60 ⟨fun q2 => ⟨_, _, ev_earsBehind7 (by omega) N3 W1 6 (by omega) (by rw [R1 0 13 (by omega)]; exact wks_bound h), fun S4 k4 => ?_⟩, fun q2 => absurd (by decide) q2⟩
          rw [aE_row R1 c (fun j hj => D1 j (by omega) hj)]
          have j4 : Jg S4 (cd, (orF L c).2) := j3.fr k4.2.2 (by unfold mdP; omega) (by unfold mdP; omega)
          have F4 : FrI nwP S S4 := F3.tr (k4.2.2.I md_nw)
          have h4 : ∀ b, b < nB L → (orF L c).2 ≠ -1 → gI S4 63 b = nI ((orF L c).1 b) := fun b hb ne => by rw [k4.2.2.1 63 b (by unfold mdP; omega)]; exact h3 b hb ne
          have n1 : nB L1 = nB L := by unfold nB; rw [R1 0 9 (by omega)]
          have row : ∀ j, j < nB L → gI S4 59 (19 + 2 * j + 0) = nI (oR L c j) := fun j hj => by
            have := k4.1.g (r := 4) (j := j) (inR_b (by omega) (by rw [(wks_n 6).2.1, n1]; exact hj)) (by omega)
            rw [mpos_b (by omega), wks_r (by omega), D1 j (by omega) hj, ← nI_iv] at this
            exact this
          by_cases q4 : oT L c ≤ (orF L c).2
          · have jd : ∃ P2 : ZSt → Prop, zEv d mX7_judges [.ref 57, .int (nI c), .int (iv (oT L c))] S4 (zY none P2) ∧ ∀ S2 : ZSt, P2 S2 → zSem (d + 1) mX7_findOrder 38 [some (.ref 57), some (.int (nI (nF L ^ nB L))), some (.int (nI c + 1)), none, none, none] [] S2 (zY none (fun S' => gI S' 57 17 = iv (orF L (nF L ^ nB L)).2 ∧ (∀ b, b < nB L → gI S' 63 b = nI ((orF L (nF L ^ nB L)).1 b)) ∧ FrI nwP S S')) := by
              refine ⟨_, zEv_judgesF S4 j4 (by unfold inB; show -2147483648 ≤ (orF L c).2 ∧ (orF L c).2 < 2147483648; omega) (nI c) (oT L c) (by unfold inB; omega), fun S5 k5 => ?_⟩
              rw [nI_1]
              have e : orF L (c + 1) = orF L c := by rw [orF, if_pos q4]
              refine ih (c + 1) S5 cd (by omega) ?_ (fun b hb ne => ?_) (F4.tr (k5.2.mono jg_nw))
              · have := k5.1
                unfold jst at this
                rw [if_pos q4] at this
                rw [e]; exact this
              · rw [e] at ne ⊢
                rw [k5.2 63 b (by unfold jgP; omega)]; exact h4 b hb ne
            refine blk_X7_findOrder_108 ⟨fun _ => jd, fun _ => ⟨fun _ => jd, fun q5 => absurd ?_ q5⟩⟩
            rw [j4.2]; exact (iv_le (by unfold inB; omega) (by unfold inB; show -2147483648 ≤ (orF L c).2 ∧ (orF L c).2 < 2147483648; omega)).mpr q4
          · have e : orF L (c + 1) = (oR L c, oT L c) := by rw [orF, if_neg q4]
            have key3 : ∀ (m3 j : Nat) (S5 : ZSt), j + m3 = nB L → Jg S5 (cd, (orF L c).2) → (∀ b, b < j → gI S5 63 b = nI (oR L c b)) → (∀ b, b < nB L → gI S5 59 (19 + 2 * b + 0) = nI (oR L c b)) → FrI nwP S S5 → zSem (d + 1) mX7_findOrder 108 [some (.ref 57), some (.int (nI (nF L ^ nB L))), some (.int (nI c)), none, some (.int (iv (oT L c))), some (.int (nI j))] [] S5 (zY none (fun S' => gI S' 57 17 = iv (orF L (nF L ^ nB L)).2 ∧ (∀ b, b < nB L → gI S' 63 b = nI ((orF L (nF L ^ nB L)).1 b)) ∧ FrI nwP S S')) := by
              intro m3
              induction m3 with
              | zero =>
                intro j S5 hj j5 h5 r5 F5
                obtain rfl : j = nB L := by omega
                refine blk_X7_findOrder_108 ⟨fun _ => ⟨_, zEv_judgesF S5 j5 (by unfold inB; show -2147483648 ≤ (orF L c).2 ∧ (orF L c).2 < 2147483648; omega) (nI c) (oT L c) (by unfold inB; omega), fun S6 k6 => ?_⟩, fun q5 => absurd (by rw [gB S5 F5]; exact nI_le (by omega) (by omega)) q5⟩
                rw [nI_1]
                refine ih (c + 1) S6 (nI c) (by omega) ?_ (fun b hb ne => ?_) (F5.tr (k6.2.mono jg_nw))
                · have := k6.1
                  unfold jst at this
                  rw [if_neg q4] at this
                  rw [e]; exact this
                · rw [e, k6.2 63 b (by unfold jgP; omega)]; exact h5 b hb
              | succ m3 ih3 =>
                intro j S5 hjm j5 h5 r5 F5
                have hj : j < nB L := by omega
                refine blk_X7_findOrder_108 ⟨fun q5 => absurd q5 (by rw [gB S5 F5]; exact nI_ge (by omega) (by omega)), fun q5 => ⟨fun q6 => absurd ?_ q4, fun q6 => ⟨_, S5, ev_ofBand S5 j 0 (by omega), ix_in (by omega) (by omega), ?_⟩⟩⟩
                · rw [j5.2] at q6; exact (iv_le (by unfold inB; omega) (by unfold inB; show -2147483648 ≤ (orF L c).2 ∧ (orF L c).2 < 2147483648; omega)).mp q6
                · rw [ix_cl (by omega), r5 j hj, nI_1]
                  refine ih3 (j + 1) _ (by omega) ⟨by rw [gI_pI, if_neg (by omega)]; exact j5.1, by rw [gI_pI, if_neg (by omega)]; exact j5.2⟩ (fun b hb => ?_) (fun b hb => by rw [gI_pI, if_neg (by omega)]; exact r5 b hb) (F5.pI _ (by unfold nwP; omega))
                  rw [gI_pI]
                  by_cases q7 : b = j
                  · rw [q7, if_pos ⟨rfl, rfl⟩]
                  · rw [if_neg (by omega)]; exact h5 b (by omega)
            exact key3 (nB L) 0 S4 (by omega) j4 (fun b hb => absurd hb (by omega)) row F4
        | succ k ih2 =>
          intro L1 S3 hk N3 W1 e3 R1 D1 j3 h3 F3
          have hkB : k < nB L := by omega
          have cq : c / nF L ^ (nB L - (k + 1)) ≤ 32767 := by have := Nat.div_le_self c (nF L ^ (nB L - (k + 1))); omega
          have n0 : nF L1 = nF L := by unfold nF; rw [R1 0 8 (by omega)]
          have n1 : nB L1 = nB L := by unfold nB; rw [R1 0 9 (by omega)]
          have dig : oR L c k = c / nF L ^ (nB L - (k + 1)) % nF L := by
            have := dgR_dig hF (nB L) r0 c k hkB
            rw [show nB L - 1 - k = nB L - (k + 1) by omega] at this
            exact this
          have dlt : oR L c k < nF L := dgR_lt hF _ _ _ k hkB
          rw [show ((k + 1 : Nat) : Int) - 1 = (k : Int) by omega, ← nI_iv]
          refine blk_X7_findOrder_60 ⟨fun q2 => absurd q2 (nI_nlt (a := k) (b := 0) (by omega) (by omega)), fun q2 => ⟨by rw [gF S3 F3]; exact z6, ?_⟩⟩
          rw [gF S3 F3, nI_rem cq (by omega), ← dig]
          refine ⟨_, ev_bandBecomes S3 k 0 _ (by omega), fun S4 k4 => ?_⟩
          have F4 : FrI nwP S S4 := by rw [k4]; exact F3.pI _ (by unfold nwP; omega)
          rw [gF S4 F4, nI_divN cq (by omega), Nat.div_div_eq_div_mul, ← Nat.pow_succ, show (nB L - (k + 1)).succ = nB L - k by omega, nI_iv k, km1, iv_add]
          refine ⟨z6, ih2 (updL L1 4 k (oR L c k : Int)) S4 (by omega) ?_ (WF_put W1 (by omega) (by omega) (by omega) (by omega) (fun _ => by rw [W1.nF.2, n0]; omega) (by omega) (by omega)) ?_ (fun R j hR => by rw [updL_ne _ _ _ _ (by omega)]; exact R1 R j hR) (fun j hj1 hj2 => ?_) ?_ (fun b hb ne => ?_) F4⟩
          · have := N3.putq W1.n e3 (r := 4) (j := k) (nI (oR L c k)) (inR_b (by omega) (by rw [n1]; exact hkB)) (by omega)
            rw [mpos_b (by omega), nI_toInt (by omega)] at this
            rw [k4]; exact this
          · rw [k4, gI_pI, if_neg (by omega)]; exact e3
          · by_cases q7 : j = k
            · rw [q7, updL_at]
            · rw [updL_ne _ _ _ _ (by omega)]; exact D1 j (by omega) hj2
          · rw [k4]; exact j3.pI _ _
          · rw [k4, gI_pI, if_neg (by omega)]; exact h3 b hb ne
      have := key2 (nB L) L S2 (Nat.le_refl _) k2.1 hW k2.2.2.1 (fun _ _ _ => rfl) (fun j h1 h2 => absurd h2 (by omega)) j2 h2 F2
      rw [Nat.sub_self, Nat.pow_zero, Nat.div_one] at this
      exact this
  have key0 : ∀ (m j : Nat), j + m = nB L → zSem (d + 1) mX7_findOrder 4 [some (.ref 57), some (.int (nI (nF L ^ j))), some (.int (nI j)), none, none, none] [] S (zY none (fun S' => gI S' 57 17 = iv (orF L (nF L ^ nB L)).2 ∧ (∀ b, b < nB L → gI S' 63 b = nI ((orF L (nF L ^ nB L)).1 b)) ∧ FrI nwP S S')) := by
    intro m
    induction m with
    | zero =>
      intro j hj
      obtain rfl : j = nB L := by omega
      refine blk_X7_findOrder_4 ⟨fun q => ⟨_, ev_startsJudging S (-1), fun S2 k2 => ?_⟩, fun q => absurd (by rw [gB S (FrI.rf _ _)]; exact nI_le (by omega) (by omega)) q⟩
      exact key (nF L ^ nB L) 0 S2 (-4) (by omega) k2.1 (fun b hb ne => absurd rfl ne) k2.2
    | succ m ih =>
      intro j hj
      refine blk_X7_findOrder_4 ⟨fun q => absurd q (by rw [gB S (FrI.rf _ _)]; exact nI_ge (by omega) (by omega)), fun q => ?_⟩
      rw [gF S (FrI.rf _ _), pk_mul, ← Nat.pow_succ, nI_1]
      exact ih (j + 1) (by omega)
  exact key0 (nB L) 0 (by omega)
