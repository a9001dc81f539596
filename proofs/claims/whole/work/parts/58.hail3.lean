/-! HAIL: the reference -/
def Lh (L : Lnd) (j : Nat) : Nat → Lnd
  | 0 => L
  | k + 1 => wk (hlL (Lh L j k) (Nat.testBit j k = true))
theorem hlL_r {L : Lnd} {p : Prop} [Decidable p] {r : Nat} (h : r ≠ 3) (i : Nat) : hlL L p r i = L r i := by unfold hlL; split; exact hlI_r h i; rfl
theorem hlL_hd {L : Lnd} {p : Prop} [Decidable p] (f : Int) : hdL (hlL L p) f = hdL L f := hdL_eq (fun i => hlL_r (by omega) i) (fun i => hlL_r (by omega) i) (hlL_r (by omega) _) f
theorem hlL_3 {L : Lnd} {t : Bool} {f : Nat} (hf : f < nF L) : hlL L (t = true) 3 f = hbt t (L 3 f) := by
  unfold hlL hbt
  split
  · rw [hlI_3, if_pos hf]
  · rfl
theorem Lh_n {L : Lnd} {j : Nat} : ∀ k, nF (Lh L j k) = nF L ∧ nB (Lh L j k) = nB L ∧ nS (Lh L j k) = nS L
  | 0 => ⟨rfl, rfl, rfl⟩
  | k + 1 => by
    obtain ⟨a, b, c⟩ := Lh_n (L := L) (j := j) k
    obtain ⟨a', b', c'⟩ := hlL_n (L := Lh L j k) (Nat.testBit j k = true)
    obtain ⟨a2, b2, c2⟩ := wk_n (L := hlL (Lh L j k) (Nat.testBit j k = true))
    exact ⟨a2.trans (a'.trans a), b2.trans (b'.trans b), c2.trans (c'.trans c)⟩
theorem Lh_WF {L : Lnd} (hW : WF L) {j : Nat} : ∀ k, WF (Lh L j k)
  | 0 => hW
  | k + 1 => wk_WF (hlL_WF (Lh_WF hW k) _)
theorem Lh_13 {L : Lnd} {j : Nat} : ∀ k, Lh L j k 0 13 = L 0 13 + k
  | 0 => by simp [Lh]
  | k + 1 => by rw [Lh, wk_13, hlL_r (by omega), Lh_13 k]; push_cast; omega
theorem Lh_hd {L : Lnd} {j : Nat} (f : Int) : ∀ k, hdL (Lh L j k) f = hdL L f
  | 0 => rfl
  | k + 1 => by rw [Lh, wk_hd, hlL_hd, Lh_hd f k]
theorem Lh_f {L : Lnd} {j f : Nat} (hf : f < nF L) : ∀ k, Lh L j k 1 f = L 1 f ∧ Lh L j k 2 f = (wyL L f j k).1 ∧ Lh L j k 3 f = (wyL L f j k).2
  | 0 => ⟨rfl, rfl, rfl⟩
  | k + 1 => by
    obtain ⟨a, b, c⟩ := Lh_f (j := j) hf k
    have n0 : f < nF (Lh L j k) := by rw [(Lh_n k).1]; exact hf
    have n1 : f < nF (hlL (Lh L j k) (Nat.testBit j k = true)) := by rw [(hlL_n _).1]; exact n0
    have e1 : hlL (Lh L j k) (Nat.testBit j k = true) 1 f = L 1 f := by rw [hlL_r (by omega), a]
    have e2 : hlL (Lh L j k) (Nat.testBit j k = true) 2 f = (wyL L f j k).1 := by rw [hlL_r (by omega), b]
    have e3 : hlL (Lh L j k) (Nat.testBit j k = true) 3 f = hbt (Nat.testBit j k) (wyL L f j k).2 := by rw [hlL_3 n0, c]
    refine ⟨by rw [Lh, wk_r (by omega), e1], ?_, ?_⟩
    · rw [Lh, wk_2 n1]; unfold wkE; rw [e1, e2, e3, hlL_hd, Lh_hd]; rfl
    · rw [Lh, wk_3 n1]; unfold wkB; rw [e1, e3, hlL_hd, Lh_hd]; rfl
theorem sm_sN {g : Nat → Int} : ∀ n, (∀ j, j < n → 0 ≤ g j) → sm_ g n = ((sN (fun j => (g j).toNat) n : Nat) : Int)
  | 0, _ => rfl
  | n + 1, h => by
    have := h n (by omega)
    rw [sm_, sN, sm_sN n (fun j hj => h j (by omega))]; push_cast
    rw [Int.toNat_of_nonneg this]
theorem bit_is : ∀ k : Nat, k < 8 → ∀ j : Nat, j < 256 → (((nI j >>> (nI k &&& 31)) &&& 1) = 1 ↔ Nat.testBit j k = true) := by decide +kernel
theorem shl_is : ∀ n : Nat, n < 9 → (1 : Int32) <<< (nI n &&& 31) = nI (2 ^ n) := by decide +kernel
/-- all ears of a way, weighed -/
def eaT (L : Lnd) (v n j : Nat) : Nat := wtN v (Nat.testBit j) n * sN (fun f => (wyL L f j n).1.toNat) (nF L)
theorem eaT_swap (L : Lnd) (v n : Nat) : sN (eaT L v n) (2 ^ n) = sN (fun f => earN L f v n) (nF L) := by
  unfold earN
  rw [← sN_swap]
  refine sN_congr _ (fun j _ => ?_)
  unfold eaT
  rw [sN_mul]
theorem ev_findOdds {d : Nat} {S : ZSt} {L : Lnd} (hM : HoM S 58 0 L) (h : WFc L) (v n : Nat) (hv : v ≤ 10) (hn : n ≤ 8) (F : Int32) (w : Int) (hw : inB w) (X : Nat → Nat) (hX : (F = -4 ∧ ∀ j, X j = 0) ∨ (∃ f, f < nF L ∧ F = nI f ∧ ∀ j, X j = if (wyL L f j n).1 < w then 0 else wtN v (Nat.testBit j) n)) : zEv (d + 6) mX7_findOdds [.ref 57, .int (nI v), .int F, .int (nI n), .int (iv w)] S (zY none (fun S' => gL S' 57 19 = lN (sN X (2 ^ n)) ∧ gL S' 57 20 = lN (sN (eaT L v n) (2 ^ n)) ∧ gL S' 57 21 = lN (10 ^ n) ∧ FrI nwP S S')) := by
  have hn6 := h.1.nF.1
  refine zEv.of cw_X7_findOdds (Nat.le_of_ble_eq_true rfl) rfl (blk_X7_findOdds_0 (fun S1 e1 S2 e2 S3 e3 => ?_))
  have hp := p2_le8 hn
  obtain ⟨P, eP⟩ : ∃ P, P = 2 ^ n := ⟨_, rfl⟩
  rw [← eP] at hp ⊢
  have key : ∀ (m q : Nat) (T : ZSt), q + m = P → gL T 57 19 = lN (sN X q) → gL T 57 20 = lN (sN (eaT L v n) q) → gL T 57 21 = lN (10 ^ n) → FrI nwP S T → zSem (d + 6) mX7_findOdds 45 [some (.ref 57), some (.int (nI v)), some (.int F), some (.int (nI n)), some (.int (iv w)), some (.int (nI q)), none, none, none, none] [] T (zY none (fun S' => gL S' 57 19 = lN (sN X P) ∧ gL S' 57 20 = lN (sN (eaT L v n) P) ∧ gL S' 57 21 = lN (10 ^ n) ∧ FrI nwP S S')) := by
    intro m
    induction m with
    | zero =>
      intro q T hq a1 a2 a3 f1
      obtain rfl : q = P := by omega
      refine blk_X7_findOdds_45 ?_
      rw [shl_is n (by omega), ← eP]
      exact ⟨fun _ => ⟨rfl, a1, a2, a3, f1⟩, fun z => absurd (nI_le (by omega) (by omega)) z⟩
    | succ m ih =>
      intro q T hq a1 a2 a3 f1
      have MT : HoM T 58 0 L := hM.frI f1 nw_58
      refine blk_X7_findOdds_45 ?_
      rw [shl_is n (by omega), ← eP]
      refine ⟨fun z => absurd z (nI_ge (by omega) (by omega)), fun _ => ⟨_, ev_starts MT h.1, fun T2 k2 => ?_⟩⟩
      have l2 : T2.2 = T.2 := k2.2.2.2.2.2
      have f2 : FrI nwP S T2 := f1.tr (k2.2.2.2.2.I st_nw)
      have week : ∀ (m k : Nat) (U : ZSt), k + m = n → HoN U (Lh L q k) → U.2 = T.2 → FrI nwP S U → zSem (d + 6) mX7_findOdds 63 [some (.ref 57), some (.int (nI v)), some (.int F), some (.int (nI n)), some (.int (iv w)), some (.int (nI q)), some (.long (lN (wtN v (Nat.testBit q) k))), none, some (.int (nI k)), none] [] U (zY none (fun S' => gL S' 57 19 = lN (sN X P) ∧ gL S' 57 20 = lN (sN (eaT L v n) P) ∧ gL S' 57 21 = lN (10 ^ n) ∧ FrI nwP S S')) := by
        intro m
        induction m with
        | zero =>
          intro k U hk hN lU fU
          obtain rfl : k = n := by omega
          have n6 := Lh_n (L := L) (j := q) k
          have WU := Lh_WF h.1 (j := q) k
          have g1 : gL U 57 19 = lN (sN X q) := by rw [← a1]; show U.2 57 19 = T.2 57 19; rw [lU]
          have g2 : gL U 57 20 = lN (sN (eaT L v k) q) := by rw [← a2]; show U.2 57 20 = T.2 57 20; rw [lU]
          have g3 : gL U 57 21 = lN (10 ^ k) := by rw [← a3]; show U.2 57 21 = T.2 57 21; rw [lU]
          have es : sm_ (Lh L q k (1 + 1)) (nF (Lh L q k)) = ((sN (fun f => (wyL L f q k).1.toNat) (nF L) : Nat) : Int) := by
            rw [n6.1, sm_congr (g' := fun f => (wyL L f q k).1) _ (fun f hf => (Lh_f hf k).2.1), sm_sN _ (fun f hf => (wyL_in h.1 hf q k).1.1)]
          have bs : sN (fun f => (wyL L f q k).1.toNat) (nF L) ≤ nF L * 99 := sN_le _ (fun f hf => by have := (wyL_in h.1 hf q k).1; omega)
          have bs2 : nF L * 99 ≤ 6 * 99 := Nat.mul_le_mul_right 99 hn6
          -- what is added
          have fin : ∀ (x : Nat) (V : ZSt), X q = x → V = pL U 57 19 (lN (sN X q) + lN x) → ∃ (u4 : Int32) (S4 : ZSt), zEv (d + 5) mX7_sumOf [.ref 57, .int 1] V (zX (some (.int u4)) S4) ∧ (∀ S5 : ZSt, S5 = (pL S4 57 20 ((gL V 57 20) + (lN (wtN v (Nat.testBit q) k) * u4.toInt64))) → zSem (d + 6) mX7_findOdds 45 [some (.ref 57), some (.int (nI v)), some (.int F), some (.int (nI k)), some (.int (iv w)), some (.int (nI q + 1)), none, none, none, none] [] S5 (zY none (fun S' => gL S' 57 19 = lN (sN X P) ∧ gL S' 57 20 = lN (sN (eaT L v k) P) ∧ gL S' 57 21 = lN (10 ^ k) ∧ FrI nwP S S'))) := by
            intro x V ex eV
            have NV : HoN V (Lh L q k) := by rw [eV]; exact hN
            refine ⟨_, V, ev_sumOf7 (by omega) NV WU 1 (by omega), fun S5 e5 => ?_⟩
            rw [nI_1]
            have v20 : gL V 57 20 = lN (sN (eaT L v k) q) := by rw [eV, gL_pL, if_neg (by omega)]; exact g2
            rw [v20, es, iv_l (by omega), Int.toNat_natCast, lN_mul, lN_add] at e5
            refine ih (q + 1) S5 (by omega) ?_ ?_ ?_ ?_
            · rw [e5, gL_pL, if_neg (by omega), eV, gL_pL, if_pos ⟨rfl, rfl⟩, lN_add, sN, ex]
            · rw [e5, gL_pL, if_pos ⟨rfl, rfl⟩]; rfl
            · rw [e5, gL_pL, if_neg (by omega), eV, gL_pL, if_neg (by omega)]; exact g3
            · rw [e5, eV]; exact fU.pL.pL
          refine blk_X7_findOdds_63 ⟨fun _ => ⟨fun q4 S3 e3 => ?_, fun q4 => ?_⟩, fun z => absurd (nI_le (by omega) (by omega)) z⟩
          · have X0 : X q = 0 := by
              rcases hX with ⟨_, hX⟩ | ⟨f, hf, eF, _⟩
              · exact hX q
              · rw [eF] at q4
                have := congrArg Int32.toInt q4
                rw [nI_toInt (by omega), show Int32.toInt (-4) = -4 from by decide] at this
                omega
            rw [g1] at e3
            exact fin 0 S3 X0 e3
          · obtain ⟨f, hf, eF, hX⟩ : ∃ f, f < nF L ∧ F = nI f ∧ ∀ j, X j = if (wyL L f j k).1 < w then 0 else wtN v (Nat.testBit j) k := by
              rcases hX with ⟨q5, _⟩ | q5
              · exact absurd q5 q4
              · exact q5
            have gf := (hN.g1 (f := f) (by rw [n6.1]; exact hf)).2.1
            rw [(Lh_f hf k).2.1] at gf
            have wi := wyL_in h.1 hf q k
            rw [eF]
            refine ⟨_, U, ev_of U f 1 (by omega), ?_⟩
            rw [gf, g1, iv_lt (by unfold inB; omega) hw]
            refine ⟨fun q5 S8 e8 => ?_, fun q5 S11 e11 => ?_⟩
            · have := fin 0 S8 (by rw [hX, if_pos q5]) e8
              rw [eF] at this; exact this
            · have := fin _ S11 (by rw [hX, if_neg q5]) e11
              rw [eF] at this; exact this
        | succ m ihk =>
          intro k U hk hN lU fU
          have WU := Lh_WF h.1 (j := q) k
          have b := bit_is k (by omega) q (by omega)
          have w13 : Lh L q k 0 13 < 2000000000 := by rw [Lh_13]; have := h.2.2; omega
          refine blk_X7_findOdds_63 ⟨fun z => absurd z (nI_ge (by omega) (by omega)), fun _ => ⟨fun q5 => ⟨fun _ => ?_, fun z => absurd rfl z⟩, fun q5 => ⟨fun z => absurd z (by decide), fun _ => ?_⟩⟩⟩
          · have tb : ¬ Nat.testBit q k = true := fun z => q5 (b.mpr z)
            have ev := ev_weekGoes (d := d + 5) (by omega) hN WU w13 (Nat.testBit q k = true)
            rw [b01_f tb] at ev
            refine ⟨_, ev, fun U2 k2 => ?_⟩
            rw [l10 hv, lN_mul, nI_1]
            have nx := ihk (k + 1) U2 (by omega) k2.1 (by rw [k2.2.2.2]; exact lU) (fU.tr (k2.2.2.I (fun k j z => by unfold mdP at z; unfold nwP; omega)))
            rw [wtN, if_neg tb] at nx
            exact nx
          · have tb := b.mp q5
            have ev := ev_weekGoes (d := d + 5) (by omega) hN WU w13 (Nat.testBit q k = true)
            rw [b01_p tb] at ev
            refine ⟨_, ev, fun U2 k2 => ?_⟩
            rw [nI_l (by omega), lN_mul, nI_1]
            have nx := ihk (k + 1) U2 (by omega) k2.1 (by rw [k2.2.2.2]; exact lU) (fU.tr (k2.2.2.I (fun k j z => by unfold mdP at z; unfold nwP; omega)))
            rw [wtN, if_pos tb] at nx
            exact nx
      exact week n 0 T2 (by omega) k2.1 l2 f2
  have ten : ∀ (m q : Nat) (T : ZSt), q + m = n → gL T 57 19 = 0 → gL T 57 20 = 0 → gL T 57 21 = lN (10 ^ q) → FrI nwP S T → zSem (d + 6) mX7_findOdds 18 [some (.ref 57), some (.int (nI v)), some (.int F), some (.int (nI n)), some (.int (iv w)), some (.int (nI q)), none, none, none, none] [] T (zY none (fun S' => gL S' 57 19 = lN (sN X P) ∧ gL S' 57 20 = lN (sN (eaT L v n) P) ∧ gL S' 57 21 = lN (10 ^ n) ∧ FrI nwP S S')) := by
    intro m
    induction m with
    | zero =>
      intro q T hq a1 a2 a3 f1
      obtain rfl : q = n := by omega
      exact blk_X7_findOdds_18 ⟨fun _ => key P 0 T (by omega) a1 a2 a3 f1, fun z => absurd (nI_le (by omega) (by omega)) z⟩
    | succ m ih =>
      intro q T hq a1 a2 a3 f1
      refine blk_X7_findOdds_18 ⟨fun z => absurd z (nI_ge (by omega) (by omega)), fun _ S2 e2 => ?_⟩
      rw [a3] at e2
      rw [nI_1]
      refine ih (q + 1) S2 (by omega) ?_ ?_ ?_ ?_
      · rw [e2, gL_pL, if_neg (by omega)]; exact a1
      · rw [e2, gL_pL, if_neg (by omega)]; exact a2
      · rw [e2, gL_pL, if_pos ⟨rfl, rfl⟩, show (10 : Int64) = lN 10 from rfl, lN_mul, Nat.pow_succ]
      · rw [e2]; exact f1.pL
  refine ten n 0 S3 (by omega) ?_ ?_ ?_ ?_
  · rw [e3, gL_pL, if_neg (by omega), e2, gL_pL, if_neg (by omega), e1, gL_pL, if_pos ⟨rfl, rfl⟩]
  · rw [e3, gL_pL, if_neg (by omega), e2, gL_pL, if_pos ⟨rfl, rfl⟩]
  · rw [e3, gL_pL, if_pos ⟨rfl, rfl⟩]; rfl
  · rw [e3, e2, e1]; exact (FrI.rf nwP S).pL.pL.pL
