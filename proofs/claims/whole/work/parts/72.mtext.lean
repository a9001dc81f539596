/-! text: the reference -/
theorem ev_firstDraft {d : Nat} (S : ZSt) : zEv d mX7_firstDraft [.ref 57] S (zY none (fun S' => (∀ q, q < 50 → gI S' 61 q = if q = 28 then 20 else 0) ∧ gI S' 57 4 = 0 ∧ gI S' 57 5 = -1 ∧ FrI (fun k j => k = 61 ∨ (k = 57 ∧ (j = 4 ∨ j = 5))) S S')) := by
  refine zEv.of cw_X7_firstDraft (Nat.le_of_ble_eq_true rfl) rfl (blk_X7_firstDraft_0 ?_)
  have key : ∀ (m c : Nat) (S1 : ZSt), c + m = 50 → (∀ q, q < c → gI S1 61 q = 0) → FrI (fun k _ => k = 61) S S1 → zSem d mX7_firstDraft 2 [some (.ref 57), some (.int (nI c))] [] S1 (zY none (fun S' => (∀ q, q < 50 → gI S' 61 q = if q = 28 then 20 else 0) ∧ gI S' 57 4 = 0 ∧ gI S' 57 5 = -1 ∧ FrI (fun k j => k = 61 ∨ (k = 57 ∧ (j = 4 ∨ j = 5))) S S')) := by
    intro m
    induction m with
    | zero =>
      intro c S1 hc h1 F1
      obtain rfl : c = 50 := by omega
      refine blk_X7_firstDraft_2 ⟨fun _ S2 e2 S3 e3 S4 e4 => ⟨rfl, fun q hq => ?_, ?_, ?_, ?_⟩, fun z => absurd (nI_le (a := 50) (b := 50) (by omega) (by omega)) z⟩
      · rw [e4, gI_pI, if_neg (by omega), e3, gI_pI, if_neg (by omega), e2, gI_pI]
        by_cases y : q = 28
        · rw [if_pos ⟨rfl, y⟩, if_pos y]
        · rw [if_neg (by omega), if_neg y]; exact h1 q hq
      · rw [e4, gI_pI, if_neg (by omega), e3, gI_pI, if_pos ⟨rfl, rfl⟩]
      · rw [e4, gI_pI, if_pos ⟨rfl, rfl⟩]
      · rw [e4, e3, e2]
        exact (((F1.mono (fun k j z => Or.inl z)).pI _ (by omega)).pI _ (by omega)).pI _ (by omega)
    | succ m ih =>
      intro c S1 hc h1 F1
      refine blk_X7_firstDraft_2 ⟨fun z => absurd z (nI_ge (a := c) (b := 50) (by omega) (by omega)), fun _ => ⟨ix_in (by omega) (by omega), fun S5 e5 => ?_⟩⟩
      rw [ix_cl (by omega)] at e5
      rw [nI_1]
      refine ih (c + 1) S5 (by omega) (fun q hq => ?_) ?_
      · rw [e5, gI_pI]
        by_cases y : q = c
        · rw [y, if_pos ⟨rfl, rfl⟩]
        · rw [if_neg (by omega)]; exact h1 q (by omega)
      · rw [e5]; exact F1.pI _ rfl
  exact key 50 0 S (by omega) (fun q hq => absurd hq (by omega)) (FrI.rf _ _)
theorem HoM_L0 {S : ZSt} (h : ∀ q, q < 50 → gI S 61 q = if q = 28 then 20 else 0) : HoM S 61 0 L0 := by
  intro r j hr
  have hr : r = 0 ∧ 8 ≤ j ∧ j ≤ 13 := by
    unfold inR nF nB nS at hr
    have a : (L0 0 8).toNat = 0 := by decide
    have b : (L0 0 9).toNat = 0 := by decide
    have c : (L0 0 10).toNat = 0 := by decide
    omega
  obtain ⟨rfl, hj1, hj2⟩ := hr
  unfold zi
  rw [Nat.zero_add]
  rcases (show j = 8 ∨ j = 9 ∨ j = 10 ∨ j = 11 ∨ j = 12 ∨ j = 13 by omega) with rfl | rfl | rfl | rfl | rfl | rfl
  · rw [show mpos 0 8 = 18 from rfl, h 18 (by omega)]; rfl
  · rw [show mpos 0 9 = 27 from rfl, h 27 (by omega)]; rfl
  · rw [show mpos 0 10 = 31 from rfl, h 31 (by omega)]; rfl
  · rw [show mpos 0 11 = 28 from rfl, h 28 (by omega)]; rfl
  · rw [show mpos 0 12 = 29 from rfl, h 29 (by omega)]; rfl
  · rw [show mpos 0 13 = 30 from rfl, h 30 (by omega)]; rfl
def kdP : Nat → Nat → Prop := fun k i => (k = 58 ∧ i < 50) ∨ k = 60
theorem ev_keepDraft {d : Nat} (S : ZSt) : zEv d mX7_keepDraft [.ref 57] S (zY none (fun S' => (∀ q, q < 50 → gI S' 58 q = gI S 61 q) ∧ gI S' 60 0 = 0 ∧ gI S' 60 1 = 0 ∧ FrI kdP S S')) := by
  refine zEv.of cw_X7_keepDraft (Nat.le_of_ble_eq_true rfl) rfl (blk_X7_keepDraft_0 ?_)
  have nar : vp_nar .boolean (0 : Int32) = 0 := by decide
  have key : ∀ (m c : Nat) (S1 : ZSt), c + m = 50 → (∀ q, q < c → gI S1 58 q = gI S 61 q) → FrI (fun k i => k = 58 ∧ i < 50) S S1 → zSem d mX7_keepDraft 2 [some (.ref 57), some (.int (nI c))] [] S1 (zY none (fun S' => (∀ q, q < 50 → gI S' 58 q = gI S 61 q) ∧ gI S' 60 0 = 0 ∧ gI S' 60 1 = 0 ∧ FrI kdP S S')) := by
    intro m
    induction m with
    | zero =>
      intro c S1 hc h1 F1
      obtain rfl : c = 50 := by omega
      refine blk_X7_keepDraft_2 ⟨fun _ S2 e2 S3 e3 => ⟨rfl, fun q hq => ?_, ?_, ?_, ?_⟩, fun z => absurd (nI_le (a := 50) (b := 50) (by omega) (by omega)) z⟩
      · rw [e3, gI_pI, if_neg (by omega), e2, gI_pI, if_neg (by omega)]; exact h1 q hq
      · rw [e3, gI_pI, if_neg (by omega), e2, gI_pI, if_pos ⟨rfl, rfl⟩, nar]
      · rw [e3, gI_pI, if_pos ⟨rfl, rfl⟩, nar]
      · rw [e3, e2]
        exact ((F1.mono (P' := kdP) (fun k j z => Or.inl z)).pI _ (Or.inr rfl)).pI _ (Or.inr rfl)
    | succ m ih =>
      intro c S1 hc h1 F1
      refine blk_X7_keepDraft_2 ⟨fun z => absurd z (nI_ge (a := c) (b := 50) (by omega) (by omega)), fun _ => ⟨ix_in (by omega) (by omega), ix_in (by omega) (by omega), fun S5 e5 => ?_⟩⟩
      rw [ix_cl (by omega), F1 61 c (by omega)] at e5
      rw [nI_1]
      refine ih (c + 1) S5 (by omega) (fun q hq => ?_) ?_
      · rw [e5, gI_pI]
        by_cases y : q = c
        · rw [y, if_pos ⟨rfl, rfl⟩]
        · rw [if_neg (by omega)]; exact h1 q (by omega)
      · rw [e5]; exact F1.pI _ ⟨rfl, by omega⟩
  exact key 50 0 S (by omega) (fun q hq => absurd hq (by omega)) (FrI.rf _ _)
theorem lnO_lt {tp : Nat → Nat} {n p : Nat} {L : Lnd} {gt : Bool} : (lnO tp n p L gt).1 < 1000 := by
  have g : ∀ (f w : Nat) (k : Out), f < 1000 → k.1 < 1000 → (o1 f w k).1 < 1000 := fun f w k a b => by
    unfold o1; split
    · exact b
    · exact a
  have l := fun q lo hi => nmF_le tp n q lo hi
  have dl : ∀ a b, dueF a b < 1000 := fun a b => by
    unfold dueF
    repeat' split
    all_goals omega
  have nl : ∀ q lo hi, nmF tp n q lo hi < 1000 := fun q lo hi => by have := l q lo hi; omega
  have sl : ∀ q, smF tp n q < 1000 := fun q => dl _ _
  unfold lnO
  refine g _ _ _ (dl _ _) ?_
  unfold coO goO boO foO
  split
  · show (2 : Nat) < 1000; omega
  · split
    · exact g _ _ _ (by split <;> omega) (g _ _ _ (nl _ _ _) (g _ _ _ (sl _) (by show (0 : Nat) < 1000; omega)))
    · split
      · exact g _ _ _ (by split <;> omega) (g _ _ _ (nl _ _ _) (g _ _ _ (nl _ _ _) (g _ _ _ (sl _) (by show (0 : Nat) < 1000; omega))))
      · exact g _ _ _ (by split <;> omega) (g _ _ _ (nl _ _ _) (g _ _ _ (nl _ _ _) (g _ _ _ (sl _) (by show (0 : Nat) < 1000; omega))))
/-- behind text of the reference -/
def mxP : Nat → Nat → Prop := fun k j => mlP k j ∨ (k = 57 ∧ j = 7)
def TXM (S : ZSt) (A : Nat × Nat × Nat × Lnd) : ZSt → Prop := fun S' => gI S' 57 7 = 0 ∧ (A.1 = 0 → HoM S' 58 0 A.2.2.2 ∧ gI S' 60 0 = 0 ∧ gI S' 60 1 = 0 ∧ gI S' 57 12 = 0 ∧ FrI (fun k j => mxP k j ∨ kdP k j) S S') ∧ (A.1 ≠ 0 → gI S' 57 12 = nI A.1 ∧ FrI mxP S S')
theorem ml_mx : ∀ k j, mlP k j → mxP k j := fun k j h => Or.inl h
theorem ev_textM {d : Nat} (hd : 6 ≤ d) {S : ZSt} {n : Nat} {tp : Nat → Nat} (h : TM S n tp) (hw : TW n tp) : zEv d mX7_text [.ref 57] S (zY (some (.int (if (txO tp n).1 = 0 then nI (txO tp n).2.2.1 else -10 - nI (txO tp n).2.1))) (TXM S (txO tp n))) := by
  obtain ⟨d, rfl⟩ : ∃ d', d = d' + 1 := ⟨d - 1, by omega⟩
  have h160 := hw.1
  -- a lost text
  have lost : ∀ (cnt f w : Nat) (S1 : ZSt), f ≠ 0 → f < 1000 → BdM S1 f w → FrI mlP S S1 → (txO tp n).1 = f → (txO tp n).2.1 = w → zSem (d + 1) mX7_text 20 [some (.ref 57), some (.int (nI cnt))] [] S1 (zY (some (.int (if (txO tp n).1 = 0 then nI (txO tp n).2.2.1 else -10 - nI (txO tp n).2.1))) (TXM S (txO tp n))) := by
    intro cnt f w S1 hf hf2 bd F1 e1 e2
    have nz : ¬ gI S1 57 12 = 0 := by rw [bd.1]; exact fun z => hf ((nI_eq (b := 0) (by omega) (by omega)).mp z)
    have fin : ∀ S4, S4 = pI S1 57 7 0 → ((gI S4 57 12) ≤ 0 → (∃ P6 : ZSt → Prop, zEv d mX7_keepDraft [.ref 57] S4 (zY none P6) ∧ ∀ S6 : ZSt, P6 S6 → zY (some (.int (if (txO tp n).1 = 0 then nI (txO tp n).2.2.1 else -10 - nI (txO tp n).2.1))) (TXM S (txO tp n)) (some (.int (nI cnt))) S6)) ∧ (¬ (gI S4 57 12) ≤ 0 → zY (some (.int (if (txO tp n).1 = 0 then nI (txO tp n).2.2.1 else -10 - nI (txO tp n).2.1))) (TXM S (txO tp n)) (some (.int ((-10) - (gI S4 57 13)))) S4) := by
      intro S4 e4
      have g12 : gI S4 57 12 = nI f := by rw [e4, gI_pI, if_neg (by omega)]; exact bd.1
      have g13 : gI S4 57 13 = nI w := by rw [e4, gI_pI, if_neg (by omega)]; exact bd.2
      rw [g12, g13, e1, e2, if_neg hf]
      refine ⟨fun z => absurd ((nI_leiff (b := 0) (by omega) (by omega)).mp z) (by omega), fun _ => ⟨rfl, ?_, fun z => absurd (e1.symm.trans z) hf, fun _ => ⟨by rw [e1]; exact g12, ?_⟩⟩⟩
      · rw [e4, gI_pI, if_pos ⟨rfl, rfl⟩]
      · rw [e4]; exact (F1.mono ml_mx).pI _ (Or.inr ⟨rfl, rfl⟩)
    refine blk_X7_text_20 ⟨fun _ => ⟨fun _ => ⟨_, ev_reqB nz, fun S3 k3 S4 e4 => ?_⟩, fun _ => ⟨_, ev_reqB nz, fun S7 k7 S8 e8 => ?_⟩⟩, fun z => absurd z nz⟩
    · rw [k3] at e4; exact fin S4 e4
    · rw [k7] at e8; exact fin S8 e8
  -- the end
  have last : ∀ (cnt p : Nat) (L : Lnd) (S1 : ZSt), p ≤ n → tK tp n p = 0 → AtM S1 n tp p → WFd L → HoM S1 61 0 L → gI S1 57 5 = iv (hiN L (nB L)) → FrI mlP S S1 → txO tp n = fiO n (0, 0, cnt, L) → zSem (d + 1) mX7_text 20 [some (.ref 57), some (.int (nI cnt))] [] S1 (zY (some (.int (if (txO tp n).1 = 0 then nI (txO tp n).2.2.1 else -10 - nI (txO tp n).2.1))) (TXM S (txO tp n))) := by
    intro cnt p L S1 hp k0 at1 hW M1 a5 F1 eA
    obtain ⟨a12, a10, a8, a9, a11⟩ := at1
    have w8 := hW.f8
    have esk : sk tp n p = n := by
      have := sk_in (tp := tp) hp
      rcases Nat.lt_or_ge (sk tp n p) n with y | y
      · unfold tK at k0
        rw [if_neg (by omega)] at k0
        by_cases z1 : 0 < lt_ tp n p
        · rw [if_pos z1] at k0; omega
        · rw [if_neg z1] at k0
          by_cases z2 : 0 < fg_ tp n p
          · rw [if_pos z2] at k0
            split at k0 <;> omega
          · rw [if_neg z2] at k0
            split at k0 <;> omega
      · omega
    have g18 : gI S1 61 18 = iv (L 0 8) := by
      have := M1.g (r := 0) (j := 8) (inR_0 (by omega))
      rw [Nat.zero_add, show mpos 0 8 = 18 from rfl] at this
      exact this
    have hiI := hiN_in (fun b hb => (hW.2.2.2.2.2.2.2 b hb).1) (nB L) (Nat.le_refl _)
    have hb := hiN_b hW.1.1 (nB L)
    refine blk_X7_text_20 ⟨fun z => absurd a12 z, fun _ => ⟨fun _ => ?_, fun z => absurd (by rw [a10, k0]; rfl) z⟩⟩
    rw [g18, a5, iv_le (by unfold inB; omega) (by unfold inB; omega)]
    refine ⟨fun q => ⟨_, ev_reqN a12, fun S13 k13 S14 e14 => ?_⟩, fun q => ⟨_, ev_reqY (by decide), fun S17 k17 S18 e18 => ?_⟩⟩
    · have e : txO tp n = (6, n, cnt, L) := by
        rw [eA]; unfold fiO
        rw [if_pos rfl, if_pos (hb.mpr q)]
      rw [e]
      have g12 : gI S14 57 12 = nI 6 := by rw [e14, gI_pI, if_neg (by omega), k13, gI_pI, if_neg (by omega), gI_pI, if_pos ⟨rfl, rfl⟩]; rfl
      have g13 : gI S14 57 13 = nI n := by rw [e14, gI_pI, if_neg (by omega), k13, gI_pI, if_pos ⟨rfl, rfl⟩, a9, esk]
      rw [g12, g13]
      refine ⟨fun z => absurd z (by decide), fun _ => ⟨rfl, ?_, fun z => absurd z (by show ¬ (6 : Nat) = 0; omega), fun _ => ⟨g12, ?_⟩⟩⟩
      · rw [e14, gI_pI, if_pos ⟨rfl, rfl⟩]
      · rw [e14, k13]; exact (((F1.pI _ (by unfold mlP; omega)).pI _ (by unfold mlP; omega)).mono ml_mx).pI _ (Or.inr ⟨rfl, rfl⟩)
    · have e : txO tp n = (0, 0, cnt, L) := by
        rw [eA]; unfold fiO
        rw [if_pos rfl, if_neg (fun z => q (hb.mp z))]
      rw [e]
      rw [k17] at e18
      have g12 : gI S18 57 12 = 0 := by rw [e18, gI_pI, if_neg (by omega)]; exact a12
      have F18 : FrI mxP S S18 := by rw [e18]; exact (F1.mono ml_mx).pI _ (Or.inr ⟨rfl, rfl⟩)
      rw [g12]
      refine ⟨fun _ => ⟨_, ev_keepDraft S18, fun S20 k20 => ⟨rfl, ?_, fun _ => ⟨fun r j hr => ?_, k20.2.1, k20.2.2.1, ?_, (F18.mono (fun k j z => Or.inl z)).tr (k20.2.2.2.mono (fun k j z => Or.inr z))⟩, fun z => absurd rfl z⟩⟩, fun z => absurd (by decide) z⟩
      · rw [k20.2.2.2 57 7 (by unfold kdP; omega), e18, gI_pI, if_pos ⟨rfl, rfl⟩]
      · have lt := mpos_lt (L := L) ⟨w8.1, hW.b9.1, by rw [hW.s0]; omega⟩ hr
        unfold zi
        rw [Nat.zero_add, k20.1 _ lt, e18, gI_pI, if_neg (by omega)]
        have := M1 r j hr
        unfold zi at this
        rw [Nat.zero_add] at this
        exact this
      · rw [k20.2.2.2 57 12 (by unfold kdP; omega)]; exact g12
  -- the lines
  have lines : ∀ (m p cnt : Nat) (L : Lnd) (gt : Bool) (S1 : ZSt), n < p + m → p ≤ n → cnt ≤ p → WFd L → TM S1 n tp → Cur S1 n tp p → HoM S1 61 0 L → gI S1 57 4 = b01 (gt = true) → gI S1 57 5 = iv (hiN L (nB L)) → FrI mlP S S1 → txO tp n = fiO n (alO tp n m p L gt cnt) → zSem (d + 1) mX7_text 20 [some (.ref 57), some (.int (nI cnt))] [] S1 (zY (some (.int (if (txO tp n).1 = 0 then nI (txO tp n).2.2.1 else -10 - nI (txO tp n).2.1))) (TXM S (txO tp n))) := by
    intro m
    induction m with
    | zero => intro p cnt L gt S1 hm hp; exact absurd hm (by omega)
    | succ m ih =>
      intro p cnt L gt S1 hm hp hc hW h1 c1 M1 a4 a5 F1 eA
      have kl := tK_le tp n p
      rw [alO] at eA
      by_cases k4 : tK tp n p = 4
      · have d1 : dueF (tK tp n p) 1 = 1 := by unfold dueF; rw [if_pos k4]
        have o := o1_n (f := dueF (tK tp n p) 1) (w := sk tp n p) (k := coO tp n (sk tp n p) (tE tp n p) L gt (nmC tp (sk tp n p) (tE tp n p))) (by omega)
        have l1 : (lnO tp n p L gt).1 = 1 := by unfold lnO; rw [o.1, d1]
        have l2 : (lnO tp n p L gt).2.1 = sk tp n p := by unfold lnO; rw [o.2]
        rw [if_neg (by omega), if_neg (by omega)] at eA
        have e : txO tp n = ((lnO tp n p L gt).1, (lnO tp n p L gt).2.1, cnt, L) := by rw [eA]; unfold fiO; rw [if_neg (by show ¬ (lnO tp n p L gt).1 = 0; omega)]
        exact lost cnt 1 (sk tp n p) S1 (by omega) (by omega) (c1.2 k4) F1 (by rw [e]; exact l1) (by rw [e]; exact l2)
      · have at1 := c1.1 k4
        by_cases k0 : tK tp n p = 0
        · rw [if_pos k0] at eA
          exact last cnt p L S1 hp k0 at1 hW M1 a5 F1 eA
        · rw [if_neg k0] at eA
          refine blk_X7_text_20 ⟨fun z => absurd at1.1 z, fun _ => ⟨fun z => ?_, fun _ => ⟨_, ev_readLine (d := d) (by omega) h1 hw hp k4 at1 M1 hW a4 a5, fun S2 k2 => ?_⟩⟩⟩
          · rw [at1.2.1] at z
            exact absurd ((nI_eq (b := 0) (by omega) (by omega)).mp z) k0
          · have F2 := F1.tr k2.2.2
            rw [nI_1]
            by_cases q2 : (lnO tp n p L gt).1 = 0
            · rw [if_pos q2] at eA
              have o := lnO_ok hW hp q2
              obtain ⟨c2, M2, b4, b5⟩ := k2.1 q2
              exact ih _ (cnt + 1) _ _ S2 (by omega) o.2.2.1 (by omega) o.1 (h1.fr k2.2.2 (by unfold mlP; omega) (fun j => by unfold mlP; omega)) c2 M2 b4 b5 F2 eA
            · rw [if_neg q2] at eA
              have e : txO tp n = ((lnO tp n p L gt).1, (lnO tp n p L gt).2.1, cnt, L) := by rw [eA]; unfold fiO; rw [if_neg q2]
              have fl : (lnO tp n p L gt).1 < 1000 := lnO_lt
              exact lost (cnt + 1) _ _ S2 q2 fl (k2.2.1 q2) F2 (by rw [e]) (by rw [e])
  refine zEv.of cw_X7_text (Nat.le_of_ble_eq_true rfl) rfl (blk_X7_text_0 (fun S1 e1 S2 e2 => ⟨_, ev_firstDraft S2, fun S3 k3 => ?_⟩))
  have F2 : FrI mlP S S2 := by rw [e2, e1]; exact ((FrI.rf _ _).pI _ (by unfold mlP; omega)).pI _ (by unfold mlP; omega)
  have F3 : FrI mlP S S3 := F2.tr (k3.2.2.2.mono (fun k j z => by unfold mlP; omega))
  have T3 : TM S3 n tp := h.fr F3 (by unfold mlP; omega) (fun j => by unfold mlP; omega)
  have p8 : gI S3 57 8 = nI 0 := by rw [k3.2.2.2 57 8 (by omega), e2, gI_pI, if_pos ⟨rfl, rfl⟩]; rfl
  have p12 : gI S3 57 12 = 0 := by rw [k3.2.2.2 57 12 (by omega), e2, gI_pI, if_neg (by omega), e1, gI_pI, if_pos ⟨rfl, rfl⟩]
  refine ⟨_, ev_reads (d := d) (by omega) T3 hw p8 (Nat.zero_le n) p12, fun S4 k4 => ?_⟩
  have M4 : HoM S4 61 0 L0 := (HoM_L0 k3.1).fr61 k4.2 (fun i => by unfold rdP; omega)
  refine lines (n + 1) 0 0 L0 false S4 (by omega) (by omega) (by omega) L0_WFd (T3.rd k4.2) k4.1 M4 ?_ ?_ (F3.tr (k4.2.mono rd_ml')) rfl
  · rw [k4.2 57 4 (by unfold rdP; omega), k3.2.1]; rfl
  · rw [k4.2 57 5 (by unfold rdP; omega), k3.2.2.1]; rfl
