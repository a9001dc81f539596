/-! A LINE: the reference reads numbers -/
theorem ev_readNumB {d : Nat} (hd : 2 ≤ d) {S : ZSt} {f w : Nat} (hf : f ≠ 0) (hf2 : f < 1000) (h : BdM S f w) (v1 v2 : Int32) : zEv d mX7_readNumber [.ref 57, .int v1, .int v2] S (zY (some (.int 0)) (fun S' => S' = S)) := by
  obtain ⟨d, rfl⟩ : ∃ d', d = d' + 1 := ⟨d - 1, by omega⟩
  have nz : ¬ gI S 57 12 = 0 := by rw [h.1]; exact fun z => hf ((nI_eq (b := 0) (by omega) (by omega)).mp z)
  exact zEv.of cw_X7_readNumber (Nat.le_of_ble_eq_true rfl) rfl (blk_X7_readNumber_0 ⟨fun _ => ⟨fun _ => ⟨fun _ => ⟨_, ev_readsB (d := d) (by omega) hf hf2 h.1, fun S4 k4 => ⟨rfl, k4⟩⟩, fun z => absurd z nz⟩, fun z => absurd z nz⟩, fun z => absurd z nz⟩)
theorem ev_readNum {d : Nat} (hd : 2 ≤ d) {S : ZSt} {n p : Nat} {tp : Nat → Nat} (h : TM S n tp) (hw : TW n tp) (hpn : p ≤ n) (hc : Cur S n tp p) (lo hi : Nat) (hlo : lo < 1000) (hhi : hi < 1000) : zEv d mX7_readNumber [.ref 57, .int (nI lo), .int (nI hi)] S (zY (some (.int (if nmF tp n p lo hi = 0 then nI (tV tp n p) else 0))) (fun S' => (nmF tp n p lo hi = 0 → Cur S' n tp (tE tp n p)) ∧ (nmF tp n p lo hi ≠ 0 → BdM S' (nmF tp n p lo hi) (sk tp n p)) ∧ FrI rdP S S')) := by
  by_cases k4 : tK tp n p = 4
  · have bd := hc.2 k4
    have e : nmF tp n p lo hi = 1 := by unfold nmF dueF; rw [if_pos k4, if_neg (by omega)]
    refine zEv.imp (ev_readNumB hd (by omega) (by omega) bd _ _) (fun r S' q => ⟨by rw [q.1, if_neg (by omega)], fun z => absurd z (by omega), fun _ => ?_, ?_⟩)
    · rw [q.2, e]; exact bd
    · rw [q.2]; exact FrI.rf _ _
  · obtain ⟨d, rfl⟩ : ∃ d', d = d' + 1 := ⟨d - 1, by omega⟩
    have h160 := hw.1
    have e1 := tE_in (tp := tp) (n := n) (p := p) hpn
    have kl := tK_le tp n p
    have vl := tV_le (tp := tp) (n := n) (p := p)
    obtain ⟨a12, a10, a8, a9, a11⟩ := hc.1 k4
    refine zEv.of cw_X7_readNumber (Nat.le_of_ble_eq_true rfl) rfl (blk_X7_readNumber_0 ⟨fun z => absurd a12 z, fun _ => ⟨fun q => ?_, fun q => ?_⟩⟩)
    · rw [a10] at q
      have q : ¬ tK tp n p = 2 := fun z => q (by rw [z]; rfl)
      have e : nmF tp n p lo hi = 2 := by unfold nmF dueF; rw [if_neg k4, if_neg q, if_neg (by omega)]
      refine ⟨_, ev_reqN a12, fun S12 k12 => ?_⟩
      have b12 : gI S12 57 12 = nI 2 := by rw [k12, gI_pI, if_neg (by omega), gI_pI, if_pos ⟨rfl, rfl⟩]; rfl
      have b13 : gI S12 57 13 = nI (sk tp n p) := by rw [k12, gI_pI, if_pos ⟨rfl, rfl⟩]; exact a9
      have nz : ¬ gI S12 57 12 = 0 := by rw [b12]; decide
      refine ⟨fun _ => ⟨fun _ => ⟨_, ev_readsB (d := d) (f := 2) (by omega) (by omega) (by omega) b12, fun S15 k15 => ?_⟩, fun z => absurd z nz⟩, fun z => absurd z nz⟩
      rw [if_neg (by omega)]
      refine ⟨rfl, fun z => absurd z (by omega), fun _ => ?_, ?_⟩
      · rw [k15, e]; exact ⟨b12, b13⟩
      · rw [k15, k12]; exact ((FrI.rf _ _).pI _ (by unfold rdP; omega)).pI _ (by unfold rdP; omega)
    · rw [a10] at q
      have q : tK tp n p = 2 := (nI_eq (b := 2) (by omega) (by omega)).mp q
      have v := a11 q
      have due : dueF (tK tp n p) 2 = 0 := by unfold dueF; rw [if_neg k4, if_pos q]
      have ein : zEv d mX7_in [.long (nI (tV tp n p)).toInt64, .long (nI lo).toInt64, .long (nI hi).toInt64] S (zX (some (.int (b01 ((lo : Int) ≤ (nI (tV tp n p)).toInt ∧ (nI (tV tp n p)).toInt ≤ (hi : Int))))) S) := ev_inI S _ _ _ _ _ (by rw [Int32.toInt_toInt64, nI_toInt (by omega)]) (by rw [Int32.toInt_toInt64, nI_toInt (by omega)])
      refine ⟨_, ev_reqY (by decide), fun S22 k22 => ?_⟩
      subst k22
      refine ⟨fun z => absurd a12 z, fun _ => ?_⟩
      rw [v]
      refine ⟨_, S22, ein, ?_⟩
      rw [nI_toInt (by omega)]
      by_cases q2 : (lo : Int) ≤ (tV tp n p : Int) ∧ (tV tp n p : Int) ≤ (hi : Int)
      · have e : nmF tp n p lo hi = 0 := by unfold nmF; rw [if_pos due, if_pos (by omega)]
        refine ⟨_, ev_reqY (b01_n.mpr q2), fun S28 k28 => ?_⟩
        subst k28
        refine ⟨fun z => absurd a12 z, fun _ => ⟨_, ev_reads (d := d) (by omega) h hw a8 e1.2 a12, fun S31 k31 => ?_⟩⟩
        rw [v, if_pos e]
        exact ⟨rfl, fun _ => k31.1, fun z => absurd e z, k31.2⟩
      · have e : nmF tp n p lo hi = 3 := by unfold nmF; rw [if_pos due, if_neg (by omega)]
        rw [b01_f q2]
        refine ⟨_, ev_reqN a12, fun S28 k28 => ?_⟩
        have b12 : gI S28 57 12 = nI 3 := by rw [k28, gI_pI, if_neg (by omega), gI_pI, if_pos ⟨rfl, rfl⟩]; rfl
        have b13 : gI S28 57 13 = nI (sk tp n p) := by rw [k28, gI_pI, if_pos ⟨rfl, rfl⟩]; exact a9
        have nz : ¬ gI S28 57 12 = 0 := by rw [b12]; decide
        refine ⟨fun _ => ⟨_, ev_readsB (d := d) (f := 3) (by omega) (by omega) (by omega) b12, fun S30 k30 => ?_⟩, fun z => absurd z nz⟩
        rw [if_neg (by omega)]
        refine ⟨rfl, fun z => absurd z (by omega), fun _ => ?_, ?_⟩
        · rw [k30, e]; exact ⟨b12, b13⟩
        · rw [k30, k28]; exact ((FrI.rf _ _).pI _ (by unfold rdP; omega)).pI _ (by unfold rdP; omega)
/-- behind the numbers of a line -/
def mlP : Nat → Nat → Prop := fun k j => k = 61 ∨ (k = 57 ∧ ((8 ≤ j ∧ j ≤ 13) ∨ j = 4 ∨ j = 5))
def RN (S : ZSt) (n : Nat) (tp : Nat → Nat) (O : Out) : ZSt → Prop := fun S' => (O.1 = 0 → Cur S' n tp O.2.2.1 ∧ HoM S' 61 0 O.2.2.2.1 ∧ gI S' 57 5 = iv (hiN O.2.2.2.1 (nB O.2.2.2.1))) ∧ (O.1 ≠ 0 → BdM S' O.1 O.2.1) ∧ FrI (fun k j => mlP k j ∧ ¬ (k = 57 ∧ j = 4)) S S'
theorem rd_ml : ∀ k j, rdP k j → (mlP k j ∧ ¬ (k = 57 ∧ j = 4)) := fun k j h => by unfold rdP at h; unfold mlP; omega
theorem Cur.fr {S S' : ZSt} {n p : Nat} {tp : Nat → Nat} {P : Nat → Nat → Prop} (h : Cur S n tp p) (hf : FrI P S S') (hp : ∀ j, 8 ≤ j → j ≤ 13 → ¬ P 57 j) : Cur S' n tp p := by
  refine ⟨fun q => ?_, fun q => ?_⟩
  · obtain ⟨a, b, c, d, e⟩ := h.1 q
    exact ⟨by rw [hf 57 12 (hp _ (by omega) (by omega))]; exact a, by rw [hf 57 10 (hp _ (by omega) (by omega))]; exact b, by rw [hf 57 8 (hp _ (by omega) (by omega))]; exact c, by rw [hf 57 9 (hp _ (by omega) (by omega))]; exact d, fun z => by rw [hf 57 11 (hp _ (by omega) (by omega))]; exact e z⟩
  · obtain ⟨a, b⟩ := h.2 q
    exact ⟨by rw [hf 57 12 (hp _ (by omega) (by omega))]; exact a, by rw [hf 57 13 (hp _ (by omega) (by omega))]; exact b⟩
theorem BdM.fr {S S' : ZSt} {f w : Nat} {P : Nat → Nat → Prop} (h : BdM S f w) (hf : FrI P S S') (hp : ∀ j, 8 ≤ j → j ≤ 13 → ¬ P 57 j) : BdM S' f w := ⟨by rw [hf 57 12 (hp _ (by omega) (by omega))]; exact h.1, by rw [hf 57 13 (hp _ (by omega) (by omega))]; exact h.2⟩
theorem nmF_le (tp : Nat → Nat) (n p lo hi : Nat) : nmF tp n p lo hi ≤ 3 := by
  unfold nmF dueF
  repeat' split
  all_goals omega
def boN (tp : Nat → Nat) (n e : Nat) (L : Lnd) (gt : Bool) : Out := o1 (nmF tp n e 0 5) (sk tp n e) (o1 (nmF tp n (tE tp n e) 1 9) (sk tp n (tE tp n e)) (0, 0, tE tp n (tE tp n e), adB L (tV tp n e) (tV tp n (tE tp n e)), gt))
theorem ev_readBand {d : Nat} (hd : 3 ≤ d) {S : ZSt} {n e : Nat} {tp : Nat → Nat} {L : Lnd} (gt : Bool) (h : TM S n tp) (hw : TW n tp) (hen : e ≤ n) (hc : Cur S n tp e) (hM : HoM S 61 0 L) (hW : WFd L) (hn : nB L < 4) (h5 : gI S 57 5 = iv (hiN L (nB L))) : zEv d mX7_readBand [.ref 57] S (zY none (RN S n tp (boN tp n e L gt))) := by
  obtain ⟨d, rfl⟩ : ∃ d', d = d' + 1 := ⟨d - 1, by omega⟩
  have h160 := hw.1
  have w9 := hW.b9
  have e1 := tE_in (tp := tp) (n := n) (p := e) hen
  have v1 := tV_le (tp := tp) (n := n) (p := e)
  have v2 := tV_le (tp := tp) (n := n) (p := tE tp n e)
  have g27 : gI S 61 27 = nI (nB L) := by
    have := hM.g (r := 0) (j := 9) (inR_0 (by omega))
    rw [Nat.zero_add, show mpos 0 9 = 27 from rfl, w9.2, ← nI_iv] at this
    exact this
  have hiI := hiN_in (fun b hb => (hW.2.2.2.2.2.2.2 b hb).1) (nB L) (Nat.le_refl _)
  have ix0 : ((19 : Int32) + 2 * nI (nB L)) + 0 = nI (19 + 2 * nB L + 0) := ix2 (nB L) 0
  have ix1 : ((19 : Int32) + 2 * nI (nB L)) + 1 = nI (19 + 2 * nB L + 1) := ix2 (nB L) 1
  obtain ⟨x, ex⟩ : ∃ x, x = (if nmF tp n e 0 5 = 0 then tV tp n e else 0) := ⟨_, rfl⟩
  have exI : (if nmF tp n e 0 5 = 0 then nI (tV tp n e) else 0) = nI x := by rw [ex]; split <;> rfl
  have x5 : x ≤ 5 := by
    rw [ex]; split
    · next q => have := nmF_0 q; omega
    · omega
  refine zEv.of cw_X7_readBand (Nat.le_of_ble_eq_true rfl) rfl (blk_X7_readBand_0 ?_)
  rw [g27, ix0, ix1, ix_cl (by omega), ix_cl (by omega)]
  refine ⟨_, _, ev_readNum (d := d) (by omega) h hw hen hc 0 5 (by omega) (by omega), fun S1 k1 => ⟨ix_in (by omega) (by omega), fun S2 e2 => ⟨ix_in (by omega) (by omega), ?_⟩⟩⟩
  rw [exI] at e2
  have a2 : gI S2 61 (19 + 2 * nB L + 0) = nI x := by rw [e2, gI_pI, if_pos ⟨rfl, rfl⟩]
  have a5 : gI S2 57 5 = iv (hiN L (nB L)) := by rw [e2, gI_pI, if_neg (by omega), k1.2.2 57 5 (by unfold rdP; omega)]; exact h5
  -- behind the highest
  have go : ∀ S4, S4 = pI S2 57 5 (iv (if hiN L (nB L) < (x : Int) then (x : Int) else hiN L (nB L))) → (∃ (u5 : Int32) (P5 : ZSt → Prop), zEv d mX7_readNumber [.ref 57, .int 1, .int 9] S4 (zY (some (.int u5)) P5) ∧ ∀ S5 : ZSt, P5 S5 → (vp_in (nI (19 + 2 * nB L + 1)) 50 ∧ (∀ S6 : ZSt, S6 = (pI S5 61 (19 + 2 * nB L + 1) u5) → (∀ S7 : ZSt, S7 = (pI S6 61 27 ((gI S6 61 27) + 1)) → zY none (RN S n tp (boN tp n e L gt)) none S7)))) := by
    intro S4 e4
    have F24 : FrI (fun k j => k = 61 ∨ (k = 57 ∧ j = 5)) S1 S4 := by rw [e4, e2]; exact ((FrI.rf _ _).pI _ (by omega)).pI _ (by omega)
    have FF : ∀ S5 S7 (u5 : Int32), FrI rdP S4 S5 → S7 = pI (pI S5 61 (19 + 2 * nB L + 1) u5) 61 27 ((gI (pI S5 61 (19 + 2 * nB L + 1) u5) 61 27) + 1) → FrI (fun k j => mlP k j ∧ ¬ (k = 57 ∧ j = 4)) S S7 := by
      intro S5 S7 u5 k5 e7
      rw [e7]
      exact ((((k1.2.2.mono rd_ml).tr (F24.mono (fun k j z => by unfold mlP; omega))).tr (k5.mono rd_ml)).pI _ (by unfold mlP; omega)).pI _ (by unfold mlP; omega)
    by_cases f1 : nmF tp n e 0 5 = 0
    · have c4 : Cur S4 n tp (tE tp n e) := (k1.1 f1).fr F24 (fun j _ _ => by omega)
      have T4 : TM S4 n tp := (h.rd k1.2.2).fr F24 (by omega) (fun j => by omega)
      refine ⟨_, _, ev_readNum (d := d) (by omega) T4 hw e1.2 c4 1 9 (by omega) (by omega), fun S5 k5 => ⟨ix_in (by omega) (by omega), fun S6 e6 S7 e7 => ?_⟩⟩
      have F57 : FrI (fun k j => k = 61) S5 S7 := by rw [e7, e6]; exact ((FrI.rf (fun k _ => k = 61) _).pI _ rfl).pI _ rfl
      refine ⟨rfl, ?_⟩
      unfold boN
      rw [o1_0 f1]
      by_cases f2 : nmF tp n (tE tp n e) 1 9 = 0
      · rw [o1_0 f2]
        rw [if_pos f2] at e6
        have ex2 : x = tV tp n e := by rw [ex, if_pos f1]
        have t := nmF_0 f2
        have n27 : gI S6 61 27 = nI (nB L) := by
          rw [e6, gI_pI, if_neg (by omega), k5.2.2 61 27 (by unfold rdP; omega), e4, gI_pI, if_neg (by omega), e2, gI_pI, if_neg (by omega), k1.2.2 61 27 (by unfold rdP; omega)]; exact g27
        rw [n27, nI_1] at e7
        refine ⟨fun _ => ⟨(k5.1 f2).fr F57 (fun j _ _ => by omega), ?_, ?_⟩, fun z => absurd rfl z, FF S5 S7 _ k5.2.2 (by rw [e7, ← e6, n27, nI_1])⟩
        · refine HoM61_B hM hW hn _ _ (by omega) (by omega) ?_ ?_ ?_ (fun q q1 q2 q3 => ?_)
          · rw [e7, gI_pI, if_neg (by omega), e6, gI_pI, if_neg (by omega), k5.2.2 61 _ (by unfold rdP; omega), e4, gI_pI, if_neg (by omega), ← ex2]; exact a2
          · rw [e7, gI_pI, if_neg (by omega), e6, gI_pI, if_pos ⟨rfl, rfl⟩]
          · rw [e7, gI_pI, if_pos ⟨rfl, rfl⟩]
          · rw [e7, gI_pI, if_neg (by omega), e6, gI_pI, if_neg (by omega), k5.2.2 61 _ (by unfold rdP; omega), e4, gI_pI, if_neg (by omega), e2, gI_pI, if_neg (by omega), k1.2.2 61 _ (by unfold rdP; omega)]
        · show gI S7 57 5 = iv (hiN (adB L (tV tp n e) (tV tp n (tE tp n e))) (nB (adB L (tV tp n e) (tV tp n (tE tp n e)))))
          rw [(adB_n (L := L) (f := tV tp n e) (l := tV tp n (tE tp n e)) hW.2.1.1).1, hiN, hiN_congr (L := L) (nB L) (fun b hb => by unfold adB; rw [if_neg (by omega), if_neg (by omega), if_neg (by omega)]), show adB L (tV tp n e) (tV tp n (tE tp n e)) 4 (nB L) = (x : Int) by unfold adB; rw [if_neg (by omega), if_pos ⟨rfl, rfl⟩, ex2]]
          rw [F57 57 5 (by omega), k5.2.2 57 5 (by unfold rdP; omega), e4, gI_pI, if_pos ⟨rfl, rfl⟩]
      · have o := o1_n (f := nmF tp n (tE tp n e) 1 9) (w := sk tp n (tE tp n e)) (k := (0, 0, tE tp n (tE tp n e), adB L (tV tp n e) (tV tp n (tE tp n e)), gt)) f2
        refine ⟨fun z => absurd (o.1.symm.trans z) f2, fun _ => ?_, FF S5 S7 _ k5.2.2 (by rw [e7, e6])⟩
        rw [o.1, o.2]; exact (k5.2.1 f2).fr F57 (fun j _ _ => by omega)
    · have b4 : BdM S4 (nmF tp n e 0 5) (sk tp n e) := (k1.2.1 f1).fr F24 (fun j _ _ => by omega)
      have fl := nmF_le tp n e 0 5
      refine ⟨_, _, ev_readNumB (d := d) (by omega) f1 (by omega) b4 _ _, fun S5 k5 => ⟨ix_in (by omega) (by omega), fun S6 e6 S7 e7 => ?_⟩⟩
      have F57 : FrI (fun k j => k = 61) S5 S7 := by rw [e7, e6]; exact ((FrI.rf (fun k _ => k = 61) _).pI _ rfl).pI _ rfl
      have o := o1_n (f := nmF tp n e 0 5) (w := sk tp n e) (k := (o1 (nmF tp n (tE tp n e) 1 9) (sk tp n (tE tp n e)) (0, 0, tE tp n (tE tp n e), adB L (tV tp n e) (tV tp n (tE tp n e)), gt))) f1
      refine ⟨rfl, fun z => absurd (o.1.symm.trans z) f1, fun _ => ?_, FF S5 S7 0 (by rw [k5]; exact FrI.rf _ _) (by rw [e7, e6])⟩
      unfold boN
      rw [o.1, o.2]
      exact BdM.fr (by rw [k5]; exact b4) F57 (fun j _ _ => by omega)
  rw [a2, a5, nI_iv x, iv_le (by unfold inB; omega) (by unfold inB; omega)]
  refine ⟨fun q S4 e4 => go S4 (by rw [if_neg (by omega)]; exact e4), fun q => ⟨ix_in (by omega) (by omega), fun S8 e8 => go S8 (by rw [if_pos (by omega)]; exact e8)⟩⟩
