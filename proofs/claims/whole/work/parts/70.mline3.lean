/-! A LINE: the reference, its lines of each kind -/
def foN (tp : Nat → Nat) (n e : Nat) (L : Lnd) (gt : Bool) (c : Nat) : Out := o1 (nmF tp n e 0 99) (sk tp n e) (o1 (nmF tp n (tE tp n e) 0 9) (sk tp n (tE tp n e)) (0, 0, tE tp n (tE tp n e), adF L c (tV tp n e) (tV tp n (tE tp n e)), gt))
def goN (tp : Nat → Nat) (n e : Nat) (L : Lnd) : Out := o1 (nmF tp n e 1 99) (sk tp n e) (0, 0, tE tp n e, updL L 0 11 (tV tp n e), true)
def coN (tp : Nat → Nat) (n e : Nat) (L : Lnd) (gt : Bool) (c : Nat) : Out := if c = 5 then goN tp n e L else if c = 4 then boN tp n e L gt else foN tp n e L gt c
theorem ev_readLineOf {d : Nat} (hd : 4 ≤ d) {S : ZSt} {n e c : Nat} {tp : Nat → Nat} {L : Lnd} (gt : Bool) (h : TM S n tp) (hw : TW n tp) (hen : e ≤ n) (hcu : Cur S n tp e) (hM : HoM S 61 0 L) (hW : WFd L) (hc : c ≤ 5) (h4 : c = 4 → nB L < 4) (h3 : c ≤ 3 → nF L < 6) (h5 : gI S 57 5 = iv (hiN L (nB L))) : zEv d mX7_readLineOf [.ref 57, .int (nI c)] S (zY none (RN S n tp (coN tp n e L gt c))) := by
  obtain ⟨d, rfl⟩ : ∃ d', d = d' + 1 := ⟨d - 1, by omega⟩
  have h160 := hw.1
  have w8 := hW.f8
  have e1 := tE_in (tp := tp) (n := n) (p := e) hen
  have v1 := tV_le (tp := tp) (n := n) (p := e)
  have v2 := tV_le (tp := tp) (n := n) (p := tE tp n e)
  refine zEv.of cw_X7_readLineOf (Nat.le_of_ble_eq_true rfl) rfl (blk_X7_readLineOf_0 ⟨fun q => ?_, fun q => ?_, fun q4 q5 => ?_⟩)
  · have q : c = 4 := (nI_eq (b := 4) (by omega) (by omega)).mp q
    unfold coN
    rw [if_neg (by omega), if_pos q]
    exact ⟨_, ev_readBand (d := d) (by omega) gt h hw hen hcu hM hW (h4 q) h5, fun S2 k2 => ⟨rfl, k2⟩⟩
  · have q : c = 5 := (nI_eq (b := 5) (by omega) (by omega)).mp q
    unfold coN
    rw [if_pos q]
    refine ⟨_, _, ev_readNum (d := d) (by omega) h hw hen hcu 1 99 (by omega) (by omega), fun S3 k3 S4 e4 => ⟨rfl, ?_⟩⟩
    have F34 : FrI (fun k j => k = 61 ∧ j = 28) S3 S4 := by rw [e4]; exact (FrI.rf _ _).pI _ ⟨rfl, rfl⟩
    have FF : FrI (fun k j => mlP k j ∧ ¬ (k = 57 ∧ j = 4)) S S4 := (k3.2.2.mono rd_ml).tr (F34.mono (fun k j z => by unfold mlP; omega))
    unfold goN
    by_cases f1 : nmF tp n e 1 99 = 0
    · rw [o1_0 f1]
      rw [if_pos f1] at e4
      refine ⟨fun _ => ⟨(k3.1 f1).fr F34 (fun j _ _ => by omega), HoM61_G (hM.fr61 k3.2.2 (fun i => by unfold rdP; omega)) hW _ (by omega) (by rw [e4, gI_pI, if_pos ⟨rfl, rfl⟩]) (fun q hq => by rw [e4, gI_pI, if_neg (by omega)]), ?_⟩, fun z => absurd rfl z, FF⟩
      show gI S4 57 5 = iv (hiN (updL L 0 11 (tV tp n e)) (nB (updL L 0 11 (tV tp n e))))
      rw [(nn_upd (L := L) (r := 0) (j := 11) (z := (tV tp n e : Int)) (by omega)).2.1, hiN_congr (L := L) (nB L) (fun b hb => updL_ne _ _ _ _ (by omega)), F34 57 5 (by omega), k3.2.2 57 5 (by unfold rdP; omega)]
      exact h5
    · have o := o1_n (f := nmF tp n e 1 99) (w := sk tp n e) (k := (0, 0, tE tp n e, updL L 0 11 (tV tp n e), true)) f1
      exact ⟨fun z => absurd (o.1.symm.trans z) f1, fun _ => by rw [o.1, o.2]; exact (k3.2.1 f1).fr F34 (fun j _ _ => by omega), FF⟩
  · have q4 : c ≠ 4 := fun z => q4 (by rw [z]; rfl)
    have q5 : c ≠ 5 := fun z => q5 (by rw [z]; rfl)
    have hn := h3 (by omega)
    have g18 : gI S 61 18 = nI (nF L) := by
      have := hM.g (r := 0) (j := 8) (inR_0 (by omega))
      rw [Nat.zero_add, show mpos 0 8 = 18 from rfl, w8.2, ← nI_iv] at this
      exact this
    have ix0 : (3 * nI (nF L)) + 0 = nI (3 * nF L + 0) := ix3 (nF L) 0
    have ix1 : (3 * nI (nF L)) + 1 = nI (3 * nF L + 1) := ix3 (nF L) 1
    have ix22 : (3 * nI (nF L)) + 2 = nI (3 * nF L + 2) := ix3 (nF L) 2
    unfold coN
    rw [if_neg q5, if_neg q4, g18, ix0, ix_cl (by omega)]
    refine ⟨ix_in (by omega) (by omega), fun S5 e5 => ?_⟩
    have F5 : FrI (fun k j => k = 61) S S5 := by rw [e5]; exact (FrI.rf (fun k _ => k = 61) _).pI _ rfl
    have g5 : gI S5 61 18 = nI (nF L) := by rw [e5, gI_pI, if_neg (by omega)]; exact g18
    have c5 : Cur S5 n tp e := hcu.fr F5 (fun j _ _ => by omega)
    have T5 : TM S5 n tp := h.fr F5 (by omega) (fun j => by omega)
    rw [g5, ix1, ix_cl (by omega)]
    refine ⟨_, _, ev_readNum (d := d) (by omega) T5 hw hen c5 0 99 (by omega) (by omega), fun S6 k6 => ⟨ix_in (by omega) (by omega), fun S7 e7 => ?_⟩⟩
    have F67 : FrI (fun k j => k = 61) S6 S7 := by rw [e7]; exact (FrI.rf (fun k _ => k = 61) _).pI _ rfl
    have g7 : gI S7 61 18 = nI (nF L) := by rw [e7, gI_pI, if_neg (by omega), k6.2.2 61 18 (by unfold rdP; omega)]; exact g5
    rw [g7, ix22, ix_cl (by omega)]
    have FF : ∀ S8 S9 S10 (u8 x10 : Int32), FrI rdP S7 S8 → S9 = pI S8 61 (3 * nF L + 2) u8 → S10 = pI S9 61 18 x10 → FrI (fun k j => mlP k j ∧ ¬ (k = 57 ∧ j = 4)) S S10 := by
      intro S8 S9 S10 u8 x10 k8 e9 e10
      rw [e10, e9]
      exact (((((F5.mono (fun k j z => by unfold mlP; omega)).tr (k6.2.2.mono rd_ml)).tr (F67.mono (fun k j z => by unfold mlP; omega))).tr (k8.mono rd_ml)).pI _ (by unfold mlP; omega)).pI _ (by unfold mlP; omega)
    unfold foN
    by_cases f1 : nmF tp n e 0 99 = 0
    · rw [o1_0 f1]
      rw [if_pos f1] at e7
      have c7 : Cur S7 n tp (tE tp n e) := (k6.1 f1).fr F67 (fun j _ _ => by omega)
      have T7 : TM S7 n tp := (T5.rd k6.2.2).fr F67 (by omega) (fun j => by omega)
      refine ⟨_, _, ev_readNum (d := d) (by omega) T7 hw e1.2 c7 0 9 (by omega) (by omega), fun S8 k8 => ⟨ix_in (by omega) (by omega), fun S9 e9 S10 e10 => ⟨rfl, ?_⟩⟩⟩
      have F810 : FrI (fun k j => k = 61) S8 S10 := by rw [e10, e9]; exact ((FrI.rf (fun k _ => k = 61) _).pI _ rfl).pI _ rfl
      by_cases f2 : nmF tp n (tE tp n e) 0 9 = 0
      · rw [o1_0 f2]
        have g9 : gI S9 61 18 = nI (nF L) := by rw [e9, gI_pI, if_neg (by omega), k8.2.2 61 18 (by unfold rdP; omega)]; exact g7
        rw [g9, nI_1] at e10
        have fr := FF S8 S9 S10 _ _ k8.2.2 e9 e10
        rw [if_pos f2] at e9
        refine ⟨fun _ => ⟨(k8.1 f2).fr F810 (fun j _ _ => by omega), ?_, ?_⟩, fun z => absurd rfl z, fr⟩
        · refine HoM61_F hM hW hn c _ _ (by omega) (by omega) (by omega) ?_ ?_ ?_ ?_ (fun q q0 q1 q2 q3 => ?_)
          · rw [e10, gI_pI, if_neg (by omega), e9, gI_pI, if_neg (by omega), k8.2.2 61 _ (by unfold rdP; omega), e7, gI_pI, if_neg (by omega), k6.2.2 61 _ (by unfold rdP; omega), e5, gI_pI, if_pos ⟨rfl, rfl⟩]
          · rw [e10, gI_pI, if_neg (by omega), e9, gI_pI, if_neg (by omega), k8.2.2 61 _ (by unfold rdP; omega), e7, gI_pI, if_pos ⟨rfl, rfl⟩]
          · rw [e10, gI_pI, if_neg (by omega), e9, gI_pI, if_pos ⟨rfl, rfl⟩]
          · rw [e10, gI_pI, if_pos ⟨rfl, rfl⟩]
          · rw [e10, gI_pI, if_neg (by omega), e9, gI_pI, if_neg (by omega), k8.2.2 61 _ (by unfold rdP; omega), e7, gI_pI, if_neg (by omega), k6.2.2 61 _ (by unfold rdP; omega), e5, gI_pI, if_neg (by omega)]
        · show gI S10 57 5 = iv (hiN (adF L c (tV tp n e) (tV tp n (tE tp n e))) (nB (adF L c (tV tp n e) (tV tp n (tE tp n e)))))
          rw [(adF_n (L := L) (k := c) (e := tV tp n e) (b := tV tp n (tE tp n e)) hW.1.1).2.1, hiN_congr (L := L) (nB L) (fun b hb => by unfold adF; rw [if_neg (by omega), if_neg (by omega), if_neg (by omega), if_neg (by omega)]), F810 57 5 (by omega), k8.2.2 57 5 (by unfold rdP; omega), F67 57 5 (by omega), k6.2.2 57 5 (by unfold rdP; omega), F5 57 5 (by omega)]
          exact h5
      · have o := o1_n (f := nmF tp n (tE tp n e) 0 9) (w := sk tp n (tE tp n e)) (k := (0, 0, tE tp n (tE tp n e), adF L c (tV tp n e) (tV tp n (tE tp n e)), gt)) f2
        exact ⟨fun z => absurd (o.1.symm.trans z) f2, fun _ => by rw [o.1, o.2]; exact (k8.2.1 f2).fr F810 (fun j _ _ => by omega), FF S8 S9 S10 _ _ k8.2.2 e9 e10⟩
    · have b7 : BdM S7 (nmF tp n e 0 99) (sk tp n e) := (k6.2.1 f1).fr F67 (fun j _ _ => by omega)
      have fl := nmF_le tp n e 0 99
      refine ⟨_, _, ev_readNumB (d := d) (by omega) f1 (by omega) b7 _ _, fun S8 k8 => ⟨ix_in (by omega) (by omega), fun S9 e9 S10 e10 => ⟨rfl, ?_⟩⟩⟩
      have F810 : FrI (fun k j => k = 61) S8 S10 := by rw [e10, e9]; exact ((FrI.rf (fun k _ => k = 61) _).pI _ rfl).pI _ rfl
      have o := o1_n (f := nmF tp n e 0 99) (w := sk tp n e) (k := (o1 (nmF tp n (tE tp n e) 0 9) (sk tp n (tE tp n e)) (0, 0, tE tp n (tE tp n e), adF L c (tV tp n e) (tV tp n (tE tp n e)), gt))) f1
      refine ⟨fun z => absurd (o.1.symm.trans z) f1, fun _ => ?_, FF S8 S9 S10 _ _ (by rw [k8]; exact FrI.rf _ _) e9 e10⟩
      rw [o.1, o.2]
      exact BdM.fr (by rw [k8]; exact b7) F810 (fun j _ _ => by omega)
/-- and the semicolon -/
def seO (tp : Nat → Nat) (n : Nat) (O : Out) : Out := if O.1 = 0 then o1 (smF tp n O.2.2.1) (sk tp n O.2.2.1) (0, 0, tE tp n O.2.2.1, O.2.2.2.1, O.2.2.2.2) else O
theorem o1_idem {f w : Nat} {k : Out} (h : f ≠ 0) : o1 f w k = (f, w, 0, fun _ _ => 0, false) := by unfold o1; rw [if_neg h]
theorem se_o1 {tp : Nat → Nat} {n f w : Nat} {k : Out} : seO tp n (o1 f w k) = o1 f w (seO tp n k) := by
  by_cases h : f = 0
  · rw [o1_0 h, o1_0 h]
  · rw [o1_idem h, o1_idem h]
    unfold seO
    rw [if_neg h]
theorem se_0 {tp : Nat → Nat} {n e : Nat} {L : Lnd} {g : Bool} : seO tp n (0, 0, e, L, g) = o1 (smF tp n e) (sk tp n e) (0, 0, tE tp n e, L, g) := by unfold seO; rw [if_pos rfl]
theorem coO_N {tp : Nat → Nat} {n s e c : Nat} {L : Lnd} {gt : Bool} (hc : c ≤ 5) : coO tp n s e L gt c = o1 (if c = 5 then (if gt = true then 4 else 0) else if c = 4 then (if 4 ≤ nB L then 5 else 0) else (if 6 ≤ nF L then 5 else 0)) s (seO tp n (coN tp n e L gt c)) := by
  unfold coO coN
  rw [if_neg (by omega)]
  by_cases c5 : c = 5
  · rw [if_pos c5, if_pos c5, if_pos c5]
    unfold goO goN
    rw [se_o1, se_0]
  · rw [if_neg c5, if_neg c5, if_neg c5]
    by_cases c4 : c = 4
    · rw [if_pos c4, if_pos c4, if_pos c4]
      unfold boO boN
      rw [se_o1, se_o1, se_0]
    · rw [if_neg c4, if_neg c4, if_neg c4]
      unfold foO foN
      rw [se_o1, se_o1, se_0]
def RM (S : ZSt) (n : Nat) (tp : Nat → Nat) (O : Out) : ZSt → Prop := fun S' => (O.1 = 0 → Cur S' n tp O.2.2.1 ∧ HoM S' 61 0 O.2.2.2.1 ∧ gI S' 57 4 = b01 (O.2.2.2.2 = true) ∧ gI S' 57 5 = iv (hiN O.2.2.2.1 (nB O.2.2.2.1))) ∧ (O.1 ≠ 0 → BdM S' O.1 O.2.1) ∧ FrI mlP S S'
theorem RM_bad {S S' : ZSt} {n : Nat} {tp : Nat → Nat} {O : Out} (f w : Nat) (hO : O.1 = f ∧ O.2.1 = w) (hf : f ≠ 0) (h : BdM S' f w) (F : FrI mlP S S') : RM S n tp O S' := ⟨fun z => absurd (hO.1.symm.trans z) hf, fun _ => by rw [hO.1, hO.2]; exact h, F⟩
theorem rd_ml' : ∀ k j, rdP k j → mlP k j := fun k j h => (rd_ml k j h).1
/-- a line that is lost already -/
theorem m_bad127 {d : Nat} {S0 S : ZSt} {n f w : Nat} {tp : Nat → Nat} {O : Out} {v1 t0 : Int32} (hd : 1 ≤ d) (ht : t0 = 0 ∨ t0 = 1) (hO : O.1 = f ∧ O.2.1 = w) (hf : f ≠ 0) (hf2 : f < 1000) (h : BdM S f w) (F : FrI mlP S0 S) : zSem (d + 1) mX7_readLine 127 [some (.ref 57), some (.int v1)] [.int t0, .ref 57] S (zY none (RM S0 n tp O)) := by
  have F2 : FrI (fun k j => k = 57 ∧ j = 4) S (pI S 57 4 t0) := (FrI.rf _ _).pI _ ⟨rfl, rfl⟩
  have b := h.fr F2 (fun j _ _ => by omega)
  refine blk_X7_readLine_127 ⟨ht, _, ev_readsB (d := d) hd hf hf2 b.1, fun S1 k1 => ?_⟩
  rw [k1]
  refine ⟨fun z => ?_, fun _ => ⟨rfl, RM_bad f w hO hf b (F.tr (F2.mono (fun k j z => by unfold mlP; omega)))⟩⟩
  rw [b.1] at z
  exact absurd ((nI_leiff (b := 0) (by omega) (by omega)).mp z) (by omega)
theorem m_bad105 {d : Nat} {S0 S : ZSt} {n f w : Nat} {tp : Nat → Nat} {O : Out} {v1 t0 : Int32} (hd : 1 ≤ d) (hO : O.1 = f ∧ O.2.1 = w) (hf : f ≠ 0) (hf2 : f < 1000) (h : BdM S f w) (F : FrI mlP S0 S) : zSem (d + 1) mX7_readLine 105 [some (.ref 57), some (.int v1)] [.int t0, .ref 57] S (zY none (RM S0 n tp O)) := by
  have nz : ¬ gI S 57 12 = 0 := by rw [h.1]; exact fun z => hf ((nI_eq (b := 0) (by omega) (by omega)).mp z)
  refine blk_X7_readLine_105 ⟨_, ev_reqB nz, fun S1 k1 => ?_⟩
  rw [k1]
  exact ⟨fun _ => m_bad127 hd (Or.inr rfl) hO hf hf2 h F, fun _ => ⟨fun _ => m_bad127 hd (Or.inl rfl) hO hf hf2 h F, fun _ => m_bad127 hd (Or.inr rfl) hO hf hf2 h F⟩⟩
theorem m_bad83 {d : Nat} {S0 S : ZSt} {n f w : Nat} {tp : Nat → Nat} {O : Out} {v1 t0 : Int32} (hd : 1 ≤ d) (hO : O.1 = f ∧ O.2.1 = w) (hf : f ≠ 0) (hf2 : f < 1000) (h : BdM S f w) (F : FrI mlP S0 S) : zSem (d + 1) mX7_readLine 83 [some (.ref 57), some (.int v1)] [.int t0, .ref 57] S (zY none (RM S0 n tp O)) := by
  have nz : ¬ gI S 57 12 = 0 := by rw [h.1]; exact fun z => hf ((nI_eq (b := 0) (by omega) (by omega)).mp z)
  refine blk_X7_readLine_83 ⟨_, ev_reqB nz, fun S1 k1 => ?_⟩
  rw [k1]
  exact ⟨fun _ => m_bad105 hd hO hf hf2 h F, fun _ => ⟨fun _ => m_bad105 hd hO hf hf2 h F, fun _ => m_bad105 hd hO hf hf2 h F⟩⟩
theorem m_bad57 {d : Nat} {S0 S : ZSt} {n f w : Nat} {tp : Nat → Nat} {O : Out} {v1 t0 : Int32} (hd : 1 ≤ d) (hO : O.1 = f ∧ O.2.1 = w) (hf : f ≠ 0) (hf2 : f < 1000) (h : BdM S f w) (F : FrI mlP S0 S) : zSem (d + 1) mX7_readLine 57 [some (.ref 57), some (.int v1)] [.int t0, .ref 57] S (zY none (RM S0 n tp O)) := by
  have nz : ¬ gI S 57 12 = 0 := by rw [h.1]; exact fun z => hf ((nI_eq (b := 0) (by omega) (by omega)).mp z)
  refine blk_X7_readLine_57 ⟨_, ev_reqB nz, fun S1 k1 => ?_⟩
  rw [k1]
  exact ⟨fun _ => m_bad83 hd hO hf hf2 h F, fun _ => ⟨fun _ => m_bad83 hd hO hf hf2 h F, fun _ => m_bad83 hd hO hf hf2 h F⟩⟩
