/-! A LINE: the reference's readLine -/
theorem coN_gt {tp : Nat → Nat} {n e c : Nat} {L : Lnd} {gt : Bool} (h : (coN tp n e L gt c).1 = 0) : (coN tp n e L gt c).2.2.2.2 = (if c = 5 then true else gt) := by
  unfold coN at h ⊢
  by_cases c5 : c = 5
  · rw [if_pos c5] at h ⊢
    rw [if_pos c5]
    unfold goN at h ⊢
    by_cases f1 : nmF tp n e 1 99 = 0
    · rw [o1_0 f1]
    · exact absurd (((o1_n f1).1.symm).trans h) f1
  · rw [if_neg c5] at h ⊢
    rw [if_neg c5]
    by_cases c4 : c = 4
    · rw [if_pos c4] at h ⊢
      unfold boN at h ⊢
      by_cases f1 : nmF tp n e 0 5 = 0
      · rw [o1_0 f1] at h ⊢
        by_cases f2 : nmF tp n (tE tp n e) 1 9 = 0
        · rw [o1_0 f2]
        · exact absurd (((o1_n f2).1.symm).trans h) f2
      · exact absurd (((o1_n f1).1.symm).trans h) f1
    · rw [if_neg c4] at h ⊢
      unfold foN at h ⊢
      by_cases f1 : nmF tp n e 0 99 = 0
      · rw [o1_0 f1] at h ⊢
        by_cases f2 : nmF tp n (tE tp n e) 0 9 = 0
        · rw [o1_0 f2]
        · exact absurd (((o1_n f2).1.symm).trans h) f2
      · exact absurd (((o1_n f1).1.symm).trans h) f1
theorem coN_4 {tp : Nat → Nat} {n e c : Nat} {L : Lnd} {gt : Bool} (h : tK tp n e = 4) : (coN tp n e L gt c).1 = 1 ∧ (coN tp n e L gt c).2.1 = sk tp n e := by
  have f : ∀ lo hi, nmF tp n e lo hi = 1 := fun lo hi => by unfold nmF dueF; rw [if_pos h, if_neg (by omega)]
  have g : ∀ lo hi (k : Out), (o1 (nmF tp n e lo hi) (sk tp n e) k).1 = 1 ∧ (o1 (nmF tp n e lo hi) (sk tp n e) k).2.1 = sk tp n e := fun lo hi k => by
    have := o1_n (f := nmF tp n e lo hi) (w := sk tp n e) (k := k) (by rw [f]; omega)
    rw [f] at this ⊢
    exact this
  unfold coN goN boN foN
  split
  · exact g _ _ _
  · split
    · exact g _ _ _
    · exact g _ _ _
theorem coN_le {tp : Nat → Nat} {n e c : Nat} {L : Lnd} {gt : Bool} : (coN tp n e L gt c).1 ≤ 3 ∧ ((coN tp n e L gt c).1 = 0 → e ≤ n → (coN tp n e L gt c).2.2.1 ≤ n) := by
  have g : ∀ (f w : Nat) (k : Out), f ≤ 3 → k.1 ≤ 3 → (o1 f w k).1 ≤ 3 := fun f w k a b => by
    unfold o1; split
    · exact b
    · exact a
  have g2 : ∀ (f w : Nat) (k : Out), (k.1 = 0 → k.2.2.1 ≤ n) → (o1 f w k).1 = 0 → (o1 f w k).2.2.1 ≤ n := fun f w k b => by
    unfold o1; split
    · exact b
    · intro z; exact absurd z (by assumption)
  have l := fun p lo hi => nmF_le tp n p lo hi
  unfold coN goN boN foN
  split
  · exact ⟨g _ _ _ (l _ _ _) (Nat.zero_le _), fun z hen => g2 _ _ _ (fun _ => (tE_in hen).2) z⟩
  · split
    · exact ⟨g _ _ _ (l _ _ _) (g _ _ _ (l _ _ _) (Nat.zero_le _)), fun z hen => g2 _ _ _ (g2 _ _ _ (fun _ => (tE_in (tE_in hen).2).2)) z⟩
    · exact ⟨g _ _ _ (l _ _ _) (g _ _ _ (l _ _ _) (Nat.zero_le _)), fun z hen => g2 _ _ _ (g2 _ _ _ (fun _ => (tE_in (tE_in hen).2).2)) z⟩
theorem m_good127 {d : Nat} (hd : 4 ≤ d) {S0 S : ZSt} {n e c : Nat} {tp : Nat → Nat} {L : Lnd} {gt : Bool} {t0 : Int32} (ht0 : t0 = b01 ((if c = 5 then true else gt) = true)) (h : TM S n tp) (hw : TW n tp) (hen : e ≤ n) (h8 : gI S 57 8 = nI e) (h12 : gI S 57 12 = 0) (hM : HoM S 61 0 L) (hW : WFd L) (hc : c ≤ 5) (h4 : c = 4 → nB L < 4) (h3 : c ≤ 3 → nF L < 6) (h5 : gI S 57 5 = iv (hiN L (nB L))) (F : FrI mlP S0 S) : zSem (d + 1) mX7_readLine 127 [some (.ref 57), some (.int (nI c))] [.int t0, .ref 57] S (zY none (RM S0 n tp (seO tp n (coN tp n e L gt c)))) := by
  have h160 := hw.1
  have F2 : FrI (fun k j => k = 57 ∧ j = 4) S (pI S 57 4 t0) := (FrI.rf _ _).pI _ ⟨rfl, rfl⟩
  obtain ⟨S2, e2⟩ : ∃ S2, S2 = pI S 57 4 t0 := ⟨_, rfl⟩
  rw [← e2] at F2
  have T2 : TM S2 n tp := h.fr F2 (by omega) (fun j => by omega)
  have a8 : gI S2 57 8 = nI e := by rw [F2 57 8 (by omega)]; exact h8
  have a12 : gI S2 57 12 = 0 := by rw [F2 57 12 (by omega)]; exact h12
  have a4 : gI S2 57 4 = t0 := by rw [e2, gI_pI, if_pos ⟨rfl, rfl⟩]
  have FA : FrI mlP S0 S2 := F.tr (F2.mono (fun k j z => by unfold mlP; omega))
  refine blk_X7_readLine_127 ⟨by rw [ht0]; exact b01_or _, ?_⟩
  rw [← e2]
  refine ⟨_, ev_reads (d := d) (by omega) T2 hw a8 hen a12, fun S1 k1 => ?_⟩
  have F1 : FrI mlP S0 S1 := FA.tr (k1.2.mono rd_ml')
  by_cases k4 : tK tp n e = 4
  · have bd := k1.1.2 k4
    have o := coN_4 (L := L) (gt := gt) (c := c) k4
    refine ⟨fun z => ?_, fun _ => ⟨rfl, ?_⟩⟩
    · rw [bd.1] at z
      exact absurd ((nI_leiff (a := 1) (b := 0) (by omega) (by omega)).mp z) (by omega)
    · have e : seO tp n (coN tp n e L gt c) = coN tp n e L gt c := by unfold seO; rw [if_neg (by omega)]
      rw [e]
      exact RM_bad 1 _ o (by omega) bd F1
  · have at1 := k1.1.1 k4
    refine ⟨fun _ => ?_, fun z => absurd (by rw [at1.1]; decide) z⟩
    have M1 : HoM S1 61 0 L := (hM.fr61 F2 (fun i => by omega)).fr61 k1.2 (fun i => by unfold rdP; omega)
    have q5 : gI S1 57 5 = iv (hiN L (nB L)) := by rw [k1.2 57 5 (by unfold rdP; omega), F2 57 5 (by omega)]; exact h5
    refine ⟨_, ev_readLineOf (d := d) (by omega) gt (T2.rd k1.2) hw hen k1.1 M1 hW hc h4 h3 q5, fun S3 k3 => ?_⟩
    have cle := coN_le (tp := tp) (n := n) (e := e) (c := c) (L := L) (gt := gt)
    have cgt := coN_gt (tp := tp) (n := n) (e := e) (c := c) (L := L) (gt := gt)
    have p4 : gI S3 57 4 = t0 := by rw [k3.2.2 57 4 (by omega), k1.2 57 4 (by unfold rdP; omega)]; exact a4
    have F3 : FrI mlP S0 S3 := F1.tr (k3.2.2.mono (fun k j z => z.1))
    have T3 : TM S3 n tp := (T2.rd k1.2).fr k3.2.2 (by unfold mlP; omega) (fun j => by unfold mlP; omega)
    generalize coN tp n e L gt c = O at k3 cle cgt ⊢
    by_cases o0 : O.1 = 0
    · obtain ⟨c3, M3, q3⟩ := k3.1 o0
      have ee := cle.2 o0 hen
      have eE := tE_in (tp := tp) (n := n) (p := O.2.2.1) ee
      have es : seO tp n O = o1 (smF tp n O.2.2.1) (sk tp n O.2.2.1) (0, 0, tE tp n O.2.2.1, O.2.2.2.1, O.2.2.2.2) := by unfold seO; rw [if_pos o0]
      rw [es]
      by_cases kk : tK tp n O.2.2.1 = 4
      · have bd := c3.2 kk
        have f1 : smF tp n O.2.2.1 = 1 := by unfold smF dueF; rw [if_pos kk]
        have nz : ¬ gI S3 57 12 = 0 := by rw [bd.1]; decide
        refine ⟨fun _ => blk_X7_readLine_172 ⟨_, ev_readsB (d := d) (f := 1) (by omega) (by omega) (by omega) bd.1, fun S4 k4 => ⟨rfl, ?_⟩⟩, fun z => absurd z nz⟩
        rw [k4]
        exact RM_bad 1 _ (by have := o1_n (f := smF tp n O.2.2.1) (w := sk tp n O.2.2.1) (k := (0, 0, tE tp n O.2.2.1, O.2.2.2.1, O.2.2.2.2)) (by omega); rw [f1] at this ⊢; exact this) (by omega) bd F3
      · obtain ⟨b12, b10, b8, b9, b11⟩ := c3.1 kk
        refine ⟨fun z => absurd b12 z, fun _ => ⟨fun q => ?_, fun q => ?_⟩⟩
        · have kl := tK_le tp n O.2.2.1
          have q : ¬ tK tp n O.2.2.1 = 3 := fun z => q (by rw [b10, z]; rfl)
          have f2 : smF tp n O.2.2.1 = 2 := by unfold smF dueF; rw [if_neg kk, if_neg q]
          refine ⟨_, ev_reqN b12, fun S6 k6 => ?_⟩
          have bd : BdM S6 2 (sk tp n O.2.2.1) := ⟨by rw [k6, gI_pI, if_neg (by omega), gI_pI, if_pos ⟨rfl, rfl⟩]; rfl, by rw [k6, gI_pI, if_pos ⟨rfl, rfl⟩]; exact b9⟩
          refine blk_X7_readLine_172 ⟨_, ev_readsB (d := d) (f := 2) (by omega) (by omega) (by omega) bd.1, fun S4 k4 => ⟨rfl, ?_⟩⟩
          rw [k4]
          refine RM_bad 2 _ (by have := o1_n (f := smF tp n O.2.2.1) (w := sk tp n O.2.2.1) (k := (0, 0, tE tp n O.2.2.1, O.2.2.2.1, O.2.2.2.2)) (by omega); rw [f2] at this ⊢; exact this) (by omega) bd ?_
          rw [k6]; exact (F3.pI _ (by unfold mlP; omega)).pI _ (by unfold mlP; omega)
        · rw [b10] at q
          have kl := tK_le tp n O.2.2.1
          have q : tK tp n O.2.2.1 = 3 := (nI_eq (b := 3) (by omega) (by omega)).mp q
          have f0 : smF tp n O.2.2.1 = 0 := by unfold smF dueF; rw [if_neg kk, if_pos q]
          rw [o1_0 f0]
          refine ⟨_, ev_reqY (by decide), fun S7 k7 => ?_⟩
          rw [k7]
          refine blk_X7_readLine_172 ⟨_, ev_reads (d := d) (by omega) T3 hw b8 eE.2 b12, fun S4 k4 => ⟨rfl, fun _ => ⟨k4.1, M3.fr61 k4.2 (fun i => by unfold rdP; omega), ?_, ?_⟩, fun z => absurd rfl z, F3.tr (k4.2.mono rd_ml')⟩⟩
          · show gI S4 57 4 = b01 (O.2.2.2.2 = true)
            rw [k4.2 57 4 (by unfold rdP; omega), p4, ht0]
            congr 1
            rw [cgt o0]
          · rw [k4.2 57 5 (by unfold rdP; omega)]; exact q3
    · have bd := k3.2.1 o0
      have es : seO tp n O = O := by unfold seO; rw [if_neg o0]
      rw [es]
      have nz : ¬ gI S3 57 12 = 0 := by rw [bd.1]; exact fun z => o0 ((nI_eq (b := 0) (by omega) (by omega)).mp z)
      refine ⟨fun _ => blk_X7_readLine_172 ⟨_, ev_readsB (d := d) (by omega) o0 (by omega) bd.1, fun S4 k4 => ⟨rfl, ?_⟩⟩, fun z => absurd z nz⟩
      rw [k4]
      exact RM_bad _ _ ⟨rfl, rfl⟩ o0 bd F3
theorem ev_readLine {d : Nat} (hd : 5 ≤ d) {S : ZSt} {n p : Nat} {tp : Nat → Nat} {L : Lnd} {gt : Bool} (h : TM S n tp) (hw : TW n tp) (hpn : p ≤ n) (k4 : tK tp n p ≠ 4) (hat : AtM S n tp p) (hM : HoM S 61 0 L) (hW : WFd L) (h4 : gI S 57 4 = b01 (gt = true)) (h5 : gI S 57 5 = iv (hiN L (nB L))) : zEv d mX7_readLine [.ref 57] S (zY none (RM S n tp (lnO tp n p L gt))) := by
  obtain ⟨d, rfl⟩ : ∃ d', d = d' + 1 := ⟨d - 1, by omega⟩
  have h160 := hw.1
  have e1 := tE_in (tp := tp) (n := n) (p := p) hpn
  have kl := tK_le tp n p
  obtain ⟨a12, a10, a8, a9, a11⟩ := hat
  have w8 := hW.f8
  have w9 := hW.b9
  have g18 : gI S 61 18 = nI (nF L) := by
    have := hM.g (r := 0) (j := 8) (inR_0 (by omega))
    rw [Nat.zero_add, show mpos 0 8 = 18 from rfl, w8.2, ← nI_iv] at this
    exact this
  have g27 : gI S 61 27 = nI (nB L) := by
    have := hM.g (r := 0) (j := 9) (inR_0 (by omega))
    rw [Nat.zero_add, show mpos 0 9 = 27 from rfl, w9.2, ← nI_iv] at this
    exact this
  have badS : ∀ f : Nat, f < 1000 → ∀ S1, S1 = pI (pI S 57 12 (nI f)) 57 13 (gI S 57 9) → BdM S1 f (sk tp n p) ∧ FrI mlP S S1 := by
    intro f hf S1 e
    refine ⟨⟨by rw [e, gI_pI, if_neg (by omega), gI_pI, if_pos ⟨rfl, rfl⟩], by rw [e, gI_pI, if_pos ⟨rfl, rfl⟩]; exact a9⟩, ?_⟩
    rw [e]; exact ((FrI.rf _ _).pI _ (by unfold mlP; omega)).pI _ (by unfold mlP; omega)
  -- no line begins
  have none6 : ∀ O : Out, O.1 = 2 ∧ O.2.1 = sk tp n p → zSem (d + 1) mX7_readLine 17 [some (.ref 57), none] [.int (-4)] S (zY none (RM S n tp O)) := by
    intro O hO
    refine blk_X7_readLine_17 ⟨fun _ => blk_X7_readLine_30 ⟨_, ev_reqN a12, fun S1 k1 => ?_⟩, fun z => absurd rfl z⟩
    obtain ⟨bd, F1⟩ := badS 2 (by omega) S1 k1
    exact ⟨fun z => absurd z (by decide), fun _ => ⟨fun _ => m_bad57 (by omega) hO (by omega) (by omega) bd F1, fun _ => m_bad57 (by omega) hO (by omega) (by omega) bd F1⟩⟩
  refine zEv.of cw_X7_readLine (Nat.le_of_ble_eq_true rfl) rfl (blk_X7_readLine_0 ?_)
  rw [a10]
  refine ⟨fun q => ?_, fun q => ⟨_, S, ev_lineNow (d := d) (by omega) h hw a8 a9 e1.1 e1.2, ?_⟩⟩
  · have q : ¬ tK tp n p = 1 := fun z => q (by rw [z]; rfl)
    have f2 : dueF (tK tp n p) 1 = 2 := by unfold dueF; rw [if_neg k4, if_neg q]
    refine none6 _ ?_
    unfold lnO
    have := o1_n (f := dueF (tK tp n p) 1) (w := sk tp n p) (k := coO tp n (sk tp n p) (tE tp n p) L gt (nmC tp (sk tp n p) (tE tp n p))) (by omega)
    rw [f2] at this ⊢
    exact this
  · have q : tK tp n p = 1 := (nI_eq (b := 1) (by omega) (by omega)).mp q
    have f0 : dueF (tK tp n p) 1 = 0 := by unfold dueF; rw [if_neg k4, if_pos q]
    have cl := nmC_le tp (sk tp n p) (tE tp n p)
    unfold lnO
    rw [o1_0 f0]
    generalize nmC tp (sk tp n p) (tE tp n p) = c at cl ⊢
    by_cases c6 : c = 6
    · unfold kkM
      rw [if_pos c6]
      refine none6 _ ?_
      unfold coO
      rw [if_pos c6]; exact ⟨rfl, rfl⟩
    · unfold kkM
      rw [if_neg c6, coO_N (by omega)]
      have nm4 : ¬ nI c = -4 := by
        rcases (show c = 0 ∨ c = 1 ∨ c = 2 ∨ c = 3 ∨ c = 4 ∨ c = 5 by omega) with rfl | rfl | rfl | rfl | rfl | rfl <;> decide
      refine blk_X7_readLine_17 ⟨fun z => absurd z nm4, fun _ => blk_X7_readLine_30 ⟨_, ev_reqY (by decide), fun S1 k1 => ?_⟩⟩
      subst k1
      rw [g18]
      -- from the check of glut on
      have at105 : c = 5 → gt = true → zSem (d + 1) mX7_readLine 105 [some (.ref 57), some (.int (nI c))] [.int 0, .ref 57] S1 (zY none (RM S1 n tp (o1 (if c = 5 then (if gt = true then 4 else 0) else if c = 4 then (if 4 ≤ nB L then 5 else 0) else (if 6 ≤ nF L then 5 else 0)) (sk tp n p) (seO tp n (coN tp n (tE tp n p) L gt c))))) := by
        intro c5 hg
        have ff : (if c = 5 then (if gt = true then 4 else 0) else if c = 4 then (if 4 ≤ nB L then 5 else 0) else (if 6 ≤ nF L then 5 else 0)) = 4 := by rw [if_pos c5, if_pos hg]
        rw [ff]
        refine blk_X7_readLine_105 ⟨_, ev_reqN a12, fun S2 k2 => ?_⟩
        obtain ⟨bd, F2⟩ := badS 4 (by omega) S2 k2
        have hO := o1_n (f := 4) (w := sk tp n p) (k := seO tp n (coN tp n (tE tp n p) L gt c)) (by omega)
        exact ⟨fun _ => m_bad127 (by omega) (Or.inr rfl) hO (by omega) (by omega) bd F2, fun _ => ⟨fun _ => m_bad127 (by omega) (Or.inl rfl) hO (by omega) (by omega) bd F2, fun _ => m_bad127 (by omega) (Or.inr rfl) hO (by omega) (by omega) bd F2⟩⟩
      have ok105 : (c = 5 → ¬ gt = true) → (c = 4 → nB L < 4) → (c ≤ 3 → nF L < 6) → zSem (d + 1) mX7_readLine 105 [some (.ref 57), some (.int (nI c))] [.int 1, .ref 57] S1 (zY none (RM S1 n tp (o1 (if c = 5 then (if gt = true then 4 else 0) else if c = 4 then (if 4 ≤ nB L then 5 else 0) else (if 6 ≤ nF L then 5 else 0)) (sk tp n p) (seO tp n (coN tp n (tE tp n p) L gt c))))) := by
        intro i5 i4 i3
        have ff : (if c = 5 then (if gt = true then 4 else 0) else if c = 4 then (if 4 ≤ nB L then 5 else 0) else (if 6 ≤ nF L then 5 else 0)) = 0 := by
          by_cases c5 : c = 5
          · rw [if_pos c5, if_neg (i5 c5)]
          · rw [if_neg c5]
            by_cases c4 : c = 4
            · rw [if_pos c4, if_neg (by have := i4 c4; omega)]
            · rw [if_neg c4, if_neg (by have := i3 (by omega); omega)]
        rw [o1_0 ff]
        refine blk_X7_readLine_105 ⟨_, ev_reqY (by decide), fun S2 k2 => ?_⟩
        subst k2
        rw [h4]
        have go : ∀ t0, t0 = b01 ((if c = 5 then true else gt) = true) → zSem (d + 1) mX7_readLine 127 [some (.ref 57), some (.int (nI c))] [.int t0, .ref 57] S2 (zY none (RM S2 n tp (seO tp n (coN tp n (tE tp n p) L gt c)))) := fun t0 ht => m_good127 (by omega) ht h hw e1.2 a8 a12 hM hW (by omega) i4 i3 h5 (FrI.rf _ _)
        refine b01_if' (fun hg => go 1 ?_) (fun hg => ⟨fun n5 => go 0 ?_, fun y5 => go 1 ?_⟩)
        · rw [b01_p (by split; rfl; exact hg)]
        · have : ¬ c = 5 := fun z => n5 (by rw [z]; rfl)
          rw [if_neg this, b01_f hg]
        · have : c = 5 := (nI_eq (b := 5) (by omega) (by omega)).mp y5
          rw [if_pos this, b01_p rfl]
      have ok83 : (c = 4 → nB L < 4) → (c ≤ 3 → nF L < 6) → zSem (d + 1) mX7_readLine 83 [some (.ref 57), some (.int (nI c))] [.int 1, .ref 57] S1 (zY none (RM S1 n tp (o1 (if c = 5 then (if gt = true then 4 else 0) else if c = 4 then (if 4 ≤ nB L then 5 else 0) else (if 6 ≤ nF L then 5 else 0)) (sk tp n p) (seO tp n (coN tp n (tE tp n p) L gt c))))) := by
        intro i4 i3
        refine blk_X7_readLine_83 ⟨_, ev_reqY (by decide), fun S2 k2 => ?_⟩
        subst k2
        rw [h4]
        refine ⟨fun n5 => ok105 (fun z => absurd (by rw [z]; rfl) n5) i4 i3, fun y5 => ?_⟩
        have y5 : c = 5 := (nI_eq (b := 5) (by omega) (by omega)).mp y5
        exact b01_if' (fun hg => at105 y5 hg) (fun hg => ok105 (fun _ => hg) i4 i3)
      have ok57 : (c ≤ 3 → nF L < 6) → zSem (d + 1) mX7_readLine 57 [some (.ref 57), some (.int (nI c))] [.int 1, .ref 57] S1 (zY none (RM S1 n tp (o1 (if c = 5 then (if gt = true then 4 else 0) else if c = 4 then (if 4 ≤ nB L then 5 else 0) else (if 6 ≤ nF L then 5 else 0)) (sk tp n p) (seO tp n (coN tp n (tE tp n p) L gt c))))) := by
        intro i3
        refine blk_X7_readLine_57 ⟨_, ev_reqY (by decide), fun S2 k2 => ?_⟩
        subst k2
        rw [g27]
        refine ⟨fun n4 => ok83 (fun z => absurd (by rw [z]; rfl) n4) i3, fun y4 => ?_⟩
        have y4 : c = 4 := (nI_eq (b := 4) (by omega) (by omega)).mp y4
        refine ⟨fun q4 => ?_, fun q4 => ok83 (fun _ => ?_) i3⟩
        · have q4 := (nI_leiff (a := 4) (b := nB L) (by omega) (by omega)).mp q4
          have ff : (if c = 5 then (if gt = true then 4 else 0) else if c = 4 then (if 4 ≤ nB L then 5 else 0) else (if 6 ≤ nF L then 5 else 0)) = 5 := by rw [if_neg (by omega), if_pos y4, if_pos q4]
          rw [ff]
          refine blk_X7_readLine_83 ⟨_, ev_reqN a12, fun S3 k3 => ?_⟩
          obtain ⟨bd, F3⟩ := badS 5 (by omega) S3 k3
          have hO := o1_n (f := 5) (w := sk tp n p) (k := seO tp n (coN tp n (tE tp n p) L gt c)) (by omega)
          exact ⟨fun _ => m_bad105 (by omega) hO (by omega) (by omega) bd F3, fun _ => ⟨fun _ => m_bad105 (by omega) hO (by omega) (by omega) bd F3, fun _ => m_bad105 (by omega) hO (by omega) (by omega) bd F3⟩⟩
        · rcases Nat.lt_or_ge (nB L) 4 with y | y
          · exact y
          · exact absurd (nI_le (a := 4) (b := nB L) y (by omega)) q4
      refine ⟨fun q4 => ok57 (fun z => ?_), fun q4 => ⟨fun q6 => ?_, fun q6 => ok57 (fun _ => ?_)⟩⟩
      · have q4 := (nI_leiff (a := 4) (b := c) (by omega) (by omega)).mp q4
        omega
      · have q4 : ¬ 4 ≤ c := fun z => q4 (nI_le (a := 4) (b := c) z (by omega))
        have q6 := (nI_leiff (a := 6) (b := nF L) (by omega) (by omega)).mp q6
        have ff : (if c = 5 then (if gt = true then 4 else 0) else if c = 4 then (if 4 ≤ nB L then 5 else 0) else (if 6 ≤ nF L then 5 else 0)) = 5 := by rw [if_neg (by omega), if_neg (by omega), if_pos q6]
        rw [ff]
        refine blk_X7_readLine_57 ⟨_, ev_reqN a12, fun S3 k3 => ?_⟩
        obtain ⟨bd, F3⟩ := badS 5 (by omega) S3 k3
        have hO := o1_n (f := 5) (w := sk tp n p) (k := seO tp n (coN tp n (tE tp n p) L gt c)) (by omega)
        exact ⟨fun _ => m_bad83 (by omega) hO (by omega) (by omega) bd F3, fun _ => ⟨fun _ => m_bad83 (by omega) hO (by omega) (by omega) bd F3, fun _ => m_bad83 (by omega) hO (by omega) (by omega) bd F3⟩⟩
      · rcases Nat.lt_or_ge (nF L) 6 with y | y
        · exact y
        · exact absurd (nI_le (a := 6) (b := nF L) y (by omega)) q6
