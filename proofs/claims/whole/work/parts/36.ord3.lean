/-! order: the class's best -/
def r0 : Nat → Nat := fun _ => 0
theorem ev_beginRows {d : Nat} {S : ZSt} {L : Lnd} (hC : HoC S 1 L) (hW : WF L) (hE : EB S L) : zEv d mX3_beginRows [.ref 41, .ref 1] S (zY none (fun S' => RW S' L r0 ∧ FrI rwP S S')) := by
  have hn4 := hW.nB.1
  have hn6 := hW.nF.1
  have p4 := pow4 hn4
  have p0 := Nat.two_pow_pos (nB L)
  refine zEv.of cw_X3_beginRows (Nat.le_of_ble_eq_true rfl) rfl (blk_X3_beginRows_0 ?_)
  have key2 : ∀ (m f : Nat) (S1 : ZSt), f + m = nF L → (∀ b, b < nB L → gI S1 44 b = 0) → (∀ g, g < f → gI S1 43 g = orS (sg r0 g) (nB L)) → gI S1 41 4 = iv (sm_ (fun f => XX L f (sg r0 f)) f) → FrI rwP S S1 → zSem d mX3_beginRows 27 [some (.ref 41), some (.ref 1), some (.int (nI f))] [] S1 (zY none (fun S' => RW S' L r0 ∧ FrI rwP S S')) := by
    intro m
    induction m with
    | zero =>
      intro f S1 hf h44 h43 h41 F1
      obtain rfl : f = nF L := by omega
      have C1 : HoC S1 1 L := hC.frI' F1 (fun r j q => by unfold rwP; omega)
      exact blk_X3_beginRows_27 ⟨fun c => ⟨rfl, ⟨⟨fun g hg m hm => by rw [F1 42 _ (by unfold rwP; omega)]; exact hE g hg m hm, h43, h41⟩, fun b hb => by rw [h44 b hb]; rfl⟩, F1⟩, fun c => absurd (by rw [C1.gnF hW]; exact nI_le (by omega) (by omega)) c⟩
    | succ m ih =>
      intro f S1 hfm h44 h43 h41 F1
      have hf : f < nF L := by omega
      have C1 : HoC S1 1 L := hC.frI' F1 (fun r j q => by unfold rwP; omega)
      have ab := all_bits ⟨nB L, by omega⟩
      simp only [] at ab
      have l1 := oN_lt (s := sg r0 f) (nB L)
      have go : ∀ (x : Int32) (S3 : ZSt), x = orS (sg r0 f) (nB L) → S3 = pI S1 43 f x → vp_in ((nI f * 16) + (gI S3 43 f)) 96 ∧ (∀ S4 : ZSt, S4 = (pI S3 41 4 ((gI S3 41 4) + (gI S3 42 ((nI f * 16) + (gI S3 43 f)).toNatClampNeg))) → zSem d mX3_beginRows 27 [some (.ref 41), some (.ref 1), some (.int (nI f + 1))] [] S4 (zY none (fun S' => RW S' L r0 ∧ FrI rwP S S'))) := by
        intro x S3 ex e3
        have F3 : FrI rwP S S3 := by rw [e3]; exact F1.pI _ (by unfold rwP; omega)
        have E3 : EB S3 L := fun g hg m hm => by rw [F3 42 _ (by unfold rwP; omega)]; exact hE g hg m hm
        have a43 : gI S3 43 f = nI (oN (sg r0 f) (nB L)) := by rw [e3, gI_pI, if_pos ⟨rfl, rfl⟩, ex, orS_oN _ hn4]
        have a41 : gI S3 41 4 = iv (sm_ (fun f => XX L f (sg r0 f)) f) := by rw [e3, gI_pI, if_neg (by omega)]; exact h41
        rw [a43, ix16, ix_cl (by omega), EB_at E3 hf, a41, iv_add, nI_1]
        refine ⟨ix_in (by omega) (by omega), fun S4 e4 => ih (f + 1) S4 (by omega) (fun b hb => ?_) (fun g hg => ?_) ?_ ?_⟩
        · rw [e4, gI_pI, if_neg (by omega), e3, gI_pI, if_neg (by omega)]; exact h44 b hb
        · rw [e4, gI_pI, if_neg (by omega)]
          by_cases q : g = f
          · rw [q, a43, orS_oN _ hn4]
          · rw [e3, gI_pI, if_neg (by omega)]; exact h43 g (by omega)
        · rw [e4, gI_pI, if_pos ⟨rfl, rfl⟩]; rfl
        · rw [e4]; exact F3.pI _ (by unfold rwP; omega)
      refine blk_X3_beginRows_27 ⟨fun c => absurd c (by rw [C1.gnF hW]; exact nI_ge (by omega) (by omega)), fun c => ?_⟩
      rw [ix_cl (by omega)]
      refine ⟨fun c2 => ⟨ix_in (by omega) (by omega), fun S3 e3 => ⟨ix_in (by omega) (by omega), go 0 S3 ?_ e3⟩⟩, fun c2 => ⟨ix_in (by omega) (by omega), fun S3 e3 => ⟨ix_in (by omega) (by omega), go _ S3 ?_ e3⟩⟩⟩
      · refine (orS_0 _ (fun j _ => decide_eq_false (fun z => c2 ?_))).symm
        have : f = 0 := z.symm
        rw [this]; rfl
      · have f0 : f = 0 := Classical.byContradiction (fun z => nI_ne (a := f) (b := 0) (by omega) (by omega) z c2)
        rw [C1.gnB hW, ab, orS_oN _ hn4, oN_all (s := sg r0 f) _ (fun j _ => decide_eq_true f0.symm)]
  have key1 : ∀ (m j : Nat) (S1 : ZSt), j + m = 4 → (∀ b, b < j → gI S1 44 b = 0) → FrI rwP S S1 → zSem d mX3_beginRows 2 [some (.ref 41), some (.ref 1), some (.int (nI j))] [] S1 (zY none (fun S' => RW S' L r0 ∧ FrI rwP S S')) := by
    intro m
    induction m with
    | zero =>
      intro j S1 hj h44 F1
      obtain rfl : j = 4 := by omega
      refine blk_X3_beginRows_2 ⟨fun c S2 e2 => ?_, fun c => absurd (nI_le (a := 4) (b := 4) (by omega) (by omega)) c⟩
      refine key2 (nF L) 0 S2 (by omega) (fun b hb => ?_) (fun g hg => absurd hg (by omega)) ?_ ?_
      · rw [e2, gI_pI, if_neg (by omega)]; exact h44 b (by omega)
      · rw [e2, gI_pI, if_pos ⟨rfl, rfl⟩]; rfl
      · rw [e2]; exact F1.pI _ (by unfold rwP; omega)
    | succ m ih =>
      intro j S1 hj h44 F1
      refine blk_X3_beginRows_2 ⟨fun c => absurd c (nI_ge (a := j) (b := 4) (by omega) (by omega)), fun c => ⟨ix_in (by omega) (by omega), fun S3 e3 => ?_⟩⟩
      rw [ix_cl (by omega)] at e3
      rw [nI_1]
      refine ih (j + 1) S3 (by omega) (fun b hb => ?_) ?_
      · rw [e3, gI_pI]
        by_cases q : b = j
        · rw [q, if_pos ⟨rfl, rfl⟩]
        · rw [if_neg (by omega)]; exact h44 b (by omega)
      · rw [e3]; exact F1.pI _ (by unfold rwP; omega)
  exact key1 4 0 S (by omega) (fun b hb => absurd hb (by omega)) (FrI.rf _ _)
def oR (L : Lnd) (c : Nat) : Nat → Nat := dgR (nF L) (nB L) r0 c
def oT (L : Lnd) (c : Nat) : Int := sm_ (fun f => XX L f (sg (oR L c) f)) (nF L)
def orF (L : Lnd) : Nat → (Nat → Nat) × Int
  | 0 => (r0, -1)
  | c + 1 => if oT L c ≤ (orF L c).2 then orF L c else (oR L c, oT L c)
theorem oT_in {L : Lnd} (hW : WF L) (c : Nat) : 0 ≤ oT L c ∧ oT L c ≤ 594 := by
  have h := sm_in (g := fun f => XX L f (sg (oR L c) f)) (m := 99) (nF L) (fun j hj => eI_in hW hj _ 6)
  have := hW.nF.1
  unfold oT; omega
theorem orF_in {L : Lnd} (hW : WF L) : ∀ c, -1 ≤ (orF L c).2 ∧ (orF L c).2 ≤ 594
  | 0 => ⟨Int.le_refl _, by show (-1 : Int) ≤ 594; decide⟩
  | c + 1 => by
    have i := orF_in hW c
    have t := oT_in hW c
    rw [orF]; split
    · exact i
    · exact ⟨by show -1 ≤ oT L c; omega, t.2⟩
theorem pow_in {F B : Nat} (hF : F ≤ 6) (hB : B ≤ 4) : F ^ B ≤ 1296 := by
  have h1 : F ^ B ≤ 6 ^ B := Nat.pow_le_pow_left hF B
  have h2 : 6 ^ B ≤ 6 ^ 4 := Nat.pow_le_pow_right (by omega) hB
  have : 6 ^ 4 = 1296 := by decide
  omega
theorem dgR_r0 {L : Lnd} : oR L 0 = r0 := by
  funext j; exact dgR_0 _ _ (fun _ => rfl) j
theorem ev_findBest {d : Nat} (hdp : 5 ≤ d) {S : ZSt} {L : Lnd} (hC : HoC S 1 L) (hW : WF L) (hF : 0 < nF L) : zEv d mX3_findBest [.ref 41, .ref 1] S (zY none (fun S' => gI S' 41 5 = iv (orF L (nF L ^ nB L)).2 ∧ (∀ b, b < nB L → gI S' 45 b = nI ((orF L (nF L ^ nB L)).1 b)) ∧ FrI orP S S')) := by
  obtain ⟨d, rfl⟩ : ∃ d', d = d' + 1 := ⟨d - 1, by omega⟩
  have hn4 := hW.nB.1
  have hn6 := hW.nF.1
  have pw := pow_in hn6 hn4
  refine zEv.of cw_X3_findBest (Nat.le_of_ble_eq_true rfl) rfl (blk_X3_findBest_0 ⟨_, ev_weigh (by omega) hC hW, fun S1 k1 => ?_⟩)
  have C1 : HoC S1 1 L := hC.frI' k1.2 (fun r j q => by omega)
  refine ⟨_, ev_beginRows C1 hW k1.1, fun S2 k2 => ?_⟩
  have C2 : HoC S2 1 L := C1.frI' k2.2 (fun r j q => by unfold rwP; omega)
  have F2 : FrI orP S S2 := (k1.2.mono (P' := orP) (fun k j q => by unfold orP; omega)).tr (k2.2.mono (fun k j q => by unfold rwP at q; unfold orP; omega))
  have fin : (orF L (nF L ^ nB L)).2 ≠ -1 := by
    have : ∀ n, 0 < n → 0 ≤ (orF L n).2 := by
      intro n
      induction n with
      | zero => intro h; exact absurd h (by omega)
      | succ n ih =>
        intro _
        have t := oT_in hW n
        rw [orF]; split
        · next q => omega
        · exact t.1
    have := this _ (Nat.pow_pos hF (n := nB L))
    omega
  have key : ∀ (m c : Nat) (S1 : ZSt), c + m = nF L ^ nB L → RW S1 L (oR L c) → gI S1 41 5 = iv (orF L c).2 → (∀ b, b < nB L → (orF L c).2 ≠ -1 → gI S1 45 b = nI ((orF L c).1 b)) → FrI orP S S1 → zSem (d + 1) mX3_findBest 42 [some (.ref 41), some (.ref 1), some (.int (nI (nF L ^ nB L))), some (.int (nI c))] [] S1 (zY none (fun S' => gI S' 41 5 = iv (orF L (nF L ^ nB L)).2 ∧ (∀ b, b < nB L → gI S' 45 b = nI ((orF L (nF L ^ nB L)).1 b)) ∧ FrI orP S S')) := by
    intro m
    induction m with
    | zero =>
      intro c S1 hc R1 h5 h45 F1
      obtain rfl : c = nF L ^ nB L := by omega
      exact blk_X3_findBest_42 ⟨fun q => ⟨rfl, h5, fun b hb => h45 b hb fin, F1⟩, fun q => absurd (nI_le (by omega) (by omega)) q⟩
    | succ m ih =>
      intro c S1 hcm R1 h5 h45 F1
      have C1 : HoC S1 1 L := hC.frI' F1 (fun r j q => by unfold orP; omega)
      have t := oT_in hW c
      have i := orF_in hW c
      have lt : ∀ b, b < nB L → oR L c b < nF L := fun b hb => dgR_lt hF _ _ _ b hb
      have nx : nxR (nF L) (nB L) (oR L c) = oR L (c + 1) := nx_dg hF _ _ _
      have h4 : gI S1 41 4 = iv (oT L c) := R1.1.2.2
      refine blk_X3_findBest_42 ⟨fun q => absurd q (nI_ge (by omega) (by omega)), fun q => ?_⟩
      rw [h4, h5, iv_le (by unfold inB; omega) (by unfold inB; omega), nI_1]
      refine ⟨fun q2 => ⟨_, ev_nextRow (by omega) C1 hW hF R1 lt, fun S3 k3 => ?_⟩, fun q2 S4 e4 S5 e5 => ?_⟩
      · rw [nx] at k3
        refine ih (c + 1) S3 (by omega) k3.1 ?_ (fun b hb ne => ?_) (F1.tr (k3.2.mono (fun k j q => by unfold rwP at q; unfold orP; omega)))
        · rw [orF, if_pos q2, k3.2 41 5 (by unfold rwP; omega)]; exact h5
        · rw [orF, if_pos q2] at ne ⊢
          rw [k3.2 45 b (by unfold rwP; omega)]; exact h45 b hb ne
      · have g5 : ∀ k j, ¬ (k = 41 ∧ j = 5) → k ≠ 45 → gI S5 k j = gI S1 k j := fun k j n1 n2 => by
          rw [e5, gI_cpI, if_neg (by omega), e4, gI_pI, if_neg n1]
        have R5 : RW S5 L (oR L c) := ⟨⟨fun g hg m hm => by rw [g5 _ _ (by omega) (by omega)]; exact R1.1.1 g hg m hm, fun g hg => by rw [g5 _ _ (by omega) (by omega)]; exact R1.1.2.1 g hg, by rw [g5 _ _ (by omega) (by omega)]; exact R1.1.2.2⟩, fun b hb => by rw [g5 _ _ (by omega) (by omega)]; exact R1.2 b hb⟩
        have F5 : FrI orP S S5 := fun k j q => by rw [g5 k j (by unfold orP at q; omega) (by unfold orP at q; omega)]; exact F1 k j q
        have C5 : HoC S5 1 L := hC.frI' F5 (fun r j q => by unfold orP; omega)
        refine ⟨_, ev_nextRow (by omega) C5 hW hF R5 lt, fun S6 k6 => ?_⟩
        rw [nx] at k6
        refine ih (c + 1) S6 (by omega) k6.1 ?_ (fun b hb ne => ?_) (F5.tr (k6.2.mono (fun k j q => by unfold rwP at q; unfold orP; omega)))
        · rw [orF, if_neg q2, k6.2 41 5 (by unfold rwP; omega), e5, gI_cpI, if_neg (by omega), e4, gI_pI, if_pos ⟨rfl, rfl⟩]
        · rw [orF, if_neg q2, k6.2 45 b (by unfold rwP; omega), e5, gI_cpI, if_pos (by omega), e4, gI_pI, if_neg (by omega), Nat.zero_add, Nat.sub_zero]
          exact R1.2 b hb
  have key0 : ∀ (m j : Nat), j + m = nB L → zSem (d + 1) mX3_findBest 14 [some (.ref 41), some (.ref 1), some (.int (nI (nF L ^ j))), some (.int (nI j))] [] S2 (zY none (fun S' => gI S' 41 5 = iv (orF L (nF L ^ nB L)).2 ∧ (∀ b, b < nB L → gI S' 45 b = nI ((orF L (nF L ^ nB L)).1 b)) ∧ FrI orP S S')) := by
    intro m
    induction m with
    | zero =>
      intro j hj
      obtain rfl : j = nB L := by omega
      refine blk_X3_findBest_14 ⟨fun q S3 e3 => ?_, fun q => absurd (by rw [C2.gnB hW]; exact nI_le (by omega) (by omega)) q⟩
      have g3 : ∀ k j, ¬ (k = 41 ∧ j = 5) → gI S3 k j = gI S2 k j := fun k j n1 => by rw [e3, gI_pI, if_neg n1]
      have R2 := k2.1
      refine key (nF L ^ nB L) 0 S3 (by omega) ?_ ?_ (fun b hb ne => absurd rfl ne) ?_
      · rw [dgR_r0]
        exact ⟨⟨fun g hg m hm => by rw [g3 _ _ (by omega)]; exact R2.1.1 g hg m hm, fun g hg => by rw [g3 _ _ (by omega)]; exact R2.1.2.1 g hg, by rw [g3 _ _ (by omega)]; exact R2.1.2.2⟩, fun b hb => by rw [g3 _ _ (by omega)]; exact R2.2 b hb⟩
      · rw [e3, gI_pI, if_pos ⟨rfl, rfl⟩]; rfl
      · rw [e3]; exact F2.pI _ (by unfold orP; omega)
    | succ m ih =>
      intro j hj
      refine blk_X3_findBest_14 ⟨fun q => absurd q (by rw [C2.gnB hW]; exact nI_ge (by omega) (by omega)), fun q => ?_⟩
      rw [C2.gnF hW, pk_mul, ← Nat.pow_succ, nI_1]
      exact ih (j + 1) (by omega)
  exact key0 (nB L) 0 (by omega)
