/-! order: the class -/
def orP : Nat → Nat → Prop := fun k _ => 41 ≤ k ∧ k ≤ 45
theorem or_cls : ∀ k j, orP k j → clsP k j := fun k j h => by unfold orP at h; unfold clsP; omega
def ldS (L : Lnd) (s : Nat → Bool) : Nat → Int
  | 0 => 0
  | b + 1 => ldS L s b + (if s b = true then L 5 b else 0)
def ldM (L : Lnd) (m : Nat) : Nat → Int
  | 0 => 0
  | b + 1 => ldM L m b + ((m / 2 ^ b % 2 : Nat) : Int) * L 5 b
theorem ldM_oN {L : Lnd} {s : Nat → Bool} {n : Nat} : ∀ b, b ≤ n → ldM L (oN s n) b = ldS L s b
  | 0, _ => rfl
  | b + 1, h => by
    rw [ldM, ldS, ldM_oN b (by omega), oN_bit n (by omega)]
    split
    · rw [show ((1 : Nat) : Int) = 1 from rfl, Int.one_mul]
    · rw [show ((0 : Nat) : Int) = 0 from rfl, Int.zero_mul]
theorem ldM_in {L : Lnd} (hW : WF L) {m : Nat} : ∀ b, b ≤ nB L → 0 ≤ ldM L m b ∧ ldM L m b ≤ 9 * b
  | 0, _ => by rw [ldM]; omega
  | b + 1, h => by
    have i := ldM_in hW (m := m) b (by omega)
    have w := (hW.b (b := b) (by omega)).2
    rw [ldM]
    rcases Nat.mod_two_eq_zero_or_one (m / 2 ^ b) with e | e <;> rw [e]
    · rw [show ((0 : Nat) : Int) = 0 from rfl, Int.zero_mul]; omega
    · rw [show ((1 : Nat) : Int) = 1 from rfl, Int.one_mul]; omega
theorem ix16 (f m : Nat) : nI f * 16 + nI m = nI (f * 16 + m) := by rw [show (16 : Int32) = nI 16 from rfl, pk_mul, nI_add]
def EB (S : ZSt) (L : Lnd) : Prop := ∀ f, f < nF L → ∀ m, m < 2 ^ nB L → gI S 42 (f * 16 + m) = iv (eI L f (ldM L m (nB L)) 6)
theorem ev_weigh {d : Nat} (hdp : 4 ≤ d) {S : ZSt} {L : Lnd} (hC : HoC S 1 L) (hW : WF L) : zEv d mX3_weigh [.ref 41, .ref 1] S (zY none (fun S' => EB S' L ∧ FrI (fun k _ => k = 42) S S')) := by
  obtain ⟨d, rfl⟩ : ∃ d', d = d' + 1 := ⟨d - 1, by omega⟩
  have hn4 := hW.nB
  have hn6 := hW.nF
  have p4 := pow4 hn4.1
  refine zEv.of cw_X3_weigh (Nat.le_of_ble_eq_true rfl) rfl (blk_X3_weigh_0 ?_)
  have key : ∀ (q m : Nat) (S1 : ZSt), m + q = 2 ^ nB L → (∀ f, f < nF L → ∀ i, i < m → gI S1 42 (f * 16 + i) = iv (eI L f (ldM L i (nB L)) 6)) → FrI (fun k _ => k = 42) S S1 → zSem (d + 1) mX3_weigh 2 [some (.ref 41), some (.ref 1), some (.int (nI m)), none, none] [] S1 (zY none (fun S' => EB S' L ∧ FrI (fun k _ => k = 42) S S')) := by
    intro q
    induction q with
    | zero =>
      intro m S1 hm G1 F1
      have C1 : HoC S1 1 L := hC.frI' F1 (fun r j q => by omega)
      have sp := sh_pow ⟨nB L, by omega⟩
      simp only [] at sp
      refine blk_X3_weigh_2 ⟨fun c => ⟨rfl, fun f hf i hi => G1 f hf i (by omega), F1⟩, fun c => absurd (by rw [C1.gnB hW, sp]; exact nI_le (by omega) (by omega)) c⟩
    | succ q ih =>
      intro m S1 hmq G1 F1
      have hm : m < 2 ^ nB L := by omega
      have C1 : HoC S1 1 L := hC.frI' F1 (fun r j q => by omega)
      have sp := sh_pow ⟨nB L, by omega⟩
      simp only [] at sp
      refine blk_X3_weigh_2 ⟨fun c => absurd c (by rw [C1.gnB hW, sp]; exact nI_ge (by omega) (by omega)), fun c => ?_⟩
      have key2 : ∀ (p j : Nat), j + p = nB L → zSem (d + 1) mX3_weigh 17 [some (.ref 41), some (.ref 1), some (.int (nI m)), some (.int (iv (ldM L m j))), some (.int (nI j))] [] S1 (zY none (fun S' => EB S' L ∧ FrI (fun k _ => k = 42) S S')) := by
        intro p
        induction p with
        | zero =>
          intro j hj
          obtain rfl : j = nB L := by omega
          refine blk_X3_weigh_17 ⟨fun c2 => ?_, fun c2 => absurd (by rw [C1.gnB hW]; exact nI_le (by omega) (by omega)) c2⟩
          have lm := ldM_in hW (m := m) (nB L) (Nat.le_refl _)
          have key3 : ∀ (p3 f : Nat) (S2 : ZSt), f + p3 = nF L → (∀ f, f < nF L → ∀ i, i < m → gI S2 42 (f * 16 + i) = iv (eI L f (ldM L i (nB L)) 6)) → (∀ g, g < f → gI S2 42 (g * 16 + m) = iv (eI L g (ldM L m (nB L)) 6)) → FrI (fun k _ => k = 42) S S2 → zSem (d + 1) mX3_weigh 52 [some (.ref 41), some (.ref 1), some (.int (nI m)), some (.int (iv (ldM L m (nB L)))), some (.int (nI f))] [] S2 (zY none (fun S' => EB S' L ∧ FrI (fun k _ => k = 42) S S')) := by
            intro p3
            induction p3 with
            | zero =>
              intro f S2 hf G2 T2 F2
              obtain rfl : f = nF L := by omega
              have C2 : HoC S2 1 L := hC.frI' F2 (fun r j q => by omega)
              refine blk_X3_weigh_52 ⟨fun c3 => ?_, fun c3 => absurd (by rw [C2.gnF hW]; exact nI_le (by omega) (by omega)) c3⟩
              rw [nI_1]
              refine ih (m + 1) S2 (by omega) (fun f hf i hi => ?_) F2
              by_cases q3 : i = m
              · rw [q3]; exact T2 f hf
              · exact G2 f hf i (by omega)
            | succ p3 ih3 =>
              intro f S2 hfm G2 T2 F2
              have hf : f < nF L := by omega
              have C2 : HoC S2 1 L := hC.frI' F2 (fun r j q => by omega)
              refine blk_X3_weigh_52 ⟨fun c3 => absurd c3 (by rw [C2.gnF hW]; exact nI_ge (by omega) (by omega)), fun c3 => ⟨_, S2, ev_earsIf (by omega) zLd_1 C2 hW f hf _ (by omega) 6 (by omega), ?_⟩⟩
              rw [ix16, ix_cl (by omega), nI_1]
              refine ⟨ix_in (by omega) (by omega), ih3 (f + 1) _ (by omega) (fun g hg i hi => ?_) (fun g hg => ?_) (F2.pI _ rfl)⟩
              · rw [gI_pI, if_neg (by omega)]; exact G2 g hg i hi
              · rw [gI_pI]
                by_cases q3 : g = f
                · rw [q3, if_pos ⟨rfl, rfl⟩]
                · rw [if_neg (by omega)]; exact T2 g (by omega)
          exact key3 (nF L) 0 S1 (by omega) G1 (fun g hg => absurd hg (by omega)) F1
        | succ p ih2 =>
          intro j hjp
          have hj : j < nB L := by omega
          have g6 : gI S1 6 j = iv (L 5 j) := C1.g (inR_b (r := 5) (by omega) hj)
          have bo := bit_of ⟨m, by omega⟩ ⟨j, by omega⟩
          simp only [] at bo
          refine blk_X3_weigh_17 ⟨fun c2 => absurd c2 (by rw [C1.gnB hW]; exact nI_ge (by omega) (by omega)), fun c2 => ⟨ix_in (by omega) (by omega), ?_⟩⟩
          rw [ix_cl (by omega), g6, bo, nI_iv (m / 2 ^ j % 2), iv_mul, iv_add, nI_1]
          exact ih2 (j + 1) (by omega)
      exact key2 (nB L) 0 (by omega)
  exact key (2 ^ nB L) 0 S (by omega) (fun f hf i hi => absurd hi (by omega)) (FrI.rf _ _)
def XX (L : Lnd) (f : Nat) (s : Nat → Bool) : Int := eI L f (ldS L s (nB L)) 6
def OR (S : ZSt) (L : Lnd) (σ : Nat → Nat → Bool) : Prop := EB S L ∧ (∀ f, f < nF L → gI S 43 f = orS (σ f) (nB L)) ∧ gI S 41 4 = iv (sm_ (fun f => XX L f (σ f)) (nF L))
theorem EB_at {S : ZSt} {L : Lnd} (h : EB S L) {f : Nat} (hf : f < nF L) (s : Nat → Bool) : gI S 42 (f * 16 + oN s (nB L)) = iv (XX L f s) := by
  rw [h f hf _ (oN_lt _), ldM_oN _ (Nat.le_refl _)]; rfl
def tg (σ : Nat → Nat → Bool) (f b : Nat) : Nat → Nat → Bool := fun g c => if g = f ∧ c = b then !σ f b else σ g c
theorem ev_toggle {d : Nat} {S : ZSt} {L : Lnd} (hW : WF L) {σ : Nat → Nat → Bool} (h : OR S L σ) (f b : Nat) (hf : f < nF L) (hb : b < nB L) : zEv d mX3_toggle [.ref 41, .int (nI b), .int (nI f)] S (zY none (fun S' => OR S' L (tg σ f b) ∧ FrI (fun k i => k = 43 ∨ (k = 41 ∧ i = 4)) S S')) := by
  have hn4 := hW.nB.1
  have hn6 := hW.nF.1
  have p4 := pow4 hn4
  have l1 := oN_lt (s := σ f) (nB L)
  have l2 := oN_lt (s := tg σ f b f) (nB L)
  obtain ⟨hE, hS, hT⟩ := h
  refine zEv.of cw_X3_toggle (Nat.le_of_ble_eq_true rfl) rfl (blk_X3_toggle_0 ?_)
  rw [ix_cl (by omega), hS f hf, orS_oN _ hn4, ix16, ix_cl (by omega), EB_at hE hf]
  refine ⟨ix_in (by omega) (by omega), ix_in (by omega) (by omega), fun S1 e1 => ⟨ix_in (by omega) (by omega), ix_in (by omega) (by omega), fun S2 e2 => ?_⟩⟩
  have a43 : gI S1 43 f = orS (σ f) (nB L) := by rw [e1, gI_pI, if_neg (by omega)]; exact hS f hf
  have x := orS_xor (s := σ f) (s' := tg σ f b f) hn4 hb (by unfold tg; rw [if_pos ⟨rfl, rfl⟩]) (fun j hj => by unfold tg; rw [if_neg (by omega)])
  unfold bt at x
  rw [a43, x] at e2
  have E2 : EB S2 L := fun g hg m hm => by rw [e2, gI_pI, if_neg (by omega), e1, gI_pI, if_neg (by omega)]; exact hE g hg m hm
  have b43 : gI S2 43 f = nI (oN (tg σ f b f) (nB L)) := by rw [e2, gI_pI, if_pos ⟨rfl, rfl⟩, orS_oN _ hn4]
  have b41 : gI S2 41 4 = iv (sm_ (fun f => XX L f (σ f)) (nF L) - XX L f (σ f)) := by rw [e2, gI_pI, if_neg (by omega), e1, gI_pI, if_pos ⟨rfl, rfl⟩, hT, iv_sub]
  rw [b43, ix16, ix_cl (by omega), EB_at E2 hf, b41, iv_add]
  refine ⟨ix_in (by omega) (by omega), ix_in (by omega) (by omega), fun S3 e3 => ⟨rfl, ⟨fun g hg m hm => ?_, fun g hg => ?_, ?_⟩, ?_⟩⟩
  · rw [e3, gI_pI, if_neg (by omega)]; exact E2 g hg m hm
  · rw [e3, gI_pI, if_neg (by omega)]
    by_cases q : g = f
    · rw [q, b43, orS_oN _ hn4]
    · rw [e2, gI_pI, if_neg (by omega), e1, gI_pI, if_neg (by omega), hS g hg]
      exact orS_congr _ (fun j _ => by unfold tg; rw [if_neg (by omega)])
  · rw [e3, gI_pI, if_pos ⟨rfl, rfl⟩]
    congr 1
    refine (sm_one (g := fun f => XX L f (σ f)) (g' := fun g => XX L g (tg σ f b g)) (nF L) hf (fun j hj q => ?_)).symm
    show XX L j (tg σ f b j) = XX L j (σ j)
    have : tg σ f b j = σ j := by funext c; unfold tg; rw [if_neg (by omega)]
    rw [this]
  · rw [e3, e2, e1]
    exact (((FrI.rf _ S).pI _ (Or.inr ⟨rfl, rfl⟩)).pI _ (Or.inl rfl)).pI _ (Or.inr ⟨rfl, rfl⟩)
def sg (r : Nat → Nat) : Nat → Nat → Bool := fun f b => decide (r b = f)
theorem tg_sg (r : Nat → Nat) (b v : Nat) : tg (tg (sg r) (r b) b) v b = sg (updR r b v) := by
  funext g c
  by_cases q : c = b
  · subst q
    have inn : ∀ g, tg (sg r) (r c) c g c = false := fun g => by
      unfold tg
      by_cases q2 : g = r c
      · rw [if_pos ⟨q2, rfl⟩]; unfold sg; rw [decide_eq_true rfl]; rfl
      · rw [if_neg (fun z => q2 z.1)]; unfold sg; exact decide_eq_false (fun z => q2 z.symm)
    rw [show sg (updR r c v) g c = decide (v = g) by unfold sg; rw [updR_at]]
    rw [tg]
    by_cases q2 : g = v
    · rw [if_pos ⟨q2, rfl⟩, inn, decide_eq_true q2.symm]; rfl
    · rw [if_neg (fun z => q2 z.1), inn, decide_eq_false (fun z => q2 z.symm)]
  · rw [show sg (updR r b v) g c = sg r g c by unfold sg; rw [updR_ne q]]
    rw [tg, if_neg (fun z => q z.2), tg, if_neg (fun z => q z.2)]
def RW (S : ZSt) (L : Lnd) (r : Nat → Nat) : Prop := OR S L (sg r) ∧ ∀ b, b < nB L → gI S 44 b = nI (r b)
def rwP : Nat → Nat → Prop := fun k i => k = 43 ∨ k = 44 ∨ (k = 41 ∧ i = 4)
theorem ev_place {d : Nat} (hdp : 1 ≤ d) {S : ZSt} {L : Lnd} (hW : WF L) {r : Nat → Nat} (h : RW S L r) (b v : Nat) (hb : b < nB L) (hr : r b < nF L) (hv : v < nF L) : zEv d mX3_place [.ref 41, .int (nI b), .int (nI v)] S (zY none (fun S' => RW S' L (updR r b v) ∧ FrI rwP S S')) := by
  obtain ⟨d, rfl⟩ : ∃ d', d = d' + 1 := ⟨d - 1, by omega⟩
  have hn4 := hW.nB.1
  refine zEv.of cw_X3_place (Nat.le_of_ble_eq_true rfl) rfl (blk_X3_place_0 ⟨ix_in (by omega) (by omega), ?_⟩)
  rw [ix_cl (by omega), h.2 b hb]
  refine ⟨_, ev_toggle hW h.1 (r b) b hr hb, fun S1 k1 => ⟨_, ev_toggle hW k1.1 v b hv hb, fun S2 k2 => ⟨ix_in (by omega) (by omega), rfl, ⟨?_, fun c hc => ?_⟩, ?_⟩⟩⟩
  · have o := k2.1
    rw [tg_sg] at o
    exact ⟨fun g hg m hm => by rw [gI_pI, if_neg (by omega)]; exact o.1 g hg m hm, fun g hg => by rw [gI_pI, if_neg (by omega)]; exact o.2.1 g hg, by rw [gI_pI, if_neg (by omega)]; exact o.2.2⟩
  · rw [gI_pI]
    by_cases q : c = b
    · rw [q, if_pos ⟨rfl, rfl⟩, updR_at]
    · rw [if_neg (by omega), updR_ne q, k2.2 44 c (by omega), k1.2 44 c (by omega)]; exact h.2 c hc
  · refine FrI.pI (((k1.2.mono (P' := rwP) (fun k j q => by unfold rwP; omega)).tr (k2.2.mono (fun k j q => by unfold rwP; omega)))) _ (by unfold rwP; omega)
theorem ev_nextRow {d : Nat} (hdp : 2 ≤ d) {S : ZSt} {L : Lnd} (hC : HoC S 1 L) (hW : WF L) (hF : 0 < nF L) {r : Nat → Nat} (h : RW S L r) (hr : ∀ b, b < nB L → r b < nF L) : zEv d mX3_nextRow [.ref 41, .ref 1] S (zY none (fun S' => RW S' L (nxR (nF L) (nB L) r) ∧ FrI rwP S S')) := by
  obtain ⟨d, rfl⟩ : ∃ d', d = d' + 1 := ⟨d - 1, by omega⟩
  have hn4 := hW.nB.1
  have hn6 := hW.nF.1
  refine zEv.of cw_X3_nextRow (Nat.le_of_ble_eq_true rfl) rfl (blk_X3_nextRow_0 ?_)
  rw [hC.gnB hW, nI_iv, k1, iv_sub]
  have key : ∀ (k : Nat) (r1 : Nat → Nat) (S1 : ZSt), k ≤ nB L → RW S1 L r1 → (∀ b, b < nB L → r1 b < nF L) → nxR (nF L) k r1 = nxR (nF L) (nB L) r → FrI rwP S S1 → zSem (d + 1) mX3_nextRow 7 [some (.ref 41), some (.ref 1), some (.int (iv ((k : Int) - 1)))] [] S1 (zY none (fun S' => RW S' L (nxR (nF L) (nB L) r) ∧ FrI rwP S S')) := by
    intro k
    induction k with
    | zero =>
      intro r1 S1 hk R1 B1 e1 F1
      rw [← e1]
      exact blk_X3_nextRow_7 ⟨fun c => ⟨rfl, R1, F1⟩, fun c => absurd (by decide) c⟩
    | succ k ih =>
      intro r1 S1 hk R1 B1 e1 F1
      have C1 : HoC S1 1 L := hC.frI' F1 (fun r j q => by unfold rwP; omega)
      have b1 := B1 k (by omega)
      have ef : nI (nF L) - 1 = nI (nF L - 1) := by rw [nI_iv, nI_iv, _root_.Jvm.Pilot.CPraisedFieldsLaw_law_r9335_a42203.k1, iv_sub]; congr 1; omega
      rw [show ((k + 1 : Nat) : Int) - 1 = (k : Int) by omega, ← nI_iv]
      refine blk_X3_nextRow_7 ⟨fun c => absurd c (nI_nlt (a := k) (b := 0) (by omega) (by omega)), fun c => ⟨ix_in (by omega) (by omega), ?_⟩⟩
      rw [ix_cl (by omega), C1.gnF hW, ef, R1.2 k (by omega), nI_leiff (by omega) (by omega)]
      refine ⟨fun c2 => ⟨_, ev_place (by omega) hW R1 k 0 (by omega) b1 hF, fun S3 k3 => ?_⟩, fun c2 => ⟨ix_in (by omega) (by omega), ?_⟩⟩
      · rw [nI_iv, km1, iv_add]
        refine ih _ S3 (by omega) k3.1 (fun b hb => ?_) ?_ (F1.tr k3.2)
        · unfold updR; split
          · exact hF
          · exact B1 b hb
        · rw [nxR, if_pos c2] at e1; exact e1
      · rw [nI_1]
        refine ⟨_, ev_place (by omega) hW R1 k (r1 k + 1) (by omega) b1 (by omega), fun S3 k3 => ?_⟩
        rw [nxR, if_neg c2] at e1
        rw [← e1]
        exact ⟨rfl, k3.1, F1.tr k3.2⟩
  exact key (nB L) r S (Nat.le_refl _) h hr rfl (FrI.rf _ _)
