theorem vN_2 {tp : Nat → Nat} {s g : Nat} (h : 2 ≤ g) : vN tp s g = vN tp s 2 := by unfold vN; rw [if_neg (by omega), if_neg (by omega), if_neg (by omega), if_neg (by omega)]
theorem dig {a x : Nat} (h : 48 ≤ x ∧ x ≤ 57) (ha : a ≤ 9) : nI a * 10 + (nI x - 48) = nI (a * 10 + (x - 48)) := by
  rw [nI_iv, nI_iv, k10, show (48 : Int32) = iv 48 from rfl, iv_sub, iv_mul, iv_add, nI_iv]
  congr 1
  omega
theorem ev_readNumber {d : Nat} {S : ZSt} {n s g : Nat} {tp : Nat → Nat} (h : TC S n tp) (hw : TW n tp) (h6 : gI S 39 6 = nI s) (hg : s + g ≤ n) (hg0 : 0 < g) (hb : ∀ j, j < g → 48 ≤ tp (s + j) ∧ tp (s + j) ≤ 57) : zEv d mX5_readNumber [.ref 39, .int (nI g)] S (zY none (fun S' => gI S' 39 5 = nI (if g ≤ 2 then 2 else 4) ∧ gI S' 39 7 = nI (vN tp s g) ∧ FrI (fun k j => k = 39 ∧ (j = 5 ∨ j = 7)) S S')) := by
  have h160 := hw.1
  have key : ∀ (m k : Nat) (S1 : ZSt), k + m = (if g ≤ 2 then g else 2) → gI S1 39 5 = nI (if g ≤ 2 then 2 else 4) → gI S1 39 7 = nI (vN tp s k) → FrI (fun k j => k = 39 ∧ (j = 5 ∨ j = 7)) S S1 → zSem d mX5_readNumber 21 [some (.ref 39), some (.int (nI g)), some (.int (nI k))] [] S1 (zY none (fun S' => gI S' 39 5 = nI (if g ≤ 2 then 2 else 4) ∧ gI S' 39 7 = nI (vN tp s g) ∧ FrI (fun k j => k = 39 ∧ (j = 5 ∨ j = 7)) S S')) := by
    intro m
    induction m with
    | zero =>
      intro k S1 hk a5 a7 F1
      by_cases q : g ≤ 2
      · rw [if_pos q] at hk
        obtain rfl : k = g := by omega
        exact blk_X5_readNumber_21 ⟨fun _ => ⟨rfl, a5, a7, F1⟩, fun z => absurd (nI_le (by omega) (by omega)) z⟩
      · rw [if_neg q] at hk
        obtain rfl : k = 2 := by omega
        rw [← vN_2 (g := g) (by omega)] at a7
        exact blk_X5_readNumber_21 ⟨fun z => absurd z (nI_ge (by omega) (by omega)), fun _ => ⟨fun _ => ⟨rfl, a5, a7, F1⟩, fun z => absurd (nI_le (a := 2) (b := 2) (by omega) (by omega)) z⟩⟩
    | succ m ih =>
      intro k S1 hk a5 a7 F1
      have hk2 : k < g ∧ k < 2 := by
        by_cases q : g ≤ 2
        · rw [if_pos q] at hk; omega
        · rw [if_neg q] at hk; omega
      have bb := hb k hk2.1
      have f6 : gI S1 39 6 = nI s := by rw [F1 39 6 (by omega)]; exact h6
      have f40 : gI S1 40 (s + k) = nI (tp (s + k)) := by rw [F1 40 _ (by omega)]; exact h.b (by omega)
      refine blk_X5_readNumber_21 ⟨fun z => absurd z (nI_ge (by omega) (by omega)), fun _ => ⟨fun z => absurd z (nI_ge (a := k) (b := 2) (by omega) (by omega)), fun _ => ?_⟩⟩
      rw [f6, nI_add, ix_cl (by omega), a7, f40, nI_1]
      refine ⟨ix_in (by omega) (by omega), fun S3 e3 => ih (k + 1) S3 (by omega) ?_ ?_ ?_⟩
      · rw [e3, gI_pI, if_neg (by omega)]; exact a5
      · rw [e3, gI_pI, if_pos ⟨rfl, rfl⟩]
        rcases (show k = 0 ∨ k = 1 by omega) with rfl | rfl
        · rw [dig bb (by unfold vN; rw [if_pos rfl]; omega)]; unfold vN; rw [if_pos rfl, if_neg (by omega), if_pos rfl, Nat.add_zero]; congr 1; omega
        · have b0 := hb 0 (by omega)
          rw [Nat.add_zero] at b0
          rw [dig bb (by unfold vN; rw [if_neg (by omega), if_pos rfl]; omega)]; unfold vN; rw [if_neg (by omega), if_pos rfl, if_neg (by omega), if_neg (by omega)]
      · rw [e3]; exact F1.pI _ (by omega)
  refine zEv.of cw_X5_readNumber (Nat.le_of_ble_eq_true rfl) rfl (blk_X5_readNumber_0 ⟨fun z S2 e2 S3 e3 => ?_, fun z S4 e4 S5 e5 => ?_⟩)
  · have z := (nI_ltiff (a := 2) (b := g) (by omega) (by omega)).mp z
    refine key 2 0 S3 (by rw [if_neg (by omega)]) ?_ ?_ ?_
    · rw [e3, gI_pI, if_neg (by omega), e2, gI_pI, if_pos ⟨rfl, rfl⟩, if_neg (by omega)]; rfl
    · rw [e3, gI_pI, if_pos ⟨rfl, rfl⟩]; rfl
    · rw [e3, e2]; exact ((FrI.rf _ _).pI _ (by omega)).pI _ (by omega)
  · have z : ¬ 2 < g := fun y => z (nI_lt (a := 2) (b := g) y (by omega))
    refine key g 0 S5 (by rw [if_pos (by omega)]; omega) ?_ ?_ ?_
    · rw [e5, gI_pI, if_neg (by omega), e4, gI_pI, if_pos ⟨rfl, rfl⟩, if_pos (by omega)]; rfl
    · rw [e5, gI_pI, if_pos ⟨rfl, rfl⟩]; rfl
    · rw [e5, e4]; exact ((FrI.rf _ _).pI _ (by omega)).pI _ (by omega)
/-- behind nextToken from the place p -/
def ntP : Nat → Nat → Prop := fun k j => k = 39 ∧ 4 ≤ j ∧ j ≤ 7
def NT (S : ZSt) (n : Nat) (tp : Nat → Nat) (p : Nat) : ZSt → Prop := fun S' => gI S' 39 4 = nI (tE tp n p) ∧ gI S' 39 5 = nI (tK tp n p) ∧ gI S' 39 6 = nI (sk tp n p) ∧ (tK tp n p = 2 → gI S' 39 7 = nI (tV tp n p)) ∧ (tK tp n p ≠ 2 → tK tp n p ≠ 4 → gI S' 39 7 = gI S 39 7) ∧ FrI ntP S S'
theorem nt_add {s g : Nat} (h : 0 < g) (hs : s < 1000) (hg : g < 1000) : nI s + (if (1 : Int32) < nI g then nI g else 1) = nI (s + g) := by
  by_cases q : (1 : Int32) < nI g
  · rw [if_pos q, nI_add]
  · rw [if_neg q]
    have : ¬ 1 < g := fun z => q (nI_lt (a := 1) (b := g) z (by omega))
    obtain rfl : g = 1 := by omega
    exact nI_1 s
theorem nt_tail {d : Nat} {S0 S : ZSt} {n p s : Nat} {tp : Nat → Nat} (h : TC S n tp) (hw : TW n tp) (hs : gI S 39 4 = nI s) (hsn : s ≤ n) (es : sk tp n p = s) (F : FrI ntP S0 S) (h7 : gI S 39 7 = gI S0 39 7) :
    (∀ S2 : ZSt, S2 = (pI S 39 6 (gI S 39 4)) → (((gI S2 39 4) < (gI S2 39 1) → (∃ (u4 : Int32) (S4 : ZSt), zEv d mX5_stretch [.ref 39, .int 97, .int 122] S2 (zX (some (.int u4)) S4) ∧ (∃ (u5 : Int32) (S5 : ZSt), zEv d mX5_stretch [.ref 39, .int 48, .int 57] S4 (zX (some (.int u5)) S5) ∧ ((u4 ≤ 0 → ((u5 ≤ 0 → (vp_in (gI S5 39 4) 160 ∧ ((¬ (gI S5 40 (gI S5 39 4).toNatClampNeg) = 59 → (∀ S9 : ZSt, S9 = (pI S5 39 5 4) → (∀ S10 : ZSt, S10 = (pI S9 39 4 ((gI S9 39 4) + (if 1 < (u4 + u5) then (u4 + u5) else 1))) → zY none (NT S0 n tp p) none S10))) ∧ ((gI S5 40 (gI S5 39 4).toNatClampNeg) = 59 → (∀ S11 : ZSt, S11 = (pI S5 39 5 3) → (∀ S12 : ZSt, S12 = (pI S11 39 4 ((gI S11 39 4) + (if 1 < (u4 + u5) then (u4 + u5) else 1))) → zY none (NT S0 n tp p) none S12)))))) ∧ (¬ u5 ≤ 0 → (∃ P13 : ZSt → Prop, zEv d mX5_readNumber [.ref 39, .int u5] S5 (zY none P13) ∧ ∀ S13 : ZSt, P13 S13 → (∀ S14 : ZSt, S14 = (pI S13 39 4 ((gI S13 39 4) + (if 1 < (u4 + u5) then (u4 + u5) else 1))) → zY none (NT S0 n tp p) none S14))))) ∧ (¬ u4 ≤ 0 → (∀ S15 : ZSt, S15 = (pI S5 39 5 1) → (∀ S16 : ZSt, S16 = (pI S15 39 4 ((gI S15 39 4) + (if 1 < (u4 + u5) then (u4 + u5) else 1))) → zY none (NT S0 n tp p) none S16))))))) ∧ (¬ (gI S2 39 4) < (gI S2 39 1) → (∀ S17 : ZSt, S17 = (pI S2 39 5 0) → zY none (NT S0 n tp p) none S17)))) := by
  have h160 := hw.1
  intro S2 e2
  have F2 : FrI ntP S0 S2 := by rw [e2]; exact F.pI _ (by unfold ntP; omega)
  have h2 : TC S2 n tp := h.fr (P := fun k j => k = 39 ∧ j = 6) (by rw [e2]; exact (FrI.rf _ _).pI _ ⟨rfl, rfl⟩) (by omega) (fun j => by omega)
  have a4 : gI S2 39 4 = nI s := by rw [e2, gI_pI, if_neg (by omega)]; exact hs
  have a6 : gI S2 39 6 = nI s := by rw [e2, gI_pI, if_pos ⟨rfl, rfl⟩]; exact hs
  have a7 : gI S2 39 7 = gI S0 39 7 := by rw [e2, gI_pI, if_neg (by omega)]; exact h7
  have el : lt_ tp n p = rn 97 122 tp n s := by unfold lt_; rw [es]
  have eg : fg_ tp n p = rn 48 57 tp n s := by unfold fg_; rw [es]
  rw [a4, h2.1]
  refine ⟨fun q => ?_, fun q S17 e17 => ?_⟩
  · have q := (nI_ltiff (by omega) (by omega)).mp q
    have lin := rn_in (lo := 97) (hi := 122) (tp := tp) hsn
    have gin := rn_in (lo := 48) (hi := 57) (tp := tp) hsn
    refine ⟨_, S2, ev_stretch (lo := 97) (hi := 122) h2 hw a4 hsn (by omega) (by omega), _, S2, ev_stretch (lo := 48) (hi := 57) h2 hw a4 hsn (by omega) (by omega), fun q1 => ⟨fun q2 => ?_, fun q2 => ?_⟩, fun q1 S15 e15 S16 e16 => ?_⟩
    · have z1 : lt_ tp n p = 0 := by rw [el]; have := (nI_leiff (a := rn 97 122 tp n s) (b := 0) (by omega) (by omega)).mp q1; omega
      have z2 : fg_ tp n p = 0 := by rw [eg]; have := (nI_leiff (a := rn 48 57 tp n s) (b := 0) (by omega) (by omega)).mp q2; omega
      have eE : tE tp n p = s + 1 := by unfold tE; rw [es, if_neg (by omega), if_neg (by omega), if_neg (by omega)]
      rw [a4, ix_cl (by omega), h2.b q, ← el, ← eg, z1, z2]
      refine ⟨ix_in (by omega) (by omega), fun q3 S9 e9 S10 e10 => ?_, fun q3 S11 e11 S12 e12 => ?_⟩
      · have q3 : ¬ tp s = 59 := fun y => q3 (by rw [y]; rfl)
        have eK : tK tp n p = 4 := by unfold tK; rw [es, if_neg (by omega), if_neg (by omega), if_neg (by omega), if_neg q3]
        have g4 : gI S9 39 4 = nI s := by rw [e9, gI_pI, if_neg (by omega)]; exact a4
        rw [g4] at e10
        refine ⟨rfl, ?_, ?_, ?_, fun y => by omega, fun _ y => absurd eK y, ?_⟩
        · rw [e10, gI_pI, if_pos ⟨rfl, rfl⟩, eE]; exact nI_1 s
        · rw [e10, gI_pI, if_neg (by omega), e9, gI_pI, if_pos ⟨rfl, rfl⟩, eK]; rfl
        · rw [e10, gI_pI, if_neg (by omega), e9, gI_pI, if_neg (by omega), es]; exact a6
        · rw [e10, e9]; exact (F2.pI _ (by unfold ntP; omega)).pI _ (by unfold ntP; omega)
      · have q3 : tp s = 59 := (nI_eq (b := 59) (by have := hw.2 s q; omega) (by omega)).mp q3
        have eK : tK tp n p = 3 := by unfold tK; rw [es, if_neg (by omega), if_neg (by omega), if_neg (by omega), if_pos q3]
        have g4 : gI S11 39 4 = nI s := by rw [e11, gI_pI, if_neg (by omega)]; exact a4
        rw [g4] at e12
        refine ⟨rfl, ?_, ?_, ?_, fun y => by omega, fun _ _ => ?_, ?_⟩
        · rw [e12, gI_pI, if_pos ⟨rfl, rfl⟩, eE]; exact nI_1 s
        · rw [e12, gI_pI, if_neg (by omega), e11, gI_pI, if_pos ⟨rfl, rfl⟩, eK]; rfl
        · rw [e12, gI_pI, if_neg (by omega), e11, gI_pI, if_neg (by omega), es]; exact a6
        · rw [e12, gI_pI, if_neg (by omega), e11, gI_pI, if_neg (by omega)]; exact a7
        · rw [e12, e11]; exact (F2.pI _ (by unfold ntP; omega)).pI _ (by unfold ntP; omega)
    · have z1 : lt_ tp n p = 0 := by rw [el]; have := (nI_leiff (a := rn 97 122 tp n s) (b := 0) (by omega) (by omega)).mp q1; omega
      have z2 : 0 < fg_ tp n p := by rw [eg]; rcases Nat.eq_zero_or_pos (rn 48 57 tp n s) with y | y; exact absurd (by rw [y]; exact nI_le (a := 0) (b := 0) (by omega) (by omega)) q2; exact y
      have eE : tE tp n p = s + fg_ tp n p := by unfold tE; rw [es, if_neg (by omega), if_neg (by omega), if_pos z2]
      have eK : tK tp n p = if fg_ tp n p ≤ 2 then 2 else 4 := by unfold tK; rw [es, if_neg (by omega), if_neg (by omega), if_pos z2]
      have eV : tV tp n p = vN tp s (fg_ tp n p) := by unfold tV; rw [es]
      rw [← el, ← eg, z1, show nI 0 + nI (fg_ tp n p) = nI (fg_ tp n p) by rw [nI_add, Nat.zero_add]]
      refine ⟨_, ev_readNumber h2 hw a6 (by omega) z2 (fun j hj => (rn_each j s (by rw [← eg]; exact hj)).2), fun S13 k13 S14 e14 => ?_⟩
      obtain ⟨k5, k7, kF⟩ := k13
      have g4 : gI S13 39 4 = nI s := by rw [kF 39 4 (by omega)]; exact a4
      rw [g4, nt_add z2 (by omega) (by omega)] at e14
      refine ⟨rfl, ?_, ?_, ?_, fun y => ?_, fun y1 y2 => ?_, ?_⟩
      · rw [e14, gI_pI, if_pos ⟨rfl, rfl⟩, eE]
      · rw [e14, gI_pI, if_neg (by omega), k5, eK]
      · rw [e14, gI_pI, if_neg (by omega), kF 39 6 (by omega), es]; exact a6
      · rw [e14, gI_pI, if_neg (by omega), k7, eV]
      · rw [eK] at y1 y2
        by_cases y : fg_ tp n p ≤ 2
        · rw [if_pos y] at y1; exact absurd rfl y1
        · rw [if_neg y] at y2; exact absurd rfl y2
      · rw [e14]; exact (F2.tr (kF.mono (fun k j z => by unfold ntP; omega))).pI _ (by unfold ntP; omega)
    · have z1 : 0 < lt_ tp n p := by rw [el]; rcases Nat.eq_zero_or_pos (rn 97 122 tp n s) with y | y; exact absurd (by rw [y]; exact nI_le (a := 0) (b := 0) (by omega) (by omega)) q1; exact y
      have z2 := lt_fg z1
      have eE : tE tp n p = s + lt_ tp n p := by unfold tE; rw [es, if_neg (by omega), if_pos z1]
      have eK : tK tp n p = 1 := by unfold tK; rw [es, if_neg (by omega), if_pos z1]
      have g4 : gI S15 39 4 = nI s := by rw [e15, gI_pI, if_neg (by omega)]; exact a4
      rw [g4, ← el, ← eg, z2, show nI (lt_ tp n p) + nI 0 = nI (lt_ tp n p) by rw [nI_add, Nat.add_zero], nt_add z1 (by omega) (by omega)] at e16
      refine ⟨rfl, ?_, ?_, ?_, fun y => by omega, fun _ _ => ?_, ?_⟩
      · rw [e16, gI_pI, if_pos ⟨rfl, rfl⟩, eE]
      · rw [e16, gI_pI, if_neg (by omega), e15, gI_pI, if_pos ⟨rfl, rfl⟩, eK]; rfl
      · rw [e16, gI_pI, if_neg (by omega), e15, gI_pI, if_neg (by omega), es]; exact a6
      · rw [e16, gI_pI, if_neg (by omega), e15, gI_pI, if_neg (by omega)]; exact a7
      · rw [e16, e15]; exact (F2.pI _ (by unfold ntP; omega)).pI _ (by unfold ntP; omega)
  · have q : ¬ s < n := fun y => q (nI_lt y (by omega))
    have eE : tE tp n p = s := by unfold tE; rw [es, if_pos (by omega)]
    have eK : tK tp n p = 0 := by unfold tK; rw [es, if_pos (by omega)]
    refine ⟨rfl, ?_, ?_, ?_, fun y => by omega, fun _ _ => ?_, ?_⟩
    · rw [e17, gI_pI, if_neg (by omega), eE]; exact a4
    · rw [e17, gI_pI, if_pos ⟨rfl, rfl⟩, eK]; rfl
    · rw [e17, gI_pI, if_neg (by omega), es]; exact a6
    · rw [e17, gI_pI, if_neg (by omega)]; exact a7
    · rw [e17]; exact F2.pI _ (by unfold ntP; omega)
theorem ev_nextToken {d : Nat} (hd : 1 ≤ d) {S : ZSt} {n p : Nat} {tp : Nat → Nat} (h : TC S n tp) (hw : TW n tp) (hp : gI S 39 4 = nI p) (hpn : p ≤ n) : zEv d mX5_nextToken [.ref 39] S (zY none (NT S n tp p)) := by
  obtain ⟨d, rfl⟩ : ∃ d', d = d' + 1 := ⟨d - 1, by omega⟩
  have h160 := hw.1
  refine zEv.of cw_X5_nextToken (Nat.le_of_ble_eq_true rfl) rfl ?_
  have key : ∀ (m q : Nat) (S1 : ZSt), n - q = m → q ≤ n → sk tp n q = sk tp n p → TC S1 n tp → gI S1 39 4 = nI q → gI S1 39 7 = gI S 39 7 → FrI ntP S S1 → zSem (d + 1) mX5_nextToken 0 [some (.ref 39), none, none] [] S1 (zY none (NT S n tp p)) := by
    intro m
    induction m with
    | zero =>
      intro q S1 hm hq es h1 h4 h7 F1
      have e1 : sk tp n p = q := by rw [← es]; exact sk_ns (by omega)
      have tl := nt_tail (d := d) h1 hw h4 hq e1 F1 h7
      refine blk_X5_nextToken_0 ⟨fun _ => tl, fun z => absurd (by rw [h1.1, h4]; exact nI_le (by omega) (by omega)) z⟩
    | succ m ih =>
      intro q S1 hm hq es h1 h4 h7 F1
      have b127 := hw.2 q (by omega)
      refine blk_X5_nextToken_0 ⟨fun z => absurd z (by rw [h1.1, h4]; exact nI_ge (by omega) (by omega)), fun _ => ⟨by rw [h4]; exact ix_in (by omega) (by omega), fun z => ?_, fun z S35 e35 => ?_⟩⟩
      · rw [h4, ix_cl (by omega), h1.b (by omega)] at z
        have e1 : sk tp n p = q := by rw [← es]; exact sk_ns (fun y => z (by rw [y.2]; rfl))
        exact nt_tail (d := d) h1 hw h4 hq e1 F1 h7
      · rw [h4, ix_cl (by omega), h1.b (by omega)] at z
        rw [h4, nI_1] at e35
        have z : tp q = 32 := (nI_eq (b := 32) (by omega) (by omega)).mp z
        refine ih (q + 1) S35 (by omega) (by omega) (by rw [← es]; exact (sk_sp ⟨by omega, z⟩).symm) ?_ ?_ ?_ ?_
        · exact h1.fr (P := fun k j => k = 39 ∧ j = 4) (by rw [e35]; exact (FrI.rf _ _).pI _ ⟨rfl, rfl⟩) (by omega) (fun j => by omega)
        · rw [e35, gI_pI, if_pos ⟨rfl, rfl⟩]
        · rw [e35, gI_pI, if_neg (by omega)]; exact h7
        · rw [e35]; exact F1.pI _ (by unfold ntP; omega)
  exact key (n - p) p S rfl hpn rfl h hp rfl (FrI.rf _ _)
