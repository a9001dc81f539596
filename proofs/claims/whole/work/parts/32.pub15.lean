/-! ask: the guesses -/
def cnt (s : Nat → Bool) : Nat → Nat
  | 0 => 0
  | k + 1 => if s k = true then cnt s k + 1 else cnt s k
theorem cnt_le {s : Nat → Bool} : ∀ k, cnt s k ≤ k
  | 0 => Nat.le_refl _
  | k + 1 => by have := cnt_le (s := s) k; rw [cnt]; split <;> omega
theorem cnt_mono {s : Nat → Bool} {a : Nat} : ∀ b, a ≤ b → cnt s a ≤ cnt s b
  | 0, h => by obtain rfl : a = 0 := by omega
               exact Nat.le_refl _
  | b + 1, h => by
    by_cases q : a = b + 1
    · subst q; exact Nat.le_refl _
    · have := cnt_mono (s := s) b (show a ≤ b by omega); rw [cnt.eq_2]; split <;> omega
theorem cnt_lt {s : Nat → Bool} {a b : Nat} (h : a < b) (hs : s a = true) : cnt s a < cnt s b := by
  have := cnt_mono (s := s) (a := a + 1) b (by omega)
  rw [cnt, if_pos hs] at this
  omega
def en (s : Nat → Bool) : Nat → Nat → Nat
  | 0, _ => 0
  | k + 1, i => if s k = true ∧ cnt s k = i then k else en s k i
theorem en_at {s : Nat → Bool} {b : Nat} (hs : s b = true) : ∀ k, b < k → en s k (cnt s b) = b
  | 0, h => absurd h (by omega)
  | k + 1, h => by
    rw [en]
    by_cases q : b = k
    · subst q; rw [if_pos ⟨hs, rfl⟩]
    · have := cnt_lt (s := s) (a := b) (b := k) (by omega) hs
      rw [if_neg (by omega)]
      exact en_at hs k (by omega)
theorem en_lt {s : Nat → Bool} : ∀ k i, 0 < k → en s k i < k
  | 0, _, h => absurd h (by omega)
  | k + 1, i, _ => by
    rw [en]; split
    · omega
    · by_cases q : k = 0
      · subst q; rw [en]; omega
      · have := en_lt (s := s) k i (by omega); omega
def guP : Nat → Nat → Prop := fun k _ => 50 ≤ k ∧ k ≤ 52
theorem gu_cls : ∀ k j, guP k j → clsP k j := fun k j h => by unfold guP at h; unfold clsP; omega
def ce (E : Nat → Int) (i : Nat) : Nat → Nat
  | 0 => 0
  | j + 1 => if E j = E i then ce E i j + 1 else ce E i j
theorem ce_le {E : Nat → Int} {i : Nat} : ∀ j, ce E i j ≤ j
  | 0 => Nat.le_refl _
  | j + 1 => by have := ce_le (E := E) (i := i) j; rw [ce]; split <;> omega
def lg (E : Nat → Int) (N : Nat) : Nat → Nat
  | 0 => 0
  | i + 1 => if ce E i N ≤ lg E N i then lg E N i else ce E i N
theorem lg_le {E : Nat → Int} {N : Nat} : ∀ i, lg E N i ≤ N
  | 0 => Nat.zero_le _
  | i + 1 => by have := lg_le (E := E) (N := N) i; have := ce_le (E := E) (i := i) N; rw [lg]; split <;> omega
def asF (G : Nat → Nat) (N : Nat) : Nat → Nat × Int32
  | 0 => (N, -4)
  | t + 1 => if (asF G N t).1 ≤ G t then asF G N t else (G t, nI t)
theorem asF_le {G : Nat → Nat} {N : Nat} : ∀ t, (asF G N t).1 ≤ N
  | 0 => Nat.le_refl _
  | t + 1 => by have := asF_le (G := G) (N := N) t; rw [asF]; split <;> (try exact this); show G t ≤ N; omega
def asR (s : Nat × Int32) (what : Int32) : Int32 := if s.2 = -4 then -4 else if what = 0 then s.2 else nI s.1
/-- the guesses behind t weeks -/
def GS (S : ZSt) (N : Nat) (e : Nat → Nat) (k e0 h : Int) (t : Nat) : Prop := gI S 50 2 = nI N ∧ ∀ i, i < N → gI S 51 i = iv (eB k e0 (e i) h t) ∧ gI S 52 i = iv (bB k (e i) h t)
theorem ev_begin {d : Nat} (S : ZSt) (s : Nat → Bool) (k e0 h : Int) : zEv d mX0_begin [.ref 50, .int (orS s 10), .int (iv e0)] S (zY none (fun S' => GS S' (cnt s 10) (en s 10) k e0 h 0 ∧ FrI guP S S')) := by
  refine zEv.of cw_X0_begin (Nat.le_of_ble_eq_true rfl) rfl (blk_X0_begin_0 (fun S1 e1 => ?_))
  have key : ∀ (m j : Nat) (S1 : ZSt), j + m = 10 → gI S1 50 2 = nI (cnt s j) → (∀ i, i < cnt s j → gI S1 51 i = iv e0 ∧ gI S1 52 i = nI (en s 10 i)) → FrI guP S S1 → zSem d mX0_begin 7 [some (.ref 50), some (.int (orS s 10)), some (.int (iv e0)), some (.int (nI j))] [] S1 (zY none (fun S' => GS S' (cnt s 10) (en s 10) k e0 h 0 ∧ FrI guP S S')) := by
    intro m
    induction m with
    | zero =>
      intro j S1 hj g1 g2 f1
      obtain rfl : j = 10 := by omega
      refine blk_X0_begin_7 ⟨fun q => ⟨rfl, ⟨g1, fun i hi => ?_⟩, f1⟩, fun q => absurd (nI_lt (a := 9) (b := 10) (by omega) (by omega)) q⟩
      have := g2 i hi
      rw [nI_iv] at this
      exact this
    | succ m ih =>
      intro j S1 hjm g1 g2 f1
      have hj : j < 10 := by omega
      have ob := orS_bit (s := s) j (by omega) 10 (by omega)
      rw [decide_eq_true hj, Bool.true_and] at ob
      have cl := cnt_le (s := s) j
      refine blk_X0_begin_7 ⟨fun q => absurd q (nI_nlt (a := 9) (b := j) (by omega) (by omega)), fun q => ?_⟩
      rw [bit_test j hj, ob, nI_1]
      refine ⟨fun q2 => ?_, fun q2 => ?_⟩
      · have ec : cnt s (j + 1) = cnt s j := by rw [cnt, q2, if_neg (by decide)]
        exact ih (j + 1) S1 (by omega) (by rw [ec]; exact g1) (by rw [ec]; exact g2) f1
      · have sj : s j = true := by cases e : s j with
          | true => rfl
          | false => exact absurd e q2
        have ec : cnt s (j + 1) = cnt s j + 1 := by rw [cnt, if_pos sj]
        rw [g1, ix_cl (by omega)]
        refine ⟨ix_in (by omega) (by omega), fun S3 e3 => ?_⟩
        have g3 : gI S3 50 2 = nI (cnt s j) := by rw [e3, gI_pI, if_neg (by omega)]; exact g1
        rw [g3, ix_cl (by omega)]
        refine ⟨ix_in (by omega) (by omega), fun S4 e4 S5 e5 => ?_⟩
        have g4 : gI S4 50 2 = nI (cnt s j) := by rw [e4, gI_pI, if_neg (by omega)]; exact g3
        refine ih (j + 1) S5 (by omega) ?_ ?_ ?_
        · rw [e5, gI_pI, if_pos ⟨rfl, rfl⟩, g4, nI_1, ec]
        · intro i hi
          rw [ec] at hi
          rw [e5, gI_pI, if_neg (by omega), gI_pI, if_neg (by omega), e4, gI_pI, if_neg (by omega), gI_pI, e3, gI_pI, gI_pI, if_neg (show ¬ (52 = 51 ∧ i = cnt s j) by omega)]
          by_cases q3 : i = cnt s j
          · subst q3
            rw [if_pos ⟨rfl, rfl⟩, if_pos ⟨rfl, rfl⟩, en_at sj 10 hj]
            exact ⟨rfl, rfl⟩
          · rw [if_neg (by omega), if_neg (by omega)]
            exact g2 i (by omega)
        · rw [e5, e4, e3]
          exact ((f1.pI _ (by unfold guP; omega)).pI _ (by unfold guP; omega)).pI _ (by unfold guP; omega)
  refine key 10 0 S1 (by omega) ?_ (fun i hi => absurd hi (by rw [cnt]; omega)) ?_
  · rw [e1, gI_pI, if_pos ⟨rfl, rfl⟩]; rfl
  · rw [e1]; exact (FrI.rf _ _).pI _ (by unfold guP; omega)
theorem ev_passWeekG {d : Nat} (hdp : 2 ≤ d) {S : ZSt} {N : Nat} {e : Nat → Nat} {k e0 h : Int} {t : Nat} (hG : GS S N e k e0 h t) (hN : N ≤ 10) (hk : 0 ≤ k ∧ k ≤ 3) (he : 0 ≤ e0 ∧ e0 ≤ 99) (hh : 0 ≤ h ∧ h ≤ 36) (hb : ∀ i, i < N → e i ≤ 9) : zEv d mX0_passWeek [.ref 50, .int (iv k), .int (iv h)] S (zY none (fun S' => GS S' N e k e0 h (t + 1) ∧ FrI guP S S')) := by
  obtain ⟨d, rfl⟩ : ∃ d', d = d' + 1 := ⟨d - 1, by omega⟩
  refine zEv.of cw_X0_passWeek (Nat.le_of_ble_eq_true rfl) rfl (blk_X0_passWeek_0 ?_)
  have key : ∀ (m j : Nat) (S1 : ZSt), j + m = N → gI S1 50 2 = nI N → (∀ i, j ≤ i → i < N → gI S1 51 i = iv (eB k e0 (e i) h t) ∧ gI S1 52 i = iv (bB k (e i) h t)) → (∀ i, i < j → gI S1 51 i = iv (eB k e0 (e i) h (t + 1)) ∧ gI S1 52 i = iv (bB k (e i) h (t + 1))) → FrI guP S S1 → zSem (d + 1) mX0_passWeek 2 [some (.ref 50), some (.int (iv k)), some (.int (iv h)), some (.int (nI j))] [] S1 (zY none (fun S' => GS S' N e k e0 h (t + 1) ∧ FrI guP S S')) := by
    intro m
    induction m with
    | zero =>
      intro j S1 hj g1 g2 g3 f1
      obtain rfl : j = N := by omega
      exact blk_X0_passWeek_2 ⟨fun q => ⟨rfl, ⟨g1, g3⟩, f1⟩, fun q => absurd (by rw [g1]; exact nI_le (by omega) (by omega)) q⟩
    | succ m ih =>
      intro j S1 hjm g1 g2 g3 f1
      have hj : j < N := by omega
      have a := g2 j (Nat.le_refl _) hj
      have ein := eB_in (k := k) (b := (e j : Int)) (h := h) he t
      have bin : 0 ≤ bB k (e j : Int) h t ∧ bB k (e j : Int) h t ≤ 9 := bB_in (by have := hb j hj; omega) t
      refine blk_X0_passWeek_2 ⟨fun q => absurd q (by rw [g1]; exact nI_ge (by omega) (by omega)), fun q => ?_⟩
      rw [ix_cl (by omega), a.1, a.2]
      refine ⟨ix_in (by omega) (by omega), ix_in (by omega) (by omega), _, S1, ev_earsNext (by omega) S1 k _ _ h (by unfold sm; omega) (by omega) (by omega) (by omega), ix_in (by omega) (by omega), ix_in (by omega) (by omega), ?_⟩
      rw [gI_pI, if_neg (by omega), a.2]
      refine ⟨_, _, ev_blightNext (by omega) _ k _ h (by unfold sm; omega) bin (by unfold sm; omega), ix_in (by omega) (by omega), ?_⟩
      rw [nI_1]
      refine ih (j + 1) _ (by omega) ?_ ?_ ?_ ((f1.pI _ (by unfold guP; omega)).pI _ (by unfold guP; omega))
      · rw [gI_pI, if_neg (by omega), gI_pI, if_neg (by omega)]; exact g1
      · intro i h1 h2
        rw [gI_pI, if_neg (by omega), gI_pI, if_neg (by omega), gI_pI, if_neg (by omega), gI_pI, if_neg (by omega)]
        exact g2 i (by omega) h2
      · intro i hi
        by_cases q3 : i = j
        · subst q3
          rw [gI_pI, if_neg (by omega), gI_pI, if_pos ⟨rfl, rfl⟩, gI_pI, if_pos ⟨rfl, rfl⟩, eB_succ, bB_succ]
          exact ⟨rfl, rfl⟩
        · rw [gI_pI, if_neg (by omega), gI_pI, if_neg (by omega), gI_pI, if_neg (by omega), gI_pI, if_neg (by omega)]
          exact g3 i (by omega)
  exact key N 0 S (by omega) hG.1 (fun i _ hi => hG.2 i hi) (fun i hi => absurd hi (by omega)) (FrI.rf _ _)
theorem nI_leiff {a b : Nat} (ha : a < 1000000) (hb : b < 1000000) : nI a ≤ nI b ↔ a ≤ b := by rw [nI_iv, nI_iv, iv_le (by unfold inB; omega) (by unfold inB; omega)]; omega
theorem nI_ltiff {a b : Nat} (ha : a < 1000000) (hb : b < 1000000) : nI a < nI b ↔ a < b := by rw [nI_iv, nI_iv, iv_lt (by unfold inB; omega) (by unfold inB; omega)]; omega
theorem ev_largestGroup {d : Nat} {S : ZSt} {N : Nat} {E : Nat → Int} (hdp : 1 ≤ d) (hN : N ≤ 10) (g1 : gI S 50 2 = nI N) (g2 : ∀ i, i < N → gI S 51 i = iv (E i) ∧ inB (E i)) : zEv d mX0_largestGroup [.ref 50] S (zX (some (.int (nI (lg E N N)))) S) := by
  obtain ⟨d, rfl⟩ : ∃ d', d = d' + 1 := ⟨d - 1, by omega⟩
  refine zEv.of cw_X0_largestGroup (Nat.le_of_ble_eq_true rfl) rfl (blk_X0_largestGroup_0 ?_)
  have key : ∀ (m i : Nat), i + m = N → zSem (d + 1) mX0_largestGroup 4 [some (.ref 50), some (.int (nI (lg E N i))), some (.int (nI i)), none, none] [] S (zX (some (.int (nI (lg E N N)))) S) := by
    intro m
    induction m with
    | zero =>
      intro i hi
      obtain rfl : i = N := by omega
      exact blk_X0_largestGroup_4 ⟨fun q => ⟨rfl, rfl⟩, fun q => absurd (by rw [g1]; exact nI_le (by omega) (by omega)) q⟩
    | succ m ih =>
      intro i him
      have hi : i < N := by omega
      refine blk_X0_largestGroup_4 ⟨fun q => absurd q (by rw [g1]; exact nI_ge (by omega) (by omega)), fun q => ?_⟩
      have key2 : ∀ (m2 j : Nat), j + m2 = N → zSem (d + 1) mX0_largestGroup 17 [some (.ref 50), some (.int (nI (lg E N i))), some (.int (nI i)), some (.int (nI (ce E i j))), some (.int (nI j))] [] S (zX (some (.int (nI (lg E N N)))) S) := by
        intro m2
        induction m2 with
        | zero =>
          intro j hj
          obtain rfl : j = N := by omega
          have l1 := lg_le (E := E) (N := j) i
          have l2 := ce_le (E := E) (i := i) j
          refine blk_X0_largestGroup_17 ⟨fun q => ?_, fun q => absurd (by rw [g1]; exact nI_le (by omega) (by omega)) q⟩
          have nx := ih (i + 1) (by omega)
          rw [lg] at nx
          rw [nI_1]
          by_cases q2 : ce E i j ≤ lg E j i
          · rw [if_neg (by rw [nI_ltiff (by omega) (by omega)]; omega)]
            rw [if_pos q2] at nx; exact nx
          · rw [if_pos (by rw [nI_ltiff (by omega) (by omega)]; omega)]
            rw [if_neg q2] at nx; exact nx
        | succ m2 ih2 =>
          intro j hjm
          have hj : j < N := by omega
          have nx := ih2 (j + 1) (by omega)
          rw [ce] at nx
          refine blk_X0_largestGroup_17 ⟨fun q => absurd q (by rw [g1]; exact nI_ge (by omega) (by omega)), fun q => ⟨ix_in (by omega) (by omega), ix_in (by omega) (by omega), ?_⟩⟩
          rw [ix_cl (by omega), ix_cl (by omega), (g2 i hi).1, (g2 j hj).1, iv_eq (g2 j hj).2 (g2 i hi).2, nI_1, nI_1]
          refine ⟨fun q2 => ?_, fun q2 => ?_⟩
          · rw [if_neg q2] at nx; exact nx
          · rw [if_pos q2] at nx; exact nx
      exact key2 N 0 (by omega)
  exact key N 0 (by omega)
