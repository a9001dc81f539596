theorem ev_hailWeek {d : Nat} {S : ZSt} {L : Lnd} (hW : WF L) {f v i : Nat} (hf : f < nF L) (hi : i < 8) (h : PtC S L f v i) : zEv (d + 2) mX1_passWeek [.ref 46, .int (iv (L 1 f)), .int (iv (hdL L f))] S (zY none (fun S' => HlC S' L f v (i + 1) ∧ FrI hlP S S')) := by
  refine zEv.of cw_X1_passWeek (Nat.le_of_ble_eq_true rfl) rfl (blk_X1_passWeek_0 ?_)
  have hp := p2_le hi
  obtain ⟨P, eP⟩ : ∃ P, P = 2 ^ (i + 1) := ⟨_, rfl⟩
  have e2 : P = 2 * 2 ^ i := by rw [eP, Nat.pow_succ]; omega
  have w := hW.f hf
  have hh := hdL_in hW f
  unfold PtC at h
  unfold HlC
  rw [← eP] at h ⊢
  have key : ∀ (m q : Nat) (S1 : ZSt), q + m = P → gI S1 46 3 = nI P → (∀ j, j < P → gL S1 49 j = lN (wtN v (Nat.testBit j) (i + 1))) → (∀ j, j < P → q ≤ j → gI S1 47 j = iv (wyL L f j i).1 ∧ gI S1 48 j = iv (hbt (Nat.testBit j i) (wyL L f j i).2)) → (∀ j, j < q → gI S1 47 j = iv (wyL L f j (i + 1)).1 ∧ gI S1 48 j = iv (wyL L f j (i + 1)).2) → FrI hlP S S1 → zSem (d + 2) mX1_passWeek 2 [some (.ref 46), some (.int (iv (L 1 f))), some (.int (iv (hdL L f))), some (.int (nI q))] [] S1 (zY none (fun S' => (gI S' 46 3 = nI P ∧ ∀ j, j < P → gI S' 47 j = iv (wyL L f j (i + 1)).1 ∧ gI S' 48 j = iv (wyL L f j (i + 1)).2 ∧ gL S' 49 j = lN (wtN v (Nat.testBit j) (i + 1))) ∧ FrI hlP S S')) := by
    intro m
    induction m with
    | zero =>
      intro q S1 hq g1 gl lo up F1
      obtain rfl : q = P := by omega
      refine blk_X1_passWeek_2 ?_
      rw [g1]
      exact ⟨fun _ => ⟨rfl, ⟨g1, fun j hj => ⟨(up j hj).1, (up j hj).2, gl j hj⟩⟩, F1⟩, fun z => absurd (nI_le (by omega) (by omega)) z⟩
    | succ m ih =>
      intro q S1 hq g1 gl lo up F1
      obtain ⟨a1, a2⟩ := lo q (by omega) (Nat.le_refl _)
      have wi := wyL_in hW hf q i
      have bi := hbt_in (t := Nat.testBit q i) wi.2
      refine blk_X1_passWeek_2 ?_
      rw [g1]
      refine ⟨fun z => absurd z (nI_ge (by omega) (by omega)), fun _ => ?_⟩
      rw [ix_cl (by omega), a1, a2, nI_1]
      refine ⟨ix_in (by omega) (by omega), ix_in (by omega) (by omega), _, S1, ev_earsNext (by omega) S1 _ _ _ _ (by unfold sm; omega) (by omega) (by omega) (by omega), ix_in (by omega) (by omega), ix_in (by omega) (by omega), ?_⟩
      rw [gI_pI, if_neg (by omega), a2]
      refine ⟨_, _, ev_blightNext (by omega) _ _ _ _ (by unfold sm; omega) bi (by unfold sm; omega), ix_in (by omega) (by omega), ih (q + 1) _ (by omega) ?_ (fun j hj => ?_) (fun j hj hq2 => ?_) (fun j hj => ?_) ?_⟩
      · rw [gI_pI, if_neg (by omega), gI_pI, if_neg (by omega)]; exact g1
      · rw [gL_pI, gL_pI]; exact gl j hj
      · rw [gI_pI, if_neg (by omega), gI_pI, if_neg (by omega), gI_pI, if_neg (by omega), gI_pI, if_neg (by omega)]; exact lo j hj (by omega)
      · by_cases y : j = q
        · rw [y, gI_pI, if_neg (by omega), gI_pI, if_pos ⟨rfl, rfl⟩, gI_pI, if_pos ⟨rfl, rfl⟩]; exact ⟨rfl, rfl⟩
        · rw [gI_pI, if_neg (by omega), gI_pI, if_neg (by omega), gI_pI, if_neg (by omega), gI_pI, if_neg (by omega)]; exact up j (by omega)
      · exact (F1.pI _ (by unfold hlP; omega)).pI _ (by unfold hlP; omega)
  exact key P 0 S (by omega) h.1 (fun j hj => (h.2 j hj).2.2) (fun j hj _ => ⟨(h.2 j hj).1, (h.2 j hj).2.1⟩) (fun j hj => absurd hj (by omega)) (FrI.rf _ _)
theorem ev_fallOn {d : Nat} {S : ZSt} {L : Lnd} (hC : HoC S 1 L) (hW : WF L) (f n v : Nat) (hf : f < nF L) (hn : n ≤ 8) (hv : v ≤ 10) : zEv (d + 3) mX1_fallOn [.ref 46, .ref 1, .int (nI f), .int (nI n), .int (nI v)] S (zY none (fun S' => HlC S' L f v n ∧ FrI hlP S S')) := by
  have hn6 := hW.nF.1
  have w := hW.f hf
  refine zEv.of cw_X1_fallOn (Nat.le_of_ble_eq_true rfl) rfl (blk_X1_fallOn_0 ⟨_, S, ev_heardAtN zLd_1 hC hW f (by omega), ix_in (by omega) (by omega), fun S2 e2 => ⟨ix_in (by omega) (by omega), fun S3 e3 S4 e4 S5 e5 => ?_⟩⟩)
  rw [ix_cl (by omega)] at e2 e3
  have g3 : gI S 3 f = iv (L 2 f) := hC.g (inR_f (r := 2) (by omega) hf)
  have g4 : gI S2 4 f = iv (L 3 f) := by rw [e2, gI_pI, if_neg (by omega)]; exact hC.g (inR_f (r := 3) (by omega) hf)
  have F5 : FrI hlP S S5 := by
    rw [e5, e4, e3, e2]
    exact ((((FrI.rf _ _).pI (k := 47) (j := 0) _ (by unfold hlP; omega)).pI (k := 48) (j := 0) _ (by unfold hlP; omega)).pL (k := 49) (j := 0) (x := 1)).pI (k := 46) (j := 3) _ (by unfold hlP; omega)
  have H5 : HlC S5 L f v 0 := by
    refine ⟨by rw [e5, gI_pI, if_pos ⟨rfl, rfl⟩]; rfl, fun j hj => ?_⟩
    obtain rfl : j = 0 := by rw [Nat.pow_zero] at hj; omega
    refine ⟨?_, ?_, ?_⟩
    · rw [e5, gI_pI, if_neg (by omega), e4, gI_pL, e3, gI_pI, if_neg (by omega), e2, gI_pI, if_pos ⟨rfl, rfl⟩, g3]; rfl
    · rw [e5, gI_pI, if_neg (by omega), e4, gI_pL, e3, gI_pI, if_pos ⟨rfl, rfl⟩, g4]; rfl
    · rw [e5, gL_pI, e4, gL_pL, if_pos ⟨rfl, rfl⟩]; rfl
  have key : ∀ (m i : Nat) (S1 : ZSt), i + m = n → HlC S1 L f v i → FrI hlP S S1 → zSem (d + 3) mX1_fallOn 46 [some (.ref 46), some (.ref 1), some (.int (nI f)), some (.int (nI n)), some (.int (nI v)), some (.int (iv (hdL L f))), some (.int (nI i))] [] S1 (zY none (fun S' => HlC S' L f v n ∧ FrI hlP S S')) := by
    intro m
    induction m with
    | zero =>
      intro i S1 hi h1 F1
      obtain rfl : i = n := by omega
      exact blk_X1_fallOn_46 ⟨fun _ => ⟨rfl, h1, F1⟩, fun z => absurd (nI_le (by omega) (by omega)) z⟩
    | succ m ih =>
      intro i S1 hi h1 F1
      have hp := p2_le (i := i) (by omega)
      refine blk_X1_fallOn_46 ⟨fun z => absurd z (nI_ge (by omega) (by omega)), fun _ => ⟨fun z => ?_, fun _ => ⟨_, ev_part hW hf hv (by omega) h1, fun S3 k3 => ⟨ix_in (by omega) (by omega), ?_⟩⟩⟩⟩
      · rw [h1.1, show (2 : Int32) = nI 2 from rfl, pk_mul] at z
        exact absurd z (nI_nlt (a := 256) (b := 2 * 2 ^ i) (by omega) (by omega))
      · have C3 : HoC S3 1 L := (hC.frB F1 (fun r j q => by unfold hlP; omega)).frB k3.2 (fun r j q => by unfold hlP; omega)
        rw [ix_cl (by omega), C3.g (r := 1) (inR_f (by omega) hf), nI_1]
        exact ⟨_, ev_hailWeek hW hf (by omega) k3.1, fun S4 k4 => ih (i + 1) S4 (by omega) k4.1 ((F1.tr k3.2).tr k4.2)⟩
  exact key n 0 S5 (by omega) H5 F5
/-- sums of numbers -/
def sN (g : Nat → Nat) : Nat → Nat
  | 0 => 0
  | n + 1 => sN g n + g n
theorem sN_le {g : Nat → Nat} {b : Nat} : ∀ n, (∀ j, j < n → g j ≤ b) → sN g n ≤ n * b
  | 0, _ => by simp [sN]
  | n + 1, h => by
    have ih := sN_le n (fun j hj => h j (by omega))
    have := h n (by omega)
    rw [sN, Nat.succ_mul]; omega
theorem sN_congr {g g' : Nat → Nat} : ∀ n, (∀ j, j < n → g j = g' j) → sN g n = sN g' n
  | 0, _ => rfl
  | n + 1, h => by rw [sN, sN, sN_congr n (fun j hj => h j (by omega)), h n (by omega)]
theorem sN_add {g g' : Nat → Nat} : ∀ n, sN (fun j => g j + g' j) n = sN g n + sN g' n
  | 0 => rfl
  | n + 1 => by rw [sN, sN, sN, sN_add n]; omega
theorem sN_mul {c : Nat} {g : Nat → Nat} : ∀ n, c * sN g n = sN (fun j => c * g j) n
  | 0 => rfl
  | n + 1 => by rw [sN, sN, Nat.mul_add, sN_mul n]
theorem sN_swap {g : Nat → Nat → Nat} (m : Nat) : ∀ n, sN (fun j => sN (fun f => g j f) m) n = sN (fun f => sN (fun j => g j f) n) m
  | 0 => by
    show 0 = sN (fun f => 0) m
    have := sN_le (g := fun _ => 0) (b := 0) m (fun _ _ => Nat.le_refl 0)
    omega
  | n + 1 => by
    rw [sN, sN_swap m n, ← sN_add]; rfl
/-- what is full: ears behind n weeks at least w -/
def fulN (L : Lnd) (f v n : Nat) (w : Int) : Nat := sN (fun j => if (wyL L f j n).1 < w then 0 else wtN v (Nat.testBit j) n) (2 ^ n)
def earN (L : Lnd) (f v n : Nat) : Nat := sN (fun j => wtN v (Nat.testBit j) n * (wyL L f j n).1.toNat) (2 ^ n)
theorem p2_le8 {n : Nat} (h : n ≤ 8) : 2 ^ n ≤ 256 := Nat.pow_le_pow_right (n := 2) (by omega) h
theorem ev_weightOf {d : Nat} {S : ZSt} {L : Lnd} (hW : WF L) {f v n : Nat} (hf : f < nF L) (hn : n ≤ 8) (h : HlC S L f v n) (w : Int) (hw : inB w) : zEv d mX1_weightOf [.ref 46, .int (iv w)] S (zX (some (.long (lN (fulN L f v n w)))) S) := by
  refine zEv.of cw_X1_weightOf (Nat.le_of_ble_eq_true rfl) rfl (blk_X1_weightOf_0 ?_)
  have hp := p2_le8 hn
  unfold HlC at h
  unfold fulN
  obtain ⟨P, eP⟩ : ∃ P, P = 2 ^ n := ⟨_, rfl⟩
  rw [← eP] at h hp ⊢
  have key : ∀ (m q : Nat), q + m = P → zSem d mX1_weightOf 5 [some (.ref 46), some (.int (iv w)), some (.long (lN (sN (fun j => if (wyL L f j n).1 < w then 0 else wtN v (Nat.testBit j) n) q))), none, some (.int (nI q))] [] S (zX (some (.long (lN (sN (fun j => if (wyL L f j n).1 < w then 0 else wtN v (Nat.testBit j) n) P)))) S) := by
    intro m
    induction m with
    | zero =>
      intro q hq
      obtain rfl : q = P := by omega
      refine blk_X1_weightOf_5 ?_
      rw [h.1]
      exact ⟨fun _ => ⟨rfl, rfl⟩, fun z => absurd (nI_le (by omega) (by omega)) z⟩
    | succ m ih =>
      intro q hq
      have wi := wyL_in hW hf q n
      have nx := ih (q + 1) (by omega)
      rw [sN] at nx
      refine blk_X1_weightOf_5 ?_
      rw [h.1, ix_cl (by omega), (h.2 q (by omega)).1, (h.2 q (by omega)).2.2, nI_1, lN_add]
      refine ⟨fun z => absurd z (nI_ge (by omega) (by omega)), fun _ => ⟨ix_in (by omega) (by omega), fun z => ?_, fun z => ⟨ix_in (by omega) (by omega), ?_⟩⟩⟩
      · rw [iv_lt (by unfold inB; omega) hw] at z
        rw [if_pos z, Nat.add_zero] at nx
        exact nx
      · rw [iv_lt (by unfold inB; omega) hw] at z
        rw [if_neg z] at nx
        exact nx
  exact key P 0 (by omega)
theorem iv_l {z : Int} (h : 0 ≤ z ∧ z < 2147483648) : (iv z).toInt64 = lN z.toNat := by rw [iv_nI h.1, nI_l (by omega)]
theorem ev_weighedEars {d : Nat} {S : ZSt} {L : Lnd} (hW : WF L) {f v n : Nat} (hf : f < nF L) (hn : n ≤ 8) (h : HlC S L f v n) : zEv d mX1_weighedEars [.ref 46] S (zX (some (.long (lN (earN L f v n)))) S) := by
  refine zEv.of cw_X1_weighedEars (Nat.le_of_ble_eq_true rfl) rfl (blk_X1_weighedEars_0 ?_)
  have hp := p2_le8 hn
  unfold HlC at h
  unfold earN
  obtain ⟨P, eP⟩ : ∃ P, P = 2 ^ n := ⟨_, rfl⟩
  rw [← eP] at h hp ⊢
  have key : ∀ (m q : Nat), q + m = P → zSem d mX1_weighedEars 4 [some (.ref 46), some (.long (lN (sN (fun j => wtN v (Nat.testBit j) n * (wyL L f j n).1.toNat) q))), none, some (.int (nI q))] [] S (zX (some (.long (lN (sN (fun j => wtN v (Nat.testBit j) n * (wyL L f j n).1.toNat) P)))) S) := by
    intro m
    induction m with
    | zero =>
      intro q hq
      obtain rfl : q = P := by omega
      refine blk_X1_weighedEars_4 ?_
      rw [h.1]
      exact ⟨fun _ => ⟨rfl, rfl⟩, fun z => absurd (nI_le (by omega) (by omega)) z⟩
    | succ m ih =>
      intro q hq
      have wi := wyL_in hW hf q n
      have nx := ih (q + 1) (by omega)
      rw [sN] at nx
      refine blk_X1_weighedEars_4 ?_
      rw [h.1, ix_cl (by omega), (h.2 q (by omega)).1, (h.2 q (by omega)).2.2, nI_1, iv_l (by omega), lN_mul, lN_add]
      exact ⟨fun z => absurd z (nI_ge (by omega) (by omega)), fun _ => ⟨ix_in (by omega) (by omega), ix_in (by omega) (by omega), nx⟩⟩
  exact key P 0 (by omega)
theorem ev_tenToThe {d : Nat} (S : ZSt) (n : Nat) (hn : n ≤ 8) : zEv d mX6_tenToThe [.int (nI n)] S (zX (some (.long (lN (10 ^ n)))) S) := by
  refine zEv.of cw_X6_tenToThe (Nat.le_of_ble_eq_true rfl) rfl (blk_X6_tenToThe_0 ?_)
  have key : ∀ (m q : Nat), q + m = n → zSem d mX6_tenToThe 4 [some (.int (nI n)), some (.long (lN (10 ^ q))), none, some (.int (nI q))] [] S (zX (some (.long (lN (10 ^ n)))) S) := by
    intro m
    induction m with
    | zero =>
      intro q hq
      obtain rfl : q = n := by omega
      exact blk_X6_tenToThe_4 ⟨fun _ => ⟨rfl, rfl⟩, fun z => absurd (nI_le (by omega) (by omega)) z⟩
    | succ m ih =>
      intro q hq
      have nx := ih (q + 1) (by omega)
      rw [Nat.pow_succ, ← lN_mul, ← nI_1] at nx
      exact blk_X6_tenToThe_4 ⟨fun z => absurd z (nI_ge (by omega) (by omega)), fun _ => nx⟩
  exact key n 0 (by omega)
/-! lowest terms -/
def ltA (T B : Nat) (w : Int32) : Int64 := if w = 0 then lN (T / Nat.gcd B T) else lN (B / Nat.gcd B T)
theorem lN_ne {a : Nat} (h : 0 < a) (ha : a < 2 ^ 63) : ¬ lN a = 0 := fun z => by
  have := (pk_lEQ (a := a) (b := 0) ha (by omega)).mp z
  omega
theorem gcd_lt {B T : Nat} (hB : 0 < B) (hb : B < 2 ^ 63) : 0 < Nat.gcd B T ∧ Nat.gcd B T < 2 ^ 63 := ⟨Nat.gcd_pos_of_pos_left T hB, Nat.lt_of_le_of_lt (Nat.gcd_le_left T hB) hb⟩
theorem ev_lowestTerms {d : Nat} (S : ZSt) (T B : Nat) (w : Int32) (hT : T < 2 ^ 63) (hB : 0 < B) (hb : B < 2 ^ 63) : zEv d mX6_lowestTerms [.long (lN T), .long (lN B), .int w] S (zX (some (.long (ltA T B w))) S) := by
  refine zEv.of cw_X6_lowestTerms (Nat.le_of_ble_eq_true rfl) rfl (blk_X6_lowestTerms_0 ?_)
  have gp := gcd_lt (T := T) hB hb
  -- the end
  have fin : (¬ lg_cmp (lN (Nat.gcd B T)) (0 : Int64) = 0 → ((¬ w = 0 → (¬ lN (Nat.gcd B T) = 0 ∧ zX (some (.long (ltA T B w))) S (some (.long (lN B / lN (Nat.gcd B T)))) S)) ∧ (w = 0 → (¬ lN (Nat.gcd B T) = 0 ∧ zX (some (.long (ltA T B w))) S (some (.long (lN T / lN (Nat.gcd B T)))) S)))) ∧ (lg_cmp (lN (Nat.gcd B T)) (0 : Int64) = 0 → zX (some (.long (ltA T B w))) S (some (.long 0)) S) := by
    refine ⟨fun _ => ⟨fun q => ⟨lN_ne gp.1 gp.2, ?_⟩, fun q => ⟨lN_ne gp.1 gp.2, ?_⟩⟩, fun z => absurd ((lg_cmp_eq _ _).mp z) (lN_ne gp.1 gp.2)⟩
    · rw [pk_lDiv hb gp.1 gp.2]; unfold ltA; rw [if_neg q]; exact ⟨rfl, rfl⟩
    · rw [pk_lDiv hT gp.1 gp.2]; unfold ltA; rw [if_pos q]; exact ⟨rfl, rfl⟩
  have key : ∀ (k a b i : Nat), b < 2 ^ k → k ≤ 63 → i + 2 * k < 200 → a < 2 ^ 63 → Nat.gcd a b = Nat.gcd B T → zSem d mX6_lowestTerms 9 [some (.long (lN T)), none, some (.long (lN B)), none, some (.int w), some (.long (lN a)), none, some (.long (lN b)), none, some (.int (nI i)), none, none] [] S (zX (some (.long (ltA T B w))) S) := by
    intro k
    induction k with
    | zero =>
      intro a b i hb0 hk hi ha hg
      obtain rfl : b = 0 := by omega
      rw [Nat.gcd_zero_right] at hg
      rw [hg]
      exact blk_X6_lowestTerms_9 ⟨fun z => absurd z (nI_ge (a := i) (b := 200) (by omega) (by omega)), fun _ => ⟨fun _ => fin, fun z => absurd ((lg_cmp_eq _ _).mpr rfl) z⟩⟩
    | succ k ih =>
      intro a b i hb0 hk hi ha hg
      have h63 : 2 ^ (k + 1) ≤ 2 ^ 63 := Nat.pow_le_pow_right (by omega) hk
      by_cases q : b = 0
      · subst q
        rw [Nat.gcd_zero_right] at hg
        rw [hg]
        exact blk_X6_lowestTerms_9 ⟨fun z => absurd z (nI_ge (a := i) (b := 200) (by omega) (by omega)), fun _ => ⟨fun _ => fin, fun z => absurd ((lg_cmp_eq _ _).mpr rfl) z⟩⟩
      · refine blk_X6_lowestTerms_9 ⟨fun z => absurd z (nI_ge (a := i) (b := 200) (by omega) (by omega)), fun _ => ⟨fun z => absurd ((lg_cmp_eq _ _).mp z) (lN_ne (by omega) (by omega)), fun _ => ⟨lN_ne (by omega) (by omega), ?_⟩⟩⟩
        rw [pk_lRem ha (by omega) (by omega), nI_1]
        have hr := Nat.mod_lt a (show 0 < b by omega)
        have hg1 : Nat.gcd b (a % b) = Nat.gcd B T := by rw [← hg, Nat.gcd_comm b, ← Nat.gcd_rec, Nat.gcd_comm]
        by_cases q2 : a % b = 0
        · rw [q2] at hg1 ⊢
          rw [Nat.gcd_zero_right] at hg1
          rw [hg1]
          exact blk_X6_lowestTerms_9 ⟨fun z => absurd z (nI_ge (a := i + 1) (b := 200) (by omega) (by omega)), fun _ => ⟨fun _ => fin, fun z => absurd ((lg_cmp_eq _ _).mpr rfl) z⟩⟩
        · refine blk_X6_lowestTerms_9 ⟨fun z => absurd z (nI_ge (a := i + 1) (b := 200) (by omega) (by omega)), fun _ => ⟨fun z => absurd ((lg_cmp_eq _ _).mp z) (lN_ne (by omega) (by omega)), fun _ => ⟨lN_ne (by omega) (by omega), ?_⟩⟩⟩
          rw [pk_lRem (by omega) (by omega) (by omega), nI_1]
          have hr2 := Nat.mod_lt b (show 0 < a % b by omega)
          have half : b % (a % b) < 2 ^ k := by
            obtain ⟨r, er⟩ : ∃ r, r = a % b := ⟨_, rfl⟩
            rw [← er] at hr hr2 q2 ⊢
            have e2 : 2 ^ (k + 1) = 2 * 2 ^ k := by rw [Nat.pow_succ]; omega
            by_cases z : 2 * r ≤ b
            · omega
            · have : b % r = b - r := by
                rw [Nat.mod_eq_sub_mod (by omega), Nat.mod_eq_of_lt (by omega)]
              omega
          refine ih _ _ _ half (by omega) (by omega) (by omega) ?_
          rw [← hg1, Nat.gcd_comm (a % b), ← Nat.gcd_rec, Nat.gcd_comm]
  exact key 63 B T 0 hT (by omega) (by omega) hb rfl
theorem ev_common {d : Nat} (S : ZSt) : ∀ (b a : Nat), a < 2 ^ 63 → b < 2 ^ 63 → zEv d mX7_common [.long (lN a), .long (lN b)] S (zX (some (.long (lN (Nat.gcd a b)))) S) := by
  intro b0 a0 ha0 hb0
  refine zEv.of cw_X7_common (Nat.le_of_ble_eq_true rfl) rfl (blk_X7_common_0 ?_)
  have key : ∀ (k b a : Nat), b < k → a < 2 ^ 63 → b < 2 ^ 63 → Nat.gcd a b = Nat.gcd a0 b0 → zSem d mX7_common 6 [none, none, none, none, some (.long (lN a)), none, some (.long (lN b)), none, none, none] [] S (zX (some (.long (lN (Nat.gcd a0 b0)))) S) := by
    intro k
    induction k with
    | zero => intro b a h; exact absurd h (by omega)
    | succ k ih =>
      intro b a hk ha hb hg
      by_cases q : b = 0
      · subst q
        rw [Nat.gcd_zero_right] at hg
        rw [hg]
        exact blk_X7_common_6 ⟨fun _ => ⟨rfl, rfl⟩, fun z => absurd ((lg_cmp_eq _ _).mpr rfl) z⟩
      · refine blk_X7_common_6 ⟨fun z => absurd ((lg_cmp_eq _ _).mp z) (lN_ne (by omega) hb), fun _ => ⟨lN_ne (by omega) hb, ?_⟩⟩
        rw [pk_lRem ha (by omega) hb]
        have hr := Nat.mod_lt a (show 0 < b by omega)
        refine ih _ _ (by omega) hb (by omega) ?_
        rw [← hg, Nat.gcd_comm b, ← Nat.gcd_rec, Nat.gcd_comm]
  exact key (b0 + 1) b0 a0 (by omega) ha0 hb0 rfl
theorem ev_lowest {d : Nat} (S : ZSt) (T B : Nat) (w : Int32) (hT : T < 2 ^ 63) (hB : 0 < B) (hb : B < 2 ^ 63) : zEv (d + 1) mX7_lowest [.long (lN T), .long (lN B), .int w] S (zX (some (.long (ltA T B w))) S) := by
  have gp := gcd_lt (T := T) hB hb
  refine zEv.of cw_X7_lowest (Nat.le_of_ble_eq_true rfl) rfl (blk_X7_lowest_0 ⟨_, S, ev_common S T B hb hT, fun q => ⟨lN_ne gp.1 gp.2, ?_⟩, fun q => ⟨lN_ne gp.1 gp.2, ?_⟩⟩)
  · rw [pk_lDiv hb gp.1 gp.2]; unfold ltA; rw [if_neg q]; exact ⟨rfl, rfl⟩
  · rw [pk_lDiv hT gp.1 gp.2]; unfold ltA; rw [if_pos q]; exact ⟨rfl, rfl⟩
