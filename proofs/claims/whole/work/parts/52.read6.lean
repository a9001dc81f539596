/-! read: the reference's loops -/
theorem ce_T {sh : Sh} {i j k e l sz : Nat} {ce : Nat → Int32} (es : sh i = some (l, sz, ce)) (hj : j ≤ 40) (hk : k ≤ 20) (he : e ≤ 1) : ceA sh i (nI j + 2 * nI k + nI e) = ce (j + 2 * k + e) := by
  have a : (nI j).toInt = (j : Int) := nI_toInt (by omega)
  have b := v_sum (v := nI j) (k := k) (e := e) hk he (by rw [a]; omega)
  unfold ceA
  rw [es]
  show ce (nI j + 2 * nI k + nI e).toInt.toNat = ce (j + 2 * k + e)
  rw [b, a]
  congr 1
theorem ix_T (i j k : Nat) : (((40 : Int32) * nI i) + nI j) + (2 * nI k) = nI (i * 40 + j + 2 * k) := by
  rw [show (2 : Int32) = nI 2 from rfl, show (40 : Int32) = nI 40 from rfl, pk_mul, pk_mul, nI_add, nI_add, Nat.mul_comm 40 i]
def rmQ : Nat → Nat → Prop := fun k j => rmP k j ∨ (k = 57 ∧ j = 27)
def rdQ (S : ZSt) (sh : Sh) (i : Nat) (v : Int32) (L : Lnd) (g : Nat) (ft : Int32) (ok : Bool) : ZSt → Prop := fun S' => (if ok = true then HoM S' 58 0 (mrL sh i v L g) ∧ gI S' 57 27 = ft else HoM S' 58 0 L ∧ gI S' 57 27 = gI S 57 27) ∧ FrI rmQ S S'
theorem rm_back {d : Nat} {S S1 : ZSt} {sh : Sh} {i : Nat} {v : Int32} {L : Lnd} {ft : Int32} (g : Nat) (hW : WF L) (hM : HoM S 58 0 L) (F1 : FrI rmP S S1) (h69 : ∀ c, c < 50 → gI S1 69 c = gI S 58 c) : zSem (d + 1) mX7_read 208 [some (.ref 57), none, none, none, none, none, none, some (.int (nI g)), none, some (.int 0), none] [] S1 (zY (some (.int (-20 - nI g))) (rdQ S sh i v L g ft false)) := by
  have key : ∀ (m c : Nat) (S2 : ZSt), c + m = 50 → (∀ t, t < c → gI S2 58 t = gI S 58 t) → (∀ t, t < 50 → gI S2 69 t = gI S 58 t) → FrI rmP S S2 → zSem (d + 1) mX7_read 208 [some (.ref 57), none, none, none, none, none, none, some (.int (nI g)), none, some (.int (nI c)), none] [] S2 (zY (some (.int (-20 - nI g))) (rdQ S sh i v L g ft false)) := by
    intro m
    induction m with
    | zero =>
      intro c S2 hc h1 h2 F2
      obtain rfl : c = 50 := by omega
      refine blk_X7_read_208 ⟨fun q => ⟨rfl, ?_, F2.mono (fun k j q => Or.inl q)⟩, fun q => absurd (nI_le (a := 50) (b := 50) (by omega) (by omega)) q⟩
      rw [if_neg (by decide)]
      exact ⟨HoM.frB hW hM (fun t ht => by rw [Nat.zero_add]; exact h1 t ht), F2 57 27 (by unfold rmP; omega)⟩
    | succ m ih =>
      intro c S2 hc h1 h2 F2
      refine blk_X7_read_208 ⟨fun q => absurd q (nI_ge (a := c) (b := 50) (by omega) (by omega)), fun q => ⟨ix_in (by omega) (by omega), ix_in (by omega) (by omega), fun S3 e3 => ?_⟩⟩
      rw [ix_cl (by omega), h2 c (by omega)] at e3
      rw [nI_1]
      refine ih (c + 1) S3 (by omega) (fun t ht => ?_) (fun t ht => ?_) ?_
      · rw [e3, gI_pI]
        by_cases q2 : t = c
        · rw [q2, if_pos ⟨rfl, rfl⟩]
        · rw [if_neg (by omega)]; exact h1 t (by omega)
      · rw [e3, gI_pI, if_neg (by omega)]; exact h2 t ht
      · rw [e3]; exact F2.pI _ (Or.inl ⟨rfl, by omega⟩)
  exact key 50 0 S1 (by omega) (fun t ht => absurd ht (by omega)) h69 F1
theorem ev_readM {d : Nat} (hd : 9 ≤ d) {S : ZSt} {L : Lnd} {sh : Sh} (hM : HoM S 58 0 L) (hS : SM S sh) (hw : SW sh) (h : WFc L) (i ln n : Nat) (hi : i < 4) (hl : ln ≤ 2) (hn : n ≤ 20) (v : Int32) (g : Nat) (ft : Int32) (ok : Bool) (er : rdF L sh i (nI ln) v n 0 = (g, ft, ok)) : zEv d mX7_read [.ref 57, .int (nI i), .int (nI ln), .int v, .int (nI n)] S (zY (some (.int (if ok = true then nI g else -20 - nI g))) (rdQ S sh i v L g ft ok)) := by
  obtain ⟨d, rfl, hd⟩ := dsucc hd
  have c1 : (0 : Int) ≤ (nI i).toInt ∧ (nI i).toInt ≤ 3 := by rw [nI_toInt (by omega)]; omega
  have c2 : (0 : Int) ≤ (nI ln).toInt ∧ (nI ln).toInt ≤ 2 := by rw [nI_toInt (by omega)]; omega
  have c3 : (0 : Int) ≤ (nI n).toInt ∧ (nI n).toInt ≤ 20 := by rw [nI_toInt (by omega)]; omega
  have hn4 := h.1.nB
  have hn6 := h.1.nF
  refine zEv.of cw_X7_read (Nat.le_of_ble_eq_true rfl) rfl (blk_X7_read_0 ⟨_, S, ev_isSheet (by omega) S _ _, b01_if (fun q => absurd ⟨c1, c2⟩ q) (fun _ => ⟨_, S, ev_inI S _ 0 20 0 20 rfl rfl, b01_if' (fun _ => ?_) (fun q => absurd c3 q)⟩)⟩)
  have key : ∀ (m k : Nat) (S1 : ZSt), k + m = n → rdF L sh i (nI ln) v m k = (g, ft, ok) → (∀ t, t < k → okP L sh i v t ∧ pfA sh i (nI ln) v t = 0) → HoM S1 58 0 (mrL sh i v L k) → FrI rmP S S1 → (∀ c, c < 50 → gI S1 69 c = gI S 58 c) → zSem (d + 1) mX7_read 62 [some (.ref 57), some (.int (nI i)), some (.int (nI ln)), some (.int v), some (.int (nI n)), some (.int 0), some (.int (nI k)), some (.int (nI k)), none, none, none] [] S1 (zY (some (.int (if ok = true then nI g else -20 - nI g))) (rdQ S sh i v L g ft ok)) := by
    intro m
    have done : ∀ (k : Nat) (x : Int32) (S1 : ZSt), HoM S1 58 0 (mrL sh i v L k) → FrI rmP S S1 → rdQ S sh i v L k x true (pI S1 57 27 x) := by
      intro k x S1 M1 F1
      refine ⟨?_, (F1.mono (fun k j q => Or.inl q)).pI _ (Or.inr ⟨rfl, rfl⟩)⟩
      rw [if_pos rfl]
      exact ⟨M1.frI (P := fun k j => k = 57 ∧ j = 27) ((FrI.rf _ _).pI _ ⟨rfl, rfl⟩) (by omega), by rw [gI_pI, if_pos ⟨rfl, rfl⟩]⟩
    induction m with
    | zero =>
      intro k S1 hk e ho M1 F1 h69
      rw [rdF] at e
      obtain ⟨e1, e2, e3⟩ : k = g ∧ (0 : Int32) = ft ∧ true = ok := ⟨congrArg Prod.fst e, congrArg (fun z => z.2.1) e, congrArg (fun z => z.2.2) e⟩
      subst e1 e2 e3
      rw [if_pos rfl]
      exact blk_X7_read_62 ⟨fun q S2 e2 => ⟨rfl, by rw [e2]; exact done k 0 S1 M1 F1⟩, fun q => absurd (nI_le (by omega) (by omega)) q⟩
    | succ m ih =>
      intro k S1 hkm e ho M1 F1 h69
      rw [rdF] at e
      have S1m : SM S1 sh := hS.fr F1 (fun k j q1 q2 => by unfold rmP; omega)
      have W1 := mrL_WF h k (fun t' ht' => (ho t' (by omega)).1)
      have n1 := mrL_n (sh := sh) (i := i) (v := v) (L := L) k
      have hp : k = 0 ∨ pfA sh i (nI ln) v 0 = 0 := by
        by_cases q : k = 0
        · exact Or.inl q
        · exact Or.inr (ho 0 (by omega)).2
      have pT := pf_T hw (i := i) (ln := nI ln) (v := v) (k := k) (by omega) hp
      -- a fault ends the loop
      have bad : ∀ x : Int32, x = pfA sh i (nI ln) v k → ¬ x = 0 → zSem (d + 1) mX7_read 62 [some (.ref 57), some (.int (nI i)), some (.int (nI ln)), some (.int v), some (.int (nI n)), some (.int x), some (.int (nI k)), some (.int (nI k + 1)), none, none, none] [] S1 (zY (some (.int (if ok = true then nI g else -20 - nI g))) (rdQ S sh i v L g ft ok)) := by
        intro x ex q2
        rw [← ex, if_neg q2] at e
        obtain ⟨e1, e2, e3⟩ : k = g ∧ x = ft ∧ true = ok := ⟨congrArg Prod.fst e, congrArg (fun z => z.2.1) e, congrArg (fun z => z.2.2) e⟩
        subst e1 e2 e3
        rw [if_pos rfl]
        exact blk_X7_read_62 ⟨fun q S2 e2 => ⟨rfl, by rw [e2]; exact done k x S1 M1 F1⟩, fun q => ⟨fun _ S2 e2 => ⟨rfl, by rw [e2]; exact done k x S1 M1 F1⟩, fun z => absurd z q2⟩⟩
      refine blk_X7_read_62 ⟨fun q => absurd q (nI_ge (by omega) (by omega)), fun q => ⟨fun z => absurd rfl z, fun _ => rm_step S1m hw i ln k 0 hi hl (by omega) (by omega) v _ _ ?_⟩⟩
      by_cases f0 : fltT sh i (nI ln) (v.toInt + 2 * k + (0 : Nat)) = 0
      · rw [f0]
        rw [if_pos f0] at pT
        refine rm_step S1m hw i ln k 1 hi hl (by omega) (by omega) v _ _ ?_
        rw [← pT]
        refine blk_X7_read_77 ⟨fun _ => ⟨fun q2 => bad _ rfl q2, fun q2 => ?_⟩, fun q => absurd (nI_le (a := 2) (b := 2) (by omega) (by omega)) q⟩
        rw [if_pos q2] at e
        -- the pair is there
        obtain ⟨l, sz, ce, es, r0, r1⟩ : ∃ l sz ce, sh i = some (l, sz, ce) ∧ 0 ≤ v.toInt ∧ v.toInt + 2 * k + 1 ≤ (sz : Int) - 1 := by
          have pz : fltT sh i (nI ln) (v.toInt + 2 * k + (1 : Nat)) = 0 := by rw [← pT]; exact q2
          have p0 : 0 ≤ v.toInt := by
            rcases hp with rfl | hp
            · unfold fltT at f0
              cases e9 : sh i with
              | none => rw [e9] at f0; simp only [] at f0; exact absurd f0 (by decide)
              | some x =>
                obtain ⟨l, sz, ce⟩ := x
                rw [e9] at f0
                simp only [] at f0
                by_cases w1 : nI l = nI ln
                · rw [if_pos w1] at f0
                  by_cases w2 : 0 ≤ v.toInt + 2 * ((0 : Nat) : Int) + ((0 : Nat) : Int) ∧ v.toInt + 2 * ((0 : Nat) : Int) + ((0 : Nat) : Int) ≤ (sz : Int) - 1
                  · omega
                  · rw [if_neg w2] at f0; exact absurd f0 (by decide)
                · rw [if_neg w1] at f0; exact absurd f0 (by decide)
            · obtain ⟨l, sz, ce, e9, w1, w2⟩ := flt_ok (pf_ok hp).1
              rw [nI_0, Int32.mul_zero, Int32.add_zero] at w1
              exact w1
          unfold fltT at pz
          cases e9 : sh i with
          | none => rw [e9] at pz; simp only [] at pz; exact absurd pz (by decide)
          | some x =>
            obtain ⟨l, sz, ce⟩ := x
            rw [e9] at pz
            simp only [] at pz
            by_cases w1 : nI l = nI ln
            · rw [if_pos w1] at pz
              by_cases w2 : 0 ≤ v.toInt + 2 * (k : Int) + ((1 : Nat) : Int) ∧ v.toInt + 2 * (k : Int) + ((1 : Nat) : Int) ≤ (sz : Int) - 1
              · exact ⟨l, sz, ce, rfl, p0, by omega⟩
              · rw [if_neg w2] at pz; exact absurd pz (by decide)
            · rw [if_neg w1] at pz; exact absurd pz (by decide)
        have w := hw i l sz ce es
        obtain ⟨j, hj, rfl⟩ := toNat_of (n := 41) r0 (by omega)
        have ej : (nI j).toInt = (j : Int) := nI_toInt (by omega)
        rw [ej] at r1
        have g0 := ((S1m i hi).2 l sz ce es).2.2 (j + 2 * k) (by omega)
        have g1 := ((S1m i hi).2 l sz ce es).2.2 (j + 2 * k + 1) (by omega)
        have t0 := ce_T es (j := j) (k := k) (e := 0) (by omega) (by omega) (by omega)
        have t1 := ce_T es (j := j) (k := k) (e := 1) (by omega) (by omega) (by omega)
        rw [nI_0, Int32.add_zero, Nat.add_zero] at t0
        rw [show (nI 1 : Int32) = 1 from rfl] at t1
        rw [ix_T, nI_1, ix_cl (by omega), ix_cl (by omega), show i * 40 + j + 2 * k = i * 40 + (j + 2 * k) by omega, show i * 40 + (j + 2 * k) + 1 = i * 40 + (j + 2 * k + 1) by omega, g0, g1, ← t0, ← t1]
        refine ⟨ix_in (by omega) (by omega), ix_in (by omega) (by omega), ?_⟩
        by_cases o : okP L sh i (nI j) k
        · rw [if_pos (okB_p.mpr o)] at e
          have ok' := o
          unfold okP at ok'
          obtain ⟨b, hb, eb⟩ := toNat_of (n := nB L) ok'.1.1 (by omega)
          obtain ⟨f, hf, ef⟩ := toNat_of (n := nF L) ok'.2.1 (by omega)
          rw [eb, ef]
          have w4 := (W1.1.b (b := b) (by rw [n1.2.1]; exact hb)).1
          have w1 := W1.1.1
          refine ⟨_, _, ev_marchM (by omega) M1 W1 b f (by rw [n1.2.1]; exact hb) (by rw [n1.1]; exact hf), fun S3 k3 => ⟨fun _ => ?_, fun z => absurd ((iv_le (a := 0) (by unfold inB; omega) (by unfold inB; omega)).mpr w4.1) z⟩⟩
          rw [nI_1, q2]
          refine ih (k + 1) S3 (by omega) e (fun t ht => ?_) ?_ (F1.tr (k3.2.mono (fun k' j' q => Or.inl q))) (fun c hc => ?_)
          · by_cases q5 : t = k
            · rw [q5]; exact ⟨o, q2⟩
            · exact ho t (by omega)
          · rw [mrL, eb, ef, nI_toInt (by omega), nI_toInt (by omega), Int.toNat_natCast]
            exact k3.1
          · rw [k3.2 69 c (by omega)]; exact h69 c hc
        · rw [if_neg (fun z => o (okB_p.mp z))] at e
          obtain ⟨e1, e2, e3⟩ : k = g ∧ (0 : Int32) = ft ∧ false = ok := ⟨congrArg Prod.fst e, congrArg (fun z => z.2.1) e, congrArg (fun z => z.2.2) e⟩
          subst e1 e2 e3
          refine ⟨_, _, ev_marchM0 (by omega) M1 W1.1 _ _ (fun z => o ?_), fun S3 k3 => ⟨fun z => absurd z (by decide), fun _ => ?_⟩⟩
          · unfold okP
            rw [mrL_0 0 9 (by omega), mrL_0 0 8 (by omega)] at z
            exact z
          · rw [k3, if_neg (by decide)]
            exact rm_back k h.1 hM F1 h69
      · rw [if_neg f0] at pT
        rw [← pT]
        have nz : ¬ pfA sh i (nI ln) v k = 0 := by rw [pT]; exact f0
        exact blk_X7_read_77 ⟨fun q => absurd q (nI_ge (a := 1) (b := 2) (by omega) (by omega)), fun _ => ⟨fun _ => ⟨fun q2 => bad _ rfl q2, fun z => absurd z nz⟩, fun z => absurd z nz⟩⟩
  have cop : ∀ (m c : Nat) (S1 : ZSt), c + m = 50 → (∀ t, t < c → gI S1 69 t = gI S 58 t) → FrI (fun k _ => k = 69) S S1 → zSem (d + 1) mX7_read 26 [some (.ref 57), some (.int (nI i)), some (.int (nI ln)), some (.int v), some (.int (nI n)), some (.int (nI c)), none, none, none, none, none] [] S1 (zY (some (.int (if ok = true then nI g else -20 - nI g))) (rdQ S sh i v L g ft ok)) := by
    intro m
    induction m with
    | zero =>
      intro c S1 hc h1 F1
      obtain rfl : c = 50 := by omega
      refine blk_X7_read_26 ⟨fun q => ?_, fun q => absurd (nI_le (a := 50) (b := 50) (by omega) (by omega)) q⟩
      exact key n 0 S1 (by omega) er (fun t ht => absurd ht (by omega)) (hM.frI F1 (fun i => by omega)) (F1.mono (fun k j q => Or.inr q)) h1
    | succ m ih =>
      intro c S1 hc h1 F1
      refine blk_X7_read_26 ⟨fun q => absurd q (nI_ge (a := c) (b := 50) (by omega) (by omega)), fun q => ⟨ix_in (by omega) (by omega), ix_in (by omega) (by omega), fun S2 e2 => ?_⟩⟩
      rw [ix_cl (by omega), F1 58 c (by omega)] at e2
      rw [nI_1]
      refine ih (c + 1) S2 (by omega) (fun t ht => ?_) ?_
      · rw [e2, gI_pI]
        by_cases q2 : t = c
        · rw [q2, if_pos ⟨rfl, rfl⟩]
        · rw [if_neg (by omega)]; exact h1 t (by omega)
      · rw [e2]; exact F1.pI _ rfl
  exact cop 50 0 S (by omega) (fun t ht => absurd ht (by omega)) (FrI.rf _ _)
