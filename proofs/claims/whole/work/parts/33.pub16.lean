/-! ask -/
theorem HoC.frI' {S S' : ZSt} {L : Lnd} {P : Nat → Nat → Prop} (h : HoC S 1 L) (hf : FrI P S S') (hp : ∀ r j, r ≤ 8 → ¬ P (1 + r) j) : HoC S' 1 L := by
  intro r j hr
  have : r ≤ 8 := by unfold inR at hr; omega
  unfold zi
  rw [hf _ _ (hp r j this)]
  exact h r j hr
theorem ix21 (t g : Nat) : (21 : Int32) * nI t + nI g = nI (21 * t + g) := by rw [show (21 : Int32) = nI 21 from rfl, pk_mul, nI_add]
theorem pub_ask {L : Lnd} (h : WFc L) (v1 v2 : Int32) : Both mX6_ask mX7_ask [.int v1, .int v2] L := by
  by_cases c : (0 ≤ v1.toInt ∧ v1.toInt ≤ L 0 8 - 1) ∧ ((0 : Int) ≤ v2.toInt ∧ v2.toInt ≤ 1)
  · obtain ⟨f, hf, rfl⟩ := isF_of h.1 c.1
    have hn6 := h.1.nF.1
    have w := h.1.f hf
    have hh := hdL_in h.1 f
    obtain ⟨s, es⟩ : ∃ s, s = sob L f := ⟨_, rfl⟩
    obtain ⟨N, eN'⟩ : ∃ N, N = cnt s 10 := ⟨_, rfl⟩
    obtain ⟨E, eE⟩ : ∃ E : Nat → Nat → Int, E = fun t i => eB (L 1 f) (L 2 f) (en s 10 i : Int) (hdL L f) t := ⟨_, rfl⟩
    obtain ⟨G, eG⟩ : ∃ G : Nat → Nat, G = fun t => lg (E t) N N := ⟨_, rfl⟩
    have hN : N ≤ 10 := by rw [eN']; exact cnt_le 10
    have Ein : ∀ t i, inB (E t i) := fun t i => by rw [eE]; have := eB_in (k := L 1 f) (b := (en s 10 i : Int)) (h := hdL L f) w.2.1 t; unfold inB; show -2147483648 ≤ eB (L 1 f) (L 2 f) (en s 10 i : Int) (hdL L f) t ∧ eB (L 1 f) (L 2 f) (en s 10 i : Int) (hdL L f) t < 2147483648; omega
    have Gin : ∀ t, G t ≤ 10 := fun t => by rw [eG]; have := lg_le (E := E t) (N := N) N; show lg (E t) N N ≤ 10; omega
    have eb : ∀ i, en s 10 i ≤ 9 := fun i => by have := en_lt (s := s) 10 i (by omega); omega
    refine ⟨asR (asF G N 21) v2, L, fun d S hd hC => ?_, fun d S hd hM => ?_, h⟩
    · obtain ⟨d, rfl, hd⟩ := dsucc hd
      have g3 : gI S 3 f = iv (L 2 f) := hC.g (inR_f (r := 2) (by omega) hf)
      refine zEv.of cw_X6_ask (Nat.le_of_ble_eq_true rfl) rfl (blk_X6_ask_0 ⟨_, S, ev_isField (by omega) hC h.1 _, b01_if (fun q => absurd c.1 q) (fun _ => ⟨_, S, ev_within S v2 0 1, b01_if' (fun _ => ⟨_, S, ev_blightsAsSeen (by omega) hC h.1 f hf, ix_in (by omega) (by omega), ?_⟩) (fun q => absurd c.2 q)⟩)⟩)
      rw [ix_cl (by omega), g3, ← es]
      refine ⟨_, ev_begin S s (L 1 f) (L 2 f) (hdL L f), fun S6 k6 => ?_⟩
      rw [← eN'] at k6
      have C6 : HoC S6 1 L := hC.frI' k6.2 (fun r j q => by unfold guP; omega)
      refine ⟨_, S6, ev_heardAtN zLd_1 C6 h.1 f (by omega), ?_⟩
      rw [k6.1.1]
      have key : ∀ (m t : Nat) (S1 : ZSt), t + m = 21 → GS S1 N (en s 10) (L 1 f) (L 2 f) (hdL L f) t → FrI guP S S1 → zSem (d + 1) mX6_ask 65 [some (.ref 0), some (.int (nI f)), some (.int v2), some (.int (iv (hdL L f))), some (.int (nI (asF G N t).1)), some (.int (asF G N t).2), some (.int (nI t)), none] [] S1 (zY (some (.int (asR (asF G N 21) v2))) (fun S' => HoC S' 1 L ∧ FrI clsP S S')) := by
        intro m
        induction m with
        | zero =>
          intro t S1 ht G1 F1
          obtain rfl : t = 21 := by omega
          have C1 : HoC S1 1 L := hC.frI' F1 (fun r j q => by unfold guP; omega)
          refine blk_X6_ask_65 ⟨fun q => ⟨fun q1 => ?_, fun q1 => ⟨fun q2 => ?_, fun q2 => ?_⟩⟩, fun q => absurd (nI_lt (a := 20) (b := 21) (by omega) (by omega)) q⟩
          · unfold asR; rw [if_pos q1, q1]; exact ⟨rfl, C1, F1.mono gu_cls⟩
          · unfold asR; rw [if_neg q1, if_neg q2]; exact ⟨rfl, C1, F1.mono gu_cls⟩
          · unfold asR; rw [if_neg q1, if_pos q2]; exact ⟨rfl, C1, F1.mono gu_cls⟩
        | succ m ih =>
          intro t S1 htm G1 F1
          have C1 : HoC S1 1 L := hC.frI' F1 (fun r j q => by unfold guP; omega)
          have g2 : gI S1 2 f = iv (L 1 f) := C1.g (inR_f (r := 1) (by omega) hf)
          have al := asF_le (G := G) (N := N) t
          have gi := Gin t
          have egt : G t = lg (E t) N N := by rw [eG]
          refine blk_X6_ask_65 ⟨fun q => absurd q (nI_nlt (a := 20) (b := t) (by omega) (by omega)), fun q => ⟨_, S1, ev_largestGroup (E := E t) (by omega) hN G1.1 (fun i hi => ⟨by rw [eE]; exact (G1.2 i hi).1, Ein t i⟩), ?_⟩⟩
          rw [← egt, ix_cl (by omega), g2, nI_leiff (by omega) (by omega), nI_1]
          refine ⟨fun q2 => ⟨ix_in (by omega) (by omega), _, ev_passWeekG (by omega) G1 hN w.1 w.2.1 hh (fun i _ => eb i), fun S6 k6 => ?_⟩, fun q2 => ⟨ix_in (by omega) (by omega), _, ev_passWeekG (by omega) G1 hN w.1 w.2.1 hh (fun i _ => eb i), fun S6 k6 => ?_⟩⟩
          · have nx := ih (t + 1) S6 (by omega) k6.1 (F1.tr k6.2)
            rw [asF, if_pos q2] at nx; exact nx
          · have nx := ih (t + 1) S6 (by omega) k6.1 (F1.tr k6.2)
            rw [asF, if_neg q2] at nx; exact nx
      exact key 21 0 S6 (by omega) k6.1 k6.2
    · obtain ⟨d, rfl, hd⟩ := dsucc hd
      have e3 : (3 : Int32) * nI f + 2 = nI (mpos 3 f) := by rw [mpos_f (by omega)]; exact ix3 f 2
      refine zEv.of cw_X7_ask (Nat.le_of_ble_eq_true rfl) rfl (blk_X7_ask_0 ⟨_, S, ev_isField7 (by omega) hM h.1 _, b01_if (fun q => absurd c.1 q) (fun _ => ⟨_, S, ev_isPart (by omega) S v2, b01_if' (fun _ => ?_) (fun q => absurd c.2 q)⟩)⟩)
      -- the groups
      have key2 : ∀ (m t : Nat) (S1 : ZSt), t + m = 21 → (∀ i, i < N → ∀ t, t < 21 → gI S1 65 (21 * i + t) = iv (E t i)) → FrI nwP S S1 → zSem (d + 1) mX7_ask 102 [some (.ref 57), none, some (.int v2), some (.int (nI N)), some (.int (nI (asF G N t).1)), some (.int (asF G N t).2), some (.int (nI t)), none, none, none, none] [] S1 (zY (some (.int (asR (asF G N 21) v2))) (fun S' => HoM S' 58 0 L ∧ FrI modP S S')) := by
        intro m
        induction m with
        | zero =>
          intro t S1 ht G1 F1
          obtain rfl : t = 21 := by omega
          have M1 := hM.frI F1 nw_58
          refine blk_X7_ask_102 ⟨fun q => ⟨fun q1 => ⟨fun q2 => ?_, fun q2 => ?_⟩, fun q1 => ?_⟩, fun q => absurd (nI_lt (a := 20) (b := 21) (by omega) (by omega)) q⟩
          · unfold asR; rw [if_neg q1, if_neg q2]; exact ⟨rfl, M1, F1.mono nw_mod⟩
          · unfold asR; rw [if_neg q1, if_pos q2]; exact ⟨rfl, M1, F1.mono nw_mod⟩
          · unfold asR; rw [if_pos q1]; exact ⟨rfl, M1, F1.mono nw_mod⟩
        | succ m ih =>
          intro t S1 htm G1 F1
          have ht : t < 21 := by omega
          have al := asF_le (G := G) (N := N) t
          have gi := Gin t
          have egt : G t = lg (E t) N N := by rw [eG]
          have nx := ih (t + 1) S1 (by omega) G1 F1
          rw [asF] at nx
          refine blk_X7_ask_102 ⟨fun q => absurd q (nI_nlt (a := 20) (b := t) (by omega) (by omega)), fun q => ?_⟩
          have key3 : ∀ (m3 i : Nat), i + m3 = N → zSem (d + 1) mX7_ask 115 [some (.ref 57), none, some (.int v2), some (.int (nI N)), some (.int (nI (asF G N t).1)), some (.int (asF G N t).2), some (.int (nI t)), some (.int (nI (lg (E t) N i))), some (.int (nI i)), none, none] [] S1 (zY (some (.int (asR (asF G N 21) v2))) (fun S' => HoM S' 58 0 L ∧ FrI modP S S')) := by
            intro m3
            induction m3 with
            | zero =>
              intro i hi
              obtain rfl : i = N := by omega
              refine blk_X7_ask_115 ⟨fun q2 => ?_, fun q2 => absurd (nI_le (by omega) (by omega)) q2⟩
              rw [← egt, nI_leiff (by omega) (by omega), nI_1]
              refine ⟨fun q3 => ?_, fun q3 => ?_⟩
              · rw [if_pos q3] at nx; exact nx
              · rw [if_neg q3] at nx; exact nx
            | succ m3 ih3 =>
              intro i him
              have hi : i < N := by omega
              refine blk_X7_ask_115 ⟨fun q2 => absurd q2 (nI_ge (by omega) (by omega)), fun q2 => ?_⟩
              have key4 : ∀ (m4 j : Nat), j + m4 = N → zSem (d + 1) mX7_ask 127 [some (.ref 57), none, some (.int v2), some (.int (nI N)), some (.int (nI (asF G N t).1)), some (.int (asF G N t).2), some (.int (nI t)), some (.int (nI (lg (E t) N i))), some (.int (nI i)), some (.int (nI (ce (E t) i j))), some (.int (nI j))] [] S1 (zY (some (.int (asR (asF G N 21) v2))) (fun S' => HoM S' 58 0 L ∧ FrI modP S S')) := by
                intro m4
                induction m4 with
                | zero =>
                  intro j hj
                  obtain rfl : j = N := by omega
                  have l1 := lg_le (E := E t) (N := j) i
                  have l2 := ce_le (E := E t) (i := i) j
                  have nx3 := ih3 (i + 1) (by omega)
                  rw [lg] at nx3
                  refine blk_X7_ask_127 ⟨fun q3 => ?_, fun q3 => absurd (nI_le (by omega) (by omega)) q3⟩
                  rw [nI_leiff (by omega) (by omega), nI_1]
                  refine ⟨fun q4 => ?_, fun q4 => ?_⟩
                  · rw [if_pos q4] at nx3; exact nx3
                  · rw [if_neg q4] at nx3; exact nx3
                | succ m4 ih4 =>
                  intro j hjm
                  have hj : j < N := by omega
                  have nx4 := ih4 (j + 1) (by omega)
                  rw [ce] at nx4
                  have cl := ce_le (E := E t) (i := i) j
                  refine blk_X7_ask_127 ⟨fun q3 => absurd q3 (nI_ge (by omega) (by omega)), fun q3 => ?_⟩
                  rw [ix21, ix21, ix_cl (by omega), ix_cl (by omega), G1 i hi t ht, G1 j hj t ht, iv_eq (Ein t i) (Ein t j), nI_1 j]
                  refine ⟨ix_in (by omega) (by omega), ix_in (by omega) (by omega), fun q4 => ⟨_, S1, ev_flag S1 False, ?_⟩, fun q4 => ⟨_, S1, ev_flag S1 True, ?_⟩⟩
                  · rw [if_neg (fun z => q4 z.symm)] at nx4
                    rw [show b01 False = 0 from rfl, Int32.add_zero]; exact nx4
                  · rw [if_pos q4.symm, ← nI_1] at nx4
                    exact nx4
              exact key4 N 0 (by omega)
          exact key3 N 0 (by omega)
      have key1 : ∀ (m b : Nat) (S1 : ZSt), b + m = 10 → (∀ i, i < cnt s b → ∀ t, t < 21 → gI S1 65 (21 * i + t) = iv (E t i)) → FrI nwP S S1 → zSem (d + 1) mX7_ask 22 [some (.ref 57), some (.int (nI f)), some (.int v2), some (.int (nI (cnt s b))), some (.int (nI b)), none, none, none, none, none, none] [] S1 (zY (some (.int (asR (asF G N 21) v2))) (fun S' => HoM S' 58 0 L ∧ FrI modP S S')) := by
        intro m
        induction m with
        | zero =>
          intro b S1 hb G1 F1
          obtain rfl : b = 10 := by omega
          rw [← eN'] at G1 ⊢
          exact blk_X7_ask_22 ⟨fun q => key2 21 0 S1 (by omega) G1 F1, fun q => absurd (nI_lt (a := 9) (b := 10) (by omega) (by omega)) q⟩
        | succ m ih =>
          intro b S1 hbm G1 F1
          have hb : b < 10 := by omega
          have M1 := hM.frI F1 nw_58
          have cl := cnt_le (s := s) b
          have esb : soR (updL L 3 f (b : Int)) (nS L) 0 = s b := by rw [es]; rfl
          refine blk_X7_ask_22 ⟨fun q => absurd q (nI_nlt (a := 9) (b := b) (by omega) (by omega)), fun q => ?_⟩
          rw [e3]
          refine ⟨_, _, ev_isSoWith (by omega) M1 h (Or.inr rfl) hf b (by omega) (fun _ => by omega), fun S2 k2 => ?_⟩
          have F2 : FrI nwP S S2 := F1.tr (k2.2.mono is_nw)
          have G2 : ∀ i, i < cnt s b → ∀ t, t < 21 → gI S2 65 (21 * i + t) = iv (E t i) := fun i hi t ht => by rw [k2.2 65 _ (by unfold isP; omega)]; exact G1 i hi t ht
          rw [esb]
          refine b01_if (fun q2 => ?_) (fun q2 => ?_)
          · have ec : cnt s (b + 1) = cnt s b := by rw [cnt, if_neg q2]
            have nx := ih (b + 1) S2 (by omega) (by rw [ec]; exact G2) F2
            rw [ec] at nx
            rw [nI_1]; exact nx
          · have ec : cnt s (b + 1) = cnt s b + 1 := by rw [cnt, if_pos q2]
            have key5 : ∀ (m5 t : Nat) (S3 : ZSt), t + m5 = 21 → HAD S3 (updL L 3 f (b : Int)) 21 → (∀ i, i < cnt s b → ∀ t, t < 21 → gI S3 65 (21 * i + t) = iv (E t i)) → (∀ t', t' < t → gI S3 65 (21 * cnt s b + t') = iv (E t' (cnt s b))) → FrI nwP S S3 → zSem (d + 1) mX7_ask 46 [some (.ref 57), some (.int (nI f)), some (.int v2), some (.int (nI (cnt s b))), some (.int (nI b)), some (.int (nI t)), none, none, none, none, none] [] S3 (zY (some (.int (asR (asF G N 21) v2))) (fun S' => HoM S' 58 0 L ∧ FrI modP S S')) := by
              intro m5
              induction m5 with
              | zero =>
                intro t S3 ht H3 G3 T3 F3
                obtain rfl : t = 21 := by omega
                refine blk_X7_ask_46 ⟨fun q => ?_, fun q => absurd (nI_lt (a := 20) (b := 21) (by omega) (by omega)) q⟩
                have nx := ih (b + 1) S3 (by omega) (by
                  intro i hi t ht
                  rw [ec] at hi
                  by_cases q3 : i = cnt s b
                  · rw [q3]; exact T3 t ht
                  · exact G3 i (by omega) t ht) F3
                rw [ec] at nx
                rw [nI_1, nI_1]; exact nx
              | succ m5 ih5 =>
                intro t S3 htm H3 G3 T3 F3
                refine blk_X7_ask_46 ⟨fun q => absurd q (nI_nlt (a := 20) (b := t) (by omega) (by omega)), fun q => ?_⟩
                have hv := H3 t (by omega) f (by rw [(nn_upd (by omega)).1]; exact hf)
                have ev : eI (updL L 3 f (b : Int)) f (hdL (updL L 3 f (b : Int)) f) t = E t (cnt s b) := by
                  rw [hdL_upd3 _ _ _ _ (by omega), eE]
                  unfold eI
                  rw [updL_at, updL_ne _ _ _ _ (by omega), updL_ne _ _ _ _ (by omega)]
                  show _ = eB (L 1 f) (L 2 f) (en s 10 (cnt s b) : Int) (hdL L f) t
                  rw [en_at q2 10 hb]
                rw [ev] at hv
                rw [ix6, ix21, ix_cl (by omega), ix_cl (by omega), hv, nI_1]
                refine ⟨ix_in (by omega) (by omega), ix_in (by omega) (by omega), ih5 (t + 1) _ (by omega) ?_ ?_ ?_ (F3.pI _ (by unfold nwP; omega))⟩
                · intro i hi g hg
                  rw [gI_pI, if_neg (by omega)]; exact H3 i hi g hg
                · intro i hi t' ht'
                  rw [gI_pI, if_neg (by omega)]; exact G3 i hi t' ht'
                · intro t' ht'
                  rw [gI_pI]
                  by_cases q3 : t' = t
                  · rw [q3, if_pos ⟨rfl, rfl⟩]
                  · rw [if_neg (by omega)]; exact T3 t' (by omega)
            exact key5 21 0 S2 (by omega) k2.1 G2 (fun t' ht' => absurd ht' (by omega)) F2
      exact key1 10 0 S (by omega) (fun i hi => absurd hi (by rw [cnt]; omega)) (FrI.rf _ _)
  · refine ⟨-1, L, fun d S hd hC => ?_, fun d S hd hM => ?_, h⟩
    · obtain ⟨d, rfl, hd⟩ := dsucc hd
      exact zEv.of cw_X6_ask (Nat.le_of_ble_eq_true rfl) rfl (blk_X6_ask_0 ⟨_, S, ev_isField (by omega) hC h.1 _, b01_if (fun _ => ⟨rfl, hC, FrI.rf _ _⟩) (fun q => ⟨_, S, ev_within S v2 0 1, b01_if' (fun q2 => absurd ⟨q, q2⟩ c) (fun _ => ⟨rfl, hC, FrI.rf _ _⟩)⟩)⟩)
    · obtain ⟨d, rfl, hd⟩ := dsucc hd
      exact zEv.of cw_X7_ask (Nat.le_of_ble_eq_true rfl) rfl (blk_X7_ask_0 ⟨_, S, ev_isField7 (by omega) hM h.1 _, b01_if (fun _ => ⟨rfl, hM, FrI.rf _ _⟩) (fun q => ⟨_, S, ev_isPart (by omega) S v2, b01_if' (fun q2 => absurd ⟨q, q2⟩ c) (fun _ => ⟨rfl, hM, FrI.rf _ _⟩)⟩)⟩)
