/-! A LINE: the class -/
theorem ev_addField {d : Nat} {S : ZSt} {L : Lnd} (h : HoC S 10 L) (h8 : L 0 8 = (nF L : Int)) (hn : nF L < 6) (k e b : Nat) (hk : k < 1000) (he : e < 1000) (hb : b < 1000) : zEv d mX2_addField [.ref 10, .int (nI k), .int (nI e), .int (nI b)] S (zY (some (.int 1)) (fun S' => HoC S' 10 (adF L k e b) ∧ Fr (ldP 10) S S')) := by
  obtain ⟨n1, n2, n3⟩ := adF_n (L := L) (k := k) (e := e) (b := b) (by omega)
  have g8 : gI S 10 8 = nI (nF L) := by rw [h.g0 (by omega), h8, nI_iv]
  refine zEv.of cw_X2_addField (Nat.le_of_ble_eq_true rfl) rfl (blk_X2_addField_0 zLd_10 ?_)
  rw [g8, ix_cl (by omega)]
  refine ⟨fun _ => ⟨ix_in (by omega) (by omega), fun S2 e2 => ?_⟩, fun z => absurd (nI_lt (a := nF L) (b := 6) (by omega) (by omega)) z⟩
  have g2 : gI S2 10 8 = nI (nF L) := by rw [e2, gI_pI, if_neg (by omega)]; exact g8
  rw [g2, ix_cl (by omega)]
  refine ⟨ix_in (by omega) (by omega), fun S3 e3 => ?_⟩
  have g3 : gI S3 10 8 = nI (nF L) := by rw [e3, gI_pI, if_neg (by omega)]; exact g2
  rw [g3, ix_cl (by omega)]
  refine ⟨ix_in (by omega) (by omega), fun S4 e4 S5 e5 => ?_⟩
  have g4 : gI S4 10 8 = nI (nF L) := by rw [e4, gI_pI, if_neg (by omega)]; exact g3
  rw [g4, nI_1] at e5
  refine ⟨rfl, fun r j hr => ?_, ?_⟩
  · unfold zi
    unfold inR at hr
    rw [n1, n2, n3] at hr
    by_cases q0 : r = 0 ∧ j = 8
    · obtain ⟨rfl, rfl⟩ := q0
      rw [e5, gI_pI, if_pos ⟨rfl, rfl⟩, nI_toInt (by omega)]
      unfold adF
      rw [if_pos ⟨rfl, rfl⟩, h8]; push_cast; rfl
    · rw [e5, gI_pI, if_neg (by omega)]
      unfold adF
      rw [if_neg q0]
      by_cases q1 : r = 1 ∧ j = nF L
      · obtain ⟨rfl, rfl⟩ := q1
        rw [if_pos ⟨rfl, rfl⟩, e4, gI_pI, if_neg (by omega), e3, gI_pI, if_neg (by omega), e2, gI_pI, if_pos ⟨rfl, rfl⟩, nI_toInt (by omega)]
      · rw [if_neg q1]
        by_cases q2 : r = 2 ∧ j = nF L
        · obtain ⟨rfl, rfl⟩ := q2
          rw [if_pos ⟨rfl, rfl⟩, e4, gI_pI, if_neg (by omega), e3, gI_pI, if_pos ⟨rfl, rfl⟩, nI_toInt (by omega)]
        · rw [if_neg q2]
          by_cases q3 : r = 3 ∧ j = nF L
          · obtain ⟨rfl, rfl⟩ := q3
            rw [if_pos ⟨rfl, rfl⟩, e4, gI_pI, if_pos ⟨rfl, rfl⟩, nI_toInt (by omega)]
          · rw [if_neg q3, e4, gI_pI, if_neg (by omega), e3, gI_pI, if_neg (by omega), e2, gI_pI, if_neg (by omega)]
            exact h r j (by unfold inR; omega)
  · rw [e5, e4, e3, e2]
    exact ((((Fr.rf _ _).pI (k := 11) _ (by unfold ldP; omega)).pI (k := 12) _ (by unfold ldP; omega)).pI (k := 13) _ (by unfold ldP; omega)).pI (k := 10) _ (by unfold ldP; omega)
def tlP : Nat → Nat → Prop := fun k j => (k = 39 ∧ 2 ≤ j) ∨ (10 ≤ k ∧ k ≤ 18)
def RC (S : ZSt) (O : Out) : ZSt → Prop := fun S' => (O.1 = 0 → gI S' 39 4 = nI O.2.2.1 ∧ HoC S' 10 O.2.2.2.1 ∧ gI S' 39 8 = b01 (O.2.2.2.2 = true) ∧ gI S' 39 2 = gI S 39 2) ∧ (O.1 ≠ 0 → gI S' 39 2 = nI O.1 ∧ gI S' 39 3 = nI O.2.1) ∧ FrI tlP S S'
theorem RC_bad {S S' : ZSt} {O : Out} (f w : Nat) (hO : O.1 = f ∧ O.2.1 = w) (hf : f ≠ 0) (h2 : gI S' 39 2 = nI f ∧ gI S' 39 3 = nI w) (F : FrI tlP S S') : zY (some (.int (b01 (O.1 = 0)))) (RC S O) (some (.int 0)) S' := by
  refine ⟨?_, fun z => absurd (hO.1.symm.trans z) hf, fun _ => ?_, F⟩
  · rw [b01_f (fun z => hf (hO.1.symm.trans z))]
  · rw [hO.1, hO.2]; exact h2
theorem RC_ok {S S' : ZSt} {O : Out} (e : Nat) (L : Lnd) (g : Bool) (hO : O = (0, 0, e, L, g)) (h4 : gI S' 39 4 = nI e) (hC : HoC S' 10 L) (h8 : gI S' 39 8 = b01 (g = true)) (h2 : gI S' 39 2 = gI S 39 2) (F : FrI tlP S S') : zY (some (.int (b01 (O.1 = 0)))) (RC S O) (some (.int 1)) S' := by
  subst hO
  exact ⟨by rw [b01_p rfl], fun _ => ⟨h4, hC, h8, h2⟩, fun z => absurd rfl z, F⟩
theorem tk_tl : ∀ k j, tkP k j → tlP k j := fun k j h => by unfold tkP at h; unfold tlP; omega
theorem ld_tl : ∀ k j, ldP 10 k j → tlP k j := fun k j h => by unfold ldP at h; unfold tlP; omega
theorem TC.tk {S S' : ZSt} {n : Nat} {tp : Nat → Nat} (h : TC S n tp) (hf : FrI tkP S S') : TC S' n tp := h.fr hf (by unfold tkP; omega) (fun j => by unfold tkP; omega)
theorem HoC.tk {S S' : ZSt} {L : Lnd} (h : HoC S 10 L) (hf : FrI tkP S S') : HoC S' 10 L := h.frB hf (fun r j q => by unfold tkP; omega)
theorem ev_takeField {d : Nat} (hd : 3 ≤ d) {S : ZSt} {n s e c : Nat} {tp : Nat → Nat} {L : Lnd} {gt : Bool} (h : TC S n tp) (hw : TW n tp) (h4 : gI S 39 4 = nI e) (h6 : gI S 39 6 = nI s) (h8 : gI S 39 8 = b01 (gt = true)) (hen : e ≤ n) (hC : HoC S 10 L) (hW : WFd L) (hc : c ≤ 3) : zEv d mX5_takeField [.ref 39, .ref 10, .int (nI c)] S (zY (some (.int (b01 ((o1 (if 6 ≤ nF L then 5 else 0) s (foO tp n e L gt c)).1 = 0)))) (RC S (o1 (if 6 ≤ nF L then 5 else 0) s (foO tp n e L gt c)))) := by
  obtain ⟨d, rfl⟩ : ∃ d', d = d' + 1 := ⟨d - 1, by omega⟩
  have h160 := hw.1
  have w8 := hW.f8
  have e2 := tE_in (tp := tp) (n := n) (p := e) hen
  have e3 := tE_in (tp := tp) (n := n) (p := tE tp n e) e2.2
  have g8 : gI S 10 8 = nI (nF L) := by rw [hC.g0 (by omega), w8.2, nI_iv]
  have v1 := tV_le (tp := tp) (n := n) (p := e)
  have v2 := tV_le (tp := tp) (n := n) (p := tE tp n e)
  refine zEv.of cw_X5_takeField (Nat.le_of_ble_eq_true rfl) rfl (blk_X5_takeField_0 ?_)
  rw [g8, h6]
  refine ⟨fun q => ?_, fun q => ⟨_, _, ev_refuse S 5 _, fun S10 k10 => ⟨Or.inl rfl, ?_⟩⟩⟩
  · have q := (nI_ltiff (b := 6) (by omega) (by omega)).mp q
    rw [if_neg (show ¬ 6 ≤ nF L by omega), o1_0 rfl]
    unfold foO
    refine ⟨_, _, ev_takeNumber (d := d) (by omega) h hw h4 hen 0 99 (by omega) (by omega), fun S2 k2 => b01_if' (fun f1 => ?_) (fun f1 => RC_bad _ _ (o1_n f1) f1 (k2.2.1 f1) (k2.2.2.mono tk_tl))⟩
    rw [o1_0 f1]
    obtain ⟨a4, a7, a2⟩ := k2.1 f1
    refine ⟨_, _, ev_takeNumber (d := d) (by omega) (h.tk k2.2.2) hw a4 e2.2 0 9 (by omega) (by omega), fun S4 k4 => b01_if' (fun f2 => ?_) (fun f2 => RC_bad _ _ (o1_n f2) f2 (k4.2.1 f2) ((k2.2.2.tr k4.2.2).mono tk_tl))⟩
    rw [o1_0 f2]
    obtain ⟨b4, b7, b2⟩ := k4.1 f2
    refine ⟨_, _, ev_takeSemicolon (d := d) (by omega) ((h.tk k2.2.2).tk k4.2.2) hw b4 e3.2, fun S6 k6 => b01_if (fun f3 => RC_bad _ _ (o1_n f3) f3 (k6.2.1 f3) (((k2.2.2.tr k4.2.2).tr k6.2.2).mono tk_tl)) (fun f3 => ?_)⟩
    rw [o1_0 f3]
    obtain ⟨c4, c7, c2⟩ := k6.1 f3
    rw [a7, c7, b7]
    have C6 : HoC S6 10 L := ((hC.tk k2.2.2).tk k4.2.2).tk k6.2.2
    refine ⟨_, _, ev_addField C6 w8.2 q c _ _ (by omega) (by omega) (by omega), fun S8 k8 => ⟨fun z => absurd z (by decide), fun _ => RC_ok _ _ _ rfl ?_ k8.1 ?_ ?_ ((((k2.2.2.tr k4.2.2).tr k6.2.2).mono tk_tl).tr (k8.2.I ld_tl))⟩⟩
    · rw [k8.2.1 39 4 (by unfold ldP; omega)]; exact c4
    · rw [k8.2.1 39 8 (by unfold ldP; omega), k6.2.2 39 8 (by unfold tkP; omega), k4.2.2 39 8 (by unfold tkP; omega), k2.2.2 39 8 (by unfold tkP; omega)]; exact h8
    · rw [k8.2.1 39 2 (by unfold ldP; omega), c2, b2, a2]
  · have q : ¬ nF L < 6 := fun z => q (nI_lt (a := nF L) (b := 6) z (by omega))
    have f5 : (if 6 ≤ nF L then 5 else 0) ≠ 0 := by rw [if_pos (by omega)]; omega
    refine RC_bad _ _ (o1_n f5) f5 ?_ ?_
    · rw [if_pos (by omega), k10, gI_pI, if_neg (by omega), gI_pI, if_pos ⟨rfl, rfl⟩, gI_pI, if_pos ⟨rfl, rfl⟩]; exact ⟨rfl, rfl⟩
    · rw [k10]; exact ((FrI.rf _ _).pI _ (by unfold tlP; omega)).pI _ (by unfold tlP; omega)
theorem ev_takeBand {d : Nat} (hd : 3 ≤ d) {S : ZSt} {n s e : Nat} {tp : Nat → Nat} {L : Lnd} {gt : Bool} (h : TC S n tp) (hw : TW n tp) (h4 : gI S 39 4 = nI e) (h6 : gI S 39 6 = nI s) (h8 : gI S 39 8 = b01 (gt = true)) (hen : e ≤ n) (hC : HoC S 10 L) (hW : WFd L) : zEv d mX5_takeBand [.ref 39, .ref 10] S (zY (some (.int (b01 ((o1 (if 4 ≤ nB L then 5 else 0) s (boO tp n e L gt)).1 = 0)))) (RC S (o1 (if 4 ≤ nB L then 5 else 0) s (boO tp n e L gt)))) := by
  obtain ⟨d, rfl⟩ : ∃ d', d = d' + 1 := ⟨d - 1, by omega⟩
  have h160 := hw.1
  have w9 := hW.b9
  have e2 := tE_in (tp := tp) (n := n) (p := e) hen
  have e3 := tE_in (tp := tp) (n := n) (p := tE tp n e) e2.2
  have g9 : gI S 10 9 = nI (nB L) := by rw [hC.g0 (by omega), w9.2, nI_iv]
  have v1 := tV_le (tp := tp) (n := n) (p := e)
  have v2 := tV_le (tp := tp) (n := n) (p := tE tp n e)
  refine zEv.of cw_X5_takeBand (Nat.le_of_ble_eq_true rfl) rfl (blk_X5_takeBand_0 ?_)
  rw [g9, h6]
  refine ⟨fun q => ?_, fun q => ⟨_, _, ev_refuse S 5 _, fun S10 k10 => ⟨Or.inl rfl, ?_⟩⟩⟩
  · have q := (nI_ltiff (b := 4) (by omega) (by omega)).mp q
    rw [if_neg (show ¬ 4 ≤ nB L by omega), o1_0 rfl]
    unfold boO
    refine ⟨_, _, ev_takeNumber (d := d) (by omega) h hw h4 hen 0 5 (by omega) (by omega), fun S2 k2 => b01_if' (fun f1 => ?_) (fun f1 => RC_bad _ _ (o1_n f1) f1 (k2.2.1 f1) (k2.2.2.mono tk_tl))⟩
    rw [o1_0 f1]
    obtain ⟨a4, a7, a2⟩ := k2.1 f1
    refine ⟨_, _, ev_takeNumber (d := d) (by omega) (h.tk k2.2.2) hw a4 e2.2 1 9 (by omega) (by omega), fun S4 k4 => b01_if' (fun f2 => ?_) (fun f2 => RC_bad _ _ (o1_n f2) f2 (k4.2.1 f2) ((k2.2.2.tr k4.2.2).mono tk_tl))⟩
    rw [o1_0 f2]
    obtain ⟨b4, b7, b2⟩ := k4.1 f2
    refine ⟨_, _, ev_takeSemicolon (d := d) (by omega) ((h.tk k2.2.2).tk k4.2.2) hw b4 e3.2, fun S6 k6 => b01_if (fun f3 => RC_bad _ _ (o1_n f3) f3 (k6.2.1 f3) (((k2.2.2.tr k4.2.2).tr k6.2.2).mono tk_tl)) (fun f3 => ?_)⟩
    rw [o1_0 f3]
    obtain ⟨c4, c7, c2⟩ := k6.1 f3
    rw [a7, c7, b7, nI_iv, nI_iv]
    have C6 : HoC S6 10 L := ((hC.tk k2.2.2).tk k4.2.2).tk k6.2.2
    have ea := ev_addBand (d := d) zLd_10 C6 (by omega) (tV tp n e) (tV tp n (tE tp n e)) (by unfold inB; omega) (by unfold inB; omega)
    rw [b01_p (show L 0 9 < 4 by omega), if_pos (show L 0 9 < 4 by omega)] at ea
    refine ⟨_, _, ea, fun S8 k8 => ⟨fun z => absurd z (by decide), fun _ => RC_ok _ _ _ rfl ?_ k8.1 ?_ ?_ ((((k2.2.2.tr k4.2.2).tr k6.2.2).mono tk_tl).tr (k8.2.I ld_tl))⟩⟩
    · rw [k8.2.1 39 4 (by unfold ldP; omega)]; exact c4
    · rw [k8.2.1 39 8 (by unfold ldP; omega), k6.2.2 39 8 (by unfold tkP; omega), k4.2.2 39 8 (by unfold tkP; omega), k2.2.2 39 8 (by unfold tkP; omega)]; exact h8
    · rw [k8.2.1 39 2 (by unfold ldP; omega), c2, b2, a2]
  · have q : ¬ nB L < 4 := fun z => q (nI_lt (a := nB L) (b := 4) z (by omega))
    have f5 : (if 4 ≤ nB L then 5 else 0) ≠ 0 := by rw [if_pos (by omega)]; omega
    refine RC_bad _ _ (o1_n f5) f5 ?_ ?_
    · rw [if_pos (by omega), k10, gI_pI, if_neg (by omega), gI_pI, if_pos ⟨rfl, rfl⟩, gI_pI, if_pos ⟨rfl, rfl⟩]; exact ⟨rfl, rfl⟩
    · rw [k10]; exact ((FrI.rf _ _).pI _ (by unfold tlP; omega)).pI _ (by unfold tlP; omega)
theorem ev_takeGlut {d : Nat} (hd : 3 ≤ d) {S : ZSt} {n s e : Nat} {tp : Nat → Nat} {L : Lnd} {gt : Bool} (h : TC S n tp) (hw : TW n tp) (h4 : gI S 39 4 = nI e) (h6 : gI S 39 6 = nI s) (h8 : gI S 39 8 = b01 (gt = true)) (hen : e ≤ n) (hC : HoC S 10 L) : zEv d mX5_takeGlut [.ref 39, .ref 10] S (zY (some (.int (b01 ((o1 (if gt = true then 4 else 0) s (goO tp n e L)).1 = 0)))) (RC S (o1 (if gt = true then 4 else 0) s (goO tp n e L)))) := by
  obtain ⟨d, rfl⟩ : ∃ d', d = d' + 1 := ⟨d - 1, by omega⟩
  have h160 := hw.1
  have e2 := tE_in (tp := tp) (n := n) (p := e) hen
  have v1 := tV_le (tp := tp) (n := n) (p := e)
  refine zEv.of cw_X5_takeGlut (Nat.le_of_ble_eq_true rfl) rfl (blk_X5_takeGlut_0 ?_)
  rw [h8, h6]
  refine b01_if (fun q => ?_) (fun q => ⟨_, _, ev_refuse S 4 _, fun S5 k5 => ⟨Or.inl rfl, ?_⟩⟩)
  · rw [if_neg q, o1_0 rfl]
    unfold goO
    refine ⟨_, _, ev_takeNumber (d := d) (by omega) h hw h4 hen 1 99 (by omega) (by omega), fun S2 k2 => b01_if' (fun f1 => ?_) (fun f1 => RC_bad _ _ (o1_n f1) f1 (k2.2.1 f1) (k2.2.2.mono tk_tl))⟩
    rw [o1_0 f1]
    obtain ⟨a4, a7, a2⟩ := k2.1 f1
    obtain ⟨S3, e3⟩ : ∃ S3, S3 = pI (pI S2 39 8 1) 10 11 (nI (tV tp n e)) := ⟨_, rfl⟩
    have F3 : FrI tlP S S3 := by rw [e3]; exact ((k2.2.2.mono tk_tl).pI _ (by unfold tlP; omega)).pI _ (by unfold tlP; omega)
    have C3 : HoC S3 10 (updL L 0 11 (tV tp n e)) := by
      have c2 : HoC (pI S2 39 8 1) 10 L := (hC.tk k2.2.2).frB (P := fun k j => k = 39) ((FrI.rf _ _).pI _ rfl) (fun r j q => by omega)
      have := c2.put 0 11 (z := (tV tp n e : Int)) (by unfold inB; omega) (by omega)
      rw [e3, nI_iv]; exact this
    have T3 : TC S3 n tp := h.fr F3 (by unfold tlP; omega) (fun j => by unfold tlP; omega)
    have p4 : gI S3 39 4 = nI (tE tp n e) := by rw [e3, gI_pI, if_neg (by omega), gI_pI, if_neg (by omega)]; exact a4
    rw [show gI (pI S2 39 8 1) 39 7 = nI (tV tp n e) by rw [gI_pI, if_neg (by omega)]; exact a7, ← e3]
    refine ⟨_, _, ev_takeSemicolon (d := d) (by omega) T3 hw p4 e2.2, fun S4 k4 => ⟨b01_or _, ?_⟩⟩
    by_cases f2 : smF tp n (tE tp n e) = 0
    · rw [o1_0 f2, b01_p f2]
      obtain ⟨c4, c7, c2⟩ := k4.1 f2
      refine RC_ok _ _ _ rfl c4 (C3.tk k4.2.2) ?_ ?_ (F3.tr (k4.2.2.mono tk_tl))
      · rw [k4.2.2 39 8 (by unfold tkP; omega), e3, gI_pI, if_neg (by omega), gI_pI, if_pos ⟨rfl, rfl⟩]; rfl
      · rw [c2, e3, gI_pI, if_neg (by omega), gI_pI, if_neg (by omega), a2]
    · rw [b01_f f2]
      exact RC_bad _ _ (o1_n f2) f2 (k4.2.1 f2) (F3.tr (k4.2.2.mono tk_tl))
  · have f5 : (if gt = true then 4 else 0) ≠ 0 := by rw [if_pos q]; omega
    refine RC_bad _ _ (o1_n f5) f5 ?_ ?_
    · rw [if_pos q, k5, gI_pI, if_neg (by omega), gI_pI, if_pos ⟨rfl, rfl⟩, gI_pI, if_pos ⟨rfl, rfl⟩]; exact ⟨rfl, rfl⟩
    · rw [k5]; exact ((FrI.rf _ _).pI _ (by unfold tlP; omega)).pI _ (by unfold tlP; omega)
