/-! text: both -/
theorem pr_text {c : Ab} (hW : CW c) : Pr mX6_text mX7_text [] c := by
  obtain ⟨n, en⟩ : ∃ n, n = c.2.2.2.1 := ⟨_, rfl⟩
  obtain ⟨tp, et⟩ : ∃ tp, tp = c.2.2.2.2.1 := ⟨_, rfl⟩
  have hw : TW n tp := by rw [en, et]; exact hW.2.2.2
  have h160 := hw.1
  have nar : vp_nar .boolean (0 : Int32) = 0 := by decide
  have cnt : (txO tp n).2.2.1 ≤ n + 1 := by
    have := (alO_W (tp := tp) (n := n) (n + 1) 0 L0 false 0 L0_WFd (by omega)).2
    unfold txO fiO
    split
    · split
      · show (alO tp n (n + 1) 0 L0 false 0).2.2.1 ≤ n + 1; omega
      · omega
    · omega
  by_cases q : (txO tp n).1 = 0
  · have w := txO_W q
    refine ⟨(nI (txO tp n).2.2.1), ((txO tp n).2.2.2, fun _ => none, c.2.2.1, 0, tp, 0, c.2.2.2.2.2.2), fun d S hd hC => ?_, fun d S hd hM => ?_, w, fun k L1 e => absurd e (by simp), hW.2.2.1, by show (0 : Nat) ≤ 160; omega, fun j hj => absurd hj (by show ¬ j < 0; omega)⟩
    · obtain ⟨d, rfl⟩ : ∃ d', d = d' + 1 := ⟨d - 1, by omega⟩
      have t := hC.2.2.2.1
      rw [← en, ← et] at t
      have ev := ev_tellAll (d := d) (by omega) t hw
      rw [if_pos q] at ev
      refine zEv.of cw_X6_text (Nat.le_of_ble_eq_true rfl) rfl (blk_X6_text_0 ⟨_, _, ev, fun S1 k1 => ⟨fun _ => ?_, fun z => absurd (nI_pos' (by omega)) z⟩⟩)
      obtain ⟨C1, f1⟩ := k1.1 q
      have F2 : FrI (fun k j => k = 39 ∧ j = 1) S1 (pI S1 39 1 0) := (FrI.rf _ _).pI _ ⟨rfl, rfl⟩
      have C2 : HoC (pI S1 39 1 0) 10 (txO tp n).2.2.2 := C1.frB F2 (fun r j z => by omega)
      refine ⟨_, ev_copyFrom (by omega) zLd_1 zLd_10 (by omega) C2 w.1.n, fun S3 k3 => ?_⟩
      have F3 : FrI (fun k j => tlP k j ∨ (k = 39 ∧ j = 1) ∨ (1 ≤ k ∧ k ≤ 9)) S S3 := ((k1.2.2.mono (fun k j z => Or.inl z)).tr (F2.mono (fun k j z => Or.inr (Or.inl z)))).tr (k3.2.I (fun k j z => by unfold ldP at z; unfold tlP; omega))
      -- the images are gone
      refine blk_X6_text_48 ⟨fun z => absurd z (by decide), fun _ => ⟨ix_in (j := 0) (n := 2) (by omega) (by omega), ?_⟩⟩
      refine blk_X6_text_48 ⟨fun z => absurd z (by decide), fun _ => ⟨ix_in (j := 1) (n := 2) (by omega) (by omega), ?_⟩⟩
      refine blk_X6_text_48 ⟨fun _ => ⟨rfl, ?_⟩, fun z => absurd (by decide) z⟩
      obtain ⟨S5, e5⟩ : ∃ S5, S5 = pI (pI S3 38 0 0) 38 1 0 := ⟨_, rfl⟩
      have e5' : pI (pI S3 38 (0 : Int32).toNatClampNeg (vp_nar .boolean 0)) 38 ((0 : Int32) + 1).toNatClampNeg (vp_nar .boolean 0) = S5 := by rw [e5, nar]; rfl
      rw [e5']
      have F5 : FrI (fun k j => k = 38) S3 S5 := by rw [e5]; exact ((FrI.rf (fun k _ => k = 38) _).pI _ rfl).pI _ rfl
      have FF : FrI (fun k j => tlP k j ∨ (k = 39 ∧ j = 1) ∨ (1 ≤ k ∧ k ≤ 9) ∨ k = 38) S S5 := (F3.mono (fun k j z => by rcases z with z | z | z; exact Or.inl z; exact Or.inr (Or.inl z); exact Or.inr (Or.inr (Or.inl z)))).tr (F5.mono (fun k j z => Or.inr (Or.inr (Or.inr z))))
      refine ⟨⟨k3.1.frB F5 (fun r j z => by omega), fun k hk => ⟨fun _ => ?_, fun L1 e => absurd e (by simp)⟩, hC.2.2.1.fr FF (fun k j z1 z2 => by unfold tlP; omega), ⟨?_, fun j hj => absurd hj (by show ¬ j < 0; omega)⟩, ?_, ?_⟩, FF.mono (fun k j z => by unfold tlP at z; unfold cP; omega)⟩
      · rw [e5, gI_pI]
        rcases (show k = 0 ∨ k = 1 by omega) with rfl | rfl
        · rw [if_neg (by omega), gI_pI, if_pos ⟨rfl, rfl⟩]
        · rw [if_pos ⟨rfl, rfl⟩]
      · rw [F5 39 1 (by omega), k3.2.1 39 1 (by unfold ldP; omega), gI_pI, if_pos ⟨rfl, rfl⟩]; rfl
      · rw [F5 39 2 (by omega), k3.2.1 39 2 (by unfold ldP; omega), gI_pI, if_neg (by omega)]; exact f1
      · rw [FF 0 9 (by unfold tlP; omega)]; exact hC.2.2.2.2.2
    · have t := hM.2.2.2.1
      rw [← en, ← et] at t
      have ev := ev_textM (d := d) (by omega) t hw
      rw [if_pos q] at ev
      refine zEv_to ev (fun S' k => ?_)
      obtain ⟨k7, k1, -⟩ := k
      obtain ⟨M1, z0, z1, f1, FF⟩ := k1 q
      refine ⟨⟨M1, fun k hk => ⟨fun _ => ?_, fun L1 e => absurd e (by simp)⟩, hM.2.2.1.fr FF (fun k j z1 z2 => by unfold mxP mlP kdP; omega), ⟨by rw [k7]; rfl, fun j hj => absurd hj (by show ¬ j < 0; omega)⟩, f1, ?_⟩, FF.mono (fun k j z => by unfold mxP mlP kdP at z; unfold mP; omega)⟩
      · rcases (show k = 0 ∨ k = 1 by omega) with rfl | rfl
        · exact z0
        · exact z1
      · rw [FF 57 27 (by unfold mxP mlP kdP; omega)]; exact hM.2.2.2.2.2
  · refine ⟨(-10 - nI (txO tp n).2.1), (c.1, c.2.1, c.2.2.1, 0, tp, nI (txO tp n).1, c.2.2.2.2.2.2), fun d S hd hC => ?_, fun d S hd hM => ?_, hW.1, hW.2.1, hW.2.2.1, by show (0 : Nat) ≤ 160; omega, fun j hj => absurd hj (by show ¬ j < 0; omega)⟩
    · obtain ⟨d, rfl⟩ : ∃ d', d = d' + 1 := ⟨d - 1, by omega⟩
      have t := hC.2.2.2.1
      rw [← en, ← et] at t
      have ev := ev_tellAll (d := d) (by omega) t hw
      rw [if_neg q] at ev
      refine zEv.of cw_X6_text (Nat.le_of_ble_eq_true rfl) rfl (blk_X6_text_0 ⟨_, _, ev, fun S1 k1 => ⟨fun z => absurd z (by decide), fun _ => ?_⟩⟩)
      obtain ⟨f1, f2⟩ := k1.2.1 q
      have F2 : FrI (fun k j => tlP k j ∨ (k = 39 ∧ j = 1)) S (pI S1 39 1 0) := (k1.2.2.mono (fun k j z => Or.inl z)).pI _ (Or.inr ⟨rfl, rfl⟩)
      rw [show gI (pI S1 39 1 0) 39 3 = nI (txO tp n).2.1 by rw [gI_pI, if_neg (by omega)]; exact f2]
      refine ⟨rfl, ⟨hC.1.frB F2 (fun r j z => by unfold tlP; omega), hC.2.1.fr F2 (fun k j z1 z2 => by unfold tlP; omega), hC.2.2.1.fr F2 (fun k j z1 z2 => by unfold tlP; omega), ⟨?_, fun j hj => absurd hj (by show ¬ j < 0; omega)⟩, ?_, ?_⟩, F2.mono (fun k j z => by unfold tlP at z; unfold cP; omega)⟩
      · rw [gI_pI, if_pos ⟨rfl, rfl⟩]; rfl
      · rw [gI_pI, if_neg (by omega)]; exact f1
      · rw [F2 0 9 (by unfold tlP; omega)]; exact hC.2.2.2.2.2
    · have t := hM.2.2.2.1
      rw [← en, ← et] at t
      have ev := ev_textM (d := d) (by omega) t hw
      rw [if_neg q] at ev
      refine zEv_to ev (fun S' k => ?_)
      obtain ⟨k7, -, k2⟩ := k
      obtain ⟨f1, FF⟩ := k2 q
      refine ⟨⟨hM.1.frI FF (fun i => by unfold mxP mlP; omega), hM.2.1.fr hW.2.1 FF (fun j => by unfold mxP mlP; omega) (fun j _ => by unfold mxP mlP; omega), hM.2.2.1.fr FF (fun k j z1 z2 => by unfold mxP mlP; omega), ⟨by rw [k7]; rfl, fun j hj => absurd hj (by show ¬ j < 0; omega)⟩, f1, ?_⟩, FF.mono (fun k j z => by unfold mxP mlP at z; unfold mP; omega)⟩
      rw [FF 57 27 (by unfold mxP mlP; omega)]; exact hM.2.2.2.2.2
