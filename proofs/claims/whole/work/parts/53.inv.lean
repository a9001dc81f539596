/-! THE WHOLE STATE: one pure value for both sides -/
abbrev Ab : Type := Lnd × (Nat → Option Lnd) × Sh × Nat × (Nat → Nat) × Int32 × Int32
def TC (S : ZSt) (n : Nat) (tp : Nat → Nat) : Prop := gI S 39 1 = nI n ∧ ∀ j, j < n → gI S 40 j = nI (tp j)
def TM (S : ZSt) (n : Nat) (tp : Nat → Nat) : Prop := gI S 57 7 = nI n ∧ ∀ j, j < n → gI S 62 j = nI (tp j)
def TW (n : Nat) (tp : Nat → Nat) : Prop := n ≤ 160 ∧ ∀ j, j < n → tp j ≤ 127
def CI (S : ZSt) (c : Ab) : Prop := HoC S 1 c.1 ∧ KC S c.2.1 ∧ SC S c.2.2.1 ∧ TC S c.2.2.2.1 c.2.2.2.2.1 ∧ gI S 39 2 = c.2.2.2.2.2.1 ∧ gI S 0 9 = c.2.2.2.2.2.2
def MI (S : ZSt) (c : Ab) : Prop := HoM S 58 0 c.1 ∧ KM S c.2.1 ∧ SM S c.2.2.1 ∧ TM S c.2.2.2.1 c.2.2.2.2.1 ∧ gI S 57 12 = c.2.2.2.2.2.1 ∧ gI S 57 27 = c.2.2.2.2.2.2
def CW (c : Ab) : Prop := WFc c.1 ∧ (∀ k L1, c.2.1 k = some L1 → WFc L1) ∧ SW c.2.2.1 ∧ TW c.2.2.2.1 c.2.2.2.2.1
def cP : Nat → Nat → Prop := fun k _ => k ≤ 56
def mP : Nat → Nat → Prop := fun k _ => 57 ≤ k
def Ck (mc : ZM) (as : List Value) (c : Ab) (r : Value) (c' : Ab) : Prop := ∀ (d : Nat) (S : ZSt), 11 ≤ d → CI S c → zEv d mc (.ref 0 :: as) S (zY (some r) (fun S' => CI S' c' ∧ FrI cP S S'))
def Mk (mm : ZM) (as : List Value) (c : Ab) (r : Value) (c' : Ab) : Prop := ∀ (d : Nat) (S : ZSt), 11 ≤ d → MI S c → zEv d mm (.ref 57 :: as) S (zY (some r) (fun S' => MI S' c' ∧ FrI mP S S'))
def Pr (mc mm : ZM) (as : List Value) (c : Ab) : Prop := ∃ (r : Int32) (c' : Ab), Ck mc as c (.int r) c' ∧ Mk mm as c (.int r) c' ∧ CW c'
def PrJ (mc mm : ZM) (as : List Value) (c : Ab) : Prop := ∃ (r : Int64) (c' : Ab), Ck mc as c (.long r) c' ∧ Mk mm as c (.long r) c' ∧ CW c'
theorem zEv.imp {d : Nat} {M : ZM} {args : List Value} {S : ZSt} {Q Q' : Option Value → ZSt → Prop} (h : zEv d M args S Q) (hq : ∀ r S', Q r S' → Q' r S') : zEv d M args S Q' := by
  intro l D ad cA rm a b c e p e2 ha hc hk s m args below hf happ hP hK
  obtain ⟨n, o, h1, h2, h3, h4⟩ := h l D ad cA rm a b c e p e2 ha hc hk s m args below hf happ hP hK
  obtain ⟨⟨⟨r, S', e1, e2, e3⟩, h5⟩, h6⟩ := h4
  exact ⟨n, o, h1, h2, h3, ⟨⟨r, S', e1, hq r S' e2, e3⟩, h5⟩, h6⟩
theorem zEv_to {d : Nat} {M : ZM} {args : List Value} {S : ZSt} {r : Option Value} {P P' : ZSt → Prop} (h : zEv d M args S (zY r P)) (hq : ∀ S', P S' → P' S') : zEv d M args S (zY r P') := h.imp (fun _ S' q => ⟨q.1, hq S' q.2⟩)
theorem zEv_xy {d : Nat} {M : ZM} {args : List Value} {S : ZSt} {r : Option Value} {P : ZSt → Prop} (h : zEv d M args S (zX r S)) (hq : P S) : zEv d M args S (zY r P) := h.imp (fun _ S' q => ⟨q.1, by rw [q.2]; exact hq⟩)
theorem KC.fr {S S' : ZSt} {K : Nat → Option Lnd} {P : Nat → Nat → Prop} (h : KC S K) (hf : FrI P S S') (hp : ∀ k j, 20 ≤ k → k ≤ 38 → ¬ P k j) : KC S' K := by
  intro k hk
  refine ⟨fun z => by rw [hf 38 k (hp _ _ (by omega) (by omega))]; exact (h k hk).1 z, fun L1 e => ?_⟩
  have o := (h k hk).2 L1 e
  exact ⟨by rw [hf 38 k (hp _ _ (by omega) (by omega))]; exact o.1, o.2.frB hf (fun r j q => hp _ _ (by omega) (by omega))⟩
theorem KM.fr {S S' : ZSt} {K : Nat → Option Lnd} {P : Nat → Nat → Prop} (h : KM S K) (hW : ∀ k L1, K k = some L1 → WFc L1) (hf : FrI P S S') (h1 : ∀ j, ¬ P 60 j) (h2 : ∀ j, 50 ≤ j → ¬ P 58 j) : KM S' K := by
  intro k hk
  refine ⟨fun z => by rw [hf 60 k (h1 _)]; exact (h k hk).1 z, fun L1 e => ?_⟩
  have o := (h k hk).2 L1 e
  refine ⟨by rw [hf 60 k (h1 _)]; exact o.1, HoM.frB (hW k L1 e).1 o.2 (fun i hi => hf 58 _ (h2 _ (by omega)))⟩
theorem TC.fr {S S' : ZSt} {n : Nat} {tp : Nat → Nat} {P : Nat → Nat → Prop} (h : TC S n tp) (hf : FrI P S S') (h1 : ¬ P 39 1) (h2 : ∀ j, ¬ P 40 j) : TC S' n tp := ⟨by rw [hf 39 1 h1]; exact h.1, fun j hj => by rw [hf 40 j (h2 j)]; exact h.2 j hj⟩
theorem TM.fr {S S' : ZSt} {n : Nat} {tp : Nat → Nat} {P : Nat → Nat → Prop} (h : TM S n tp) (hf : FrI P S S') (h1 : ¬ P 57 7) (h2 : ∀ j, ¬ P 62 j) : TM S' n tp := ⟨by rw [hf 57 7 h1]; exact h.1, fun j hj => by rw [hf 62 j (h2 j)]; exact h.2 j hj⟩
theorem CI.m {S S' : ZSt} {c : Ab} (h : CI S c) (hf : FrI mP S S') : CI S' c := by
  obtain ⟨a1, a2, a3, a4, a5, a6⟩ := h
  refine ⟨a1.frB hf (fun r j q => by unfold mP; omega), a2.fr hf (fun k j q1 q2 => by unfold mP; omega), a3.fr hf (fun k j q1 q2 => by unfold mP; omega), a4.fr hf (by unfold mP; omega) (fun j => by unfold mP; omega), ?_, ?_⟩
  · rw [hf 39 2 (by unfold mP; omega)]; exact a5
  · rw [hf 0 9 (by unfold mP; omega)]; exact a6
theorem MI.c {S S' : ZSt} {c : Ab} (hW : CW c) (h : MI S c) (hf : FrI cP S S') : MI S' c := by
  obtain ⟨a1, a2, a3, a4, a5, a6⟩ := h
  refine ⟨a1.frI hf (fun i => by unfold cP; omega), a2.fr hW.2.1 hf (fun j => by unfold cP; omega) (fun j _ => by unfold cP; omega), a3.fr hf (fun k j q1 q2 => by unfold cP; omega), a4.fr hf (by unfold cP; omega) (fun j => by unfold cP; omega), ?_, ?_⟩
  · rw [hf 57 12 (by unfold cP; omega)]; exact a5
  · rw [hf 57 27 (by unfold cP; omega)]; exact a6
theorem cls_c : ∀ k j, clsP k j → cP k j := fun k j h => by unfold clsP at h; unfold cP; omega
theorem mod_m : ∀ k j, modP k j → mP k j := fun k j h => by unfold modP at h; unfold mP; omega
/-- the land alone changes -/
theorem CI.land {S S' : ZSt} {c : Ab} {L' : Lnd} (h : CI S c) (hL : HoC S' 1 L') (hf : FrI clsP S S') : CI S' (L', c.2) := by
  obtain ⟨a1, a2, a3, a4, a5, a6⟩ := h
  refine ⟨hL, a2.fr hf (fun k j q1 q2 => by unfold clsP; omega), a3.fr hf (fun k j q1 q2 => by unfold clsP; omega), a4.fr hf (by unfold clsP; omega) (fun j => by unfold clsP; omega), ?_, ?_⟩
  · rw [hf 39 2 (by unfold clsP; omega)]; exact a5
  · rw [hf 0 9 (by unfold clsP; omega)]; exact a6
theorem MI.land {S S' : ZSt} {c : Ab} {L' : Lnd} (hW : CW c) (h : MI S c) (hL : HoM S' 58 0 L') (hf : FrI modP S S') : MI S' (L', c.2) := by
  obtain ⟨a1, a2, a3, a4, a5, a6⟩ := h
  refine ⟨hL, a2.fr hW.2.1 hf (fun j => by unfold modP; omega) (fun j _ => by unfold modP; omega), a3.fr hf (fun k j q1 q2 => by unfold modP; omega), a4.fr hf (by unfold modP; omega) (fun j => by unfold modP; omega), ?_, ?_⟩
  · rw [hf 57 12 (by unfold modP; omega)]; exact a5
  · rw [hf 57 27 (by unfold modP; omega)]; exact a6
theorem Both.pr {mc mm : ZM} {as : List Value} {c : Ab} (hW : CW c) (h : Both mc mm as c.1) : Pr mc mm as c := by
  obtain ⟨r, L', h1, h2, h3⟩ := h
  refine ⟨r, (L', c.2), fun d S hd hC => ?_, fun d S hd hM => ?_, h3, hW.2⟩
  · exact zEv_to (h1 d S (by omega) hC.1) (fun S' k => ⟨hC.land k.1 k.2, k.2.mono cls_c⟩)
  · exact zEv_to (h2 d S (by omega) hM.1) (fun S' k => ⟨hM.land hW k.1 k.2, k.2.mono mod_m⟩)
