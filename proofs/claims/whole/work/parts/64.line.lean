/-! A LINE: one outcome for both (fault, its place, where the line ends, the land, whether glut is told) -/
abbrev Out : Type := Nat × Nat × Nat × Lnd × Bool
def o1 (f w : Nat) (k : Out) : Out := if f = 0 then k else (f, w, 0, fun _ _ => 0, false)
theorem o1_0 {f w : Nat} {k : Out} (h : f = 0) : o1 f w k = k := by unfold o1; rw [if_pos h]
theorem o1_n {f w : Nat} {k : Out} (h : f ≠ 0) : (o1 f w k).1 = f ∧ (o1 f w k).2.1 = w := by unfold o1; rw [if_neg h]; exact ⟨rfl, rfl⟩
def adF (L : Lnd) (k e b : Int) : Lnd := fun r j => if r = 0 ∧ j = 8 then L 0 8 + 1 else if r = 1 ∧ j = nF L then k else if r = 2 ∧ j = nF L then e else if r = 3 ∧ j = nF L then b else L r j
theorem adF_n {L : Lnd} {k e b : Int} (h : 0 ≤ L 0 8) : nF (adF L k e b) = nF L + 1 ∧ nB (adF L k e b) = nB L ∧ nS (adF L k e b) = nS L := by
  refine ⟨?_, ?_, ?_⟩
  · unfold nF adF; rw [if_pos ⟨rfl, rfl⟩]; omega
  · unfold nB adF; rw [if_neg (by omega), if_neg (by omega), if_neg (by omega), if_neg (by omega)]
  · unfold nS adF; rw [if_neg (by omega), if_neg (by omega), if_neg (by omega), if_neg (by omega)]
def foO (tp : Nat → Nat) (n e : Nat) (L : Lnd) (gt : Bool) (c : Nat) : Out := o1 (nmF tp n e 0 99) (sk tp n e) (o1 (nmF tp n (tE tp n e) 0 9) (sk tp n (tE tp n e)) (o1 (smF tp n (tE tp n (tE tp n e))) (sk tp n (tE tp n (tE tp n e))) (0, 0, tE tp n (tE tp n (tE tp n e)), adF L c (tV tp n e) (tV tp n (tE tp n e)), gt)))
def boO (tp : Nat → Nat) (n e : Nat) (L : Lnd) (gt : Bool) : Out := o1 (nmF tp n e 0 5) (sk tp n e) (o1 (nmF tp n (tE tp n e) 1 9) (sk tp n (tE tp n e)) (o1 (smF tp n (tE tp n (tE tp n e))) (sk tp n (tE tp n (tE tp n e))) (0, 0, tE tp n (tE tp n (tE tp n e)), adB L (tV tp n e) (tV tp n (tE tp n e)), gt)))
def goO (tp : Nat → Nat) (n e : Nat) (L : Lnd) : Out := o1 (nmF tp n e 1 99) (sk tp n e) (o1 (smF tp n (tE tp n e)) (sk tp n (tE tp n e)) (0, 0, tE tp n (tE tp n e), updL L 0 11 (tV tp n e), true))
def coO (tp : Nat → Nat) (n s e : Nat) (L : Lnd) (gt : Bool) (c : Nat) : Out := if c = 6 then (2, s, 0, L, gt) else if c = 5 then o1 (if gt = true then 4 else 0) s (goO tp n e L) else if c = 4 then o1 (if 4 ≤ nB L then 5 else 0) s (boO tp n e L gt) else o1 (if 6 ≤ nF L then 5 else 0) s (foO tp n e L gt c)
def lnO (tp : Nat → Nat) (n p : Nat) (L : Lnd) (gt : Bool) : Out := o1 (dueF (tK tp n p) 1) (sk tp n p) (coO tp n (sk tp n p) (tE tp n p) L gt (nmC tp (sk tp n p) (tE tp n p)))
/-- what holds of a draft -/
def WFd (L : Lnd) : Prop := (0 ≤ L 0 8 ∧ L 0 8 ≤ 6) ∧ (0 ≤ L 0 9 ∧ L 0 9 ≤ 4) ∧ L 0 10 = 0 ∧ (1 ≤ L 0 11 ∧ L 0 11 ≤ 99) ∧ L 0 12 = 0 ∧ L 0 13 = 0 ∧ (∀ f, f < nF L → (0 ≤ L 1 f ∧ L 1 f ≤ 3) ∧ (0 ≤ L 2 f ∧ L 2 f ≤ 99) ∧ (0 ≤ L 3 f ∧ L 3 f ≤ 9)) ∧ (∀ b, b < nB L → (0 ≤ L 4 b ∧ L 4 b ≤ 5) ∧ (1 ≤ L 5 b ∧ L 5 b ≤ 9))
theorem WFd.f8 {L : Lnd} (h : WFd L) : nF L ≤ 6 ∧ L 0 8 = (nF L : Int) := by have := h.1; unfold nF; omega
theorem WFd.b9 {L : Lnd} (h : WFd L) : nB L ≤ 4 ∧ L 0 9 = (nB L : Int) := by have := h.2.1; unfold nB; omega
theorem WFd.s0 {L : Lnd} (h : WFd L) : nS L = 0 := by have := h.2.2.1; unfold nS; omega
theorem WFd_F {L : Lnd} (h : WFd L) (hn : nF L < 6) {k e b : Int} (hk : 0 ≤ k ∧ k ≤ 3) (he : 0 ≤ e ∧ e ≤ 99) (hb : 0 ≤ b ∧ b ≤ 9) : WFd (adF L k e b) := by
  obtain ⟨n1, n2, n3⟩ := adF_n (L := L) (k := k) (e := e) (b := b) h.1.1
  have w8 := h.f8
  have e8 : adF L k e b 0 8 = L 0 8 + 1 := by unfold adF; rw [if_pos ⟨rfl, rfl⟩]
  have e0 : ∀ j, j ≠ 8 → adF L k e b 0 j = L 0 j := fun j hj => by unfold adF; rw [if_neg (by omega), if_neg (by omega), if_neg (by omega), if_neg (by omega)]
  have er : ∀ r j, 4 ≤ r → adF L k e b r j = L r j := fun r j hr => by unfold adF; rw [if_neg (by omega), if_neg (by omega), if_neg (by omega), if_neg (by omega)]
  refine ⟨by rw [e8]; omega, by rw [e0 9 (by omega)]; exact h.2.1, by rw [e0 10 (by omega)]; exact h.2.2.1, by rw [e0 11 (by omega)]; exact h.2.2.2.1, by rw [e0 12 (by omega)]; exact h.2.2.2.2.1, by rw [e0 13 (by omega)]; exact h.2.2.2.2.2.1, fun f hf => ?_, fun b' hb' => ?_⟩
  · rw [n1] at hf
    unfold adF
    by_cases q : f = nF L
    · rw [if_neg (by omega), if_pos ⟨rfl, q⟩, if_neg (by omega), if_neg (by omega), if_pos ⟨rfl, q⟩, if_neg (by omega), if_neg (by omega), if_neg (by omega), if_pos ⟨rfl, q⟩]
      exact ⟨hk, he, hb⟩
    · rw [if_neg (by omega), if_neg (by omega), if_neg (by omega), if_neg (by omega), if_neg (by omega), if_neg (by omega), if_neg (by omega), if_neg (by omega), if_neg (by omega), if_neg (by omega), if_neg (by omega), if_neg (by omega)]
      exact h.2.2.2.2.2.2.1 f (by omega)
  · rw [er 4 b' (by omega), er 5 b' (by omega)]
    exact h.2.2.2.2.2.2.2 b' (by rw [← n2]; exact hb')
theorem WFd_B {L : Lnd} (h : WFd L) (hn : nB L < 4) {f l : Int} (hf : 0 ≤ f ∧ f ≤ 5) (hl : 1 ≤ l ∧ l ≤ 9) : WFd (adB L f l) := by
  obtain ⟨n1, n2, n3⟩ := adB_n (L := L) (f := f) (l := l) h.2.1.1
  have w9 := h.b9
  have e9 : adB L f l 0 9 = L 0 9 + 1 := by unfold adB; rw [if_pos ⟨rfl, rfl⟩]
  have e0 : ∀ j, j ≠ 9 → adB L f l 0 j = L 0 j := fun j hj => by unfold adB; rw [if_neg (by omega), if_neg (by omega), if_neg (by omega)]
  have er : ∀ r j, r ≠ 0 → r ≠ 4 → r ≠ 5 → adB L f l r j = L r j := fun r j a b c => by unfold adB; rw [if_neg (by omega), if_neg (by omega), if_neg (by omega)]
  refine ⟨by rw [e0 8 (by omega)]; exact h.1, by rw [e9]; omega, by rw [e0 10 (by omega)]; exact h.2.2.1, by rw [e0 11 (by omega)]; exact h.2.2.2.1, by rw [e0 12 (by omega)]; exact h.2.2.2.2.1, by rw [e0 13 (by omega)]; exact h.2.2.2.2.2.1, fun i hi => ?_, fun b hb => ?_⟩
  · rw [er 1 i (by omega) (by omega) (by omega), er 2 i (by omega) (by omega) (by omega), er 3 i (by omega) (by omega) (by omega)]
    exact h.2.2.2.2.2.2.1 i (by rw [← n2]; exact hi)
  · rw [n1] at hb
    unfold adB
    by_cases q : b = nB L
    · rw [if_neg (by omega), if_pos ⟨rfl, q⟩, if_neg (by omega), if_neg (by omega), if_pos ⟨rfl, q⟩]
      exact ⟨hf, hl⟩
    · rw [if_neg (by omega), if_neg (by omega), if_neg (by omega), if_neg (by omega), if_neg (by omega), if_neg (by omega)]
      exact h.2.2.2.2.2.2.2 b (by omega)
theorem WFd_G {L : Lnd} (h : WFd L) {z : Int} (hz : 1 ≤ z ∧ z ≤ 99) : WFd (updL L 0 11 z) := by
  have e0 : ∀ r j, ¬ (r = 0 ∧ j = 11) → updL L 0 11 z r j = L r j := fun r j q => updL_ne _ _ _ _ q
  have nn := nn_upd (L := L) (r := 0) (j := 11) (z := z) (by omega)
  refine ⟨by rw [e0 0 8 (by omega)]; exact h.1, by rw [e0 0 9 (by omega)]; exact h.2.1, by rw [e0 0 10 (by omega)]; exact h.2.2.1, by rw [updL_at]; exact hz, by rw [e0 0 12 (by omega)]; exact h.2.2.2.2.1, by rw [e0 0 13 (by omega)]; exact h.2.2.2.2.2.1, fun i hi => ?_, fun b hb => ?_⟩
  · rw [e0 1 i (by omega), e0 2 i (by omega), e0 3 i (by omega)]; exact h.2.2.2.2.2.2.1 i (by rw [← nn.1]; exact hi)
  · rw [e0 4 b (by omega), e0 5 b (by omega)]; exact h.2.2.2.2.2.2.2 b (by rw [← nn.2.1]; exact hb)
theorem nmF_0 {tp : Nat → Nat} {n p lo hi : Nat} (h : nmF tp n p lo hi = 0) : lo ≤ tV tp n p ∧ tV tp n p ≤ hi ∧ tK tp n p = 2 := by
  unfold nmF at h
  by_cases q : dueF (tK tp n p) 2 = 0
  · rw [if_pos q] at h
    by_cases q2 : lo ≤ tV tp n p ∧ tV tp n p ≤ hi
    · exact ⟨q2.1, q2.2, (due_0 q).1⟩
    · rw [if_neg q2] at h; omega
  · rw [if_neg q] at h; exact absurd h q
/-- a good line leaves a good draft, and goes on -/
theorem lnO_ok {tp : Nat → Nat} {n p : Nat} {L : Lnd} {gt : Bool} (h : WFd L) (hp : p ≤ n) (e : (lnO tp n p L gt).1 = 0) : WFd (lnO tp n p L gt).2.2.2.1 ∧ p < (lnO tp n p L gt).2.2.1 ∧ (lnO tp n p L gt).2.2.1 ≤ n ∧ (nF (lnO tp n p L gt).2.2.2.1 = nF L ∨ nF (lnO tp n p L gt).2.2.2.1 = nF L + 1) := by
  have w9 := h.b9
  have w8 := h.f8
  unfold lnO at e ⊢
  by_cases q0 : dueF (tK tp n p) 1 = 0
  · rw [o1_0 q0] at e ⊢
    have tk := due_0 q0
    have s1 := tE_lt (tp := tp) (n := n) (p := p) (by omega)
    have s0 := sk_in (tp := tp) hp
    have e1 := tE_in (tp := tp) (n := n) (p := p) hp
    have e2 := tE_in (tp := tp) (n := n) (p := tE tp n p) e1.2
    have e3 := tE_in (tp := tp) (n := n) (p := tE tp n (tE tp n p)) e2.2
    have e4 := tE_in (tp := tp) (n := n) (p := tE tp n (tE tp n (tE tp n p))) e3.2
    have k1 := sk_in (tp := tp) (n := n) (p := tE tp n p) e1.2
    have k2 := sk_in (tp := tp) (n := n) (p := tE tp n (tE tp n p)) e2.2
    have k3 := sk_in (tp := tp) (n := n) (p := tE tp n (tE tp n (tE tp n p))) e3.2
    have cl := nmC_le tp (sk tp n p) (tE tp n p)
    generalize nmC tp (sk tp n p) (tE tp n p) = c at e cl ⊢
    unfold coO at e ⊢
    by_cases c6 : c = 6
    · rw [if_pos c6] at e; exact absurd e (by show ¬ (2 : Nat) = 0; omega)
    · rw [if_neg c6] at e ⊢
      by_cases c5 : c = 5
      · rw [if_pos c5] at e ⊢
        by_cases f0 : (if gt = true then 4 else 0) = 0
        · rw [o1_0 f0] at e ⊢
          unfold goO at e ⊢
          by_cases f1 : nmF tp n (tE tp n p) 1 99 = 0
          · rw [o1_0 f1] at e ⊢
            by_cases f2 : smF tp n (tE tp n (tE tp n p)) = 0
            · rw [o1_0 f2] at e ⊢
              have v := nmF_0 f1
              exact ⟨WFd_G h (by omega), by show p < tE tp n (tE tp n (tE tp n p)); omega, e3.2, Or.inl (nn_upd (by omega)).1⟩
            · exact absurd (((o1_n f2).1.symm).trans e) f2
          · exact absurd (((o1_n f1).1.symm).trans e) f1
        · exact absurd (((o1_n f0).1.symm).trans e) f0
      · rw [if_neg c5] at e ⊢
        by_cases c4 : c = 4
        · rw [if_pos c4] at e ⊢
          by_cases f0 : (if 4 ≤ nB L then 5 else 0) = 0
          · have nb : nB L < 4 := by
              rcases Nat.lt_or_ge (nB L) 4 with y | y
              · exact y
              · rw [if_pos y] at f0; omega
            rw [o1_0 f0] at e ⊢
            unfold boO at e ⊢
            by_cases f1 : nmF tp n (tE tp n p) 0 5 = 0
            · rw [o1_0 f1] at e ⊢
              by_cases f2 : nmF tp n (tE tp n (tE tp n p)) 1 9 = 0
              · rw [o1_0 f2] at e ⊢
                by_cases f3 : smF tp n (tE tp n (tE tp n (tE tp n p))) = 0
                · rw [o1_0 f3] at e ⊢
                  have v := nmF_0 f1
                  have v2 := nmF_0 f2
                  exact ⟨WFd_B h nb (by omega) (by omega), by show p < tE tp n (tE tp n (tE tp n (tE tp n p))); omega, e4.2, Or.inl (adB_n h.2.1.1).2.1⟩
                · exact absurd (((o1_n f3).1.symm).trans e) f3
              · exact absurd (((o1_n f2).1.symm).trans e) f2
            · exact absurd (((o1_n f1).1.symm).trans e) f1
          · exact absurd (((o1_n f0).1.symm).trans e) f0
        · rw [if_neg c4] at e ⊢
          by_cases f0 : (if 6 ≤ nF L then 5 else 0) = 0
          · have nf : nF L < 6 := by
              rcases Nat.lt_or_ge (nF L) 6 with y | y
              · exact y
              · rw [if_pos y] at f0; omega
            rw [o1_0 f0] at e ⊢
            unfold foO at e ⊢
            by_cases f1 : nmF tp n (tE tp n p) 0 99 = 0
            · rw [o1_0 f1] at e ⊢
              by_cases f2 : nmF tp n (tE tp n (tE tp n p)) 0 9 = 0
              · rw [o1_0 f2] at e ⊢
                by_cases f3 : smF tp n (tE tp n (tE tp n (tE tp n p))) = 0
                · rw [o1_0 f3] at e ⊢
                  have v := nmF_0 f1
                  have v2 := nmF_0 f2
                  exact ⟨WFd_F h nf (by omega) (by omega) (by omega), by show p < tE tp n (tE tp n (tE tp n (tE tp n p))); omega, e4.2, Or.inr (adF_n h.1.1).1⟩
                · exact absurd (((o1_n f3).1.symm).trans e) f3
              · exact absurd (((o1_n f2).1.symm).trans e) f2
            · exact absurd (((o1_n f1).1.symm).trans e) f1
          · exact absurd (((o1_n f0).1.symm).trans e) f0
  · exact absurd (((o1_n q0).1.symm).trans e) q0
