theorem zf_0 : zfg [] [] := trivial
theorem zf_n {a b : List (Option Value)} {x : Option Value} (h : zfg a b) : zfg (none :: a) (x :: b) := h
theorem zf_s {a b : List (Option Value)} {v : Value} (h : zfg a b) : zfg (some v :: a) (some v :: b) := ⟨rfl, h⟩
section ZR6
variable {d : Nat} {M : ZM} {pc pc' ix : Nat} {ls : List (Option Value)} {st : List Value} {S : ZSt} {Q : Option Value → ZSt → Prop}
theorem s_acopyL {b b' n n' a1 a2 a3 : Nat} {sp dp q : Int32} (h : zD M.2.1 pc (.invokestatic ix) 3 pc') (hl0 : Cond.methodLink M.1.cls ix arraycopyName ∈ zW) (hb : zAr b 0 n) (hb' : zAr b' 0 n') (hw : (st.map fun v => v.category).sum ≤ 8) (hd : 0 < d) (h3 : ¬ sp < 0) (h4 : ¬ dp < 0) (h5 : ¬ q < 0) (h6 : sp.toNatClampNeg + q.toNatClampNeg ≤ n) (h7 : dp.toNatClampNeg + q.toNatClampNeg ≤ n') (e1 : sp.toNatClampNeg = a1) (e2 : dp.toNatClampNeg = a2) (e3 : q.toNatClampNeg = a3) (k : zSem d M pc' ls st (cpI S b b' a1 a2 a3) Q) : zSem d M pc ls (.int q :: .int dp :: .ref b' :: .int sp :: .ref b :: st) S Q := by
  subst e1; subst e2; subst e3
  exact s_acopy h hl0 hb hb' hw hd h3 h4 h5 h6 h7 k
theorem s_aaload2 {i : Int32} (h : zD M.2.1 pc (.aaload) 1 pc') (hi : vp_in i 2) (kt : i.toNatClampNeg = 0 → zSem d M pc' ls (.ref 20 :: st) S Q) (kf : ¬ i.toNatClampNeg = 0 → zSem d M pc' ls (.ref 29 :: st) S Q) : zSem d M pc ls (.int i :: .ref 19 :: st) S Q := by
  refine s_aaload h ar_19 hi ?_
  by_cases e : i.toNatClampNeg = 0
  · rw [e]; exact kt e
  · rw [show zrf 19 i.toNatClampNeg = 29 by unfold zrf; rw [if_neg (by decide), if_neg (by decide), if_pos rfl, if_neg e]]; exact kf e
theorem s_ialoadK {b n j : Nat} {i : Int32} (h : zD M.2.1 pc (.iaload) 1 pc') (hb : zAr b 0 n) (hi : i.toNatClampNeg = j) (hi2 : ¬ i < 0 ∧ j < n) (k : zSem d M pc' ls (.int (gI S b j) :: st) S Q) : zSem d M pc ls (.int i :: .ref b :: st) S Q := by
  subst hi
  exact s_iaload h hb (fun q => q.elim hi2.1 (fun q => absurd hi2.2 (Nat.not_lt.mpr q))) k
theorem s_zaloadK {b n j : Nat} {i : Int32} (h : zD M.2.1 pc (.baload) 1 pc') (hb : zAr b 1 n) (hi : i.toNatClampNeg = j) (hi2 : ¬ i < 0 ∧ j < n) (k : zSem d M pc' ls (.int (gI S b j) :: st) S Q) : zSem d M pc ls (.int i :: .ref b :: st) S Q := by
  subst hi
  exact s_zaload h hb (fun q => q.elim hi2.1 (fun q => absurd hi2.2 (Nat.not_lt.mpr q))) k
theorem s_baloadK {b n j : Nat} {i : Int32} (h : zD M.2.1 pc (.baload) 1 pc') (hb : zAr b 2 n) (hi : i.toNatClampNeg = j) (hi2 : ¬ i < 0 ∧ j < n) (k : zSem d M pc' ls (.int (gI S b j) :: st) S Q) : zSem d M pc ls (.int i :: .ref b :: st) S Q := by
  subst hi
  exact s_baload h hb (fun q => q.elim hi2.1 (fun q => absurd hi2.2 (Nat.not_lt.mpr q))) k
theorem s_laloadK {b n j : Nat} {i : Int32} (h : zD M.2.1 pc (.laload) 1 pc') (hb : zAr b 3 n) (hi : i.toNatClampNeg = j) (hi2 : ¬ i < 0 ∧ j < n) (k : zSem d M pc' ls (.long (gL S b j) :: st) S Q) : zSem d M pc ls (.int i :: .ref b :: st) S Q := by
  subst hi
  exact s_laload h hb (fun q => q.elim hi2.1 (fun q => absurd hi2.2 (Nat.not_lt.mpr q))) k
theorem s_iastoreK {b n j : Nat} {i : Int32} {x : Int32} (h : zD M.2.1 pc (.iastore) 1 pc') (hb : zAr b 0 n) (hi : i.toNatClampNeg = j) (hi2 : ¬ i < 0 ∧ j < n) (k : zSem d M pc' ls st (pI S b j x) Q) : zSem d M pc ls (.int x :: .int i :: .ref b :: st) S Q := by
  subst hi
  exact s_iastore h hb (fun q => q.elim hi2.1 (fun q => absurd hi2.2 (Nat.not_lt.mpr q))) k
theorem s_zastoreK {b n j : Nat} {i : Int32} {x : Int32} (h : zD M.2.1 pc (.bastore) 1 pc') (hb : zAr b 1 n) (hi : i.toNatClampNeg = j) (hi2 : ¬ i < 0 ∧ j < n) (k : zSem d M pc' ls st (pI S b j (vp_nar .boolean x)) Q) : zSem d M pc ls (.int x :: .int i :: .ref b :: st) S Q := by
  subst hi
  exact s_zastore h hb (fun q => q.elim hi2.1 (fun q => absurd hi2.2 (Nat.not_lt.mpr q))) k
theorem s_bastoreK {b n j : Nat} {i : Int32} {x : Int32} (h : zD M.2.1 pc (.bastore) 1 pc') (hb : zAr b 2 n) (hi : i.toNatClampNeg = j) (hi2 : ¬ i < 0 ∧ j < n) (k : zSem d M pc' ls st (pI S b j (vp_nar .byte x)) Q) : zSem d M pc ls (.int x :: .int i :: .ref b :: st) S Q := by
  subst hi
  exact s_bastore h hb (fun q => q.elim hi2.1 (fun q => absurd hi2.2 (Nat.not_lt.mpr q))) k
theorem s_lastoreK {b n j : Nat} {i : Int32} {x : Int64} (h : zD M.2.1 pc (.lastore) 1 pc') (hb : zAr b 3 n) (hi : i.toNatClampNeg = j) (hi2 : ¬ i < 0 ∧ j < n) (k : zSem d M pc' ls st (pL S b j x) Q) : zSem d M pc ls (.long x :: .int i :: .ref b :: st) S Q := by
  subst hi
  exact s_lastore h hb (fun q => q.elim hi2.1 (fun q => absurd hi2.2 (Nat.not_lt.mpr q))) k
end ZR6
theorem c_bi_m20 : (Int8.ofInt (-20)).toInt32 = (-20) := by decide
theorem c_bi_m14 : (Int8.ofInt (-14)).toInt32 = (-14) := by decide
theorem c_bi_m12 : (Int8.ofInt (-12)).toInt32 = (-12) := by decide
theorem c_bi_m11 : (Int8.ofInt (-11)).toInt32 = (-11) := by decide
theorem c_bi_m10 : (Int8.ofInt (-10)).toInt32 = (-10) := by decide
theorem c_bi_m4 : (Int8.ofInt (-4)).toInt32 = (-4) := by decide
theorem c_bi_m3 : (Int8.ofInt (-3)).toInt32 = (-3) := by decide
theorem c_bi_m2 : (Int8.ofInt (-2)).toInt32 = (-2) := by decide
theorem c_bi_6 : (Int8.ofInt 6).toInt32 = 6 := by decide
theorem c_bi_8 : (Int8.ofInt 8).toInt32 = 8 := by decide
theorem c_bi_9 : (Int8.ofInt 9).toInt32 = 9 := by decide
theorem c_bi_10 : (Int8.ofInt 10).toInt32 = 10 := by decide
theorem c_bi_13 : (Int8.ofInt 13).toInt32 = 13 := by decide
theorem c_bi_16 : (Int8.ofInt 16).toInt32 = 16 := by decide
theorem c_bi_18 : (Int8.ofInt 18).toInt32 = 18 := by decide
theorem c_bi_19 : (Int8.ofInt 19).toInt32 = 19 := by decide
theorem c_bi_20 : (Int8.ofInt 20).toInt32 = 20 := by decide
theorem c_bi_21 : (Int8.ofInt 21).toInt32 = 21 := by decide
theorem c_bi_27 : (Int8.ofInt 27).toInt32 = 27 := by decide
theorem c_bi_28 : (Int8.ofInt 28).toInt32 = 28 := by decide
theorem c_bi_29 : (Int8.ofInt 29).toInt32 = 29 := by decide
theorem c_bi_30 : (Int8.ofInt 30).toInt32 = 30 := by decide
theorem c_bi_31 : (Int8.ofInt 31).toInt32 = 31 := by decide
theorem c_bi_32 : (Int8.ofInt 32).toInt32 = 32 := by decide
theorem c_bi_40 : (Int8.ofInt 40).toInt32 = 40 := by decide
theorem c_bi_48 : (Int8.ofInt 48).toInt32 = 48 := by decide
theorem c_bi_50 : (Int8.ofInt 50).toInt32 = 50 := by decide
theorem c_bi_57 : (Int8.ofInt 57).toInt32 = 57 := by decide
theorem c_bi_59 : (Int8.ofInt 59).toInt32 = 59 := by decide
theorem c_bi_60 : (Int8.ofInt 60).toInt32 = 60 := by decide
theorem c_bi_80 : (Int8.ofInt 80).toInt32 = 80 := by decide
theorem c_bi_97 : (Int8.ofInt 97).toInt32 = 97 := by decide
theorem c_bi_98 : (Int8.ofInt 98).toInt32 = 98 := by decide
theorem c_bi_99 : (Int8.ofInt 99).toInt32 = 99 := by decide
theorem c_bi_100 : (Int8.ofInt 100).toInt32 = 100 := by decide
theorem c_bi_101 : (Int8.ofInt 101).toInt32 = 101 := by decide
theorem c_bi_102 : (Int8.ofInt 102).toInt32 = 102 := by decide
theorem c_bi_103 : (Int8.ofInt 103).toInt32 = 103 := by decide
theorem c_bi_104 : (Int8.ofInt 104).toInt32 = 104 := by decide
theorem c_bi_105 : (Int8.ofInt 105).toInt32 = 105 := by decide
theorem c_bi_108 : (Int8.ofInt 108).toInt32 = 108 := by decide
theorem c_bi_110 : (Int8.ofInt 110).toInt32 = 110 := by decide
theorem c_bi_112 : (Int8.ofInt 112).toInt32 = 112 := by decide
theorem c_bi_115 : (Int8.ofInt 115).toInt32 = 115 := by decide
theorem c_bi_116 : (Int8.ofInt 116).toInt32 = 116 := by decide
theorem c_bi_117 : (Int8.ofInt 117).toInt32 = 117 := by decide
theorem c_bi_118 : (Int8.ofInt 118).toInt32 = 118 := by decide
theorem c_bi_121 : (Int8.ofInt 121).toInt32 = 121 := by decide
theorem c_bi_122 : (Int8.ofInt 122).toInt32 = 122 := by decide
theorem c_bi_127 : (Int8.ofInt 127).toInt32 = 127 := by decide
theorem c_ic_m1 : Int32.ofInt (-1) = (-1) := by decide
theorem c_ic_0 : Int32.ofInt 0 = 0 := by decide
theorem c_ic_1 : Int32.ofInt 1 = 1 := by decide
theorem c_ic_2 : Int32.ofInt 2 = 2 := by decide
theorem c_ic_3 : Int32.ofInt 3 = 3 := by decide
theorem c_ic_4 : Int32.ofInt 4 = 4 := by decide
theorem c_ic_5 : Int32.ofInt 5 = 5 := by decide
theorem c_ii_m1 (x : Int32) : x + Int32.ofInt (-1) = x + (-1) := by rw [show Int32.ofInt (-1) = (-1) by decide]
theorem c_ii_1 (x : Int32) : x + Int32.ofInt 1 = x + 1 := by rw [show Int32.ofInt 1 = 1 by decide]
theorem c_si_160 : (Int16.ofInt 160).toInt32 = 160 := by decide
theorem c_si_200 : (Int16.ofInt 200).toInt32 = 200 := by decide
theorem c_si_256 : (Int16.ofInt 256).toInt32 = 256 := by decide
theorem c_si_999 : (Int16.ofInt 999).toInt32 = 999 := by decide
theorem c_si_1000 : (Int16.ofInt 1000).toInt32 = 1000 := by decide
theorem c_si_12345 : (Int16.ofInt 12345).toInt32 = 12345 := by decide
theorem c_si_32767 : (Int16.ofInt 32767).toInt32 = 32767 := by decide
