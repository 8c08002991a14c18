/-! ===== the class: scenes ===== -/
section CC
variable {G : GP} {l : Launch} {K : Option AV → AH → Prop} {h : AH} {ρ : Pic}
variable {s : Nat}
theorem sS_size (x : SC h s ρ) (hK : K (some (vI (nI (pcc ρ)))) h) : Spec G l (mt mS_size) [vR s] h K := by
  refine eS_size 9 [] fun S Cu hS hC => ?_
  refine ld _ x.ob x.2.2.1.1.1 ?_
  refine ld _ x.ob x.2.2.1.1.2.1 ?_
  exact rtI (K := K) (pk_mul _ _) hK
theorem sS_holds {a b : Int32} (x : SC h s ρ) (hK : K (some (vI (bI (isC ρ a b)))) h) : Spec G l (mt mS_holds) [vR s, vI a, vI b] h K := by
  have g := x.2.2.2.n
  have i1 := inN_iff (x := a) (n := pcw ρ) (by omega)
  have i2 := inN_iff (x := b) (n := pch ρ) (by omega)
  refine eS_holds 39 [] fun S Cu hS hC => ?_
  refine And.intro (fun q => ?_) (fun q => ?_)
  · exact rzF (fun z => absurd (i1.mp z.1).1 (Int32.not_le.mpr q)) hK
  refine ld _ x.ob x.2.2.1.1.1 ?_
  refine And.intro (fun q2 => ?_) (fun q2 => ?_)
  · exact rzF (fun z => absurd (i1.mp z.1).2 (Int32.not_lt.mpr q2)) hK
  refine And.intro (fun q3 => ?_) (fun q3 => ?_)
  · exact rzF (fun z => absurd (i2.mp z.2).1 (Int32.not_le.mpr q3)) hK
  refine ld _ x.ob x.2.2.1.1.2.1 ?_
  refine And.intro (fun q4 => ?_) (fun q4 => ?_)
  · exact rzF (fun z => absurd (i2.mp z.2).2 (Int32.not_lt.mpr q4)) hK
  · exact rzT ⟨i1.mpr ⟨Int32.not_lt.mp q, Int32.not_le.mp q2⟩, i2.mpr ⟨Int32.not_lt.mp q3, Int32.not_le.mp q4⟩⟩ hK
theorem sS_has {a : Int32} (x : SC h s ρ) (hK : K (some (vI (bI (inN a (pcn ρ))))) h) : Spec G l (mt mS_has) [vR s, vI a] h K := by
  have g := x.2.2.2.n
  have i1 := inN_iff (x := a) (n := pcn ρ) (by omega)
  refine eS_has 39 [] fun S Cu hS hC => ?_
  refine And.intro (fun q => ?_) (fun q => ?_)
  · exact rzF (fun z => absurd (i1.mp z).1 (Int32.not_le.mpr q)) hK
  refine ld _ x.ob x.2.2.1.1.2.2.1 ?_
  refine And.intro (fun q2 => ?_) (fun q2 => ?_)
  · exact rzF (fun z => absurd (i1.mp z).2 (Int32.not_lt.mpr q2)) hK
  · exact rzT (i1.mpr ⟨Int32.not_lt.mp q, Int32.not_le.mp q2⟩) hK
theorem sS_numberOf {a b : Int32} {i j : Nat} (x : SC h s ρ) (ha : a = nI i) (hb : b = nI j) (hK : K (some (vI (nI (pcw ρ * j + i)))) h) : Spec G l (mt mS_numberOf) [vR s, vI a, vI b] h K := by
  subst ha; subst hb
  refine eS_numberOf 19 [] fun S Cu hS hC => ?_
  refine ld _ x.ob x.2.2.1.1.1 ?_
  refine rtI (K := K) ?_ hK
  rw [pk_mul, nI_add, Nat.mul_comm]
theorem sS_columnOf {a : Int32} {c : Nat} (x : SC h s ρ) (ha : a = nI c) (hc : c < 2 ^ 31) (hK : K (some (vI (nI (c % pcw ρ)))) h) : Spec G l (mt mS_columnOf) [vR s, vI a] h K := by
  subst ha
  have g := x.2.2.2.n
  refine eS_columnOf 19 [] fun S Cu hS hC => ?_
  refine ld _ x.ob x.2.2.1.1.1 ?_
  refine pk_le (pcw ρ) 0 (fun q => by omega) (fun _ => ?_)
  refine ld _ x.ob x.2.2.1.1.1 ?_
  refine And.intro (nI_ne0 (by omega) (by omega)) ?_
  exact rtI (K := K) (pk_rem hc (by omega) (by omega)) hK
theorem sS_rowOf {a : Int32} {c : Nat} (x : SC h s ρ) (ha : a = nI c) (hc : c < 2 ^ 31) (hK : K (some (vI (nI (c / pcw ρ)))) h) : Spec G l (mt mS_rowOf) [vR s, vI a] h K := by
  subst ha
  have g := x.2.2.2.n
  refine eS_rowOf 19 [] fun S Cu hS hC => ?_
  refine ld _ x.ob x.2.2.1.1.1 ?_
  refine pk_le (pcw ρ) 0 (fun q => by omega) (fun _ => ?_)
  refine ld _ x.ob x.2.2.1.1.1 ?_
  refine And.intro (nI_ne0 (by omega) (by omega)) ?_
  exact rtI (K := K) (pk_div hc (by omega) (by omega)) hK
theorem sS_weightAt {a b : Int32} {i j : Nat} (x : SC h s ρ) (ha : a = nI i) (hb : b = nI j) (hc : pcw ρ * j + i < pcc ρ) (hK : K (some (vI (nI (pcW ρ (pcw ρ * j + i))))) h) : Spec G l (mt mS_weightAt) [vR s, vI a, vI b] h K := by
  subst ha; subst hb
  have gc := x.2.2.2.c
  refine eS_weightAt 19 [] fun S Cu hS hC => ?_
  refine ld _ x.ob x.r4 ?_
  refine ld _ x.ob x.2.2.1.1.1 ?_
  have e : nI j * nI (pcw ρ) + nI i = nI (pcw ρ * j + i) := by rw [pk_mul, nI_add, Nat.mul_comm]
  exact ld _ (x.inW e (by omega)) (x.W e hc) hK
theorem sS_isAsLargeAs {u : Nat} {π : Pic} (x : SC h s ρ) (y : SC h u π) (hK : K (some (vI (bI (pcw ρ = pcw π ∧ pch ρ = pch π)))) h) : Spec G l (mt mS_isAsLargeAs) [vR s, vR u] h K := by
  have g := x.2.2.2.n
  have g2 := y.2.2.2.n
  refine eS_isAsLargeAs 39 [] fun S Cu hS hC => ?_
  refine ld _ x.ob x.2.2.1.1.1 ?_
  refine ld _ y.ob y.2.2.1.1.1 ?_
  refine And.intro (fun q => ?_) (fun q => ?_)
  · exact rzF (fun z => q (congrArg nI z.1)) hK
  refine ld _ x.ob x.2.2.1.1.2.1 ?_
  refine ld _ y.ob y.2.2.1.1.2.1 ?_
  refine And.intro (fun q2 => ?_) (fun q2 => ?_)
  · exact rzF (fun z => q2 (congrArg nI z.2)) hK
  · exact rzT ⟨(nI_eq (by omega) (by omega)).mp q, (nI_eq (by omega) (by omega)).mp q2⟩ hK
theorem sS_gap {a b c : Int32} {d i j : Nat} (x : SC h s ρ) (ha : a = nI d) (hb : b = nI i) (hc : c = nI j) (hd : d < pcn ρ) (hi : i < pcw ρ) (hj : j < pch ρ) (hK : K (some (vL (lN (gap ρ (pcw ρ * j + i) d)))) h) : Spec G l (mt mS_gap) [vR s, vI a, vI b, vI c] h K := by
  subst ha; subst hb; subst hc
  have g := x.2.2.2.n
  have g2 := x.2.2.2.d hd
  refine eS_gap 59 [] fun S Cu hS hC => ?_
  refine ld _ x.ob x.r7 ?_
  refine ld _ (x.inD rfl (by omega)) (x.D rfl hd) ?_
  refine ld _ x.ob x.r5 ?_
  refine ld _ (x.inX rfl (by omega)) (x.X rfl hd) ?_
  refine ld _ x.ob x.r7 ?_
  refine ld _ (x.inD rfl (by omega)) (x.D rfl hd) ?_
  refine ld _ x.ob x.r6 ?_
  refine ld _ (x.inY rfl (by omega)) (x.Y rfl hd) ?_
  refine rtL (K := K) ?_ hK
  unfold gap
  rw [Nat.mul_add_mod, Nat.mod_eq_of_lt hi, Nat.mul_add_div (by omega), Nat.div_eq_of_lt hi, Nat.add_zero]
  (try simp (disch := omega) only [pk_rem, pk_lRem]) <;> simp (disch := omega) only [nl0, nl1, nl2, nl3, nl4, nl8, nl9, nl10, nl12, nl20, nl24, nl30, nl32, nl40, nl48, nl100, nl120, nl200, nl255, nl400, nl404, nl524, nl900, nl1000, nl9999, nl16, nl65536, nI_add, pk_mul, pk_sub, pk_div, pk_rem, nI_l, lN_add, lN_mul, lN_sqd, lN_i, ll0, ll1, ll1000]
theorem sS_span {a : Int32} {d : Nat} (x : SC h s ρ) (ha : a = nI d) (hd : d < pcn ρ) (hK : K (some (vL (lN (spn ρ d)))) h) : Spec G l (mt mS_span) [vR s, vI a] h K := by
  subst ha
  have g := x.2.2.2.n
  have g2 := x.2.2.2.d hd
  refine eS_span 39 [] fun S Cu hS hC => ?_
  refine ld _ x.ob x.r7 ?_
  refine ld _ (x.inD rfl (by omega)) (x.D rfl hd) ?_
  refine ld _ x.ob x.r7 ?_
  refine ld _ (x.inD rfl (by omega)) (x.D rfl hd) ?_
  refine rtL (K := K) ?_ hK
  unfold spn
  (try simp (disch := omega) only [pk_rem, pk_lRem]) <;> simp (disch := omega) only [nl0, nl1, nl2, nl3, nl4, nl8, nl9, nl10, nl12, nl20, nl24, nl30, nl32, nl40, nl48, nl100, nl120, nl200, nl255, nl400, nl404, nl524, nl900, nl1000, nl9999, nl16, nl65536, nI_add, pk_mul, pk_sub, pk_div, pk_rem, nI_l, lN_add, lN_mul, lN_sqd, lN_i, ll0, ll1, ll1000]
theorem sC_divide {a b : Int64} {x y : Nat} (ha : a = lN x) (hb : b = lN y) (hx : x < 2 ^ 63) (hy : y < 2 ^ 63) (h0 : 0 < y) (hK : K (some (vL (lN (x / y)))) h) : Spec G l (mt mC_divide) [vL a, vL b] h K := by
  subst ha; subst hb
  have p : lN 0 < lN y := (pk_lLT (by decide) hy).mpr h0
  refine eC_divide 19 [] fun S Cu hS hC => ?_
  refine And.intro (fun q => absurd (ig_gt.mpr p) (Int32.not_lt.mpr q)) (fun _ => ?_)
  refine And.intro (fun z => by rw [show (0 : Int64) = lN 0 from rfl, pk_lEQ (by omega) (by omega)] at z; omega) ?_
  exact rtL (K := K) (pk_lDiv (by omega) (by omega) (by omega)) hK
theorem sS_liesJustAt {a b c : Int32} {d i j : Nat} (x : SC h s ρ) (ha : a = nI d) (hb : b = nI i) (hc : c = nI j) (hd : d < pcn ρ) (hi : i < 2 ^ 31) (hj : j < 2 ^ 31) (hK : K (some (vI (bI (lies ρ d i j)))) h) : Spec G l (mt mS_liesJustAt) [vR s, vI a, vI b, vI c] h K := by
  subst ha; subst hb; subst hc
  have g := x.2.2.2.n
  have g2 := x.2.2.2.d hd
  refine eS_liesJustAt 39 [] fun S Cu hS hC => ?_
  refine ld _ x.ob x.r7 ?_
  refine ld _ (x.inD rfl (by omega)) (x.D rfl hd) ?_
  refine And.intro (fun q => ?_) (fun q => ?_)
  · exact rzF (fun z => q (congrArg nI z.1)) hK
  refine ld _ x.ob x.r5 ?_
  refine ld _ (x.inX rfl (by omega)) (x.X rfl hd) ?_
  refine And.intro (fun q2 => ?_) (fun q2 => ?_)
  · exact rzF (fun z => q2 (congrArg nI z.2.1)) hK
  refine ld _ x.ob x.r6 ?_
  refine ld _ (x.inY rfl (by omega)) (x.Y rfl hd) ?_
  refine And.intro (fun q3 => ?_) (fun q3 => ?_)
  · exact rzF (fun z => q3 (congrArg nI z.2.2)) hK
  · exact rzT ⟨(nI_eq (by omega) (by decide)).mp q, (nI_eq (by omega) hi).mp q2, (nI_eq (by omega) hj).mp q3⟩ hK
theorem sS_liesAsIn {a : Int32} {d u : Nat} {π : Pic} (x : SC h s ρ) (y : SC h u π) (ha : a = nI d) (hd : d < pcn ρ) (hd2 : d < pcn π) (hK : K (some (vI (bI (same ρ π d)))) h) : Spec G l (mt mS_liesAsIn) [vR s, vI a, vR u] h K := by
  subst ha
  have g := x.2.2.2.n
  have g2 := x.2.2.2.d hd
  have g3 := y.2.2.2.d hd2
  refine eS_liesAsIn 59 [] fun S Cu hS hC => ?_
  refine ld _ x.ob x.r5 ?_
  refine ld _ (x.inX rfl (by omega)) (x.X rfl hd) ?_
  refine ld _ y.ob y.r5 ?_
  refine ld _ (y.inX rfl (by omega)) (y.X rfl hd2) ?_
  refine And.intro (fun q => ?_) (fun q => ?_)
  · exact rzF (fun z => q (congrArg nI z.1)) hK
  refine ld _ x.ob x.r6 ?_
  refine ld _ (x.inY rfl (by omega)) (x.Y rfl hd) ?_
  refine ld _ y.ob y.r6 ?_
  refine ld _ (y.inY rfl (by omega)) (y.Y rfl hd2) ?_
  refine And.intro (fun q2 => ?_) (fun q2 => ?_)
  · exact rzF (fun z => q2 (congrArg nI z.2.1)) hK
  refine ld _ x.ob x.r7 ?_
  refine ld _ (x.inD rfl (by omega)) (x.D rfl hd) ?_
  refine ld _ y.ob y.r7 ?_
  refine ld _ (y.inD rfl (by omega)) (y.D rfl hd2) ?_
  refine And.intro (fun q3 => ?_) (fun q3 => ?_)
  · exact rzF (fun z => q3 (congrArg nI z.2.2)) hK
  · exact rzT ⟨(nI_eq (by omega) (by omega)).mp q, (nI_eq (by omega) (by omega)).mp q2, (nI_eq (by omega) (by omega)).mp q3⟩ hK
end CC
