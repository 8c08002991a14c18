/-! ===== the class: shades, tones, the most uneven square ===== -/
section CC
variable {G : GP} {l : Launch} {K : Option AV → AH → Prop} {h : AH} {ρ : Pic}
variable {sl : Nat → Nat} {tp : Nat → Nat} {tn : Nat} {ft fp : Int32} {pa : Nat → Pic} {an un : Nat} {sm sc : Nat → Int32} {sn : Nat} {bx : Nat → Pic} {bk : Nat → Prop}
theorem sC_cellsOfShade {x : Int32} {s : Nat} (r : CRs h sl tp tn ft fp ρ pa an un sm sc sn bx bk) (hx : x = nI s) (hs : s < 2 ^ 31) (hK : K (some (vI (nI (sumN (fun c => wN (pcW ρ c = s) 1) (pcc ρ))))) h) : Spec G l (mt mC_cellsOfShade) [vR 1, vI x] h K := by
  subst hx
  have gc := r.x.2.2.2.c
  have lp : ∀ k, k ≤ pcc ρ → ∀ o v, o = nI (sumN (fun c => wN (pcW ρ c = s) 1) k) → v = nI k → Go G l (mt mC_cellsOfShade) 4 [some (vR 1), some (vI (nI s)), some (vI o), some (vI v)] [] h 0 0 K := by
    refine upto _ ?_
    intro k hk ih o v ho hv
    subst hv
    refine gC_cellsOfShade 99 [(4, 4)] fun S Cu hS hC => ?_
    refine ld (sl 0) r.ob r.now ?_
    refine And.intro (r.x.ob) (hS _ _ _ _ (sS_size r.x ?_))
    refine pk_le (pcc ρ) k (fun z => ?_) (fun z => ?_)
    · obtain rfl : k = pcc ρ := by omega
      subst ho; exact hK
    have w9 := r.x.2.2.2.2.1 k (by omega)
    refine ld (sl 0) r.ob r.now ?_
    refine ld _ r.x.ob r.x.r4 ?_
    refine ld _ (r.x.inW rfl (by omega)) (r.x.W rfl z) ?_
    refine And.intro (fun y => ?_) (fun y => ?_)
    · exact hC _ _ _ _ (ih z _ _ (cntF (P := fun c => pcW ρ c = s) (fun w => y (congrArg nI w)) ho) (nI_1 k))
    · exact hC _ _ _ _ (ih z _ _ (cntT (P := fun c => pcW ρ c = s) ((nI_eq (by omega) hs).mp y) ho) (nI_1 k))
  refine eC_cellsOfShade 19 [(4, 4)] fun S Cu hS hC => ?_
  exact hC _ _ _ _ (lp 0 (Nat.zero_le _) _ _ rfl rfl)
theorem sC_spotsOfShade {x : Int32} {s : Nat} (r : CRs h sl tp tn ft fp ρ pa an un sm sc sn bx bk) (hx : x = nI s) (hs : s < 2 ^ 31) (hK : K (some (vI (nI (sumN (fun d => wN (pcW ρ (spot ρ d) = s) 1) (pcn ρ))))) h) : Spec G l (mt mC_spotsOfShade) [vR 1, vI x] h K := by
  subst hx
  have g := r.x.2.2.2.n
  have gc := r.x.2.2.2.c
  have lp : ∀ k, k ≤ pcn ρ → ∀ o v, o = nI (sumN (fun d => wN (pcW ρ (spot ρ d) = s) 1) k) → v = nI k → Go G l (mt mC_spotsOfShade) 4 [some (vR 1), some (vI (nI s)), some (vI o), some (vI v)] [] h 0 0 K := by
    refine upto _ ?_
    intro k hk ih o v ho hv
    subst hv
    refine gC_spotsOfShade 99 [(4, 4)] fun S Cu hS hC => ?_
    refine ld (sl 0) r.ob r.now ?_
    refine ld _ r.x.ob r.x.2.2.1.1.2.2.1 ?_
    refine pk_le (pcn ρ) k (fun z => ?_) (fun z => ?_)
    · obtain rfl : k = pcn ρ := by omega
      subst ho; exact hK
    have sx := spot_xy r.x.2.2.2 z
    have w9 := r.x.2.2.2.2.1 (spot ρ k) (by omega)
    refine ld (sl 0) r.ob r.now ?_
    refine ld _ r.x.ob r.x.r4 ?_
    refine ld (sl 0) r.ob r.now ?_
    refine And.intro (r.x.ob) (hS _ _ _ _ (sS_spotOf r.x rfl z ?_))
    refine ld _ (r.x.inW rfl (by omega)) (r.x.W rfl sx.2.2.1) ?_
    refine And.intro (fun y => ?_) (fun y => ?_)
    · exact hC _ _ _ _ (ih z _ _ (cntF (P := fun d => pcW ρ (spot ρ d) = s) (fun w => y (congrArg nI w)) ho) (nI_1 k))
    · exact hC _ _ _ _ (ih z _ _ (cntT (P := fun d => pcW ρ (spot ρ d) = s) ((nI_eq (by omega) hs).mp y) ho) (nI_1 k))
  refine eC_spotsOfShade 19 [(4, 4)] fun S Cu hS hC => ?_
  exact hC _ _ _ _ (lp 0 (Nat.zero_le _) _ _ rfl rfl)
theorem sC_ownersOfShade {x : Int32} {s : Nat} (r : CRs h sl tp tn ft fp ρ pa an un sm sc sn bx bk) (hx : x = nI s) (hs : s < 2 ^ 31) (hK : ∀ h', FC h h' → CRs h' sl tp tn ft fp ρ pa an un sm sc sn bx bk → K (some (vI (nI (ownS ρ s)))) h') : Spec G l (mt mC_ownersOfShade) [vR 1, vI x] h K := by
  subst hx
  have g := r.x.2.2.2.n
  have lp : ∀ k, k ≤ pcn ρ → ∀ h1, FC h h1 → CRs h1 sl tp tn ft fp ρ pa an un sm sc sn bx bk → ∀ o v, o = nI (sumN (fun d => wN (∃ c, c < pcc ρ ∧ pcW ρ c = s ∧ own ρ c = some d) 1) k) → v = nI k → Go G l (mt mC_ownersOfShade) 4 [some (vR 1), some (vI (nI s)), some (vI o), some (vI v)] [] h1 0 0 K := by
    refine upto _ ?_
    intro k hk ih h1 fc r1 o v ho hv
    subst hv
    refine gC_ownersOfShade 99 [(4, 4)] fun S Cu hS hC => ?_
    refine ld (sl 0) r1.ob r1.now ?_
    refine ld _ r1.x.ob r1.x.2.2.1.1.2.2.1 ?_
    refine pk_le (pcn ρ) k (fun z => ?_) (fun z => ?_)
    · obtain rfl : k = pcn ρ := by omega
      subst ho; exact hK h1 fc r1
    refine And.intro r1.ob (hS _ _ _ _ (sC_upToDate r1 fun h2 f2 r2 d2 => ?_))
    refine ld (sl 0) r2.ob r2.now ?_
    refine And.intro (r2.cs.fob (Or.inl rfl)) (hS _ _ _ _ (sF_ownsShade r2.x (Or.inl rfl) d2.1 rfl rfl z hs ?_))
    refine brE (fun y => ?_) (fun y => ?_)
    · exact hC _ _ _ _ (ih z h2 (fc.tr (f2.m9 rfl)) r2 _ _ (cntF (P := fun d => ∃ c, c < pcc ρ ∧ pcW ρ c = s ∧ own ρ c = some d) y ho) (nI_1 k))
    · exact hC _ _ _ _ (ih z h2 (fc.tr (f2.m9 rfl)) r2 _ _ (cntT (P := fun d => ∃ c, c < pcc ρ ∧ pcW ρ c = s ∧ own ρ c = some d) y ho) (nI_1 k))
  refine eC_ownersOfShade 19 [(4, 4)] fun S Cu hS hC => ?_
  exact hC _ _ _ _ (lp 0 (Nat.zero_le _) h FC.rf r _ _ rfl rfl)
theorem sC_costOfShade {x : Int32} {s : Nat} (r : CRs h sl tp tn ft fp ρ pa an un sm sc sn bx bk) (hx : x = nI s) (hs : s < 2 ^ 31) (hK : ∀ h', FC h h' → CRs h' sl tp tn ft fp ρ pa an un sm sc sn bx bk → K (some (vI (nI (sumN (fun c => wN (pcW ρ c = s) (cstO ρ c (own ρ c))) (pcc ρ))))) h') : Spec G l (mt mC_costOfShade) [vR 1, vI x] h K := by
  subst hx
  have gc := r.x.2.2.2.c
  have lp : ∀ k, k ≤ pcc ρ → ∀ h1, FC h h1 → CRs h1 sl tp tn ft fp ρ pa an un sm sc sn bx bk → ∀ o v, o = nI (sumN (fun c => wN (pcW ρ c = s) (cstO ρ c (own ρ c))) k) → v = nI k → Go G l (mt mC_costOfShade) 4 [some (vR 1), some (vI (nI s)), some (vI o), some (vI v)] [] h1 0 0 K := by
    refine upto _ ?_
    intro k hk ih h1 fc r1 o v ho hv
    subst hv
    refine gC_costOfShade 99 [(4, 4)] fun S Cu hS hC => ?_
    refine ld (sl 0) r1.ob r1.now ?_
    refine And.intro (r1.x.ob) (hS _ _ _ _ (sS_size r1.x ?_))
    refine pk_le (pcc ρ) k (fun z => ?_) (fun z => ?_)
    · obtain rfl : k = pcc ρ := by omega
      subst ho; exact hK h1 fc r1
    have w9 := r.x.2.2.2.2.1 k (by omega)
    refine ld (sl 0) r1.ob r1.now ?_
    refine ld _ r1.x.ob r1.x.r4 ?_
    refine ld _ (r1.x.inW rfl (by omega)) (r1.x.W rfl z) ?_
    refine And.intro (fun y => ?_) (fun y => ?_)
    · refine hC _ _ _ _ (ih z h1 fc r1 _ _ ?_ (nI_1 k))
      rw [ho, sumS, wN_F (fun w => y (congrArg nI w))]; rfl
    · have y := (nI_eq (by omega) hs).mp y
      refine And.intro r1.ob (hS _ _ _ _ (sC_upToDate r1 fun h2 f2 r2 d2 => ?_))
      refine ld 11 (r2.cs.fob (Or.inl rfl)) (r2.cs.fr (f := 7) (j := 3) (Or.inl rfl) (by decide)) ?_
      refine ld _ (r2.cs.inA (k := 11) (n := 400) rfl rfl rfl rfl (by omega) rfl) (rdX rfl (by omega) (d2.2.1 _ z)) ?_
      refine hC _ _ _ _ (ih z h2 (fc.tr (f2.m9 rfl)) r2 _ _ ?_ (nI_1 k))
      rw [ho, nI_add, sumS, wN_T y]
  refine eC_costOfShade 19 [(4, 4)] fun S Cu hS hC => ?_
  exact hC _ _ _ _ (lp 0 (Nat.zero_le _) h FC.rf r _ _ rfl rfl)
theorem sC_shade {x w : Int32} (r : CR h tp tn ft fp ρ pa an un sm sc sn bx bk) (hK : ∀ h', FC h h' → CR h' tp tn ft fp ρ pa an un sm sc sn bx bk → K (some (vI (aShade ρ x w))) h') : Spec G l (mt mC_shade) [vR 1, vI x, vI w] h K := by
  obtain ⟨sl, r⟩ := r
  have hK0 := hK h FC.rf r.r
  unfold aShade at hK hK0
  have i1 := inN_iff (x := x) (n := 10) (by decide)
  have no : ¬ inN x 10 → Go G l (mt mC_shade) 10 [some (vR 1), some (vI x), some (vI w)] [] h 0 0 K := by
    intro q
    refine gC_shade 39 [] fun S Cu hS hC => ?_
    exact rtC (K := K) q hK0
  refine eC_shade 99 [(10, 3)] fun S Cu hS hC => ?_
  refine And.intro (fun q => ?_) (fun q => ?_)
  · exact hC _ _ _ _ (no (fun z => absurd (i1.mp z).1 (Int32.not_le.mpr q)))
  obtain ⟨s, hs, ex⟩ := nI_of q
  subst ex
  refine pk_lt s 10 (fun q2 => ?_) (fun q2 => ?_)
  · rw [cif_T ⟨s, q2, rfl⟩, ix_nI (by omega)] at hK hK0
    refine And.intro (fun e => ?_) (fun n0 => And.intro (fun e => ?_) (fun n1 => And.intro (fun e => ?_) (fun n2 => And.intro (fun e => ?_) (fun n3 => ?_))))
    · rw [sel_in (i := 0) e (by decide) rfl] at hK0
      exact And.intro r.ob (hS _ _ _ _ (sC_cellsOfShade r rfl hs hK0))
    · rw [sel_in (i := 1) e (by decide) rfl] at hK0
      exact And.intro r.ob (hS _ _ _ _ (sC_spotsOfShade r rfl hs hK0))
    · refine And.intro r.ob (hS _ _ _ _ (sC_ownersOfShade r rfl hs fun h2 f2 r2 => ?_))
      have := hK h2 f2 r2.r
      rw [sel_in (i := 2) e (by decide) rfl] at this
      exact this
    · refine And.intro r.ob (hS _ _ _ _ (sC_costOfShade r rfl hs fun h2 f2 r2 => ?_))
      have := hK h2 f2 r2.r
      rw [sel_in (i := 3) e (by decide) rfl] at this
      exact this
    · rw [sel_out (fun i hi => match i, hi with | 0, _ => n0 | 1, _ => n1 | 2, _ => n2 | 3, _ => n3)] at hK0
      exact hK0
  · refine hC _ _ _ _ (no (fun ⟨m, hm, e⟩ => ?_))
    have := (nI_eq hs (by omega)).mp e
    omega
theorem sC_tone {x y u v w : Int32} (r : CR h tp tn ft fp ρ pa an un sm sc sn bx bk) (hK : K (some (vI (aTone ρ x y u v w))) h) : Spec G l (mt mC_tone) [vR 1, vI x, vI y, vI u, vI v, vI w] h K := by
  obtain ⟨sl, r⟩ := r
  have g := r.x.2.2.2.n
  unfold aTone at hK
  have no : ¬ (isC ρ x y ∧ isC ρ u v ∧ x ≤ u ∧ y ≤ v) → Go G l (mt mC_tone) 36 [some (vR 1), some (vI x), some (vI y), some (vI u), some (vI v), some (vI w)] [] h 0 0 K := by
    intro q
    refine gC_tone 39 [] fun S Cu hS hC => ?_
    exact rtC (K := K) q hK
  refine eC_tone 99 [(36, 6)] fun S Cu hS hC => ?_
  refine ld (sl 0) r.ob r.now ?_
  refine And.intro (r.x.ob) (hS _ _ _ _ (sS_holds r.x ?_))
  refine brE (fun q => ?_) (fun q => ?_)
  · exact hC _ _ _ _ (no (fun z => q z.1))
  refine ld (sl 0) r.ob r.now ?_
  refine And.intro (r.x.ob) (hS _ _ _ _ (sS_holds r.x ?_))
  refine brE (fun q2 => ?_) (fun q2 => ?_)
  · exact hC _ _ _ _ (no (fun z => q2 z.2.1))
  refine And.intro (fun q3 => ?_) (fun q3 => ?_)
  · exact hC _ _ _ _ (no (fun z => absurd z.2.2.1 (Int32.not_le.mpr q3)))
  refine And.intro (fun q4 => ?_) (fun q4 => ?_)
  · rw [cif_T ⟨q, q2, Int32.not_lt.mp q3, q4⟩] at hK
    obtain ⟨⟨i, hi, ex⟩, ⟨j, hj, ey⟩⟩ := q
    obtain ⟨⟨a, ha, eu⟩, ⟨b, hb, ev⟩⟩ := q2
    subst ex; subst ey; subst eu; subst ev
    rw [ix_nI (by omega), ix_nI (by omega), ix_nI (by omega), ix_nI (by omega)] at hK
    have ia : i ≤ a := (nI_leI (by omega) (by omega)).mp (Int32.not_lt.mp q3)
    have jb : j ≤ b := (nI_leI (by omega) (by omega)).mp q4
    refine And.intro (fun e => ?_) (fun n0 => And.intro (fun e => ?_) (fun n1 => ?_))
    · rw [sel_in (i := 0) e (by decide) rfl] at hK
      refine ld (sl 0) r.ob r.now ?_
      exact And.intro r.x.ob (hS _ _ _ _ (sS_greyWithin r.x rfl rfl rfl rfl (by omega) (by omega) ha hb hK))
    · rw [sel_in (i := 1) e (by decide) rfl] at hK
      refine ld (sl 0) r.ob r.now ?_
      exact And.intro r.x.ob (hS _ _ _ _ (sS_spotsWithin r.x rfl rfl rfl rfl (by omega) (by omega) (by omega) (by omega) hK))
    · rw [sel_out (fun i hi => match i, hi with | 0, _ => n0 | 1, _ => n1)] at hK
      exact hK
  · exact hC _ _ _ _ (no (fun z => q4 z.2.2.2))
theorem sC_uneven {x w : Int32} (r : CR h tp tn ft fp ρ pa an un sm sc sn bx bk) (hK : K (some (vI (aUneven ρ x w))) h) : Spec G l (mt mC_uneven) [vR 1, vI x, vI w] h K := by
  obtain ⟨sl, r⟩ := r
  have g := r.x.2.2.2.n
  have gd := r.x.2.2.2
  have gc := r.x.2.2.2.c
  unfold aUneven at hK
  have iw := inN_iff (x := w) (n := 2) (by decide)
  have no : ¬ (inN x (pcw ρ + 1) ∧ inN x (pch ρ + 1) ∧ ¬ x = 0 ∧ inN w 2) → Go G l (mt mC_uneven) 36 [some (vR 1), some (vI x), some (vI w), none, none, none, none, none, none, none] [] h 0 0 K := by
    intro q
    refine gC_uneven 39 [] fun S Cu hS hC => ?_
    exact rtC (K := K) q hK
  refine eC_uneven 199 [(36, 3), (77, 7)] fun S Cu hS hC => ?_
  refine And.intro (fun q => ?_) (fun q => ?_)
  · refine hC _ _ _ _ (no (fun ⟨⟨j, hj, e⟩, _, n, _⟩ => ?_))
    rw [e] at q n
    have := (nI_ltI (b := 1) (by omega) (by decide)).mp q
    exact n (by rw [show j = 0 by omega]; rfl)
  have x0 : 0 ≤ x := Int32.le_trans (show (0 : Int32) ≤ 1 by decide) (Int32.not_lt.mp q)
  obtain ⟨n, hn, ex⟩ := nI_of (Int32.not_lt.mpr x0)
  subst ex
  have n1 : 1 ≤ n := Nat.le_of_not_lt fun z => q ((nI_ltI (b := 1) hn (by decide)).mpr z)
  refine ld (sl 0) r.ob r.now ?_
  refine ld _ r.x.ob r.x.2.2.1.1.1 ?_
  refine pk_lt (pcw ρ) n (fun q2 => ?_) (fun q2 => ?_)
  · exact hC _ _ _ _ (no (fun z => by have := (inN_nI (by omega) (by omega)).mp z.1; omega))
  refine ld (sl 0) r.ob r.now ?_
  refine ld _ r.x.ob r.x.2.2.1.1.2.1 ?_
  refine pk_lt (pch ρ) n (fun q3 => ?_) (fun q3 => ?_)
  · exact hC _ _ _ _ (no (fun z => by have := (inN_nI (by omega) (by omega)).mp z.2.1; omega))
  refine And.intro (fun q4 => ?_) (fun q4 => ?_)
  · exact hC _ _ _ _ (no (fun z => absurd (iw.mp z.2.2.2).1 (Int32.not_le.mpr q4)))
  obtain ⟨v, hv, ew⟩ := nI_of q4
  subst ew
  refine pk_le v 1 (fun q5 => ?_) (fun q5 => ?_)
  · rw [cif_T ⟨⟨n, by omega, rfl⟩, ⟨n, by omega, rfl⟩, nI_ne0 (by omega) (by omega), ⟨v, by omega, rfl⟩⟩, ix_nI (by omega)] at hK
    refine ld (sl 0) r.ob r.now ?_
    refine ld (sl 0) r.ob r.now ?_
    refine ld _ r.x.ob r.x.2.2.1.1.1 ?_
    refine ld (sl 0) r.ob r.now ?_
    refine ld _ r.x.ob r.x.2.2.1.1.2.1 ?_
    refine And.intro r.x.ob (hS _ _ _ _ (sS_greyWithin (i := 0) (j := 0) (r := pcw ρ - 1) (q := pch ρ - 1) r.x rfl rfl (by first | with_reducible rfl | (try simp (disch := omega) only [pk_rem]) <;> simp (disch := omega) only [nl0, nl1, nl2, nl3, nl4, nl8, nl9, nl10, nl12, nl20, nl24, nl30, nl32, nl40, nl48, nl100, nl120, nl200, nl255, nl400, nl404, nl524, nl900, nl1000, nl9999, nl16, nl65536, nI_add, pk_mul, pk_sub, pk_div, pk_rem, Nat.add_zero, Nat.zero_add, Nat.mul_one, Nat.add_sub_cancel_left, Nat.add_sub_cancel]) (by first | with_reducible rfl | (try simp (disch := omega) only [pk_rem]) <;> simp (disch := omega) only [nl0, nl1, nl2, nl3, nl4, nl8, nl9, nl10, nl12, nl20, nl24, nl30, nl32, nl40, nl48, nl100, nl120, nl200, nl255, nl400, nl404, nl524, nl900, nl1000, nl9999, nl16, nl65536, nI_add, pk_mul, pk_sub, pk_div, pk_rem, Nat.add_zero, Nat.zero_add, Nat.mul_one, Nat.add_sub_cancel_left, Nat.add_sub_cancel]) (by omega) (by omega) (by omega) (by omega) ?_))
    rw [grey_all gd]
    have out : ∀ y, y ≤ pch ρ + 1 - n → ∀ fo fu i z7 z8 z9, fo = nI (unY ρ n y).1 → fu = nI (unY ρ n y).2.1 - nI (unY ρ n y).2.2 → i = nI y → Go G l (mt mC_uneven) 77 [some (vR 1), some (vI (nI n)), some (vI (nI v)), some (vI (nI (allW ρ))), some (vI fo), some (vI fu), some (vI i), z7, z8, z9] [] h 0 0 K := by
      refine upto _ ?_
      intro y hy ih fo fu i z7 z8 z9 hfo hfu hi
      subst hi
      have yl := unY_le gd n1 y (by omega)
      have inn : y < pch ρ + 1 - n → ∀ k, k ≤ pcw ρ + 1 - n → ∀ fo fu i z8 z9, fo = nI (unX ρ n y (unY ρ n y) k).1 → fu = nI (unX ρ n y (unY ρ n y) k).2.1 - nI (unX ρ n y (unY ρ n y) k).2.2 → i = nI k → Go G l (mt mC_uneven) 94 [some (vR 1), some (vI (nI n)), some (vI (nI v)), some (vI (nI (allW ρ))), some (vI fo), some (vI fu), some (vI (nI y)), some (vI i), z8, z9] [] h 0 0 K := by
        intro hy2
        refine upto _ ?_
        intro k hk ih2 fo fu i z8 z9 hfo hfu hi
        subst hi
        obtain ⟨ul0, ul1, ul2⟩ := unX_le gd (n := n) (show y < 20 by omega) yl k (by omega)
        obtain ⟨pl, ql⟩ := unPQ_le gd n k y
        have a1 := ad_le pl ql
        have a2 := ad_le ul1 ul2
        refine gC_uneven 199 [(77, 7), (94, 8)] fun S Cu hS hC => ?_
        refine ld (sl 0) r.ob r.now ?_
        refine ld _ r.x.ob r.x.2.2.1.1.1 ?_
        refine pk_lt (pcw ρ) (k + n) (fun z => ?_) (fun z => ?_) rfl (nI_add _ _)
        · obtain rfl : k = pcw ρ + 1 - n := by omega
          exact hC _ _ _ _ (ih hy2 _ _ _ _ _ _ hfo hfu (nI_1 y))
        have ex : nI k + nI n - 1 = nI (k + n - 1) := by first | with_reducible rfl | (try simp (disch := omega) only [pk_rem]) <;> simp (disch := omega) only [nl0, nl1, nl2, nl3, nl4, nl8, nl9, nl10, nl12, nl20, nl24, nl30, nl32, nl40, nl48, nl100, nl120, nl200, nl255, nl400, nl404, nl524, nl900, nl1000, nl9999, nl16, nl65536, nI_add, pk_mul, pk_sub, pk_div, pk_rem, Nat.add_zero, Nat.zero_add, Nat.mul_one, Nat.add_sub_cancel_left, Nat.add_sub_cancel]
        have ey : nI y + nI n - 1 = nI (y + n - 1) := by first | with_reducible rfl | (try simp (disch := omega) only [pk_rem]) <;> simp (disch := omega) only [nl0, nl1, nl2, nl3, nl4, nl8, nl9, nl10, nl12, nl20, nl24, nl30, nl32, nl40, nl48, nl100, nl120, nl200, nl255, nl400, nl404, nl524, nl900, nl1000, nl9999, nl16, nl65536, nI_add, pk_mul, pk_sub, pk_div, pk_rem, Nat.add_zero, Nat.zero_add, Nat.mul_one, Nat.add_sub_cancel_left, Nat.add_sub_cancel]
        refine ld (sl 0) r.ob r.now ?_
        refine And.intro (r.x.ob) (hS _ _ _ _ (sS_spotsWithin r.x rfl rfl ex ey (by omega) (by omega) (by omega) (by omega) ?_))
        refine ld (sl 0) r.ob r.now ?_
        refine And.intro (r.x.ob) (hS _ _ _ _ (sS_greyWithin r.x rfl rfl ex ey (by omega) (by omega) (by omega) (by omega) ?_))
        refine ld (sl 0) r.ob r.now ?_
        refine ld _ r.x.ob r.x.2.2.1.1.2.2.1 ?_
        have ei : nI (dIn ρ k y (k + n - 1) (y + n - 1)) * nI (allW ρ) - nI (grey ρ k y (k + n - 1) (y + n - 1)) * nI (pcn ρ) = nI (unP ρ n k y) - nI (unQ ρ n k y) := by rw [pk_mul, pk_mul]; rfl
        have b1 : (if (0 : Int32) ≤ nI (dIn ρ k y (k + n - 1) (y + n - 1)) * nI (allW ρ) - nI (grey ρ k y (k + n - 1) (y + n - 1)) * nI (pcn ρ) then nI (dIn ρ k y (k + n - 1) (y + n - 1)) * nI (allW ρ) - nI (grey ρ k y (k + n - 1) (y + n - 1)) * nI (pcn ρ) else 0 - (nI (dIn ρ k y (k + n - 1) (y + n - 1)) * nI (allW ρ) - nI (grey ρ k y (k + n - 1) (y + n - 1)) * nI (pcn ρ))) = nI (ad (unP ρ n k y) (unQ ρ n k y)) := by rw [ei, abs_ad (by omega) (by omega)]
        have b2 : (if (0 : Int32) ≤ fu then fu else 0 - fu) = nI (ad (unX ρ n y (unY ρ n y) k).2.1 (unX ρ n y (unY ρ n y) k).2.2) := by rw [hfu, abs_ad (by omega) (by omega)]
        refine pk_le (ad (unP ρ n k y) (unQ ρ n k y)) (ad (unX ρ n y (unY ρ n y) k).2.1 (unX ρ n y (unY ρ n y) k).2.2) (fun w => ?_) (fun w => ?_) b1 b2
        · have e := unX_F (ρ := ρ) (n := n) (y := y) (k := k) (s := unY ρ n y) (by omega)
          exact hC _ _ _ _ (ih2 (by omega) _ _ _ _ _ (by rw [e]; exact hfo) (by rw [e]; exact hfu) (nI_1 k))
        · have e := unX_T (ρ := ρ) (n := n) (y := y) (k := k) (s := unY ρ n y) (by omega)
          refine ld (sl 0) r.ob r.now ?_
          refine And.intro (r.x.ob) (hS _ _ _ _ (sS_numberOf r.x rfl rfl ?_))
          exact hC _ _ _ _ (ih2 (by omega) _ _ _ _ _ (by rw [e]) (by rw [e]; exact ei) (nI_1 k))
      refine gC_uneven 99 [(94, 8)] fun S Cu hS hC => ?_
      refine ld (sl 0) r.ob r.now ?_
      refine ld _ r.x.ob r.x.2.2.1.1.2.1 ?_
      refine pk_lt (pch ρ) (y + n) (fun z => ?_) (fun z => ?_) rfl (nI_add _ _)
      · obtain rfl : y = pch ρ + 1 - n := by omega
        refine And.intro (fun y => ?_) (fun y => ?_)
        · have : v = 1 := by
            have : ¬ v = 0 := fun z => y (by rw [z]; rfl)
            omega
          subst this
          rw [sel_in (i := 1) rfl (by decide) rfl] at hK
          exact rtI (K := K) hfu hK
        · rw [sel_in (i := 0) y (by decide) rfl] at hK
          exact rtI (K := K) hfo hK
      · exact hC _ _ _ _ (inn (by omega) 0 (by omega) _ _ _ _ _ hfo hfu rfl)
    exact hC _ _ _ _ (out 0 (Nat.zero_le _) _ _ _ _ _ _ rfl (show (0 : Int32) = nI 0 - nI 0 by decide) rfl)
  · refine hC _ _ _ _ (no (fun ⟨_, _, _, m, hm, e⟩ => ?_))
    have := (nI_eq hv (by omega)).mp e
    omega
end CC
