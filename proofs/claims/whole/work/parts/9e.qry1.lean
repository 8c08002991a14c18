/-! ===== the class: dots and cells ===== -/
theorem spots_in {ρ : Pic} (g : Good ρ) {i j : Nat} (hi : i < pcw ρ) (hj : j < pch ρ) : dIn ρ i j i j = spotsAt ρ (pcw ρ * j + i) := by
  unfold dIn spotsAt
  obtain ⟨c1, c2, c3⟩ := cel_lt (ρ := ρ) hi hj
  refine sumN_congr fun d _ => wN_eq ?_
  unfold wi
  constructor
  · intro ⟨⟨a, b⟩, c, e⟩
    rw [← Nat.div_add_mod (spot ρ d) (pcw ρ), show spot ρ d / pcw ρ = j by omega, show spot ρ d % pcw ρ = i by omega]
  · intro e
    rw [e, c2, c3]; exact ⟨⟨Nat.le_refl _, Nat.le_refl _⟩, Nat.le_refl _, Nat.le_refl _⟩
theorem abs_ad {a b : Nat} (ha : a < 2 ^ 30) (hb : b < 2 ^ 30) : (if (0 : Int32) ≤ nI a - nI b then nI a - nI b else 0 - (nI a - nI b)) = nI (ad a b) := by
  unfold ad
  by_cases h : b ≤ a
  · rw [pk_sub h, if_pos (Int32.not_lt.mp (nI_pos (by omega))), show b - a = 0 by omega]; rfl
  · have e : nI a - nI b = -(nI (b - a)) := by rw [← pk_sub (show a ≤ b by omega), neg_sub32]
    rw [if_neg, e]
    · rw [show a - b = 0 by omega, Nat.zero_add, Int32.zero_sub, Int32.neg_neg]
    · intro z
      rw [e, Int32.le_iff_toInt_le, sb_negT (by omega)] at z
      have : (0 : Int32).toInt = 0 := rfl
      omega
theorem max_mx {a b : Nat} (ha : a < 2 ^ 31) (hb : b < 2 ^ 31) : (if nI a < nI b then nI b else nI a) = nI (mx a b) := by
  unfold mx
  by_cases h : a < b
  · rw [if_pos ((nI_ltI ha hb).mpr h), if_neg (by omega)]
  · rw [if_neg (fun z => h ((nI_ltI ha hb).mp z))]
    by_cases h2 : b < a
    · rw [if_pos h2]
    · rw [if_neg h2, show a = b by omega]
section CC
variable {G : GP} {l : Launch} {K : Option AV → AH → Prop} {h : AH} {ρ : Pic}
variable {sl : Nat → Nat} {tp : Nat → Nat} {tn : Nat} {ft fp : Int32} {pa : Nat → Pic} {an un : Nat} {sm sc : Nat → Int32} {sn : Nat} {bx : Nat → Pic} {bk : Nat → Prop}
theorem sC_dot {x w : Int32} (r : CR h tp tn ft fp ρ pa an un sm sc sn bx bk) (hK : ∀ h', FC h h' → CR h' tp tn ft fp ρ pa an un sm sc sn bx bk → K (some (vI (aDot ρ x w))) h') : Spec G l (mt mC_dot) [vR 1, vI x, vI w] h K := by
  obtain ⟨sl, r⟩ := r
  have g := r.x.2.2.2.n
  have hK0 := hK h FC.rf r.r
  unfold aDot at hK hK0
  refine eC_dot 99 [] fun S Cu hS hC => ?_
  refine ld (sl 0) r.ob r.now ?_
  refine And.intro (r.x.ob) (hS _ _ _ _ (sS_has r.x ?_))
  refine brN (fun q => ?_) (fun q => ?_)
  · rw [cif_T q] at hK hK0
    obtain ⟨d, hd, ex⟩ := q
    subst ex
    rw [ix_nI (by omega)] at hK hK0
    have fl : ∀ {h' : AH} {j : Nat}, CS h' → j < 9 → hR h' 7 j = 7 + 1 + j := fun c hj => c.fr (f := 7) (Or.inl rfl) hj
    refine And.intro (fun e => ?_) (fun n0 => And.intro (fun e => ?_) (fun n1 => And.intro (fun e => ?_) (fun n2 => And.intro (fun e => ?_) (fun n3 => And.intro (fun e => ?_) (fun n4 => And.intro (fun e => ?_) (fun n5 => And.intro (fun e => ?_) (fun n6 => And.intro (fun e => ?_) (fun n7 => ?_))))))))
    · rw [sel_in (i := 0) e (by decide) rfl] at hK0
      exact ld (sl 0) r.ob r.now (ld _ r.x.ob r.x.r5 (ld _ (r.x.inX rfl (by omega)) (r.x.X rfl hd) hK0))
    · rw [sel_in (i := 1) e (by decide) rfl] at hK0
      exact ld (sl 0) r.ob r.now (ld _ r.x.ob r.x.r6 (ld _ (r.x.inY rfl (by omega)) (r.x.Y rfl hd) hK0))
    · rw [sel_in (i := 2) e (by decide) rfl] at hK0
      exact ld (sl 0) r.ob r.now (ld _ r.x.ob r.x.r7 (ld _ (r.x.inD rfl (by omega)) (r.x.D rfl hd) hK0))
    · refine And.intro r.ob (hS _ _ _ _ (sC_upToDate r fun h2 f2 r2 d2 => ?_))
      have := hK h2 (f2.m9 rfl) r2.r
      rw [sel_in (i := 3) e (by decide) rfl] at this
      refine ld 12 (r2.cs.fob (Or.inl rfl)) (fl r2.cs (by decide)) ?_
      exact ld (nI (cellsOf ρ d)) (r2.cs.inA (k := 12) (n := 40) rfl rfl rfl rfl (by omega) rfl) (rdX rfl (by omega) (d2.2.2.1 d (by omega)).1) this
    · refine And.intro r.ob (hS _ _ _ _ (sC_upToDate r fun h2 f2 r2 d2 => ?_))
      have := hK h2 (f2.m9 rfl) r2.r
      rw [sel_in (i := 4) e (by decide) rfl] at this
      refine ld 13 (r2.cs.fob (Or.inl rfl)) (fl r2.cs (by decide)) ?_
      exact ld (nI (load ρ d)) (r2.cs.inA (k := 13) (n := 40) rfl rfl rfl rfl (by omega) rfl) (rdX rfl (by omega) (d2.ld (by omega))) this
    · refine And.intro r.ob (hS _ _ _ _ (sC_upToDate r fun h2 f2 r2 d2 => ?_))
      have := hK h2 (f2.m9 rfl) r2.r
      rw [sel_in (i := 5) e (by decide) rfl] at this
      refine ld 14 (r2.cs.fob (Or.inl rfl)) (fl r2.cs (by decide)) ?_
      exact ld (nI (bill ρ d)) (r2.cs.inA (k := 14) (n := 40) rfl rfl rfl rfl (by omega) rfl) (rdX rfl (by omega) (d2.2.2.1 d (by omega)).2.2.1) this
    · rw [sel_in (i := 6) e (by decide) rfl] at hK0
      exact ld (sl 0) r.ob r.now (And.intro r.x.ob (hS _ _ _ _ (sS_spotOf r.x rfl hd hK0)))
    · refine ld 112 r.ob (r.cs.rf (k := 1) (j := 8) rfl rfl) ?_
      refine ld (sl 0) r.ob r.now ?_
      refine And.intro r.ob (hS _ _ _ _ (sC_upToDate r fun h2 f2 r2 d2 => ?_))
      refine And.intro (r2.cs.ob (k := 112) (ci := 3) rfl rfl rfl) (hS _ _ _ _ (sK_piecesOf r2.x (Or.inl rfl) d2.1 rfl hd fun h3 f3 => ?_))
      have := hK h3 ((f2.m9 rfl).tr (f3.m9 rfl)) (r2.scr f3 rfl).r
      rw [sel_in (i := 7) e (by decide) rfl] at this
      exact this
    · rw [sel_out (fun i hi => match i, hi with | 0, _ => n0 | 1, _ => n1 | 2, _ => n2 | 3, _ => n3 | 4, _ => n4 | 5, _ => n5 | 6, _ => n6 | 7, _ => n7)] at hK0
      exact hK0
  · exact rtC (K := K) q hK0
theorem sC_cell {x y w : Int32} (r : CR h tp tn ft fp ρ pa an un sm sc sn bx bk) (hK : ∀ h', FC h h' → CR h' tp tn ft fp ρ pa an un sm sc sn bx bk → K (some (vI (aCell ρ x y w))) h') : Spec G l (mt mC_cell) [vR 1, vI x, vI y, vI w] h K := by
  obtain ⟨sl, r⟩ := r
  have g := r.x.2.2.2.n
  have gc := r.x.2.2.2.c
  have hK0 := hK h FC.rf r.r
  unfold aCell at hK hK0
  refine eC_cell 99 [] fun S Cu hS hC => ?_
  refine ld (sl 0) r.ob r.now ?_
  refine And.intro (r.x.ob) (hS _ _ _ _ (sS_holds r.x ?_))
  refine brN (fun q => ?_) (fun q => ?_)
  · rw [cif_T q] at hK hK0
    obtain ⟨i, j, hi, hj, rfl, rfl, ec, hc, -, -⟩ := isC_c r.x.2.2.2 q
    rw [ec] at hK hK0
    refine ld (sl 0) r.ob r.now ?_
    refine And.intro (r.x.ob) (hS _ _ _ _ (sS_numberOf r.x rfl rfl ?_))
    refine And.intro (fun e => ?_) (fun n0 => And.intro (fun e => ?_) (fun n1 => And.intro (fun e => ?_) (fun n2 => And.intro (fun e => ?_) (fun n3 => ?_))))
    · rw [sel_in (i := 0) e (by decide) rfl] at hK0
      exact ld (sl 0) r.ob r.now (ld _ r.x.ob r.x.r4 (ld _ (r.x.inW rfl (by omega)) (r.x.W rfl hc) hK0))
    · refine And.intro r.ob (hS _ _ _ _ (sC_upToDate r fun h2 f2 r2 d2 => ?_))
      have := hK h2 (f2.m9 rfl) r2.r
      rw [sel_in (i := 1) e (by decide) rfl] at this
      refine ld 8 (r2.cs.fob (Or.inl rfl)) (r2.cs.fr (f := 7) (j := 0) (Or.inl rfl) (by decide)) ?_
      exact ld _ (r2.cs.inA (k := 8) (n := 400) rfl rfl rfl rfl (by omega) rfl) (rdX rfl (by omega) (d2.1 _ hc).1) this
    · refine And.intro r.ob (hS _ _ _ _ (sC_upToDate r fun h2 f2 r2 d2 => ?_))
      have := hK h2 (f2.m9 rfl) r2.r
      rw [sel_in (i := 2) e (by decide) rfl] at this
      refine ld 11 (r2.cs.fob (Or.inl rfl)) (r2.cs.fr (f := 7) (j := 3) (Or.inl rfl) (by decide)) ?_
      exact ld _ (r2.cs.inA (k := 11) (n := 400) rfl rfl rfl rfl (by omega) rfl) (rdX rfl (by omega) (d2.2.1 _ hc)) this
    · rw [sel_in (i := 3) e (by decide) rfl] at hK0
      refine ld (sl 0) r.ob r.now ?_
      refine And.intro r.x.ob (hS _ _ _ _ (sS_spotsWithin r.x rfl rfl rfl rfl (by omega) (by omega) (by omega) (by omega) ?_))
      exact rtI (K := K) (congrArg nI (spots_in r.x.2.2.2 hi hj)) hK0
    · rw [sel_out (fun i hi => match i, hi with | 0, _ => n0 | 1, _ => n1 | 2, _ => n2 | 3, _ => n3)] at hK0
      exact hK0
  · exact rtC (K := K) q hK0
theorem sC_near {x y w : Int32} (r : CR h tp tn ft fp ρ pa an un sm sc sn bx bk) (hK : K (some (vI (aNear ρ x y w))) h) : Spec G l (mt mC_near) [vR 1, vI x, vI y, vI w] h K := by
  obtain ⟨sl, r⟩ := r
  have g := r.x.2.2.2.n
  unfold aNear at hK
  have no : ¬ (isC ρ x y ∧ inN w (pcn ρ)) → Go G l (mt mC_near) 23 [some (vR 1), some (vI x), some (vI y), some (vI w), none] [] h 0 0 K := by
    intro q
    refine gC_near 39 [] fun S Cu hS hC => ?_
    exact rtC (K := K) q hK
  refine eC_near 99 [(23, 4), (28, 5)] fun S Cu hS hC => ?_
  refine ld (sl 0) r.ob r.now ?_
  refine And.intro (r.x.ob) (hS _ _ _ _ (sS_holds r.x ?_))
  refine brE (fun q => ?_) (fun q => ?_)
  · exact hC _ _ _ _ (no (fun z => q z.1))
  refine ld (sl 0) r.ob r.now ?_
  refine And.intro (r.x.ob) (hS _ _ _ _ (sS_has r.x ?_))
  refine brN (fun q2 => ?_) (fun q2 => ?_)
  · rw [cif_T ⟨q, q2⟩] at hK
    obtain ⟨i, j, hi, hj, rfl, rfl, ec, hc, -, -⟩ := isC_c r.x.2.2.2 q
    rw [ec] at hK
    have lp : ∀ k, k ≤ pcn ρ → (∀ d, d < k → ¬ nI (rank ρ (pcw ρ * j + i) d) = w) → ∀ v, v = nI k → Go G l (mt mC_near) 28 [some (vR 1), some (vI (nI i)), some (vI (nI j)), some (vI w), some (vI v)] [] h 0 0 K := by
      refine upto _ ?_
      intro k hk ih al v hv
      subst hv
      refine gC_near 99 [(28, 5)] fun S Cu hS hC => ?_
      refine ld (sl 0) r.ob r.now ?_
      refine ld _ r.x.ob r.x.2.2.1.1.2.2.1 ?_
      refine pk_le (pcn ρ) k (fun z => ?_) (fun z => ?_)
      · obtain rfl : k = pcn ρ := by omega
        rw [fstO_none al] at hK
        exact hK
      refine ld (sl 0) r.ob r.now ?_
      refine And.intro (r.x.ob) (hS _ _ _ _ (sS_dotsAheadOf r.x rfl rfl rfl z hi hj ?_))
      refine And.intro (fun y => ?_) (fun y => ?_)
      · refine hC _ _ _ _ (ih z (fun d hd => ?_) _ (nI_1 k))
        by_cases e : d = k
        · subst e; exact y
        · exact al d (by omega)
      · rw [fstO_some z y al] at hK
        exact hK
    exact hC _ _ _ _ (lp 0 (Nat.zero_le _) (fun d hd => absurd hd (Nat.not_lt_zero d)) _ rfl)
  · exact hC _ _ _ _ (no (fun z => q2 z.2))
theorem sC_far {x y d w : Int32} (r : CR h tp tn ft fp ρ pa an un sm sc sn bx bk) (hK : K (some (vI (aFar ρ x y d w))) h) : Spec G l (mt mC_far) [vR 1, vI x, vI y, vI d, vI w] h K := by
  obtain ⟨sl, r⟩ := r
  have g := r.x.2.2.2.n
  unfold aFar at hK
  have no : ¬ (isC ρ x y ∧ inN d (pcn ρ)) → Go G l (mt mC_far) 23 [some (vR 1), some (vI x), some (vI y), some (vI d), some (vI w), none, none, none, none] [] h 0 0 K := by
    intro q
    refine gC_far 39 [] fun S Cu hS hC => ?_
    exact rtC (K := K) q hK
  refine eC_far 99 [(23, 5)] fun S Cu hS hC => ?_
  refine ld (sl 0) r.ob r.now ?_
  refine And.intro (r.x.ob) (hS _ _ _ _ (sS_holds r.x ?_))
  refine brE (fun q => ?_) (fun q => ?_)
  · exact hC _ _ _ _ (no (fun z => q z.1))
  refine ld (sl 0) r.ob r.now ?_
  refine And.intro (r.x.ob) (hS _ _ _ _ (sS_has r.x ?_))
  refine brN (fun q2 => ?_) (fun q2 => ?_)
  · rw [cif_T ⟨q, q2⟩] at hK
    obtain ⟨i, j, hi, hj, rfl, rfl, ec, hc, -, -⟩ := isC_c r.x.2.2.2 q
    obtain ⟨e, he, rfl⟩ := q2
    rw [ec, ix_nI (by omega)] at hK
    have gl := gap_le r.x.2.2.2 hc he
    have sp := spn_pos r.x.2.2.2 he
    refine ld (sl 0) r.ob r.now ?_
    refine And.intro (r.x.ob) (hS _ _ _ _ (sS_gap r.x rfl rfl rfl he hi hj ?_))
    refine ld (sl 0) r.ob r.now ?_
    refine And.intro (r.x.ob) (hS _ _ _ _ (sS_span r.x rfl he ?_))
    refine And.intro (fun e0 => ?_) (fun n0 => And.intro (fun e0 => ?_) (fun n1 => ?_))
    · rw [sel_in (i := 0) e0 (by decide) rfl] at hK
      refine hS _ _ _ _ (sC_divide rfl rfl (by omega) (by omega) (by omega) ?_)
      exact rtI (K := K) (lN_i _) hK
    · rw [sel_in (i := 1) e0 (by decide) rfl] at hK
      refine hS _ _ _ _ (sC_divide rfl rfl (by omega) (by omega) (by omega) ?_)
      have ml := Nat.mod_lt (gap ρ (pcw ρ * j + i) e) (show 0 < spn ρ e by omega)
      refine hS _ _ _ _ (sC_divide (x := gap ρ (pcw ρ * j + i) e % spn ρ e * 1000) ?_ rfl (by omega) (by omega) (by omega) ?_)
      · rw [← pk_lDiv (by omega) (by omega) (by omega), pk_lRem (by omega) (by omega) (by omega), show Int64.ofNat 1000 = lN 1000 from rfl, lN_mul]
      · exact rtI (K := K) (lN_i _) hK
    · rw [sel_out (fun i hi => match i, hi with | 0, _ => n0 | 1, _ => n1)] at hK
      exact hK
  · exact hC _ _ _ _ (no (fun z => q2 z.2))
theorem sC_around {x y w : Int32} (r : CR h tp tn ft fp ρ pa an un sm sc sn bx bk) (hK : K (some (vI (aAround ρ x y w))) h) : Spec G l (mt mC_around) [vR 1, vI x, vI y, vI w] h K := by
  obtain ⟨sl, r⟩ := r
  have g := r.x.2.2.2.n
  unfold aAround at hK
  have i1 := inN_iff (x := w) (n := 31) (by decide)
  have no : ¬ (isC ρ x y ∧ inN w 31) → Go G l (mt mC_around) 22 [some (vR 1), some (vI x), some (vI y), some (vI w), none, none] [] h 0 0 K := by
    intro q
    refine gC_around 39 [] fun S Cu hS hC => ?_
    exact rtC (K := K) q hK
  refine eC_around 99 [(22, 4), (30, 6)] fun S Cu hS hC => ?_
  refine ld (sl 0) r.ob r.now ?_
  refine And.intro (r.x.ob) (hS _ _ _ _ (sS_holds r.x ?_))
  refine brE (fun q => ?_) (fun q => ?_)
  · exact hC _ _ _ _ (no (fun z => q z.1))
  refine And.intro (fun q2 => ?_) (fun q2 => ?_)
  · exact hC _ _ _ _ (no (fun z => absurd (i1.mp z.2).1 (Int32.not_le.mpr q2)))
  obtain ⟨u, hu, ew⟩ := nI_of q2
  subst ew
  refine pk_le u 30 (fun q3 => ?_) (fun q3 => ?_)
  · rw [cif_T ⟨q, ⟨u, by omega, rfl⟩⟩] at hK
    obtain ⟨i, j, hi, hj, rfl, rfl, ec, hc, -, -⟩ := isC_c r.x.2.2.2 q
    rw [ec, ix_nI (by omega)] at hK
    have lp : ∀ k, k ≤ pcn ρ → ∀ o v, o = nI (sumN (fun d => wN (gap ρ (pcw ρ * j + i) d ≤ spn ρ d * u * u) 1) k) → v = nI k → Go G l (mt mC_around) 30 [some (vR 1), some (vI (nI i)), some (vI (nI j)), some (vI (nI u)), some (vI o), some (vI v)] [] h 0 0 K := by
      refine upto _ ?_
      intro k hk ih o v ho hv
      subst hv
      refine gC_around 99 [(30, 6)] fun S Cu hS hC => ?_
      refine ld (sl 0) r.ob r.now ?_
      refine ld _ r.x.ob r.x.2.2.1.1.2.2.1 ?_
      refine pk_le (pcn ρ) k (fun z => ?_) (fun z => ?_)
      · obtain rfl : k = pcn ρ := by omega
        subst ho; exact hK
      have gl := gap_le r.x.2.2.2 hc z
      have sp := spn_pos r.x.2.2.2 z
      refine ld (sl 0) r.ob r.now ?_
      refine And.intro (r.x.ob) (hS _ _ _ _ (sS_gap r.x rfl rfl rfl z hi hj ?_))
      refine ld (sl 0) r.ob r.now ?_
      refine And.intro (r.x.ob) (hS _ _ _ _ (sS_span r.x rfl z ?_))
      have ul : spn ρ k * u * u ≤ 12960000 * 30 * 30 := Nat.mul_le_mul (Nat.mul_le_mul sp.2 q3) q3
      have ee : (nI u).toInt64 * (nI u).toInt64 * lN (spn ρ k) = lN (spn ρ k * u * u) := by
        rw [nI_l (by omega), lN_mul, lN_mul, Nat.mul_assoc (spn ρ k), Nat.mul_comm (u * u)]
      have lt : (nI u).toInt64 * (nI u).toInt64 * lN (spn ρ k) < lN (gap ρ (pcw ρ * j + i) k) ↔ spn ρ k * u * u < gap ρ (pcw ρ * j + i) k := by rw [ee, pk_lLT (by omega) (by omega)]
      refine And.intro (fun y => ?_) (fun y => ?_)
      · have y := lt.mp (ig_gt.mp y)
        exact hC _ _ _ _ (ih z _ _ (cntF (P := fun d => gap ρ (pcw ρ * j + i) d ≤ spn ρ d * u * u) (by omega) ho) (nI_1 k))
      · have y : ¬ spn ρ k * u * u < gap ρ (pcw ρ * j + i) k := fun w => y (ig_gt.mpr (lt.mpr w))
        exact hC _ _ _ _ (ih z _ _ (cntT (P := fun d => gap ρ (pcw ρ * j + i) d ≤ spn ρ d * u * u) (by omega) ho) (nI_1 k))
    exact hC _ _ _ _ (lp 0 (Nat.zero_le _) _ _ rfl rfl)
  · refine hC _ _ _ _ (no (fun ⟨_, m, hm, e⟩ => ?_))
    have := (nI_eq hu (by omega)).mp e
    omega
theorem sC_ring {x y : Int32} (r : CR h tp tn ft fp ρ pa an un sm sc sn bx bk) (hK : ∀ h', FC h h' → CR h' tp tn ft fp ρ pa an un sm sc sn bx bk → K (some (vI (aRing ρ x y))) h') : Spec G l (mt mC_ring) [vR 1, vI x, vI y] h K := by
  obtain ⟨sl, r⟩ := r
  have g := r.x.2.2.2.n
  have gc := r.x.2.2.2.c
  have hK0 := hK h FC.rf r.r
  unfold aRing at hK hK0
  have no : (¬ isC ρ x y ∨ pcn ρ = 0) → Go G l (mt mC_ring) 22 [some (vR 1), some (vI x), some (vI y), none, none, none] [] h 0 0 K := by
    intro q
    refine gC_ring 39 [] fun S Cu hS hC => ?_
    by_cases c : isC ρ x y
    · rw [cif_T c, own_none (q.resolve_left (fun z => z c))] at hK0
      exact hK0
    · exact rtC (K := K) c hK0
  refine eC_ring 199 [(22, 3)] fun S Cu hS hC => ?_
  refine ld (sl 0) r.ob r.now ?_
  refine And.intro (r.x.ob) (hS _ _ _ _ (sS_holds r.x ?_))
  refine brE (fun q => ?_) (fun q => ?_)
  · exact hC _ _ _ _ (no (Or.inl q))
  refine ld (sl 0) r.ob r.now ?_
  refine ld _ r.x.ob r.x.2.2.1.1.2.2.1 ?_
  refine And.intro (fun q2 => ?_) (fun q2 => ?_)
  · have c0 : 0 < pcn ρ := Nat.pos_of_ne_zero (fun z => q2 (by rw [z]; rfl))
    rw [cif_T q] at hK
    obtain ⟨i, j, hi, hj, rfl, rfl, ec, hc, c2, c3⟩ := isC_c r.x.2.2.2 q
    rw [ec] at hK
    refine And.intro r.ob (hS _ _ _ _ (sC_upToDate r fun h2 f2 r2 d2 => ?_))
    have := hK h2 (f2.m9 rfl) r2.r
    obtain ⟨b, eb⟩ := own_some (ρ := ρ) (c := pcw ρ * j + i) c0
    have bl := own_lt eb
    have bd := r.x.2.2.2.d bl
    have b19 := r.x.2.2.2.d19 bl
    rw [eb] at this
    have e1 := (d2.1 _ hc).1
    rw [eb] at e1
    refine ld 8 (r2.cs.fob (Or.inl rfl)) (r2.cs.fr (f := 7) (j := 0) (Or.inl rfl) (by decide)) ?_
    refine ld (sl 0) r2.ob r2.now ?_
    refine And.intro (r2.x.ob) (hS _ _ _ _ (sS_numberOf r2.x rfl rfl ?_))
    refine ld (nI b) (r2.cs.inA (k := 8) (n := 400) rfl rfl rfl rfl (by omega) rfl) (rdX rfl (by omega) e1) ?_
    refine ld (sl 0) r2.ob r2.now ?_
    refine And.intro (r2.x.ob) (hS _ _ _ _ (sS_has r2.x ?_))
    refine brN (fun q3 => ?_) (fun q3 => absurd ⟨b, bl, rfl⟩ q3)
    refine ld (sl 0) r2.ob r2.now ?_
    refine ld _ r2.x.ob r2.x.r5 ?_
    refine ld _ (r2.x.inX rfl (by omega)) (r2.x.X rfl bl) ?_
    refine ld (sl 0) r2.ob r2.now ?_
    refine ld _ r2.x.ob r2.x.r7 ?_
    refine ld _ (r2.x.inD rfl (by omega)) (r2.x.D rfl bl) ?_
    refine hS _ _ _ _ (sC_divide (nI_l (by omega)) (nI_l (by omega)) (by omega) (by omega) (by omega) ?_)
    refine ld (sl 0) r2.ob r2.now ?_
    refine ld _ r2.x.ob r2.x.r6 ?_
    refine ld _ (r2.x.inY rfl (by omega)) (r2.x.Y rfl bl) ?_
    refine ld (sl 0) r2.ob r2.now ?_
    refine ld _ r2.x.ob r2.x.r7 ?_
    refine ld _ (r2.x.inD rfl (by omega)) (r2.x.D rfl bl) ?_
    refine hS _ _ _ _ (sC_divide (nI_l (by omega)) (nI_l (by omega)) (by omega) (by omega) (by omega) ?_)
    refine rtI (K := K) ?_ this
    have x1 : pcX ρ b / pcD ρ b ≤ 68400 := Nat.le_trans (Nat.div_le_self _ _) bd.2.2.1
    have y1 : pcY ρ b / pcD ρ b ≤ 68400 := Nat.le_trans (Nat.div_le_self _ _) bd.2.2.2
    show _ = nI (mx (ad (pcX ρ b / pcD ρ b) ((pcw ρ * j + i) % pcw ρ)) (ad (pcY ρ b / pcD ρ b) ((pcw ρ * j + i) / pcw ρ)))
    rw [c2, c3]
    generalize pcX ρ b / pcD ρ b = A at *
    generalize pcY ρ b / pcD ρ b = B at *
    rw [lN_i, lN_i, abs_ad (by omega) (by omega), abs_ad (by omega) (by omega), max_mx (ad_lt (by omega) (by omega)) (ad_lt (by omega) (by omega))]
  · have q2 : pcn ρ = 0 := (nI_eq (b := 0) (by omega) (by decide)).mp q2
    exact hC _ _ _ _ (no (Or.inr q2))
theorem sC_emptyDots (r : CRs h sl tp tn ft fp ρ pa an un sm sc sn bx bk) (hK : ∀ h', FC h h' → CRs h' sl tp tn ft fp ρ pa an un sm sc sn bx bk → K (some (vI (nI (emp ρ)))) h') : Spec G l (mt mC_emptyDots) [vR 1] h K := by
  have g := r.x.2.2.2.n
  have lp : ∀ k, k ≤ pcn ρ → ∀ h1, FC h h1 → CRs h1 sl tp tn ft fp ρ pa an un sm sc sn bx bk → ∀ o v, o = nI (sumN (fun d => wN (load ρ d = 0) 1) k) → v = nI k → Go G l (mt mC_emptyDots) 4 [some (vR 1), some (vI o), some (vI v)] [] h1 0 0 K := by
    refine upto _ ?_
    intro k hk ih h1 fc r1 o v ho hv
    subst hv
    refine gC_emptyDots 99 [(4, 3)] fun S Cu hS hC => ?_
    refine ld (sl 0) r1.ob r1.now ?_
    refine ld _ r1.x.ob r1.x.2.2.1.1.2.2.1 ?_
    refine pk_le (pcn ρ) k (fun z => ?_) (fun z => ?_)
    · obtain rfl : k = pcn ρ := by omega
      subst ho; exact hK h1 fc r1
    have ll := load_le r.x.2.2.2 k
    refine And.intro r1.ob (hS _ _ _ _ (sC_upToDate r1 fun h2 f2 r2 d2 => ?_))
    refine ld 13 (r2.cs.fob (Or.inl rfl)) (r2.cs.fr (f := 7) (j := 5) (Or.inl rfl) (by decide)) ?_
    refine ld (nI (load ρ k)) (r2.cs.inA (k := 13) (n := 40) rfl rfl rfl rfl (by omega) rfl) (rdX rfl (by omega) (d2.ld (by omega))) ?_
    refine And.intro (fun y => ?_) (fun y => ?_)
    · exact hC _ _ _ _ (ih z h2 (fc.tr (f2.m9 rfl)) r2 _ _ (cntF (P := fun d => load ρ d = 0) (fun w => y (by rw [w]; rfl)) ho) (nI_1 k))
    · exact hC _ _ _ _ (ih z h2 (fc.tr (f2.m9 rfl)) r2 _ _ (cntT (P := fun d => load ρ d = 0) ((nI_eq (b := 0) (by omega) (by decide)).mp y) ho) (nI_1 k))
  refine eC_emptyDots 19 [(4, 3)] fun S Cu hS hC => ?_
  exact hC _ _ _ _ (lp 0 (Nat.zero_le _) h FC.rf r _ _ rfl rfl)
theorem sC_about {w : Int32} (r : CR h tp tn ft fp ρ pa an un sm sc sn bx bk) (hK : ∀ h', FC h h' → CR h' tp tn ft fp ρ pa an un sm sc sn bx bk → K (some (vI (aAbout ρ an un tn w))) h') : Spec G l (mt mC_about) [vR 1, vI w] h K := by
  obtain ⟨sl, r⟩ := r
  have g := r.x.2.2.2.n
  have hK0 := hK h FC.rf r.r
  obtain ⟨o, ho, e1, e2, e3, _⟩ := r.1.2.2.1
  unfold aAbout at hK hK0
  refine eC_about 99 [] fun S Cu hS hC => ?_
  refine And.intro (fun e => ?_) (fun n0 => And.intro (fun e => ?_) (fun n1 => And.intro (fun e => ?_) (fun n2 => And.intro (fun e => ?_) (fun n3 => And.intro (fun e => ?_) (fun n4 => And.intro (fun e => ?_) (fun n5 => And.intro (fun e => ?_) (fun n6 => And.intro (fun e => ?_) (fun n7 => And.intro (fun e => ?_) (fun n8 => And.intro (fun e => ?_) (fun n9 => ?_))))))))))
  · rw [sel_in (i := 0) e (by decide) rfl] at hK0
    exact ld (sl 0) r.ob r.now (ld _ r.x.ob r.x.2.2.1.1.1 hK0)
  · rw [sel_in (i := 1) e (by decide) rfl] at hK0
    exact ld (sl 0) r.ob r.now (ld _ r.x.ob r.x.2.2.1.1.2.1 hK0)
  · rw [sel_in (i := 2) e (by decide) rfl] at hK0
    exact ld (sl 0) r.ob r.now (ld _ r.x.ob r.x.2.2.1.1.2.2.1 hK0)
  · rw [sel_in (i := 3) e (by decide) rfl] at hK0
    refine ld (sl 0) r.ob r.now ?_
    refine ld (sl 0) r.ob r.now ?_
    refine ld _ r.x.ob r.x.2.2.1.1.1 ?_
    refine ld (sl 0) r.ob r.now ?_
    refine ld _ r.x.ob r.x.2.2.1.1.2.1 ?_
    refine And.intro r.x.ob (hS _ _ _ _ (sS_greyWithin (i := 0) (j := 0) (r := pcw ρ - 1) (q := pch ρ - 1) r.x rfl rfl (by first | with_reducible rfl | (try simp (disch := omega) only [pk_rem]) <;> simp (disch := omega) only [nl0, nl1, nl2, nl3, nl4, nl8, nl9, nl10, nl12, nl20, nl24, nl30, nl32, nl40, nl48, nl100, nl120, nl200, nl255, nl400, nl404, nl524, nl900, nl1000, nl9999, nl16, nl65536, nI_add, pk_mul, pk_sub, pk_div, pk_rem, Nat.add_zero, Nat.zero_add, Nat.mul_one, Nat.add_sub_cancel_left, Nat.add_sub_cancel]) (by first | with_reducible rfl | (try simp (disch := omega) only [pk_rem]) <;> simp (disch := omega) only [nl0, nl1, nl2, nl3, nl4, nl8, nl9, nl10, nl12, nl20, nl24, nl30, nl32, nl40, nl48, nl100, nl120, nl200, nl255, nl400, nl404, nl524, nl900, nl1000, nl9999, nl16, nl65536, nI_add, pk_mul, pk_sub, pk_div, pk_rem, Nat.add_zero, Nat.zero_add, Nat.mul_one, Nat.add_sub_cancel_left, Nat.add_sub_cancel]) (by omega) (by omega) (by omega) (by omega) ?_))
    exact rtI (K := K) (congrArg nI (grey_all r.x.2.2.2)) hK0
  · refine And.intro r.ob (hS _ _ _ _ (sC_upToDate r fun h2 f2 r2 d2 => ?_))
    have := hK h2 (f2.m9 rfl) r2.r
    rw [sel_in (i := 4) e (by decide) rfl] at this
    exact ld (nI (tot ρ)) (r2.cs.fob (Or.inl rfl)) d2.2.2.2 this
  · refine And.intro r.ob (hS _ _ _ _ (sC_emptyDots r fun h2 f2 r2 => ?_))
    have := hK h2 f2 r2.r
    rw [sel_in (i := 5) e (by decide) rfl] at this
    exact this
  · rw [sel_in (i := 6) e (by decide) rfl] at hK0
    exact ld (sl 0) r.ob r.now (ld _ r.x.ob r.x.2.2.1.1.2.2.2 hK0)
  · rw [sel_in (i := 7) e (by decide) rfl] at hK0
    exact ld 24 r.ob (r.cs.rf (k := 1) (j := 4) rfl rfl) (ld _ (r.cs.ob (k := 24) (ci := 4) rfl rfl rfl) e2 hK0)
  · rw [sel_in (i := 8) e (by decide) rfl] at hK0
    exact ld 24 r.ob (r.cs.rf (k := 1) (j := 4) rfl rfl) (ld _ (r.cs.ob (k := 24) (ci := 4) rfl rfl rfl) e3 hK0)
  · rw [sel_in (i := 9) e (by decide) rfl] at hK0
    exact ld 17 r.ob (r.cs.rf (k := 1) (j := 3) rfl rfl) (ld _ (r.cs.ob (k := 17) (ci := 6) rfl rfl rfl) r.1.2.1.2.1 hK0)
  · rw [sel_out (fun i hi => match i, hi with | 0, _ => n0 | 1, _ => n1 | 2, _ => n2 | 3, _ => n3 | 4, _ => n4 | 5, _ => n5 | 6, _ => n6 | 7, _ => n7 | 8, _ => n8 | 9, _ => n9)] at hK0
    exact hK0
end CC
