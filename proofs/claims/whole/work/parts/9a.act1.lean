/-! ===== the class: acts ===== -/
theorem FX.mz {s : Nat} {L : List Nat} {h h' : AH} (f : FX s L h h') (hs : SH s) (hL : L.contains 136 = false) : FC h h' := f.m hs.lt hL
theorem FC.rf {h : AH} : FC h h := ⟨rfl, rfl, fun _ _ => ⟨rfl, rfl, rfl⟩⟩
section CC
variable {G : GP} {l : Launch} {K : Option AV → AH → Prop} {h : AH} {ρ : Pic}
variable {sl : Nat → Nat} {tp : Nat → Nat} {tn : Nat} {ft fp : Int32} {pa : Nat → Pic} {an un : Nat} {sm sc : Nat → Int32} {sn : Nat} {bx : Nat → Pic} {bk : Nat → Prop}
theorem sC_put {x y : Int32} (r : CR h tp tn ft fp ρ pa an un sm sc sn bx bk) (h0 : ¬ (isC ρ x y ∧ pcn ρ < 40) → K (some (vI (-1))) h) (h1 : ∀ i j, i < pcw ρ → j < pch ρ → x = nI i → y = nI j → pcn ρ < 40 → ∀ h', FC h h' → CR h' tp tn ft fp (addD ρ i j) (pushP pa an ρ) (pushA an) 0 sm sc 0 bx bk → K (some (vI (nI (pcn ρ)))) h') : Spec G l (mt mC_put) [vR 1, vI x, vI y] h K := by
  obtain ⟨sl, r⟩ := r
  have so := r.so
  have g := r.x.2.2.2.n
  have no : ¬ (isC ρ x y ∧ pcn ρ < 40) → Go G l (mt mC_put) 24 [some (vR 1), some (vI x), some (vI y)] [] h 0 0 K := by
    intro q
    refine gC_put 39 [] fun S Cu hS hC => ?_
    exact h0 q
  refine eC_put 99 [(24, 3)] fun S Cu hS hC => ?_
  refine ld (sl 0) r.ob r.now ?_
  refine And.intro (r.x.ob) (hS _ _ _ _ (sS_holds r.x ?_))
  refine brE (fun q => ?_) (fun q => ?_)
  · exact hC _ _ _ _ (no (fun z => q z.1))
  refine ld (sl 0) r.ob r.now ?_
  refine ld _ r.x.ob r.x.2.2.1.1.2.2.1 ?_
  refine pk_lt (pcn ρ) 40 (fun q2 => ?_) (fun q2 => ?_)
  · obtain ⟨⟨i, hi, ex⟩, ⟨j, hj, ey⟩⟩ := q
    subst ex; subst ey
    refine And.intro r.ob (hS _ _ _ _ (sC_beginAct r fun h2 k hk f2 z2 p2 => ?_))
    have r2 := z2.o
    refine ld (sl 0) r2.ob r2.now ?_
    refine And.intro r2.x.ob (hS _ _ _ _ (sS_add r2.x rfl rfl q2 (by omega) (by omega) fun h3 f3 p3 => ?_))
    have z3 := z2.mut f3 rfl p3 (good_addD r.x.2.2.2 q2 hi hj)
    have r3 := z3.o
    refine ld (sl 0) r3.ob r3.now ?_
    refine ld (nI (pcn ρ + 1)) r3.x.ob (by rw [r3.x.2.2.1.1.2.2.1, addD_n]) ?_
    refine rtI (K := K) ?_ (h1 i j hi hj rfl rfl q2 h3 ((f2.mz (so.sh (by omega)) rfl).tr (f3.mz r2.x.2.1 rfl)) r3.r)
    first | with_reducible rfl | (try simp (disch := omega) only [pk_rem]) <;> simp (disch := omega) only [nl0, nl1, nl2, nl3, nl4, nl8, nl9, nl10, nl12, nl20, nl24, nl30, nl32, nl40, nl48, nl100, nl120, nl200, nl255, nl400, nl404, nl524, nl900, nl1000, nl9999, nl16, nl65536, nI_add, pk_mul, pk_sub, pk_div, pk_rem, Nat.add_zero, Nat.zero_add, Nat.mul_one, Nat.add_sub_cancel_left, Nat.add_sub_cancel]
  · exact hC _ _ _ _ (no (fun z => by omega))
theorem sC_take {x : Int32} (r : CR h tp tn ft fp ρ pa an un sm sc sn bx bk) (h0 : ¬ inN x (pcn ρ) → K (some (vI (-1))) h) (h1 : ∀ i, i < pcn ρ → x = nI i → ∀ h', FC h h' → CR h' tp tn ft fp (delD ρ i) (pushP pa an ρ) (pushA an) 0 sm sc 0 bx bk → K (some (vI (nI (pcn ρ - 1)))) h') : Spec G l (mt mC_take) [vR 1, vI x] h K := by
  obtain ⟨sl, r⟩ := r
  have so := r.so
  refine eC_take 99 [] fun S Cu hS hC => ?_
  refine ld (sl 0) r.ob r.now ?_
  refine And.intro (r.x.ob) (hS _ _ _ _ (sS_has r.x ?_))
  refine brN (fun q => ?_) (fun q => ?_)
  · obtain ⟨i, hi, ex⟩ := q
    subst ex
    refine And.intro r.ob (hS _ _ _ _ (sC_beginAct r fun h2 k hk f2 z2 p2 => ?_))
    have r2 := z2.o
    refine ld (sl 0) r2.ob r2.now ?_
    refine And.intro r2.x.ob (hS _ _ _ _ (sS_remove r2.x rfl hi fun h3 f3 p3 => ?_))
    have z3 := z2.mut f3 rfl p3 (good_delD r.x.2.2.2 hi)
    have r3 := z3.o
    refine ld (sl 0) r3.ob r3.now ?_
    refine ld (nI (pcn ρ - 1)) r3.x.ob (by rw [r3.x.2.2.1.1.2.2.1, delD_n]) ?_
    exact h1 i hi rfl h3 ((f2.mz (so.sh (by omega)) rfl).tr (f3.mz r2.x.2.1 rfl)) r3.r
  · exact h0 q
theorem sC_move {x y z : Int32} (r : CR h tp tn ft fp ρ pa an un sm sc sn bx bk) (h0 : ¬ (∃ d i j, d < pcn ρ ∧ i < pcw ρ ∧ j < pch ρ ∧ x = nI d ∧ y = nI i ∧ z = nI j ∧ ¬ lies ρ d i j) → K (some (vI 0)) h) (h1 : ∀ d i j, d < pcn ρ → i < pcw ρ → j < pch ρ → x = nI d → y = nI i → z = nI j → ¬ lies ρ d i j → ∀ h', FC h h' → CR h' tp tn ft fp (setD ρ d i j 1) (pushP pa an ρ) (pushA an) 0 sm sc 0 bx bk → K (some (vI 1)) h') : Spec G l (mt mC_move) [vR 1, vI x, vI y, vI z] h K := by
  obtain ⟨sl, r⟩ := r
  have so := r.so
  have g := r.x.2.2.2.n
  have gc := r.x.2.2.2.c
  have no : ¬ (∃ d i j, d < pcn ρ ∧ i < pcw ρ ∧ j < pch ρ ∧ x = nI d ∧ y = nI i ∧ z = nI j ∧ ¬ lies ρ d i j) → Go G l (mt mC_move) 36 [some (vR 1), some (vI x), some (vI y), some (vI z)] [] h 0 0 K := by
    intro q
    refine gC_move 39 [] fun S Cu hS hC => ?_
    exact And.intro (Or.inl rfl) (h0 q)
  refine eC_move 99 [(36, 4)] fun S Cu hS hC => ?_
  refine ld (sl 0) r.ob r.now ?_
  refine And.intro (r.x.ob) (hS _ _ _ _ (sS_has r.x ?_))
  refine brE (fun q => ?_) (fun q => ?_)
  · exact hC _ _ _ _ (no (fun ⟨d, i, j, a, _, _, b, _⟩ => q ⟨d, a, b⟩))
  refine ld (sl 0) r.ob r.now ?_
  refine And.intro (r.x.ob) (hS _ _ _ _ (sS_holds r.x ?_))
  refine brE (fun q2 => ?_) (fun q2 => ?_)
  · exact hC _ _ _ _ (no (fun ⟨d, i, j, _, a, b, _, c, e, _⟩ => q2 ⟨⟨i, a, c⟩, ⟨j, b, e⟩⟩))
  obtain ⟨d, hd, ex⟩ := q
  obtain ⟨⟨i, hi, ey⟩, ⟨j, hj, ez⟩⟩ := q2
  refine ld (sl 0) r.ob r.now ?_
  refine And.intro (r.x.ob) (hS _ _ _ _ (sS_liesJustAt r.x ex ey ez hd (by omega) (by omega) ?_))
  refine brE (fun q3 => ?_) (fun q3 => ?_)
  · subst ex; subst ey; subst ez
    refine And.intro r.ob (hS _ _ _ _ (sC_beginAct r fun h2 k hk f2 z2 p2 => ?_))
    have r2 := z2.o
    refine ld (sl 0) r2.ob r2.now ?_
    refine And.intro r2.x.ob (hS _ _ _ _ (sS_place (d := d) (x := i) (y := j) (q := 1) r2.cs r2.x.2.1 rfl rfl rfl rfl (by omega) (by omega) (by omega) (by decide) (by decide) ?_))
    rw [gcd3_1, Nat.div_one, Nat.div_one, Nat.div_one]
    have f3 : FX (sl 0) [] h2 (plH h2 (sl 0) d i j 1) := plH_fx r2.x.2.1
    have p3 : SP (plH h2 (sl 0) d i j 1) (sl 0) (setD ρ d i j 1) := r2.x.2.2.1.pl (by omega)
    have gd : Good (setD ρ d i j 1) := by
      have := good_lay r.x.2.2.2 (d := d) (x := i) (y := j) (q := 1) hd (by decide) (by decide) (by omega) (by omega)
      rw [lay_1] at this; exact this
    have z3 := z2.mut f3 rfl p3 gd
    exact And.intro (Or.inr rfl) (h1 d i j hd hi hj rfl rfl rfl q3 _ ((f2.mz (so.sh (by omega)) rfl).tr (f3.mz r2.x.2.1 rfl)) z3.o.r)
  · refine hC _ _ _ _ (no (fun ⟨d', i', j', a1, a2, a3, b1, b2, b3, c⟩ => c ?_))
    have gd := r.x.2.2.2.n
    have e1 : d' = d := (nI_eq (by omega) (by omega)).mp (b1.symm.trans ex)
    have e2 : i' = i := (nI_eq (by omega) (by omega)).mp (b2.symm.trans ey)
    have e3 : j' = j := (nI_eq (by omega) (by omega)).mp (b3.symm.trans ez)
    rw [e1, e2, e3]; exact q3
theorem sC_seed {x : Int32} (r : CR h tp tn ft fp ρ pa an un sm sc sn bx bk) (h0 : x < 0 → K (some (vI (-1))) h) (h1 : ∀ s, s < 2 ^ 31 → x = nI s → ∀ h', FC h h' → CR h' tp tn ft fp (pu ρ 2 s) pa an un sm sc sn bx bk → K (some (vI (nI (pcs ρ)))) h') : Spec G l (mt mC_seed) [vR 1, vI x] h K := by
  obtain ⟨sl, r⟩ := r
  have so := r.so
  refine eC_seed 99 [] fun S Cu hS hC => ?_
  refine And.intro (fun q => ?_) (fun q => ?_)
  · obtain ⟨s, hs, ex⟩ := nI_of (Int32.not_lt.mpr q)
    subst ex
    refine ld (sl 0) r.ob r.now ?_
    refine ld _ r.x.ob r.x.2.2.1.1.2.2.2 ?_
    refine ld (sl 0) r.ob r.now ?_
    refine ld (nI s) r.x.ob rfl ?_
    have f : FX (sl 0) [] h (setI h (sl 0) 3 (nI s)) := FX.rf.setI (Or.inl r.x.2.1.a.2.2.1)
    have p : SP (setI h (sl 0) 3 (nI s)) (sl 0) (pu ρ 2 s) := r.x.2.2.1.pu2 r.x.2.2.2.c.1
    refine h1 s hs rfl _ (f.mz r.x.2.1 rfl) ⟨sl, r.1.mut f rfl p (good_pu2 r.x.2.2.2 hs), ?_, ?_⟩
    · unfold CV
      rw [f.i (k := 1) (so.g (Or.inr rfl) rfl (by decide)) rfl]
      exact r.2.1.imp id (fun ⟨a, d⟩ => ⟨a, FDR_sd (d.fx (Or.inl rfl) f (so.g (Or.inr rfl) rfl (by decide)) rfl)⟩)
    · have := r.2.2.fx f ⟨so.g (Or.inr rfl) rfl (by decide), so.g (Or.inr rfl) rfl (by decide), so.g (Or.inr rfl) rfl (by decide), so.g (Or.inr rfl) rfl (by decide)⟩ rfl
      exact this.imp id (fun ⟨t, a, b⟩ => ⟨t, a, by rw [pu_pu2]; exact b⟩)
  · exact h0 (Int32.not_le.mp q)
theorem sC_paint {x y z : Int32} (r : CR h tp tn ft fp ρ pa an un sm sc sn bx bk) (h0 : ¬ (∃ i j v, i < pcw ρ ∧ j < pch ρ ∧ v ≤ 9 ∧ x = nI i ∧ y = nI j ∧ z = nI v ∧ ¬ pcW ρ (pcw ρ * j + i) = v) → K (some (vI (-1))) h) (h1 : ∀ i j v, i < pcw ρ → j < pch ρ → v ≤ 9 → x = nI i → y = nI j → z = nI v → ¬ pcW ρ (pcw ρ * j + i) = v → ∀ h', FC h h' → CR h' tp tn ft fp (pu ρ (4 + (pcw ρ * j + i)) v) (pushP pa an ρ) (pushA an) 0 sm sc 0 bx bk → K (some (vI (nI (pcW ρ (pcw ρ * j + i))))) h') : Spec G l (mt mC_paint) [vR 1, vI x, vI y, vI z] h K := by
  obtain ⟨sl, r⟩ := r
  have so := r.so
  have g := r.x.2.2.2.n
  have gc := r.x.2.2.2.c
  have no : ¬ (∃ i j v, i < pcw ρ ∧ j < pch ρ ∧ v ≤ 9 ∧ x = nI i ∧ y = nI j ∧ z = nI v ∧ ¬ pcW ρ (pcw ρ * j + i) = v) → ∀ z4, Go G l (mt mC_paint) 22 [some (vR 1), some (vI x), some (vI y), some (vI z), z4] [] h 0 0 K := by
    intro q z4
    refine gC_paint 39 [] fun S Cu hS hC => ?_
    exact h0 q
  have iv := inN_iff (x := z) (n := 10) (by decide)
  refine eC_paint 99 [(22, 4)] fun S Cu hS hC => ?_
  refine ld (sl 0) r.ob r.now ?_
  refine And.intro (r.x.ob) (hS _ _ _ _ (sS_holds r.x ?_))
  refine brE (fun q => ?_) (fun q => ?_)
  · exact hC _ _ _ _ (no (fun ⟨i, j, v, a, b, _, c, e, _⟩ => q ⟨⟨i, a, c⟩, ⟨j, b, e⟩⟩) _)
  have out : ¬ inN z 10 → ¬ (∃ i j v, i < pcw ρ ∧ j < pch ρ ∧ v ≤ 9 ∧ x = nI i ∧ y = nI j ∧ z = nI v ∧ ¬ pcW ρ (pcw ρ * j + i) = v) := fun w ⟨i, j, v, _, _, a, _, _, b, _⟩ => w ⟨v, by omega, b⟩
  refine And.intro (fun q2 => ?_) (fun q2 => ?_)
  · exact hC _ _ _ _ (no (out (fun w => absurd (iv.mp w).1 (Int32.not_le.mpr q2))) _)
  refine And.intro (fun q3 => ?_) (fun q3 => ?_)
  · obtain ⟨v, hv, ez⟩ := iv.mpr ⟨Int32.not_lt.mp q2, q3⟩
    obtain ⟨⟨i, hi, ex⟩, ⟨j, hj, ey⟩⟩ := q
    subst ex; subst ey; subst ez
    obtain ⟨c1, c2, c3⟩ := cel_lt (ρ := ρ) hi hj
    have w9 := r.x.2.2.2.2.1 (pcw ρ * j + i) (by omega)
    refine ld (sl 0) r.ob r.now ?_
    refine And.intro (r.x.ob) (hS _ _ _ _ (sS_weightAt r.x rfl rfl c1 ?_))
    refine And.intro (fun q4 => ?_) (fun q4 => ?_)
    · have q4 : ¬ pcW ρ (pcw ρ * j + i) = v := fun w => q4 (congrArg nI w)
      refine And.intro r.ob (hS _ _ _ _ (sC_beginAct r fun h2 k hk f2 z2 p2 => ?_))
      have r2 := z2.o
      refine ld (sl 0) r2.ob r2.now ?_
      refine ld _ r2.x.ob r2.x.r4 ?_
      refine ld (sl 0) r2.ob r2.now ?_
      refine ld _ r2.x.ob r2.x.2.2.1.1.1 ?_
      have ei : nI j * nI (pcw ρ) + nI i = nI (pcw ρ * j + i) := by rw [pk_mul, nI_add, Nat.mul_comm]
      refine sw (pcw ρ * j + i) (nI v) (r2.x.inW ei (by omega)) (ix_of ei (by omega)) rfl ?_
      have f3 : FX (sl 0) [] h2 (setI h2 (sl 0 + 1) (pcw ρ * j + i) (nI v)) := FX.rf.setI (Or.inl r2.x.2.1.a.2.2.2.1)
      have z3 := z2.mut f3 rfl (r2.x.2.2.1.puW (by omega)) (good_puW r.x.2.2.2 (by omega) (by omega))
      exact h1 i j v hi hj (by omega) rfl rfl rfl q4 _ ((f2.mz (so.sh (by omega)) rfl).tr (f3.mz r2.x.2.1 rfl)) z3.o.r
    · have q4 : pcW ρ (pcw ρ * j + i) = v := (nI_eq (by omega) (by omega)).mp q4
      refine h0 (fun ⟨i', j', v', a1, a2, a3, b1, b2, b3, c⟩ => c ?_)
      have e1 : i' = i := (nI_eq (by omega) (by omega)).mp b1.symm
      have e2 : j' = j := (nI_eq (by omega) (by omega)).mp b2.symm
      have e3 : v' = v := (nI_eq (by omega) (by omega)).mp b3.symm
      rw [e1, e2, e3]; exact q4
  · exact hC _ _ _ _ (no (out (fun w => absurd (iv.mp w).2 q3)) _)
theorem sC_turn (r : CR h tp tn ft fp ρ pa an un sm sc sn bx bk) (hK : ∀ h', FC h h' → CR h' tp tn ft fp (trn ρ) (pushP pa an ρ) (pushA an) 0 sm sc 0 bx bk → K (some (vI (nI (pch ρ)))) h') : Spec G l (mt mC_turn) [vR 1] h K := by
  obtain ⟨sl, r⟩ := r
  have so := r.so
  obtain ⟨gt, tw, th, tn'⟩ := trn_ok r.x.2.2.2
  refine eC_turn 99 [] fun S Cu hS hC => ?_
  refine And.intro r.ob (hS _ _ _ _ (sC_beginAct r fun h2 k hk f2 z2 p2 => ?_))
  have r2 := z2.o
  have y2 : SC h2 (sl (2 + k)) ρ := ⟨r2.cs, so.sh (by omega), p2, r.x.2.2.2⟩
  refine ld (sl 0) r2.ob r2.now ?_
  refine And.intro r2.x.ob (hS _ _ _ _ (sS_becomeQuarterTurnOf r2.x y2 (so.ne (by decide) (by omega) (by omega)) fun h3 f3 p3 => ?_))
  have z3 := z2.mut f3 rfl p3 gt
  have r3 := z3.o
  refine ld (sl 0) r3.ob r3.now ?_
  refine ld (nI (pch ρ)) r3.x.ob (by rw [r3.x.2.2.1.1.1, tw]) ?_
  exact hK h3 ((f2.mz (so.sh (by omega)) rfl).tr (f3.mz r2.x.2.1 rfl)) r3.r
theorem sC_draw {x : Int32} (r : CR h tp tn ft fp ρ pa an un sm sc sn bx bk) (h0 : ¬ (∃ n, 1 ≤ n ∧ pcn ρ + n ≤ 40 ∧ x = nI n ∧ n ≤ free ρ) → ∀ h', FC h h' → CR h' tp tn ft fp ρ pa an un sm sc sn bx bk → K (some (vI (-1))) h') (h1 : ∀ n, 1 ≤ n → pcn ρ + n ≤ 40 → x = nI n → n ≤ free ρ → ∀ h', FC h h' → CR h' tp tn ft fp (drwN ρ n) (pushP pa an ρ) (pushA an) 0 sm sc 0 bx bk → K (some (vI (nI (pcn ρ + n)))) h') : Spec G l (mt mC_draw) [vR 1, vI x] h K := by
  obtain ⟨sl, r⟩ := r
  have so := r.so
  have g := r.x.2.2.2.n
  have gc := r.x.2.2.2.c
  have fl : free ρ ≤ 400 := by
    have : free ρ ≤ pcc ρ * 1 := sumN_le fun _ _ => wN_le _ _
    omega
  have no : ¬ (∃ n, 1 ≤ n ∧ pcn ρ + n ≤ 40 ∧ x = nI n ∧ n ≤ free ρ) → ∀ z2, Go G l (mt mC_draw) 25 [some (vR 1), some (vI x), z2] [] h 0 0 K := by
    intro q z2
    refine gC_draw 39 [] fun S Cu hS hC => ?_
    exact h0 q h FC.rf r.r
  have iv := inN_iff (x := x) (n := 41) (by decide)
  refine eC_draw 99 [(25, 2), (62, 3)] fun S Cu hS hC => ?_
  refine And.intro (fun q => ?_) (fun q => ?_)
  · refine hC _ _ _ _ (no (fun ⟨n, a, b, c, _⟩ => ?_) _)
    rw [c] at q
    exact absurd ((nI_ltI (b := 1) (by omega) (by decide)).mp q) (by omega)
  have x0 : 0 ≤ x := Int32.le_trans (show (0 : Int32) ≤ 1 by decide) (Int32.not_lt.mp q)
  refine And.intro (fun q2 => ?_) (fun q2 => ?_)
  · refine hC _ _ _ _ (no (fun ⟨n, a, b, c, _⟩ => ?_) _)
    rw [c] at q2
    exact absurd ((nI_ltI (a := 40) (by decide) (by omega)).mp q2) (by omega)
  obtain ⟨n, hn, ex⟩ := nI_of (Int32.not_lt.mpr x0)
  subst ex
  have n1 : 1 ≤ n := Nat.le_of_not_lt fun z => q ((nI_ltI (b := 1) hn (by decide)).mpr z)
  have n40 : n ≤ 40 := Nat.le_of_not_lt fun z => q2 ((nI_ltI (a := 40) (by decide) hn).mpr z)
  refine ld (sl 0) r.ob r.now ?_
  refine ld _ r.x.ob r.x.2.2.1.1.2.2.1 ?_
  refine pk_le (pcn ρ + n) 40 (fun q3 => ?_) (fun q3 => ?_) (nI_add _ _) rfl
  · refine ld (sl 0) r.ob r.now ?_
    refine ld 119 r.ob (r.cs.rf (k := 1) (j := 10) rfl rfl) ?_
    refine And.intro r.x.ob (hS _ _ _ _ (sS_markBusy r.x fun h2 f2 b2 => ?_))
    have g2 : FX 999 [119] h h2 := f2.x (Or.inr rfl)
    have r2 := r.scr g2 rfl
    refine ld (sl 0) r2.ob r2.now ?_
    refine ld 119 r2.ob (r2.cs.rf (k := 1) (j := 10) rfl rfl) ?_
    refine And.intro (r2.x.ob) (hS _ _ _ _ (sS_freeGreyCells r2.x b2 ?_))
    refine pk_le n (free ρ) (fun q4 => ?_) (fun q4 => ?_)
    · refine And.intro r2.ob (hS _ _ _ _ (sC_beginAct r2 fun h3 k hk f3 z3 p3 => ?_))
      have jp := so.1 (2 + k) (by omega)
      have b3 : busyP h3 ρ := fun c hc => by rw [f3.i (k := 119) (fun z => by rw [← z] at jp; cases jp) rfl]; exact b2 c hc
      have fc3 : FC h h3 := (g2.m9 rfl).tr (f3.mz (so.sh (by omega)) rfl)
      have lp : ∀ m, m ≤ n → ∀ h4, FC h h4 → CRz h4 sl tp tn ft fp (drwN ρ m) (pushP pa an ρ) (pushA an) 0 sm sc 0 bx bk → busyP h4 (drwN ρ m) → ∀ v, v = nI m → Go G l (mt mC_draw) 62 [some (vR 1), some (vI (nI n)), some (vI v)] [] h4 0 0 K := by
        refine upto _ ?_
        intro m hm ih h4 fc z4 b4 v hv
        subst hv
        have r4 := z4.o
        obtain ⟨o1, o2, o3, o4, o5⟩ := drwN_ok r.x.2.2.2 q3 q4 m hm
        refine gC_draw 99 [(62, 3)] fun S Cu hS hC => ?_
        refine pk_le n m (fun w => ?_) (fun w => ?_)
        · obtain rfl : m = n := by omega
          refine ld (sl 0) r4.ob r4.now ?_
          refine ld (nI (pcn ρ + m)) r4.x.ob (by rw [r4.x.2.2.1.1.2.2.1, o2]) ?_
          exact h1 m n1 q3 rfl q4 h4 fc r4.r
        · refine ld (sl 0) r4.ob r4.now ?_
          refine ld 119 r4.ob (r4.cs.rf (k := 1) (j := 10) rfl rfl) ?_
          have bw0 : 0 < bwA (drwN ρ m) := free_bw (by omega)
          refine And.intro r4.x.ob (hS _ _ _ _ (sS_drawOne r4.x b4 (by omega) bw0 fun h5 f5 p5 b5 => ?_))
          refine hC _ _ _ _ (ih w h5 (fc.tr (f5.mz r4.x.2.1 rfl)) (z4.mut f5 rfl p5 (good_drw o1 (by omega) bw0)) b5 _ (nI_1 m))
      exact hC _ _ _ _ (lp 0 (Nat.zero_le _) h3 fc3 z3 b3 _ rfl)
    · refine h0 (fun ⟨n', a, b, c, e⟩ => ?_) h2 (g2.m9 rfl) r2.r
      have : n' = n := (nI_eq (by omega) (by omega)).mp c.symm
      omega
  · refine hC _ _ _ _ (no (fun ⟨n', a, b, c, _⟩ => ?_) _)
    have : n' = n := (nI_eq (by omega) (by omega)).mp c.symm
    omega
end CC
