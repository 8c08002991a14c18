/-! ===== the class: rounds ahead, a box filled ===== -/
theorem FX.cons {s : Nat} {L : List Nat} {h h' : AH} (f : FX s L h h') : FX 999 (s :: L) h h' := by
  refine ⟨f.1, f.2.1, f.2.2.1, fun k _ b => f.2.2.2 k (fun z => ?_) ?_⟩
  · rw [z] at b; simp at b
  · cases e : L.contains (grp k) with
    | false => rfl
    | true =>
      have : (s :: L).contains (grp k) = true := by
        simp only [List.contains_eq_mem, decide_eq_true_eq] at e ⊢
        exact List.mem_cons_of_mem _ e
      rw [this] at b; cases b
theorem FX.m9 {L : List Nat} {h h' : AH} (f : FX 999 L h h') (hL : L.contains 136 = false) : FC h h' := (f.of (s := 0)).m (by decide) hL
theorem FDR.fx {h h' : AH} {f s : Nat} {ρ : Pic} {L : List Nat} (x : FDR h f ρ) (hf : FH f) (g : FX s L h h') (h1 : f ≠ s) (h2 : L.contains f = false) : FDR h' f ρ := by
  have i : ∀ {i : Nat}, i ≤ 9 → hI h' (f + i) = hI h (f + i) := fun {i} hi => g.i (by rw [hf.gr hi]; exact h1) (by rw [hf.gr hi]; exact h2)
  have l : ∀ {i : Nat}, i ≤ 9 → hL h' (f + i) = hL h (f + i) := fun {i} hi => g.l (by rw [hf.gr hi]; exact h1) (by rw [hf.gr hi]; exact h2)
  have i0 : hI h' f = hI h f := i (i := 0) (by decide)
  unfold FDR owR AU
  rw [i (i := 1) (by decide), l (i := 2) (by decide), l (i := 3) (by decide), i (i := 4) (by decide), i (i := 5) (by decide), i (i := 6) (by decide), i (i := 7) (by decide), i (i := 8) (by decide), i (i := 9) (by decide), i0]
  exact x
noncomputable def tlR (ρ : Pic) : Int32 := match fstO (fun k => mvd (rndN ρ k) = 0) 200 with
  | none => -1
  | some k => nI (k + 1)
noncomputable def tlC (ρ : Pic) : Int32 := match fstO (fun k => mvd (rndN ρ k) = 0) 200 with
  | none => -1
  | some k => nI (tot (rndN ρ (k + 1)))
theorem fst_sd {ρ : Pic} {s n : Nat} : fstO (fun k => mvd (rndN (pu ρ 2 s) k) = 0) n = fstO (fun k => mvd (rndN ρ k) = 0) n := by
  congr 1; funext k; rw [rndN_sd, mvd_sd]
theorem tlR_sd {ρ : Pic} {s : Nat} : tlR (pu ρ 2 s) = tlR ρ := by unfold tlR; rw [fst_sd]
theorem tlC_sd {ρ : Pic} {s : Nat} : tlC (pu ρ 2 s) = tlC ρ := by
  unfold tlC; rw [fst_sd]
  cases fstO (fun k => mvd (rndN ρ k) = 0) 200 with
  | none => rfl
  | some k => show nI (tot (rndN (pu ρ 2 s) (k + 1))) = nI (tot (rndN ρ (k + 1))); rw [rndN_sd, tot_sd]
/-- what is known of the rounds to come -/
def CA1 (h : AH) (ρ : Pic) : Prop := hI h 89 6 = nI 1 ∧ hI h 89 1 = nI (mvd ρ) ∧ SP h 90 (rnd ρ) ∧ ((hI h 89 7 = nI 0 ∧ SP h 95 (rnd ρ) ∧ FDR h 100 (rnd ρ)) ∨ (hI h 89 7 = nI 1 ∧ hI h 89 2 = tlR ρ ∧ hI h 89 3 = tlC ρ))
def CA (h : AH) (ρ : Pic) : Prop := hI h 89 6 = nI 0 ∨ ∃ s, s < 2 ^ 31 ∧ CA1 h (pu ρ 2 s)
theorem CA1.fx {h h' : AH} {ρ : Pic} {s : Nat} {L : List Nat} (x : CA1 h ρ) (f : FX s L h h') (h1 : 89 ≠ s ∧ 90 ≠ s ∧ 95 ≠ s ∧ 100 ≠ s) (h2 : (L.contains 89 || L.contains 90 || L.contains 95 || L.contains 100) = false) : CA1 h' ρ := by
  simp only [Bool.or_eq_false_iff] at h2
  have e : hI h' 89 = hI h 89 := f.i (k := 89) h1.1 h2.1.1.1
  unfold CA1
  rw [e]
  refine ⟨x.1, x.2.1, f.sp x.2.2.1 rfl h1.2.1 h2.1.1.2, ?_⟩
  rcases x.2.2.2 with ⟨a, b, c⟩ | y
  · exact Or.inl ⟨a, f.sp b rfl h1.2.2.1 h2.1.2, c.fx (Or.inr rfl) f h1.2.2.2 h2.2⟩
  · exact Or.inr y
theorem CA.fx {h h' : AH} {ρ : Pic} {s : Nat} {L : List Nat} (x : CA h ρ) (f : FX s L h h') (h1 : 89 ≠ s ∧ 90 ≠ s ∧ 95 ≠ s ∧ 100 ≠ s) (h2 : (L.contains 89 || L.contains 90 || L.contains 95 || L.contains 100) = false) : CA h' ρ := by
  rcases x with x | ⟨t, a, b⟩
  · have h3 := h2
    simp only [Bool.or_eq_false_iff] at h3
    exact Or.inl (by rw [f.i (k := 89) h1.1 h3.1.1.1]; exact x)
  · exact Or.inr ⟨t, a, b.fx f h1 h2⟩
section CC
variable {G : GP} {l : Launch} {K : Option AV → AH → Prop} {h : AH} {ρ : Pic}
variable {u : Nat}
theorem sA_forget (cs : CS h) (hK : ∀ h', F1 89 h h' → hI h' 89 6 = nI 0 → K none h') : Spec G l (mt mA_forget) [vR 89] h K := by
  have ob := cs.ob (k := 89) (ci := 0) rfl rfl rfl
  refine eA_forget 39 [] fun S Cu hS hC => ?_
  refine ld (nI 0) ⟨ob, Or.inl rfl⟩ rfl ?_
  refine ld (nI 0) ⟨ob, Or.inl rfl⟩ rfl ?_
  refine hK _ F1.rf.setI.setI ?_
  rw [si_ne (by decide), si_eq]
theorem sA_lookOne (x : SC h u ρ) (u1 : u ≠ 90 ∧ u ≠ 95) (ca : CA h ρ) (hK : ∀ h' s, FX 999 [89, 90, 95, 100] h h' → s < 2 ^ 31 → CA1 h' (pu ρ 2 s) → K none h') : Spec G l (mt mA_lookOne) [vR 89, vR u] h K := by
  have cs := x.1
  have ob := cs.ob (k := 89) (ci := 0) rfl rfl rfl
  have g := x.2.2.2.n
  obtain ⟨gr, lr⟩ := rnd_ok x.2.2.2
  rcases ca with ca | ⟨s, s1, ca⟩
  · refine eA_lookOne 199 [] fun S Cu hS hC => ?_
    refine ld _ ob ca ?_
    refine And.intro (fun _ => ?_) (fun z => absurd rfl z)
    refine ld 95 ob (cs.rf (k := 89) (j := 4) rfl rfl) ?_
    refine And.intro (cs.ob (k := 95) (ci := 7) rfl rfl rfl) (hS _ _ _ _ (sS_copy (s := 95) cs rfl x (fun z => u1.2 z.symm) fun h1 f1 p1 => ?_))
    have x1 : SC h1 95 ρ := ⟨f1.cs cs, rfl, p1, x.2.2.2⟩
    have g1 : FX 999 [89, 90, 95, 100] h h1 := f1.cons.tr FX.rf (M := []) rfl rfl
    refine ld 100 (x1.1.ob (k := 89) (ci := 0) rfl rfl rfl) (x1.1.rf (k := 89) (j := 5) rfl rfl) ?_
    refine ld 95 (x1.1.ob (k := 89) (ci := 0) rfl rfl rfl) (x1.1.rf (k := 89) (j := 4) rfl rfl) ?_
    refine And.intro (x1.1.fob (Or.inr rfl)) (hS _ _ _ _ (sF_survey x1 (Or.inr rfl) fun h2 f2 d2 => ?_))
    have x2 : SC h2 95 ρ := f2.sc x1 (by decide) rfl
    have g2 : FX 999 [89, 90, 95, 100] h h2 := g1.tr f2.cons rfl rfl
    refine ld 100 (x2.1.ob (k := 89) (ci := 0) rfl rfl rfl) (x2.1.rf (k := 89) (j := 5) rfl rfl) ?_
    refine ld 95 (x2.1.ob (k := 89) (ci := 0) rfl rfl rfl) (x2.1.rf (k := 89) (j := 4) rfl rfl) ?_
    refine And.intro (x2.1.fob (Or.inr rfl)) (hS _ _ _ _ (sF_round x2 (Or.inr rfl) d2 fun h3 f3 p3 d3 => ?_))
    have c3 := f3.cs x2.1
    have g3 : FX 999 [89, 90, 95, 100] h h3 := g2.tr f3.cons rfl rfl
    refine ld (nI (mvd ρ)) (c3.ob (k := 89) (ci := 0) rfl rfl rfl) rfl ?_
    have f4 : FX 999 [89] h3 (setI h3 89 1 (nI (mvd ρ))) := FX.rf.setI (Or.inr rfl)
    have x4 : SC (setI h3 89 1 (nI (mvd ρ))) 95 (rnd ρ) := ⟨c3.setI, rfl, f4.sp p3 rfl (by decide) rfl, gr⟩
    have d4 := d3.fx (Or.inr rfl) f4 (by decide) rfl
    refine ld 90 (x4.1.ob (k := 89) (ci := 0) rfl rfl rfl) (x4.1.rf (k := 89) (j := 0) rfl rfl) ?_
    refine ld 95 (x4.1.ob (k := 89) (ci := 0) rfl rfl rfl) (x4.1.rf (k := 89) (j := 4) rfl rfl) ?_
    refine And.intro (x4.1.ob (k := 90) (ci := 7) rfl rfl rfl) (hS _ _ _ _ (sS_copy (s := 90) x4.1 rfl x4 (by decide) fun h5 f5 p5 => ?_))
    have c5 := f5.cs x4.1
    have g5 : FX 999 [89, 90, 95, 100] h h5 := (g3.tr (N := [89, 90, 95, 100]) f4 rfl rfl).tr f5.cons rfl rfl
    refine ld (nI 1) ⟨c5.ob (k := 89) (ci := 0) rfl rfl rfl, Or.inr rfl⟩ rfl ?_
    refine ld (nI 0) ⟨c5.ob (k := 89) (ci := 0) rfl rfl rfl, Or.inl rfl⟩ rfl ?_
    have f6 : FX 999 [89] h5 (setI (setI h5 89 6 (nI 1)) 89 7 (nI 0)) := (FX.rf.setI (Or.inr rfl)).setI (Or.inr rfl)
    refine hK _ (pcs ρ) (g5.tr (N := [89, 90, 95, 100]) f6 rfl rfl) g.2.2.2.2.1 ?_
    rw [pu_same]
    refine ⟨?_, ?_, f6.sp p5 rfl (by decide) rfl, Or.inl ⟨si_eq, f6.sp (f5.sp x4.2.2.1 rfl (by decide) rfl) rfl (by decide) rfl, (d4.fx (Or.inr rfl) f5 (by decide) rfl).fx (Or.inr rfl) f6 (by decide) rfl⟩⟩
    · rw [si_ne (by decide), si_eq]
    · rw [si_ne (by decide), si_ne (by decide), f5.i (k := 89) (by decide) rfl, si_eq]
  · refine eA_lookOne 199 [] fun S Cu hS hC => ?_
    refine ld _ ob ca.1 ?_
    refine And.intro (fun z => absurd z (by decide)) (fun _ => ?_)
    exact hK h s FX.rf s1 ca
theorem sA_lookToEnd (x : SC h u ρ) (u1 : u ≠ 90 ∧ u ≠ 95) (ca : CA h ρ) (hK : ∀ h' s, FX 999 [89, 90, 95, 100] h h' → s < 2 ^ 31 → CA1 h' (pu ρ 2 s) → hI h' 89 2 = tlR ρ → hI h' 89 3 = tlC ρ → K none h') : Spec G l (mt mA_lookToEnd) [vR 89, vR u] h K := by
  refine eA_lookToEnd 199 [(20, 4)] fun S Cu hS hC => ?_
  refine And.intro (x.1.ob (k := 89) (ci := 0) rfl rfl rfl) (hS _ _ _ _ (sA_lookOne x u1 ca fun h2 s g2 s1 a2 => ?_))
  have cs := g2.cs x.1
  have ob := cs.ob (k := 89) (ci := 0) rfl rfl rfl
  have gd : Good (pu ρ 2 s) := good_pu2 x.2.2.2 s1
  have hK : ∀ h', FX 999 [89, 90, 95, 100] h h' → CA1 h' (pu ρ 2 s) → hI h' 89 2 = tlR (pu ρ 2 s) → hI h' 89 3 = tlC (pu ρ 2 s) → K none h' := fun h' f a b c => hK h' s f s1 a (b.trans tlR_sd) (c.trans tlC_sd)
  generalize pu ρ 2 s = σ at *
  obtain ⟨q1, q2, q3, q4⟩ := a2
  rcases q4 with ⟨q4, p95, fd⟩ | ⟨q4, q5, q6⟩
  · refine ld _ ob q4 ?_
    refine And.intro (fun _ => ?_) (fun z => absurd rfl z)
    refine ld _ ob q2 ?_
    have lp : ∀ k, k ≤ 199 → (∀ j, j < k → ¬ mvd (rndN σ j) = 0) → ∀ h1, FX 999 [95, 100] h2 h1 → SP h1 95 (rndN σ (k + 1)) → FDR h1 100 (rndN σ (k + 1)) → ∀ ma mo, ma = nI (k + 1) → mo = nI (mvd (rndN σ k)) → Go G l (mt mA_lookToEnd) 20 [some (vR 89), some (vR u), some (vI ma), some (vI mo)] [] h1 0 0 K := by
      refine upto _ ?_
      intro k hk ih nz h1 f p d ma mo hma hmo
      subst hma; subst hmo
      have c1 := f.cs cs
      have ob := c1.ob (k := 89) (ci := 0) rfl rfl rfl
      have e89 : hI h1 89 = hI h2 89 := f.i (k := 89) (by decide) rfl
      have ml := mvd_le (rndN_ok gd k).1
      have fin : (mvd (rndN σ k) = 0 ∨ k = 199) → Go G l (mt mA_lookToEnd) 49 [some (vR 89), some (vR u), some (vI (nI (k + 1))), some (vI (nI (mvd (rndN σ k))))] [] h1 0 0 K := by
        intro fe
        have done : ∀ v w, v = tlR σ → w = tlC σ → K none (setI (setI (setI h1 89 2 v) 89 3 w) 89 7 (nI 1)) := by
          intro v w hv hw
          rw [hv, hw]
          have f3 : FX 999 [89] h1 (setI (setI (setI h1 89 2 (tlR σ)) 89 3 (tlC σ)) 89 7 (nI 1)) := ((FX.rf.setI (Or.inr rfl)).setI (Or.inr rfl)).setI (Or.inr rfl)
          have v2 : hI (setI (setI (setI h1 89 2 (tlR σ)) 89 3 (tlC σ)) 89 7 (nI 1)) 89 2 = tlR σ := by rw [si_ne (by decide), si_ne (by decide), si_eq]
          have v3 : hI (setI (setI (setI h1 89 2 (tlR σ)) 89 3 (tlC σ)) 89 7 (nI 1)) 89 3 = tlC σ := by rw [si_ne (by decide), si_eq]
          refine hK _ ((g2.tr (N := [89, 90, 95, 100]) f rfl rfl).tr f3 rfl rfl) ⟨?_, ?_, f3.sp (f.sp q3 rfl (by decide) rfl) rfl (by decide) rfl, Or.inr ⟨si_eq, v2, v3⟩⟩ v2 v3
          · rw [si_ne (by decide), si_ne (by decide), si_ne (by decide), e89]; exact q1
          · rw [si_ne (by decide), si_ne (by decide), si_ne (by decide), e89]; exact q2
        refine gA_lookToEnd 99 [] fun S Cu hS hC => ?_
        by_cases z : mvd (rndN σ k) = 0
        · have ef : fstO (fun k => mvd (rndN σ k) = 0) 200 = some k := fstO_some (by omega) z nz
          refine And.intro (fun y => absurd (by rw [z]; rfl) y) (fun _ => ?_)
          refine ld (tlR σ) ob (by unfold tlR; rw [ef]) ?_
          refine And.intro (fun y => absurd (by rw [z]; rfl) y) (fun _ => ?_)
          refine ld 100 ob (c1.rf (k := 89) (j := 5) rfl rfl) ?_
          refine ld (nI (tot (rndN σ (k + 1)))) (c1.fob (Or.inr rfl)) (by rw [si_nk rfl]; exact d.2.2.2) ?_
          refine ld (tlC σ) ob (by unfold tlC; rw [ef]) ?_
          refine ld (nI 1) ⟨ob, Or.inr rfl⟩ rfl ?_
          exact done _ _ rfl rfl
        · have k9 : k = 199 := fe.resolve_left z
          subst k9
          have ef : fstO (fun k => mvd (rndN σ k) = 0) 200 = none := fstO_none (fun j hj => by
            by_cases e : j = 199
            · subst e; exact z
            · exact nz j (by omega))
          have nz0 : ¬ nI (mvd (rndN σ 199)) = 0 := nI_ne0 (by omega) (by omega)
          refine And.intro (fun _ => ?_) (fun y => absurd y nz0)
          refine ld (tlR σ) ob (by unfold tlR; rw [ef]) ?_
          refine And.intro (fun _ => ?_) (fun y => absurd y nz0)
          refine ld (tlC σ) ob (by unfold tlC; rw [ef]) ?_
          refine ld (nI 1) ⟨ob, Or.inr rfl⟩ rfl ?_
          exact done _ _ rfl rfl
      refine gA_lookToEnd 99 [(20, 4), (49, 4)] fun S Cu hS hC => ?_
      refine pk_le 200 (k + 1) (fun q => ?_) (fun q => ?_)
      · exact hC _ _ _ _ (fin (Or.inr (by omega)))
      refine pk_eq (mvd (rndN σ k)) 0 (fun z => ?_) (fun z => ?_)
      · exact hC _ _ _ _ (fin (Or.inl z))
      · refine ld 100 ob (c1.rf (k := 89) (j := 5) rfl rfl) ?_
        refine ld 95 ob (c1.rf (k := 89) (j := 4) rfl rfl) ?_
        have x1 : SC h1 95 (rndN σ (k + 1)) := ⟨c1, rfl, p, (rndN_ok gd (k + 1)).1⟩
        refine And.intro (c1.fob (Or.inr rfl)) (hS _ _ _ _ (sF_round x1 (Or.inr rfl) d fun h3 f3 p3 d3 => ?_))
        refine hC _ _ _ _ (ih (by omega) (fun j hj => ?_) h3 (f.tr f3.cons rfl rfl) p3 d3 _ _ (nI_1 _) rfl)
        by_cases e : j = k
        · subst e; exact z
        · exact nz j (by omega)
    exact hC _ _ _ _ (lp 0 (by decide) (fun j hj => absurd hj (Nat.not_lt_zero j)) h2 FX.rf p95 fd _ _ rfl rfl)
  · refine ld _ ob q4 ?_
    refine And.intro (fun z => absurd z (by decide)) (fun _ => ?_)
    exact hK h2 g2 ⟨q1, q2, q3, Or.inr ⟨q4, q5, q6⟩⟩ q5 q6
theorem sB_keep {k : Nat} (b : BH k) (x : SC h u ρ) (uk : k + 1 ≠ u) (ow : owR h 7 ρ (own ρ)) (hK : ∀ h', FX 999 [k, k + 1] h h' → SP h' (k + 1) ρ → (∀ c, c < pcc ρ → hI h' (k + 6) c = oI (own ρ c)) → hI h' k 0 = nI 1 → K none h') : Spec G l (mt mB_keep) [vR k, vR u, vR 7] h K := by
  have cs := x.1
  have gc := x.2.2.2.c
  have gk : grp k = k ∧ grp (k + 6) = k ∧ 7 ≠ k + 1 := by rcases b with rfl | rfl <;> decide +kernel
  refine eB_keep 99 [] fun S Cu hS hC => ?_
  refine ld (k + 1) (b.ob cs) (b.r1 cs) ?_
  have A := b.sh.a
  refine And.intro ⟨A.2.1.1, by rw [cs.1]; omega, by rw [cs.2.1]; exact A.1.1⟩ (hS _ _ _ _ (sS_copy cs b.sh x uk fun h1 f1 p1 => ?_))
  have c1 := f1.cs cs
  refine ld 8 (c1.fob (Or.inl rfl)) (c1.fr (f := 7) (j := 0) (Or.inl rfl) (by decide)) ?_
  refine ld (k + 6) (b.ob c1) (b.r2 c1) ?_
  refine ⟨400, 400, c1.ar (k := 8) rfl rfl rfl, b.ar c1, by decide, by decide, by decide, by decide, by decide, ?_⟩
  refine ld (nI 1) ⟨b.ob c1, Or.inr rfl⟩ rfl ?_
  have cl : FX 999 [k, k + 1] h h1 := f1.cons.tr FX.rf (M := []) (by simp) rfl
  have f2 : FX 999 [k, k + 1] h1 (setI (rowI h1 (k + 6) (va_cpy (hI h1 8) (hI h1 (k + 6)) (ix 0) (ix 0) (ix 400))) k 0 (nI 1)) := (FX.rf.row (Or.inr (by rw [gk.2.1]; simp))).setI (Or.inr (by rw [gk.1]; simp))
  refine hK _ (cl.tr f2 (by simp) (by simp)) ?_ (fun c hc => ?_) si_eq
  · have f3 : FX 999 [k] h1 (setI (rowI h1 (k + 6) (va_cpy (hI h1 8) (hI h1 (k + 6)) (ix 0) (ix 0) (ix 400))) k 0 (nI 1)) := (FX.rf.row (Or.inr (by rw [gk.2.1]; simp))).setI (Or.inr (by rw [gk.1]; simp))
    exact f3.sp p1 b.sh (by have := b.sh.lt; omega) (by simp)
  · rw [si_n (by omega), ri_eq]
    refine (cpy_at (n := 400) (by omega) (by decide)).trans ?_
    rw [f1.i (k := 8) gk.2.2 rfl]
    exact (ow c hc).1
end CC
