/-! ===== the class: adapt ===== -/
theorem FDR.ld {h : AH} {ρ : Pic} (d : FDR h 7 ρ) {i : Nat} (hi : i < 40) : hI h 13 i = nI (load ρ i) := (d.2.2.1 i hi).2.1
section CC
variable {G : GP} {l : Launch} {K : Option AV → AH → Prop} {h : AH} {ρ : Pic}
variable {sl : Nat → Nat} {tp : Nat → Nat} {tn : Nat} {ft fp : Int32} {pa : Nat → Pic} {an un : Nat} {sm sc : Nat → Int32} {sn : Nat} {bx : Nat → Pic} {bk : Nat → Prop}
theorem sC_countLeft {x : Int32} {lo : Nat} (r : CRs h sl tp tn ft fp ρ pa an un sm sc sn bx bk) (d : FDR h 7 ρ) (hx : x = nI lo) (hl : lo < 2 ^ 31) (hK : K (some (vI (nI (adLf ρ lo)))) h) : Spec G l (mt mC_countLeft) [vR 1, vR 7, vI x] h K := by
  subst hx
  have g := r.x.2.2.2.n
  have lp : ∀ k, k ≤ pcn ρ → ∀ o i, o = nI (sumN (fun d => wN (¬ load ρ d < lo) 1) k) → i = nI k → Go G l (mt mC_countLeft) 5 [some (vR 1), some (vR 7), some (vI (nI lo)), some (vI o), some (vI i)] [] h 0 0 K := by
    refine upto _ ?_
    intro k hk ih o i ho hi
    subst hi
    refine gC_countLeft 99 [(5, 5)] fun S Cu hS hC => ?_
    refine ld (sl 0) r.ob r.now ?_
    refine ld _ r.x.ob r.x.2.2.1.1.2.2.1 ?_
    refine pk_le (pcn ρ) k (fun q => ?_) (fun q => ?_)
    · obtain rfl : k = pcn ρ := by omega
      subst ho; exact hK
    · have ll := load_le r.x.2.2.2 k
      refine ld 13 (r.cs.fob (Or.inl rfl)) (r.cs.fr (f := 7) (j := 5) (Or.inl rfl) (by decide)) ?_
      refine ld (nI (load ρ k)) (r.cs.inA (k := 13) (n := 40) rfl rfl rfl rfl (by omega) rfl) (rdX rfl (by omega) (d.ld (by omega))) ?_
      refine pk_lt (load ρ k) lo (fun q2 => ?_) (fun q2 => ?_)
      · exact hC _ _ _ _ (ih q _ _ (cntF (P := fun d => ¬ load ρ d < lo) (fun z => z q2) ho) (nI_1 k))
      · exact hC _ _ _ _ (ih q _ _ (cntT (P := fun d => ¬ load ρ d < lo) (by omega) ho) (nI_1 k))
  refine eC_countLeft 19 [(5, 5)] fun S Cu hS hC => ?_
  exact hC _ _ _ _ (lp 0 (Nat.zero_le _) _ _ rfl rfl)
theorem sC_planAdded {x y : Int32} {lf hi : Nat} (r : CRs h sl tp tn ft fp ρ pa an un sm sc sn bx bk) (d : FDR h 7 ρ) (hx : x = nI lf) (hy : y = nI hi) (hl : lf ≤ 40) (hh : hi < 2 ^ 31) (hK : ∀ h', FX 999 [120] h h' → (∀ i, i < (adL ρ lf hi (pcn ρ)).length → hI h' 120 i = nI ((adL ρ lf hi (pcn ρ)).getD i 0)) → K (some (vI (nI (adL ρ lf hi (pcn ρ)).length))) h') : Spec G l (mt mC_planAdded) [vR 1, vR 7, vI x, vI y] h K := by
  subst hx; subst hy
  have g := r.x.2.2.2.n
  have gc := r.x.2.2.2.c
  have lp : ∀ k, k ≤ pcn ρ → ∀ h1, FX 999 [120] h h1 → (∀ i, i < (adL ρ lf hi k).length → hI h1 120 i = nI ((adL ρ lf hi k).getD i 0)) → ∀ o i z6, o = nI (adL ρ lf hi k).length → i = nI k → Go G l (mt mC_planAdded) 6 [some (vR 1), some (vR 7), some (vI (nI lf)), some (vI (nI hi)), some (vI o), some (vI i), z6] [] h1 0 0 K := by
    refine upto _ ?_
    intro k hk ih h1 f ep o i z6 ho hi
    subst hi; subst ho
    have r1 := r.scr f rfl
    have d1 : FDR h1 7 ρ := d.fx (Or.inl rfl) f (by decide) rfl
    obtain ⟨al1, al2, al3⟩ := adL_ok (ρ := ρ) (hi := hi) hl k
    have done : adL ρ lf hi (pcn ρ) = adL ρ lf hi k → K (some (vI (nI (adL ρ lf hi k).length))) h1 := by
      intro e
      have := hK h1 f
      rw [e] at this
      exact this ep
    have nx : k < pcn ρ → ∀ h2, FX 999 [120] h h2 → (∀ i, i < (adL ρ lf hi (k + 1)).length → hI h2 120 i = nI ((adL ρ lf hi (k + 1)).getD i 0)) → ∀ o z6, o = nI (adL ρ lf hi (k + 1)).length → Go G l (mt mC_planAdded) 71 [some (vR 1), some (vR 7), some (vI (nI lf)), some (vI (nI hi)), some (vI o), some (vI (nI k)), z6] [] h2 0 0 K := by
      intro q h2 f2 ep2 o z6 ho
      refine gC_planAdded 39 [(6, 6)] fun S Cu hS hC => ?_
      exact hC _ _ _ _ (ih q h2 f2 ep2 _ _ _ ho (nI_1 k))
    refine gC_planAdded 99 [(71, 6)] fun S Cu hS hC => ?_
    refine ld (sl 0) r1.ob r1.now ?_
    refine ld _ r1.x.ob r1.x.2.2.1.1.2.2.1 ?_
    refine pk_le (pcn ρ) k (fun q => ?_) (fun q => ?_)
    · obtain rfl : k = pcn ρ := by omega
      exact done rfl
    refine pk_le 40 (lf + (adL ρ lf hi k).length) (fun q2 => ?_) (fun q2 => ?_) rfl (nI_add _ _)
    · refine done ?_
      have := adL_full q2 (pcn ρ - k)
      rw [show k + (pcn ρ - k) = pcn ρ by omega] at this
      exact this
    have ll := load_le r.x.2.2.2 k
    refine ld 13 (r1.cs.fob (Or.inl rfl)) (r1.cs.fr (f := 7) (j := 5) (Or.inl rfl) (by decide)) ?_
    refine ld (nI (load ρ k)) (r1.cs.inA (k := 13) (n := 40) rfl rfl rfl rfl (by omega) rfl) (rdX rfl (by omega) (d1.ld (by omega))) ?_
    refine pk_lt hi (load ρ k) (fun q3 => ?_) (fun q3 => ?_)
    · refine ld (sl 0) r1.ob r1.now ?_
      refine And.intro (r1.cs.fob (Or.inl rfl)) (hS _ _ _ _ (sF_worstOf (O := own ρ) (P := adO ρ k) r1.x (Or.inl rfl) d1.1 (fun c b e => ?_) (fun c hc => ?_) ?_))
      · unfold adO at e
        split at e
        · injection e with e; subst e; exact q
        · cases e
      · unfold adO
        by_cases z : own ρ c = some k
        · rw [if_pos z]; exact Or.inr ⟨k, z, rfl, Or.inr (by rw [z]; rfl)⟩
        · rw [if_neg z]
          exact Or.inl ⟨rfl, Or.inr ⟨nI_m1 (by omega), fun y => z ((own_oI r.x.2.2.2 (by omega)).mp y)⟩⟩
      cases ew : (wst ρ (adO ρ k) (pcc ρ)).1 with
      | none =>
        refine And.intro (fun _ => ?_) (fun z => absurd rfl z)
        have e := adL_none (ρ := ρ) (lf := lf) (hi := hi) (k := k) ⟨q2, q3⟩ ew
        exact hC _ _ _ _ (nx q h1 f (by rw [e]; exact ep) _ _ (by rw [e]))
      | some c =>
        have cl := wst_lt ew
        refine And.intro (fun z => absurd z (nI_m1 (by omega))) (fun _ => ?_)
        have e := adL_some (ρ := ρ) (lf := lf) (hi := hi) (k := k) ⟨q2, q3⟩ ew
        refine ld 120 r1.ob (r1.cs.rf (k := 1) (j := 11) rfl rfl) ?_
        refine sw (adL ρ lf hi k).length (nI c) (r1.cs.inA (k := 120) (n := 40) rfl rfl rfl rfl (by omega) rfl) (ix_nI (by omega)) rfl ?_
        refine hC _ _ _ _ (nx q _ (f.setI (Or.inr rfl)) (fun i hi' => ?_) _ _ ?_)
        · rw [e] at hi' ⊢
          rw [List.length_append] at hi'
          have hi' : i < (adL ρ lf hi k).length + 1 := hi'
          rw [getD_app]
          by_cases z : i = (adL ρ lf hi k).length
          · rw [z, si_eq, if_pos rfl]
          · rw [si_ne z, if_neg z]; exact ep i (by omega)
        · rw [e, List.length_append]; exact nI_1 _
    · have e := adL_no (ρ := ρ) (lf := lf) (hi := hi) (k := k) (fun z => by omega)
      exact hC _ _ _ _ (nx q h1 f (by rw [e]; exact ep) _ _ (by rw [e]))
  refine eC_planAdded 19 [(6, 6)] fun S Cu hS hC => ?_
  exact hC _ _ _ _ (lp 0 (Nat.zero_le _) h FX.rf (fun i hi => absurd hi (Nat.not_lt_zero i)) _ _ _ rfl rfl)
theorem sC_adapt {x y : Int32} (r : CR h tp tn ft fp ρ pa an un sm sc sn bx bk) (h0 : ∀ h', FC h h' → CR h' tp tn ft fp ρ pa an un sm sc sn bx bk → ¬ (∃ lo hi, lo ≤ hi ∧ hi ≤ 9999 ∧ x = nI lo ∧ y = nI hi ∧ ¬ adZ ρ lo hi) → K (some (vI (-1))) h') (h1 : ∀ lo hi, lo ≤ hi → hi ≤ 9999 → x = nI lo → y = nI hi → ¬ adZ ρ lo hi → ∀ h', FC h h' → CR h' tp tn ft fp (adp ρ lo hi) (pushP pa an ρ) (pushA an) 0 sm sc 0 bx bk → K (some (vI (nI (adLf ρ lo + (adpL ρ lo hi).length)))) h') : Spec G l (mt mC_adapt) [vR 1, vI x, vI y] h K := by
  obtain ⟨sl, r⟩ := r
  have so := r.so
  have g := r.x.2.2.2.n
  have gc := r.x.2.2.2.c
  have g0 := r.x.2.2.2
  have no : ¬ (∃ lo hi, lo ≤ hi ∧ hi ≤ 9999 ∧ x = nI lo ∧ y = nI hi ∧ ¬ adZ ρ lo hi) → Go G l (mt mC_adapt) 16 [some (vR 1), some (vI x), some (vI y), none, none, none, none] [] h 0 0 K := by
    intro q
    refine gC_adapt 39 [] fun S Cu hS hC => ?_
    exact h0 h FC.rf r.r q
  refine eC_adapt 99 [(16, 3), (60, 6)] fun S Cu hS hC => ?_
  refine And.intro (fun q => ?_) (fun q => ?_)
  · refine hC _ _ _ _ (no (fun ⟨lo, hi, a, b, c, _⟩ => ?_))
    rw [c] at q; exact nI_pos (by omega) q
  obtain ⟨lo, hlo, ex⟩ := nI_of q
  subst ex
  refine And.intro (fun q2 => ?_) (fun q2 => ?_)
  · refine hC _ _ _ _ (no (fun ⟨lo', hi, a, b, c, d, _⟩ => ?_))
    rw [d] at q2
    have := (nI_eq hlo (by omega)).mp c
    have := (nI_ltI (by omega) hlo).mp q2
    omega
  have y0 : 0 ≤ y := Int32.le_trans (Int32.not_lt.mp q) (Int32.not_lt.mp q2)
  obtain ⟨hi, hhi, ey⟩ := nI_of (Int32.not_lt.mpr y0)
  subst ey
  have lh : lo ≤ hi := Nat.le_of_not_lt fun z => q2 ((nI_ltI hhi hlo).mpr z)
  have only : ∀ {lo' hi' : Nat}, lo' ≤ hi' → hi' ≤ 9999 → nI lo = nI lo' → nI hi = nI hi' → lo = lo' ∧ hi = hi' := fun a b c d => ⟨(nI_eq (by omega) (by omega)).mp c, (nI_eq (by omega) (by omega)).mp d⟩
  refine pk_le hi 9999 (fun q3 => ?_) (fun q3 => ?_)
  · refine And.intro r.ob (hS _ _ _ _ (sC_upToDate r fun h2 f2 r2 d2 => ?_))
    have lfl : adLf ρ lo ≤ 40 := by
      have : adLf ρ lo ≤ pcn ρ * 1 := sumN_le fun d _ => wN_le _ _
      omega
    obtain ⟨al1, al2, al3⟩ := adL_ok (ρ := ρ) (hi := hi) lfl (pcn ρ)
    have lpl : (adpL ρ lo hi).length ≤ 40 := by unfold adpL; omega
    obtain ⟨dg, dw, dh, dn⟩ := dl_ok (P := fun d => load ρ d < lo) (pcn ρ) ρ g0 (Nat.le_refl _)
    have sn2 := sumN_not (P := fun d => load ρ d < lo) (pcn ρ)
    have dn2 : pcn (dl (fun d => load ρ d < lo) (pcn ρ) ρ) = adLf ρ lo := by unfold adLf; omega
    have dc : pcc (dl (fun d => load ρ d < lo) (pcn ρ) ρ) = pcc ρ := by unfold pcc; rw [dw, dh]
    have aok := adA_ok dg (L := adpL ρ lo hi) (by rw [dn2]; unfold adpL; omega) (by rw [dc]; exact al3)
    rw [dw] at aok
    have ep0 : adL ρ (adLf ρ lo) hi (pcn ρ) = adpL ρ lo hi := rfl
    refine And.intro r2.ob (hS _ _ _ _ (sC_countLeft r2 d2 rfl (by omega) ?_))
    refine And.intro r2.ob (hS _ _ _ _ (sC_planAdded r2 d2 rfl rfl lfl (by omega) fun h3 f3 ep => ?_))
    rw [ep0] at ep ⊢
    have r3 := r2.scr f3 rfl
    have d3 : FDR h3 7 ρ := d2.fx (Or.inl rfl) f3 (by decide) rfl
    have fc3 : FC h h3 := (f2.m9 rfl).tr (f3.m9 rfl)
    have al : adLf ρ lo ≤ pcn ρ := by
      have : adLf ρ lo ≤ pcn ρ * 1 := sumN_le fun d _ => wN_le _ _
      omega
    -- dots put
    have lp4 : ¬ adZ ρ lo hi → ∀ k, k ≤ (adpL ρ lo hi).length → ∀ h4, FC h h4 → CRz h4 sl tp tn ft fp (adA (pcw ρ) (dl (fun d => load ρ d < lo) (pcn ρ) ρ) (adpL ρ lo hi) k) (pushP pa an ρ) (pushA an) 0 sm sc 0 bx bk → (∀ i, i < (adpL ρ lo hi).length → hI h4 120 i = nI ((adpL ρ lo hi).getD i 0)) → ∀ b i z3 z4, b = nI (adpL ρ lo hi).length → i = nI k → Go G l (mt mC_adapt) 110 [some (vR 1), some (vI (nI lo)), some (vI (nI hi)), z3, z4, some (vI b), some (vI i)] [] h4 0 0 K := by
      intro nz
      refine upto _ ?_
      intro k hk ih h4 fc z4' e120 b i z3 z4 hb hi'
      subst hi'; subst hb
      have r4 := z4'.o
      obtain ⟨a1, a2, a3, a4⟩ := aok k hk
      refine gC_adapt 99 [(110, 7)] fun S Cu hS hC => ?_
      refine pk_le (adpL ρ lo hi).length k (fun w => ?_) (fun w => ?_)
      · obtain rfl : k = (adpL ρ lo hi).length := by omega
        refine ld (sl 0) r4.ob r4.now ?_
        refine ld (nI (adLf ρ lo + (adpL ρ lo hi).length)) r4.x.ob (by rw [r4.x.2.2.1.1.2.2.1, a4, dn2]) ?_
        exact h1 lo hi lh q3 rfl rfl nz h4 fc r4.r
      · have hc : (adpL ρ lo hi).getD k 0 < pcc ρ := by
          rw [List.getD_eq_getElem?_getD, List.getElem?_eq_getElem (by omega)]
          exact al3 _ (List.getElem_mem _)
        have xy := g0.xy hc
        refine ld (sl 0) r4.ob r4.now ?_
        refine ld (sl 0) r4.ob r4.now ?_
        refine ld 120 r4.ob (r4.cs.rf (k := 1) (j := 11) rfl rfl) ?_
        refine ld (nI ((adpL ρ lo hi).getD k 0)) (r4.cs.inA (k := 120) (n := 40) rfl rfl rfl rfl (by omega) rfl) (rdX rfl (by omega) (e120 k w)) ?_
        refine And.intro r4.x.ob (hS _ _ _ _ (sS_columnOf r4.x rfl (by omega) ?_))
        refine ld (sl 0) r4.ob r4.now ?_
        refine ld 120 r4.ob (r4.cs.rf (k := 1) (j := 11) rfl rfl) ?_
        refine ld (nI ((adpL ρ lo hi).getD k 0)) (r4.cs.inA (k := 120) (n := 40) rfl rfl rfl rfl (by omega) rfl) (rdX rfl (by omega) (e120 k w)) ?_
        refine And.intro r4.x.ob (hS _ _ _ _ (sS_rowOf r4.x rfl (by omega) ?_))
        refine And.intro r4.x.ob (hS _ _ _ _ (sS_add r4.x rfl rfl (by rw [a4, dn2]; unfold adpL at w; omega) (by rw [a2]; omega) (by rw [a2]; omega) fun h5 f5 p5 => ?_))
        rw [a2] at p5
        refine hC _ _ _ _ (ih w h5 (fc.tr (f5.mz r4.x.2.1 rfl)) (z4'.mut f5 rfl p5 (aok (k + 1) (by omega)).1) (fun i hi' => by rw [f5.i (k := 120) (r4.so.g (Or.inr rfl) rfl (by decide)) rfl]; exact e120 i hi') _ _ _ _ rfl (nI_1 k))
    -- dots taken
    have lp3 : ¬ adZ ρ lo hi → ∀ k, k ≤ pcn ρ → ∀ (π : Pic) (h4 : AH), k ≤ pcn π → dl (fun d => load ρ d < lo) k π = dl (fun d => load ρ d < lo) (pcn ρ) ρ → FC h h4 → CRz h4 sl tp tn ft fp π (pushP pa an ρ) (pushA an) 0 sm sc 0 bx bk → (∀ i, i < (adpL ρ lo hi).length → hI h4 120 i = nI ((adpL ρ lo hi).getD i 0)) → (∀ d, d < 40 → hI h4 13 d = nI (load ρ d)) → ∀ b i z4, b = nI (adpL ρ lo hi).length → i = nI k - 1 → Go G l (mt mC_adapt) 76 [some (vR 1), some (vI (nI lo)), some (vI (nI hi)), some (vR 7), z4, some (vI b), some (vI i)] [] h4 0 0 K := by
      intro nz k
      induction k with
      | zero =>
        intro _ π h4 _ ed fc z4' e120 e13 b i z4 hb hi'
        subst hi'
        refine gC_adapt 99 [(110, 7)] fun S Cu hS hC => ?_
        refine And.intro (fun _ => ?_) (fun z => absurd (by decide) z)
        have ed : π = dl (fun d => load ρ d < lo) (pcn ρ) ρ := ed
        subst ed
        exact hC _ _ _ _ (lp4 nz 0 (Nat.zero_le _) h4 fc z4' e120 _ _ _ _ hb rfl)
      | succ k ih =>
        intro hk π h4 kp ed fc z4' e120 e13 b i z4 hb hi'
        have ei : i = nI k := by rw [hi']; first | with_reducible rfl | (try simp (disch := omega) only [pk_rem]) <;> simp (disch := omega) only [nl0, nl1, nl2, nl3, nl4, nl8, nl9, nl10, nl12, nl20, nl24, nl30, nl32, nl40, nl48, nl100, nl120, nl200, nl255, nl400, nl404, nl524, nl900, nl1000, nl9999, nl16, nl65536, nI_add, pk_mul, pk_sub, pk_div, pk_rem, Nat.add_zero, Nat.zero_add, Nat.mul_one, Nat.add_sub_cancel_left, Nat.add_sub_cancel]
        subst ei
        have r4 := z4'.o
        have ll := load_le g0 k
        have gπ := r4.x.2.2.2.n
        simp only [dl] at ed
        refine gC_adapt 99 [(76, 7)] fun S Cu hS hC => ?_
        refine And.intro (fun z => absurd z (nI_pos (by omega))) (fun _ => ?_)
        refine ld 13 (r4.cs.fob (Or.inl rfl)) (r4.cs.fr (f := 7) (j := 5) (Or.inl rfl) (by decide)) ?_
        refine ld (nI (load ρ k)) (r4.cs.inA (k := 13) (n := 40) rfl rfl rfl rfl (by omega) rfl) (rdX rfl (by omega) (e13 k (by omega))) ?_
        refine pk_le lo (load ρ k) (fun w => ?_) (fun w => ?_)
        · rw [if_neg (by omega)] at ed
          refine hC _ _ _ _ (ih (by omega) π h4 (by omega) ed fc z4' e120 e13 _ _ _ hb ?_)
          exact (Int32.sub_eq_add_neg (nI k) 1).symm
        · rw [if_pos w] at ed
          refine ld (sl 0) r4.ob r4.now ?_
          refine And.intro r4.x.ob (hS _ _ _ _ (sS_remove r4.x rfl (by omega) fun h5 f5 p5 => ?_))
          refine hC _ _ _ _ (ih (by omega) (delD π k) h5 (by rw [delD_n]; omega) ed (fc.tr (f5.mz r4.x.2.1 rfl)) (z4'.mut f5 rfl p5 (good_delD r4.x.2.2.2 (by omega))) (fun i hi' => by rw [f5.i (k := 120) (r4.so.g (Or.inr rfl) rfl (by decide)) rfl]; exact e120 i hi') (fun d hd => by rw [f5.i (k := 13) (r4.so.g (Or.inr rfl) rfl (by decide)) rfl]; exact e13 d hd) _ _ _ hb ?_)
          exact (Int32.sub_eq_add_neg (nI k) 1).symm
    have go60 : ¬ adZ ρ lo hi → Go G l (mt mC_adapt) 60 [some (vR 1), some (vI (nI lo)), some (vI (nI hi)), some (vR 7), some (vI (nI (adLf ρ lo))), some (vI (nI (adpL ρ lo hi).length)), none] [] h3 0 0 K := by
      intro nz
      refine gC_adapt 99 [(76, 7)] fun S Cu hS hC => ?_
      refine And.intro r3.ob (hS _ _ _ _ (sC_beginAct r3 fun h4 k hk f4 z4 p4 => ?_))
      have r4 := z4.o
      have jp := so.1 (2 + k) (by omega)
      have gj : ∀ {g : Nat}, PL.contains g = false → g ≠ sl (2 + k) := fun {g} hg z => by rw [← z, hg] at jp; cases jp
      refine ld (sl 0) r4.ob r4.now ?_
      refine ld _ r4.x.ob r4.x.2.2.1.1.2.2.1 ?_
      exact hC _ _ _ _ (lp3 nz (pcn ρ) (Nat.le_refl _) ρ h4 (Nat.le_refl _) rfl (fc3.tr (f4.mz (so.sh (by omega)) rfl)) z4 (fun i hi' => by rw [f4.i (k := 120) (gj rfl) rfl]; exact ep i hi') (fun d hd => by rw [f4.i (k := 13) (gj rfl) rfl]; exact d3.ld hd) _ _ _ rfl rfl)
    refine ld (sl 0) r3.ob r3.now ?_
    refine ld _ r3.x.ob r3.x.2.2.1.1.2.2.1 ?_
    refine And.intro (fun w => ?_) (fun w => ?_)
    · exact hC _ _ _ _ (go60 (fun z => w (by rw [z.1])))
    have w := (nI_eq (by omega) (by omega)).mp w
    refine And.intro (fun w2 => ?_) (fun w2 => ?_)
    · exact hC _ _ _ _ (go60 (fun z => w2 (by rw [z.2]; rfl)))
    · have w2 := (nI_eq (b := 0) (by omega) (by decide)).mp w2
      refine h0 h3 fc3 r3.r (fun ⟨lo', hi', a, b, c, d, e⟩ => e ?_)
      obtain ⟨e1, e2⟩ := only a b c d
      subst e1; subst e2
      exact ⟨w, w2⟩
  · refine hC _ _ _ _ (no (fun ⟨lo', hi', a, b, c, d, _⟩ => ?_))
    have := (only a b c d).2
    omega
end CC
