/-! ===== the class: undo and redo, rounds, adapt ===== -/
def swS (sl : Nat → Nat) (a b : Nat) : Nat → Nat := fun i => if i = a then sl b else if i = b then sl a else sl i
theorem swS_inj {sl : Nat → Nat} {a b : Nat} (h : ∀ i j, i < 14 → j < 14 → sl i = sl j → i = j) (ha : a < 14) (hb : b < 14) (ab : a ≠ b) : ∀ i j, i < 14 → j < 14 → swS sl a b i = swS sl a b j → i = j := by
  intro i j hi hj e
  unfold swS at e
  by_cases i1 : i = a
  · rw [if_pos i1] at e
    by_cases j1 : j = a
    · omega
    · rw [if_neg j1] at e
      by_cases j2 : j = b
      · rw [if_pos j2] at e; have := h _ _ hb ha e; omega
      · rw [if_neg j2] at e; have := h _ _ hb hj e; omega
  · rw [if_neg i1] at e
    by_cases i2 : i = b
    · rw [if_pos i2] at e
      by_cases j1 : j = a
      · rw [if_pos j1] at e; have := h _ _ ha hb e; omega
      · rw [if_neg j1] at e
        by_cases j2 : j = b
        · omega
        · rw [if_neg j2] at e; have := h _ _ ha hj e; omega
    · rw [if_neg i2] at e
      by_cases j1 : j = a
      · rw [if_pos j1] at e; have := h _ _ hi hb e; omega
      · rw [if_neg j1] at e
        by_cases j2 : j = b
        · rw [if_pos j2] at e; have := h _ _ hi ha e; omega
        · rw [if_neg j2] at e; exact h _ _ hi hj e
theorem swS_pl {sl : Nat → Nat} {a b : Nat} (h : ∀ i, i < 14 → PL.contains (sl i) = true) (ha : a < 14) (hb : b < 14) : ∀ i, i < 14 → PL.contains (swS sl a b i) = true := by
  intro i hi
  unfold swS
  split
  · exact h b hb
  · split
    · exact h a ha
    · exact h i hi
theorem crf25 (j : Nat) : crf 25 j = 0 := by
  unfold crf
  rw [if_neg (by decide), if_neg (by decide)]; rfl
section CC
variable {G : GP} {l : Launch} {K : Option AV → AH → Prop} {h : AH} {ρ : Pic}
variable {sl : Nat → Nat} {tp : Nat → Nat} {tn : Nat} {ft fp : Int32} {pa : Nat → Pic} {an un : Nat} {sm sc : Nat → Int32} {sn : Nat} {bx : Nat → Pic} {bk : Nat → Prop}
/-- now and a kept picture change places -/
theorem swap_cr {o m an' un' : Nat} (r : CRs h sl tp tn ft fp ρ pa an un sm sc sn bx bk) (ho : o < 12) (e1 : hI h 24 1 = nI o) (al : ∀ i, i < an + un → SP h (sl (2 + (o + i) % 12)) (pa i) ∧ Good (pa i)) (l12 : an + un ≤ 12) (hm : m < an + un) (es : an' + un' = an + un) : CRb (setR (setR (setI (setI h 24 2 (nI an')) 24 3 (nI un')) 25 ((o + m) % 12) (sl 0)) 1 0 (sl (2 + (o + m) % 12))) (swS sl 0 (2 + (o + m) % 12)) tp tn ft fp (pa m) (swp pa m ρ) an' un' sm sc sn bx bk ∧ FC h (setR (setR (setI (setI h 24 2 (nI an')) 24 3 (nI un')) 25 ((o + m) % 12) (sl 0)) 1 0 (sl (2 + (o + m) % 12))) := by
  have so := r.so
  have m12 := Nat.mod_lt (o + m) (show 0 < 12 by decide)
  generalize ej : (o + m) % 12 = j at *
  have f1 : FX 999 [24] h (setI (setI h 24 2 (nI an')) 24 3 (nI un')) := (FX.rf.setI (Or.inr rfl)).setI (Or.inr rfl)
  have v1 : hI (setI (setI h 24 2 (nI an')) 24 3 (nI un')) 24 1 = nI o := by rw [si_ne (by decide), si_ne (by decide)]; exact e1
  have v2 : hI (setI (setI h 24 2 (nI an')) 24 3 (nI un')) 24 2 = nI an' := by rw [si_ne (by decide), si_eq]
  have v3 : hI (setI (setI h 24 2 (nI an')) 24 3 (nI un')) 24 3 = nI un' := si_eq
  generalize setI (setI h 24 2 (nI an')) 24 3 (nI un') = h1 at *
  have sp1 : ∀ {i : Nat} {π : Pic}, i < 14 → SP h (sl i) π → SP h1 (sl i) π := fun {i π} hi p => f1.sp p (so.sh hi) (by have := (so.sh hi).lt; omega) (so.nl hi rfl)
  have c1 := f1.cs r.cs
  have cH : CS (setR (setR h1 25 j (sl 0)) 1 0 (sl (2 + j))) := (c1.setR (crf25 j)).setR rfl
  have hm2 := al m hm
  rw [ej] at hm2
  have soH : SLO (setR (setR h1 25 j (sl 0)) 1 0 (sl (2 + j))) (swS sl 0 (2 + j)) := by
    refine ⟨swS_pl so.1 (by decide) (by omega), swS_inj so.2.1 (by decide) (by omega) (by omega), ?_, ?_, fun i hi => ?_⟩
    · rw [sr_eq]; rfl
    · rw [sr_ne (by decide), sr_ne (by omega), f1.2.2.1]
      unfold swS; rw [if_neg (by decide), if_neg (by omega)]; exact so.2.2.2.1
    · rw [sr_ne (by omega)]
      unfold swS
      rw [if_neg (by omega)]
      by_cases e : i = j
      · subst e; rw [sr_eq, if_pos rfl]
      · rw [sr_ne (fun z => e z.2), if_neg (by omega), f1.2.2.1]; exact so.2.2.2.2 i hi
  have sl0 : swS sl 0 (2 + j) 0 = sl (2 + j) := if_pos rfl
  have ct1 : CT h1 tp tn ft fp := r.1.2.1.fx f1 (by decide) rfl
  have ck1 : CK h1 sm sc sn := r.1.2.2.2.1.fx f1 (by decide) rfl
  have cb1 : CB h1 bx bk := r.1.2.2.2.2.fx f1 ⟨by decide, by decide, by decide, by decide⟩ rfl
  refine ⟨⟨⟨soH, ?_⟩, ct1, ⟨o, ho, v1, v2, v3, by omega, fun i hi => ?_⟩, ck1, cb1⟩, ?_⟩
  · rw [sl0]
    exact ⟨cH, so.sh (by omega), sp1 (by omega) hm2.1, hm2.2⟩
  · rw [es] at hi
    have mi := Nat.mod_lt (o + i) (show 0 < 12 by decide)
    unfold swS swp
    rw [if_neg (by omega)]
    by_cases e : i = m
    · rw [if_pos (by rw [e, ej]), if_pos e]
      exact ⟨sp1 (by decide) r.x.2.2.1, r.x.2.2.2⟩
    · rw [if_neg (by omega), if_neg e]
      exact ⟨sp1 (by omega) (al i hi).1, (al i hi).2⟩
  · have fc := f1.m9 rfl
    refine ⟨fc.1, fc.2.1, fun k hk => ⟨(fc.2.2 k hk).1, (fc.2.2 k hk).2.1, ?_⟩⟩
    funext i
    rw [sr_ne (by omega), sr_ne (by omega), f1.2.2.1]
theorem CRb.z {h2 : AH} (b : CRb h sl tp tn ft fp ρ pa an un sm sc sn bx bk) (f : FX 999 [1, 89] h h2) (e1 : hI h2 1 2 = nI 0) (e2 : hI h2 89 6 = nI 0) : CRz h2 sl tp tn ft fp ρ pa an un sm sc sn bx bk := ⟨b.fx f rfl, e1, e2⟩
theorem CRz.trk {h2 : AH} {sn' : Nat} {sm' sc' : Nat → Int32} (z : CRz h sl tp tn ft fp ρ pa an un sm sc sn bx bk) (f : FX 999 [86] h h2) (k : CK h2 sm' sc' sn') : CRz h2 sl tp tn ft fp ρ pa an un sm' sc' sn' bx bk := by
  obtain ⟨⟨⟨so, x⟩, c, p, _, b⟩, e1, e2⟩ := z
  refine ⟨⟨⟨so.of f.2.2.1, f.sc x (by have := x.2.1.lt; omega) (so.nl (by decide) rfl)⟩, c.fx f (by decide) rfl, p.fx so f (by decide) rfl (fun i hi => by have := (so.sh (i := 2 + i) (by omega)).lt; omega) (fun i hi => so.nl (by omega) rfl), k, b.fx f ⟨by decide, by decide, by decide, by decide⟩ rfl⟩, ?_, ?_⟩
  · rw [f.i (k := 1) (by decide) rfl]; exact e1
  · rw [f.i (k := 89) (by decide) rfl]; exact e2
theorem sC_undo (r : CR h tp tn ft fp ρ pa an un sm sc sn bx bk) (h0 : an = 0 → K (some (vI 0)) h) (h1 : 0 < an → ∀ h', FC h h' → CR h' tp tn ft fp (pa (an - 1)) (swp pa (an - 1) ρ) (an - 1) (un + 1) sm sc 0 bx bk → K (some (vI 1)) h') : Spec G l (mt mC_undo) [vR 1] h K := by
  obtain ⟨sl, r⟩ := r
  have so := r.so
  obtain ⟨o, ho, e1, e2, e3, l12, al⟩ := r.1.2.2.1
  refine eC_undo 99 [] fun S Cu hS hC => ?_
  refine ld 24 r.ob (r.cs.rf (k := 1) (j := 4) rfl rfl) ?_
  refine ld _ (r.cs.ob (k := 24) (ci := 4) rfl rfl rfl) e2 ?_
  refine And.intro (fun q => ?_) (fun q => ?_)
  · have a0 : 0 < an := Nat.pos_of_ne_zero (fun z => q (by rw [z]; rfl))
    refine ld 24 r.ob (r.cs.rf (k := 1) (j := 4) rfl rfl) ?_
    refine ld (sl 0) r.ob r.now ?_
    refine And.intro (r.cs.ob (k := 24) (ci := 4) rfl rfl rfl) (hS _ _ _ _ (sP_swapBack r.cs so ho e1 e2 e3 a0 (by omega) r.x.2.1 ?_))
    obtain ⟨cb, fc⟩ := swap_cr (m := an - 1) (an' := an - 1) (un' := un + 1) r ho e1 al l12 (by omega) (by omega)
    have shj := so.sh (i := 2 + (o + (an - 1)) % 12) (by have := Nat.mod_lt (o + (an - 1)) (show 0 < 12 by decide); omega)
    refine And.intro ⟨r.ob, shj.a.2.1.1, by show _ ≤ hN h; rw [r.cs.1]; have := shj.a.2.1; omega⟩ ?_
    generalize setR (setR (setI (setI h 24 2 (nI (an - 1))) 24 3 (nI (un + 1))) 25 ((o + (an - 1)) % 12) (sl 0)) 1 0 (sl (2 + (o + (an - 1)) % 12)) = H at *
    have cH := cb.1.2.1
    refine And.intro (cH.ob (k := 1) (ci := 9) rfl rfl rfl) (hS _ _ _ _ (sC_forget cH fun h3 f3 a3 b3 => ?_))
    have z3 := cb.z f3 a3 b3
    have c3 := z3.1.1.2.1
    refine ld 86 (c3.ob (k := 1) (ci := 9) rfl rfl rfl) (c3.rf (k := 1) (j := 5) rfl rfl) ?_
    refine And.intro (c3.ob (k := 86) (ci := 8) rfl rfl rfl) (hS _ _ _ _ (sT_clear c3 z3.1.2.2.2.1 fun h4 f4 k4 => ?_))
    exact And.intro (Or.inr rfl) (h1 a0 h4 ((fc.tr (f3.m9 rfl)).tr (f4.m9 rfl)) (z3.trk f4 k4).o.r)
  · exact And.intro (Or.inl rfl) (h0 ((nI_eq (b := 0) (by omega) (by decide)).mp q))
theorem sC_redo (r : CR h tp tn ft fp ρ pa an un sm sc sn bx bk) (h0 : un = 0 → K (some (vI 0)) h) (h1 : 0 < un → ∀ h', FC h h' → CR h' tp tn ft fp (pa an) (swp pa an ρ) (an + 1) (un - 1) sm sc 0 bx bk → K (some (vI 1)) h') : Spec G l (mt mC_redo) [vR 1] h K := by
  obtain ⟨sl, r⟩ := r
  have so := r.so
  obtain ⟨o, ho, e1, e2, e3, l12, al⟩ := r.1.2.2.1
  refine eC_redo 99 [] fun S Cu hS hC => ?_
  refine ld 24 r.ob (r.cs.rf (k := 1) (j := 4) rfl rfl) ?_
  refine ld _ (r.cs.ob (k := 24) (ci := 4) rfl rfl rfl) e3 ?_
  refine And.intro (fun q => ?_) (fun q => ?_)
  · have u0 : 0 < un := Nat.pos_of_ne_zero (fun z => q (by rw [z]; rfl))
    refine ld 24 r.ob (r.cs.rf (k := 1) (j := 4) rfl rfl) ?_
    refine ld (sl 0) r.ob r.now ?_
    refine And.intro (r.cs.ob (k := 24) (ci := 4) rfl rfl rfl) (hS _ _ _ _ (sP_swapForth r.cs so ho e1 e2 e3 u0 l12 r.x.2.1 ?_))
    obtain ⟨cb, fc⟩ := swap_cr (m := an) (an' := an + 1) (un' := un - 1) r ho e1 al l12 (by omega) (by omega)
    have shj := so.sh (i := 2 + (o + an) % 12) (by have := Nat.mod_lt (o + an) (show 0 < 12 by decide); omega)
    refine And.intro ⟨r.ob, shj.a.2.1.1, by show _ ≤ hN h; rw [r.cs.1]; have := shj.a.2.1; omega⟩ ?_
    generalize setR (setR (setI (setI h 24 2 (nI (an + 1))) 24 3 (nI (un - 1))) 25 ((o + an) % 12) (sl 0)) 1 0 (sl (2 + (o + an) % 12)) = H at *
    have cH := cb.1.2.1
    refine And.intro (cH.ob (k := 1) (ci := 9) rfl rfl rfl) (hS _ _ _ _ (sC_forget cH fun h3 f3 a3 b3 => ?_))
    have z3 := cb.z f3 a3 b3
    have c3 := z3.1.1.2.1
    refine ld 86 (c3.ob (k := 1) (ci := 9) rfl rfl rfl) (c3.rf (k := 1) (j := 5) rfl rfl) ?_
    refine And.intro (c3.ob (k := 86) (ci := 8) rfl rfl rfl) (hS _ _ _ _ (sT_clear c3 z3.1.2.2.2.1 fun h4 f4 k4 => ?_))
    exact And.intro (Or.inr rfl) (h1 u0 h4 ((fc.tr (f3.m9 rfl)).tr (f4.m9 rfl)) (z3.trk f4 k4).o.r)
  · exact And.intro (Or.inl rfl) (h0 ((nI_eq (b := 0) (by omega) (by decide)).mp q))
theorem rdc_eq {n k : Nat} (hk : 0 < k) (kn : k ≤ n) (nz : ∀ j, j + 1 < k → ¬ mvd (rndN ρ j) = 0) (e : k = n ∨ mvd (rndN ρ (k - 1)) = 0) : rdc ρ n = k := by
  unfold rdc
  by_cases z : mvd (rndN ρ (k - 1)) = 0
  · rw [fstO_some (P := fun k => mvd (rndN ρ k) = 0) (d := k - 1) (by omega) z (fun j hj => nz j (by omega))]
    show k - 1 + 1 = k; omega
  · have e := e.resolve_right z
    subst e
    rw [fstO_none (P := fun k => mvd (rndN ρ k) = 0) (fun j hj => ?_)]
    by_cases jk : j = k - 1
    · rw [jk]; exact z
    · exact nz j (by omega)
theorem sC_rounds {x : Int32} (r : CR h tp tn ft fp ρ pa an un sm sc sn bx bk) (h0 : ¬ (∃ n, 1 ≤ n ∧ n ≤ 100 ∧ x = nI n ∧ 0 < pcn ρ) → K (some (vI (-1))) h) (h1 : ∀ n, 1 ≤ n → n ≤ 100 → x = nI n → 0 < pcn ρ → ∀ h', FC h h' → CR h' tp tn ft fp (rndN ρ (rdc ρ n)) (pushP pa an ρ) (pushA an) 0 (stM ρ sm (rdc ρ n)) (stC ρ sc (rdc ρ n)) (stN sn (rdc ρ n)) bx bk → K (some (vI (nI (rdc ρ n)))) h') : Spec G l (mt mC_rounds) [vR 1, vI x] h K := by
  obtain ⟨sl, r⟩ := r
  have so := r.so
  have g := r.x.2.2.2.n
  have gd := r.x.2.2.2
  have no : ¬ (∃ n, 1 ≤ n ∧ n ≤ 100 ∧ x = nI n ∧ 0 < pcn ρ) → Go G l (mt mC_rounds) 21 [some (vR 1), some (vI x), none, none, none, none, none] [] h 0 0 K := by
    intro q
    refine gC_rounds 39 [] fun S Cu hS hC => ?_
    exact h0 q
  refine eC_rounds 99 [(21, 2), (55, 6)] fun S Cu hS hC => ?_
  refine And.intro (fun q => ?_) (fun q => ?_)
  · refine hC _ _ _ _ (no (fun ⟨n, a, b, c, _⟩ => ?_))
    rw [c] at q
    exact absurd ((nI_ltI (b := 1) (by omega) (by decide)).mp q) (by omega)
  have x0 : 0 ≤ x := Int32.le_trans (show (0 : Int32) ≤ 1 by decide) (Int32.not_lt.mp q)
  refine And.intro (fun q2 => ?_) (fun q2 => ?_)
  · refine hC _ _ _ _ (no (fun ⟨n, a, b, c, _⟩ => ?_))
    rw [c] at q2
    exact absurd ((nI_ltI (a := 100) (by decide) (by omega)).mp q2) (by omega)
  obtain ⟨n, hn, ex⟩ := nI_of (Int32.not_lt.mpr x0)
  subst ex
  have n1 : 1 ≤ n := Nat.le_of_not_lt fun z => q ((nI_ltI (b := 1) hn (by decide)).mpr z)
  have n100 : n ≤ 100 := Nat.le_of_not_lt fun z => q2 ((nI_ltI (a := 100) (by decide) hn).mpr z)
  refine ld (sl 0) r.ob r.now ?_
  refine ld _ r.x.ob r.x.2.2.1.1.2.2.1 ?_
  refine And.intro (fun q3 => ?_) (fun q3 => ?_)
  · have c0 : 0 < pcn ρ := Nat.pos_of_ne_zero (fun z => q3 (by rw [z]; rfl))
    refine And.intro r.ob (hS _ _ _ _ (sC_upToDate r fun h2 f2 r2 d2 => ?_))
    refine ld 24 r2.ob (r2.cs.rf (k := 1) (j := 4) rfl rfl) ?_
    refine ld (sl 0) r2.ob r2.now ?_
    have so2 := r2.so
    refine And.intro (r2.cs.ob (k := 24) (ci := 4) rfl rfl rfl) (hS _ _ _ _ (sP_keep r2.cs so2 r2.1.2.2.1 r2.x fun h3 j hj f3 p3 cp3 => ?_))
    have c3 := f3.cs r2.cs
    refine ld 89 (c3.ob (k := 1) (ci := 9) rfl rfl rfl) (c3.rf (k := 1) (j := 6) rfl rfl) ?_
    refine And.intro (c3.ob (k := 89) (ci := 0) rfl rfl rfl) (hS _ _ _ _ (sA_forget c3 fun h4 f4 e4 => ?_))
    have g4 : FX 999 [89] h3 h4 := f4.x (Or.inr rfl)
    have jp := so.1 (2 + j) (by omega)
    have gj : ∀ {g : Nat}, PL.contains g = false → g ≠ sl (2 + j) := fun {g} hg z => by rw [← z, hg] at jp; cases jp
    have g34 : FX (sl (2 + j)) [24, 89] h2 h4 := f3.tr g4.of rfl rfl
    have x4 : SC h4 (sl 0) ρ := g34.sc r2.x (so.ne (by decide) (by omega) (by omega)) (so.nl (by decide) rfl)
    have b4 : CRb h4 sl tp tn ft fp ρ (pushP pa an ρ) (pushA an) 0 sm sc sn bx bk := ⟨⟨so2.of g34.2.2.1, x4⟩, r2.1.2.1.fx g34 (gj rfl) rfl, cp3.fx (so2.of f3.2.2.1) g4 (by decide) rfl (fun i hi => by have := (so.sh (i := 2 + i) (by omega)).lt; omega) (fun i hi => so.nl (by omega) rfl), r2.1.2.2.2.1.fx g34 (gj rfl) rfl, r2.1.2.2.2.2.fx g34 ⟨gj rfl, gj rfl, gj rfl, gj rfl⟩ rfl⟩
    have d4 : FDR h4 7 ρ := d2.fx (Or.inl rfl) g34 (gj rfl) rfl
    have fc4 : FC h h4 := (f2.m9 rfl).tr (g34.mz (so.sh (by omega)) rfl)
    have v4 : hI h4 1 2 = nI 0 ∨ hI h4 1 2 = nI 1 := by
      rw [g34.i (k := 1) (gj rfl) rfl]
      exact r2.2.1.imp id (fun z => z.1)
    have lp : ∀ k, k ≤ n → (∀ i, i + 1 < k → ¬ mvd (rndN ρ i) = 0) → ∀ h5, FC h h5 → CRb h5 sl tp tn ft fp (rndN ρ k) (pushP pa an ρ) (pushA an) 0 (stM ρ sm k) (stC ρ sc k) (stN sn k) bx bk → FDR h5 7 (rndN ρ k) → (hI h5 1 2 = nI 0 ∨ hI h5 1 2 = nI 1) → hI h5 89 6 = nI 0 → ∀ ma mo i z6, ma = nI k → i = nI k → ((k = 0 ∧ mo = -1) ∨ (0 < k ∧ mo = nI (mvd (rndN ρ (k - 1))))) → Go G l (mt mC_rounds) 55 [some (vR 1), some (vI (nI n)), some (vR 7), some (vI ma), some (vI mo), some (vI i), z6] [] h5 0 0 K := by
      refine upto _ ?_
      intro k hk ih nz h5 fc b5 d5 v5 e5 ma mo i z6 hma hi hmo
      subst hma; subst hi
      have x5 := b5.1.2
      have c5 := x5.1
      have ob5 := c5.ob (k := 1) (ci := 9) rfl rfl rfl
      obtain ⟨gk, lk⟩ := rndN_ok gd k
      have ml := mvd_le gk
      have done : rdc ρ n = k → K (some (vI (nI k))) h5 := by
        intro e
        have := h1 n n1 n100 rfl c0 h5 fc
        rw [e] at this
        refine this ⟨sl, b5, ?_, Or.inl e5⟩
        exact v5.imp id (fun z => ⟨z, d5⟩)
      refine gC_rounds 99 [(55, 6)] fun S Cu hS hC => ?_
      refine pk_le n k (fun w => ?_) (fun w => ?_)
      · obtain rfl : k = n := by omega
        exact done (rdc_eq (by omega) (Nat.le_refl _) nz (Or.inl rfl))
      refine And.intro (fun w2 => ?_) (fun w2 => ?_)
      · rcases hmo with ⟨k0, e⟩ | ⟨k0, e⟩
        · rw [e] at w2; exact absurd w2 (by decide)
        · have mp := mvd_le (rndN_ok gd (k - 1)).1
          rw [e] at w2
          exact done (rdc_eq k0 (by omega) nz (Or.inr ((nI_eq (b := 0) (by omega) (by decide)).mp w2)))
      · refine ld (nI (tot (rndN ρ k))) (c5.fob (Or.inl rfl)) d5.2.2.2 ?_
        refine ld (sl 0) ob5 b5.1.1.2.2.1 ?_
        refine And.intro (c5.fob (Or.inl rfl)) (hS _ _ _ _ (sF_round x5 (Or.inl rfl) d5 fun h6 f6 p6 d6 => ?_))
        have c6 := f6.cs c5
        have so5 := b5.1.1
        have b6 := b5.mut f6 rfl p6 (rndN_ok gd (k + 1)).1
        refine ld 86 (c6.ob (k := 1) (ci := 9) rfl rfl rfl) (c6.rf (k := 1) (j := 5) rfl rfl) ?_
        refine And.intro (c6.ob (k := 86) (ci := 8) rfl rfl rfl) (hS _ _ _ _ (sT_add c6 b6.2.2.2.1 fun h7 f7 k7 => ?_))
        have b7 : CRb h7 sl tp tn ft fp (rndN ρ (k + 1)) (pushP pa an ρ) (pushA an) 0 (stM ρ sm (k + 1)) (stC ρ sc (k + 1)) (stN sn (k + 1)) bx bk := by
          obtain ⟨⟨so6, x6⟩, t6, q6, _, y6⟩ := b6
          exact ⟨⟨so6.of f7.2.2.1, f7.sc x6 (by have := x6.2.1.lt; omega) (so6.nl (by decide) rfl)⟩, t6.fx f7 (by decide) rfl, q6.fx so6 f7 (by decide) rfl (fun i hi => by have := (so6.sh (i := 2 + i) (by omega)).lt; omega) (fun i hi => so6.nl (by omega) rfl), k7, y6.fx f7 ⟨by decide, by decide, by decide, by decide⟩ rfl⟩
        have d7 := d6.fx (Or.inl rfl) f7 (by decide) rfl
        refine hC _ _ _ _ (ih w (fun i hi => ?_) h7 ((fc.tr (f6.mz x5.2.1 rfl)).tr (f7.m9 rfl)) b7 d7 ?_ ?_ _ _ _ _ (nI_1 k) (nI_1 k) (Or.inr ⟨by omega, rfl⟩))
        · by_cases ik : i + 1 < k
          · exact nz i ik
          · rcases hmo with ⟨k0, e⟩ | ⟨k0, e⟩
            · omega
            · have : i = k - 1 := by omega
              rw [this]; intro z; rw [z] at e; exact w2 e
        · rw [f7.i (k := 1) (by decide) rfl, f6.i (k := 1) (so5.g (Or.inr rfl) rfl (by decide)) rfl]; exact v5
        · rw [f7.i (k := 89) (by decide) rfl, f6.i (k := 89) (so5.g (Or.inr rfl) rfl (by decide)) rfl]; exact e5
    exact hC _ _ _ _ (lp 0 (Nat.zero_le _) (fun i hi => absurd hi (Nat.not_lt_zero _)) h4 fc4 b4 d4 v4 e4 _ _ _ _ rfl rfl (Or.inl ⟨rfl, rfl⟩))
  · have q3 : pcn ρ = 0 := (nI_eq (b := 0) (by omega) (by decide)).mp q3
    exact hC _ _ _ _ (no (fun ⟨n', _, _, _, c⟩ => by omega))
end CC
