/-! ===== the class as a whole ===== -/
def KX : List Nat := [17, 24, 86, 122, 123, 129, 130] ++ PL
theorem nin {X L : List Nat} {g : Nat} (hL : L.all (fun g => !X.contains g) = true) (hg : X.contains g = true) : L.contains g = false := by
  cases e : L.contains g with
  | false => rfl
  | true =>
    have := List.all_eq_true.mp hL g (by simpa using e)
    rw [hg] at this; cases this
theorem PL_KX {g : Nat} (h : PL.contains g = true) : KX.contains g = true := by
  unfold KX
  simp only [List.contains_eq_mem, decide_eq_true_eq] at h ⊢
  exact List.mem_append_right _ h
/-- boxes, with who owns what in them -/
def CB (h : AH) (bx : Nat → Pic) (bk : Nat → Prop) : Prop := ∀ b, b < 2 → hI h (122 + 7 * b) 0 = bI (bk b) ∧ (bk b → SP h (123 + 7 * b) (bx b) ∧ Good (bx b) ∧ ∀ c, c < pcc (bx b) → hI h (128 + 7 * b) c = oI (own (bx b) c))
def CV (h : AH) (ρ : Pic) : Prop := hI h 1 2 = nI 0 ∨ (hI h 1 2 = nI 1 ∧ FDR h 7 ρ)
def CRb (h : AH) (sl : Nat → Nat) (tp : Nat → Nat) (tn : Nat) (ft fp : Int32) (ρ : Pic) (pa : Nat → Pic) (an un : Nat) (sm sc : Nat → Int32) (sn : Nat) (bx : Nat → Pic) (bk : Nat → Prop) : Prop := (SLO h sl ∧ SC h (sl 0) ρ) ∧ CT h tp tn ft fp ∧ CP h sl pa an un ∧ CK h sm sc sn ∧ CB h bx bk
def CRs (h : AH) (sl : Nat → Nat) (tp : Nat → Nat) (tn : Nat) (ft fp : Int32) (ρ : Pic) (pa : Nat → Pic) (an un : Nat) (sm sc : Nat → Int32) (sn : Nat) (bx : Nat → Pic) (bk : Nat → Prop) : Prop := CRb h sl tp tn ft fp ρ pa an un sm sc sn bx bk ∧ CV h ρ ∧ CA h ρ
/-- nothing is known of field and rounds ahead -/
def CRz (h : AH) (sl : Nat → Nat) (tp : Nat → Nat) (tn : Nat) (ft fp : Int32) (ρ : Pic) (pa : Nat → Pic) (an un : Nat) (sm sc : Nat → Int32) (sn : Nat) (bx : Nat → Pic) (bk : Nat → Prop) : Prop := CRb h sl tp tn ft fp ρ pa an un sm sc sn bx bk ∧ hI h 1 2 = nI 0 ∧ hI h 89 6 = nI 0
def CR (h : AH) (tp : Nat → Nat) (tn : Nat) (ft fp : Int32) (ρ : Pic) (pa : Nat → Pic) (an un : Nat) (sm sc : Nat → Int32) (sn : Nat) (bx : Nat → Pic) (bk : Nat → Prop) : Prop := ∃ sl, CRs h sl tp tn ft fp ρ pa an un sm sc sn bx bk
theorem CB.fx {h h' : AH} {bx : Nat → Pic} {bk : Nat → Prop} {s : Nat} {L : List Nat} (b : CB h bx bk) (f : FX s L h h') (hs : 122 ≠ s ∧ 123 ≠ s ∧ 129 ≠ s ∧ 130 ≠ s) (hL : (L.contains 122 || L.contains 123 || L.contains 129 || L.contains 130) = false) : CB h' bx bk := by
  simp only [Bool.or_eq_false_iff] at hL
  intro c hc
  have : c = 0 ∨ c = 1 := by omega
  rcases this with rfl | rfl
  · refine ⟨(congrFun (f.i (k := 122) hs.1 hL.1.1.1) 0).trans (b 0 (by decide)).1, fun k => ?_⟩
    obtain ⟨b1, b2, b3⟩ := (b 0 (by decide)).2 k
    exact ⟨f.sp (u := 123) b1 rfl hs.2.1 hL.1.1.2, b2, fun c hc => (congrFun (f.i (k := 128) hs.1 hL.1.1.1) c).trans (b3 c hc)⟩
  · refine ⟨(congrFun (f.i (k := 129) hs.2.2.1 hL.1.2) 0).trans (b 1 (by decide)).1, fun k => ?_⟩
    obtain ⟨b1, b2, b3⟩ := (b 1 (by decide)).2 k
    exact ⟨f.sp (u := 130) b1 rfl hs.2.2.2 hL.2, b2, fun c hc => (congrFun (f.i (k := 135) hs.2.2.1 hL.1.2) c).trans (b3 c hc)⟩
section Cr
variable {h h' : AH} {ρ : Pic} {s : Nat} {L : List Nat}
variable {sl : Nat → Nat} {tp : Nat → Nat} {tn : Nat} {ft fp : Int32} {pa : Nat → Pic} {an un : Nat} {sm sc : Nat → Int32} {sn : Nat} {bx : Nat → Pic} {bk : Nat → Prop}
theorem SLO.g (so : SLO h sl) (hs : s = 999 ∨ s = sl 0) {g : Nat} (hg : PL.contains g = false) (h9 : g ≠ 999) : g ≠ s := by
  rcases hs with rfl | rfl
  · exact h9
  · exact fun z => by have := so.1 0 (by decide); rw [← z, hg] at this; cases this
theorem rest_fx (so : SLO h sl) (c : CT h tp tn ft fp) (p : CP h sl pa an un) (k : CK h sm sc sn) (b : CB h bx bk) (f : FX s L h h') (hs : s = 999 ∨ s = sl 0) (hL : L.all (fun g => !KX.contains g) = true) : CT h' tp tn ft fp ∧ CP h' sl pa an un ∧ CK h' sm sc sn ∧ CB h' bx bk := by
  refine ⟨c.fx f (so.g hs rfl (by decide)) (nin hL rfl), p.fx so f (so.g hs rfl (by decide)) (nin hL rfl) (fun i hi => ?_) (fun i hi => nin hL (PL_KX (so.1 _ (by omega)))), k.fx f (so.g hs rfl (by decide)) (nin hL rfl), b.fx f ⟨so.g hs rfl (by decide), so.g hs rfl (by decide), so.g hs rfl (by decide), so.g hs rfl (by decide)⟩ ?_⟩
  · rcases hs with rfl | rfl
    · have := (so.sh (i := 2 + i) (by omega)).lt; omega
    · exact so.ne (by omega) (by decide) (by omega)
  · rw [nin hL (g := 122) rfl, nin hL (g := 123) rfl, nin hL (g := 129) rfl, nin hL (g := 130) rfl]; rfl
theorem CRb.fx (r : CRb h sl tp tn ft fp ρ pa an un sm sc sn bx bk) (f : FX 999 L h h') (hL : L.all (fun g => !KX.contains g) = true) : CRb h' sl tp tn ft fp ρ pa an un sm sc sn bx bk := by
  obtain ⟨⟨so, x⟩, c, p, k, b⟩ := r
  have := rest_fx so c p k b f (Or.inl rfl) hL
  exact ⟨⟨so.of f.2.2.1, f.sc x (by have := x.2.1.lt; omega) (nin hL (PL_KX (so.1 0 (by decide))))⟩, this⟩
theorem CRb.mut {ρ' : Pic} (r : CRb h sl tp tn ft fp ρ pa an un sm sc sn bx bk) (f : FX (sl 0) L h h') (hL : L.all (fun g => !KX.contains g) = true) (p' : SP h' (sl 0) ρ') (g : Good ρ') : CRb h' sl tp tn ft fp ρ' pa an un sm sc sn bx bk := by
  obtain ⟨⟨so, x⟩, c, p, k, b⟩ := r
  have := rest_fx so c p k b f (Or.inr rfl) hL
  exact ⟨⟨so.of f.2.2.1, f.cs x.1, x.2.1, p', g⟩, this⟩
theorem CRz.mut {ρ' : Pic} (r : CRz h sl tp tn ft fp ρ pa an un sm sc sn bx bk) (f : FX (sl 0) L h h') (hL : L.all (fun g => !(KX ++ [1, 89]).contains g) = true) (p' : SP h' (sl 0) ρ') (g : Good ρ') : CRz h' sl tp tn ft fp ρ' pa an un sm sc sn bx bk := by
  have hL2 : L.all (fun g => !KX.contains g) = true := List.all_eq_true.mpr fun g hg => by
    have := List.all_eq_true.mp hL g hg
    cases e : KX.contains g with
    | false => rfl
    | true =>
      have : (KX ++ [1, 89]).contains g = true := by
        simp only [List.contains_eq_mem, decide_eq_true_eq] at e ⊢
        exact List.mem_append_left _ e
      simp_all
  have so := r.1.1.1
  refine ⟨r.1.mut f hL2 p' g, ?_, ?_⟩
  · rw [f.i (k := 1) (so.g (Or.inr rfl) rfl (by decide)) (nin hL rfl)]; exact r.2.1
  · rw [f.i (k := 89) (so.g (Or.inr rfl) rfl (by decide)) (nin hL rfl)]; exact r.2.2
theorem CRz.o (r : CRz h sl tp tn ft fp ρ pa an un sm sc sn bx bk) : CRs h sl tp tn ft fp ρ pa an un sm sc sn bx bk := ⟨r.1, Or.inl r.2.1, Or.inl r.2.2⟩
theorem CRs.r (r : CRs h sl tp tn ft fp ρ pa an un sm sc sn bx bk) : CR h tp tn ft fp ρ pa an un sm sc sn bx bk := ⟨sl, r⟩
/-- rows that hold nothing -/
theorem CRs.scr (r : CRs h sl tp tn ft fp ρ pa an un sm sc sn bx bk) (f : FX 999 L h h') (hL : L.all (fun g => [110, 112, 119, 120, 121].contains g) = true) : CRs h' sl tp tn ft fp ρ pa an un sm sc sn bx bk := by
  have sub : ∀ {g : Nat}, [110, 112, 119, 120, 121].contains g = false → L.contains g = false := fun {g} hg => by
    cases e : L.contains g with
    | false => rfl
    | true =>
      have := List.all_eq_true.mp hL g (by simpa using e)
      rw [hg] at this; cases this
  have hL2 : L.all (fun g => !KX.contains g) = true := List.all_eq_true.mpr fun g hg => by
    have := List.all_eq_true.mp hL g hg
    have : g = 110 ∨ g = 112 ∨ g = 119 ∨ g = 120 ∨ g = 121 := by simpa using this
    rcases this with rfl | rfl | rfl | rfl | rfl <;> rfl
  refine ⟨r.1.fx f hL2, ?_, r.2.2.fx f ⟨by decide, by decide, by decide, by decide⟩ (by rw [sub (g := 89) rfl, sub (g := 90) rfl, sub (g := 95) rfl, sub (g := 100) rfl]; rfl)⟩
  unfold CV
  rw [f.i (k := 1) (by decide) (sub rfl)]
  exact r.2.1.imp id (fun ⟨a, d⟩ => ⟨a, d.fx (Or.inl rfl) f (by decide) (sub rfl)⟩)
theorem CRs.x (r : CRs h sl tp tn ft fp ρ pa an un sm sc sn bx bk) : SC h (sl 0) ρ := r.1.1.2
theorem CRs.so (r : CRs h sl tp tn ft fp ρ pa an un sm sc sn bx bk) : SLO h sl := r.1.1.1
theorem CRs.cs (r : CRs h sl tp tn ft fp ρ pa an un sm sc sn bx bk) : CS h := r.1.1.2.1
theorem CRs.ob (r : CRs h sl tp tn ft fp ρ pa an un sm sc sn bx bk) : Ob h 1 9 := r.cs.ob (k := 1) (ci := 9) rfl rfl rfl
theorem CRs.now (r : CRs h sl tp tn ft fp ρ pa an un sm sc sn bx bk) : hR h 1 0 = sl 0 := r.1.1.1.2.2.1
end Cr
section CC
variable {G : GP} {l : Launch} {K : Option AV → AH → Prop} {h : AH} {ρ : Pic}
variable {sl : Nat → Nat} {tp : Nat → Nat} {tn : Nat} {ft fp : Int32} {pa : Nat → Pic} {an un : Nat} {sm sc : Nat → Int32} {sn : Nat} {bx : Nat → Pic} {bk : Nat → Prop}
theorem sC_upToDate (r : CRs h sl tp tn ft fp ρ pa an un sm sc sn bx bk) (hK : ∀ h', FX 999 [1, 7] h h' → CRs h' sl tp tn ft fp ρ pa an un sm sc sn bx bk → FDR h' 7 ρ → K (some (vR 7)) h') : Spec G l (mt mC_upToDate) [vR 1] h K := by
  rcases r.2.1 with v | ⟨v, d⟩
  · refine eC_upToDate 39 [] fun S Cu hS hC => ?_
    refine ld _ r.ob v ?_
    refine And.intro (fun z => absurd rfl z) (fun _ => ?_)
    refine ld 7 r.ob (r.cs.rf (k := 1) (j := 1) rfl rfl) ?_
    refine ld (sl 0) r.ob r.now ?_
    refine And.intro (r.cs.fob (Or.inl rfl)) (hS _ _ _ _ (sF_survey r.x (Or.inl rfl) fun h1 f1 d1 => ?_))
    have c1 := f1.cs r.cs
    refine ld (nI 1) ⟨c1.ob (k := 1) (ci := 9) rfl rfl rfl, Or.inr rfl⟩ rfl ?_
    refine ld 7 (c1.ob (k := 1) (ci := 9) rfl rfl rfl) (c1.rf (k := 1) (j := 1) rfl rfl) ?_
    have f2 : FX 999 [1] h1 (setI h1 1 2 (nI 1)) := FX.rf.setI (Or.inr rfl)
    have f3 : FX 999 [1, 7] h (setI h1 1 2 (nI 1)) := f1.cons.tr f2 rfl rfl
    have d3 := d1.fx (Or.inl rfl) f2 (by decide) rfl
    refine hK _ f3 ⟨r.1.fx f3 rfl, Or.inr ⟨si_eq, d3⟩, r.2.2.fx f3 ⟨by decide, by decide, by decide, by decide⟩ rfl⟩ d3
  · refine eC_upToDate 39 [] fun S Cu hS hC => ?_
    refine ld _ r.ob v ?_
    refine And.intro (fun _ => ?_) (fun z => absurd z (by decide))
    refine ld 7 r.ob (r.cs.rf (k := 1) (j := 1) rfl rfl) ?_
    exact hK h FX.rf r d
theorem sC_forget (cs : CS h) (hK : ∀ h', FX 999 [1, 89] h h' → hI h' 1 2 = nI 0 → hI h' 89 6 = nI 0 → K none h') : Spec G l (mt mC_forgetWhatWasSeen) [vR 1] h K := by
  refine eC_forgetWhatWasSeen 39 [] fun S Cu hS hC => ?_
  refine ld (nI 0) ⟨cs.ob (k := 1) (ci := 9) rfl rfl rfl, Or.inl rfl⟩ rfl ?_
  have f1 : FX 999 [1] h (setI h 1 2 (nI 0)) := FX.rf.setI (Or.inr rfl)
  have c1 := f1.cs cs
  refine ld 89 (c1.ob (k := 1) (ci := 9) rfl rfl rfl) (c1.rf (k := 1) (j := 6) rfl rfl) ?_
  refine And.intro (c1.ob (k := 89) (ci := 0) rfl rfl rfl) (hS _ _ _ _ (sA_forget c1 fun h2 f2 e2 => ?_))
  have g2 : FX 999 [89] (setI h 1 2 (nI 0)) h2 := f2.x (Or.inr rfl)
  refine hK h2 (f1.tr g2 rfl rfl) ?_ e2
  rw [g2.i (k := 1) (by decide) rfl, si_eq]
theorem sC_beginAct (r : CRs h sl tp tn ft fp ρ pa an un sm sc sn bx bk) (hK : ∀ h' j, j < 12 → FX (sl (2 + j)) [1, 24, 86, 89] h h' → CRz h' sl tp tn ft fp ρ (pushP pa an ρ) (pushA an) 0 sm sc 0 bx bk → SP h' (sl (2 + j)) ρ → K (some (vR (sl (2 + j)))) h') : Spec G l (mt mC_beginAct) [vR 1] h K := by
  have so := r.so
  refine eC_beginAct 39 [] fun S Cu hS hC => ?_
  refine ld 24 r.ob (r.cs.rf (k := 1) (j := 4) rfl rfl) ?_
  refine ld (sl 0) r.ob r.now ?_
  refine And.intro (r.cs.ob (k := 24) (ci := 4) rfl rfl rfl) (hS _ _ _ _ (sP_keep r.cs so r.1.2.2.1 r.x fun h1 j hj f1 p1 cp1 => ?_))
  have c1 := f1.cs r.cs
  have so1 : SLO h1 sl := so.of f1.2.2.1
  have shj := so.sh (i := 2 + j) (by omega)
  have jp := so.1 (2 + j) (by omega)
  have gj : ∀ {g : Nat}, PL.contains g = false → g ≠ sl (2 + j) := fun {g} hg z => by rw [← z, hg] at jp; cases jp
  have k1 : CK h1 sm sc sn := r.1.2.2.2.1.fx f1 (gj rfl) rfl
  refine ld 86 (c1.ob (k := 1) (ci := 9) rfl rfl rfl) (c1.rf (k := 1) (j := 5) rfl rfl) ?_
  refine And.intro (c1.ob (k := 86) (ci := 8) rfl rfl rfl) (hS _ _ _ _ (sT_clear c1 k1 fun h2 f2 k2 => ?_))
  have c2 := f2.cs c1
  refine And.intro (c2.ob (k := 1) (ci := 9) rfl rfl rfl) (hS _ _ _ _ (sC_forget c2 fun h3 f3 e3 e4 => ?_))
  have f23 : FX 999 [1, 86, 89] h1 h3 := f2.tr f3 rfl rfl
  have f13 : FX (sl (2 + j)) [1, 24, 86, 89] h h3 := f1.tr f23.of rfl rfl
  have x1 : SC h1 (sl 0) ρ := f1.sc r.x (so.ne (by decide) (by omega) (by omega)) (so.nl (by decide) rfl)
  have x3 : SC h3 (sl 0) ρ := f23.sc x1 (by have := x1.2.1.lt; omega) (so.nl (by decide) rfl)
  have ct : CT h3 tp tn ft fp := r.1.2.1.fx f13 (gj rfl) rfl
  have cb : CB h3 bx bk := r.1.2.2.2.2.fx f13 ⟨gj rfl, gj rfl, gj rfl, gj rfl⟩ rfl
  have cp3 : CP h3 sl (pushP pa an ρ) (pushA an) 0 := cp1.fx so1 f23 (by decide) rfl (fun i hi => by have := (so.sh (i := 2 + i) (by omega)).lt; omega) (fun i hi => so.nl (by omega) rfl)
  have ck3 : CK h3 sm sc 0 := k2.fx f3 (by decide) rfl
  exact hK h3 j hj f13 ⟨⟨⟨so.of f13.2.2.1, x3⟩, ct, cp3, ck3, cb⟩, e3, e4⟩ (f23.sp p1 shj (by have := shj.lt; omega) (so.nl (by omega) rfl))
theorem sC_startAnew (so : SLO h sl) (x : SC h (sl 0) ρ) (ct : CT h tp tn ft fp) (cp : CP h sl pa an un) (ck : CK h sm sc sn) (cb : CB h bx bk) (hK : ∀ h', FX 999 [1, 24, 86, 89] h h' → CRz h' sl tp tn ft fp ρ pa 0 0 sm sc 0 bx bk → K none h') : Spec G l (mt mC_startAnew) [vR 1] h K := by
  have cs := x.1
  refine eC_startAnew 39 [] fun S Cu hS hC => ?_
  refine ld 24 (cs.ob (k := 1) (ci := 9) rfl rfl rfl) (cs.rf (k := 1) (j := 4) rfl rfl) ?_
  refine And.intro (cs.ob (k := 24) (ci := 4) rfl rfl rfl) (hS _ _ _ _ (sP_clear cs fun h1 f1 a1 a2 a3 => ?_))
  have g1 : FX 999 [24] h h1 := f1.x (Or.inr rfl)
  have c1 := g1.cs cs
  refine ld 86 (c1.ob (k := 1) (ci := 9) rfl rfl rfl) (c1.rf (k := 1) (j := 5) rfl rfl) ?_
  refine And.intro (c1.ob (k := 86) (ci := 8) rfl rfl rfl) (hS _ _ _ _ (sT_clear c1 (ck.fx g1 (by decide) rfl) fun h2 f2 k2 => ?_))
  have c2 := f2.cs c1
  refine And.intro (c2.ob (k := 1) (ci := 9) rfl rfl rfl) (hS _ _ _ _ (sC_forget c2 fun h3 f3 e3 e4 => ?_))
  have f23 : FX 999 [1, 86, 89] h1 h3 := f2.tr f3 rfl rfl
  have f13 : FX 999 [1, 24, 86, 89] h h3 := g1.tr f23 rfl rfl
  obtain ⟨o, ho, b1, _⟩ := cp
  have e24 : hI h3 24 = hI h1 24 := f23.i (k := 24) (by decide) rfl
  refine hK h3 f13 ⟨⟨⟨so.of f13.2.2.1, f13.sc x (by have := x.2.1.lt; omega) (so.nl (by decide) rfl)⟩, ct.fx f13 (by decide) rfl, ⟨o, ho, ?_, ?_, ?_, by omega, fun i hi => absurd hi (Nat.not_lt_zero i)⟩, k2.fx f3 (by decide) rfl, cb.fx f13 ⟨by decide, by decide, by decide, by decide⟩ rfl⟩, e3, e4⟩
  · rw [e24, a1]; exact b1
  · rw [e24]; exact a2
  · rw [e24]; exact a3
theorem sC_isBox {x : Int32} (hK : K (some (vI (bI (inN x 2)))) h) : Spec G l (mt mC_isBox) [vI x] h K := by
  have i1 := inN_iff (x := x) (n := 2) (by decide)
  refine eC_isBox 39 [] fun S Cu hS hC => ?_
  refine And.intro (fun q => ?_) (fun q => ?_)
  · exact rzF (fun z => absurd (i1.mp z).1 (Int32.not_le.mpr q)) hK
  refine And.intro (fun q2 => ?_) (fun q2 => ?_)
  · exact rzF (fun z => absurd (i1.mp z).2 (Int32.not_lt.mpr q2)) hK
  · exact rzT (i1.mpr ⟨Int32.not_lt.mp q, Int32.not_le.mp q2⟩) hK
end CC
