/-! ===== the class: pieces ===== -/
theorem bsd_of {ρ : Pic} {v f : Nat} (h : bsd ρ v f) : (0 < v % pcw ρ ∧ f = v - 1) ∨ (f = v + 1 ∧ v % pcw ρ + 1 = f % pcw ρ) ∨ (0 < v / pcw ρ ∧ f = v - pcw ρ) ∨ (f = v + pcw ρ ∧ f / pcw ρ = v / pcw ρ + 1) := by
  unfold bsd ad at h
  have hf := Nat.div_add_mod f (pcw ρ)
  have hv := Nat.div_add_mod v (pcw ρ)
  by_cases e : f / pcw ρ = v / pcw ρ
  · rw [e] at hf h
    by_cases q : f % pcw ρ < v % pcw ρ
    · exact Or.inl ⟨by omega, by omega⟩
    · exact Or.inr (Or.inl ⟨by omega, by omega⟩)
  · by_cases q : f / pcw ρ < v / pcw ρ
    · have e2 : v / pcw ρ = f / pcw ρ + 1 := by omega
      rw [e2, Nat.mul_succ] at hv
      exact Or.inr (Or.inr (Or.inl ⟨by rw [e2]; exact Nat.succ_pos _, by omega⟩))
    · have e2 : f / pcw ρ = v / pcw ρ + 1 := by omega
      rw [e2, Nat.mul_succ] at hf
      exact Or.inr (Or.inr (Or.inr ⟨by omega, e2⟩))
theorem bsd_l {ρ : Pic} {v : Nat} (hw : 1 ≤ pcw ρ) (h : 0 < v % pcw ρ) : bsd ρ v (v - 1) := by
  have v1 : 1 ≤ v := Nat.le_trans h (Nat.mod_le _ _)
  have m := modk (w := pcw ρ) (c := v - 1) (k := 1) hw hw
  rw [show v - 1 + 1 = v by omega] at m
  have := Nat.mod_lt (v - 1) (show 0 < pcw ρ by omega)
  unfold bsd ad
  rcases m with ⟨a, b, c⟩ | ⟨a, b, c⟩ <;> omega
theorem bsd_u {ρ : Pic} {v : Nat} (hw : 1 ≤ pcw ρ) (h : 0 < v / pcw ρ) : pcw ρ ≤ v ∧ bsd ρ v (v - pcw ρ) := by
  have v1 : pcw ρ ≤ v := by
    have hv := Nat.div_add_mod v (pcw ρ)
    have : pcw ρ * 1 ≤ pcw ρ * (v / pcw ρ) := Nat.mul_le_mul_left _ h
    omega
  refine ⟨v1, ?_⟩
  have m := modk (w := pcw ρ) (c := v - pcw ρ) (k := pcw ρ) hw (Nat.le_refl _)
  rw [show v - pcw ρ + pcw ρ = v by omega] at m
  unfold bsd ad
  rcases m with ⟨a, b, c⟩ | ⟨a, b, c⟩ <;> omega
/-- a search: the cells met, those that wait, those looked at but for V -/
def PW (h : AH) (ρ : Pic) (d c : Nat) (M : Nat → Prop) (i : Nat) (W : Nat → Prop) (tp : Nat) (st : Nat → Nat) (V : Nat → Prop) : Prop :=
  (∀ e, M e → W e) ∧ (∀ e, W e → M e ∨ (e < pcc ρ ∧ comp ρ d c e)) ∧ sumN (fun e => wN (W e) 1) (pcc ρ) = tp + i + sumN (fun e => wN (M e) 1) (pcc ρ) ∧ (∀ e, e < pcc ρ → hI h 116 e = bI (own ρ e = some d ∧ ¬ W e)) ∧ hI h 112 5 = nI tp ∧ (∀ j, j < tp → hI h 117 j = nI (st j) ∧ st j < pcc ρ ∧ comp ρ d c (st j)) ∧ (∀ e, e < pcc ρ → W e → ¬ M e → (∃ j, j < tp ∧ st j = e) ∨ V e ∨ ∀ f, f < pcc ρ → bsd ρ e f → own ρ f = some d → W f)
theorem PW.lt {h : AH} {ρ : Pic} {d c : Nat} {M : Nat → Prop} {i : Nat} {W : Nat → Prop} {tp : Nat} {st : Nat → Nat} {V : Nat → Prop} (p : PW h ρ d c M i W tp st V) {e : Nat} (he : e < pcc ρ) (hv : ¬ W e) : tp + i < pcc ρ := by
  have h1 : sumN (fun j => wN (W j ∨ j = e) 1) (pcc ρ) = sumN (fun j => wN (W j) 1) (pcc ρ) + 1 := sumN_bump he (fun j hj => wN_eq ⟨fun z => z.elim id (fun y => absurd y hj), Or.inl⟩) (by rw [wN_T (Or.inr rfl), wN_F hv])
  have h2 := cnt_le (P := fun j => W j ∨ j = e) (n := pcc ρ)
  have := p.2.2.1
  omega
theorem PW.le {h : AH} {ρ : Pic} {d c : Nat} {M : Nat → Prop} {i : Nat} {W : Nat → Prop} {tp : Nat} {st : Nat → Nat} {V : Nat → Prop} (p : PW h ρ d c M i W tp st V) : tp + i ≤ pcc ρ := by
  have h2 := cnt_le (P := W) (n := pcc ρ)
  have := p.2.2.1
  omega
section CC
variable {G : GP} {l : Launch} {K : Option AV → AH → Prop} {h : AH} {ρ : Pic}
theorem sK_push {x : Int32} {d c i f tp : Nat} {M W V : Nat → Prop} {st : Nat → Nat} (cs : CS h) (gd : Good ρ) (p : PW h ρ d c M i W tp st V) (hx : x = nI f) (hf : f < pcc ρ) (hcf : own ρ f = some d → comp ρ d c f) (hK : ∀ h' W' tp' st', FX 999 [112] h h' → PW h' ρ d c M i W' tp' st' V → (∀ e, W e → W' e) → (own ρ f = some d → W' f) → K none h') : Spec G l (mt mK_push) [vR 112, vI x] h K := by
  subst hx
  have gc := gd.c
  have ob := cs.ob (k := 112) (ci := 3) rfl rfl rfl
  have pl := p.le
  refine eK_push 99 [] fun S Cu hS hC => ?_
  refine ld 116 ob (cs.rf (k := 112) (j := 3) rfl rfl) ?_
  refine ld _ (cs.inA (k := 116) (n := 400) (j := f) rfl rfl rfl rfl (by omega) rfl) (rdX rfl (by omega) (p.2.2.2.1 f hf)) ?_
  refine brE (fun q => ?_) (fun q => ?_)
  · exact hK h W tp st FX.rf p (fun _ z => z) (fun z => Classical.byContradiction fun y => q ⟨z, y⟩)
  have lt := p.lt hf q.2
  refine ld _ ob p.2.2.2.2.1 ?_
  refine pk_le 400 tp (fun z => by omega) (fun _ => ?_)
  refine ld 116 ob (cs.rf (k := 112) (j := 3) rfl rfl) ?_
  refine sw f (nI 0) ⟨cs.inA (k := 116) (n := 400) (j := f) rfl rfl rfl rfl (by omega) rfl, Or.inl rfl⟩ (ix_nI (by omega)) rfl ?_
  refine ld 117 ob (cs.rf (k := 112) (j := 4) rfl rfl) ?_
  refine ld (nI tp) ob (by rw [si_nk rfl]; exact p.2.2.2.2.1) ?_
  refine sw tp (nI f) (cs.inA (k := 117) (n := 400) (j := tp) rfl rfl rfl rfl (by omega) rfl) (ix_nI (by omega)) rfl ?_
  refine ld (nI tp) ob (by rw [si_nk rfl, si_nk rfl]; exact p.2.2.2.2.1) ?_
  refine ld (nI (tp + 1)) ob (nI_1 tp) ?_
  refine hK _ (fun e => W e ∨ e = f) (tp + 1) (up1 st tp f) (((FX.rf.setI (Or.inr rfl)).setI (Or.inr rfl)).setI (Or.inr rfl)) ⟨fun e z => Or.inl (p.1 e z), fun e z => ?_, ?_, fun e he => ?_, si_eq, fun j hj => ?_, fun e he z nm => ?_⟩ (fun e z => Or.inl z) (fun _ => Or.inr rfl)
  · rcases z with z | z
    · exact p.2.1 e z
    · subst z; exact Or.inr ⟨hf, hcf q.1⟩
  · have h1 : sumN (fun j => wN (W j ∨ j = f) 1) (pcc ρ) = sumN (fun j => wN (W j) 1) (pcc ρ) + 1 := sumN_bump hf (fun j hj => wN_eq ⟨fun z => z.elim id (fun y => absurd y hj), Or.inl⟩) (by rw [wN_T (Or.inr rfl), wN_F q.2])
    rw [h1, p.2.2.1]; omega
  · rw [si_nk rfl, si_nk rfl]
    by_cases ef : e = f
    · subst ef; rw [si_eq, bI_F (fun z => z.2 (Or.inr rfl))]; rfl
    · rw [si_ne ef, p.2.2.2.1 e he]
      exact bI_eq ⟨fun z => ⟨z.1, fun y => y.elim z.2 ef⟩, fun z => ⟨z.1, fun y => z.2 (Or.inl y)⟩⟩
  · rw [si_nk rfl]
    by_cases ej : j = tp
    · rw [ej, si_eq, up1_eq]; exact ⟨rfl, hf, hcf q.1⟩
    · rw [si_ne ej, up1_ne ej, si_nk rfl]; exact p.2.2.2.2.2.1 j (by omega)
  · by_cases ef : e = f
    · exact Or.inl ⟨tp, by omega, by rw [up1_eq, ef]⟩
    · rcases p.2.2.2.2.2.2 e he (z.resolve_right ef) nm with ⟨j, a, b⟩ | y | y
      · exact Or.inl ⟨j, by omega, by rw [up1_ne (by omega)]; exact b⟩
      · exact Or.inr (Or.inl y)
      · exact Or.inr (Or.inr fun u h1 h2 h3 => Or.inl (y u h1 h2 h3))
theorem sK_clearPiece {x : Int32} {d c s : Nat} {M : Nat → Prop} (sc : SC h s ρ) (hx : x = nI c) (hc : c < pcc ρ) (hoc : own ρ c = some d) (eo : ∀ e, e < pcc ρ → hI h 116 e = bI (own ρ e = some d ∧ ¬ M e)) (hM : clsd ρ d M) (hK : ∀ h', FX 999 [112] h h' → (∀ e, e < pcc ρ → hI h' 116 e = bI (own ρ e = some d ∧ ¬ (M e ∨ comp ρ d c e))) → K none h') : Spec G l (mt mK_clearPiece) [vR 112, vI x, vR s] h K := by
  subst hx
  have gd := sc.2.2.2
  have g := gd.n
  have gc := gd.c
  have lp : ∀ i, i ≤ 400 → ∀ h1 W tp st, FX 999 [112] h h1 → PW h1 ρ d c M i W tp st (fun _ => False) → W c → ∀ u z4 z5 z6, u = nI i → Go G l (mt mK_clearPiece) 12 [some (vR 112), some (vI (nI c)), some (vR s), some (vI u), z4, z5, z6] [] h1 0 0 K := by
    refine upto _ ?_
    intro i hi ih h1 W tp st f p wc u z4 z5 z6 hu
    subst hu
    have x1 := sc.fx f rfl
    have c1 := x1.1
    have ob := c1.ob (k := 112) (ci := 3) rfl rfl rfl
    have pl := p.le
    have done : tp = 0 → K none h1 := by
      intro t0
      refine hK h1 f (fun e he => (p.2.2.2.1 e he).trans (bI_eq (and_congr_right fun _ => not_congr ⟨fun z => (p.2.1 e z).imp id (fun y => y.2), fun z => ?_⟩)))
      rcases z with z | z
      · exact p.1 e z
      · refine z W wc (fun a b ha hb wa hab ho => ?_)
        by_cases ma : M a
        · exact p.1 b (hM a b ha hb ma hab ho)
        · rcases p.2.2.2.2.2.2 a ha wa ma with ⟨j, y, _⟩ | y | y
          · omega
          · exact y.elim
          · exact y b hb hab ho
    refine gK_clearPiece 199 [(12, 4), (76, 7), (95, 7), (111, 7), (133, 4)] fun S Cu hS hC => ?_
    refine pk_le 400 i (fun q => done (by omega)) (fun q => ?_)
    refine ld _ ob p.2.2.2.2.1 ?_
    refine pk_le tp 0 (fun q2 => done (by omega)) (fun q2 => ?_)
    have top := p.2.2.2.2.2.1 (tp - 1) (by omega)
    refine ld _ ob p.2.2.2.2.1 ?_
    refine ld (nI (tp - 1)) ob (by first | with_reducible rfl | (try simp (disch := omega) only [pk_rem]) <;> simp (disch := omega) only [nl0, nl1, nl2, nl3, nl4, nl8, nl9, nl10, nl12, nl20, nl24, nl30, nl32, nl40, nl48, nl100, nl120, nl200, nl255, nl400, nl404, nl524, nl900, nl1000, nl9999, nl16, nl65536, nI_add, pk_mul, pk_sub, pk_div, pk_rem, Nat.add_zero, Nat.zero_add, Nat.mul_one, Nat.add_sub_cancel_left, Nat.add_sub_cancel]) ?_
    refine ld 117 ob (c1.rf (k := 112) (j := 4) rfl rfl) ?_
    refine ld (nI (tp - 1)) ob si_eq ?_
    refine ld (nI (st (tp - 1))) (c1.inA (k := 117) (n := 400) (j := tp - 1) rfl rfl rfl rfl (by omega) rfl) (rdX rfl (by omega) (by rw [si_nk rfl]; exact top.1)) ?_
    have f2 : FX 999 [112] h (setI h1 112 5 (nI (tp - 1))) := f.setI (Or.inr rfl)
    have p2 : PW (setI h1 112 5 (nI (tp - 1))) ρ d c M (i + 1) W (tp - 1) st (fun e => e = st (tp - 1)) := by
      refine ⟨p.1, p.2.1, by rw [p.2.2.1]; omega, fun e he => by rw [si_nk rfl]; exact p.2.2.2.1 e he, si_eq, fun j hj => by rw [si_nk rfl]; exact p.2.2.2.2.2.1 j (by omega), fun e he w nm => ?_⟩
      rcases p.2.2.2.2.2.2 e he w nm with ⟨j, a, b⟩ | y | y
      · by_cases ej : j = tp - 1
        · exact Or.inr (Or.inl (by rw [← b, ej]))
        · exact Or.inl ⟨j, by omega, b⟩
      · exact y.elim
      · exact Or.inr (Or.inr y)
    have hv := top.2.1
    have hcv := top.2.2
    generalize st (tp - 1) = v at *
    generalize setI h1 112 5 (nI (tp - 1)) = h2 at *
    have xy := gd.xy hv
    have cl := cell_lt gd hv
    have x2 := sc.fx f2 rfl
    refine And.intro x2.ob (hS _ _ _ _ (sS_columnOf x2 rfl (by omega) ?_))
    refine And.intro x2.ob (hS _ _ _ _ (sS_rowOf x2 rfl (by omega) ?_))
    -- from 133: all four are looked at
    have a4 : ∀ h3 W3 tp3 st3, FX 999 [112] h h3 → PW h3 ρ d c M (i + 1) W3 tp3 st3 (fun e => e = v) → W3 c → (∀ f, f < pcc ρ → bsd ρ v f → own ρ f = some d → W3 f) → Go G l (mt mK_clearPiece) 133 [some (vR 112), some (vI (nI c)), some (vR s), some (vI (nI i)), none, none, none] [] h3 0 0 K := by
      intro h3 W3 tp3 st3 f3 p3 wc3 al
      refine gK_clearPiece 99 [(12, 4)] fun S Cu hS hC => ?_
      refine hC _ _ _ _ (ih q h3 W3 tp3 st3 f3 ⟨p3.1, p3.2.1, p3.2.2.1, p3.2.2.2.1, p3.2.2.2.2.1, p3.2.2.2.2.2.1, fun e he w nm => ?_⟩ wc3 _ _ _ _ (nI_1 i))
      rcases p3.2.2.2.2.2.2 e he w nm with y | y | y
      · exact Or.inl y
      · exact Or.inr (Or.inr (by rw [y]; exact al))
      · exact Or.inr (Or.inr y)
    have a3 : ∀ h3 W3 tp3 st3, FX 999 [112] h h3 → PW h3 ρ d c M (i + 1) W3 tp3 st3 (fun e => e = v) → W3 c → (∀ f, f < pcc ρ → bsd ρ v f → own ρ f = some d → ¬ f = v + pcw ρ → W3 f) → Go G l (mt mK_clearPiece) 111 [some (vR 112), some (vI (nI c)), some (vR s), some (vI (nI i)), some (vI (nI v)), some (vI (nI (v % pcw ρ))), some (vI (nI (v / pcw ρ)))] [] h3 0 0 K := by
      intro h3 W3 tp3 st3 f3 p3 wc3 al
      have x3 := sc.fx f3 rfl
      refine gK_clearPiece 99 [(133, 4)] fun S Cu hS hC => ?_
      refine ld _ x3.ob x3.2.2.1.1.2.1 ?_
      refine pk_le (pch ρ) (v / pcw ρ + 1) (fun z => ?_) (fun z => ?_) rfl (nI_1 _)
      · refine hC _ _ _ _ (a4 h3 W3 tp3 st3 f3 p3 wc3 (fun u hu hb ho => al u hu hb ho (fun y => ?_)))
        have := cl.2.mpr (by omega); omega
      · refine ld _ x3.ob x3.2.2.1.1.1 ?_
        have l2 := cl.2.mp z
        refine And.intro (x3.1.ob (k := 112) (ci := 3) rfl rfl rfl) (hS _ _ _ _ (sK_push x3.1 gd p3 (nI_add _ _) l2 (fun ho => hcv.st hv l2 ((bsd_k (by omega) (by omega) (Nat.le_refl _)).mpr (Or.inr rfl)) ho) fun h4 W4 tp4 st4 f4 p4 mo wf => ?_))
        refine hC _ _ _ _ (a4 h4 W4 tp4 st4 (f3.tr f4 rfl rfl) p4 (mo c wc3) (fun u hu hb ho => ?_))
        by_cases e : u = v + pcw ρ
        · rw [e] at ho ⊢; exact wf ho
        · exact mo u (al u hu hb ho e)
    have a2 : ∀ h3 W3 tp3 st3, FX 999 [112] h h3 → PW h3 ρ d c M (i + 1) W3 tp3 st3 (fun e => e = v) → W3 c → (∀ f, f < pcc ρ → bsd ρ v f → own ρ f = some d → ¬ f = v + pcw ρ → ¬ (0 < v / pcw ρ ∧ f = v - pcw ρ) → W3 f) → Go G l (mt mK_clearPiece) 95 [some (vR 112), some (vI (nI c)), some (vR s), some (vI (nI i)), some (vI (nI v)), some (vI (nI (v % pcw ρ))), some (vI (nI (v / pcw ρ)))] [] h3 0 0 K := by
      intro h3 W3 tp3 st3 f3 p3 wc3 al
      have x3 := sc.fx f3 rfl
      refine gK_clearPiece 99 [(111, 7)] fun S Cu hS hC => ?_
      refine pk_le (v / pcw ρ) 0 (fun z => ?_) (fun z => ?_)
      · exact hC _ _ _ _ (a3 h3 W3 tp3 st3 f3 p3 wc3 (fun u hu hb ho n1 => al u hu hb ho n1 (fun y => by omega)))
      · refine ld _ x3.ob x3.2.2.1.1.1 ?_
        obtain ⟨l1, l2⟩ := bsd_u (ρ := ρ) (by omega) z
        refine And.intro (x3.1.ob (k := 112) (ci := 3) rfl rfl rfl) (hS _ _ _ _ (sK_push (f := v - pcw ρ) x3.1 gd p3 (pk_sub l1) (by omega) (fun ho => hcv.st hv (by omega) l2 ho) fun h4 W4 tp4 st4 f4 p4 mo wf => ?_))
        refine hC _ _ _ _ (a3 h4 W4 tp4 st4 (f3.tr f4 rfl rfl) p4 (mo c wc3) (fun u hu hb ho n1 => ?_))
        by_cases e : u = v - pcw ρ
        · rw [e] at ho ⊢; exact wf ho
        · exact mo u (al u hu hb ho n1 (fun y => e y.2))
    have a1 : ∀ h3 W3 tp3 st3, FX 999 [112] h h3 → PW h3 ρ d c M (i + 1) W3 tp3 st3 (fun e => e = v) → W3 c → (∀ f, f < pcc ρ → bsd ρ v f → own ρ f = some d → 0 < v % pcw ρ ∧ f = v - 1 → W3 f) → Go G l (mt mK_clearPiece) 76 [some (vR 112), some (vI (nI c)), some (vR s), some (vI (nI i)), some (vI (nI v)), some (vI (nI (v % pcw ρ))), some (vI (nI (v / pcw ρ)))] [] h3 0 0 K := by
      intro h3 W3 tp3 st3 f3 p3 wc3 al
      have x3 := sc.fx f3 rfl
      refine gK_clearPiece 99 [(95, 7)] fun S Cu hS hC => ?_
      refine ld _ x3.ob x3.2.2.1.1.1 ?_
      refine pk_le (pcw ρ) (v % pcw ρ + 1) (fun z => ?_) (fun z => ?_) rfl (nI_1 _)
      · refine hC _ _ _ _ (a2 h3 W3 tp3 st3 f3 p3 wc3 (fun u hu hb ho n1 n2 => ?_))
        rcases bsd_of hb with y | y | y | y
        · exact al u hu hb ho y
        · have := (gd.xy hu).1; omega
        · exact absurd y n2
        · exact absurd y.1 n1
      · have l2 := cl.1 z
        refine And.intro (x3.1.ob (k := 112) (ci := 3) rfl rfl rfl) (hS _ _ _ _ (sK_push x3.1 gd p3 (nI_1 _) l2 (fun ho => hcv.st hv l2 ((bsd_k (by omega) (by omega) (by omega)).mpr (Or.inl ⟨rfl, z⟩)) ho) fun h4 W4 tp4 st4 f4 p4 mo wf => ?_))
        refine hC _ _ _ _ (a2 h4 W4 tp4 st4 (f3.tr f4 rfl rfl) p4 (mo c wc3) (fun u hu hb ho n1 n2 => ?_))
        rcases bsd_of hb with y | y | y | y
        · exact mo u (al u hu hb ho y)
        · rw [y.1] at ho ⊢; exact wf ho
        · exact absurd y n2
        · exact absurd y.1 n1
    refine pk_le (v % pcw ρ) 0 (fun z => ?_) (fun z => ?_)
    · exact hC _ _ _ _ (a1 h2 W (tp - 1) st f2 p2 wc (fun u hu hb ho y => by omega))
    · have v1 : 1 ≤ v := Nat.le_trans z (Nat.mod_le _ _)
      refine And.intro (x2.1.ob (k := 112) (ci := 3) rfl rfl rfl) (hS _ _ _ _ (sK_push (f := v - 1) x2.1 gd p2 (pk_sub v1) (by omega) (fun ho => hcv.st hv (by omega) (bsd_l (by omega) z) ho) fun h4 W4 tp4 st4 f4 p4 mo wf => ?_))
      refine hC _ _ _ _ (a1 h4 W4 tp4 st4 (f2.tr f4 rfl rfl) p4 (mo c wc) (fun u hu hb ho y => ?_))
      rw [y.2] at ho ⊢; exact wf ho
  have ob := sc.1.ob (k := 112) (ci := 3) rfl rfl rfl
  refine eK_clearPiece 99 [(12, 4)] fun S Cu hS hC => ?_
  refine ld (nI 0) ob rfl ?_
  have f1 : FX 999 [112] h (setI h 112 5 (nI 0)) := FX.rf.setI (Or.inr rfl)
  have p1 : PW (setI h 112 5 (nI 0)) ρ d c M 0 M 0 (fun _ => 0) (fun _ => False) := ⟨fun _ z => z, fun _ z => Or.inl z, by omega, fun e he => by rw [si_nk rfl]; exact eo e he, si_eq, fun j hj => absurd hj (Nat.not_lt_zero j), fun e _ w nm => absurd w nm⟩
  refine And.intro ob (hS _ _ _ _ (sK_push (sc.fx f1 rfl).1 gd p1 rfl hc (fun _ => comp.rf) fun h4 W4 tp4 st4 f4 p4 mo wf => ?_))
  exact hC _ _ _ _ (lp 0 (by omega) h4 W4 tp4 st4 (f1.tr f4 rfl rfl) p4 (wf hoc) _ _ _ _ rfl)
theorem sK_piecesOf {x : Int32} {d s f : Nat} (sc : SC h s ρ) (hf : FH f) (ow : owR h f ρ (own ρ)) (hx : x = nI d) (hd : d < pcn ρ) (hK : ∀ h', FX 999 [112] h h' → K (some (vI (nI (pcsN ρ d)))) h') : Spec G l (mt mK_piecesOf) [vR 112, vI x, vR s, vR f] h K := by
  subst hx
  have gd := sc.2.2.2
  have g := gd.n
  have gc := gd.c
  have A := hf.a
  have hx : ∀ h1, FX 999 [112] h h1 → SC h1 s ρ ∧ ∀ c, c < pcc ρ → hI h1 (f + 1) c = oI (own ρ c) := fun h1 o => ⟨sc.fx o rfl, fun c hc => by rw [o.i (k := f + 1) (by rw [hf.gr (by decide)]; rcases hf with rfl | rfl <;> decide) (by rw [hf.gr (by decide)]; rcases hf with rfl | rfl <;> rfl)]; exact (ow c hc).1⟩
  have lp2 : ∀ k, k ≤ pcc ρ → ∀ h1, FX 999 [112] h h1 → (∀ e, e < pcc ρ → hI h1 116 e = bI (own ρ e = some d ∧ ¬ metB ρ d k e)) → ∀ n i, n = nI (sumN (pcs1 ρ d) k) → i = nI k → Go G l (mt mK_piecesOf) 47 [some (vR 112), some (vI (nI d)), some (vR s), some (vR f), some (vI n), some (vI i)] [] h1 0 0 K := by
    refine upto _ ?_
    intro k hk ih h1 o em n i hn hi
    subst hn; subst hi
    obtain ⟨x1, ow1⟩ := hx h1 o
    have ob := x1.1.ob (k := 112) (ci := 3) rfl rfl rfl
    refine gK_piecesOf 99 [(47, 6)] fun S Cu hS hC => ?_
    refine And.intro (x1.ob) (hS _ _ _ _ (sS_size x1 ?_))
    refine pk_le (pcc ρ) k (fun q => ?_) (fun q => ?_)
    · obtain rfl : k = pcc ρ := by omega
      exact hK h1 o
    refine ld 116 ob (x1.1.rf (k := 112) (j := 3) rfl rfl) ?_
    refine ld _ (x1.1.inA (k := 116) (n := 400) (j := k) rfl rfl rfl rfl (by omega) rfl) (rdX rfl (by omega) (em k q)) ?_
    refine brE (fun z => ?_) (fun z => ?_)
    · have nb : ∀ b, b < k + 1 → own ρ b = some d → comp ρ d b k → b = k → metB ρ d k k := fun b b1 b2 b3 e => by subst e; exact Classical.byContradiction fun y => z ⟨b2, y⟩
      refine hC _ _ _ _ (ih q h1 o (fun e he => (em e he).trans (bI_eq (and_congr_right fun _ => not_congr ⟨fun ⟨b, b1, b2⟩ => ⟨b, by omega, b2⟩, fun ⟨b, b1, b2, b3⟩ => ?_⟩))) _ _ ?_ (nI_1 k))
      · by_cases bk : b = k
        · subst bk
          obtain ⟨a, a1, a2, a3⟩ := nb b b1 b2 comp.rf rfl
          exact ⟨a, a1, a2, a3.tr b3⟩
        · exact ⟨b, by omega, b2, b3⟩
      · simp only [sumN]
        have : pcs1 ρ d k = 0 := wN_F fun y => z ⟨y.1, fun ⟨a, a1, a2, a3⟩ => y.2 a a1 a2 a3⟩
        rw [this]; rfl
    · refine And.intro ob (hS _ _ _ _ (sK_clearPiece x1 rfl q z.1 em metB_cl fun h2 f2 em2 => ?_))
      refine hC _ _ _ _ (ih q h2 (o.tr f2 rfl rfl) (fun e he => (em2 e he).trans (bI_eq (and_congr_right fun _ => not_congr ?_))) _ _ ?_ (nI_1 k))
      · constructor
        · rintro (⟨b, b1, b2⟩ | y)
          · exact ⟨b, by omega, b2⟩
          · exact ⟨k, by omega, z.1, y⟩
        · rintro ⟨b, b1, b2, b3⟩
          by_cases bk : b = k
          · subst bk; exact Or.inr b3
          · exact Or.inl ⟨b, by omega, b2, b3⟩
      · simp only [sumN]
        have : pcs1 ρ d k = 1 := wN_T ⟨z.1, fun e he ho hc => z.2 ⟨e, he, ho, hc⟩⟩
        rw [this]; exact nI_1 _
  have lp1 : ∀ k, k ≤ pcc ρ → ∀ h1, FX 999 [112] h h1 → (∀ e, e < k → hI h1 116 e = bI (own ρ e = some d)) → ∀ i, i = nI k → ∀ z5, Go G l (mt mK_piecesOf) 3 [some (vR 112), some (vI (nI d)), some (vR s), some (vR f), some (vI i), z5] [] h1 0 0 K := by
    refine upto _ ?_
    intro k hk ih h1 o em i hi z5
    subst hi
    obtain ⟨x1, ow1⟩ := hx h1 o
    have ob := x1.1.ob (k := 112) (ci := 3) rfl rfl rfl
    have put : k < pcc ρ → ∀ v, v = bI (own ρ k = some d) → Go G l (mt mK_piecesOf) 34 [some (vR 112), some (vI (nI d)), some (vR s), some (vR f), some (vI (nI k)), none] [vI v, vI (nI k), vR 116] h1 0 0 K := by
      intro q v hv
      subst hv
      refine gK_piecesOf 99 [(3, 5)] fun S Cu hS hC => ?_
      refine sw k _ ⟨x1.1.inA (k := 116) (n := 400) (j := k) rfl rfl rfl rfl (by omega) rfl, bI_01 _⟩ (ix_nI (by omega)) rfl ?_
      refine hC _ _ _ _ (ih q _ (o.setI (Or.inr rfl)) (fun e he => ?_) _ (nI_1 k) _)
      by_cases ek : e = k
      · subst ek; exact si_eq
      · rw [si_ne ek]; exact em e (by omega)
    refine gK_piecesOf 99 [(34, 5), (47, 6)] fun S Cu hS hC => ?_
    refine And.intro (x1.ob) (hS _ _ _ _ (sS_size x1 ?_))
    refine pk_le (pcc ρ) k (fun q => ?_) (fun q => ?_)
    · obtain rfl : k = pcc ρ := by omega
      refine hC _ _ _ _ (lp2 0 (by omega) h1 o (fun e he => (em e he).trans (bI_eq ⟨fun z => ⟨z, fun ⟨b, b1, _⟩ => absurd b1 (Nat.not_lt_zero b)⟩, fun z => z.1⟩)) _ _ rfl rfl)
    · refine ld 116 ob (x1.1.rf (k := 112) (j := 3) rfl rfl) ?_
      refine ld (f + 1) (x1.1.fob hf) (x1.1.fr hf (by decide)) ?_
      refine ld (oI (own ρ k)) (x1.1.fin hf (by decide) A.2.1 rfl (by omega) (by decide)) (rdX rfl (by omega) (ow1 k q)) ?_
      have eok := own_oI gd (c := k) (show d < 2 ^ 31 by omega)
      refine And.intro (fun z => ?_) (fun z => ?_)
      · exact hC _ _ _ _ (put q _ (bI_F (fun y => z (eok.mpr y))).symm)
      · exact hC _ _ _ _ (put q _ (bI_T (eok.mp z)).symm)
  refine eK_piecesOf 99 [(3, 5)] fun S Cu hS hC => ?_
  exact hC _ _ _ _ (lp1 0 (by omega) h FX.rf (fun e he => absurd he (Nat.not_lt_zero e)) _ rfl _)
end CC
