/-! ===== the model's lines ===== -/
section MM
variable {G : GP} {l : Launch} {K : Option AV → AH → Prop} {h : AH} {ρ : Pic}
variable {t : Nat → Nat} {L e w : Nat} {π : Pic}
theorem sM_rowLine (r : RGd h t L e) (o : LnOK L e π w) (rw0 : RW h π w) (h0 : ∀ q, rowR t L e π w = .inl q → ∀ h', Fr [136, 139] h h' → Sc1 [4, 5, 6, 7, 8, 9, 10, 15] h h' → RFl h' t L q → K none h') (h1 : ∀ x, rowR t L e π w = .inr x → ∀ h', Fr [136, 139] h h' → Sc1 [4, 5, 6, 7, 8, 9, 10, 15] h h' → RGd h' t L x.1 → RW h' x.2.1 x.2.2 → K none h') : Spec G l (mt mM_rowLine) [vR 136] h K := by
  have gn := o.2.1.n
  have lL := r.1.2.2.2.1
  have wh := o.2.2
  have bad : ∀ q h', rowR t L e π w = .inl q → Fr [136, 139] h h' → Sc1 [4, 5, 6, 7, 8, 9, 10, 15] h h' → RFl h' t L q → Go G l (mt mM_rowLine) 74 [some (vR 136), none] [] h' 0 0 K := by
    intro q h' eq f g rf
    have := rf.2.2.1
    refine gM_rowLine 99 [] fun S Cu hS hC => ?_
    refine ld _ rf.1.1.ob rf.2.1 ?_
    exact pk_le q.1 0 (fun z => by omega) (fun _ => h0 q eq h' f g rf)
  refine eM_rowLine 199 [(74, 1)] fun S Cu hS hC => ?_
  refine ld (nI w) r.1.1.ob rw0.2 ?_
  refine ld 139 r.1.1.ob (r.1.1.2.2 14) ?_
  refine ld (nI (pch π)) (r.1.1.inA (j := 1) rfl rfl rfl rfl (by decide) rfl) (rw0.1 1 (by decide)) ?_
  by_cases q0 : w = pch π
  · refine And.intro (fun z => absurd (congrArg nI q0) z) (fun _ => ?_)
    refine And.intro r.1.1.ob (hS _ _ _ _ (sM_wrong (k := 3) r rfl (by decide) fun h' f g rf => ?_))
    refine And.intro rf.1.1.ob (hS _ _ _ _ (sM_isGoodB rf.1.1 rf.2.1 rf.2.2.1 ?_))
    refine brE (fun _ => ?_) (fun z => z.elim)
    refine And.intro rf.1.1.ob (hS _ _ _ _ (sM_isGoodB rf.1.1 rf.2.1 rf.2.2.1 ?_))
    refine brE (fun _ => ?_) (fun z => z.elim)
    refine And.intro rf.1.1.ob (hS _ _ _ _ (sM_isGoodB rf.1.1 rf.2.1 rf.2.2.1 ?_))
    refine brE (fun _ => ?_) (fun z => z.elim)
    exact hC _ _ _ _ (bad _ h' (by unfold rowR; rw [if_pos q0]) (f.tr (M := []) Fr.rf rfl rfl) (g.wk rfl) rf)
  refine And.intro (fun _ => ?_) (fun z => absurd ((nI_eq (by omega) (by omega)).mp z) q0)
  refine And.intro r.1.1.ob (hS _ _ _ _ (sM_isGoodG r.1.1 r.2.1 ?_))
  refine brE (fun z => (z trivial).elim) (fun _ => ?_)
  refine And.intro r.1.1.ob (hS _ _ _ _ (sM_goG r fun ha fa ga ra => ?_))
  have rwa := rw0.fr fa ga rfl rfl
  have s := tok_sp (t := t) ra.2.2.2.2
  refine And.intro ra.1.1.ob (hS _ _ _ _ (sM_isGoodG ra.1.1 ra.2.1 ?_))
  refine brE (fun z => (z trivial).elim) (fun _ => ?_)
  refine ld (nI (tok t L (tok t L e).2.2).1) ra.1.1.ob ra.2.2.2.1.1 ?_
  refine pk_eq (tok t L (tok t L e).2.2).1 2 (fun q1 => ?_) (fun q1 => ?_)
  · refine And.intro ra.1.1.ob (hS _ _ _ _ (sM_isGoodG ra.1.1 ra.2.1 ?_))
    refine brE (fun z => (z trivial).elim) (fun _ => ?_)
    refine ld (nI ((tok t L (tok t L e).2.2).2.2 - (tok t L (tok t L e).2.2).2.1)) ra.1.1.ob ra.2.2.2.1.2.2.1 ?_
    refine ld 139 ra.1.1.ob (ra.1.1.2.2 14) ?_
    refine ld (nI (pcw π)) (ra.1.1.inA (j := 0) rfl rfl rfl rfl (by decide) rfl) (rwa.1 0 (by decide)) ?_
    refine pk_le ((tok t L (tok t L e).2.2).2.2 - (tok t L (tok t L e).2.2).2.1) (pcw π) (fun q2 => ?_) (fun q2 => ?_)
    · refine hC _ _ _ _ ?_
      have er : rowR t L e π w = .inr ((tok t L (tok t L e).2.2).2.2, rowP t π w (tok t L (tok t L e).2.2).2.1 ((tok t L (tok t L e).2.2).2.2 - (tok t L (tok t L e).2.2).2.1), w + 1) := by
        unfold rowR; rw [if_neg q0, if_pos q1, if_pos q2]
      have h1 := h1 _ er
      have dg : ∀ i, (tok t L (tok t L e).2.2).2.1 ≤ i → i < (tok t L (tok t L e).2.2).2.2 → dgB (t i) = true := tokAt_num q1
      have hm : pcw π * w + pcw π ≤ 400 := by
        have a : pcw π * (w + 1) ≤ 20 * 20 := Nat.mul_le_mul (by omega) (by omega)
        rw [Nat.mul_succ] at a; exact a
      generalize eT : tok t L (tok t L e).2.2 = T at *
      have lp : ∀ k, k ≤ T.2.2 - T.2.1 → ∀ h', Fr [136, 139] h h' → Sc1 [4, 5, 6, 7, 8, 9, 10, 15] h h' → RGd h' t L (tok t L e).2.2 → RW h' (rowP t π w T.2.1 k) w → ∀ i, i = nI k → Go G l (mt mM_rowLine) 84 [some (vR 136), some (vI i)] [] h' 0 0 K := by
        refine upto _ ?_
        intro k hk ih h' f g rg rwk i hi
        subst hi
        have rt := rg.2.2.2.1
        rw [eT] at rt
        have gr := good_rowP (t := t) (s := T.2.1) (n := k) o.2.1 (Nat.lt_of_le_of_ne o.2.2 q0) (by omega) (fun i h1 h2 => dg i h1 (by omega))
        refine gM_rowLine 199 [(84, 2)] fun S Cu hS hC => ?_
        refine ld (nI (T.2.2 - T.2.1)) rg.1.1.ob rt.2.2.1 ?_
        refine pk_le (T.2.2 - T.2.1) k (fun q => ?_) (fun q => ?_)
        · obtain rfl : k = T.2.2 - T.2.1 := by omega
          refine ld (nI w) rg.1.1.ob rwk.2 ?_
          refine ld (nI (w + 1)) rg.1.1.ob (nI_1 w) ?_
          have f1 : Fr [136] h' (setI h' 136 15 (nI (w + 1))) := Fr.rf.setI rfl
          have g1 : Sc1 [15] h' (setI h' 136 15 (nI (w + 1))) := Sc1.rf.set rfl
          have rg1 : RGd (setI h' 136 15 (nI (w + 1))) t L (tok t L e).2.2 := by
            refine ⟨rg.1.fr f1 g1 rfl rfl, (g1 9 rfl).trans rg.2.1, (g1 10 rfl).trans rg.2.2.1, ?_, rg.2.2.2.2⟩
            rw [eT]
            exact ⟨(g1 6 rfl).trans rt.1, (g1 5 rfl).trans rt.2.1, (g1 7 rfl).trans rt.2.2.1, (g1 4 rfl).trans rt.2.2.2.1, rt.2.2.2.2.1, fun a b => (g1 8 rfl).trans (rt.2.2.2.2.2 a b)⟩
          refine And.intro rg.1.1.ob (hS _ _ _ _ (sM_goG rg1 fun h2 f2 g2 rg2 => ?_))
          rw [eT] at rg2
          refine h1 h2 ((f.setI rfl).tr f2 rfl rfl) ((g.set rfl).tr g2 rfl rfl) rg2 ⟨fun j hj => ?_, (g2 15 rfl).trans si_eq⟩
          rw [f2.i rfl, si_nk rfl]; exact rwk.1 j hj
        · refine ld 139 rg.1.1.ob (rg.1.1.2.2 14) ?_
          refine ld 139 rg.1.1.ob (rg.1.1.2.2 14) ?_
          refine ld (nI (pcw π)) (rg.1.1.inA (j := 0) rfl rfl rfl rfl (by decide) rfl) ((rwk.1 0 (by decide)).trans (congrArg nI gr.2.1)) ?_
          refine ld (nI w) rg.1.1.ob rwk.2 ?_
          refine ld 138 rg.1.1.ob (rg.1.1.2.2 1) ?_
          refine ld (nI T.2.1) rg.1.1.ob rt.2.1 ?_
          refine ld (nI (t (T.2.1 + k))) (rg.1.1.inA (j := T.2.1 + k) rfl rfl rfl (by first | with_reducible rfl | (try simp (disch := omega) only [pk_rem]) <;> simp (disch := omega) only [nl0, nl1, nl2, nl3, nl4, nl8, nl9, nl10, nl12, nl20, nl24, nl30, nl32, nl40, nl48, nl100, nl120, nl200, nl255, nl400, nl404, nl524, nl900, nl1000, nl9999, nl16, nl65536, nI_add, pk_mul, pk_sub, pk_div, pk_rem, Nat.add_zero, Nat.zero_add, Nat.mul_one, Nat.add_sub_cancel_left, Nat.add_sub_cancel]) (by omega) rfl) (by rw [ix_of (k := T.2.1 + k) (by first | with_reducible rfl | (try simp (disch := omega) only [pk_rem]) <;> simp (disch := omega) only [nl0, nl1, nl2, nl3, nl4, nl8, nl9, nl10, nl12, nl20, nl24, nl30, nl32, nl40, nl48, nl100, nl120, nl200, nl255, nl400, nl404, nl524, nl900, nl1000, nl9999, nl16, nl65536, nI_add, pk_mul, pk_sub, pk_div, pk_rem, Nat.add_zero, Nat.zero_add, Nat.mul_one, Nat.add_sub_cancel_left, Nat.add_sub_cancel]) (by omega)]; exact rg.1.2.1 _ (by omega)) ?_
          have d48 := dgB_iff.mp (dg (T.2.1 + k) (by omega) (by omega))
          refine sw (4 + pcw π * w + k) (nI (t (T.2.1 + k) - 48)) (rg.1.1.inA (j := 4 + pcw π * w + k) rfl rfl rfl (by first | with_reducible rfl | (try simp (disch := omega) only [pk_rem]) <;> simp (disch := omega) only [nl0, nl1, nl2, nl3, nl4, nl8, nl9, nl10, nl12, nl20, nl24, nl30, nl32, nl40, nl48, nl100, nl120, nl200, nl255, nl400, nl404, nl524, nl900, nl1000, nl9999, nl16, nl65536, nI_add, pk_mul, pk_sub, pk_div, pk_rem, Nat.add_zero, Nat.zero_add, Nat.mul_one, Nat.add_sub_cancel_left, Nat.add_sub_cancel]) (by omega) rfl) (ix_of (by first | with_reducible rfl | (try simp (disch := omega) only [pk_rem]) <;> simp (disch := omega) only [nl0, nl1, nl2, nl3, nl4, nl8, nl9, nl10, nl12, nl20, nl24, nl30, nl32, nl40, nl48, nl100, nl120, nl200, nl255, nl400, nl404, nl524, nl900, nl1000, nl9999, nl16, nl65536, nI_add, pk_mul, pk_sub, pk_div, pk_rem, Nat.add_zero, Nat.zero_add, Nat.mul_one, Nat.add_sub_cancel_left, Nat.add_sub_cancel]) (by omega)) (by first | with_reducible rfl | (try simp (disch := omega) only [pk_rem]) <;> simp (disch := omega) only [nl0, nl1, nl2, nl3, nl4, nl8, nl9, nl10, nl12, nl20, nl24, nl30, nl32, nl40, nl48, nl100, nl120, nl200, nl255, nl400, nl404, nl524, nl900, nl1000, nl9999, nl16, nl65536, nI_add, pk_mul, pk_sub, pk_div, pk_rem, Nat.add_zero, Nat.zero_add, Nat.mul_one, Nat.add_sub_cancel_left, Nat.add_sub_cancel]) ?_
          refine hC _ _ _ _ (ih q _ (f.setI rfl) (g.oth rfl) rg.st ?_ _ (nI_1 k))
          rw [rowP_s]; exact rwk.set
      refine gM_rowLine 199 [(84, 2)] fun S Cu hS hC => ?_
      refine ld (nI 0) ra.1.1.ob ra.2.1 ?_
      refine And.intro (fun _ => ?_) (fun z => absurd (by decide) z)
      exact hC _ _ _ _ (lp 0 (Nat.zero_le _) ha (fa.tr (M := []) Fr.rf rfl rfl) (ga.wk rfl) ra (by rw [rowP_0]; exact rwa) _ rfl)
    · refine And.intro ra.1.1.ob (hS _ _ _ _ (sM_wrong (k := 4) ra rfl (by decide) fun h' f g rf => ?_))
      exact hC _ _ _ _ (bad _ h' (by unfold rowR; rw [if_neg q0, if_pos q1, if_neg (by omega)]) (fa.tr f rfl rfl) (ga.tr g rfl rfl) rf)
  · refine And.intro ra.1.1.ob (hS _ _ _ _ (sM_wrong (k := 2) ra rfl (by decide) fun h' f g rf => ?_))
    refine And.intro rf.1.1.ob (hS _ _ _ _ (sM_isGoodB rf.1.1 rf.2.1 rf.2.2.1 ?_))
    refine brE (fun _ => ?_) (fun z => z.elim)
    exact hC _ _ _ _ (bad _ h' (by unfold rowR; rw [if_neg q0, if_neg q1]) (fa.tr f rfl rfl) (ga.tr g rfl rfl) rf)
theorem sM_dotLine (r : RGd h t L e) (o : LnOK L e π w) (rw0 : RW h π w) (h0 : ∀ q, dotR t L e π w = .inl q → ∀ h', Fr [136, 139] h h' → Sc1 [4, 5, 6, 7, 8, 9, 10, 15] h h' → RFl h' t L q → K none h') (h1 : ∀ x, dotR t L e π w = .inr x → ∀ h', Fr [136, 139] h h' → Sc1 [4, 5, 6, 7, 8, 9, 10, 15] h h' → RGd h' t L x.1 → RW h' x.2.1 x.2.2 → K none h') : Spec G l (mt mM_dotLine) [vR 136] h K := by
  have gn := o.2.1.n
  have lL := r.1.2.2.2.1
  refine eM_dotLine 199 [] fun S Cu hS hC => ?_
  refine ld 139 r.1.1.ob (r.1.1.2.2 14) ?_
  refine ld (nI (pcn π)) (r.1.1.inA (j := 3) rfl rfl rfl rfl (by decide) rfl) (rw0.1 3 (by decide)) ?_
  by_cases q0 : pcn π = 40
  · refine And.intro (fun z => absurd (congrArg nI q0) z) (fun _ => ?_)
    refine And.intro r.1.1.ob (hS _ _ _ _ (sM_wrong (k := 3) r rfl (by decide) fun h' f g rf => ?_))
    have n9 := rf.2.2.1
    have m1 := rf.1.1
    refine And.intro m1.ob (hS _ _ _ _ (sM_isGoodB m1 rf.2.1 rf.2.2.1 ?_))
    refine brE (fun _ => ?_) (fun z => z.elim)
    have rwf := rw0.fr f g rfl rfl
    refine ld 139 m1.ob (m1.2.2 14) ?_
    refine ld _ (m1.inA (j := 0) rfl rfl rfl rfl (by decide) rfl) rfl ?_
    refine And.intro m1.ob (hS _ _ _ _ (sM_numberB rf ?_))
    refine ld 139 m1.ob (m1.2.2 14) ?_
    refine ld _ (m1.inA (j := 1) rfl rfl rfl rfl (by decide) rfl) rfl ?_
    refine And.intro m1.ob (hS _ _ _ _ (sM_numberB rf ?_))
    refine ld _ m1.ob rf.2.1 ?_
    exact pk_le (fau (tok t L e) 3).1 0 (fun z => by omega) (fun _ => h0 _ (by unfold dotR; rw [if_pos q0]) h' (f.tr (M := []) Fr.rf rfl rfl) (g.wk rfl) rf)
  refine And.intro (fun _ => ?_) (fun z => absurd ((nI_eq (b := 40) (by omega) (by decide)).mp z) q0)
  refine And.intro r.1.1.ob (hS _ _ _ _ (sM_isGoodG r.1.1 r.2.1 ?_))
  refine brE (fun z => (z trivial).elim) (fun _ => ?_)
  refine And.intro r.1.1.ob (hS _ _ _ _ (sM_goG r fun ha fa ga ra => ?_))
  have rwa := rw0.fr fa ga rfl rfl
  refine ld 139 ra.1.1.ob (ra.1.1.2.2 14) ?_
  refine ld (nI (pcw π)) (ra.1.1.inA (j := 0) rfl rfl rfl rfl (by decide) rfl) (rwa.1 0 (by decide)) ?_
  refine And.intro ra.1.1.ob (hS _ _ _ _ (sM_number (lo := 0) (hi := pcw π - 1) ra rfl (by first | with_reducible rfl | (try simp (disch := omega) only [pk_rem]) <;> simp (disch := omega) only [nl0, nl1, nl2, nl3, nl4, nl8, nl9, nl10, nl12, nl20, nl24, nl30, nl32, nl40, nl48, nl100, nl120, nl200, nl255, nl400, nl404, nl524, nl900, nl1000, nl9999, nl16, nl65536, nI_add, pk_mul, pk_sub, pk_div, pk_rem, Nat.add_zero, Nat.zero_add, Nat.mul_one, Nat.add_sub_cancel_left, Nat.add_sub_cancel]) (by omega) (by omega) (fun q eq h' v f g rf => ?_) (fun x ex hb fb gb rb => ?_)))
  · have n9 := rf.2.2.1
    have m1 := rf.1.1
    refine ld 139 m1.ob (m1.2.2 14) ?_
    refine ld _ (m1.inA (j := 1) rfl rfl rfl rfl (by decide) rfl) rfl ?_
    refine And.intro m1.ob (hS _ _ _ _ (sM_numberB rf ?_))
    refine ld _ m1.ob rf.2.1 ?_
    exact pk_le q.1 0 (fun z => by omega) (fun _ => h0 _ (by unfold dotR; rw [if_neg q0, eq]; rfl) h' (fa.tr f rfl rfl) (ga.tr g rfl rfl) rf)
  have rwb := rwa.fr fb gb rfl rfl
  refine ld 139 rb.1.1.ob (rb.1.1.2.2 14) ?_
  refine ld (nI (pch π)) (rb.1.1.inA (j := 1) rfl rfl rfl rfl (by decide) rfl) (rwb.1 1 (by decide)) ?_
  refine And.intro rb.1.1.ob (hS _ _ _ _ (sM_number (lo := 0) (hi := pch π - 1) rb rfl (by first | with_reducible rfl | (try simp (disch := omega) only [pk_rem]) <;> simp (disch := omega) only [nl0, nl1, nl2, nl3, nl4, nl8, nl9, nl10, nl12, nl20, nl24, nl30, nl32, nl40, nl48, nl100, nl120, nl200, nl255, nl400, nl404, nl524, nl900, nl1000, nl9999, nl16, nl65536, nI_add, pk_mul, pk_sub, pk_div, pk_rem, Nat.add_zero, Nat.zero_add, Nat.mul_one, Nat.add_sub_cancel_left, Nat.add_sub_cancel]) (by omega) (by omega) (fun q eq h' v f g rf => ?_) (fun y ey hc fc gc rc => ?_)))
  · have n9 := rf.2.2.1
    have m1 := rf.1.1
    refine ld _ m1.ob rf.2.1 ?_
    refine pk_le q.1 0 (fun z => by omega) (fun _ => h0 _ (by unfold dotR; rw [if_neg q0, ex]; show bd (num t L x.2 0 (pch π - 1)) _ = _; rw [eq]; rfl) h' ((fa.tr fb rfl rfl).tr (L := [136]) f rfl rfl) ((ga.tr gb rfl rfl).tr (L := [4, 5, 6, 7, 8, 9, 10]) g rfl rfl) rf)
  have rwc := rwb.fr fc gc rfl rfl
  have er : dotR t L e π w = .inr (y.2, addD π x.1 y.1, w) := by
    unfold dotR; rw [if_neg q0, ex]; show bd (num t L x.2 0 (pch π - 1)) _ = _; rw [ey]; rfl
  have m1 := rc.1.1
  refine ld (nI 0) m1.ob rc.2.1 ?_
  refine And.intro (fun _ => ?_) (fun z => absurd (by decide) z)
  refine ld 139 m1.ob (m1.2.2 14) ?_
  refine sw (404 + 3 * pcn π) (nI x.1) (m1.inA (j := 404 + 3 * pcn π) rfl rfl rfl (by first | with_reducible rfl | (try simp (disch := omega) only [pk_rem]) <;> simp (disch := omega) only [nl0, nl1, nl2, nl3, nl4, nl8, nl9, nl10, nl12, nl20, nl24, nl30, nl32, nl40, nl48, nl100, nl120, nl200, nl255, nl400, nl404, nl524, nl900, nl1000, nl9999, nl16, nl65536, nI_add, pk_mul, pk_sub, pk_div, pk_rem, Nat.add_zero, Nat.zero_add, Nat.mul_one, Nat.add_sub_cancel_left, Nat.add_sub_cancel]) (by omega) rfl) (ix_of (by first | with_reducible rfl | (try simp (disch := omega) only [pk_rem]) <;> simp (disch := omega) only [nl0, nl1, nl2, nl3, nl4, nl8, nl9, nl10, nl12, nl20, nl24, nl30, nl32, nl40, nl48, nl100, nl120, nl200, nl255, nl400, nl404, nl524, nl900, nl1000, nl9999, nl16, nl65536, nI_add, pk_mul, pk_sub, pk_div, pk_rem, Nat.add_zero, Nat.zero_add, Nat.mul_one, Nat.add_sub_cancel_left, Nat.add_sub_cancel]) (by omega)) rfl ?_
  refine ld 139 m1.ob (m1.2.2 14) ?_
  refine sw (404 + 3 * pcn π + 1) (nI y.1) (m1.inA (j := 404 + 3 * pcn π + 1) rfl rfl rfl (by first | with_reducible rfl | (try simp (disch := omega) only [pk_rem]) <;> simp (disch := omega) only [nl0, nl1, nl2, nl3, nl4, nl8, nl9, nl10, nl12, nl20, nl24, nl30, nl32, nl40, nl48, nl100, nl120, nl200, nl255, nl400, nl404, nl524, nl900, nl1000, nl9999, nl16, nl65536, nI_add, pk_mul, pk_sub, pk_div, pk_rem, Nat.add_zero, Nat.zero_add, Nat.mul_one, Nat.add_sub_cancel_left, Nat.add_sub_cancel]) (by omega) rfl) (ix_of (by first | with_reducible rfl | (try simp (disch := omega) only [pk_rem]) <;> simp (disch := omega) only [nl0, nl1, nl2, nl3, nl4, nl8, nl9, nl10, nl12, nl20, nl24, nl30, nl32, nl40, nl48, nl100, nl120, nl200, nl255, nl400, nl404, nl524, nl900, nl1000, nl9999, nl16, nl65536, nI_add, pk_mul, pk_sub, pk_div, pk_rem, Nat.add_zero, Nat.zero_add, Nat.mul_one, Nat.add_sub_cancel_left, Nat.add_sub_cancel]) (by omega)) rfl ?_
  refine ld 139 m1.ob (m1.2.2 14) ?_
  refine sw (404 + 3 * pcn π + 2) (nI 1) (m1.inA (j := 404 + 3 * pcn π + 2) rfl rfl rfl (by first | with_reducible rfl | (try simp (disch := omega) only [pk_rem]) <;> simp (disch := omega) only [nl0, nl1, nl2, nl3, nl4, nl8, nl9, nl10, nl12, nl20, nl24, nl30, nl32, nl40, nl48, nl100, nl120, nl200, nl255, nl400, nl404, nl524, nl900, nl1000, nl9999, nl16, nl65536, nI_add, pk_mul, pk_sub, pk_div, pk_rem, Nat.add_zero, Nat.zero_add, Nat.mul_one, Nat.add_sub_cancel_left, Nat.add_sub_cancel]) (by omega) rfl) (ix_of (by first | with_reducible rfl | (try simp (disch := omega) only [pk_rem]) <;> simp (disch := omega) only [nl0, nl1, nl2, nl3, nl4, nl8, nl9, nl10, nl12, nl20, nl24, nl30, nl32, nl40, nl48, nl100, nl120, nl200, nl255, nl400, nl404, nl524, nl900, nl1000, nl9999, nl16, nl65536, nI_add, pk_mul, pk_sub, pk_div, pk_rem, Nat.add_zero, Nat.zero_add, Nat.mul_one, Nat.add_sub_cancel_left, Nat.add_sub_cancel]) (by omega)) rfl ?_
  refine ld 139 m1.ob (m1.2.2 14) ?_
  have rwd := ((rwc.set (j := 404 + 3 * pcn π) (v := x.1)).set (j := 404 + 3 * pcn π + 1) (v := y.1)).set (j := 404 + 3 * pcn π + 2) (v := 1)
  have e3 : pu (pu (pu π (404 + 3 * pcn π) x.1) (404 + 3 * pcn π + 1) y.1) (404 + 3 * pcn π + 2) 1 3 = pcn π := by
    rw [pu_ne (by omega), pu_ne (by omega), pu_ne (by omega)]; rfl
  refine ld (nI (pcn π)) (m1.inA (j := 3) rfl rfl rfl rfl (by decide) rfl) ((rwd.1 3 (by decide)).trans (congrArg nI e3)) ?_
  refine sw 3 (nI (pcn π + 1)) (m1.inA (j := 3) rfl rfl rfl rfl (by decide) rfl) rfl (nI_1 _) ?_
  refine h1 _ er _ ((((((fa.tr fb rfl rfl).tr (L := [136]) fc rfl rfl).setI rfl).setI rfl).setI rfl).setI rfl) ((((((ga.tr gb rfl rfl).tr (L := [4, 5, 6, 7, 8, 9, 10]) gc rfl rfl).oth rfl).oth rfl).oth rfl).oth rfl) rc.st.st.st.st ?_
  exact rwd.set
end MM
