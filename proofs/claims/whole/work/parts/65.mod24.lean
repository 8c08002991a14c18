/-! ===== the model's picture ===== -/
section MM
variable {G : GP} {l : Launch} {K : Option AV → AH → Prop} {h : AH} {ρ : Pic}
variable {tp : Nat → Nat} {tn : Nat} {ft fp : Int32} {pa : Nat → Pic} {an un : Nat} {sm sc : Nat → Int32} {sn : Nat} {bx : Nat → Pic} {bk : Nat → Prop}
theorem sM_picture (r : MR h tp tn ft fp ρ pa an un sm sc sn bx bk) (hb : ∀ i, i < tn → tp i < 256) (h0 : ∀ q, pict tp tn = .inl q → ∀ h', FM h h' → MR h' tp 0 (nI q.1) (nI q.2) ρ pa an un sm sc sn bx bk → K (some (vI (-1))) h') (h1 : ∀ π, pict tp tn = .inr π → ∀ h', FM h h' → MR h' tp 0 0 (-1) π pa 0 0 sm sc 0 bx (fun _ => False) → K (some (vI (nI (pcn π)))) h') : Spec G l (mt mM_picture) [vR 136] h K := by
  have tl := r.2.1.2.2.1
  -- a fault
  have bad : ∀ q h', pict tp tn = .inl q → Fr [136, 139] h h' → Sc1 [2, 3, 4, 5, 6, 7, 8, 9, 10, 15] h h' → hI h' 136 2 = nI 0 → RFl h' tp tn q → Go G l (mt mM_picture) 119 [some (vR 136), none] [] h' 0 0 K := by
    intro q h' eq f g e2 rf
    have n9 := rf.2.2.1
    have m1 := rf.1.1
    refine gM_picture 299 [] fun S Cu hS hC => ?_
    refine And.intro m1.ob (hS _ _ _ _ (sM_isGoodB m1 rf.2.1 rf.2.2.1 ?_))
    refine brE (fun _ => ?_) (fun z => z.elim)
    refine ld (nI q.1) m1.ob rf.2.1 ?_
    refine ld (nI q.1) m1.ob rfl ?_
    refine ld (nI q.2) m1.ob (by rw [si_ne (by decide)]; exact rf.2.2.2) ?_
    refine ld (nI q.2) m1.ob rfl ?_
    refine ld (nI q.1) m1.ob (by rw [si_ne (by decide), si_ne (by decide)]; exact rf.2.1) ?_
    refine pk_le q.1 0 (fun z => by omega) (fun _ => ?_)
    have f1 : Fr [136, 139] h (setI (setI h' 136 11 (nI q.1)) 136 12 (nI q.2)) := (f.setI rfl).setI rfl
    have g1 : Sc1 [2, 3, 4, 5, 6, 7, 8, 9, 10, 11, 12, 15] h (setI (setI h' 136 11 (nI q.1)) 136 12 (nI q.2)) := Sc1.set (Sc1.set (g.wk rfl) rfl) rfl
    refine h0 q eq _ (f1.m rfl) ⟨r.1.fr f1 rfl, ⟨fun i hi => absurd hi (Nat.not_lt_zero i), by rw [si_ne (by decide), si_ne (by decide)]; exact e2, by omega, by rw [si_ne (by decide), si_eq], si_eq⟩, r.2.2.1.fr f1 g1 rfl rfl, r.2.2.2.1.fr f1 g1 rfl rfl, r.2.2.2.2.fr f1 rfl⟩
  -- the new picture
  have done : ∀ π, pict tp tn = .inr π → ∀ h', Fr [136, 139] h h' → Sc1 [2, 3, 4, 5, 6, 7, 8, 9, 10, 11, 12, 15] h h' → hI h' 136 2 = nI 0 → hI h' 136 11 = 0 → hI h' 136 12 = -1 → (∀ k, k < 524 → hI h' 139 k = nI (π k)) → Go G l (mt mM_picture) 204 [some (vR 136), none] [] h' 0 0 K := by
    intro π eπ h1' f g e2 e11 e12 e139
    have gπ : Good π := pict_sp eπ
    have h1 := h1 π eπ
    -- what is kept
    have lp2 : ∀ k, k ≤ 2 → ∀ h', Fr [136, 137, 139, 159] h h' → Sc1 [2, 3, 4, 5, 6, 7, 8, 9, 10, 11, 12, 15, 17, 18, 27] h h' → hI h' 136 2 = nI 0 → hI h' 136 11 = 0 → hI h' 136 12 = -1 → hI h' 136 17 = nI 0 → hI h' 136 18 = nI 0 → hI h' 136 27 = nI 0 → hI h' 137 = nR π → (∀ j, j < k → hI h' 159 j = 0) → ∀ i, i = nI k → Go G l (mt mM_picture) 248 [some (vR 136), some (vI i)] [] h' 0 0 K := by
      refine upto _ ?_
      intro k hk ih h' f g e2 e11 e12 e17 e18 e27 e137 e159 i hi
      subst hi
      have m1 : MS h' := r.1.1.fr f
      refine gM_picture 99 [(248, 2)] fun S Cu hS hC => ?_
      refine pk_le 2 k (fun q => ?_) (fun q => ?_)
      · obtain rfl : k = 2 := by omega
        refine ld 137 m1.ob (m1.2.2 0) ?_
        refine ld (nI (pcn π)) (m1.inA (j := 3) rfl rfl rfl rfl (by decide) rfl) (congrFun e137 3) ?_
        refine h1 h' (f.m rfl) ⟨⟨m1, e137, gπ⟩, ⟨fun i hi => absurd hi (Nat.not_lt_zero i), e2, by omega, e11, e12⟩, ⟨fun i hi => by omega, e17, e18, by omega⟩, ⟨fun i hi => absurd hi (Nat.not_lt_zero i), e27, by omega⟩, fun b hb => ⟨by rw [e159 b hb, bI_F (fun z => z)], fun z => z.elim⟩⟩
      · refine ld 159 m1.ob (m1.2.2 39) ?_
        refine sw k (nI 0) ⟨m1.inA (j := k) (k := 159) (t := 2) (n := 2) rfl rfl rfl rfl (by omega) rfl, Or.inl rfl⟩ (ix_nI (by omega)) rfl ?_
        refine hC _ _ _ _ (ih q _ (f.setI rfl) (g.oth rfl) ?_ ?_ ?_ ?_ ?_ ?_ ?_ ?_ _ (nI_1 k))
        · rw [si_nk rfl]; exact e2
        · rw [si_nk rfl]; exact e11
        · rw [si_nk rfl]; exact e12
        · rw [si_nk rfl]; exact e17
        · rw [si_nk rfl]; exact e18
        · rw [si_nk rfl]; exact e27
        · rw [si_nk rfl]; exact e137
        · intro j hj
          by_cases e : j = k
          · subst e; exact si_eq
          · rw [si_ne e]; exact e159 j (by omega)
    -- the row
    have lp1 : ∀ k, k ≤ 524 → ∀ h', Fr [136, 137, 139, 159] h h' → Sc1 [2, 3, 4, 5, 6, 7, 8, 9, 10, 11, 12, 15, 17, 18, 27] h h' → hI h' 136 2 = nI 0 → hI h' 136 11 = 0 → hI h' 136 12 = -1 → (∀ j, j < 524 → hI h' 139 j = nI (π j)) → (∀ j, j < k → hI h' 137 j = nI (π j)) → (∀ j, k ≤ j → hI h' 137 j = nI (ρ j)) → ∀ i, i = nI k → Go G l (mt mM_picture) 206 [some (vR 136), some (vI i)] [] h' 0 0 K := by
      refine upto _ ?_
      intro k hk ih h' f g e2 e11 e12 e139 ea eb i hi
      subst hi
      have m1 : MS h' := r.1.1.fr f
      refine gM_picture 99 [(206, 2), (248, 2)] fun S Cu hS hC => ?_
      refine pk_le 524 k (fun q => ?_) (fun q => ?_)
      · obtain rfl : k = 524 := by omega
        refine ld (nI 0) m1.ob rfl ?_
        refine ld (nI 0) m1.ob rfl ?_
        refine ld (nI 0) m1.ob rfl ?_
        refine hC _ _ _ _ (lp2 0 (by decide) _ (((f.setI rfl).setI rfl).setI rfl) (((g.set rfl).set rfl).set rfl) ?_ ?_ ?_ ?_ ?_ si_eq ?_ (fun j hj => absurd hj (Nat.not_lt_zero j)) _ rfl)
        · rw [si_ne (by decide), si_ne (by decide), si_ne (by decide)]; exact e2
        · rw [si_ne (by decide), si_ne (by decide), si_ne (by decide)]; exact e11
        · rw [si_ne (by decide), si_ne (by decide), si_ne (by decide)]; exact e12
        · rw [si_ne (by decide), si_ne (by decide), si_eq]
        · rw [si_ne (by decide), si_eq]
        · rw [si_nk rfl, si_nk rfl, si_nk rfl]
          funext j
          by_cases hj : j < 524
          · exact ea j hj
          · rw [eb j (by omega)]
            show nI (ρ j) = nI (π j)
            rw [gπ.2.2.2 j (by omega), r.1.2.2.2.2.2 j (by omega)]
      · refine ld 137 m1.ob (m1.2.2 0) ?_
        refine ld 139 m1.ob (m1.2.2 14) ?_
        refine ld (nI (π k)) (m1.inA (j := k) rfl rfl rfl rfl (by omega) rfl) (by rw [ix_nI (by omega)]; exact e139 k (by omega)) ?_
        refine sw k (nI (π k)) (m1.inA (j := k) rfl rfl rfl rfl (by omega) rfl) (ix_nI (by omega)) rfl ?_
        refine hC _ _ _ _ (ih q _ (f.setI rfl) (g.oth rfl) ?_ ?_ ?_ ?_ ?_ ?_ _ (nI_1 k))
        · rw [si_nk rfl]; exact e2
        · rw [si_nk rfl]; exact e11
        · rw [si_nk rfl]; exact e12
        · intro j hj; rw [si_nk rfl]; exact e139 j hj
        · intro j hj
          by_cases e : j = k
          · subst e; exact si_eq
          · rw [si_ne e]; exact ea j (by omega)
        · intro j hj
          rw [si_ne (by omega)]; exact eb j (by omega)
    refine gM_picture 99 [(206, 2)] fun S Cu hS hC => ?_
    refine hC _ _ _ _ (lp1 0 (by decide) _ (f.tr (M := []) Fr.rf rfl rfl) (g.wk rfl) e2 e11 e12 e139 (fun j hj => absurd hj (Nat.not_lt_zero j)) (fun j _ => ?_) _ rfl)
    rw [f.i rfl]; exact congrFun r.1.2.1 j
  -- the lines
  have lp : ∀ n e π w h', tn < n + e → LnOK tn e π w → (∀ R, lns tp tn n e π w = R → pict tp tn = R) → Fr [136, 139] h h' → Sc1 [2, 3, 4, 5, 6, 7, 8, 9, 10, 15] h h' → hI h' 136 2 = nI 0 → RGd h' tp tn e → RW h' π w → Go G l (mt mM_picture) 119 [some (vR 136), none] [] h' 0 0 K := by
    intro n
    induction n with
    | zero => intro e π w h' hn o; have := o.1; omega
    | succ n ih =>
      intro e π w h' hn o hR f g e2 rg rw0
      have m1 := rg.1.1
      have s := tok_sp (t := tp) o.1
      have wb : ∀ (B : Prop) (q : Nat × Nat) h2, line tp tn e π w = .inl q → (tok tp tn e).1 ≠ 0 → Fr [136, 139] h' h2 → Sc1 [4, 5, 6, 7, 8, 9, 10, 15] h' h2 → RFl h2 tp tn q → Go G l (mt mM_picture) 119 [some (vR 136), none] [] h2 0 0 K := by
        intro _ q h2 el et f2 g2 rf
        refine bad q h2 (hR _ ?_) (f.tr f2 rfl rfl) (g.tr g2 rfl rfl) ((g2 2 rfl).trans e2) rf
        simp only [lns]; rw [if_neg et, el]; rfl
      have wg : ∀ (x : Nat × Pic × Nat) h2, line tp tn e π w = .inr x → (tok tp tn e).1 ≠ 0 → Fr [136, 139] h' h2 → Sc1 [4, 5, 6, 7, 8, 9, 10, 15] h' h2 → RGd h2 tp tn x.1 → RW h2 x.2.1 x.2.2 → Go G l (mt mM_picture) 119 [some (vR 136), none] [] h2 0 0 K := by
        intro x h2 el et f2 g2 rg2 rw2
        have ls := line_sp o el
        refine ih x.1 x.2.1 x.2.2 h2 (by omega) ls.2 (fun R eR => hR R ?_) (f.tr f2 rfl rfl) (g.tr g2 rfl rfl) ((g2 2 rfl).trans e2) rg2 rw2
        simp only [lns]; rw [if_neg et, el]; exact eR
      -- the end of a line
      have en : ∀ (x : Nat × Pic × Nat) h2, (if wdT tp (tok tp tn e) 0x726f77 then rowR tp tn e π w else if wdT tp (tok tp tn e) 0x646f74 then dotR tp tn e π w else .inl (fau (tok tp tn e) 2)) = .inr x → (tok tp tn e).1 ≠ 0 → Fr [136, 139] h' h2 → Sc1 [4, 5, 6, 7, 8, 9, 10, 15] h' h2 → RGd h2 tp tn x.1 → RW h2 x.2.1 x.2.2 → Go G l (mt mM_picture) 172 [some (vR 136), none] [] h2 0 0 K := by
        intro x h2 el et f2 g2 rg2 rw2
        refine gM_picture 99 [(119, 1)] fun S Cu hS hC => ?_
        refine And.intro rg2.1.1.ob (hS _ _ _ _ (sM_ends rg2 (fun q eq h3 f3 g3 rf => ?_) (fun y ey h3 f3 g3 rg3 => ?_)))
        · exact hC _ _ _ _ (wb True q h3 (by unfold line; rw [el]; show bd (sgn tp tn x.1) _ = _; rw [eq]; rfl) et (f2.tr f3 rfl rfl) (g2.tr g3 rfl rfl) rf)
        · exact hC _ _ _ _ (wg (y, x.2) h3 (by unfold line; rw [el]; show bd (sgn tp tn x.1) _ = _; rw [ey]; rfl) et (f2.tr f3 rfl rfl) (g2.tr g3 rfl rfl) rg3 (rw2.fr f3 g3 rfl rfl))
      have eb : ∀ (q : Nat × Nat) h2, (if wdT tp (tok tp tn e) 0x726f77 then rowR tp tn e π w else if wdT tp (tok tp tn e) 0x646f74 then dotR tp tn e π w else .inl (fau (tok tp tn e) 2)) = .inl q → (tok tp tn e).1 ≠ 0 → Fr [136, 139] h' h2 → Sc1 [4, 5, 6, 7, 8, 9, 10, 15] h' h2 → RFl h2 tp tn q → Go G l (mt mM_picture) 172 [some (vR 136), none] [] h2 0 0 K := by
        intro q h2 el et f2 g2 rf
        refine gM_picture 99 [(119, 1)] fun S Cu hS hC => ?_
        refine And.intro rf.1.1.ob (hS _ _ _ _ (sM_endsB rf ?_))
        exact hC _ _ _ _ (wb True q h2 (by unfold line; rw [el]; rfl) et f2 g2 rf)
      refine gM_picture 99 [(172, 1), (204, 1)] fun S Cu hS hC => ?_
      refine And.intro m1.ob (hS _ _ _ _ (sM_isGoodG m1 rg.2.1 ?_))
      refine brE (fun z => (z trivial).elim) (fun _ => ?_)
      refine ld (nI (tok tp tn e).1) m1.ob rg.2.2.2.1.1 ?_
      refine pk_eq (tok tp tn e).1 0 (fun q => ?_) (fun q => ?_)
      · refine ld (nI 0) m1.ob rg.2.1 ?_
        refine ld (nI 0) m1.ob rfl ?_
        refine ld (-1) m1.ob (by rw [si_ne (by decide)]; exact rg.2.2.1) ?_
        refine ld (-1) m1.ob rfl ?_
        refine ld (nI 0) m1.ob (by rw [si_ne (by decide), si_ne (by decide)]; exact rg.2.1) ?_
        refine And.intro (fun _ => ?_) (fun z => absurd (by decide) z)
        refine hC _ _ _ _ (done π (hR _ ?_) _ ((f.setI rfl).setI rfl) (Sc1.set (Sc1.set (g.wk rfl) rfl) rfl) ?_ ?_ si_eq ?_)
        · simp only [lns]; rw [if_pos q]
        · rw [si_ne (by decide), si_ne (by decide)]; exact e2
        · rw [si_ne (by decide), si_eq]; rfl
        · intro k hk; rw [si_nk rfl, si_nk rfl]; exact rw0.1 k hk
      · refine And.intro m1.ob (hS _ _ _ _ (sM_isWord rg (c := 0x726f77) rfl (by decide) ?_))
        refine brE (fun q1 => ?_) (fun q1 => ?_)
        · refine And.intro m1.ob (hS _ _ _ _ (sM_isWord rg (c := 0x646f74) rfl (by decide) ?_))
          refine brE (fun q2 => ?_) (fun q2 => ?_)
          · refine And.intro m1.ob (hS _ _ _ _ (sM_wrong (k := 2) rg rfl (by decide) fun h2 f2 g2 rf => ?_))
            exact hC _ _ _ _ (eb _ h2 (by rw [if_neg q1, if_neg q2]) q (f2.tr (M := []) Fr.rf rfl rfl) (g2.wk rfl) rf)
          · refine And.intro m1.ob (hS _ _ _ _ (sM_dotLine rg o rw0 (fun q3 eq h2 f2 g2 rf => ?_) (fun x ex h2 f2 g2 rg2 rw2 => ?_)))
            · exact hC _ _ _ _ (eb _ h2 (by rw [if_neg q1, if_pos q2]; exact eq) q f2 g2 rf)
            · exact hC _ _ _ _ (en _ h2 (by rw [if_neg q1, if_pos q2]; exact ex) q f2 g2 rg2 rw2)
        · refine And.intro m1.ob (hS _ _ _ _ (sM_rowLine rg o rw0 (fun q3 eq h2 f2 g2 rf => ?_) (fun x ex h2 f2 g2 rg2 rw2 => ?_)))
          · exact hC _ _ _ _ (eb _ h2 (by rw [if_pos q1]; exact eq) q f2 g2 rf)
          · exact hC _ _ _ _ (en _ h2 (by rw [if_pos q1]; exact ex) q f2 g2 rg2 rw2)
  have lns0 : ∀ {e : Nat} {π : Pic}, size tp tn = .inr (e, π) → ∀ R, lns tp tn (tn + 1) e π 0 = R → pict tp tn = R := by
    intro e π es R eR
    unfold pict; rw [es]; exact eR
  -- the size
  have sz : ∀ h', Fr [136, 139] h h' → Sc1 [2, 3, 4, 5, 6, 7, 8, 9, 10, 15] h h' → hI h' 136 2 = nI 0 → RGd h' tp tn 0 → RW h' pic0 0 → Go G l (mt mM_picture) 75 [some (vR 136), none] [] h' 0 0 K := by
    intro h' f g e2 rg rw0
    refine gM_picture 99 [(119, 1)] fun S Cu hS hC => ?_
    refine And.intro rg.1.1.ob (hS _ _ _ _ (sM_isWord rg (c := 0x73697a65) rfl (by decide) ?_))
    refine brE (fun q1 => ?_) (fun q1 => ?_)
    · have es : size tp tn = .inr (0, pic0) := by unfold size; rw [if_neg q1]
      exact hC _ _ _ _ (lp (tn + 1) 0 pic0 0 h' (by omega) (size_sp es) (lns0 es) f g e2 rg rw0)
    refine And.intro rg.1.1.ob (hS _ _ _ _ (sM_goG rg fun ha fa ga ra => ?_))
    have rwa := rw0.fr fa ga rfl rfl
    have f1 : Fr [136, 139] h ha := f.tr fa rfl rfl
    have g1 : Sc1 [2, 3, 4, 5, 6, 7, 8, 9, 10, 15] h ha := g.tr ga rfl rfl
    have ea2 : hI ha 136 2 = nI 0 := (ga 2 rfl).trans e2
    refine ld 139 ra.1.1.ob (ra.1.1.2.2 14) ?_
    refine And.intro ra.1.1.ob (hS _ _ _ _ (sM_number (lo := 1) (hi := 20) ra rfl rfl (by decide) (by decide) (fun q eq hb v fb gb rf => ?_) (fun x ex hb fb gb rb => ?_)))
    · have m1 := rf.1.1
      refine sw 0 v (m1.inA (j := 0) rfl rfl rfl rfl (by decide) rfl) rfl rfl ?_
      have rf := rf.st (j := 0) (v := v)
      refine ld 139 m1.ob (m1.2.2 14) ?_
      refine And.intro m1.ob (hS _ _ _ _ (sM_numberB rf ?_))
      refine sw 1 0 (m1.inA (j := 1) rfl rfl rfl rfl (by decide) rfl) rfl rfl ?_
      have rf := rf.st (j := 1) (v := 0)
      refine And.intro m1.ob (hS _ _ _ _ (sM_endsB rf ?_))
      refine hC _ _ _ _ (bad q _ ?_ (((f1.tr fb rfl rfl).setI rfl).setI rfl) (((g1.tr gb rfl rfl).oth rfl).oth rfl) ?_ rf)
      · unfold pict size; rw [if_pos q1, eq]; rfl
      · rw [si_nk rfl, si_nk rfl]; exact (gb 2 rfl).trans ea2
    have m1 := rb.1.1
    refine sw 0 (nI x.1) (m1.inA (j := 0) rfl rfl rfl rfl (by decide) rfl) rfl rfl ?_
    have rwb := (rwa.fr fb gb rfl rfl).set (j := 0) (v := x.1)
    have rb := rb.st (j := 0) (v := nI x.1)
    have f2 : Fr [136, 139] h (setI hb 139 0 (nI x.1)) := (f1.tr fb rfl rfl).setI rfl
    have g2 : Sc1 [2, 3, 4, 5, 6, 7, 8, 9, 10, 15] h (setI hb 139 0 (nI x.1)) := (g1.tr gb rfl rfl).oth rfl
    have eb2 : hI (setI hb 139 0 (nI x.1)) 136 2 = nI 0 := by rw [si_nk rfl]; exact (gb 2 rfl).trans ea2
    generalize setI hb 139 0 (nI x.1) = hb at rb rwb f2 g2 eb2 ⊢
    have m1 := rb.1.1
    refine ld 139 m1.ob (m1.2.2 14) ?_
    refine And.intro m1.ob (hS _ _ _ _ (sM_number (lo := 1) (hi := 20) rb rfl rfl (by decide) (by decide) (fun q eq hc v fc gc rf => ?_) (fun y ey hc fc gc rc => ?_)))
    · have m1 := rf.1.1
      refine sw 1 v (m1.inA (j := 1) rfl rfl rfl rfl (by decide) rfl) rfl rfl ?_
      have rf := rf.st (j := 1) (v := v)
      refine And.intro m1.ob (hS _ _ _ _ (sM_endsB rf ?_))
      refine hC _ _ _ _ (bad q _ ?_ ((f2.tr fc rfl rfl).setI rfl) ((g2.tr gc rfl rfl).oth rfl) ?_ rf)
      · unfold pict size; rw [if_pos q1, ex]; show bd (bd (num tp tn x.2 1 20) _) _ = _; rw [eq]; rfl
      · rw [si_nk rfl]; exact (gc 2 rfl).trans eb2
    have m1 := rc.1.1
    refine sw 1 (nI y.1) (m1.inA (j := 1) rfl rfl rfl rfl (by decide) rfl) rfl rfl ?_
    have rwc := (rwb.fr fc gc rfl rfl).set (j := 1) (v := y.1)
    have rc := rc.st (j := 1) (v := nI y.1)
    have f3 : Fr [136, 139] h (setI hc 139 1 (nI y.1)) := (f2.tr fc rfl rfl).setI rfl
    have g3 : Sc1 [2, 3, 4, 5, 6, 7, 8, 9, 10, 15] h (setI hc 139 1 (nI y.1)) := (g2.tr gc rfl rfl).oth rfl
    have ec2 : hI (setI hc 139 1 (nI y.1)) 136 2 = nI 0 := by rw [si_nk rfl]; exact (gc 2 rfl).trans eb2
    generalize setI hc 139 1 (nI y.1) = hc at rc rwc f3 g3 ec2 ⊢
    refine And.intro rc.1.1.ob (hS _ _ _ _ (sM_ends rc (fun q eq hd fd gd rf => ?_) (fun z ez hd fd gd rd => ?_)))
    · refine hC _ _ _ _ (bad q _ ?_ (f3.tr fd rfl rfl) (g3.tr gd rfl rfl) ((gd 2 rfl).trans ec2) rf)
      unfold pict size; rw [if_pos q1, ex]; show bd (bd (num tp tn x.2 1 20) _) _ = _; rw [ey]; show bd (bd (sgn tp tn y.2) _) _ = _; rw [eq]; rfl
    · have es : size tp tn = .inr (z, pu (pu pic0 0 x.1) 1 y.1) := by
        unfold size; rw [if_pos q1, ex]; show bd (num tp tn x.2 1 20) _ = _; rw [ey]; show bd (sgn tp tn y.2) _ = _; rw [ez]; rfl
      exact hC _ _ _ _ (lp (tn + 1) z _ 0 hd (by omega) (size_sp es) (lns0 es) (f3.tr fd rfl rfl) (g3.tr gd rfl rfl) ((gd 2 rfl).trans ec2) rd (rwc.fr fd gd rfl rfl))
  -- the row that is read into, emptied
  have l0 : ∀ k, k ≤ 524 → ∀ h', Fr [136, 139] h h' → Sc1 [2, 3, 4, 5, 6, 7, 8, 9, 10, 15] h h' → hI h' 136 2 = nI 0 → hI h' 136 3 = nI tn → hI h' 136 4 = nI 0 → hI h' 136 9 = nI 0 → hI h' 136 10 = -1 → hI h' 136 15 = nI 0 → (∀ j, j < k → hI h' 139 j = nI 0) → ∀ i, i = nI k → Go G l (mt mM_picture) 35 [some (vR 136), some (vI i)] [] h' 0 0 K := by
    refine upto _ ?_
    intro k hk ih h' f g e2 e3 e4 e9 e10 e15 e139 i hi
    subst hi
    have m1 : MS h' := r.1.1.fr f
    refine gM_picture 99 [(35, 2), (75, 1)] fun S Cu hS hC => ?_
    refine pk_le 524 k (fun q => ?_) (fun q => ?_)
    · obtain rfl : k = 524 := by omega
      refine ld 139 m1.ob (m1.2.2 14) ?_
      refine sw 0 (nI 8) (m1.inA (j := 0) rfl rfl rfl rfl (by decide) rfl) rfl rfl ?_
      refine ld 139 m1.ob (m1.2.2 14) ?_
      refine sw 1 (nI 8) (m1.inA (j := 1) rfl rfl rfl rfl (by decide) rfl) rfl rfl ?_
      have rwz : RW h' (fun _ => 0) 0 := ⟨e139, e15⟩
      have rw2 : RW (setI (setI h' 139 0 (nI 8)) 139 1 (nI 8)) pic0 0 := rwz.set.set
      have rb : RB (setI (setI h' 139 0 (nI 8)) 139 1 (nI 8)) tp tn := by
        refine ⟨m1, fun i hi => ?_, ?_, tl, hb⟩
        · rw [si_nk rfl, si_nk rfl, f.i rfl]; exact r.2.1.1 i hi
        · rw [si_nk rfl, si_nk rfl]; exact e3
      refine And.intro m1.ob (hS _ _ _ _ (sM_goOn (a := 0) rb (by rw [si_nk rfl, si_nk rfl]; exact e4) (Nat.zero_le _) fun ha fa ga ra => ?_))
      refine hC _ _ _ _ (sz ha (((f.setI rfl).setI rfl).tr fa rfl rfl) (((g.oth rfl).oth rfl).tr ga rfl rfl) ?_ ⟨rb.fr fa ga rfl rfl, ?_, ?_, ra, Nat.zero_le _⟩ (rw2.fr fa ga rfl rfl))
      · rw [ga 2 rfl, si_nk rfl, si_nk rfl]; exact e2
      · rw [ga 9 rfl, si_nk rfl, si_nk rfl]; exact e9
      · rw [ga 10 rfl, si_nk rfl, si_nk rfl]; exact e10
    · refine ld 139 m1.ob (m1.2.2 14) ?_
      refine sw k (nI 0) (m1.inA (j := k) rfl rfl rfl rfl (by omega) rfl) (ix_nI (by omega)) rfl ?_
      refine hC _ _ _ _ (ih q _ (f.setI rfl) (g.oth rfl) ?_ ?_ ?_ ?_ ?_ ?_ ?_ _ (nI_1 k))
      · rw [si_nk rfl]; exact e2
      · rw [si_nk rfl]; exact e3
      · rw [si_nk rfl]; exact e4
      · rw [si_nk rfl]; exact e9
      · rw [si_nk rfl]; exact e10
      · rw [si_nk rfl]; exact e15
      · intro j hj
        by_cases e : j = k
        · subst e; exact si_eq
        · rw [si_ne e]; exact e139 j (by omega)
  have m1 := r.1.1
  refine eM_picture 99 [(35, 2)] fun S Cu hS hC => ?_
  refine ld (nI tn) m1.ob r.2.1.2.1 ?_
  refine ld (nI tn) m1.ob rfl ?_
  refine ld (nI 0) m1.ob rfl ?_
  refine ld (nI 0) m1.ob rfl ?_
  refine ld (nI 0) m1.ob rfl ?_
  refine ld (-1) m1.ob rfl ?_
  refine ld (nI 0) m1.ob rfl ?_
  refine hC _ _ _ _ (l0 0 (by decide) _ ((((((Fr.rf.setI rfl).setI rfl).setI rfl).setI rfl).setI rfl).setI rfl) ((((((Sc1.rf.set rfl).set rfl).set rfl).set rfl).set rfl).set rfl) ?_ ?_ ?_ ?_ ?_ si_eq (fun j hj => absurd hj (Nat.not_lt_zero j)) _ rfl)
  · rw [si_ne (by decide), si_ne (by decide), si_ne (by decide), si_ne (by decide), si_eq]
  · rw [si_ne (by decide), si_ne (by decide), si_ne (by decide), si_ne (by decide), si_ne (by decide), si_eq]
  · rw [si_ne (by decide), si_ne (by decide), si_ne (by decide), si_eq]
  · rw [si_ne (by decide), si_ne (by decide), si_eq]
  · rw [si_ne (by decide), si_eq]
end MM
