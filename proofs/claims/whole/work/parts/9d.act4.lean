/-! ===== the class: tape, boxes, steps, about ===== -/
theorem box_bh {b : Nat} (hb : b < 2) : BH (122 + 7 * b) := by
  have : b = 0 ∨ b = 1 := by omega
  rcases this with rfl | rfl
  · exact Or.inl rfl
  · exact Or.inr rfl
theorem CS.bx {h : AH} (c : CS h) {b : Nat} (hb : b < 2) : hR h 118 b = 122 + 7 * b := by
  have : b = 0 ∨ b = 1 := by omega
  rcases this with rfl | rfl
  · exact c.rf (k := 118) (j := 0) rfl rfl
  · exact c.rf (k := 118) (j := 1) rfl rfl
section CC
variable {G : GP} {l : Launch} {K : Option AV → AH → Prop} {h : AH} {ρ : Pic}
variable {sl : Nat → Nat} {tp : Nat → Nat} {tn : Nat} {ft fp : Int32} {pa : Nat → Pic} {an un : Nat} {sm sc : Nat → Int32} {sn : Nat} {bx : Nat → Pic} {bk : Nat → Prop}
theorem CRs.tape {h' : AH} {tp' : Nat → Nat} {tn' : Nat} {ft' fp' : Int32} (r : CRs h sl tp tn ft fp ρ pa an un sm sc sn bx bk) (f : FX 999 [17] h h') (c : CT h' tp' tn' ft' fp') : CRs h' sl tp' tn' ft' fp' ρ pa an un sm sc sn bx bk := by
  obtain ⟨⟨⟨so, x⟩, _, p, k, b⟩, v, a⟩ := r
  refine ⟨⟨⟨so.of f.2.2.1, f.sc x (by have := x.2.1.lt; omega) (so.nl (by decide) rfl)⟩, c, p.fx so f (by decide) rfl (fun i hi => by have := (so.sh (i := 2 + i) (by omega)).lt; omega) (fun i hi => so.nl (by omega) rfl), k.fx f (by decide) rfl, b.fx f ⟨by decide, by decide, by decide, by decide⟩ rfl⟩, ?_, a.fx f ⟨by decide, by decide, by decide, by decide⟩ rfl⟩
  unfold CV
  rw [f.i (k := 1) (by decide) rfl]
  exact v.imp id (fun ⟨a, d⟩ => ⟨a, d.fx (Or.inl rfl) f (by decide) rfl⟩)
theorem sC_feed {a b c d e : Int32} (r : CR h tp tn ft fp ρ pa an un sm sc sn bx bk) (h0 : ¬ tn + 20 ≤ 900 → K (some (vI (-1))) h) (h1 : tn + 20 ≤ 900 → ∀ h', FC h h' → CR h' (feed5 tp tn a b c d e) (tn + 20) ft fp ρ pa an un sm sc sn bx bk → K (some (vI (nI (tn + 20)))) h') : Spec G l (mt mC_feed) [vR 1, vI a, vI b, vI c, vI d, vI e] h K := by
  obtain ⟨sl, r⟩ := r
  have r17 : ∀ {h' : AH}, CS h' → hR h' 1 3 = 17 := fun c => c.rf (k := 1) (j := 3) rfl rfl
  refine eC_feed 99 [] fun S Cu hS hC => ?_
  refine ld 17 r.ob (r17 r.cs) ?_
  refine And.intro (r.cs.ob (k := 17) (ci := 6) rfl rfl rfl) (hS _ _ _ _ (sR_hasRoom r.cs r.1.2.1 ?_))
  refine brN (fun q => ?_) (fun q => ?_)
  · have o1 : ∀ {h' : AH}, CS h' → Ob h' 1 9 := fun c => c.ob (k := 1) (ci := 9) rfl rfl rfl
    have o6 : ∀ {h' : AH}, CS h' → Ob h' 17 6 := fun c => c.ob (k := 17) (ci := 6) rfl rfl rfl
    refine ld 17 r.ob (r17 r.cs) ?_
    refine And.intro (o6 r.cs) (hS _ _ _ _ (sR_append r.cs r.1.2.1 (by omega) fun h2 f2 c2 => ?_))
    have s2 := f2.cs r.cs
    refine ld 17 (o1 s2) (r17 s2) ?_
    refine And.intro (o6 s2) (hS _ _ _ _ (sR_append s2 c2 (by omega) fun h3 f3 c3 => ?_))
    have s3 := f3.cs s2
    refine ld 17 (o1 s3) (r17 s3) ?_
    refine And.intro (o6 s3) (hS _ _ _ _ (sR_append s3 c3 (by omega) fun h4 f4 c4 => ?_))
    have s4 := f4.cs s3
    refine ld 17 (o1 s4) (r17 s4) ?_
    refine And.intro (o6 s4) (hS _ _ _ _ (sR_append s4 c4 (by omega) fun h5 f5 c5 => ?_))
    have s5 := f5.cs s4
    refine ld 17 (o1 s5) (r17 s5) ?_
    refine And.intro (o6 s5) (hS _ _ _ _ (sR_append s5 c5 (by omega) fun h6 f6 c6 => ?_))
    have s6 := f6.cs s5
    have f : FX 999 [17] h h6 := (((f2.tr (N := [17]) f3 rfl rfl).tr (N := [17]) f4 rfl rfl).tr (N := [17]) f5 rfl rfl).tr f6 rfl rfl
    refine ld 17 (o1 s6) (r17 s6) ?_
    refine ld (nI (tn + 20)) (o6 s6) c6.2.1 ?_
    exact h1 q h6 (f.m9 rfl) (r.tape f c6).r
  · exact h0 q
theorem sC_end {x : Int32} (r : CR h tp tn ft fp ρ pa an un sm sc sn bx bk) (h0 : ¬ inN x (tn + 1) → K (some (vI (-1))) h) (h1 : ∀ n, n ≤ tn → x = nI n → ∀ h', FC h h' → CR h' tp n ft fp ρ pa an un sm sc sn bx bk → K (some (vI (nI n))) h') : Spec G l (mt mC_end) [vR 1, vI x] h K := by
  obtain ⟨sl, r⟩ := r
  have ct := r.1.2.1
  have o6 := r.cs.ob (k := 17) (ci := 6) rfl rfl rfl
  have i1 := inN_iff (x := x) (n := tn + 1) (by have := ct.2.2.1; omega)
  have tl := ct.2.2.1
  refine eC_end 39 [(15, 2)] fun S Cu hS hC => ?_
  have no : ¬ inN x (tn + 1) → Go G l (mt mC_end) 15 [some (vR 1), some (vI x)] [] h 0 0 K := by
    intro q
    refine gC_end 39 [] fun S Cu hS hC => ?_
    exact h0 q
  refine And.intro (fun q => ?_) (fun q => ?_)
  · exact hC _ _ _ _ (no (fun z => absurd (i1.mp z).1 (Int32.not_le.mpr q)))
  obtain ⟨n, hn, ex⟩ := nI_of q
  subst ex
  refine ld 17 r.ob (r.cs.rf (k := 1) (j := 3) rfl rfl) ?_
  refine ld _ o6 ct.2.1 ?_
  refine pk_le n tn (fun q2 => ?_) (fun q2 => ?_)
  · refine ld 17 r.ob (r.cs.rf (k := 1) (j := 3) rfl rfl) ?_
    refine ld (nI n) o6 rfl ?_
    have f : FX 999 [17] h (setI h 17 0 (nI n)) := FX.rf.setI (Or.inr rfl)
    refine h1 n q2 rfl _ (f.m9 rfl) (r.tape f ⟨fun i hi => ?_, si_eq, by omega, ?_, ?_⟩).r
    · rw [si_nk rfl]; exact ct.1 i (by omega)
    · rw [si_ne (by decide)]; exact ct.2.2.2.1
    · rw [si_ne (by decide)]; exact ct.2.2.2.2
  · refine hC _ _ _ _ (no (fun ⟨m, hm, e⟩ => ?_))
    have := (nI_eq hn (by omega)).mp e
    omega
theorem sC_fault {w : Int32} (r : CR h tp tn ft fp ρ pa an un sm sc sn bx bk) (hK : K (some (vI (aFault ft fp w))) h) : Spec G l (mt mC_fault) [vR 1, vI w] h K := by
  obtain ⟨sl, r⟩ := r
  have ct := r.1.2.1
  have o6 := r.cs.ob (k := 17) (ci := 6) rfl rfl rfl
  have r17 := r.cs.rf (k := 1) (j := 3) rfl rfl
  unfold aFault at hK
  refine eC_fault 39 [] fun S Cu hS hC => ?_
  refine And.intro (fun e => ?_) (fun n0 => And.intro (fun e => ?_) (fun n1 => ?_))
  · rw [sel_in (i := 0) e (by decide) rfl] at hK
    exact ld 17 r.ob r17 (ld _ o6 ct.2.2.2.1 hK)
  · rw [sel_in (i := 1) e (by decide) rfl] at hK
    exact ld 17 r.ob r17 (ld _ o6 ct.2.2.2.2 hK)
  · rw [sel_out (fun i hi => match i, hi with | 0, _ => n0 | 1, _ => n1)] at hK
    exact hK
theorem sC_picture (r : CR h tp tn ft fp ρ pa an un sm sc sn bx bk) (hb : ∀ i, i < tn → tp i < 256) (h0 : ∀ q, pict tp tn = .inl q → ∀ h', FC h h' → CR h' tp 0 (nI q.1) (nI q.2) ρ pa an un sm sc sn bx bk → K (some (vI (-1))) h') (h1 : ∀ π, pict tp tn = .inr π → ∀ h', FC h h' → CR h' tp 0 0 (-1) π pa 0 0 sm sc 0 bx (fun _ => False) → K (some (vI (nI (pcn π)))) h') : Spec G l (mt mC_picture) [vR 1] h K := by
  obtain ⟨sl, r⟩ := r
  have so := r.so
  have ct := r.1.2.1
  have rr : RR h tp tn (sl 1) := ⟨r.cs, so.1 1 (by decide), so.2.2.2.1, ct.2.1, ct.2.2.1, ct.1, hb⟩
  have p1 := so.1 1 (by decide)
  have gj : ∀ {g : Nat}, PL.contains g = false → g ≠ sl 1 := fun {g} hg z => by rw [← z, hg] at p1; cases p1
  have keep : ∀ h2, FX (sl 1) [17] h h2 → SLO h2 sl ∧ SC h2 (sl 0) ρ ∧ CP h2 sl pa an un ∧ CK h2 sm sc sn ∧ CB h2 bx bk ∧ CV h2 ρ ∧ CA h2 ρ ∧ FC h h2 := by
    intro h2 f
    refine ⟨so.of f.2.2.1, f.sc r.x (so.ne (by decide) (by decide) (by decide)) (so.nl (by decide) rfl), r.1.2.2.1.fx so f (gj rfl) rfl (fun i hi => so.ne (by omega) (by decide) (by omega)) (fun i hi => so.nl (by omega) rfl), r.1.2.2.2.1.fx f (gj rfl) rfl, r.1.2.2.2.2.fx f ⟨gj rfl, gj rfl, gj rfl, gj rfl⟩ rfl, ?_, r.2.2.fx f ⟨gj rfl, gj rfl, gj rfl, gj rfl⟩ rfl, f.mz (so.sh (by decide)) rfl⟩
    unfold CV
    rw [f.i (k := 1) (gj rfl) rfl]
    exact r.2.1.imp id (fun ⟨a, d⟩ => ⟨a, d.fx (Or.inl rfl) f (gj rfl) rfl⟩)
  refine eC_picture 99 [] fun S Cu hS hC => ?_
  refine ld 17 r.ob (r.cs.rf (k := 1) (j := 3) rfl rfl) ?_
  refine And.intro (r.cs.ob (k := 17) (ci := 6) rfl rfl rfl) (hS _ _ _ _ (sR_read rr (fun q eq h2 f2 a0 a1 a2 => ?_) (fun π eπ h2 f2 a0 a1 a2 sp2 => ?_)))
  · refine And.intro (fun z => absurd rfl z) (fun _ => ?_)
    obtain ⟨k1, k2, k3, k4, k5, k6, k7, k8⟩ := keep h2 f2
    exact h0 q eq h2 k8 ⟨sl, ⟨⟨k1, k2⟩, ⟨fun i hi => absurd hi (Nat.not_lt_zero i), a0, Nat.zero_le _, a1, a2⟩, k3, k4, k5⟩, k6, k7⟩
  · refine And.intro (fun _ => ?_) (fun z => absurd z (by decide))
    obtain ⟨k1, k2, k3, k4, k5, k6, k7, k8⟩ := keep h2 f2
    have c2 := k2.1
    refine ld 17 (c2.ob (k := 1) (ci := 9) rfl rfl rfl) (c2.rf (k := 1) (j := 3) rfl rfl) ?_
    refine ld (sl 0) (c2.ob (k := 1) (ci := 9) rfl rfl rfl) k1.2.2.1 ?_
    refine And.intro (c2.ob (k := 17) (ci := 6) rfl rfl rfl) (hS _ _ _ _ (sR_handOver c2 k1.2.2.2.1 k2.2.1 ?_))
    have sh1 := so.sh (i := 1) (by decide)
    refine And.intro ⟨c2.ob (k := 1) (ci := 9) rfl rfl rfl, sh1.a.2.1.1, by show _ ≤ hN h2; rw [c2.1]; have := sh1.a.2.1; omega⟩ ?_
    have cH : CS (setR (setR h2 17 4 (sl 0)) 1 0 (sl 1)) := (c2.setR rfl).setR rfl
    have soH : SLO (setR (setR h2 17 4 (sl 0)) 1 0 (sl 1)) (swS sl 0 1) := by
      refine ⟨swS_pl k1.1 (by decide) (by decide), swS_inj k1.2.1 (by decide) (by decide) (by decide), ?_, ?_, fun i hi => ?_⟩
      · rw [sr_eq]; rfl
      · rw [sr_ne (by decide), sr_eq]; rfl
      · rw [sr_ne (by omega), sr_ne (by omega)]
        unfold swS; rw [if_neg (by omega), if_neg (by omega)]; exact k1.2.2.2.2 i hi
    have s2 : ∀ i, swS sl 0 1 (2 + i) = sl (2 + i) := fun i => by unfold swS; rw [if_neg (by omega), if_neg (by omega)]
    have xH : SC (setR (setR h2 17 4 (sl 0)) 1 0 (sl 1)) (swS sl 0 1 0) π := ⟨cH, sh1, sp2, pict_sp eπ⟩
    have ctH : CT (setR (setR h2 17 4 (sl 0)) 1 0 (sl 1)) tp 0 0 (-1) := ⟨fun i hi => absurd hi (Nat.not_lt_zero i), a0, Nat.zero_le _, a1, a2⟩
    have cpH : CP (setR (setR h2 17 4 (sl 0)) 1 0 (sl 1)) (swS sl 0 1) pa an un := by
      obtain ⟨o, ho, b1, b2, b3, b4, b5⟩ := k3
      exact ⟨o, ho, b1, b2, b3, b4, fun i hi => by rw [s2]; exact b5 i hi⟩
    have ckH : CK (setR (setR h2 17 4 (sl 0)) 1 0 (sl 1)) sm sc sn := k4
    have fcH : FC h (setR (setR h2 17 4 (sl 0)) 1 0 (sl 1)) := by
      refine ⟨k8.1, k8.2.1, fun k hk => ⟨(k8.2.2 k hk).1, (k8.2.2 k hk).2.1, ?_⟩⟩
      funext i
      rw [sr_ne (by omega), sr_ne (by omega)]; exact congrFun (k8.2.2 k hk).2.2 i
    generalize setR (setR h2 17 4 (sl 0)) 1 0 (sl 1) = H at *
    have obH : Ob H 1 9 := cH.ob (k := 1) (ci := 9) rfl rfl rfl
    refine And.intro (fun z => absurd z (by decide)) (fun _ => ?_)
    refine ld 118 obH (cH.rf (k := 1) (j := 9) rfl rfl) ?_
    refine ld 122 (cH.inA (k := 118) (t := 4) (n := 2) (j := 0) rfl rfl rfl rfl (by decide) rfl) (cH.rf (k := 118) (j := 0) rfl rfl) ?_
    refine ld (nI 0) ⟨BH.ob (k := 122) (Or.inl rfl) cH, Or.inl rfl⟩ rfl ?_
    refine And.intro (fun z => absurd z (by decide)) (fun _ => ?_)
    refine ld 118 obH (cH.rf (k := 1) (j := 9) rfl rfl) ?_
    refine ld 129 (cH.inA (k := 118) (t := 4) (n := 2) (j := 1) rfl rfl rfl rfl (by decide) rfl) (cH.rf (k := 118) (j := 1) rfl rfl) ?_
    refine ld (nI 0) ⟨BH.ob (k := 129) (Or.inr rfl) cH, Or.inl rfl⟩ rfl ?_
    refine And.intro (fun _ => ?_) (fun z => absurd (by decide) z)
    have f3 : FX 999 [122, 129] H (setI (setI H 122 0 (nI 0)) 129 0 (nI 0)) := (FX.rf.setI (Or.inr rfl)).setI (Or.inr rfl)
    have cb3 : CB (setI (setI H 122 0 (nI 0)) 129 0 (nI 0)) bx (fun _ => False) := by
      intro b hb
      have : b = 0 ∨ b = 1 := by omega
      rcases this with rfl | rfl
      · refine ⟨?_, fun z => z.elim⟩
        rw [bI_F (fun z => z)]
        show hI (setI (setI H 122 0 (nI 0)) 129 0 (nI 0)) 122 0 = 0
        rw [si_nk rfl, si_eq]; rfl
      · refine ⟨?_, fun z => z.elim⟩
        rw [bI_F (fun z => z)]
        show hI (setI (setI H 122 0 (nI 0)) 129 0 (nI 0)) 129 0 = 0
        rw [si_eq]; rfl
    have x3 := f3.sc xH (by have := xH.2.1.lt; omega) (soH.nl (by decide) rfl)
    refine And.intro (x3.1.ob (k := 1) (ci := 9) rfl rfl rfl) (hS _ _ _ _ (sC_startAnew (soH.of f3.2.2.1) x3 (ctH.fx f3 (by decide) rfl) (cpH.fx soH f3 (by decide) rfl (fun i hi => by have := (soH.sh (i := 2 + i) (by omega)).lt; omega) (fun i hi => soH.nl (by omega) rfl)) (ckH.fx f3 (by decide) rfl) cb3 fun h4 f4 z4 => ?_))
    have r4 := z4.o
    refine ld _ r4.ob r4.now ?_
    refine ld _ r4.x.ob r4.x.2.2.1.1.2.2.1 ?_
    exact h1 π eπ h4 ((fcH.tr (f3.m9 rfl)).tr (f4.m9 rfl)) r4.r
theorem sC_image {x : Int32} (r : CR h tp tn ft fp ρ pa an un sm sc sn bx bk) (h0 : ¬ inN x 2 → K (some (vI (-1))) h) (h1 : ∀ b, b < 2 → x = nI b → ∀ h', FC h h' → CR h' tp tn ft fp ρ pa an un sm sc sn (swp bx b ρ) (fun i => i = b ∨ bk i) → K (some (vI (nI (pcn ρ)))) h') : Spec G l (mt mC_image) [vR 1, vI x] h K := by
  obtain ⟨sl, r⟩ := r
  have so := r.so
  refine eC_image 99 [] fun S Cu hS hC => ?_
  refine hS _ _ _ _ (sC_isBox ?_)
  refine brN (fun q => ?_) (fun q => ?_)
  · obtain ⟨b, hb, ex⟩ := q
    subst ex
    have bh := box_bh hb
    refine ld 118 r.ob (r.cs.rf (k := 1) (j := 9) rfl rfl) ?_
    refine ld (122 + 7 * b) (r.cs.inA (k := 118) (t := 4) (n := 2) (j := b) rfl rfl rfl rfl hb rfl) (by rw [ix_nI (by omega)]; exact r.cs.bx hb) ?_
    refine ld (sl 0) r.ob r.now ?_
    refine And.intro r.ob (hS _ _ _ _ (sC_upToDate r fun h2 f2 r2 d2 => ?_))
    have kn : 122 + 7 * b + 1 ≠ sl 0 := fun z => by
      have := so.1 0 (by decide); rw [← z] at this
      have : b = 0 ∨ b = 1 := by omega
      rcases this with rfl | rfl <;> cases this
    refine And.intro (bh.ob r2.cs) (hS _ _ _ _ (sB_keep bh r2.x kn d2.1 fun h3 f3 p3 o3 e3 => ?_))
    have fb : ∀ g, (122 + 7 * b = 122 ∨ 122 + 7 * b = 129) := fun _ => by omega
    have c3 := f3.cs r2.cs
    obtain ⟨⟨⟨so2, x2⟩, t2, q2, k2, b2⟩, v2, a2⟩ := r2
    have nl : ∀ {g : Nat}, g ≠ 122 → g ≠ 123 → g ≠ 129 → g ≠ 130 → [122 + 7 * b, 122 + 7 * b + 1].contains g = false := fun {g} n1 n2 n3 n4 => by
      have : b = 0 ∨ b = 1 := by omega
      rcases this with rfl | rfl <;> simp <;> omega
    have nlp : ∀ {i : Nat}, i < 14 → [122 + 7 * b, 122 + 7 * b + 1].contains (sl i) = false := fun {i} hi => by
      have := so.1 i hi
      refine nl (fun z => ?_) (fun z => ?_) (fun z => ?_) (fun z => ?_) <;> rw [z] at this <;> cases this
    have x3 : SC h3 (sl 0) ρ := f3.sc x2 (by have := x2.2.1.lt; omega) (nlp (by decide))
    refine ld (sl 0) (c3.ob (k := 1) (ci := 9) rfl rfl rfl) (by rw [f3.2.2.1]; exact so2.2.2.1) ?_
    refine ld _ x3.ob x3.2.2.1.1.2.2.1 ?_
    refine h1 b hb rfl h3 ((f2.m9 rfl).tr (f3.m9 (nl (by decide) (by decide) (by decide) (by decide)))) ⟨sl, ⟨⟨so2.of f3.2.2.1, x3⟩, t2.fx f3 (by decide) (nl (by decide) (by decide) (by decide) (by decide)), q2.fx so2 f3 (by decide) (nl (by decide) (by decide) (by decide) (by decide)) (fun i hi => by have := (so2.sh (i := 2 + i) (by omega)).lt; omega) (fun i hi => nlp (by omega)), k2.fx f3 (by decide) (nl (by decide) (by decide) (by decide) (by decide)), fun c hc => ?_⟩, ?_, a2.fx f3 ⟨by decide, by decide, by decide, by decide⟩ (by rw [nl (g := 89) (by decide) (by decide) (by decide) (by decide), nl (g := 90) (by decide) (by decide) (by decide) (by decide), nl (g := 95) (by decide) (by decide) (by decide) (by decide), nl (g := 100) (by decide) (by decide) (by decide) (by decide)]; rfl)⟩
    · by_cases e : c = b
      · subst e
        refine ⟨by rw [e3, bI_T (Or.inl rfl)]; rfl, fun _ => ?_⟩
        unfold swp
        rw [if_pos rfl]
        exact ⟨by rw [show 123 + 7 * c = 122 + 7 * c + 1 by omega]; exact p3, r.x.2.2.2, fun d hd => by rw [show 128 + 7 * c = 122 + 7 * c + 6 by omega]; exact o3 d hd⟩
      · have bc := b2 c hc
        have gg : grp (122 + 7 * c) = 122 + 7 * c ∧ grp (128 + 7 * c) = 122 + 7 * c ∧ SH (123 + 7 * c) ∧ (∀ {g : Nat}, (g = 122 + 7 * c ∨ g = 123 + 7 * c) → [122 + 7 * b, 122 + 7 * b + 1].contains g = false) := by
          have h1 : c = 0 ∨ c = 1 := by omega
          have h2 : b = 0 ∨ b = 1 := by omega
          rcases h1 with rfl | rfl
          · refine ⟨rfl, rfl, rfl, fun {g} hg => ?_⟩
            have : b = 1 := by omega
            subst this
            rcases hg with rfl | rfl <;> rfl
          · refine ⟨rfl, rfl, rfl, fun {g} hg => ?_⟩
            have : b = 0 := by omega
            subst this
            rcases hg with rfl | rfl <;> rfl
        have i1 : hI h3 (122 + 7 * c) = hI h2 (122 + 7 * c) := f3.i (by rw [gg.1]; omega) (by rw [gg.1]; exact gg.2.2.2 (Or.inl rfl))
        have i2 : hI h3 (128 + 7 * c) = hI h2 (128 + 7 * c) := f3.i (by rw [gg.2.1]; omega) (by rw [gg.2.1]; exact gg.2.2.2 (Or.inl rfl))
        refine ⟨by rw [i1, bc.1]; exact bI_eq ⟨Or.inr, fun z => z.resolve_left e⟩, fun z => ?_⟩
        have z := z.resolve_left e
        unfold swp
        rw [if_neg e, i2]
        exact ⟨f3.sp (bc.2 z).1 gg.2.2.1 (by omega) (gg.2.2.2 (Or.inr rfl)), (bc.2 z).2⟩
    · unfold CV
      rw [f3.i (k := 1) (by decide) (nl (by decide) (by decide) (by decide) (by decide))]
      exact v2.imp id (fun ⟨a, d⟩ => ⟨a, d.fx (Or.inl rfl) f3 (by decide) (nl (by decide) (by decide) (by decide) (by decide))⟩)
  · exact h0 q
theorem sC_back {x : Int32} (r : CR h tp tn ft fp ρ pa an un sm sc sn bx bk) (h0 : ¬ (∃ b, b < 2 ∧ x = nI b ∧ bk b) → K (some (vI (-1))) h) (h1 : ∀ b, b < 2 → x = nI b → bk b → ∀ h', FC h h' → CR h' tp tn ft fp (bx b) pa 0 0 sm sc 0 bx bk → K (some (vI (nI (pcn (bx b))))) h') : Spec G l (mt mC_back) [vR 1, vI x] h K := by
  obtain ⟨sl, r⟩ := r
  have so := r.so
  have no : ¬ (∃ b, b < 2 ∧ x = nI b ∧ bk b) → Go G l (mt mC_back) 19 [some (vR 1), some (vI x)] [] h 0 0 K := by
    intro q
    refine gC_back 39 [] fun S Cu hS hC => ?_
    exact h0 q
  refine eC_back 99 [(19, 2)] fun S Cu hS hC => ?_
  refine hS _ _ _ _ (sC_isBox ?_)
  refine brE (fun q => ?_) (fun q => ?_)
  · exact hC _ _ _ _ (no (fun ⟨b, a, e, _⟩ => q ⟨b, a, e⟩))
  obtain ⟨b, hb, ex⟩ := q
  subst ex
  have bh := box_bh hb
  have bb := r.1.2.2.2.2 b hb
  refine ld 118 r.ob (r.cs.rf (k := 1) (j := 9) rfl rfl) ?_
  refine ld (122 + 7 * b) (r.cs.inA (k := 118) (t := 4) (n := 2) (j := b) rfl rfl rfl rfl hb rfl) (by rw [ix_nI (by omega)]; exact r.cs.bx hb) ?_
  refine ld _ (bh.ob r.cs) bb.1 ?_
  refine brN (fun q2 => ?_) (fun q2 => ?_)
  · obtain ⟨p1, g1, _⟩ := bb.2 q2
    refine ld (sl 0) r.ob r.now ?_
    refine ld 118 r.ob (r.cs.rf (k := 1) (j := 9) rfl rfl) ?_
    refine ld (122 + 7 * b) (r.cs.inA (k := 118) (t := 4) (n := 2) (j := b) rfl rfl rfl rfl hb rfl) (by rw [ix_nI (by omega)]; exact r.cs.bx hb) ?_
    refine ld (122 + 7 * b + 1) (bh.ob r.cs) (bh.r1 r.cs) ?_
    have y : SC h (122 + 7 * b + 1) (bx b) := ⟨r.cs, bh.sh, by rw [show 122 + 7 * b + 1 = 123 + 7 * b by omega]; exact p1, g1⟩
    have kn : sl 0 ≠ 122 + 7 * b + 1 := fun z => by
      have := so.1 0 (by decide); rw [z] at this
      have : b = 0 ∨ b = 1 := by omega
      rcases this with rfl | rfl <;> cases this
    refine And.intro r.x.ob (hS _ _ _ _ (sS_copy r.cs r.x.2.1 y kn fun h2 f2 p2 => ?_))
    have b2 := r.1.mut f2 rfl p2 g1
    refine And.intro (b2.1.2.1.ob (k := 1) (ci := 9) rfl rfl rfl) (hS _ _ _ _ (sC_startAnew b2.1.1 b2.1.2 b2.2.1 b2.2.2.1 b2.2.2.2.1 b2.2.2.2.2 fun h3 f3 z3 => ?_))
    have r3 := z3.o
    refine ld (sl 0) r3.ob r3.now ?_
    refine ld _ r3.x.ob r3.x.2.2.1.1.2.2.1 ?_
    exact h1 b hb rfl q2 h3 ((f2.mz r.x.2.1 rfl).tr (f3.m9 rfl)) r3.r
  · exact hC _ _ _ _ (no (fun ⟨b', a, e, c⟩ => q2 (by rw [(nI_eq (by omega) (by omega)).mp e]; exact c)))
theorem sC_against {x w : Int32} (r : CR h tp tn ft fp ρ pa an un sm sc sn bx bk) (hK : ∀ h', FC h h' → CR h' tp tn ft fp ρ pa an un sm sc sn bx bk → K (some (vI (aAgainst ρ bx bk x w))) h') : Spec G l (mt mC_against) [vR 1, vI x, vI w] h K := by
  obtain ⟨sl, r⟩ := r
  have so := r.so
  have hK0 := hK h FC.rf r.r
  unfold aAgainst at hK hK0
  have no : ¬ (inN x 2 ∧ bk (ix x) ∧ pcw (bx (ix x)) = pcw ρ ∧ pch (bx (ix x)) = pch ρ) → Go G l (mt mC_against) 38 [some (vR 1), some (vI x), some (vI w)] [] h 0 0 K := by
    intro q
    refine gC_against 39 [] fun S Cu hS hC => ?_
    exact rtC (K := K) q hK0
  refine eC_against 99 [(38, 3)] fun S Cu hS hC => ?_
  refine hS _ _ _ _ (sC_isBox ?_)
  refine brE (fun q => ?_) (fun q => ?_)
  · exact hC _ _ _ _ (no (fun z => q z.1))
  have qq := q
  obtain ⟨b, hb, ex⟩ := q
  subst ex
  rw [ix_nI (by omega)] at hK hK0 no
  have bh := box_bh hb
  have bb := r.1.2.2.2.2 b hb
  have lb : ∀ {h' : AH}, CS h' → hR h' 1 9 = 118 := fun c => c.rf (k := 1) (j := 9) rfl rfl
  have li : ∀ {h' : AH}, CS h' → InA h' 118 4 (nI b) := fun c => c.inA (k := 118) (t := 4) (n := 2) (j := b) rfl rfl rfl rfl hb rfl
  have lr : ∀ {h' : AH}, CS h' → hR h' 118 (ix (nI b)) = 122 + 7 * b := fun c => by rw [ix_nI (by omega)]; exact c.bx hb
  refine ld 118 r.ob (lb r.cs) ?_
  refine ld (122 + 7 * b) (li r.cs) (lr r.cs) ?_
  refine ld _ (bh.ob r.cs) bb.1 ?_
  refine brE (fun q2 => ?_) (fun q2 => ?_)
  · exact hC _ _ _ _ (no (fun z => q2 z.2.1))
  obtain ⟨p1, g1, o1⟩ := bb.2 q2
  have sy : ∀ {h' : AH}, CRs h' sl tp tn ft fp ρ pa an un sm sc sn bx bk → SC h' (122 + 7 * b + 1) (bx b) := fun {h'} r' => ⟨r'.cs, bh.sh, by rw [show 122 + 7 * b + 1 = 123 + 7 * b by omega]; exact ((r'.1.2.2.2.2 b hb).2 q2).1, g1⟩
  refine ld 118 r.ob (lb r.cs) ?_
  refine ld (122 + 7 * b) (li r.cs) (lr r.cs) ?_
  refine ld (122 + 7 * b + 1) (bh.ob r.cs) (bh.r1 r.cs) ?_
  refine ld (sl 0) r.ob r.now ?_
  refine And.intro ((sy r).ob) (hS _ _ _ _ (sS_isAsLargeAs (sy r) r.x ?_))
  refine brN (fun q3 => ?_) (fun q3 => ?_)
  · have ec : pcc (bx b) = pcc ρ := by unfold pcc; rw [q3.1, q3.2]
    rw [cif_T ⟨qq, q2, q3⟩] at hK hK0
    refine And.intro (fun e => ?_) (fun n0 => And.intro (fun e => ?_) (fun n1 => And.intro (fun e => ?_) (fun n2 => ?_)))
    · refine ld 118 r.ob (lb r.cs) ?_
      refine ld (122 + 7 * b) (li r.cs) (lr r.cs) ?_
      refine ld (sl 0) r.ob r.now ?_
      refine And.intro r.ob (hS _ _ _ _ (sC_upToDate r fun h2 f2 r2 d2 => ?_))
      have := hK h2 (f2.m9 rfl) r2.r
      rw [sel_in (i := 0) e (by decide) rfl] at this
      refine And.intro (bh.ob r2.cs) (hS _ _ _ _ (sB_otherOwners bh r2.x (Or.inl rfl) d2.1 g1 ec (fun c hc => ?_) this))
      rw [show 122 + 7 * b + 6 = 128 + 7 * b by omega]
      exact ((r2.1.2.2.2.2 b hb).2 q2).2.2 c hc
    · rw [sel_in (i := 1) e (by decide) rfl] at hK0
      refine ld 118 r.ob (lb r.cs) ?_
      refine ld (122 + 7 * b) (li r.cs) (lr r.cs) ?_
      refine ld (sl 0) r.ob r.now ?_
      exact And.intro (bh.ob r.cs) (hS _ _ _ _ (sB_otherWeights bh r.x (sy r) ec hK0))
    · rw [sel_in (i := 2) e (by decide) rfl] at hK0
      refine ld 118 r.ob (lb r.cs) ?_
      refine ld (122 + 7 * b) (li r.cs) (lr r.cs) ?_
      refine ld (sl 0) r.ob r.now ?_
      exact And.intro (bh.ob r.cs) (hS _ _ _ _ (sB_otherDots bh r.x (sy r) hK0))
    · rw [sel_out (fun i hi => match i, hi with | 0, _ => n0 | 1, _ => n1 | 2, _ => n2)] at hK0
      exact hK0
  · exact hC _ _ _ _ (no (fun z => q3 z.2.2))
theorem sC_steps {x w : Int32} (r : CR h tp tn ft fp ρ pa an un sm sc sn bx bk) (hK : K (some (vI (aSteps sm sc sn x w))) h) : Spec G l (mt mC_steps) [vR 1, vI x, vI w] h K := by
  obtain ⟨sl, r⟩ := r
  have ck := r.1.2.2.2.1
  obtain ⟨o, ho, e2, e3, l20, al⟩ := ck
  have r86 := r.cs.rf (k := 1) (j := 5) rfl rfl
  have o8 := r.cs.ob (k := 86) (ci := 8) rfl rfl rfl
  unfold aSteps at hK
  have i1 := inN_iff (x := x) (n := sn) (by omega)
  have no : ¬ x = -1 → ¬ inN x sn → Go G l (mt mC_steps) 28 [some (vR 1), some (vI x), some (vI w)] [] h 0 0 K := by
    intro q q2
    refine gC_steps 39 [] fun S Cu hS hC => ?_
    rw [cif_F q, cif_F q2] at hK
    exact hK
  refine eC_steps 39 [(28, 3)] fun S Cu hS hC => ?_
  refine And.intro (fun q => ?_) (fun q => ?_)
  · refine And.intro (fun q2 => ?_) (fun q2 => ?_)
    · exact hC _ _ _ _ (no q (fun z => absurd (i1.mp z).1 (Int32.not_le.mpr q2)))
    refine ld 86 r.ob r86 ?_
    refine ld _ o8 e3 ?_
    refine And.intro (fun q3 => ?_) (fun q3 => ?_)
    · have inx := i1.mpr ⟨Int32.not_lt.mp q2, q3⟩
      rw [cif_F q, cif_T inx] at hK
      obtain ⟨i, hi, ex⟩ := inx
      subst ex
      rw [ix_nI (by omega)] at hK
      refine And.intro (fun e => ?_) (fun n0 => And.intro (fun e => ?_) (fun n1 => ?_))
      · rw [sel_in (i := 0) e (by decide) rfl] at hK
        refine ld 86 r.ob r86 ?_
        exact And.intro o8 (hS _ _ _ _ (sT_movedAt r.cs r.1.2.2.2.1 rfl hi hK))
      · rw [sel_in (i := 1) e (by decide) rfl] at hK
        refine ld 86 r.ob r86 ?_
        exact And.intro o8 (hS _ _ _ _ (sT_costAt r.cs r.1.2.2.2.1 rfl hi hK))
      · rw [sel_out (fun i hi => match i, hi with | 0, _ => n0 | 1, _ => n1)] at hK
        exact hK
    · exact hC _ _ _ _ (no q (fun z => absurd (i1.mp z).2 q3))
  · rw [cif_T q] at hK
    exact ld 86 r.ob r86 (ld _ o8 e3 hK)
end CC
