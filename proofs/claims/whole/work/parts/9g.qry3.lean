/-! ===== the class: prices, couples, shades, rounds ahead ===== -/
section CC
variable {G : GP} {l : Launch} {K : Option AV → AH → Prop} {h : AH} {ρ : Pic}
variable {sl : Nat → Nat} {tp : Nat → Nat} {tn : Nat} {ft fp : Int32} {pa : Nat → Pic} {an un : Nat} {sm sc : Nat → Int32} {sn : Nat} {bx : Nat → Pic} {bk : Nat → Prop}
theorem CRs.ahd {h' : AH} (r : CRs h sl tp tn ft fp ρ pa an un sm sc sn bx bk) (f : FX 999 [89, 90, 95, 100] h h') (a : CA h' ρ) : CRs h' sl tp tn ft fp ρ pa an un sm sc sn bx bk := by
  refine ⟨r.1.fx f rfl, ?_, a⟩
  unfold CV
  rw [f.i (k := 1) (by decide) rfl]
  exact r.2.1.imp id (fun ⟨a, d⟩ => ⟨a, d.fx (Or.inl rfl) f (by decide) rfl⟩)
theorem sC_best {x w : Int32} (r : CR h tp tn ft fp ρ pa an un sm sc sn bx bk) (hK : ∀ h', FC h h' → CR h' tp tn ft fp ρ pa an un sm sc sn bx bk → K (some (vI (aBest ρ x w))) h') : Spec G l (mt mC_best) [vR 1, vI x, vI w] h K := by
  obtain ⟨sl, r⟩ := r
  have g := r.x.2.2.2.n
  have gc := r.x.2.2.2.c
  have hK0 := hK h FC.rf r.r
  unfold aBest at hK hK0
  have iw := inN_iff (x := w) (n := 2) (by decide)
  have no : ¬ (inN x (pcn ρ) ∧ inN w 2) → Go G l (mt mC_best) 20 [some (vR 1), some (vI x), some (vI w)] [] h 0 0 K := by
    intro q
    refine gC_best 39 [] fun S Cu hS hC => ?_
    by_cases c : inN x (pcn ρ)
    · rw [cif_T c, sel_out (l := [_, _]) (fun i hi y => q ⟨c, i, hi, y⟩)] at hK0; exact hK0
    · exact rtC (K := K) c hK0
  refine eC_best 99 [(20, 3)] fun S Cu hS hC => ?_
  refine ld (sl 0) r.ob r.now ?_
  refine And.intro (r.x.ob) (hS _ _ _ _ (sS_has r.x ?_))
  refine brE (fun q => ?_) (fun q => ?_)
  · exact hC _ _ _ _ (no (fun z => q z.1))
  refine And.intro (fun q2 => ?_) (fun q2 => ?_)
  · exact hC _ _ _ _ (no (fun z => absurd (iw.mp z.2).1 (Int32.not_le.mpr q2)))
  obtain ⟨v, hv, ew⟩ := nI_of q2
  subst ew
  refine pk_le v 1 (fun q3 => ?_) (fun q3 => ?_)
  · rw [cif_T q] at hK
    obtain ⟨d, hd, ex⟩ := q
    subst ex
    rw [ix_nI (by omega)] at hK
    have ha : nI d = -1 ∨ ∃ e, e < pcn ρ ∧ nI d = nI e := Or.inr ⟨d, hd, rfl⟩
    refine ld 110 r.ob (r.cs.rf (k := 1) (j := 7) rfl rfl) ?_
    refine ld (sl 0) r.ob r.now ?_
    refine And.intro r.ob (hS _ _ _ _ (sC_upToDate r fun h2 f2 r2 d2 => ?_))
    refine And.intro (r2.cs.ob (k := 110) (ci := 5) rfl rfl rfl) (hS _ _ _ _ (sQ_leaveOut r2.x (Or.inl rfl) d2 ha fun h3 f3 s3 => ?_))
    have g3 : FX 999 [110] h2 h3 := f3.x (Or.inr rfl)
    have r3 := r2.scr g3 rfl
    refine ld 110 r3.ob (r3.cs.rf (k := 1) (j := 7) rfl rfl) ?_
    refine ld (sl 0) r3.ob r3.now ?_
    refine And.intro (r3.cs.ob (k := 110) (ci := 5) rfl rfl rfl) (hS _ _ _ _ (sQ_findCheapest r3.x s3 (rsA_lt r.x.2.2.2 ha) fun h4 f4 a4 b4 => ?_))
    have g4 : FX 999 [110] h3 h4 := f4.x (Or.inr rfl)
    have r4 := r3.scr g4 rfl
    have hK := hK h4 (((f2.m9 rfl).tr (g3.m9 rfl)).tr (g4.m9 rfl)) r4.r
    have ea : argm (cmS ρ (rsA ρ (nI d))) (pcc ρ) = argm (cmv ρ (owB ρ d)) (pcc ρ) := argm_cg fun i hi => cm_best r.x.2.2.2 hd hi
    have al := argm_lt (f := cmv ρ (owB ρ d)) (show 0 < pcc ρ by omega)
    rw [ea] at a4 b4
    rw [cm_best r.x.2.2.2 hd al] at b4
    refine And.intro (fun y => ?_) (fun y => ?_)
    · have : v = 1 := by
        have : ¬ v = 0 := fun z => y (by rw [z]; rfl)
        omega
      subst this
      rw [sel_in (i := 1) rfl (by decide) rfl] at hK
      refine ld 110 r4.ob (r4.cs.rf (k := 1) (j := 7) rfl rfl) ?_
      exact ld _ (r4.cs.ob (k := 110) (ci := 5) rfl rfl rfl) b4 hK
    · rw [sel_in (i := 0) y (by decide) rfl] at hK
      refine ld 110 r4.ob (r4.cs.rf (k := 1) (j := 7) rfl rfl) ?_
      exact ld _ (r4.cs.ob (k := 110) (ci := 5) rfl rfl rfl) a4 hK
  · refine hC _ _ _ _ (no (fun ⟨_, m, hm, e⟩ => ?_))
    have := (nI_eq hv (by omega)).mp e
    omega
theorem sC_more {w : Int32} (r : CR h tp tn ft fp ρ pa an un sm sc sn bx bk) (hK : ∀ h', FC h h' → CR h' tp tn ft fp ρ pa an un sm sc sn bx bk → K (some (vI (aMore ρ w))) h') : Spec G l (mt mC_more) [vR 1, vI w] h K := by
  obtain ⟨sl, r⟩ := r
  have g := r.x.2.2.2.n
  have gc := r.x.2.2.2.c
  have hK0 := hK h FC.rf r.r
  unfold aMore at hK hK0
  have iw := inN_iff (x := w) (n := 2) (by decide)
  have no : ¬ (0 < pcn ρ ∧ inN w 2) → Go G l (mt mC_more) 19 [some (vR 1), some (vI w)] [] h 0 0 K := by
    intro q
    refine gC_more 39 [] fun S Cu hS hC => ?_
    by_cases c : 0 < pcn ρ
    · rw [cif_T c, sel_out (l := [_, _]) (fun i hi y => q ⟨c, i, hi, y⟩)] at hK0; exact hK0
    · exact rtC (K := K) c hK0
  refine eC_more 99 [(19, 2)] fun S Cu hS hC => ?_
  refine ld (sl 0) r.ob r.now ?_
  refine ld _ r.x.ob r.x.2.2.1.1.2.2.1 ?_
  refine pk_eq (pcn ρ) 0 (fun q => ?_) (fun q => ?_)
  · exact hC _ _ _ _ (no (fun z => by omega))
  have c0 : 0 < pcn ρ := by omega
  refine And.intro (fun q2 => ?_) (fun q2 => ?_)
  · exact hC _ _ _ _ (no (fun z => absurd (iw.mp z.2).1 (Int32.not_le.mpr q2)))
  obtain ⟨v, hv, ew⟩ := nI_of q2
  subst ew
  refine pk_le v 1 (fun q3 => ?_) (fun q3 => ?_)
  · rw [cif_T c0] at hK
    have ha : (-1 : Int32) = -1 ∨ ∃ e, e < pcn ρ ∧ (-1 : Int32) = nI e := Or.inl rfl
    refine ld 110 r.ob (r.cs.rf (k := 1) (j := 7) rfl rfl) ?_
    refine ld (sl 0) r.ob r.now ?_
    refine And.intro r.ob (hS _ _ _ _ (sC_upToDate r fun h2 f2 r2 d2 => ?_))
    refine And.intro (r2.cs.ob (k := 110) (ci := 5) rfl rfl rfl) (hS _ _ _ _ (sQ_leaveOut r2.x (Or.inl rfl) d2 ha fun h3 f3 s3 => ?_))
    have g3 : FX 999 [110] h2 h3 := f3.x (Or.inr rfl)
    have r3 := r2.scr g3 rfl
    refine ld 110 r3.ob (r3.cs.rf (k := 1) (j := 7) rfl rfl) ?_
    refine ld (sl 0) r3.ob r3.now ?_
    refine And.intro (r3.cs.ob (k := 110) (ci := 5) rfl rfl rfl) (hS _ _ _ _ (sQ_findCheapest r3.x s3 (rsA_lt r.x.2.2.2 ha) fun h4 f4 a4 b4 => ?_))
    have g4 : FX 999 [110] h3 h4 := f4.x (Or.inr rfl)
    have r4 := r3.scr g4 rfl
    have hK := hK h4 (((f2.m9 rfl).tr (g3.m9 rfl)).tr (g4.m9 rfl)) r4.r
    rw [cm_more c0] at a4 b4
    refine And.intro (fun y => ?_) (fun y => ?_)
    · have : v = 1 := by
        have : ¬ v = 0 := fun z => y (by rw [z]; rfl)
        omega
      subst this
      rw [sel_in (i := 1) rfl (by decide) rfl] at hK
      refine ld 110 r4.ob (r4.cs.rf (k := 1) (j := 7) rfl rfl) ?_
      exact ld _ (r4.cs.ob (k := 110) (ci := 5) rfl rfl rfl) b4 hK
    · rw [sel_in (i := 0) y (by decide) rfl] at hK
      refine ld 110 r4.ob (r4.cs.rf (k := 1) (j := 7) rfl rfl) ?_
      exact ld _ (r4.cs.ob (k := 110) (ci := 5) rfl rfl rfl) a4 hK
  · refine hC _ _ _ _ (no (fun ⟨_, m, hm, e⟩ => ?_))
    have := (nI_eq hv (by omega)).mp e
    omega
theorem sC_loss {x : Int32} (r : CR h tp tn ft fp ρ pa an un sm sc sn bx bk) (hK : ∀ h', FC h h' → CR h' tp tn ft fp ρ pa an un sm sc sn bx bk → K (some (vI (aLoss ρ x))) h') : Spec G l (mt mC_loss) [vR 1, vI x] h K := by
  obtain ⟨sl, r⟩ := r
  have g := r.x.2.2.2.n
  have hK0 := hK h FC.rf r.r
  unfold aLoss at hK hK0
  have no : ¬ (inN x (pcn ρ) ∧ 1 < pcn ρ) → Go G l (mt mC_loss) 22 [some (vR 1), some (vI x)] [] h 0 0 K := by
    intro q
    refine gC_loss 39 [] fun S Cu hS hC => ?_
    exact rtC (K := K) q hK0
  refine eC_loss 99 [(22, 2)] fun S Cu hS hC => ?_
  refine ld (sl 0) r.ob r.now ?_
  refine And.intro (r.x.ob) (hS _ _ _ _ (sS_has r.x ?_))
  refine brE (fun q => ?_) (fun q => ?_)
  · exact hC _ _ _ _ (no (fun z => q z.1))
  refine ld (sl 0) r.ob r.now ?_
  refine ld _ r.x.ob r.x.2.2.1.1.2.2.1 ?_
  refine pk_le 2 (pcn ρ) (fun q2 => ?_) (fun q2 => ?_)
  · rw [cif_T ⟨q, by omega⟩] at hK
    obtain ⟨d, hd, ex⟩ := q
    subst ex
    rw [ix_nI (by omega)] at hK
    refine ld 110 r.ob (r.cs.rf (k := 1) (j := 7) rfl rfl) ?_
    refine ld (sl 0) r.ob r.now ?_
    refine And.intro r.ob (hS _ _ _ _ (sC_upToDate r fun h2 f2 r2 d2 => ?_))
    refine And.intro (r2.cs.ob (k := 110) (ci := 5) rfl rfl rfl) (hS _ _ _ _ (sQ_leaveOut r2.x (Or.inl rfl) d2 (Or.inr ⟨d, hd, rfl⟩) fun h3 f3 s3 => ?_))
    have g3 : FX 999 [110] h2 h3 := f3.x (Or.inr rfl)
    have r3 := r2.scr g3 rfl
    have d3 : FDR h3 7 ρ := d2.fx (Or.inl rfl) g3 (by decide) rfl
    refine ld 110 r3.ob (r3.cs.rf (k := 1) (j := 7) rfl rfl) ?_
    refine ld (sl 0) r3.ob r3.now ?_
    refine And.intro (r3.cs.ob (k := 110) (ci := 5) rfl rfl rfl) (hS _ _ _ _ (sQ_sum r3.x s3 ?_))
    refine ld 7 r3.ob (r3.cs.rf (k := 1) (j := 1) rfl rfl) ?_
    refine ld (nI (tot ρ)) (r3.cs.fob (Or.inl rfl)) d3.2.2.2 ?_
    refine rtI (K := K) ?_ (hK h3 ((f2.m9 rfl).tr (g3.m9 rfl)) r3.r)
    rw [sum_loss r.x.2.2.2 hd (by omega)]; rfl
  · exact hC _ _ _ _ (no (fun z => by omega))
theorem sC_idle (r : CR h tp tn ft fp ρ pa an un sm sc sn bx bk) (hK : ∀ h', FC h h' → CR h' tp tn ft fp ρ pa an un sm sc sn bx bk → K (some (vI (aIdle ρ))) h') : Spec G l (mt mC_idle) [vR 1] h K := by
  obtain ⟨sl, r⟩ := r
  have g := r.x.2.2.2.n
  have gd := r.x.2.2.2
  unfold aIdle at hK
  refine eC_idle 99 [(21, 4)] fun S Cu hS hC => ?_
  refine ld (sl 0) r.ob r.now ?_
  refine ld _ r.x.ob r.x.2.2.1.1.2.2.1 ?_
  refine pk_le 2 (pcn ρ) (fun q => ?_) (fun q => ?_)
  · rw [cif_T (by omega)] at hK
    have lp : ∀ k, k ≤ pcn ρ → ∀ h1, FC h h1 → CRs h1 sl tp tn ft fp ρ pa an un sm sc sn bx bk → ∀ fo le v z4, ((k = 0 ∧ fo = nI 0 ∧ le = nI 2147483647) ∨ (0 < k ∧ fo = nI (argm (costX ρ) k) ∧ le = nI (costX ρ (argm (costX ρ) k)))) → v = nI k → Go G l (mt mC_idle) 21 [some (vR 1), some (vI fo), some (vI le), some (vI v), z4] [] h1 0 0 K := by
      refine upto _ ?_
      intro k hk ih h1 fc r1 fo le v z4 ho hv
      subst hv
      refine gC_idle 99 [(21, 4)] fun S Cu hS hC => ?_
      refine ld (sl 0) r1.ob r1.now ?_
      refine ld _ r1.x.ob r1.x.2.2.1.1.2.2.1 ?_
      refine pk_le (pcn ρ) k (fun z => ?_) (fun z => ?_)
      · obtain rfl : k = pcn ρ := by omega
        rcases ho with ⟨e, _⟩ | ⟨_, e, _⟩
        · omega
        · subst e; exact hK h1 fc r1.r
      have cl := costX_le gd k
      refine ld 110 r1.ob (r1.cs.rf (k := 1) (j := 7) rfl rfl) ?_
      refine ld (sl 0) r1.ob r1.now ?_
      refine And.intro r1.ob (hS _ _ _ _ (sC_upToDate r1 fun h2 f2 r2 d2 => ?_))
      refine And.intro (r2.cs.ob (k := 110) (ci := 5) rfl rfl rfl) (hS _ _ _ _ (sQ_leaveOut r2.x (Or.inl rfl) d2 (Or.inr ⟨k, z, rfl⟩) fun h3 f3 s3 => ?_))
      have g3 : FX 999 [110] h2 h3 := f3.x (Or.inr rfl)
      have r3 := r2.scr g3 rfl
      refine ld 110 r3.ob (r3.cs.rf (k := 1) (j := 7) rfl rfl) ?_
      refine ld (sl 0) r3.ob r3.now ?_
      refine And.intro (r3.cs.ob (k := 110) (ci := 5) rfl rfl rfl) (hS _ _ _ _ (sQ_sum r3.x s3 ?_))
      rw [sum_loss gd z (by omega)]
      have fc3 := (fc.tr (f2.m9 rfl)).tr (g3.m9 rfl)
      have eB : ∃ B, le = nI B ∧ B < 2 ^ 31 ∧ ((k = 0 ∧ B = 2147483647) ∨ (0 < k ∧ B = costX ρ (argm (costX ρ) k))) := by
        rcases ho with ⟨e, _, e2⟩ | ⟨e, _, e2⟩
        · exact ⟨_, e2, by omega, Or.inl ⟨e, rfl⟩⟩
        · have := costX_le gd (argm (costX ρ) k)
          exact ⟨_, e2, by omega, Or.inr ⟨e, rfl⟩⟩
      obtain ⟨B, eB, B31, bB⟩ := eB
      refine pk_le B (costX ρ k) (fun y => ?_) (fun y => ?_) eB rfl
      · refine hC _ _ _ _ (ih z h3 fc3 r3 _ _ _ _ (Or.inr ?_) (nI_1 k))
        rcases ho with ⟨e, _, e2⟩ | ⟨e, e1, e2⟩
        · rcases bB with ⟨_, b⟩ | ⟨b, _⟩ <;> omega
        · rcases bB with ⟨b, _⟩ | ⟨_, b⟩
          · omega
          · have : argm (costX ρ) (k + 1) = argm (costX ρ) k := if_neg (by omega)
            rw [this]; exact ⟨by omega, e1, e2⟩
      · refine hC _ _ _ _ (ih z h3 fc3 r3 _ _ _ _ (Or.inr ?_) (nI_1 k))
        have : argm (costX ρ) (k + 1) = k := by
          rcases bB with ⟨b, _⟩ | ⟨_, b⟩
          · rw [b]; exact argm_1
          · exact if_pos (by omega)
        rw [this]; exact ⟨by omega, rfl, rfl⟩
    exact hC _ _ _ _ (lp 0 (Nat.zero_le _) h FC.rf r _ _ _ _ (Or.inl ⟨rfl, rfl, rfl⟩) rfl)
  · exact rtC (K := K) (by omega) (hK h FC.rf r.r)
theorem sC_edge {x w : Int32} (r : CR h tp tn ft fp ρ pa an un sm sc sn bx bk) (hK : ∀ h', FC h h' → CR h' tp tn ft fp ρ pa an un sm sc sn bx bk → K (some (vI (aEdge ρ x w))) h') : Spec G l (mt mC_edge) [vR 1, vI x, vI w] h K := by
  obtain ⟨sl, r⟩ := r
  have g := r.x.2.2.2.n
  have hK0 := hK h FC.rf r.r
  unfold aEdge at hK hK0
  refine eC_edge 99 [] fun S Cu hS hC => ?_
  refine ld (sl 0) r.ob r.now ?_
  refine And.intro (r.x.ob) (hS _ _ _ _ (sS_has r.x ?_))
  refine brN (fun q => ?_) (fun q => ?_)
  · rw [cif_T q] at hK hK0
    obtain ⟨d, hd, ex⟩ := q
    subst ex
    rw [ix_nI (by omega)] at hK hK0
    refine And.intro (fun e => ?_) (fun n0 => And.intro (fun e => ?_) (fun n1 => And.intro (fun e => ?_) (fun n2 => ?_)))
    · refine And.intro r.ob (hS _ _ _ _ (sC_upToDate r fun h2 f2 r2 d2 => ?_))
      have := hK h2 (f2.m9 rfl) r2.r
      rw [sel_in (i := 0) e (by decide) rfl] at this
      refine ld (sl 0) r2.ob r2.now ?_
      exact And.intro (r2.cs.fob (Or.inl rfl)) (hS _ _ _ _ (sF_farthestOf r2.x (Or.inl rfl) d2.1 rfl hd this))
    · refine ld 112 r.ob (r.cs.rf (k := 1) (j := 8) rfl rfl) ?_
      refine ld (sl 0) r.ob r.now ?_
      refine And.intro r.ob (hS _ _ _ _ (sC_upToDate r fun h2 f2 r2 d2 => ?_))
      refine And.intro (r2.cs.ob (k := 112) (ci := 3) rfl rfl rfl) (hS _ _ _ _ (sK_countCouples r2.x (Or.inl rfl) d2.1 fun h3 f3 c3 => ?_))
      have g3 : FX 999 [112] h2 h3 := f3.x (Or.inr rfl)
      have r3 := r2.scr g3 rfl
      have := hK h3 ((f2.m9 rfl).tr (g3.m9 rfl)) r3.r
      rw [sel_in (i := 1) e (by decide) rfl] at this
      refine ld 112 r3.ob (r3.cs.rf (k := 1) (j := 8) rfl rfl) ?_
      refine ld (sl 0) r3.ob r3.now ?_
      refine ld _ r3.x.ob r3.x.2.2.1.1.2.2.1 ?_
      refine And.intro (r3.cs.ob (k := 112) (ci := 3) rfl rfl rfl) (hS _ _ _ _ (sK_couplesOf r3.cs c3 rfl rfl (by omega) (by omega) ?_))
      refine rtI (K := K) (congrArg nI ?_) this
      exact sumN_congr fun b _ => wN_eq ⟨fun z y => z y.symm, fun z y => z y.symm⟩
    · refine And.intro r.ob (hS _ _ _ _ (sC_upToDate r fun h2 f2 r2 d2 => ?_))
      have := hK h2 (f2.m9 rfl) r2.r
      rw [sel_in (i := 2) e (by decide) rfl] at this
      refine ld (sl 0) r2.ob r2.now ?_
      exact And.intro (r2.cs.fob (Or.inl rfl)) (hS _ _ _ _ (sF_cellsAtEdge r2.x (Or.inl rfl) d2.1 rfl hd this))
    · rw [sel_out (fun i hi => match i, hi with | 0, _ => n0 | 1, _ => n1 | 2, _ => n2)] at hK0
      exact hK0
  · exact rtC (K := K) q hK0
theorem sC_touch {x y : Int32} (r : CR h tp tn ft fp ρ pa an un sm sc sn bx bk) (hK : ∀ h', FC h h' → CR h' tp tn ft fp ρ pa an un sm sc sn bx bk → K (some (vI (aTouch ρ x y))) h') : Spec G l (mt mC_touch) [vR 1, vI x, vI y] h K := by
  obtain ⟨sl, r⟩ := r
  have g := r.x.2.2.2.n
  have hK0 := hK h FC.rf r.r
  unfold aTouch at hK hK0
  have no : ¬ (inN x (pcn ρ) ∧ inN y (pcn ρ) ∧ ¬ x = y) → Go G l (mt mC_touch) 27 [some (vR 1), some (vI x), some (vI y)] [] h 0 0 K := by
    intro q
    refine gC_touch 39 [] fun S Cu hS hC => ?_
    exact rtC (K := K) q hK0
  refine eC_touch 99 [(27, 3)] fun S Cu hS hC => ?_
  refine ld (sl 0) r.ob r.now ?_
  refine And.intro (r.x.ob) (hS _ _ _ _ (sS_has r.x ?_))
  refine brE (fun q => ?_) (fun q => ?_)
  · exact hC _ _ _ _ (no (fun z => q z.1))
  refine ld (sl 0) r.ob r.now ?_
  refine And.intro (r.x.ob) (hS _ _ _ _ (sS_has r.x ?_))
  refine brE (fun q2 => ?_) (fun q2 => ?_)
  · exact hC _ _ _ _ (no (fun z => q2 z.2.1))
  refine And.intro (fun q3 => ?_) (fun q3 => ?_)
  · rw [cif_T ⟨q, q2, q3⟩] at hK
    obtain ⟨d, hd, ex⟩ := q
    obtain ⟨e, he, ey⟩ := q2
    subst ex; subst ey
    rw [ix_nI (by omega), ix_nI (by omega)] at hK
    refine ld 112 r.ob (r.cs.rf (k := 1) (j := 8) rfl rfl) ?_
    refine ld (sl 0) r.ob r.now ?_
    refine And.intro r.ob (hS _ _ _ _ (sC_upToDate r fun h2 f2 r2 d2 => ?_))
    refine And.intro (r2.cs.ob (k := 112) (ci := 3) rfl rfl rfl) (hS _ _ _ _ (sK_countCouples r2.x (Or.inl rfl) d2.1 fun h3 f3 c3 => ?_))
    have g3 : FX 999 [112] h2 h3 := f3.x (Or.inr rfl)
    have r3 := r2.scr g3 rfl
    have := hK h3 ((f2.m9 rfl).tr (g3.m9 rfl)) r3.r
    refine ld 112 r3.ob (r3.cs.rf (k := 1) (j := 8) rfl rfl) ?_
    refine And.intro (r3.cs.ob (k := 112) (ci := 3) rfl rfl rfl) (hS _ _ _ _ (sK_couplesOfTwo r3.cs c3 rfl rfl (by omega) (by omega) ?_))
    refine rtI (K := K) (congrArg nI ?_) this
    exact wN_T (fun z => q3 (by rw [z]))
  · exact hC _ _ _ _ (no (fun z => z.2.2 q3))
theorem sC_way {x y : Int32} (r : CR h tp tn ft fp ρ pa an un sm sc sn bx bk) (hK : ∀ h', FC h h' → CR h' tp tn ft fp ρ pa an un sm sc sn bx bk → K (some (vI (aWay ρ x y))) h') : Spec G l (mt mC_way) [vR 1, vI x, vI y] h K := by
  obtain ⟨sl, r⟩ := r
  have g := r.x.2.2.2.n
  have hK0 := hK h FC.rf r.r
  unfold aWay at hK hK0
  have no : ¬ (inN x (pcn ρ) ∧ inN y (pcn ρ)) → Go G l (mt mC_way) 22 [some (vR 1), some (vI x), some (vI y)] [] h 0 0 K := by
    intro q
    refine gC_way 39 [] fun S Cu hS hC => ?_
    exact rtC (K := K) q hK0
  refine eC_way 99 [(22, 3)] fun S Cu hS hC => ?_
  refine ld (sl 0) r.ob r.now ?_
  refine And.intro (r.x.ob) (hS _ _ _ _ (sS_has r.x ?_))
  refine brE (fun q => ?_) (fun q => ?_)
  · exact hC _ _ _ _ (no (fun z => q z.1))
  refine ld (sl 0) r.ob r.now ?_
  refine And.intro (r.x.ob) (hS _ _ _ _ (sS_has r.x ?_))
  refine brN (fun q2 => ?_) (fun q2 => ?_)
  · rw [cif_T ⟨q, q2⟩] at hK
    obtain ⟨d, hd, ex⟩ := q
    obtain ⟨e, he, ey⟩ := q2
    subst ex; subst ey
    rw [ix_nI (by omega), ix_nI (by omega)] at hK
    refine ld 112 r.ob (r.cs.rf (k := 1) (j := 8) rfl rfl) ?_
    refine ld (sl 0) r.ob r.now ?_
    refine And.intro r.ob (hS _ _ _ _ (sC_upToDate r fun h2 f2 r2 d2 => ?_))
    refine And.intro (r2.cs.ob (k := 112) (ci := 3) rfl rfl rfl) (hS _ _ _ _ (sK_countCouples r2.x (Or.inl rfl) d2.1 fun h3 f3 c3 => ?_))
    have g3 : FX 999 [112] h2 h3 := f3.x (Or.inr rfl)
    have r3 := r2.scr g3 rfl
    refine ld 112 r3.ob (r3.cs.rf (k := 1) (j := 8) rfl rfl) ?_
    refine ld (sl 0) r3.ob r3.now ?_
    refine ld _ r3.x.ob r3.x.2.2.1.1.2.2.1 ?_
    refine And.intro (r3.cs.ob (k := 112) (ci := 3) rfl rfl rfl) (hS _ _ _ _ (sK_fewestSteps r3.cs r.x.2.2.2 c3 rfl rfl rfl hd he fun h4 f4 => ?_))
    exact hK h4 (((f2.m9 rfl).tr (g3.m9 rfl)).tr (f4.m9 rfl)) (r3.scr f4 rfl).r
  · exact hC _ _ _ _ (no (fun z => q2 z.2))
theorem sC_step {x : Int32} (r : CR h tp tn ft fp ρ pa an un sm sc sn bx bk) (hK : ∀ h', FC h h' → CR h' tp tn ft fp ρ pa an un sm sc sn bx bk → K (some (vI (aStep ρ x))) h') : Spec G l (mt mC_step) [vR 1, vI x] h K := by
  obtain ⟨sl, r⟩ := r
  have g := r.x.2.2.2.n
  have hK0 := hK h FC.rf r.r
  unfold aStep at hK hK0
  have p0 := r.so.1 0 (by decide)
  have u1 : sl 0 ≠ 90 ∧ sl 0 ≠ 95 := ⟨fun z => (by rw [z] at p0; cases p0), fun z => (by rw [z] at p0; cases p0)⟩
  refine eC_step 99 [] fun S Cu hS hC => ?_
  refine ld (sl 0) r.ob r.now ?_
  refine And.intro (r.x.ob) (hS _ _ _ _ (sS_has r.x ?_))
  refine brN (fun q => ?_) (fun q => ?_)
  · rw [cif_T q] at hK
    obtain ⟨d, hd, ex⟩ := q
    subst ex
    rw [ix_nI (by omega)] at hK
    refine ld 89 r.ob (r.cs.rf (k := 1) (j := 6) rfl rfl) ?_
    refine ld (sl 0) r.ob r.now ?_
    refine And.intro (r.cs.ob (k := 89) (ci := 0) rfl rfl rfl) (hS _ _ _ _ (sA_lookOne r.x u1 r.2.2 fun h2 s f2 s1 a2 => ?_))
    have r2 : CRs h2 sl tp tn ft fp ρ pa an un sm sc sn bx bk := r.ahd f2 (Or.inr ⟨s, s1, a2⟩)
    obtain ⟨gr, lr⟩ := rnd_ok (good_pu2 r.x.2.2.2 s1)
    have y2 : SC h2 90 (rnd (pu ρ 2 s)) := ⟨r2.cs, rfl, a2.2.2.1, gr⟩
    have hd2 : d < pcn (rnd (pu ρ 2 s)) := by rw [lr.2.2.2.1, n_sd]; exact hd
    refine ld (sl 0) r2.ob r2.now ?_
    refine ld 89 r2.ob (r2.cs.rf (k := 1) (j := 6) rfl rfl) ?_
    refine ld 90 (r2.cs.ob (k := 89) (ci := 0) rfl rfl rfl) (r2.cs.rf (k := 89) (j := 0) rfl rfl) ?_
    refine And.intro (r2.x.ob) (hS _ _ _ _ (sS_apart r2.x y2 rfl rfl hd hd2 ?_))
    refine rtI (K := K) ?_ (hK h2 (f2.m9 rfl) r2.r)
    rw [lN_i]
    refine congrArg nI ?_
    unfold aptD
    rw [apt_comm, rnd_sd, X_sd, Y_sd, D_sd]
  · exact rtC (K := K) q hK0
theorem sC_moves (r : CR h tp tn ft fp ρ pa an un sm sc sn bx bk) (hK : ∀ h', FC h h' → CR h' tp tn ft fp ρ pa an un sm sc sn bx bk → K (some (vI (aMoves ρ))) h') : Spec G l (mt mC_moves) [vR 1] h K := by
  obtain ⟨sl, r⟩ := r
  have g := r.x.2.2.2.n
  unfold aMoves at hK
  have p0 := r.so.1 0 (by decide)
  have u1 : sl 0 ≠ 90 ∧ sl 0 ≠ 95 := ⟨fun z => (by rw [z] at p0; cases p0), fun z => (by rw [z] at p0; cases p0)⟩
  refine eC_moves 99 [] fun S Cu hS hC => ?_
  refine ld (sl 0) r.ob r.now ?_
  refine ld _ r.x.ob r.x.2.2.1.1.2.2.1 ?_
  refine And.intro (fun q => ?_) (fun q => ?_)
  · have c0 : 0 < pcn ρ := Nat.pos_of_ne_zero (fun z => q (by rw [z]; rfl))
    rw [cif_T c0] at hK
    refine ld 89 r.ob (r.cs.rf (k := 1) (j := 6) rfl rfl) ?_
    refine ld (sl 0) r.ob r.now ?_
    refine And.intro (r.cs.ob (k := 89) (ci := 0) rfl rfl rfl) (hS _ _ _ _ (sA_lookOne r.x u1 r.2.2 fun h2 s f2 s1 a2 => ?_))
    have r2 : CRs h2 sl tp tn ft fp ρ pa an un sm sc sn bx bk := r.ahd f2 (Or.inr ⟨s, s1, a2⟩)
    refine ld 89 r2.ob (r2.cs.rf (k := 1) (j := 6) rfl rfl) ?_
    refine ld (nI (mvd ρ)) (r2.cs.ob (k := 89) (ci := 0) rfl rfl rfl) (by rw [a2.2.1, mvd_sd]) ?_
    exact hK h2 (f2.m9 rfl) r2.r
  · have q : pcn ρ = 0 := (nI_eq (b := 0) (by omega) (by decide)).mp q
    exact rtC (K := K) (by omega) (hK h FC.rf r.r)
theorem sC_till {w : Int32} (r : CR h tp tn ft fp ρ pa an un sm sc sn bx bk) (hK : ∀ h', FC h h' → CR h' tp tn ft fp ρ pa an un sm sc sn bx bk → K (some (vI (aTill ρ w))) h') : Spec G l (mt mC_till) [vR 1, vI w] h K := by
  obtain ⟨sl, r⟩ := r
  have g := r.x.2.2.2.n
  unfold aTill at hK
  have p0 := r.so.1 0 (by decide)
  have u1 : sl 0 ≠ 90 ∧ sl 0 ≠ 95 := ⟨fun z => (by rw [z] at p0; cases p0), fun z => (by rw [z] at p0; cases p0)⟩
  have eR : w = nI 0 → tlO ρ w (fstO (fun k => mvd (rndN ρ k) = 0) 200) = tlR ρ := by
    intro e
    unfold tlR
    cases fstO (fun k => mvd (rndN ρ k) = 0) 200 with
    | none => rfl
    | some k => exact sel_in (i := 0) e (by decide) rfl
  have eC : w = nI 1 → tlO ρ w (fstO (fun k => mvd (rndN ρ k) = 0) 200) = tlC ρ := by
    intro e
    unfold tlC
    cases fstO (fun k => mvd (rndN ρ k) = 0) 200 with
    | none => rfl
    | some k => exact sel_in (i := 1) e (by decide) rfl
  have eN : ¬ w = nI 0 → ¬ w = nI 1 → tlO ρ w (fstO (fun k => mvd (rndN ρ k) = 0) 200) = -1 := by
    intro n0 n1
    cases fstO (fun k => mvd (rndN ρ k) = 0) 200 with
    | none => rfl
    | some k => exact sel_out (fun i hi => match i, hi with | 0, _ => n0 | 1, _ => n1)
  refine eC_till 99 [] fun S Cu hS hC => ?_
  refine ld (sl 0) r.ob r.now ?_
  refine ld _ r.x.ob r.x.2.2.1.1.2.2.1 ?_
  refine And.intro (fun q => ?_) (fun q => ?_)
  · have c0 : 0 < pcn ρ := Nat.pos_of_ne_zero (fun z => q (by rw [z]; rfl))
    rw [cif_T c0] at hK
    refine And.intro (fun e => ?_) (fun n0 => And.intro (fun e => ?_) (fun n1 => ?_))
    · rw [eR e] at hK
      refine ld 89 r.ob (r.cs.rf (k := 1) (j := 6) rfl rfl) ?_
      refine ld (sl 0) r.ob r.now ?_
      refine And.intro (r.cs.ob (k := 89) (ci := 0) rfl rfl rfl) (hS _ _ _ _ (sA_lookToEnd r.x u1 r.2.2 fun h2 s f2 s1 a2 t1 t2 => ?_))
      have r2 : CRs h2 sl tp tn ft fp ρ pa an un sm sc sn bx bk := r.ahd f2 (Or.inr ⟨s, s1, a2⟩)
      refine ld 89 r2.ob (r2.cs.rf (k := 1) (j := 6) rfl rfl) ?_
      exact ld _ (r2.cs.ob (k := 89) (ci := 0) rfl rfl rfl) t1 (hK h2 (f2.m9 rfl) r2.r)
    · rw [eC e] at hK
      refine ld 89 r.ob (r.cs.rf (k := 1) (j := 6) rfl rfl) ?_
      refine ld (sl 0) r.ob r.now ?_
      refine And.intro (r.cs.ob (k := 89) (ci := 0) rfl rfl rfl) (hS _ _ _ _ (sA_lookToEnd r.x u1 r.2.2 fun h2 s f2 s1 a2 t1 t2 => ?_))
      have r2 : CRs h2 sl tp tn ft fp ρ pa an un sm sc sn bx bk := r.ahd f2 (Or.inr ⟨s, s1, a2⟩)
      refine ld 89 r2.ob (r2.cs.rf (k := 1) (j := 6) rfl rfl) ?_
      exact ld _ (r2.cs.ob (k := 89) (ci := 0) rfl rfl rfl) t2 (hK h2 (f2.m9 rfl) r2.r)
    · rw [eN n0 n1] at hK
      exact hK h FC.rf r.r
  · have q : pcn ρ = 0 := (nI_eq (b := 0) (by omega) (by decide)).mp q
    exact rtC (K := K) (by omega) (hK h FC.rf r.r)
end CC
