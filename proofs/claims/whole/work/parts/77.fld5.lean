/-! ===== the class: farthest cells, cells at the edge ===== -/
section CC
variable {G : GP} {l : Launch} {K : Option AV → AH → Prop} {h : AH} {ρ : Pic}
variable {s f : Nat}
theorem sF_farthestOf {a : Int32} {d : Nat} (x : SC h s ρ) (hf : FH f) (ho : owR h f ρ (own ρ)) (ha : a = nI d) (hd : d < pcn ρ) (hK : K (some (vI (oI (frO ρ d (pcc ρ))))) h) : Spec G l (mt mF_farthestOf) [vR f, vI a, vR s] h K := by
  subst ha
  have g := x.2.2.2.n
  have gc := x.2.2.2.c
  have A := hf.a
  have ob := x.1.fob hf
  have cs := x.1
  have lp : ∀ n, n ≤ pcc ρ → ∀ fo i, fo = oI (frO ρ d n) → i = nI n → Go G l (mt mF_farthestOf) 5 [some (vR f), some (vI (nI d)), some (vR s), some (vI fo), some (vI i)] [] h 0 0 K := by
    refine upto _ ?_
    intro n hn ih fo i hfo hi
    subst hi
    have nx : n < pcc ρ → ∀ fo, fo = oI (frO ρ d (n + 1)) → Go G l (mt mF_farthestOf) 50 [some (vR f), some (vI (nI d)), some (vR s), some (vI fo), some (vI (nI n))] [] h 0 0 K := by
      intro q fo h1
      refine gF_farthestOf 99 [(5, 5)] fun S Cu hS hC => ?_
      exact hC _ _ _ _ (ih q _ _ h1 (nI_1 n))
    refine gF_farthestOf 99 [(50, 5)] fun S Cu hS hC => ?_
    refine And.intro (x.ob) (hS _ _ _ _ (sS_size x ?_))
    refine pk_le (pcc ρ) n (fun q => ?_) (fun q => ?_)
    · obtain rfl : n = pcc ρ := by omega
      subst hfo; exact hK
    · have oc := ho n q
      have oe := oI_eq (o := own ρ n) (d := d) (fun b e => by have := (ow_lt e).1; omega) (by omega)
      refine ld (f + 1) ob (cs.fr hf (by decide)) ?_
      refine ld (oI (own ρ n)) (cs.fin hf (by decide) A.2.1 rfl (by omega) (by decide)) (rdX rfl (by omega) oc.1) ?_
      refine And.intro (fun q1 => ?_) (fun q1 => ?_)
      · have q1 : ¬ own ρ n = some d := fun z => q1 (oe.mpr z)
        refine hC _ _ _ _ (nx q _ ?_)
        rw [hfo]
        cases e : frO ρ d n with
        | none => simp only [frO, e]; rw [if_neg q1]
        | some b => simp only [frO, e]; rw [if_neg (fun z => q1 z.1)]
      · have q1 := oe.mp q1
        rw [q1] at oc
        cases e : frO ρ d n with
        | none =>
          rw [e] at hfo
          refine And.intro (fun _ => ?_) (fun z => absurd hfo z)
          refine hC _ _ _ _ (nx q _ ?_)
          simp only [frO, e]; rw [if_pos q1]; rfl
        | some b =>
          rw [e] at hfo
          obtain ⟨b1, b2⟩ := frO_lt e
          have ob2 := ho b (by omega)
          rw [b2] at ob2
          have g1 := gap_le x.2.2.2 q hd
          have g2 := gap_le x.2.2.2 (show b < pcc ρ by omega) hd
          have e2 : lN (gap ρ b d) < lN (gap ρ n d) ↔ gap ρ b d < gap ρ n d := pk_lLT (by omega) (by omega)
          refine And.intro (fun z => absurd (hfo.symm.trans z) (fun z => nI_m1 (by omega) z)) (fun _ => ?_)
          refine ld (f + 2) ob (cs.fr hf (by decide)) ?_
          refine ld (lN (gap ρ n d)) (cs.fin hf (by decide) A.2.2.1 rfl (by omega) (by decide)) (rdL rfl (by omega) oc.2.1) ?_
          refine ld (f + 2) ob (cs.fr hf (by decide)) ?_
          refine ld (lN (gap ρ b d)) (cs.fin hf (by decide) A.2.2.1 hfo (show b < 400 by omega) (by decide)) (rdL hfo (by omega) ob2.2.1) ?_
          refine And.intro (fun q2 => ?_) (fun q2 => ?_)
          · refine hC _ _ _ _ (nx q _ ?_)
            simp only [frO, e]
            rw [if_neg (fun z => ig_le0.mp q2 (e2.mpr z.2))]; exact hfo
          · refine hC _ _ _ _ (nx q _ ?_)
            simp only [frO, e]
            rw [if_pos ⟨q1, Classical.byContradiction fun z => q2 (ig_le0.mpr fun y => z (e2.mp y))⟩]; rfl
  refine eF_farthestOf 19 [(5, 5)] fun S Cu hS hC => ?_
  exact hC _ _ _ _ (lp 0 (by omega) _ _ rfl rfl)
theorem sF_cellsAtEdge {a : Int32} {d : Nat} (x : SC h s ρ) (hf : FH f) (ho : owR h f ρ (own ρ)) (ha : a = nI d) (hd : d < pcn ρ) (hK : K (some (vI (nI (outs ρ d)))) h) : Spec G l (mt mF_cellsAtEdge) [vR f, vI a, vR s] h K := by
  subst ha
  have g := x.2.2.2.n
  have gc := x.2.2.2.c
  have A := hf.a
  have ob := x.1.fob hf
  have cs := x.1
  have out : ∀ y, y ≤ pch ρ → ∀ fo yy z5 z6, fo = nI (sumN (fun c => wN (own ρ c = some d ∧ atE ρ c) 1) (pcw ρ * y)) → yy = nI y → Go G l (mt mF_cellsAtEdge) 5 [some (vR f), some (vI (nI d)), some (vR s), some (vI fo), some (vI yy), z5, z6] [] h 0 0 K := by
    refine upto _ ?_
    intro y hy ih fo yy z5 z6 hfo hyy
    subst hyy
    have inn : y < pch ρ → ∀ m, m ≤ pcw ρ → ∀ fo xx z6, fo = nI (sumN (fun c => wN (own ρ c = some d ∧ atE ρ c) 1) (pcw ρ * y + m)) → xx = nI m → Go G l (mt mF_cellsAtEdge) 17 [some (vR f), some (vI (nI d)), some (vR s), some (vI fo), some (vI (nI y)), some (vI xx), z6] [] h 0 0 K := by
      intro hy2
      refine upto _ ?_
      intro m hm ih2 fo xx z6 hfo hxx
      subst hxx
      by_cases q : m < pcw ρ
      · obtain ⟨c1, c2, c3⟩ := cel_lt (ρ := ρ) q hy2
        have ae : atE ρ (pcw ρ * y + m) ↔ (m = 0 ∨ y = 0 ∨ m = pcw ρ - 1 ∨ y = pch ρ - 1) := by unfold atE; rw [c2, c3]
        have oc := ho _ c1
        have oe := oI_eq (o := own ρ (pcw ρ * y + m)) (d := d) (fun b e => by have := (ow_lt e).1; omega) (by omega)
        have nx : ∀ fo, fo = nI (sumN (fun c => wN (own ρ c = some d ∧ atE ρ c) 1) (pcw ρ * y + (m + 1))) → ∀ z, Go G l (mt mF_cellsAtEdge) 90 [some (vR f), some (vI (nI d)), some (vR s), some (vI fo), some (vI (nI y)), some (vI (nI m)), z] [] h 0 0 K := by
          intro fo h1 z
          refine gF_cellsAtEdge 99 [(17, 6)] fun S Cu hS hC => ?_
          exact hC _ _ _ _ (ih2 q _ _ _ h1 (nI_1 m))
        have tst : ∀ v, v = bI (atE ρ (pcw ρ * y + m)) → Go G l (mt mF_cellsAtEdge) 63 [some (vR f), some (vI (nI d)), some (vR s), some (vI fo), some (vI (nI y)), some (vI (nI m)), none] [vI v] h 0 0 K := by
          intro v hv
          subst hv
          refine gF_cellsAtEdge 99 [(90, 6)] fun S Cu hS hC => ?_
          refine brE (fun q1 => ?_) (fun q1 => ?_)
          · exact hC _ _ _ _ (nx _ (cntF (P := fun c => own ρ c = some d ∧ atE ρ c) (fun z => q1 z.2) hfo) _)
          · refine ld (f + 1) ob (cs.fr hf (by decide)) ?_
            refine And.intro (x.ob) (hS _ _ _ _ (sS_numberOf x rfl rfl ?_))
            refine ld (oI (own ρ (pcw ρ * y + m))) (cs.fin hf (by decide) A.2.1 rfl (by omega) (by decide)) (rdX rfl (by omega) oc.1) ?_
            refine And.intro (fun q2 => ?_) (fun q2 => ?_)
            · exact hC _ _ _ _ (nx _ (cntF (P := fun c => own ρ c = some d ∧ atE ρ c) (fun z => q2 (oe.mpr z.1)) hfo) _)
            · exact hC _ _ _ _ (nx _ (cntT (P := fun c => own ρ c = some d ∧ atE ρ c) ⟨oe.mp q2, q1⟩ hfo) _)
        have y1 : (m = 0 ∨ y = 0 ∨ m = pcw ρ - 1 ∨ y = pch ρ - 1) → (1 : Int32) = bI (atE ρ (pcw ρ * y + m)) := fun z => (bI_T (ae.mpr z)).symm
        refine gF_cellsAtEdge 99 [(63, 6)] fun S Cu hS hC => ?_
        refine ld _ x.ob x.2.2.1.1.1 ?_
        refine pk_le (pcw ρ) m (fun z => by omega) (fun _ => ?_)
        refine pk_eq m 0 (fun q1 => ?_) (fun q1 => ?_)
        · exact hC _ _ _ _ (tst _ (y1 (by omega)))
        refine pk_eq y 0 (fun q2 => ?_) (fun q2 => ?_)
        · exact hC _ _ _ _ (tst _ (y1 (by omega)))
        refine ld _ x.ob x.2.2.1.1.1 ?_
        refine pk_eq m (pcw ρ - 1) (fun q3 => ?_) (fun q3 => ?_) rfl (by first | with_reducible rfl | (try simp (disch := omega) only [pk_rem]) <;> simp (disch := omega) only [nl0, nl1, nl2, nl3, nl4, nl8, nl9, nl10, nl12, nl20, nl24, nl30, nl32, nl40, nl48, nl100, nl120, nl200, nl255, nl400, nl404, nl524, nl900, nl1000, nl9999, nl16, nl65536, nI_add, pk_mul, pk_sub, pk_div, pk_rem, Nat.add_zero, Nat.zero_add, Nat.mul_one, Nat.add_sub_cancel_left, Nat.add_sub_cancel])
        · exact hC _ _ _ _ (tst _ (y1 (by omega)))
        refine ld _ x.ob x.2.2.1.1.2.1 ?_
        have eh : nI (pch ρ) - 1 = nI (pch ρ - 1) := by first | with_reducible rfl | (try simp (disch := omega) only [pk_rem]) <;> simp (disch := omega) only [nl0, nl1, nl2, nl3, nl4, nl8, nl9, nl10, nl12, nl20, nl24, nl30, nl32, nl40, nl48, nl100, nl120, nl200, nl255, nl400, nl404, nl524, nl900, nl1000, nl9999, nl16, nl65536, nI_add, pk_mul, pk_sub, pk_div, pk_rem, Nat.add_zero, Nat.zero_add, Nat.mul_one, Nat.add_sub_cancel_left, Nat.add_sub_cancel]
        refine And.intro (fun q4 => ?_) (fun q4 => ?_)
        · exact hC _ _ _ _ (tst _ (bI_F (fun z => by
            rcases ae.mp z with z | z | z | z
            · exact q1 z
            · exact q2 z
            · exact q3 z
            · exact q4 (by rw [eh]; exact congrArg nI z))).symm)
        · exact hC _ _ _ _ (tst _ (y1 (by
            rw [eh] at q4
            have := (nI_eq (by omega) (by omega)).mp q4
            omega)))
      · obtain rfl : m = pcw ρ := by omega
        refine gF_cellsAtEdge 99 [(5, 5)] fun S Cu hS hC => ?_
        refine ld _ x.ob x.2.2.1.1.1 ?_
        refine And.intro (fun _ => ?_) (fun z => absurd (Int32.le_refl _) z)
        exact hC _ _ _ _ (ih hy2 _ _ _ _ (by rw [Nat.mul_succ]; exact hfo) (nI_1 y))
    refine gF_cellsAtEdge 99 [(17, 6)] fun S Cu hS hC => ?_
    refine ld _ x.ob x.2.2.1.1.2.1 ?_
    refine pk_le (pch ρ) y (fun q => ?_) (fun q => ?_)
    · obtain rfl : y = pch ρ := by omega
      subst hfo; exact hK
    · exact hC _ _ _ _ (inn q 0 (by omega) _ _ _ hfo rfl)
  refine eF_cellsAtEdge 19 [(5, 5)] fun S Cu hS hC => ?_
  exact hC _ _ _ _ (out 0 (by omega) _ _ _ _ rfl rfl)
end CC
