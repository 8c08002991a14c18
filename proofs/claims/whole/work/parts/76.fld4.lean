/-! ===== the class: what fields tell ===== -/
theorem ig_le0 {x y : Int64} : lg_cmp x y ≤ 0 ↔ ¬ y < x := by rw [← ig_gt, Int32.not_lt]
section CC
variable {G : GP} {l : Launch} {K : Option AV → AH → Prop} {h : AH} {ρ : Pic}
variable {s f : Nat}
theorem sF_worstOf {a : Int32} {O P : Nat → Option Nat} (x : SC h s ρ) (hf : FH f) (ho : owR h f ρ O) (hO : ∀ c b, P c = some b → b < pcn ρ) (hs : ∀ c, c < pcc ρ → (P c = none ∧ (O c = none ∨ (¬ a = -1 ∧ ¬ oI (O c) = a))) ∨ ∃ b, O c = some b ∧ P c = some b ∧ (a = -1 ∨ oI (O c) = a)) (hK : K (some (vI (oI (wst ρ P (pcc ρ)).1))) h) : Spec G l (mt mF_worstOf) [vR f, vI a, vR s] h K := by
  have g := x.2.2.2.n
  have gc := x.2.2.2.c
  have A := hf.a
  have ob := x.1.fob hf
  have cs := x.1
  have lp : ∀ n, n ≤ pcc ρ → ∀ fo mo un i z5 z7 z9 z10, fo = oI (wst ρ P n).1 → mo = lN (wst ρ P n).2.1 → un = lN (wst ρ P n).2.2 → i = nI n → Go G l (mt mF_worstOf) 11 [some (vR f), some (vI a), some (vR s), some (vI fo), some (vL mo), z5, some (vL un), z7, some (vI i), z9, z10] [] h 0 0 K := by
    refine upto _ ?_
    intro n hn ih fo mo un i z5 z7 z9 z10 hfo hmo hun hi
    subst hi
    have nx : n < pcc ρ → ∀ fo mo un z5 z7, fo = oI (wst ρ P (n + 1)).1 → mo = lN (wst ρ P (n + 1)).2.1 → un = lN (wst ρ P (n + 1)).2.2 → Go G l (mt mF_worstOf) 103 [some (vR f), some (vI a), some (vR s), some (vI fo), some (vL mo), z5, some (vL un), z7, some (vI (nI n)), none, none] [] h 0 0 K := by
      intro q fo mo un z5 z7 h1 h2 h3
      refine gF_worstOf 99 [(11, 9)] fun S Cu hS hC => ?_
      exact hC _ _ _ _ (ih q _ _ _ _ _ _ _ _ h1 h2 h3 (nI_1 n))
    have skip : n < pcc ρ → wst ρ P (n + 1) = wst ρ P n → Go G l (mt mF_worstOf) 103 [some (vR f), some (vI a), some (vR s), some (vI fo), some (vL mo), z5, some (vL un), z7, some (vI (nI n)), none, none] [] h 0 0 K := fun q e => nx q _ _ _ _ _ (by rw [e]; exact hfo) (by rw [e]; exact hmo) (by rw [e]; exact hun)
    refine gF_worstOf 99 [(11, 9), (50, 9), (103, 9)] fun S Cu hS hC => ?_
    refine And.intro (x.ob) (hS _ _ _ _ (sS_size x ?_))
    refine pk_le (pcc ρ) n (fun q => ?_) (fun q => ?_)
    · obtain rfl : n = pcc ρ := by omega
      subst hfo; exact hK
    · have oc := ho n q
      refine ld (f + 1) ob (cs.fr hf (by decide)) ?_
      refine ld (oI (O n)) (cs.fin hf (by decide) A.2.1 rfl (by omega) (by decide)) (rdX rfl (by omega) oc.1) ?_
      rcases hs n q with ⟨pn, sk⟩ | ⟨b, eo, ep, ke⟩
      · refine And.intro (fun _ => hC _ _ _ _ (skip q (wst_n pn))) (fun q1 => ?_)
        refine And.intro (fun q2 => ?_) (fun q2 => ?_)
        · rcases sk with sk | sk
          · exact absurd (by rw [sk]; rfl) q1
          · exact absurd q2 sk.1
        · refine ld (f + 1) ob (cs.fr hf (by decide)) ?_
          refine ld (oI (O n)) (cs.fin hf (by decide) A.2.1 rfl (by omega) (by decide)) (rdX rfl (by omega) oc.1) ?_
          refine And.intro (fun q3 => ?_) (fun _ => hC _ _ _ _ (skip q (wst_n pn)))
          rcases sk with sk | sk
          · exact absurd (by rw [sk]; rfl) q1
          · exact absurd q3 sk.2
      · have hb := hO n b ep
        have body : Go G l (mt mF_worstOf) 50 [some (vR f), some (vI a), some (vR s), some (vI fo), some (vL mo), z5, some (vL un), z7, some (vI (nI n)), none, none] [] h 0 0 K := by
          have w9 := x.2.2.2.2.1 n (by omega)
          have gl := gap_le x.2.2.2 q hb
          have sp := spn_pos x.2.2.2 hb
          obtain ⟨b1, b2⟩ := wst_bd x.2.2.2 hO hn
          have its : pcW ρ n * gap ρ n b ≤ 84214080000 := Nat.le_trans (Nat.mul_le_mul w9 gl) (by decide)
          have m1 : pcW ρ n * gap ρ n b * (wst ρ P n).2.2 < 2 ^ 63 := Nat.lt_of_le_of_lt (Nat.mul_le_mul its b2) (by decide)
          have m2 : (wst ρ P n).2.1 * spn ρ b < 2 ^ 63 := Nat.lt_of_le_of_lt (Nat.mul_le_mul b1 sp.2) (by decide)
          rw [eo] at oc
          have e1 : (nI (pcW ρ n)).toInt64 * lN (gap ρ n b) = lN (pcW ρ n * gap ρ n b) := by rw [nI_l (by omega), lN_mul]
          have e2 : mo * lN (spn ρ b) < (nI (pcW ρ n)).toInt64 * lN (gap ρ n b) * un ↔ (wst ρ P n).2.1 * spn ρ b < pcW ρ n * gap ρ n b * (wst ρ P n).2.2 := by
            rw [e1, hmo, hun, lN_mul, lN_mul, pk_lLT m2 m1]
          refine gF_worstOf 99 [(11, 9), (103, 9)] fun S Cu hS hC => ?_
          refine ld _ x.ob x.r4 ?_
          refine ld _ (x.inW rfl (by omega)) (x.W rfl q) ?_
          refine ld (f + 2) ob (cs.fr hf (by decide)) ?_
          refine ld (lN (gap ρ n b)) (cs.fin hf (by decide) A.2.2.1 rfl (by omega) (by decide)) (rdL rfl (by omega) oc.2.1) ?_
          refine ld (f + 3) ob (cs.fr hf (by decide)) ?_
          refine ld (lN (spn ρ b)) (cs.fin hf (by decide) A.2.2.2.1 rfl (by omega) (by decide)) (rdL rfl (by omega) oc.2.2) ?_
          refine And.intro (fun q1 => ?_) (fun q1 => ?_)
          · have q1 : ¬ (wst ρ P n).2.1 * spn ρ b < pcW ρ n * gap ρ n b * (wst ρ P n).2.2 := fun z => ig_le0.mp q1 (e2.mpr z)
            exact hC _ _ _ _ (skip q (wst_le ep (by omega)))
          · have q1 : (wst ρ P n).2.1 * spn ρ b < pcW ρ n * gap ρ n b * (wst ρ P n).2.2 := Classical.byContradiction fun z => q1 (ig_le0.mpr fun y => z (e2.mp y))
            refine ld (f + 3) ob (cs.fr hf (by decide)) ?_
            refine ld (lN (spn ρ b)) (cs.fin hf (by decide) A.2.2.2.1 rfl (by omega) (by decide)) (rdL rfl (by omega) oc.2.2) ?_
            have ew := wst_gt (ρ := ρ) (O := P) ep (by omega)
            exact hC _ _ _ _ (nx q _ _ _ _ _ (by rw [ew]; rfl) (by rw [ew]; exact e1) (by rw [ew]))
        refine And.intro (fun z => ?_) (fun _ => ?_)
        · rw [eo] at z; exact absurd z (fun z => nI_m1 (by omega) z)
        refine And.intro (fun _ => hC _ _ _ _ body) (fun q2 => ?_)
        refine ld (f + 1) ob (cs.fr hf (by decide)) ?_
        refine ld (oI (O n)) (cs.fin hf (by decide) A.2.1 rfl (by omega) (by decide)) (rdX rfl (by omega) oc.1) ?_
        refine And.intro (fun _ => hC _ _ _ _ body) (fun q3 => ?_)
        exact absurd ke (fun z => z.elim q2 q3)
  refine eF_worstOf 19 [(11, 9)] fun S Cu hS hC => ?_
  exact hC _ _ _ _ (lp 0 (by omega) _ _ _ _ _ _ _ _ rfl rfl rfl rfl)
theorem sF_ownsShade {a b : Int32} {d v : Nat} (x : SC h s ρ) (hf : FH f) (ho : owR h f ρ (own ρ)) (ha : a = nI d) (hb : b = nI v) (hd : d < pcn ρ) (hv : v < 2 ^ 31) (hK : K (some (vI (bI (∃ c, c < pcc ρ ∧ pcW ρ c = v ∧ own ρ c = some d)))) h) : Spec G l (mt mF_ownsShade) [vR f, vI a, vI b, vR s] h K := by
  subst ha; subst hb
  have g := x.2.2.2.n
  have gc := x.2.2.2.c
  have A := hf.a
  have ob := x.1.fob hf
  have cs := x.1
  have lp : ∀ n, n ≤ pcc ρ → (¬ ∃ c, c < n ∧ pcW ρ c = v ∧ own ρ c = some d) → ∀ i, i = nI n → Go G l (mt mF_ownsShade) 3 [some (vR f), some (vI (nI d)), some (vI (nI v)), some (vR s), some (vI i)] [] h 0 0 K := by
    refine upto _ ?_
    intro n hn ih no i hi
    subst hi
    have go : n < pcc ρ → ¬ (pcW ρ n = v ∧ own ρ n = some d) → Go G l (mt mF_ownsShade) 3 [some (vR f), some (vI (nI d)), some (vI (nI v)), some (vR s), some (vI (nI n + 1))] [] h 0 0 K := fun q z => ih q (fun ⟨c, h1, h2⟩ => by
      by_cases e : c = n
      · subst e; exact z h2
      · exact no ⟨c, by omega, h2⟩) _ (nI_1 n)
    refine gF_ownsShade 99 [(3, 5)] fun S Cu hS hC => ?_
    refine And.intro (x.ob) (hS _ _ _ _ (sS_size x ?_))
    refine pk_le (pcc ρ) n (fun q => ?_) (fun q => ?_)
    · obtain rfl : n = pcc ρ := by omega
      exact rzF no hK
    · have oc := ho n q
      have w9 := x.2.2.2.2.1 n (by omega)
      refine ld (f + 1) ob (cs.fr hf (by decide)) ?_
      refine ld (oI (own ρ n)) (cs.fin hf (by decide) A.2.1 rfl (by omega) (by decide)) (rdX rfl (by omega) oc.1) ?_
      by_cases q1 : own ρ n = some d
      · refine And.intro (fun z => absurd (by rw [q1]; rfl) z) (fun _ => ?_)
        refine ld _ x.ob x.r4 ?_
        refine ld _ (x.inW rfl (by omega)) (x.W rfl q) ?_
        by_cases q2 : pcW ρ n = v
        · refine And.intro (fun z => absurd (congrArg nI q2) z) (fun _ => ?_)
          exact rzT ⟨n, q, q2, q1⟩ hK
        · refine And.intro (fun _ => ?_) (fun z => absurd ((nI_eq (by omega) hv).mp z) q2)
          exact hC _ _ _ _ (go q (fun z => q2 z.1))
      · refine And.intro (fun _ => ?_) (fun z => absurd z (fun z => q1 ?_))
        · exact hC _ _ _ _ (go q (fun z => q1 z.2))
        · cases e : own ρ n with
          | none => rw [e] at z; exact absurd z.symm (fun z => nI_m1 (by omega) z)
          | some b =>
            rw [e] at z
            have hb := (ow_lt e).1
            have := (nI_eq (a := b) (b := d) (by omega) (by omega)).mp z
            rw [this]
  refine eF_ownsShade 19 [(3, 5)] fun S Cu hS hC => ?_
  exact hC _ _ _ _ (lp 0 (by omega) (fun ⟨c, h1, _⟩ => absurd h1 (Nat.not_lt_zero c)) _ rfl)
end CC
