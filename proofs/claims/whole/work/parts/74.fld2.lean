/-! ===== the class: fields added up ===== -/
theorem sumS {P : Nat → Prop} {f : Nat → Nat} {n : Nat} : sumN (fun c => wN (P c) (f c)) (n + 1) = sumN (fun c => wN (P c) (f c)) n + wN (P n) (f n) := rfl
def AU (h : AH) (f : Nat) (ρ : Pic) (n : Nat) : Prop := (∀ c, c < n → hI h (f + 4) c = nI (cstO ρ c (own ρ c))) ∧ (∀ d, d < 40 → hI h (f + 5) d = nI (sumN (fun c => wN (own ρ c = some d) 1) n) ∧ hI h (f + 6) d = nI (sumN (fun c => wN (own ρ c = some d) (pcW ρ c)) n) ∧ hI h (f + 7) d = nI (sumN (fun c => wN (own ρ c = some d) (cst ρ c d)) n) ∧ hI h (f + 8) d = nI (sumN (fun c => wN (own ρ c = some d) (pcW ρ c * (c % pcw ρ))) n) ∧ hI h (f + 9) d = nI (sumN (fun c => wN (own ρ c = some d) (pcW ρ c * (c / pcw ρ))) n)) ∧ hI h f 9 = nI (sumN (fun c => cstO ρ c (own ρ c)) n)
/-- all that a field says of a picture -/
def FDR (h : AH) (f : Nat) (ρ : Pic) : Prop := owR h f ρ (own ρ) ∧ AU h f ρ (pcc ρ)
/-- only ints of field f have changed, not its owners -/
def FA (f : Nat) (h h' : AH) : Prop := hN h' = hN h ∧ hS h' = hS h ∧ hR h' = hR h ∧ hL h' = hL h ∧ ∀ k, (grp k ≠ f ∨ k = f + 1) → hI h' k = hI h k
theorem FA.rf {f : Nat} {h : AH} : FA f h h := ⟨rfl, rfl, rfl, rfl, fun _ _ => rfl⟩
theorem FA.tr {f : Nat} {h h1 h2 : AH} (a : FA f h h1) (b : FA f h1 h2) : FA f h h2 := ⟨b.1.trans a.1, b.2.1.trans a.2.1, b.2.2.1.trans a.2.2.1, b.2.2.2.1.trans a.2.2.2.1, fun k q => (b.2.2.2.2 k q).trans (a.2.2.2.2 k q)⟩
theorem FA.x {f : Nat} {h h' : AH} (a : FA f h h') : FX f [] h h' := ⟨a.1, a.2.1, a.2.2.1, fun k q _ => ⟨a.2.2.2.2 k (Or.inl q), by rw [a.2.2.2.1]⟩⟩
theorem FA.setI {f : Nat} {h h' : AH} (a : FA f h h') (hf : FH f) {i j : Nat} {v : Int32} (h1 : i ≤ 9) (h2 : i ≠ 1) : FA f h (setI h' (f + i) j v) := by
  refine ⟨a.1, a.2.1, a.2.2.1, a.2.2.2.1, fun k q => ?_⟩
  rw [si_n (fun z => ?_)]
  · exact a.2.2.2.2 k q
  · rcases q with q | q
    · exact q (by rw [z]; exact hf.gr h1)
    · omega
theorem FA.f1 {f : Nat} {h h' h2 : AH} (a : FA f h h') (hf : FH f) {i : Nat} (b : F1 (f + i) h' h2) (h1 : i ≤ 9) (h3 : i ≠ 1) : FA f h h2 := by
  refine a.tr ⟨b.1, b.2.1, b.2.2.1, b.2.2.2.1, fun k q => b.2.2.2.2 k (fun z => ?_)⟩
  rcases q with q | q
  · exact q (by rw [z]; exact hf.gr h1)
  · omega
theorem FA.ow {f : Nat} {h h' : AH} {ρ : Pic} {O : Nat → Option Nat} (a : FA f h h') (o : owR h f ρ O) : owR h' f ρ O := by
  intro c hc
  rw [a.2.2.2.2 (f + 1) (Or.inr rfl), a.2.2.2.1]; exact o c hc
section CC
variable {G : GP} {l : Launch} {K : Option AV → AH → Prop} {h : AH} {ρ : Pic}
variable {s f : Nat}
theorem sF_addCell {c : Nat} {a1 a2 a3 a4 : Int32} (cs : CS h) (hf : FH f) (g : Good ρ) (e1 : a1 = nI c) (e2 : a2 = nI (c % pcw ρ)) (e3 : a3 = nI (c / pcw ρ)) (e4 : a4 = nI (pcW ρ c)) (hc : c < pcc ρ) (ho : owR h f ρ (own ρ)) (au : AU h f ρ c) (hK : ∀ h', FA f h h' → AU h' f ρ (c + 1) → K none h') : Spec G l (mt mF_addCell) [vR f, vI a1, vI a2, vI a3, vI a4] h K := by
  subst e1; subst e2; subst e3; subst e4
  have gn := g.n
  have gc := g.c
  have A := hf.a
  have w9 := g.2.1 c (by omega)
  have ob := cs.fob hf
  have oc := ho c hc
  obtain ⟨u1, u2, u3⟩ := au
  have sc : sumN (fun c => cstO ρ c (own ρ c)) (c + 1) = sumN (fun c => cstO ρ c (own ρ c)) c + cstO ρ c (own ρ c) := rfl
  cases eo : own ρ c with
  | none =>
    rw [eo] at oc sc
    refine eF_addCell 199 [] fun S Cu hS hC => ?_
    refine ld (f + 1) ob (cs.fr hf (by decide)) ?_
    refine ld (-1) (cs.fin hf (by decide) A.2.1 rfl (by omega) (by decide)) (rdX rfl (by omega) oc.1) ?_
    refine And.intro (fun z => absurd rfl z) (fun _ => ?_)
    refine ld (f + 4) ob (cs.fr hf (by decide)) ?_
    refine sw c (nI 0) (cs.fin hf (by decide) A.2.2.2.2.1 rfl (by omega) (by decide)) (ix_nI (by omega)) rfl ?_
    refine hK _ (FA.rf.setI hf (by decide) (by decide)) ⟨fun j hj => ?_, fun d hd => ?_, ?_⟩
    · by_cases e : j = c
      · subst e; rw [si_eq, eo]; rfl
      · rw [si_ne e]; exact u1 j (by omega)
    · rw [si_n (by omega), si_n (by omega), si_n (by omega), si_n (by omega), si_n (by omega), sumS, sumS, sumS, sumS, sumS, wN_F (by rw [eo]; intro z; cases z), wN_F (by rw [eo]; intro z; cases z), wN_F (by rw [eo]; intro z; cases z), wN_F (by rw [eo]; intro z; cases z), wN_F (by rw [eo]; intro z; cases z)]
      exact u2 d hd
    · rw [si_n (by omega), sc]; exact u3
  | some b =>
    rw [eo] at oc sc
    have hb : b < pcn ρ := (ow_lt eo).1
    have sp := spn_pos g hb
    have gl := gap_le g hc hb
    obtain ⟨v1, v2, v3, v4, v5⟩ := u2 b (by omega)
    have fin : ∀ v, v = nI (cst ρ c b) → Go G l (mt mF_addCell) 48 [some (vR f), some (vI (nI c)), some (vI (nI (c % pcw ρ))), some (vI (nI (c / pcw ρ))), some (vI (nI (pcW ρ c))), some (vI (nI b)), none] [vI v] h 0 0 K := by
      intro v hv
      subst hv
      refine gF_addCell 199 [] fun S Cu hS hC => ?_
      refine ld (f + 4) ob (cs.fr hf (by decide)) ?_
      refine sw c (nI (cst ρ c b)) (cs.fin hf (by decide) A.2.2.2.2.1 rfl (by omega) (by decide)) (ix_nI (by omega)) rfl ?_
      refine ld (nI (sumN (fun c => cstO ρ c (own ρ c)) c)) ob (by rw [si_n (by omega)]; exact u3) ?_
      refine ld (nI (sumN (fun c => cstO ρ c (own ρ c)) c + cst ρ c b)) ob (nI_add _ _) ?_
      refine ld (f + 5) ob (cs.fr hf (by decide)) ?_
      refine ld (nI (sumN (fun c => wN (own ρ c = some b) 1) c)) (cs.fin hf (by decide) A.2.2.2.2.2.1 rfl (by omega) (by decide)) (rdX rfl (by omega) (by rw [si_n (by omega), si_n (by omega)]; exact v1)) ?_
      refine sw b _ (cs.fin hf (by decide) A.2.2.2.2.2.1 rfl (by omega) (by decide)) (ix_nI (by omega)) rfl ?_
      refine ld (f + 6) ob (cs.fr hf (by decide)) ?_
      refine ld (nI (sumN (fun c => wN (own ρ c = some b) (pcW ρ c)) c)) (cs.fin hf (by decide) A.2.2.2.2.2.2.1 rfl (by omega) (by decide)) (rdX rfl (by omega) (by rw [si_n (by omega), si_n (by omega), si_n (by omega)]; exact v2)) ?_
      refine sw b _ (cs.fin hf (by decide) A.2.2.2.2.2.2.1 rfl (by omega) (by decide)) (ix_nI (by omega)) rfl ?_
      refine ld (f + 7) ob (cs.fr hf (by decide)) ?_
      refine ld (nI (sumN (fun c => wN (own ρ c = some b) (cst ρ c b)) c)) (cs.fin hf (by decide) A.2.2.2.2.2.2.2.1 rfl (by omega) (by decide)) (rdX rfl (by omega) (by rw [si_n (by omega), si_n (by omega), si_n (by omega), si_n (by omega)]; exact v3)) ?_
      refine sw b _ (cs.fin hf (by decide) A.2.2.2.2.2.2.2.1 rfl (by omega) (by decide)) (ix_nI (by omega)) rfl ?_
      refine ld (f + 8) ob (cs.fr hf (by decide)) ?_
      refine ld (nI (sumN (fun c => wN (own ρ c = some b) (pcW ρ c * (c % pcw ρ))) c)) (cs.fin hf (by decide) A.2.2.2.2.2.2.2.2.1 rfl (by omega) (by decide)) (rdX rfl (by omega) (by rw [si_n (by omega), si_n (by omega), si_n (by omega), si_n (by omega), si_n (by omega)]; exact v4)) ?_
      refine sw b _ (cs.fin hf (by decide) A.2.2.2.2.2.2.2.2.1 rfl (by omega) (by decide)) (ix_nI (by omega)) rfl ?_
      refine ld (f + 9) ob (cs.fr hf (by decide)) ?_
      refine ld (nI (sumN (fun c => wN (own ρ c = some b) (pcW ρ c * (c / pcw ρ))) c)) (cs.fin hf (by decide) A.2.2.2.2.2.2.2.2.2 rfl (by omega) (by decide)) (rdX rfl (by omega) (by rw [si_n (by omega), si_n (by omega), si_n (by omega), si_n (by omega), si_n (by omega), si_n (by omega)]; exact v5)) ?_
      refine sw b _ (cs.fin hf (by decide) A.2.2.2.2.2.2.2.2.2 rfl (by omega) (by decide)) (ix_nI (by omega)) rfl ?_
      refine hK _ (((((((FA.rf.setI hf (by decide) (by decide)).setI hf (i := 0) (by decide) (by decide)).setI hf (by decide) (by decide)).setI hf (by decide) (by decide)).setI hf (by decide) (by decide)).setI hf (by decide) (by decide)).setI hf (by decide) (by decide)) ⟨fun j hj => ?_, fun d hd => ?_, ?_⟩
      · rw [si_n (by omega), si_n (by omega), si_n (by omega), si_n (by omega), si_n (by omega), si_n (by omega)]
        by_cases e : j = c
        · subst e; rw [si_eq, eo]; rfl
        · rw [si_ne e]; exact u1 j (by omega)
      · rw [sumS, sumS, sumS, sumS, sumS]
        by_cases e : d = b
        · subst e
          rw [wN_T eo, wN_T eo, wN_T eo, wN_T eo, wN_T eo]
          refine ⟨?_, ?_, ?_, ?_, ?_⟩
          · rw [si_n (by omega), si_n (by omega), si_n (by omega), si_n (by omega), si_eq]; exact nI_1 _
          · rw [si_n (by omega), si_n (by omega), si_n (by omega), si_eq, nI_add]
          · rw [si_n (by omega), si_n (by omega), si_eq, nI_add]
          · rw [si_n (by omega), si_eq, pk_mul, nI_add]
          · rw [si_eq, pk_mul, nI_add]
        · have ne : ¬ own ρ c = some d := by rw [eo]; intro z; injection z with z; exact e z.symm
          rw [wN_F ne, wN_F ne, wN_F ne, wN_F ne, wN_F ne]
          obtain ⟨t1, t2, t3, t4, t5⟩ := u2 d hd
          refine ⟨?_, ?_, ?_, ?_, ?_⟩
          · rw [si_n (by omega), si_n (by omega), si_n (by omega), si_n (by omega), si_ne e, si_n (by omega), si_n (by omega)]; exact t1
          · rw [si_n (by omega), si_n (by omega), si_n (by omega), si_ne e, si_n (by omega), si_n (by omega), si_n (by omega)]; exact t2
          · rw [si_n (by omega), si_n (by omega), si_ne e, si_n (by omega), si_n (by omega), si_n (by omega), si_n (by omega)]; exact t3
          · rw [si_n (by omega), si_ne e, si_n (by omega), si_n (by omega), si_n (by omega), si_n (by omega), si_n (by omega)]; exact t4
          · rw [si_ne e, si_n (by omega), si_n (by omega), si_n (by omega), si_n (by omega), si_n (by omega), si_n (by omega)]; exact t5
      · rw [si_n (by omega), si_n (by omega), si_n (by omega), si_n (by omega), si_n (by omega), si_eq, sc]; rfl
    refine eF_addCell 199 [(48, 6)] fun S Cu hS hC => ?_
    refine ld (f + 1) ob (cs.fr hf (by decide)) ?_
    refine ld (nI b) (cs.fin hf (by decide) A.2.1 rfl (by omega) (by decide)) (rdX rfl (by omega) oc.1) ?_
    refine And.intro (fun _ => ?_) (fun z => absurd z (fun z => nI_m1 (by omega) z))
    refine And.intro (fun q => ?_) (fun q => ?_)
    · refine ld (f + 2) ob (cs.fr hf (by decide)) ?_
      refine ld _ (cs.fin hf (by decide) A.2.2.1 rfl (by omega) (by decide)) (rdL rfl (by omega) oc.2.1) ?_
      refine ld (f + 3) ob (cs.fr hf (by decide)) ?_
      refine ld _ (cs.fin hf (by decide) A.2.2.2.1 rfl (by omega) (by decide)) (rdL rfl (by omega) oc.2.2) ?_
      refine hS _ _ _ _ (sC_price (w := pcW ρ c) (g := gap ρ c b) (q := spn ρ b) rfl rfl rfl w9 (by omega) (by omega) (by omega) ?_)
      exact hC _ _ _ _ (fin _ rfl)
    · refine hC _ _ _ _ (fin _ ?_)
      have : pcW ρ c = 0 := (nI_eq (b := 0) (by omega) (by decide)).mp q
      unfold cst; rw [this, Nat.mul_zero, Nat.zero_mul, Nat.zero_div]; rfl
end CC
