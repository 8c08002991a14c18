/-! ===== the class: a dot left out ===== -/
/-- what a cell costs without dot a (-1: with all) -/
noncomputable def rsA (ρ : Pic) (a : Int32) (c : Nat) : Nat := @ite _ (¬ a = -1 ∧ oI (own ρ c) = a) (Classical.propDecidable _) (rsO ρ c (owB ρ (ix a) c)) (cstO ρ c (own ρ c))
section CC
variable {G : GP} {l : Launch} {K : Option AV → AH → Prop} {h : AH} {ρ : Pic}
variable {s f : Nat}
theorem sQ_leaveOut {a : Int32} (x : SC h s ρ) (hf : FH f) (fd : FDR h f ρ) (ha : a = -1 ∨ ∃ d, d < pcn ρ ∧ a = nI d) (hK : ∀ h', F1 111 h h' → rst h' ρ (rsA ρ a) → K none h') : Spec G l (mt mQ_leaveOut) [vR 110, vI a, vR s, vR f] h K := by
  have g := x.2.2.2.n
  have gc := x.2.2.2.c
  have A := hf.a
  have f111 : ∀ i, i ≤ 9 → f + i ≠ 111 := fun i hi => by rcases hf with rfl | rfl <;> omega
  have hx : ∀ h', F1 111 h h' → SC h' s ρ ∧ owR h' f ρ (own ρ) ∧ (∀ c, c < pcc ρ → hI h' (f + 4) c = nI (cstO ρ c (own ρ c))) := fun h' o => ⟨x.fx (L := [110]) (o.x (Or.inr rfl)) rfl, o.ow fd.1 (f111 1 (by decide)), fun c hc => by rw [o.2.2.2.2 _ (f111 4 (by decide))]; exact fd.2.1 c hc⟩
  have out : ∀ y, y ≤ pch ρ → ∀ h', F1 111 h h' → (∀ c, c < pcw ρ * y → hI h' 111 c = nI (rsA ρ a c)) → ∀ n yy z6, n = nI (pcw ρ * y) → yy = nI y → Go G l (mt mQ_leaveOut) 6 [some (vR 110), some (vI a), some (vR s), some (vR f), some (vI n), some (vI yy), z6] [] h' 0 0 K := by
    refine upto _ ?_
    intro y hy ih h' o cp n yy z6 hn hyy
    subst hn; subst hyy
    have inn : y < pch ρ → ∀ m, m ≤ pcw ρ → ∀ h', F1 111 h h' → (∀ c, c < pcw ρ * y + m → hI h' 111 c = nI (rsA ρ a c)) → ∀ n xx, n = nI (pcw ρ * y + m) → xx = nI m → Go G l (mt mQ_leaveOut) 18 [some (vR 110), some (vI a), some (vR s), some (vR f), some (vI n), some (vI (nI y)), some (vI xx)] [] h' 0 0 K := by
      intro hy2
      refine upto _ ?_
      intro m hm ih2 h' o cp n xx hn hxx
      subst hn; subst hxx
      obtain ⟨x', ow', co'⟩ := hx h' o
      by_cases q : m < pcw ρ
      · obtain ⟨c1, c2, c3⟩ := cel_lt (ρ := ρ) q hy2
        have put : ∀ v, v = nI (rsA ρ a (pcw ρ * y + m)) → Go G l (mt mQ_leaveOut) 68 [some (vR 110), some (vI a), some (vR s), some (vR f), some (vI (nI (pcw ρ * y + m))), some (vI (nI y)), some (vI (nI m))] [vI v, vI (nI (pcw ρ * y + m)), vR 111] h' 0 0 K := by
          intro v hv
          subst hv
          refine gQ_leaveOut 99 [(18, 7)] fun S Cu hS hC => ?_
          refine sw (pcw ρ * y + m) _ (x'.1.inA (k := 111) (n := 400) rfl rfl rfl rfl (by omega) rfl) (ix_nI (by omega)) rfl ?_
          refine hC _ _ _ _ (ih2 q _ o.setI (fun c hc => ?_) _ _ (nI_1 _) (nI_1 m))
          by_cases e : c = pcw ρ * y + m
          · subst e; exact si_eq
          · rw [si_ne e]; exact cp c (by omega)
        have old : ¬ (¬ a = -1 ∧ oI (own ρ (pcw ρ * y + m)) = a) → Go G l (mt mQ_leaveOut) 61 [some (vR 110), some (vI a), some (vR s), some (vR f), some (vI (nI (pcw ρ * y + m))), some (vI (nI y)), some (vI (nI m))] [vI (nI (pcw ρ * y + m)), vR 111] h' 0 0 K := by
          intro z
          refine gQ_leaveOut 99 [(68, 7)] fun S Cu hS hC => ?_
          refine ld (f + 4) (x'.1.fob hf) (x'.1.fr hf (by decide)) ?_
          refine ld (nI (cstO ρ (pcw ρ * y + m) (own ρ (pcw ρ * y + m)))) (x'.1.fin hf (by decide) A.2.2.2.2.1 rfl (by omega) (by decide)) (rdX rfl (by omega) (co' _ c1)) ?_
          exact hC _ _ _ _ (put _ (by unfold rsA; rw [if_neg z]))
        refine gQ_leaveOut 99 [(61, 7), (68, 7)] fun S Cu hS hC => ?_
        refine ld _ x'.ob x'.2.2.1.1.1 ?_
        refine pk_le (pcw ρ) m (fun z => by omega) (fun _ => ?_)
        refine ld 111 (x'.1.ob (k := 110) (ci := 5) rfl rfl rfl) (x'.1.rf (k := 110) (j := 0) rfl rfl) ?_
        refine And.intro (fun q1 => hC _ _ _ _ (old (fun z => z.1 q1))) (fun q1 => ?_)
        refine ld (f + 1) (x'.1.fob hf) (x'.1.fr hf (by decide)) ?_
        refine ld (oI (own ρ (pcw ρ * y + m))) (x'.1.fin hf (by decide) A.2.1 rfl (by omega) (by decide)) (rdX rfl (by omega) (ow' _ c1).1) ?_
        refine And.intro (fun q2 => hC _ _ _ _ (old (fun z => q2 z.2))) (fun q2 => ?_)
        obtain ⟨d, hd, ea⟩ := ha.resolve_left q1
        refine hS _ _ _ _ (sQ_priceOfOthers (d := d) x' ea rfl rfl hd q hy2 ?_)
        refine hC _ _ _ _ (put _ ?_)
        unfold rsA
        rw [if_pos ⟨q1, q2⟩, ix_of ea (by omega)]
      · obtain rfl : m = pcw ρ := by omega
        refine gQ_leaveOut 99 [(6, 6)] fun S Cu hS hC => ?_
        refine ld _ x'.ob x'.2.2.1.1.1 ?_
        refine And.intro (fun _ => ?_) (fun z => absurd (Int32.le_refl _) z)
        exact hC _ _ _ _ (ih hy2 h' o (by rw [Nat.mul_succ]; exact cp) _ _ _ (by rw [Nat.mul_succ]) (nI_1 y))
    obtain ⟨x', ow', co'⟩ := hx h' o
    refine gQ_leaveOut 99 [(18, 7)] fun S Cu hS hC => ?_
    refine ld _ x'.ob x'.2.2.1.1.2.1 ?_
    refine pk_le (pch ρ) y (fun q => ?_) (fun q => ?_)
    · obtain rfl : y = pch ρ := by omega
      exact hK h' o cp
    · exact hC _ _ _ _ (inn q 0 (by omega) h' o cp _ _ rfl rfl)
  refine eQ_leaveOut 19 [(6, 6)] fun S Cu hS hC => ?_
  exact hC _ _ _ _ (out 0 (Nat.zero_le _) h F1.rf (fun c hc => absurd hc (Nat.not_lt_zero c)) _ _ _ rfl rfl)
end CC
