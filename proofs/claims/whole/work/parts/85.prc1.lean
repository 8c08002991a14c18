/-! ===== the class: prices summed ===== -/
def rst (h : AH) (ρ : Pic) (R : Nat → Nat) : Prop := ∀ c, c < pcc ρ → hI h 111 c = nI (R c)
section CC
variable {G : GP} {l : Launch} {K : Option AV → AH → Prop} {h : AH} {ρ : Pic}
variable {s : Nat}
theorem sQ_sum {R : Nat → Nat} (x : SC h s ρ) (r : rst h ρ R) (hK : K (some (vI (nI (sumN R (pcc ρ))))) h) : Spec G l (mt mQ_sum) [vR 110, vR s] h K := by
  have gc := x.2.2.2.c
  have lp : ∀ n, n ≤ pcc ρ → ∀ o i, o = nI (sumN R n) → i = nI n → Go G l (mt mQ_sum) 4 [some (vR 110), some (vR s), some (vI o), some (vI i)] [] h 0 0 K := by
    refine upto _ ?_
    intro n hn ih o i ho hi
    subst hi
    refine gQ_sum 99 [(4, 4)] fun S Cu hS hC => ?_
    refine And.intro (x.ob) (hS _ _ _ _ (sS_size x ?_))
    refine pk_le (pcc ρ) n (fun q => ?_) (fun q => ?_)
    · obtain rfl : n = pcc ρ := by omega
      subst ho; exact hK
    · refine ld 111 (x.1.ob (k := 110) (ci := 5) rfl rfl rfl) (x.1.rf (k := 110) (j := 0) rfl rfl) ?_
      refine ld (nI (R n)) (x.1.inA (k := 111) (n := 400) rfl rfl rfl rfl (by omega) rfl) (rdX rfl (by omega) (r n q)) ?_
      exact hC _ _ _ _ (ih q _ _ (by rw [ho, nI_add]; rfl) (nI_1 n))
  refine eQ_sum 19 [(4, 4)] fun S Cu hS hC => ?_
  exact hC _ _ _ _ (lp 0 (Nat.zero_le _) _ _ rfl rfl)
end CC
