/-! ===== the class: couples ===== -/
def cpl (h : AH) (C : Nat → Nat → Nat) : Prop := ∀ a b, a < 40 → b < 40 → hI h 113 (40 * a + b) = nI (C a b)
/-- two cells side by side counted -/
noncomputable def jn (o p : Option Nat) (C : Nat → Nat → Nat) : Nat → Nat → Nat := fun a b => C a b + wN (¬ a = b ∧ ((o = some a ∧ p = some b) ∨ (o = some b ∧ p = some a))) 1
section CC
variable {G : GP} {l : Launch} {K : Option AV → AH → Prop} {h : AH} {ρ : Pic}
variable {C : Nat → Nat → Nat}
theorem sK_join {o p : Option Nat} {x y : Int32} (cs : CS h) (c : cpl h C) (ex : x = oI o) (ey : y = oI p) (ho : ∀ a, o = some a → a < 40) (hp : ∀ a, p = some a → a < 40) (hK : ∀ h', F1 113 h h' → cpl h' (jn o p C) → K none h') : Spec G l (mt mK_join) [vR 112, vI x, vI y] h K := by
  subst ex; subst ey
  have same : (∀ a b, ¬ a = b → ¬ ((o = some a ∧ p = some b) ∨ (o = some b ∧ p = some a))) → cpl h (jn o p C) := fun z a b ha hb => by
    unfold jn; rw [wN_F (fun w => z a b w.1 w.2)]; exact c a b ha hb
  have ob : Ob h 112 3 := cs.ob (k := 112) (ci := 3) rfl rfl rfl
  refine eK_join 59 [] fun S Cu hS hC => ?_
  cases o with
  | none => exact And.intro (fun _ => hK h F1.rf (same fun a b _ w => by rcases w with w | w <;> cases w.1)) (fun z => absurd rfl z)
  | some u =>
    have hu := ho u rfl
    refine And.intro (fun z => absurd z (fun z => nI_m1 (by omega) z)) (fun _ => ?_)
    cases p with
    | none => exact And.intro (fun _ => hK h F1.rf (same fun a b _ w => by rcases w with w | w <;> cases w.2)) (fun z => absurd rfl z)
    | some v =>
      have hv := hp v rfl
      refine And.intro (fun z => absurd z (fun z => nI_m1 (by omega) z)) (fun _ => ?_)
      refine pk_eq u v (fun q => ?_) (fun q => ?_)
      · refine hK h F1.rf (same fun a b n w => n ?_)
        rcases w with w | w
        · injection w.1 with w1; injection w.2 with w2; omega
        · injection w.1 with w1; injection w.2 with w2; omega
      · have i1 : nI u * 40 + nI v = nI (40 * u + v) := by rw [show (40 : Int32) = nI 40 from rfl, pk_mul, nI_add, Nat.mul_comm]
        have i2 : nI v * 40 + nI u = nI (40 * v + u) := by rw [show (40 : Int32) = nI 40 from rfl, pk_mul, nI_add, Nat.mul_comm]
        refine ld 113 ob (cs.rf (k := 112) (j := 0) rfl rfl) ?_
        refine ld (nI (C u v)) (cs.inA (k := 113) (n := 1600) rfl rfl rfl i1 (by omega) rfl) (rdX i1 (by omega) (c u v hu hv)) ?_
        refine sw (40 * u + v) (nI (C u v + 1)) (cs.inA (k := 113) (n := 1600) rfl rfl rfl i1 (by omega) rfl) (ix_of i1 (by omega)) (nI_1 _) ?_
        refine ld 113 ob (cs.rf (k := 112) (j := 0) rfl rfl) ?_
        refine ld (nI (C v u)) (cs.inA (k := 113) (n := 1600) rfl rfl rfl i2 (by omega) rfl) (rdX i2 (by omega) (by rw [si_ne (by omega)]; exact c v u hv hu)) ?_
        refine sw (40 * v + u) (nI (C v u + 1)) (cs.inA (k := 113) (n := 1600) rfl rfl rfl i2 (by omega) rfl) (ix_of i2 (by omega)) (nI_1 _) ?_
        refine hK _ F1.rf.setI.setI (fun a b ha hb => ?_)
        unfold jn
        by_cases e1 : a = v ∧ b = u
        · obtain ⟨rfl, rfl⟩ := e1
          rw [si_eq, wN_T ⟨fun z => q z.symm, Or.inr ⟨rfl, rfl⟩⟩]
        · rw [si_ne (by omega)]
          by_cases e2 : a = u ∧ b = v
          · obtain ⟨rfl, rfl⟩ := e2
            rw [si_eq, wN_T ⟨q, Or.inl ⟨rfl, rfl⟩⟩]
          · rw [si_ne (by omega), wN_F]
            · exact c a b ha hb
            · rintro ⟨_, w | w⟩
              · injection w.1 with w1; injection w.2 with w2; exact e2 ⟨w1.symm, w2.symm⟩
              · injection w.1 with w1; injection w.2 with w2; exact e1 ⟨w2.symm, w1.symm⟩
theorem sK_couplesOfTwo {x y : Int32} {a b : Nat} (cs : CS h) (c : cpl h C) (ex : x = nI a) (ey : y = nI b) (ha : a < 40) (hb : b < 40) (hK : K (some (vI (nI (C a b)))) h) : Spec G l (mt mK_couplesOfTwo) [vR 112, vI x, vI y] h K := by
  subst ex; subst ey
  have i1 : nI a * 40 + nI b = nI (40 * a + b) := by rw [show (40 : Int32) = nI 40 from rfl, pk_mul, nI_add, Nat.mul_comm]
  refine eK_couplesOfTwo 19 [] fun S Cu hS hC => ?_
  refine ld 113 (cs.ob (k := 112) (ci := 3) rfl rfl rfl) (cs.rf (k := 112) (j := 0) rfl rfl) ?_
  exact ld (nI (C a b)) (cs.inA (k := 113) (n := 1600) rfl rfl rfl i1 (by omega) rfl) (rdX i1 (by omega) (c a b ha hb)) hK
theorem sK_couplesOf {x y : Int32} {a n : Nat} (cs : CS h) (c : cpl h C) (ex : x = nI a) (ey : y = nI n) (ha : a < 40) (hn : n ≤ 40) (hK : K (some (vI (nI (sumN (C a) n)))) h) : Spec G l (mt mK_couplesOf) [vR 112, vI x, vI y] h K := by
  subst ex; subst ey
  have ob : Ob h 112 3 := cs.ob (k := 112) (ci := 3) rfl rfl rfl
  have lp : ∀ k, k ≤ n → ∀ o i, o = nI (sumN (C a) k) → i = nI k → Go G l (mt mK_couplesOf) 5 [some (vR 112), some (vI (nI a)), some (vI (nI n)), some (vI o), some (vI i)] [] h 0 0 K := by
    refine upto _ ?_
    intro k hk ih o i ho hi
    subst hi
    refine gK_couplesOf 99 [(5, 5)] fun S Cu hS hC => ?_
    refine pk_le n k (fun q => ?_) (fun q => ?_)
    · obtain rfl : k = n := by omega
      subst ho; exact hK
    · refine And.intro ob (hS _ _ _ _ (sK_couplesOfTwo cs c rfl rfl ha (by omega) ?_))
      exact hC _ _ _ _ (ih q _ _ (by rw [ho, nI_add]; rfl) (nI_1 k))
  refine eK_couplesOf 19 [(5, 5)] fun S Cu hS hC => ?_
  exact hC _ _ _ _ (lp 0 (Nat.zero_le _) _ _ rfl rfl)
end CC
