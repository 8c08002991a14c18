/-! ===== the class: boxes ===== -/
def BH (k : Nat) : Prop := k = 122 ∨ k = 129
theorem BH.ob {h : AH} {k : Nat} (b : BH k) (cs : CS h) : Ob h k 1 := by rcases b with rfl | rfl <;> exact cs.ob rfl rfl rfl
theorem BH.r1 {h : AH} {k : Nat} (b : BH k) (cs : CS h) : hR h k 1 = k + 1 := by rcases b with rfl | rfl <;> exact cs.rf rfl rfl
theorem BH.r2 {h : AH} {k : Nat} (b : BH k) (cs : CS h) : hR h k 2 = k + 6 := by rcases b with rfl | rfl <;> exact cs.rf rfl rfl
theorem BH.ar {h : AH} {k : Nat} (b : BH k) (cs : CS h) : Ar h (k + 6) 0 400 := by rcases b with rfl | rfl <;> exact cs.ar rfl rfl rfl
theorem BH.inA {h : AH} {k : Nat} (b : BH k) (cs : CS h) {i : Int32} {j : Nat} (hi : i = nI j) (hj : j < 400) : InA h (k + 6) 0 i := ⟨400, b.ar cs, by subst hi; exact vp_in_nI hj (by decide)⟩
theorem BH.sh {k : Nat} (b : BH k) : SH (k + 1) := by rcases b with rfl | rfl <;> rfl
theorem oI_inj {o p : Option Nat} (ho : ∀ b, o = some b → b < 2 ^ 31) (hp : ∀ b, p = some b → b < 2 ^ 31) (e : oI o = oI p) : o = p := by
  cases p with
  | none =>
    cases o with
    | none => rfl
    | some b => exact absurd e (fun z => nI_m1 (ho b rfl) z)
  | some b => exact (oI_eq ho (hp b rfl)).mp e
section CC
variable {G : GP} {l : Launch} {K : Option AV → AH → Prop} {h : AH} {ρ : Pic}
variable {s k : Nat} {β : Pic}
theorem sB_otherWeights (b : BH k) (x : SC h s ρ) (y : SC h (k + 1) β) (ec : pcc β = pcc ρ) (hK : K (some (vI (nI (sumN (fun c => wN (¬ pcW β c = pcW ρ c) 1) (pcc ρ))))) h) : Spec G l (mt mB_otherWeights) [vR k, vR s] h K := by
  have g := x.2.2.2.n
  have gc := x.2.2.2.c
  have lp : ∀ n, n ≤ pcc ρ → ∀ o i, o = nI (sumN (fun c => wN (¬ pcW β c = pcW ρ c) 1) n) → i = nI n → Go G l (mt mB_otherWeights) 4 [some (vR k), some (vR s), some (vI o), some (vI i)] [] h 0 0 K := by
    refine upto _ ?_
    intro n hn ih o i ho hi
    subst hi
    refine gB_otherWeights 99 [(4, 4)] fun S Cu hS hC => ?_
    refine And.intro (x.ob) (hS _ _ _ _ (sS_size x ?_))
    refine pk_le (pcc ρ) n (fun q => ?_) (fun q => ?_)
    · obtain rfl : n = pcc ρ := by omega
      subst ho; exact hK
    · have w1 := x.2.2.2.2.1 n (by omega)
      have w2 := y.2.2.2.2.1 n (by omega)
      refine ld _ x.ob x.r4 ?_
      refine ld _ (x.inW rfl (by omega)) (x.W rfl q) ?_
      refine ld (k + 1) (b.ob x.1) (b.r1 x.1) ?_
      refine ld _ y.ob y.r4 ?_
      refine ld _ (y.inW rfl (by omega)) (y.W rfl (by omega)) ?_
      refine pk_eq (pcW ρ n) (pcW β n) (fun q1 => ?_) (fun q1 => ?_)
      · exact hC _ _ _ _ (ih q _ _ (cntF (P := fun c => ¬ pcW β c = pcW ρ c) (fun z => z q1.symm) ho) (nI_1 n))
      · exact hC _ _ _ _ (ih q _ _ (cntT (P := fun c => ¬ pcW β c = pcW ρ c) (fun z => q1 z.symm) ho) (nI_1 n))
  refine eB_otherWeights 19 [(4, 4)] fun S Cu hS hC => ?_
  exact hC _ _ _ _ (lp 0 (by omega) _ _ rfl rfl)
theorem sB_otherOwners {f : Nat} (b : BH k) (x : SC h s ρ) (hf : FH f) (ow : owR h f ρ (own ρ)) (gβ : Good β) (ec : pcc β = pcc ρ) (hb : ∀ c, c < pcc β → hI h (k + 6) c = oI (own β c)) (hK : K (some (vI (nI (sumN (fun c => wN (¬ own ρ c = own β c) 1) (pcc ρ))))) h) : Spec G l (mt mB_otherOwners) [vR k, vR s, vR f] h K := by
  have g := x.2.2.2.n
  have gc := x.2.2.2.c
  have gn := gβ.n
  have A := hf.a
  have lp : ∀ n, n ≤ pcc ρ → ∀ o i, o = nI (sumN (fun c => wN (¬ own ρ c = own β c) 1) n) → i = nI n → Go G l (mt mB_otherOwners) 5 [some (vR k), some (vR s), some (vR f), some (vI o), some (vI i)] [] h 0 0 K := by
    refine upto _ ?_
    intro n hn ih o i ho hi
    subst hi
    refine gB_otherOwners 99 [(5, 5)] fun S Cu hS hC => ?_
    refine And.intro (x.ob) (hS _ _ _ _ (sS_size x ?_))
    refine pk_le (pcc ρ) n (fun q => ?_) (fun q => ?_)
    · obtain rfl : n = pcc ρ := by omega
      subst ho; exact hK
    · have inj := oI_inj (o := own ρ n) (p := own β n) (fun b e => by have := (ow_lt e).1; omega) (fun b e => by have := (ow_lt e).1; omega)
      refine ld (f + 1) (x.1.fob hf) (x.1.fr hf (by decide)) ?_
      refine ld (oI (own ρ n)) (x.1.fin hf (by decide) A.2.1 rfl (by omega) (by decide)) (rdX rfl (by omega) (ow n q).1) ?_
      refine ld (k + 6) (b.ob x.1) (b.r2 x.1) ?_
      refine ld (oI (own β n)) (b.inA x.1 rfl (by omega)) (rdX rfl (by omega) (hb n (by omega))) ?_
      refine And.intro (fun q1 => ?_) (fun q1 => ?_)
      · exact hC _ _ _ _ (ih q _ _ (cntF (P := fun c => ¬ own ρ c = own β c) (fun z => z (inj q1)) ho) (nI_1 n))
      · exact hC _ _ _ _ (ih q _ _ (cntT (P := fun c => ¬ own ρ c = own β c) (fun z => q1 (congrArg oI z)) ho) (nI_1 n))
  refine eB_otherOwners 19 [(5, 5)] fun S Cu hS hC => ?_
  exact hC _ _ _ _ (lp 0 (by omega) _ _ rfl rfl)
theorem sB_otherDots (b : BH k) (x : SC h s ρ) (y : SC h (k + 1) β) (hK : K (some (vI (nI (sumN (fun d => wN (¬ same β ρ d) 1) (mn (pcn ρ) (pcn β)))))) h) : Spec G l (mt mB_otherDots) [vR k, vR s] h K := by
  have g := x.2.2.2.n
  have gy := y.2.2.2.n
  have mm : mn (pcn ρ) (pcn β) ≤ pcn ρ ∧ mn (pcn ρ) (pcn β) ≤ pcn β ∧ (mn (pcn ρ) (pcn β) = pcn ρ ∨ mn (pcn ρ) (pcn β) = pcn β) := by unfold mn; split <;> omega
  have lp : ∀ n, n ≤ mn (pcn ρ) (pcn β) → ∀ o i, o = nI (sumN (fun d => wN (¬ same β ρ d) 1) n) → i = nI n → Go G l (mt mB_otherDots) 4 [some (vR k), some (vR s), some (vI o), some (vI i)] [] h 0 0 K := by
    refine upto _ ?_
    intro n hn ih o i ho hi
    subst hi
    have fin : n = mn (pcn ρ) (pcn β) → K (some (vI o)) h := fun e => by subst e; subst ho; exact hK
    refine gB_otherDots 99 [(4, 4)] fun S Cu hS hC => ?_
    refine ld _ x.ob x.2.2.1.1.2.2.1 ?_
    refine pk_le (pcn ρ) n (fun q => ?_) (fun q => ?_)
    · exact fin (by omega)
    refine ld (k + 1) (b.ob x.1) (b.r1 x.1) ?_
    refine ld _ y.ob y.2.2.1.1.2.2.1 ?_
    refine pk_le (pcn β) n (fun q2 => ?_) (fun q2 => ?_)
    · exact fin (by omega)
    have q3 : n < mn (pcn ρ) (pcn β) := by omega
    refine ld (k + 1) (b.ob x.1) (b.r1 x.1) ?_
    refine And.intro (x.ob) (hS _ _ _ _ (sS_liesAsIn x y rfl q q2 ?_))
    refine brN (fun z => ?_) (fun z => ?_)
    · exact hC _ _ _ _ (ih q3 _ _ (cntF (P := fun d => ¬ same β ρ d) (fun w => w z.sy) ho) (nI_1 n))
    · exact hC _ _ _ _ (ih q3 _ _ (cntT (P := fun d => ¬ same β ρ d) (fun w => z w.sy) ho) (nI_1 n))
  refine eB_otherDots 19 [(4, 4)] fun S Cu hS hC => ?_
  exact hC _ _ _ _ (lp 0 (Nat.zero_le _) _ _ rfl rfl)
end CC
