/-! ===== the class: all couples ===== -/
noncomputable def cpN (ρ : Pic) (n : Nat) : Nat → Nat → Nat := fun a b => wN (¬ a = b) (sumN (tc1 ρ a b) n)
noncomputable def cpH (ρ : Pic) (n : Nat) : Nat → Nat → Nat := fun a b => cpN ρ n a b + wN (¬ a = b ∧ (n % pcw ρ + 1 < pcw ρ ∧ pr ρ a b n (n + 1))) 1
theorem cpH_s {ρ : Pic} {n a b : Nat} : cpH ρ n a b + wN (¬ a = b ∧ (n / pcw ρ + 1 < pch ρ ∧ pr ρ a b n (n + pcw ρ))) 1 = cpN ρ (n + 1) a b := by
  unfold cpH cpN
  have e : sumN (tc1 ρ a b) (n + 1) = sumN (tc1 ρ a b) n + tc1 ρ a b n := rfl
  by_cases q : a = b
  · rw [wN_F (fun z => z q), wN_F (fun z => z.1 q), wN_F (fun z => z.1 q), wN_F (fun z => z q)]
  · rw [wN_T q, wN_T q, e]
    unfold tc1
    rw [wN_eq (p := ¬ a = b ∧ (n % pcw ρ + 1 < pcw ρ ∧ pr ρ a b n (n + 1))) (q := n % pcw ρ + 1 < pcw ρ ∧ pr ρ a b n (n + 1)) ⟨fun z => z.2, fun z => ⟨q, z⟩⟩, wN_eq (p := ¬ a = b ∧ (n / pcw ρ + 1 < pch ρ ∧ pr ρ a b n (n + pcw ρ))) (q := n / pcw ρ + 1 < pch ρ ∧ pr ρ a b n (n + pcw ρ)) ⟨fun z => z.2, fun z => ⟨q, z⟩⟩]
    omega
theorem jn_1 {ρ : Pic} {n : Nat} (h : n % pcw ρ + 1 < pcw ρ) : jn (own ρ n) (own ρ (n + 1)) (cpN ρ n) = cpH ρ n := by
  funext a b; unfold jn cpH
  rw [wN_eq (q := ¬ a = b ∧ (n % pcw ρ + 1 < pcw ρ ∧ pr ρ a b n (n + 1))) ⟨fun z => ⟨z.1, h, z.2⟩, fun z => ⟨z.1, z.2.2⟩⟩]
theorem jn_2 {ρ : Pic} {n : Nat} (h : n / pcw ρ + 1 < pch ρ) : jn (own ρ n) (own ρ (n + pcw ρ)) (cpH ρ n) = cpN ρ (n + 1) := by
  funext a b; unfold jn
  rw [wN_eq (q := ¬ a = b ∧ (n / pcw ρ + 1 < pch ρ ∧ pr ρ a b n (n + pcw ρ))) ⟨fun z => ⟨z.1, h, z.2⟩, fun z => ⟨z.1, z.2.2⟩⟩, cpH_s]
theorem cp_1 {ρ : Pic} {n : Nat} (h : ¬ n % pcw ρ + 1 < pcw ρ) : cpH ρ n = cpN ρ n := by
  funext a b; unfold cpH; rw [wN_F (fun z => h z.2.1)]; rfl
theorem cp_2 {ρ : Pic} {n : Nat} (h : ¬ n / pcw ρ + 1 < pch ρ) : cpN ρ (n + 1) = cpH ρ n := by
  funext a b; rw [← cpH_s, wN_F (fun z => h z.2.1)]; rfl
theorem F1.tr {k : Nat} {h h1 h2 : AH} (a : F1 k h h1) (b : F1 k h1 h2) : F1 k h h2 := ⟨b.1.trans a.1, b.2.1.trans a.2.1, b.2.2.1.trans a.2.2.1, b.2.2.2.1.trans a.2.2.2.1, fun q hq => (b.2.2.2.2 q hq).trans (a.2.2.2.2 q hq)⟩
theorem F1.ow {k f : Nat} {h h' : AH} {ρ : Pic} {O : Nat → Option Nat} (a : F1 k h h') (o : owR h f ρ O) (hk : f + 1 ≠ k) : owR h' f ρ O := by
  intro c hc; rw [a.2.2.2.2 _ hk, a.2.2.2.1]; exact o c hc
section CC
variable {G : GP} {l : Launch} {K : Option AV → AH → Prop} {h : AH} {ρ : Pic}
variable {s f : Nat}
theorem sK_countCouples (x : SC h s ρ) (hf : FH f) (ow : owR h f ρ (own ρ)) (hK : ∀ h', F1 113 h h' → cpl h' (cpN ρ (pcc ρ)) → K none h') : Spec G l (mt mK_countCouples) [vR 112, vR s, vR f] h K := by
  have g := x.2.2.2.n
  have gc := x.2.2.2.c
  have A := hf.a
  have f113 : f + 1 ≠ 113 := by rcases hf with rfl | rfl <;> decide
  have hx : ∀ h', F1 113 h h' → SC h' s ρ ∧ owR h' f ρ (own ρ) := fun h' o => ⟨x.fx (L := [112]) (o.x (Or.inr rfl)) rfl, o.ow ow f113⟩
  have ol : ∀ c a, own ρ c = some a → a < 40 := fun c a e => by have := (ow_lt e).1; omega
  have out : ∀ y, y ≤ pch ρ → ∀ h', F1 113 h h' → cpl h' (cpN ρ (pcw ρ * y)) → ∀ yy z4 z5, yy = nI y → Go G l (mt mK_countCouples) 10 [some (vR 112), some (vR s), some (vR f), some (vI yy), z4, z5] [] h' 0 0 K := by
    refine upto _ ?_
    intro y hy ih h' o cp yy z4 z5 hyy
    subst hyy
    have inn : y < pch ρ → ∀ m, m ≤ pcw ρ → ∀ h', F1 113 h h' → cpl h' (cpN ρ (pcw ρ * y + m)) → ∀ xx z5, xx = nI m → Go G l (mt mK_countCouples) 21 [some (vR 112), some (vR s), some (vR f), some (vI (nI y)), some (vI xx), z5] [] h' 0 0 K := by
      intro hy2
      refine upto _ ?_
      intro m hm ih2 h' o cp xx z5 hxx
      subst hxx
      obtain ⟨x', ow'⟩ := hx h' o
      by_cases q : m < pcw ρ
      · obtain ⟨c1, c2, c3⟩ := cel_lt (ρ := ρ) q hy2
        have half : ∀ h2, F1 113 h h2 → cpl h2 (cpH ρ (pcw ρ * y + m)) → Go G l (mt mK_countCouples) 70 [some (vR 112), some (vR s), some (vR f), some (vI (nI y)), some (vI (nI m)), some (vI (nI (pcw ρ * y + m)))] [] h2 0 0 K := by
          intro h2 o2 cp2
          obtain ⟨x2, ow2⟩ := hx h2 o2
          refine gK_countCouples 99 [(21, 5)] fun S Cu hS hC => ?_
          refine ld _ x2.ob x2.2.2.1.1.2.1 ?_
          refine pk_le (pch ρ) (y + 1) (fun q1 => ?_) (fun q1 => ?_) rfl (nI_1 y)
          · exact hC _ _ _ _ (ih2 q h2 o2 (by rw [← Nat.add_assoc, cp_2 (by rw [c3]; omega)]; exact cp2) _ _ (nI_1 m))
          · have c5 : pcw ρ * y + m + pcw ρ < pcc ρ := by
              have := (cel_lt (ρ := ρ) q q1).1
              rw [Nat.mul_succ] at this; omega
            refine ld (f + 1) (x2.1.fob hf) (x2.1.fr hf (by decide)) ?_
            refine ld (oI (own ρ (pcw ρ * y + m))) (x2.1.fin hf (by decide) A.2.1 rfl (by omega) (by decide)) (rdX rfl (by omega) (ow2 _ c1).1) ?_
            refine ld (f + 1) (x2.1.fob hf) (x2.1.fr hf (by decide)) ?_
            refine ld _ x2.ob x2.2.2.1.1.1 ?_
            refine ld (oI (own ρ (pcw ρ * y + m + pcw ρ))) (x2.1.fin hf (by decide) A.2.1 (nI_add _ _) (by omega) (by decide)) (rdX (nI_add _ _) (by omega) (ow2 _ c5).1) ?_
            refine And.intro (x2.1.ob (k := 112) (ci := 3) rfl rfl rfl) (hS _ _ _ _ (sK_join x2.1 cp2 rfl rfl (ol _) (ol _) fun h3 o3 cp3 => ?_))
            rw [jn_2 (by rw [c3]; exact q1)] at cp3
            exact hC _ _ _ _ (ih2 q h3 (o2.tr o3) (by rw [← Nat.add_assoc]; exact cp3) _ _ (nI_1 m))
        refine gK_countCouples 99 [(70, 6)] fun S Cu hS hC => ?_
        refine ld _ x'.ob x'.2.2.1.1.1 ?_
        refine pk_le (pcw ρ) m (fun z => by omega) (fun _ => ?_)
        refine And.intro (x'.ob) (hS _ _ _ _ (sS_numberOf x' rfl rfl ?_))
        refine ld _ x'.ob x'.2.2.1.1.1 ?_
        refine pk_le (pcw ρ) (m + 1) (fun q1 => ?_) (fun q1 => ?_) rfl (nI_1 m)
        · exact hC _ _ _ _ (half h' o (by rw [cp_1 (by rw [c2]; omega)]; exact cp))
        · have c5 : pcw ρ * y + m + 1 < pcc ρ := (cel_lt (ρ := ρ) q1 hy2).1
          refine ld (f + 1) (x'.1.fob hf) (x'.1.fr hf (by decide)) ?_
          refine ld (oI (own ρ (pcw ρ * y + m))) (x'.1.fin hf (by decide) A.2.1 rfl (by omega) (by decide)) (rdX rfl (by omega) (ow' _ c1).1) ?_
          refine ld (f + 1) (x'.1.fob hf) (x'.1.fr hf (by decide)) ?_
          refine ld (oI (own ρ (pcw ρ * y + m + 1))) (x'.1.fin hf (by decide) A.2.1 (nI_1 _) (by omega) (by decide)) (rdX (nI_1 _) (by omega) (ow' _ c5).1) ?_
          refine And.intro (x'.1.ob (k := 112) (ci := 3) rfl rfl rfl) (hS _ _ _ _ (sK_join x'.1 cp rfl rfl (ol _) (ol _) fun h3 o3 cp3 => ?_))
          rw [jn_1 (by rw [c2]; exact q1)] at cp3
          exact hC _ _ _ _ (half h3 (o.tr o3) cp3)
      · obtain rfl : m = pcw ρ := by omega
        refine gK_countCouples 99 [(10, 4)] fun S Cu hS hC => ?_
        refine ld _ x'.ob x'.2.2.1.1.1 ?_
        refine And.intro (fun _ => ?_) (fun z => absurd (Int32.le_refl _) z)
        exact hC _ _ _ _ (ih hy2 h' o (by rw [Nat.mul_succ]; exact cp) _ _ _ (nI_1 y))
    obtain ⟨x', ow'⟩ := hx h' o
    refine gK_countCouples 99 [(21, 5)] fun S Cu hS hC => ?_
    refine ld _ x'.ob x'.2.2.1.1.2.1 ?_
    refine pk_le (pch ρ) y (fun q => ?_) (fun q => ?_)
    · obtain rfl : y = pch ρ := by omega
      exact hK h' o cp
    · exact hC _ _ _ _ (inn q 0 (by omega) h' o cp _ _ rfl)
  refine eK_countCouples 39 [(10, 4)] fun S Cu hS hC => ?_
  refine ld 113 (x.1.ob (k := 112) (ci := 3) rfl rfl rfl) (x.1.rf (k := 112) (j := 0) rfl rfl) ?_
  refine hS _ _ _ _ (sJ_fillI (n := 1600) (x.1.ar (k := 113) rfl rfl rfl) (by decide) fun h1 f1 v1 => ?_)
  refine hC _ _ _ _ (out 0 (Nat.zero_le _) h1 f1 (fun a b ha hb => ?_) _ _ _ rfl)
  rw [v1 _ (by omega)]
  unfold cpN
  rw [Nat.mul_zero]
  by_cases q : a = b
  · rw [wN_F (fun z => z q)]; rfl
  · rw [wN_T q]; rfl
end CC
