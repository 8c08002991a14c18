/-! ===== the model: who lies beside whom; grey ===== -/
theorem ad_le {a b m : Nat} (ha : a ≤ m) (hb : b ≤ m) : ad a b ≤ m := by unfold ad; omega
section MM
variable {G : GP} {l : Launch} {K : Option AV → AH → Prop} {h : AH} {ρ : Pic}
theorem sM_areBeside {c e : Nat} {a b : Int32} (p : MP h ρ) (ha : a = nI c) (hb : b = nI e) (hc : c < pcc ρ) (he : e < pcc ρ) (hK : K (some (vI (bI (bsd ρ c e)))) h) : Spec G l (mt mM_areBeside) [vR 136, vI a, vI b] h K := by
  subst ha; subst hb
  have g := p.2.2.n
  have gc := p.2.2.c
  have x1 := p.2.2.xy hc
  have x2 := p.2.2.xy he
  have hw := nI_ne0 (n := pcw ρ) (by omega) (by omega)
  refine eM_areBeside 99 [] fun S Cu hS hC => ?_
  refine And.intro p.1.ob (hS _ _ _ _ (sM_wide p ?_))
  refine And.intro hw ?_
  refine And.intro p.1.ob (hS _ _ _ _ (sM_wide p ?_))
  refine And.intro hw ?_
  refine hS _ _ _ _ (sM_sizeD (a := c % pcw ρ) (b := e % pcw ρ) (by rw [pk_rem (by omega) (by omega) (by omega), pk_rem (by omega) (by omega) (by omega)]) (by omega) (by omega) ?_)
  refine And.intro p.1.ob (hS _ _ _ _ (sM_wide p ?_))
  refine And.intro hw ?_
  refine And.intro p.1.ob (hS _ _ _ _ (sM_wide p ?_))
  refine And.intro hw ?_
  refine hS _ _ _ _ (sM_sizeD (a := c / pcw ρ) (b := e / pcw ρ) (by rw [pk_div (by omega) (by omega) (by omega), pk_div (by omega) (by omega) (by omega)]) (by omega) (by omega) ?_)
  have l1 := ad_le (m := 20) (show c % pcw ρ ≤ 20 by omega) (show e % pcw ρ ≤ 20 by omega)
  have l2 := ad_le (m := 20) (show c / pcw ρ ≤ 20 by omega) (show e / pcw ρ ≤ 20 by omega)
  refine And.intro (fun z => ?_) (fun z => ?_)
  · exact rzF (fun y => z (by rw [nI_add]; exact congrArg nI y)) hK
  · refine rzT ?_ hK
    rw [nI_add] at z
    exact (nI_eq (b := 1) (by omega) (by decide)).mp z
theorem sM_touches {a b : Nat} {x y : Int32} (p : MP h ρ) (hx : x = nI a) (hy : y = nI b) (ha : a < 40) (hb : b < 40) (ho : ∀ c, c < pcc ρ → hI h 141 c = oI (own ρ c)) (hK : K (some (vI (nI (tch ρ a b)))) h) : Spec G l (mt mM_touches) [vR 136, vI x, vI y] h K := by
  subst hx; subst hy
  have g := p.2.2.n
  have gc := p.2.2.c
  have eo : ∀ c d, c < pcc ρ → d < 40 → (hI h 141 c = nI d ↔ own ρ c = some d) := by
    intro c d hc hd
    rw [ho c hc]
    cases e : own ρ c with
    | none => exact ⟨fun z => absurd z.symm (nI_m1 (by omega)), fun z => by cases z⟩
    | some q =>
      have := own_lt e
      exact ⟨fun z => congrArg some ((nI_eq (by omega) (by omega)).mp z), fun z => by injection z with z; rw [z]; rfl⟩
  have lp : ∀ c, c ≤ pcc ρ → ∀ n i, n = nI (sumN (tc1 ρ a b) c) → i = nI c → ∀ z5 z6, Go G l (mt mM_touches) 5 [some (vR 136), some (vI (nI a)), some (vI (nI b)), some (vI n), some (vI i), z5, z6] [] h 0 0 K := by
    refine upto _ ?_
    intro c hc ih n i hn hi z5 z6
    subst hn; subst hi
    have lp2 : c < pcc ρ → ∀ k, k ≤ pcw ρ → c + k < pcc ρ → ∀ n i, n = nI (sumN (tc1 ρ a b) c + tcp ρ a b c k) → i = nI (c + (k + 1)) → ∀ z6, Go G l (mt mM_touches) 20 [some (vR 136), some (vI (nI a)), some (vI (nI b)), some (vI n), some (vI (nI c)), some (vI i), z6] [] h 0 0 K := by
      intro hc2
      refine upto _ ?_
      intro k hk ih2 hk2 n i hn hi z6
      subst hn; subst hi
      -- behind the test of the owners
      have fin : k < pcw ρ → c + (k + 1) < pcc ρ → ∀ w, w = bI (pr ρ a b c (c + (k + 1))) → ∀ z6, Go G l (mt mM_touches) 90 [some (vR 136), some (vI (nI a)), some (vI (nI b)), some (vI (nI (sumN (tc1 ρ a b) c + tcp ρ a b c k))), some (vI (nI c)), some (vI (nI (c + (k + 1)))), z6] [vI w] h 0 0 K := by
        intro q1 q2 w hw z6
        subst hw
        have fin2 : ∀ w2, w2 = bI (pr ρ a b c (c + (k + 1)) ∧ bsd ρ c (c + (k + 1))) → ∀ z6, Go G l (mt mM_touches) 114 [some (vR 136), some (vI (nI a)), some (vI (nI b)), some (vI (nI (sumN (tc1 ρ a b) c + tcp ρ a b c k))), some (vI (nI c)), some (vI (nI (c + (k + 1)))), z6] [vI w2, vI (nI (sumN (tc1 ρ a b) c + tcp ρ a b c k))] h 0 0 K := by
          intro w2 hw2 z6
          subst hw2
          refine gM_touches 99 [(20, 7)] fun S Cu hS hC => ?_
          refine hS _ _ _ _ (sM_truth ?_)
          refine hC _ _ _ _ (ih2 q1 (by omega) _ _ ?_ (nI_1 _) _)
          rw [tcp_s p.2.2 q2 q1, bI_wN, nI_add]; exact congrArg nI (by omega)
        refine gM_touches 99 [(114, 7)] fun S Cu hS hC => ?_
        refine brE (fun z => ?_) (fun z => ?_)
        · exact hC _ _ _ _ (fin2 _ (bI_F (fun y => z y.1)).symm _)
        · refine And.intro p.1.ob (hS _ _ _ _ (sM_areBeside p rfl rfl hc2 q2 ?_))
          refine brE (fun z2 => ?_) (fun z2 => ?_)
          · exact hC _ _ _ _ (fin2 _ (bI_F (fun y => z2 y.2)).symm _)
          · exact hC _ _ _ _ (fin2 _ (bI_T ⟨z, z2⟩).symm _)
      have two : k < pcw ρ → c + (k + 1) < pcc ρ → ¬ (own ρ c = some a ∧ own ρ (c + (k + 1)) = some b) → ∀ z6, Go G l (mt mM_touches) 63 [some (vR 136), some (vI (nI a)), some (vI (nI b)), some (vI (nI (sumN (tc1 ρ a b) c + tcp ρ a b c k))), some (vI (nI c)), some (vI (nI (c + (k + 1)))), z6] [] h 0 0 K := by
        intro q1 q hn z6
        refine gM_touches 99 [(90, 7)] fun S Cu hS hC => ?_
        refine ld 141 p.1.ob (p.1.2.2 19) ?_
        refine ld (hI h 141 c) (p.1.inA (j := c) rfl rfl rfl rfl (by omega) rfl) (rdA rfl (by omega) rfl) ?_
        refine And.intro (fun z => ?_) (fun z => ?_)
        · exact hC _ _ _ _ (fin q1 q _ (bI_F (fun y => y.elim hn (fun y => z ((eo c b hc2 hb).mpr y.1)))).symm _)
        refine ld 141 p.1.ob (p.1.2.2 19) ?_
        refine ld (hI h 141 (c + (k + 1))) (p.1.inA (j := c + (k + 1)) rfl rfl rfl rfl (by omega) rfl) (rdA rfl (by omega) rfl) ?_
        refine And.intro (fun z2 => ?_) (fun z2 => ?_)
        · exact hC _ _ _ _ (fin q1 q _ (bI_F (fun y => y.elim hn (fun y => z2 ((eo _ a q ha).mpr y.2)))).symm _)
        · exact hC _ _ _ _ (fin q1 q _ (bI_T (Or.inr ⟨(eo c b hc2 hb).mp z, (eo _ a q ha).mp z2⟩)).symm _)
      refine gM_touches 99 [(5, 7), (90, 7), (63, 7)] fun S Cu hS hC => ?_
      refine And.intro p.1.ob (hS _ _ _ _ (sM_cells p ?_))
      refine pk_le (pcc ρ) (c + (k + 1)) (fun q => ?_) (fun q => ?_)
      · refine hC _ _ _ _ (ih hc2 _ _ ?_ (nI_1 c) _ _)
        rw [tcp_end p.2.2 hc2 (Or.inr q)]; rfl
      refine And.intro p.1.ob (hS _ _ _ _ (sM_wide p ?_))
      refine pk_lt (c + pcw ρ) (c + (k + 1)) (fun q2 => ?_) (fun q2 => ?_) (nI_add _ _) rfl
      · refine hC _ _ _ _ (ih hc2 _ _ ?_ (nI_1 c) _ _)
        rw [tcp_end p.2.2 hc2 (Or.inl (by omega))]; rfl
      have q1 : k < pcw ρ := by omega
      refine ld 141 p.1.ob (p.1.2.2 19) ?_
      refine ld (hI h 141 c) (p.1.inA (j := c) rfl rfl rfl rfl (by omega) rfl) (rdA rfl (by omega) rfl) ?_
      refine And.intro (fun z => ?_) (fun z => ?_)
      · exact hC _ _ _ _ (two q1 q (fun y => z ((eo c a hc2 ha).mpr y.1)) _)
      refine ld 141 p.1.ob (p.1.2.2 19) ?_
      refine ld (hI h 141 (c + (k + 1))) (p.1.inA (j := c + (k + 1)) rfl rfl rfl rfl (by omega) rfl) (rdA rfl (by omega) rfl) ?_
      refine And.intro (fun z2 => ?_) (fun z2 => ?_)
      · exact hC _ _ _ _ (fin q1 q _ (bI_T (Or.inl ⟨(eo c a hc2 ha).mp z, (eo _ b q hb).mp z2⟩)).symm _)
      · exact hC _ _ _ _ (two q1 q (fun y => z2 ((eo _ b q hb).mpr y.2)) _)
    refine gM_touches 99 [(20, 7)] fun S Cu hS hC => ?_
    refine And.intro p.1.ob (hS _ _ _ _ (sM_cells p ?_))
    refine pk_le (pcc ρ) c (fun q => ?_) (fun q => ?_)
    · obtain rfl : c = pcc ρ := by omega
      exact hK
    · refine hC _ _ _ _ (lp2 q 0 (by omega) (by omega) _ _ ?_ (nI_1 c) _)
      rw [tcp_0 p.2.2]; rfl
  exact eM_touches 9 [(5, 7)] fun S Cu hS hC => hC _ _ _ _ (lp 0 (by omega) _ _ rfl rfl _ _)
end MM
