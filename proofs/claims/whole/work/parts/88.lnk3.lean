/-! ===== the class: the fewest steps from dot to dot ===== -/
theorem wyV.full {n : Nat} {s : WY} (h : wyV n s) (hn : n ≤ s.2.2) : ∀ d, d < n → ¬ s.1 d = none := by
  intro d hd z
  have h1 := sumN_not (P := fun d => s.1 d = none) n
  have h2 := sumN_pos (f := fun d => wN (s.1 d = none) 1) hd
  have h3 : wN (s.1 d = none) 1 = 1 := wN_T z
  have h4 := h.2.1
  have h5 : sumN (fun d => wN (¬ s.1 d = none) 1) n + sumN (fun d => wN (s.1 d = none) 1) n = n := by rw [Nat.add_comm]; exact h1
  have h6 : 1 ≤ sumN (fun d => wN (s.1 d = none) 1) n := Nat.le_trans (Nat.le_of_eq h3.symm) h2
  omega
theorem wyI_stay {ρ : Pic} {k d n : Nat} {s : WY} (h : ∀ e, e < n → ¬ (wyI ρ k s d).1 e = none) : ∀ m, d + m ≤ n → wyI ρ k s (d + m) = wyI ρ k s d
  | 0, _ => rfl
  | m + 1, hm => by
    have ih := wyI_stay h m (by omega)
    rw [show d + (m + 1) = d + m + 1 by omega, wyI_F (fun z => h (d + m) (by omega) (by rw [← ih]; exact z.1)), ih]
theorem tch_lt {ρ : Pic} (g : Good ρ) (a b : Nat) : tch ρ a b < 2 ^ 31 := by
  have gc := g.c
  have : tch ρ a b ≤ pcc ρ * 2 := sumN_le fun c _ => by
    unfold tc1
    have := wN_le (c % pcw ρ + 1 < pcw ρ ∧ pr ρ a b c (c + 1)) 1
    have := wN_le (c / pcw ρ + 1 < pch ρ ∧ pr ρ a b c (c + pcw ρ)) 1
    omega
  omega
section CC
variable {G : GP} {l : Launch} {K : Option AV → AH → Prop} {h : AH} {ρ : Pic}
theorem sK_fewestSteps {x y w : Int32} {a b : Nat} (cs : CS h) (gd : Good ρ) (cp : cpl h (cpN ρ (pcc ρ))) (ex : x = nI a) (ey : y = nI b) (ew : w = nI (pcn ρ)) (ha : a < pcn ρ) (hb : b < pcn ρ) (hK : ∀ h', FX 999 [112] h h' → K (some (vI (oI ((wyO ρ a (pcn ρ)).1 b)))) h') : Spec G l (mt mK_fewestSteps) [vR 112, vI x, vI y, vI w] h K := by
  subst ex; subst ey; subst ew
  have g := gd.n
  have om1 : ∀ {s : WY} {d : Nat}, wyV (pcn ρ) s → (oI (s.1 d) = -1 ↔ s.1 d = none) := by
    intro s d hs
    cases e : s.1 d with
    | none => exact ⟨fun _ => rfl, fun _ => rfl⟩
    | some v => exact ⟨fun z => absurd z (nI_m1 (by have := hs.2.2 d v e; have := hs.le; omega)), fun z => by cases z⟩
  have lp : ∀ k, k ≤ pcn ρ → k ≤ (wyO ρ a k).2.2 → ∀ h1, FX 999 [112] h h1 → hI h1 113 = hI h 113 → (∀ d, d < pcn ρ → hI h1 115 d = oI ((wyO ρ a k).1 d)) → (∀ i, i < (wyO ρ a k).2.2 → hI h1 114 i = nI ((wyO ρ a k).2.1 i)) → ∀ n i, n = nI (wyO ρ a k).2.2 → i = nI k → ∀ z6 z7, Go G l (mt mK_fewestSteps) 28 [some (vR 112), some (vI (nI a)), some (vI (nI b)), some (vI (nI (pcn ρ))), some (vI n), some (vI i), z6, z7] [] h1 0 0 K := by
    refine upto _ ?_
    intro k hk ih hkl h1 f ec es eq n i hn hi z6 z7
    subst hn; subst hi
    have c1 := f.cs cs
    have ob := c1.ob (k := 112) (ci := 3) rfl rfl rfl
    have ok := wyO_ok ha k
    have okl := ok.le
    have lp2 : k < (wyO ρ a k).2.2 → ∀ d, d ≤ pcn ρ → ∀ h1, FX 999 [112] h h1 → hI h1 113 = hI h 113 → (∀ e, e < pcn ρ → hI h1 115 e = oI ((wyI ρ k (wyO ρ a k) d).1 e)) → (∀ i, i < (wyI ρ k (wyO ρ a k) d).2.2 → hI h1 114 i = nI ((wyI ρ k (wyO ρ a k) d).2.1 i)) → ∀ n i q, n = nI (wyI ρ k (wyO ρ a k) d).2.2 → i = nI d → q = nI ((wyI ρ k (wyO ρ a k) d).2.1 k) → Go G l (mt mK_fewestSteps) 54 [some (vR 112), some (vI (nI a)), some (vI (nI b)), some (vI (nI (pcn ρ))), some (vI n), some (vI (nI k)), some (vI q), some (vI i)] [] h1 0 0 K := by
      intro hk2
      refine upto _ ?_
      intro d hd ih2 h1 f ec es eq n i q hn hi hq
      subst hn; subst hi; subst hq
      have c1 := f.cs cs
      have ob := c1.ob (k := 112) (ci := 3) rfl rfl rfl
      obtain ⟨ok2, okm⟩ := wyI_ok ok hk2 d hd
      have ok2l := ok2.le
      have fin : wyO ρ a (k + 1) = wyI ρ k (wyO ρ a k) d → Go G l (mt mK_fewestSteps) 123 [some (vR 112), some (vI (nI a)), some (vI (nI b)), some (vI (nI (pcn ρ))), some (vI (nI (wyI ρ k (wyO ρ a k) d).2.2)), some (vI (nI k)), none, none] [] h1 0 0 K := by
        intro e
        refine gK_fewestSteps 99 [(28, 6)] fun S Cu hS hC => ?_
        exact hC _ _ _ _ (ih (by omega) (by rw [e]; omega) h1 f ec (by rw [e]; exact es) (by rw [e]; exact eq) _ _ (by rw [e]) (nI_1 k) _ _)
      have e0 : wyO ρ a (k + 1) = wyI ρ k (wyO ρ a k) (pcn ρ) := if_pos hk2
      refine gK_fewestSteps 99 [(54, 8), (123, 6)] fun S Cu hS hC => ?_
      refine pk_le (pcn ρ) d (fun q => ?_) (fun q => ?_)
      · obtain rfl : d = pcn ρ := by omega
        exact hC _ _ _ _ (fin e0)
      refine pk_le 40 (wyI ρ k (wyO ρ a k) d).2.2 (fun q2 => ?_) (fun q2 => ?_)
      · refine hC _ _ _ _ (fin ?_)
        have := wyI_stay (ok2.full (by omega)) (pcn ρ - d) (by omega)
        rw [show d + (pcn ρ - d) = pcn ρ by omega] at this
        rw [e0, this]
      · have qk := ok2.1 k (by omega)
        refine ld 115 ob (c1.rf (k := 112) (j := 2) rfl rfl) ?_
        refine ld _ (c1.inA (k := 115) (n := 40) (j := d) rfl rfl rfl rfl (by omega) rfl) (rdX rfl (by omega) (es d q)) ?_
        refine And.intro (fun z => ?_) (fun z => ?_)
        · have z : ¬ (wyI ρ k (wyO ρ a k) d).1 d = none := fun y => z ((om1 ok2).mpr y)
          have e := wyI_F (ρ := ρ) (k := k) (d := d) (s := wyO ρ a k) (fun y => z y.1)
          exact hC _ _ _ _ (ih2 q h1 f ec (by rw [e]; exact es) (by rw [e]; exact eq) _ _ _ (by rw [e]) (nI_1 d) (by rw [e]))
        · have z := (om1 ok2).mp z
          have cp1 : cpl h1 (cpN ρ (pcc ρ)) := fun u v hu hv => by rw [ec]; exact cp u v hu hv
          have ne : ¬ (wyI ρ k (wyO ρ a k) d).2.1 k = d := fun y => qk.2 (by rw [y]; exact z)
          have ev : cpN ρ (pcc ρ) ((wyI ρ k (wyO ρ a k) d).2.1 k) d = tch ρ ((wyI ρ k (wyO ρ a k) d).2.1 k) d := wN_T ne
          have tl := tch_lt gd ((wyI ρ k (wyO ρ a k) d).2.1 k) d
          refine And.intro ob (hS _ _ _ _ (sK_couplesOfTwo (a := (wyI ρ k (wyO ρ a k) d).2.1 k) (b := d) c1 cp1 rfl rfl (by omega) (by omega) ?_))
          rw [ev]
          refine pk_le (tch ρ ((wyI ρ k (wyO ρ a k) d).2.1 k) d) 0 (fun z2 => ?_) (fun z2 => ?_)
          · have e := wyI_F (ρ := ρ) (k := k) (d := d) (s := wyO ρ a k) (fun y => y.2 (by omega))
            exact hC _ _ _ _ (ih2 q h1 f ec (by rw [e]; exact es) (by rw [e]; exact eq) _ _ _ (by rw [e]) (nI_1 d) (by rw [e]))
          · have e := wyI_T (ρ := ρ) (k := k) (d := d) (s := wyO ρ a k) ⟨z, by omega⟩
            cases eu : (wyI ρ k (wyO ρ a k) d).1 ((wyI ρ k (wyO ρ a k) d).2.1 k) with
            | none => exact absurd eu qk.2
            | some u =>
              have ul := ok2.2.2 _ _ eu
              have s2 : (wyI ρ k (wyO ρ a k) d).2.2 < pcn ρ := (wyA_ok ok2 (k := k) (by omega) q z).le
              refine ld 115 ob (c1.rf (k := 112) (j := 2) rfl rfl) ?_
              refine ld 115 ob (c1.rf (k := 112) (j := 2) rfl rfl) ?_
              refine ld (nI u) (c1.inA (k := 115) (n := 40) (j := (wyI ρ k (wyO ρ a k) d).2.1 k) rfl rfl rfl rfl (by omega) rfl) (rdX rfl (by omega) ((es _ qk.1).trans (by rw [eu]; rfl))) ?_
              refine sw d (nI (u + 1)) (c1.inA (k := 115) (n := 40) (j := d) rfl rfl rfl rfl (by omega) rfl) (ix_nI (by omega)) (nI_1 u) ?_
              refine ld 114 ob (c1.rf (k := 112) (j := 1) rfl rfl) ?_
              refine sw (wyI ρ k (wyO ρ a k) d).2.2 (nI d) (c1.inA (k := 114) (n := 40) (j := (wyI ρ k (wyO ρ a k) d).2.2) rfl rfl rfl rfl (by omega) rfl) (ix_nI (by omega)) rfl ?_
              refine hC _ _ _ _ (ih2 q _ ((f.setI (Or.inr rfl)).setI (Or.inr rfl)) (by rw [si_nk rfl, si_nk rfl]; exact ec) (fun j hj => ?_) (fun j hj => ?_) _ _ _ (by rw [e]; exact nI_1 _) (nI_1 d) ?_)
              · rw [si_nk rfl, e]
                show _ = oI (up1 _ d _ j)
                by_cases jd : j = d
                · rw [jd, up1_eq, si_eq, eu]; rfl
                · rw [up1_ne jd, si_ne jd]; exact es j hj
              · rw [e] at hj ⊢
                have hj : j < (wyI ρ k (wyO ρ a k) d).2.2 + 1 := hj
                show _ = nI (up1 _ _ _ j)
                by_cases jd : j = (wyI ρ k (wyO ρ a k) d).2.2
                · rw [jd, up1_eq, si_eq]
                · rw [up1_ne jd, si_ne jd, si_nk rfl]; exact eq j (by omega)
              · rw [e]
                show _ = nI (up1 _ _ _ k)
                rw [up1_ne (by omega)]
    have fin : (wyO ρ a k).2.2 ≤ k → Go G l (mt mK_fewestSteps) 129 [some (vR 112), some (vI (nI a)), some (vI (nI b)), none, none, none, none, none] [] h1 0 0 K := by
      intro q
      refine gK_fewestSteps 99 [] fun S Cu hS hC => ?_
      refine ld 115 ob (c1.rf (k := 112) (j := 2) rfl rfl) ?_
      refine ld _ (c1.inA (k := 115) (n := 40) (j := b) rfl rfl rfl rfl (by omega) rfl) (rdX rfl (by omega) (es b hb)) ?_
      have e := wyO_end q (pcn ρ - k)
      rw [show k + (pcn ρ - k) = pcn ρ by omega] at e
      have := hK h1 f
      rw [e] at this
      exact this
    refine gK_fewestSteps 99 [(54, 8), (129, 3)] fun S Cu hS hC => ?_
    refine pk_le (wyO ρ a k).2.2 k (fun q => ?_) (fun q => ?_)
    · exact hC _ _ _ _ (fin q)
    refine pk_le 40 k (fun q2 => ?_) (fun q2 => ?_)
    · exact hC _ _ _ _ (fin (by omega))
    · have qk := ok.1 k q
      refine ld 114 ob (c1.rf (k := 112) (j := 1) rfl rfl) ?_
      refine ld _ (c1.inA (k := 114) (n := 40) (j := k) rfl rfl rfl rfl (by omega) rfl) (rdX rfl (by omega) (eq k q)) ?_
      exact hC _ _ _ _ (lp2 q 0 (by omega) h1 f ec es eq _ _ _ rfl rfl rfl)
  have ob := cs.ob (k := 112) (ci := 3) rfl rfl rfl
  refine eK_fewestSteps 99 [(28, 6)] fun S Cu hS hC => ?_
  refine ld 115 ob (cs.rf (k := 112) (j := 2) rfl rfl) ?_
  refine hS _ _ _ _ (sJ_fillI (n := 40) (cs.ar (k := 115) rfl rfl rfl) (by decide) fun h1 f1 v1 => ?_)
  have fx1 : FX 999 [112] h h1 := f1.x (Or.inr rfl)
  have c1 := fx1.cs cs
  have ob1 := c1.ob (k := 112) (ci := 3) rfl rfl rfl
  refine ld 115 ob1 (c1.rf (k := 112) (j := 2) rfl rfl) ?_
  refine sw a (nI 0) (c1.inA (k := 115) (n := 40) (j := a) rfl rfl rfl rfl (by omega) rfl) (ix_nI (by omega)) rfl ?_
  refine ld 114 ob1 (c1.rf (k := 112) (j := 1) rfl rfl) ?_
  refine sw 0 (nI a) (c1.inA (k := 114) (n := 40) (j := 0) rfl rfl rfl rfl (by decide) rfl) rfl rfl ?_
  refine hC _ _ _ _ (lp 0 (by omega) (Nat.zero_le _) _ ((fx1.setI (Or.inr rfl)).setI (Or.inr rfl)) (by rw [si_nk rfl, si_nk rfl]; exact f1.2.2.2.2 113 (by decide)) (fun d hd => ?_) (fun i hi => ?_) _ _ rfl rfl _ _)
  · rw [si_nk rfl]
    show _ = oI (up1 (fun _ => none) a (some 0) d)
    by_cases jd : d = a
    · rw [jd, up1_eq, si_eq]; rfl
    · rw [up1_ne jd, si_ne jd]; exact v1 d (by omega)
  · have hi : i < 1 := hi
    obtain rfl : i = 0 := by omega
    exact si_eq
end CC
