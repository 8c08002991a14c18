/-! ===== the model: owners, loads, costs ===== -/
section MM
variable {G : GP} {l : Launch} {K : Option AV → AH → Prop} {h : AH} {ρ : Pic}
theorem sM_costBy {c : Nat} {o : Option Nat} {a b : Int32} (p : MP h ρ) (ha : a = nI c) (hb : b = oI o) (hc : c < pcc ρ) (ho : ∀ d, o = some d → d < pcn ρ) (hK : K (some (vL (lN (cstO ρ c o)))) h) : Spec G l (mt mM_costBy) [vR 136, vI a, vI b] h K := by
  subst ha; subst hb
  have g := p.2.2.n
  have gc := p.2.2.c
  cases o with
  | none =>
    refine eM_costBy 39 [] fun S Cu hS hC => ?_
    refine And.intro (fun z => absurd rfl z) (fun _ => ?_)
    exact hK
  | some d =>
    have hd := ho d rfl
    have sp := spn_pos p.2.2 hd
    have gp := gap_le p.2.2 hc hd
    have hw := pcW_le p.2.2 hc
    refine eM_costBy 39 [] fun S Cu hS hC => ?_
    refine And.intro (fun _ => ?_) (fun z => absurd z (nI_m1 (by omega)))
    refine And.intro p.1.ob (hS _ _ _ _ (sM_weight p rfl (by omega) ?_))
    refine And.intro p.1.ob (hS _ _ _ _ (sM_upper p rfl rfl hc hd ?_))
    refine And.intro p.1.ob (hS _ _ _ _ (sM_lower p rfl hd ?_))
    have e : Int64.ofNat 1000 * (nI (pcW ρ c)).toInt64 * lN (gap ρ c d) = lN (1000 * pcW ρ c * gap ρ c d) := by (try simp (disch := omega) only [pk_rem, pk_lRem]) <;> simp (disch := omega) only [nl0, nl1, nl2, nl3, nl4, nl8, nl9, nl10, nl12, nl20, nl24, nl30, nl32, nl40, nl48, nl100, nl120, nl200, nl255, nl400, nl404, nl524, nl900, nl1000, nl9999, nl16, nl65536, nI_add, pk_mul, pk_sub, pk_div, pk_rem, nI_l, lN_add, lN_mul, lN_sqd, lN_i, ll0, ll1, ll1000]
    have b1 : 1000 * pcW ρ c * gap ρ c d < 2 ^ 63 := Nat.lt_of_le_of_lt (Nat.mul_le_mul (show 1000 * pcW ρ c ≤ 9000 by omega) gp) (by decide)
    refine And.intro (fun z => ?_) ?_
    · rw [show (0 : Int64) = lN 0 from rfl, pk_lEQ (by omega) (by omega)] at z; omega
    · refine rtL (K := K) ?_ hK
      rw [e, pk_lDiv b1 (by omega) (by omega)]; rfl
theorem sM_costBut {b : Int32} (p : MP h ρ) (hK : K (some (vL (lN (sumN (fun c => cstO ρ c (owX ρ b c)) (pcc ρ))))) h) : Spec G l (mt mM_costBut) [vR 136, vI b] h K := by
  have g := p.2.2.n
  have gc := p.2.2.c
  have lp : ∀ k, k ≤ pcc ρ → ∀ i o, i = nI k → o = lN (sumN (fun c => cstO ρ c (owX ρ b c)) k) → Go G l (mt mM_costBut) 5 [some (vR 136), some (vI b), some (vL o), none, some (vI i)] [] h 0 0 K := by
    refine upto _ ?_
    intro k hk ih i o hi ho
    subst hi
    refine gM_costBut 99 [(5, 5)] fun S Cu hS hC => ?_
    refine And.intro p.1.ob (hS _ _ _ _ (sM_cells p ?_))
    refine pk_le (pcc ρ) k (fun q => ?_) (fun q => ?_)
    · obtain rfl : k = pcc ρ := by omega
      subst ho; exact hK
    · refine And.intro p.1.ob (hS _ _ _ _ (sM_ownerBut p rfl q ?_))
      refine And.intro p.1.ob (hS _ _ _ _ (sM_costBy p rfl rfl q (fun d hd => (ow_lt hd).1) ?_))
      refine hC _ _ _ _ (ih q _ _ (nI_1 k) ?_)
      rw [ho, lN_add]; rfl
  exact eM_costBut 9 [(5, 5)] fun S Cu hS hC => hC _ _ _ _ (lp 0 (by omega) _ _ rfl rfl)
theorem sM_allCost (p : MP h ρ) (hK : K (some (vI (nI (tot ρ)))) h) : Spec G l (mt mM_allCost) [vR 136] h K := by
  refine eM_allCost 9 [] fun S Cu hS hC => ?_
  refine And.intro p.1.ob (hS _ _ _ _ (sM_costBut p ?_))
  refine rtI (K := K) ?_ hK
  rw [lN_i]
  unfold tot
  rw [sumN_congr (fun i _ => by rw [owX_m1 p.2.2])]
theorem sM_laysOwners (p : MP h ρ) (hK : ∀ h', Fr [141] h h' → (∀ c, c < pcc ρ → hI h' 141 c = oI (own ρ c)) → K none h') : Spec G l (mt mM_laysOwners) [vR 136] h K := by
  have g := p.2.2.n
  have gc := p.2.2.c
  have lp : ∀ k, k ≤ pcc ρ → ∀ h', Fr [141] h h' → (∀ c, c < k → hI h' 141 c = oI (own ρ c)) → ∀ i, i = nI k → Go G l (mt mM_laysOwners) 2 [some (vR 136), some (vI i)] [] h' 0 0 K := by
    refine upto _ ?_
    intro k hk ih h' f ho i hi
    subst hi
    have p := p.fr f rfl
    refine gM_laysOwners 99 [(2, 2)] fun S Cu hS hC => ?_
    refine And.intro p.1.ob (hS _ _ _ _ (sM_cells p ?_))
    refine pk_le (pcc ρ) k (fun q => ?_) (fun q => ?_)
    · obtain rfl : k = pcc ρ := by omega
      exact hK h' f ho
    · refine ld 141 p.1.ob (p.1.2.2 19) ?_
      refine And.intro p.1.ob (hS _ _ _ _ (sM_ownerBut p rfl q ?_))
      refine sw k (oI (own ρ k)) (p.1.inA (j := k) rfl rfl rfl rfl (by omega) rfl) (ix_nI (by omega)) (congrArg oI (owX_m1 p.2.2 k)) ?_
      refine hC _ _ _ _ (ih q _ (f.setI rfl) ?_ _ (nI_1 k))
      intro c hc
      by_cases e : c = k
      · subst e; exact si_eq
      · rw [si_ne e]; exact ho c (by omega)
  exact eM_laysOwners 9 [(2, 2)] fun S Cu hS hC => hC _ _ _ _ (lp 0 (by omega) _ Fr.rf (fun c hc => by omega) _ rfl)
theorem sM_laysLoads (p : MP h ρ) (hK : ∀ h', Fr [141, 142] h h' → (∀ c, c < pcc ρ → hI h' 141 c = oI (own ρ c)) → (∀ d, d < pcn ρ → hI h' 142 d = nI (load ρ d)) → K none h') : Spec G l (mt mM_laysLoads) [vR 136] h K := by
  have g := p.2.2.n
  have gc := p.2.2.c
  have lp2 : ∀ k, k ≤ pcc ρ → ∀ h', Fr [141, 142] h h' → (∀ c, c < pcc ρ → hI h' 141 c = oI (own ρ c)) → (∀ d, d < pcn ρ → hI h' 142 d = nI (sumN (fun c => wN (own ρ c = some d) (pcW ρ c)) k)) → ∀ i, i = nI k → Go G l (mt mM_laysLoads) 29 [some (vR 136), some (vI i)] [] h' 0 0 K := by
    refine upto _ ?_
    intro k hk ih h' f ho hl i hi
    subst hi
    have p := p.fr f rfl
    refine gM_laysLoads 99 [(29, 2)] fun S Cu hS hC => ?_
    refine And.intro p.1.ob (hS _ _ _ _ (sM_cells p ?_))
    refine pk_le (pcc ρ) k (fun q => ?_) (fun q => ?_)
    · obtain rfl : k = pcc ρ := by omega
      exact hK h' f ho hl
    · refine And.intro p.1.ob (hS _ _ _ _ (sM_dots p ?_))
      refine pk_le (pcn ρ) 0 (fun z => ?_) (fun z => ?_)
      · exact hK h' f ho (fun d hd => by omega)
      · obtain ⟨o, eo⟩ := own_some (ρ := ρ) (c := k) z
        have ol := own_lt eo
        refine ld 142 p.1.ob (p.1.2.2 20) ?_
        refine ld 141 p.1.ob (p.1.2.2 19) ?_
        refine ld (nI o) (p.1.inA (j := k) rfl rfl rfl rfl (by omega) rfl) (by rw [ix_nI (by omega), ho k q, eo]; rfl) ?_
        refine ld _ (p.1.inA (j := o) rfl rfl rfl rfl (by omega) rfl) (rdA rfl (by omega) (hl o ol)) ?_
        refine And.intro p.1.ob (hS _ _ _ _ (sM_weight p rfl (by omega) ?_))
        refine sw o _ (p.1.inA (j := o) rfl rfl rfl rfl (by omega) rfl) (ix_nI (by omega)) (nI_add _ _) ?_
        refine hC _ _ _ _ (ih q _ (f.setI rfl) ?_ ?_ _ (nI_1 k))
        · intro c hc; rw [si_nk rfl]; exact ho c hc
        · intro d hd
          by_cases e : d = o
          · subst e; rw [si_eq]; simp only [sumN]; rw [wN_T eo]
          · rw [si_ne e, hl d hd]; simp only [sumN]; rw [wN_F (fun z => e (by rw [eo] at z; injection z with z; exact z.symm))]; rfl
  have lp1 : ∀ k, k ≤ pcn ρ → ∀ h', Fr [141, 142] h h' → (∀ c, c < pcc ρ → hI h' 141 c = oI (own ρ c)) → (∀ d, d < k → hI h' 142 d = nI 0) → ∀ i, i = nI k → Go G l (mt mM_laysLoads) 6 [some (vR 136), some (vI i)] [] h' 0 0 K := by
    refine upto _ ?_
    intro k hk ih h' f ho hl i hi
    subst hi
    have p := p.fr f rfl
    refine gM_laysLoads 99 [(6, 2), (29, 2)] fun S Cu hS hC => ?_
    refine And.intro p.1.ob (hS _ _ _ _ (sM_dots p ?_))
    refine pk_le (pcn ρ) k (fun q => ?_) (fun q => ?_)
    · obtain rfl : k = pcn ρ := by omega
      exact hC _ _ _ _ (lp2 0 (by omega) _ f ho hl _ rfl)
    · refine ld 142 p.1.ob (p.1.2.2 20) ?_
      refine sw k (nI 0) (p.1.inA (j := k) rfl rfl rfl rfl (by omega) rfl) (ix_nI (by omega)) rfl ?_
      refine hC _ _ _ _ (ih q _ (f.setI rfl) ?_ ?_ _ (nI_1 k))
      · intro c hc; rw [si_nk rfl]; exact ho c hc
      · intro d hd
        by_cases e : d = k
        · subst e; exact si_eq
        · rw [si_ne e]; exact hl d (by omega)
  refine eM_laysLoads 9 [(6, 2)] fun S Cu hS hC => ?_
  refine And.intro p.1.ob (hS _ _ _ _ (sM_laysOwners p fun h' f ho => ?_))
  exact hC _ _ _ _ (lp1 0 (by omega) _ (f.tr Fr.rf rfl rfl (M := [])) ho (fun d hd => by omega) _ rfl)
theorem sM_liesAt {d x y : Nat} {a b c : Int32} (p : MP h ρ) (ha : a = nI d) (hb : b = nI x) (hc : c = nI y) (hd : d < pcn ρ) (hx : x < 20) (hy : y < 20) (hK : K (some (vI (bI (lies ρ d x y)))) h) : Spec G l (mt mM_liesAt) [vR 136, vI a, vI b, vI c] h K := by
  subst ha; subst hb; subst hc
  have g := p.2.2.n
  have gd := p.2.2.d hd
  have e1 : (nI (pcX ρ d)).toInt64 = (nI x).toInt64 * lN (pcD ρ d) ↔ pcX ρ d = x * pcD ρ d := by
    rw [nI_l (by omega), nI_l (by omega), lN_mul, pk_lEQ (by omega) (Nat.lt_of_le_of_lt (Nat.mul_le_mul (show x ≤ 20 by omega) gd.2.1) (by decide))]
  have e2 : (nI (pcY ρ d)).toInt64 = (nI y).toInt64 * lN (pcD ρ d) ↔ pcY ρ d = y * pcD ρ d := by
    rw [nI_l (by omega), nI_l (by omega), lN_mul, pk_lEQ (by omega) (Nat.lt_of_le_of_lt (Nat.mul_le_mul (show y ≤ 20 by omega) gd.2.1) (by decide))]
  have e3 := lies_iff p.2.2 (x := x) (y := y) hd
  refine eM_liesAt 99 [] fun S Cu hS hC => ?_
  refine And.intro p.1.ob (hS _ _ _ _ (sM_xOf p rfl (by omega) ?_))
  refine And.intro p.1.ob (hS _ _ _ _ (sM_under p rfl hd ?_))
  refine And.intro (fun q => ?_) (fun q => ?_)
  · exact rzF (fun z => q (ig_eq.mpr (e1.mpr (e3.mpr z).1))) hK
  refine And.intro p.1.ob (hS _ _ _ _ (sM_yOf p rfl (by omega) ?_))
  refine And.intro p.1.ob (hS _ _ _ _ (sM_under p rfl hd ?_))
  refine And.intro (fun r => ?_) (fun r => ?_)
  · exact rzF (fun z => r (ig_eq.mpr (e2.mpr (e3.mpr z).2))) hK
  · exact rzT (e3.mp ⟨e1.mp (ig_eq.mp q), e2.mp (ig_eq.mp r)⟩) hK
theorem sM_allWeights (p : MP h ρ) (hK : K (some (vI (nI (allW ρ)))) h) : Spec G l (mt mM_allWeights) [vR 136] h K := by
  have g := p.2.2.n
  have gc := p.2.2.c
  have lp : ∀ k, k ≤ pcc ρ → ∀ i o, i = nI k → o = nI (sumN (fun c => pcW ρ c) k) → Go G l (mt mM_allWeights) 4 [some (vR 136), some (vI o), some (vI i)] [] h 0 0 K := by
    refine upto _ ?_
    intro k hk ih i o hi ho
    subst hi
    refine gM_allWeights 99 [(4, 3)] fun S Cu hS hC => ?_
    refine And.intro p.1.ob (hS _ _ _ _ (sM_cells p ?_))
    refine pk_le (pcc ρ) k (fun q => ?_) (fun q => ?_)
    · obtain rfl : k = pcc ρ := by omega
      subst ho; exact hK
    · refine And.intro p.1.ob (hS _ _ _ _ (sM_weight p rfl (by omega) ?_))
      refine hC _ _ _ _ (ih q _ _ (nI_1 k) ?_)
      rw [ho, nI_add]; rfl
  exact eM_allWeights 9 [(4, 3)] fun S Cu hS hC => hC _ _ _ _ (lp 0 (by omega) _ _ rfl rfl)
theorem sM_isBare {c : Nat} {a : Int32} (p : MP h ρ) (ha : a = nI c) (hc : c < pcc ρ) (hK : K (some (vI (bI (bare ρ c)))) h) : Spec G l (mt mM_isBare) [vR 136, vI a] h K := by
  subst ha
  have g := p.2.2.n
  have gc := p.2.2.c
  have gx := p.2.2.xy hc
  have lp : ∀ k, k ≤ pcn ρ → (∀ d, d < k → ¬ lies ρ d (c % pcw ρ) (c / pcw ρ)) → ∀ i, i = nI k → Go G l (mt mM_isBare) 2 [some (vR 136), some (vI (nI c)), some (vI i)] [] h 0 0 K := by
    refine upto _ ?_
    intro k hk ih hb i hi
    subst hi
    refine gM_isBare 99 [(2, 3)] fun S Cu hS hC => ?_
    refine And.intro p.1.ob (hS _ _ _ _ (sM_dots p ?_))
    refine pk_le (pcn ρ) k (fun q => ?_) (fun q => ?_)
    · obtain rfl : k = pcn ρ := by omega
      exact rzT hb hK
    · refine And.intro p.1.ob (hS _ _ _ _ (sM_wide p ?_))
      refine And.intro (nI_ne0 (by omega) (by omega)) ?_
      refine And.intro p.1.ob (hS _ _ _ _ (sM_wide p ?_))
      refine And.intro (nI_ne0 (by omega) (by omega)) ?_
      refine And.intro p.1.ob (hS _ _ _ _ (sM_liesAt p rfl (pk_rem (by omega) (by omega) (by omega)) (pk_div (by omega) (by omega) (by omega)) q (by omega) (by omega) ?_))
      refine brE (fun z => ?_) (fun z => ?_)
      · refine hC _ _ _ _ (ih q (fun d hd => ?_) _ (nI_1 k))
        by_cases e : d = k
        · subst e; exact z
        · exact hb d (by omega)
      · exact rzF (fun y => y k q z) hK
  exact eM_isBare 9 [(2, 3)] fun S Cu hS hC => hC _ _ _ _ (lp 0 (by omega) (fun d hd => by omega) _ rfl)
end MM
