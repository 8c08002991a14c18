/-! ===== the model: small answers ===== -/
section MM
variable {G : GP} {l : Launch} {K : Option AV → AH → Prop} {h : AH} {ρ : Pic}
theorem sM_spotOf {d : Nat} {a : Int32} (p : MP h ρ) (ha : a = nI d) (hd : d < pcn ρ) (hK : K (some (vI (nI (spot ρ d)))) h) : Spec G l (mt mM_spotOf) [vR 136, vI a] h K := by
  subst ha
  have g := p.2.2.n
  have gc := p.2.2.c
  have lp : ∀ k, k ≤ pcc ρ → 1 ≤ k → ∀ b, b < k → (∀ c, c < k → gap ρ b d ≤ gap ρ c d) → (∀ c, c < b → gap ρ b d < gap ρ c d) → ∀ i j, i = nI b → j = nI k → Go G l (mt mM_spotOf) 4 [some (vR 136), some (vI (nI d)), some (vI i), some (vI j)] [] h 0 0 K := by
    refine upto _ ?_
    intro k hk ih k1 b hb h1 h2 i j hi hj
    subst hi; subst hj
    refine gM_spotOf 99 [(4, 4)] fun S Cu hS hC => ?_
    refine And.intro p.1.ob (hS _ _ _ _ (sM_cells p ?_))
    refine pk_le (pcc ρ) k (fun q => ?_) (fun q => ?_)
    · obtain rfl : k = pcc ρ := by omega
      exact rtI (K := K) (congrArg nI (spot_uni p.2.2 hd hb h1 h2)) hK
    · refine And.intro p.1.ob (hS _ _ _ _ (sM_upper p rfl rfl q hd ?_))
      refine And.intro p.1.ob (hS _ _ _ _ (sM_upper p rfl rfl (by omega) hd ?_))
      have g1 := gap_le p.2.2 q hd
      have g2 := gap_le p.2.2 (show b < pcc ρ by omega) hd
      have e := pk_lLT (a := gap ρ k d) (b := gap ρ b d) (by omega) (by omega)
      refine And.intro (fun z => ?_) (fun z => ?_)
      · have z : ¬ gap ρ k d < gap ρ b d := fun y => absurd z (Int32.not_le.mpr (ig_lt.mpr (e.mpr y)))
        refine hC _ _ _ _ (ih q (by omega) b (by omega) (fun c hc => ?_) h2 _ _ rfl (nI_1 k))
        by_cases ck : c = k
        · subst ck; omega
        · exact h1 c (by omega)
      · have z : gap ρ k d < gap ρ b d := e.mp (ig_lt.mp (Int32.not_le.mp z))
        refine hC _ _ _ _ (ih q (by omega) k (by omega) (fun c hc => ?_) (fun c hc => ?_) _ _ rfl (nI_1 k))
        · by_cases ck : c = k
          · subst ck; omega
          · have := h1 c (by omega); omega
        · have := h1 c hc; omega
  exact eM_spotOf 9 [(4, 4)] fun S Cu hS hC => hC _ _ _ _ (lp 1 (by omega) (by omega) 0 (by omega) (fun c hc => by rw [show c = 0 by omega]; exact Nat.le_refl _) (fun c hc => by omega) _ _ rfl rfl)
theorem sM_spotsAt {c : Nat} {a : Int32} (p : MP h ρ) (ha : a = nI c) (hc : c < pcc ρ) (hK : K (some (vI (nI (spotsAt ρ c)))) h) : Spec G l (mt mM_spotsAt) [vR 136, vI a] h K := by
  subst ha
  have g := p.2.2.n
  have gc := p.2.2.c
  have lp : ∀ k, k ≤ pcn ρ → ∀ i o, i = nI k → o = nI (sumN (fun d => wN (spot ρ d = c) 1) k) → Go G l (mt mM_spotsAt) 4 [some (vR 136), some (vI (nI c)), some (vI o), some (vI i)] [] h 0 0 K := by
    refine upto _ ?_
    intro k hk ih i o hi ho
    subst hi
    have fin : k < pcn ρ → ∀ w, w = bI (spot ρ k = c) → Go G l (mt mM_spotsAt) 27 [some (vR 136), some (vI (nI c)), some (vI o), some (vI (nI k))] [vI w, vI o] h 0 0 K := by
      intro q w hw
      subst hw
      refine gM_spotsAt 99 [(4, 4)] fun S Cu hS hC => ?_
      refine hS _ _ _ _ (sM_truth ?_)
      refine hC _ _ _ _ (ih q _ _ (nI_1 k) ?_)
      rw [ho, bI_wN, nI_add]; rfl
    refine gM_spotsAt 99 [(27, 4)] fun S Cu hS hC => ?_
    refine And.intro p.1.ob (hS _ _ _ _ (sM_dots p ?_))
    refine pk_le (pcn ρ) k (fun q => ?_) (fun q => ?_)
    · obtain rfl : k = pcn ρ := by omega
      subst ho; exact hK
    · have sx := spot_xy p.2.2 q
      refine And.intro p.1.ob (hS _ _ _ _ (sM_spotOf p rfl q ?_))
      have e := nI_eq (a := spot ρ k) (b := c) (by omega) (by omega)
      refine And.intro (fun z => ?_) (fun z => ?_)
      · exact hC _ _ _ _ (fin q _ (bI_F (fun y => z (e.mpr y))).symm)
      · exact hC _ _ _ _ (fin q _ (bI_T (e.mp z)).symm)
  exact eM_spotsAt 9 [(4, 4)] fun S Cu hS hC => hC _ _ _ _ (lp 0 (by omega) _ _ rfl rfl)
theorem sM_cell {x y w : Int32} (p : MP h ρ) (hK : K (some (vI (aCell ρ x y w))) h) : Spec G l (mt mM_cell) [vR 136, vI x, vI y, vI w] h K := by
  have gc := p.2.2.c
  refine eM_cell 39 [] fun S Cu hS hC => ?_
  refine And.intro p.1.ob (hS _ _ _ _ (sM_isCell p ?_))
  refine brN (fun q => ?_) (fun q => ?_)
  · unfold aCell at hK
    rw [cif_T q] at hK
    obtain ⟨i, j, hi, hj, rfl, rfl, ec, hc, -, -⟩ := isC_c p.2.2 q
    rw [ec] at hK
    refine And.intro p.1.ob (hS _ _ _ _ (sM_numberOf p rfl rfl ?_))
    refine And.intro (fun e => ?_) (fun n0 => And.intro (fun e => ?_) (fun n1 => And.intro (fun e => ?_) (fun n2 => And.intro (fun e => ?_) (fun n3 => ?_))))
    · rw [sel_in (i := 0) e (by decide) rfl] at hK
      exact And.intro p.1.ob (hS _ _ _ _ (sM_weight p rfl (by omega) hK))
    · rw [sel_in (i := 1) e (by decide) rfl] at hK
      refine And.intro p.1.ob (hS _ _ _ _ (sM_ownerBut p rfl hc ?_))
      exact rtI (K := K) (congrArg oI (owX_m1 p.2.2 _)) hK
    · rw [sel_in (i := 2) e (by decide) rfl] at hK
      refine And.intro p.1.ob (hS _ _ _ _ (sM_ownerBut p rfl hc ?_))
      refine And.intro p.1.ob (hS _ _ _ _ (sM_costBy (o := own ρ (pcw ρ * j + i)) p rfl (congrArg oI (owX_m1 p.2.2 _)) hc (fun d hd => own_lt hd) ?_))
      exact rtI (K := K) (lN_i _) hK
    · rw [sel_in (i := 3) e (by decide) rfl] at hK
      exact And.intro p.1.ob (hS _ _ _ _ (sM_spotsAt p rfl hc hK))
    · rw [sel_out (fun i hi => match i, hi with | 0, _ => n0 | 1, _ => n1 | 2, _ => n2 | 3, _ => n3)] at hK
      exact hK
  · exact rtC (K := K) q hK
theorem sM_near {x y w : Int32} (p : MP h ρ) (hK : K (some (vI (aNear ρ x y w))) h) : Spec G l (mt mM_near) [vR 136, vI x, vI y, vI w] h K := by
  have g := p.2.2.n
  have gc := p.2.2.c
  unfold aNear at hK
  refine eM_near 99 [(38, 8)] fun S Cu hS hC => ?_
  refine And.intro p.1.ob (hS _ _ _ _ (sM_isCell p ?_))
  refine brE (fun q => ?_) (fun q => ?_)
  · exact rtC (K := K) (fun z => q z.1) hK
  refine And.intro p.1.ob (hS _ _ _ _ (sM_dots p ?_))
  refine hS _ _ _ _ (sM_isIn ?_)
  refine brN (fun q2 => ?_) (fun q2 => ?_)
  · have q2 := (isIn_n (by omega)).mp q2
    rw [cif_T ⟨q, q2⟩] at hK
    obtain ⟨i, j, hi, hj, rfl, rfl, ec, hc, -, -⟩ := isC_c p.2.2 q
    rw [ec] at hK
    have lp : ∀ d, d ≤ pcn ρ → (∀ e, e < d → ¬ nI (rank ρ (pcw ρ * j + i) e) = w) → ∀ u, u = nI d → ∀ z6 z7, Go G l (mt mM_near) 38 [some (vR 136), some (vI (nI i)), some (vI (nI j)), some (vI w), some (vI (nI (pcw ρ * j + i))), some (vI u), z6, z7] [] h 0 0 K := by
      refine upto _ ?_
      intro d hd ih hn u hu z6 z7
      subst hu
      have lp2 : d < pcn ρ → ∀ k, k ≤ pcn ρ → ∀ a v, a = nI (sumN (fun e => wN (nearer ρ (pcw ρ * j + i) e d ∨ (e < d ∧ ¬ nearer ρ (pcw ρ * j + i) d e)) 1) k) → v = nI k → Go G l (mt mM_near) 53 [some (vR 136), some (vI (nI i)), some (vI (nI j)), some (vI w), some (vI (nI (pcw ρ * j + i))), some (vI (nI d)), some (vI a), some (vI v)] [] h 0 0 K := by
        intro hd2
        refine upto _ ?_
        intro k hk ih2 a v ha hv
        subst hv
        have fin : k < pcn ρ → ∀ w2, w2 = bI (nearer ρ (pcw ρ * j + i) k d ∨ (k < d ∧ ¬ nearer ρ (pcw ρ * j + i) d k)) → Go G l (mt mM_near) 102 [some (vR 136), some (vI (nI i)), some (vI (nI j)), some (vI w), some (vI (nI (pcw ρ * j + i))), some (vI (nI d)), some (vI a), some (vI (nI k))] [vI w2, vI a] h 0 0 K := by
          intro q3 w2 hw2
          subst hw2
          refine gM_near 99 [(53, 8)] fun S Cu hS hC => ?_
          refine hS _ _ _ _ (sM_truth ?_)
          refine hC _ _ _ _ (ih2 q3 _ _ ?_ (nI_1 k))
          rw [ha, bI_wN, nI_add]; rfl
        refine gM_near 99 [(102, 8), (38, 8)] fun S Cu hS hC => ?_
        refine And.intro p.1.ob (hS _ _ _ _ (sM_dots p ?_))
        refine pk_le (pcn ρ) k (fun q3 => ?_) (fun q3 => ?_)
        · obtain rfl : k = pcn ρ := by omega
          have ha : a = nI (rank ρ (pcw ρ * j + i) d) := ha
          subst ha
          refine And.intro (fun z => ?_) (fun z => ?_)
          · refine hC _ _ _ _ (ih hd2 (fun e he => ?_) _ (nI_1 d) _ _)
            by_cases ed : e = d
            · subst ed; exact z
            · exact hn e (by omega)
          · rw [fstO_some hd2 z hn] at hK
            exact hK
        · refine And.intro p.1.ob (hS _ _ _ _ (sM_isNearer p rfl rfl rfl hc q3 hd2 ?_))
          refine brN (fun z => ?_) (fun z => ?_)
          · exact hC _ _ _ _ (fin q3 _ (bI_T (Or.inl z)).symm)
          · refine pk_le d k (fun z2 => ?_) (fun z2 => ?_)
            · exact hC _ _ _ _ (fin q3 _ (bI_F (fun y => y.elim z (fun y => by omega))).symm)
            · refine And.intro p.1.ob (hS _ _ _ _ (sM_isNearer p rfl rfl rfl hc hd2 q3 ?_))
              refine brN (fun z3 => ?_) (fun z3 => ?_)
              · exact hC _ _ _ _ (fin q3 _ (bI_F (fun y => y.elim z (fun y => y.2 z3))).symm)
              · exact hC _ _ _ _ (fin q3 _ (bI_T (Or.inr ⟨z2, z3⟩)).symm)
      refine gM_near 99 [(53, 8)] fun S Cu hS hC => ?_
      refine And.intro p.1.ob (hS _ _ _ _ (sM_dots p ?_))
      refine pk_le (pcn ρ) d (fun q3 => ?_) (fun q3 => ?_)
      · obtain rfl : d = pcn ρ := by omega
        rw [fstO_none hn] at hK
        exact hK
      · exact hC _ _ _ _ (lp2 q3 0 (by omega) _ _ rfl rfl)
    refine And.intro p.1.ob (hS _ _ _ _ (sM_numberOf p rfl rfl ?_))
    exact hC _ _ _ _ (lp 0 (by omega) (fun e he => by omega) _ rfl _ _)
  · exact rtC (K := K) (fun z => q2 ((isIn_n (by omega)).mpr z.2)) hK
theorem sM_far {x y d w : Int32} (p : MP h ρ) (hK : K (some (vI (aFar ρ x y d w))) h) : Spec G l (mt mM_far) [vR 136, vI x, vI y, vI d, vI w] h K := by
  have g := p.2.2.n
  unfold aFar at hK
  refine eM_far 99 [] fun S Cu hS hC => ?_
  refine And.intro p.1.ob (hS _ _ _ _ (sM_isCell p ?_))
  refine brE (fun q => ?_) (fun q => ?_)
  · exact rtC (K := K) (fun z => q z.1) hK
  refine And.intro p.1.ob (hS _ _ _ _ (sM_isDot p ?_))
  refine brN (fun q2 => ?_) (fun q2 => ?_)
  · rw [cif_T ⟨q, q2⟩] at hK
    obtain ⟨i, j, hi, hj, rfl, rfl, ec, hc, -, -⟩ := isC_c p.2.2 q
    obtain ⟨e, he, rfl⟩ := q2
    rw [ec, ix_nI (by omega)] at hK
    have sp := spn_pos p.2.2 he
    have gp := gap_le p.2.2 hc he
    have hne : ¬ lN (spn ρ e) = 0 := fun z => by rw [show (0 : Int64) = lN 0 from rfl, pk_lEQ (by omega) (by omega)] at z; omega
    refine And.intro p.1.ob (hS _ _ _ _ (sM_numberOf p rfl rfl ?_))
    refine And.intro p.1.ob (hS _ _ _ _ (sM_upper p rfl rfl hc he ?_))
    refine And.intro (fun n0 => ?_) (fun e0 => ?_)
    · refine And.intro (fun n1 => ?_) (fun e1 => ?_)
      · rw [sel_out (fun i hi => match i, hi with | 0, _ => n0 | 1, _ => n1)] at hK
        exact hK
      · rw [sel_in (i := 1) e1 (by decide) rfl] at hK
        refine And.intro p.1.ob (hS _ _ _ _ (sM_lower p rfl he ?_))
        refine And.intro hne ?_
        refine And.intro p.1.ob (hS _ _ _ _ (sM_lower p rfl he ?_))
        refine And.intro hne (rtI (K := K) ?_ hK)
        have ml := Nat.mod_lt (gap ρ (pcw ρ * j + i) e) (show 0 < spn ρ e by omega)
        rw [pk_lRem (by omega) (by omega) (by omega), show Int64.ofNat 1000 = lN 1000 from rfl, lN_mul, pk_lDiv (by omega) (by omega) (by omega), lN_i]
    · rw [sel_in (i := 0) e0 (by decide) rfl] at hK
      refine And.intro p.1.ob (hS _ _ _ _ (sM_lower p rfl he ?_))
      refine And.intro hne (rtI (K := K) ?_ hK)
      rw [pk_lDiv (by omega) (by omega) (by omega), lN_i]
  · exact rtC (K := K) (fun z => q2 z.2) hK
theorem sM_around {x y r : Int32} (p : MP h ρ) (hK : K (some (vI (aAround ρ x y r))) h) : Spec G l (mt mM_around) [vR 136, vI x, vI y, vI r] h K := by
  have g := p.2.2.n
  have e31 : (Int64.ofNat 0 ≤ r.toInt64 ∧ r.toInt64 ≤ Int64.ofNat 30) ↔ inN r 31 := (isIn_lh (x := r) (lo := 0) (hi := 30) (by decide) (by decide)).trans ⟨fun ⟨j, _, a, b⟩ => ⟨j, by omega, b⟩, fun ⟨j, a, b⟩ => ⟨j, by omega, by omega, b⟩⟩
  unfold aAround at hK
  refine eM_around 99 [(29, 6)] fun S Cu hS hC => ?_
  refine And.intro p.1.ob (hS _ _ _ _ (sM_isCell p ?_))
  refine brE (fun q => ?_) (fun q => ?_)
  · exact rtC (K := K) (fun z => q z.1) hK
  refine hS _ _ _ _ (sM_isIn ?_)
  refine brN (fun q2 => ?_) (fun q2 => ?_)
  · have q2 := e31.mp q2
    rw [cif_T ⟨q, q2⟩] at hK
    obtain ⟨i, j, hi, hj, rfl, rfl, ec, hc, -, -⟩ := isC_c p.2.2 q
    obtain ⟨e, he, rfl⟩ := q2
    rw [ec, ix_nI (by omega)] at hK
    have lp : ∀ k, k ≤ pcn ρ → ∀ u o, u = nI k → o = nI (sumN (fun d => wN (gap ρ (pcw ρ * j + i) d ≤ spn ρ d * e * e) 1) k) → Go G l (mt mM_around) 29 [some (vR 136), some (vI (nI i)), some (vI (nI j)), some (vI (nI e)), some (vI o), some (vI u)] [] h 0 0 K := by
      refine upto _ ?_
      intro k hk ih u o hu ho
      subst hu
      have fin : k < pcn ρ → ∀ w, w = bI (gap ρ (pcw ρ * j + i) k ≤ spn ρ k * e * e) → Go G l (mt mM_around) 73 [some (vR 136), some (vI (nI i)), some (vI (nI j)), some (vI (nI e)), some (vI o), some (vI (nI k))] [vI w, vI o] h 0 0 K := by
        intro q3 w hw
        subst hw
        refine gM_around 99 [(29, 6)] fun S Cu hS hC => ?_
        refine hS _ _ _ _ (sM_truth ?_)
        refine hC _ _ _ _ (ih q3 _ _ (nI_1 k) ?_)
        rw [ho, bI_wN, nI_add]; rfl
      refine gM_around 99 [(73, 6)] fun S Cu hS hC => ?_
      refine And.intro p.1.ob (hS _ _ _ _ (sM_dots p ?_))
      refine pk_le (pcn ρ) k (fun q3 => ?_) (fun q3 => ?_)
      · obtain rfl : k = pcn ρ := by omega
        subst ho; exact hK
      · have sp := spn_pos p.2.2 q3
        have gp := gap_le p.2.2 hc q3
        refine And.intro p.1.ob (hS _ _ _ _ (sM_numberOf p rfl rfl ?_))
        refine And.intro p.1.ob (hS _ _ _ _ (sM_upper p rfl rfl hc q3 ?_))
        refine And.intro p.1.ob (hS _ _ _ _ (sM_lower p rfl q3 ?_))
        have e2 : lN (spn ρ k) * (nI e).toInt64 * (nI e).toInt64 = lN (spn ρ k * e * e) := by rw [nI_l (by omega), lN_mul, lN_mul]
        have e3 : lN (spn ρ k * e * e) < lN (gap ρ (pcw ρ * j + i) k) ↔ spn ρ k * e * e < gap ρ (pcw ρ * j + i) k := pk_lLT (Nat.lt_of_le_of_lt (Nat.mul_le_mul (Nat.mul_le_mul sp.2 (show e ≤ 30 by omega)) (show e ≤ 30 by omega)) (by decide)) (by omega)
        refine And.intro (fun z => ?_) (fun z => ?_)
        · have z := ig_gt.mp z
          rw [e2] at z
          have := e3.mp z
          exact hC _ _ _ _ (fin q3 _ (bI_F (by omega)).symm)
        · have : ¬ spn ρ k * e * e < gap ρ (pcw ρ * j + i) k := fun y => z (ig_gt.mpr (by rw [e2]; exact e3.mpr y))
          exact hC _ _ _ _ (fin q3 _ (bI_T (by omega)).symm)
    exact hC _ _ _ _ (lp 0 (by omega) _ _ rfl rfl)
  · exact rtC (K := K) (fun z => q2 (e31.mpr z.2)) hK
end MM
