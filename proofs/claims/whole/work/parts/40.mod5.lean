/-! ===== the model: seed, paint, draw ===== -/
section MM
variable {G : GP} {l : Launch} {K : Option AV → AH → Prop} {h : AH} {ρ : Pic}
variable {tp : Nat → Nat} {tn : Nat} {ft fp : Int32} {pa : Nat → Pic} {an un : Nat} {sm sc : Nat → Int32} {sn : Nat} {bx : Nat → Pic} {bk : Nat → Prop}
theorem sM_seed {x : Int32} (r : MR h tp tn ft fp ρ pa an un sm sc sn bx bk) (h0 : x < 0 → K (some (vI (-1))) h) (h1 : ∀ s, s < 2 ^ 31 → x = nI s → ∀ h', FM h h' → MR h' tp tn ft fp (pu ρ 2 s) pa an un sm sc sn bx bk → K (some (vI (nI (pcs ρ)))) h') : Spec G l (mt mM_seed) [vR 136, vI x] h K := by
  have p := r.1
  refine eM_seed 39 [] fun S Cu hS hC => ?_
  refine And.intro (fun q => ?_) (fun q => ?_)
  · obtain ⟨s, hs, rfl⟩ := nI_of (Int32.not_lt.mpr q)
    refine ld 137 p.1.ob (p.1.2.2 0) ?_
    refine ld (nI (pcs ρ)) (p.1.inA (j := 2) rfl rfl rfl rfl (by decide) rfl) (rdP p.2.1 rfl (by decide)) ?_
    refine ld 137 p.1.ob (p.1.2.2 0) ?_
    refine sw 2 (nI s) (p.1.inA (j := 2) rfl rfl rfl rfl (by decide) rfl) rfl rfl ?_
    have f : Fr [137] h (setI h 137 2 (nI s)) := Fr.rf.setI rfl
    exact h1 s hs rfl _ (f.m rfl) (r.row f (nR_set p.2.1) (good_pu2 p.2.2 hs))
  · exact h0 (Int32.not_le.mp q)
theorem sM_paint {x y z : Int32} (r : MR h tp tn ft fp ρ pa an un sm sc sn bx bk) (h0 : ¬ (∃ i j v, i < pcw ρ ∧ j < pch ρ ∧ v ≤ 9 ∧ x = nI i ∧ y = nI j ∧ z = nI v ∧ ¬ pcW ρ (pcw ρ * j + i) = v) → K (some (vI (-1))) h) (h1 : ∀ i j v, i < pcw ρ → j < pch ρ → v ≤ 9 → x = nI i → y = nI j → z = nI v → ¬ pcW ρ (pcw ρ * j + i) = v → ∀ h', FM h h' → MR h' tp tn ft fp (pu ρ (4 + (pcw ρ * j + i)) v) (pushP pa an ρ) (pushA an) 0 sm sc 0 bx bk → K (some (vI (nI (pcW ρ (pcw ρ * j + i))))) h') : Spec G l (mt mM_paint) [vR 136, vI x, vI y, vI z] h K := by
  have p := r.1
  have g := p.2.2.n
  refine eM_paint 99 [] fun S Cu hS hC => ?_
  refine And.intro p.1.ob (hS _ _ _ _ (sM_isCell p ?_))
  refine brE (fun q => ?_) (fun q => ?_)
  · exact h0 (fun ⟨i, j, v, a, b, c, e, e2, e3, _⟩ => q ⟨⟨i, a, e⟩, ⟨j, b, e2⟩⟩)
  refine hS _ _ _ _ (sM_isIn ?_)
  have e9 : (Int64.ofNat 0 ≤ z.toInt64 ∧ z.toInt64 ≤ Int64.ofNat 9) ↔ _ := isIn_lh (x := z) (lo := 0) (hi := 9) (by decide) (by decide)
  refine brE (fun q2 => ?_) (fun q2 => ?_)
  · exact h0 (fun ⟨i, j, v, a, b, c, e, e2, e3, _⟩ => q2 (e9.mpr ⟨v, by omega, c, e3⟩))
  obtain ⟨⟨i, hi, rfl⟩, ⟨j, hj, rfl⟩⟩ := q
  obtain ⟨v, -, hv, rfl⟩ := e9.mp q2
  have hc : pcw ρ * j + i < 400 := by
    have : pcw ρ * j + pcw ρ ≤ pcw ρ * pch ρ := by rw [← Nat.mul_succ]; exact Nat.mul_le_mul_left _ hj
    have := p.2.2.c
    unfold pcc at this
    omega
  have hw := p.2.2.2.1 _ hc
  refine And.intro p.1.ob (hS _ _ _ _ (sM_numberOf p rfl rfl ?_))
  refine And.intro p.1.ob (hS _ _ _ _ (sM_weight p rfl hc ?_))
  refine And.intro (fun q => ?_) (fun q => ?_)
  · have hne : ¬ pcW ρ (pcw ρ * j + i) = v := fun z => q (by rw [z])
    refine And.intro p.1.ob (hS _ _ _ _ (sM_numberOf p rfl rfl ?_))
    refine And.intro p.1.ob (hS _ _ _ _ (sM_weight p rfl hc ?_))
    refine And.intro p.1.ob (hS _ _ _ _ (sM_otherAct r fun h' f r' => ?_))
    have p' := r'.1
    refine ld 137 p'.1.ob (p'.1.2.2 0) ?_
    refine And.intro (p'.1.ob) (hS _ _ _ _ (sM_numberOf p' rfl rfl ?_))
    refine sw (4 + (pcw ρ * j + i)) (nI v) (p'.1.inA (j := 4 + (pcw ρ * j + i)) rfl rfl rfl (by first | with_reducible rfl | (try simp (disch := omega) only [pk_rem]) <;> simp (disch := omega) only [nl0, nl1, nl2, nl3, nl4, nl8, nl9, nl10, nl12, nl20, nl24, nl30, nl32, nl40, nl48, nl100, nl120, nl200, nl255, nl400, nl404, nl524, nl900, nl1000, nl9999, nl16, nl65536, nI_add, pk_mul, pk_sub, pk_div, pk_rem, Nat.add_zero, Nat.zero_add, Nat.mul_one, Nat.add_sub_cancel_left, Nat.add_sub_cancel]) (by omega) rfl) (ix_of (by first | with_reducible rfl | (try simp (disch := omega) only [pk_rem]) <;> simp (disch := omega) only [nl0, nl1, nl2, nl3, nl4, nl8, nl9, nl10, nl12, nl20, nl24, nl30, nl32, nl40, nl48, nl100, nl120, nl200, nl255, nl400, nl404, nl524, nl900, nl1000, nl9999, nl16, nl65536, nI_add, pk_mul, pk_sub, pk_div, pk_rem, Nat.add_zero, Nat.zero_add, Nat.mul_one, Nat.add_sub_cancel_left, Nat.add_sub_cancel]) (by omega)) rfl ?_
    have f2 : Fr [137] h' (setI h' 137 (4 + (pcw ρ * j + i)) (nI v)) := Fr.rf.setI rfl
    exact h1 i j v hi hj hv rfl rfl rfl hne _ (f.tr (f2.m rfl)) (r'.row f2 (nR_set p'.2.1) (good_puW p.2.2 hc hv))
  · refine h0 (fun ⟨i', j', v', a, b, c, e, e2, e3, e4⟩ => e4 ?_)
    rw [← (nI_eq (by omega) (by omega)).mp e, ← (nI_eq (by omega) (by omega)).mp e2, ← (nI_eq (by omega) (by omega)).mp e3]
    exact (nI_eq (by omega) (by omega)).mp q
theorem sM_drawOf {k : Nat} {x : Int32} (p : MP h ρ) (hx : x = nI k) (hk : 1 ≤ k) (hk2 : k < 2 ^ 31) (hK : ∀ h', Fr [137] h h' → hI h' 137 = nR (pu ρ 2 (nxs ρ)) → K (some (vI (nI (nxs ρ / 65536 % k)))) h') : Spec G l (mt mM_drawOf) [vR 136, vI x] h K := by
  subst hx
  have g := p.2.2.n
  have nl := nxs_lt ρ
  refine eM_drawOf 99 [] fun S Cu hS hC => ?_
  refine ld 137 p.1.ob (p.1.2.2 0) ?_
  refine ld 137 p.1.ob (p.1.2.2 0) ?_
  refine ld (nI (pcs ρ)) (p.1.inA (j := 2) rfl rfl rfl rfl (by decide) rfl) (rdP p.2.1 rfl (by decide)) ?_
  refine And.intro (by decide) ?_
  have e : (nI (pcs ρ)).toInt64 * Int64.ofNat 1103515245 + Int64.ofNat 12345 = lN (pcs ρ * 1103515245 + 12345) := by
    rw [nI_l (by omega), show Int64.ofNat 1103515245 = lN 1103515245 from rfl, show Int64.ofNat 12345 = lN 12345 from rfl, lN_mul, lN_add]
  have e2 := pk_lRem (a := pcs ρ * 1103515245 + 12345) (b := 2147483648) (by omega) (by decide) (by decide)
  refine sw 2 (nI (nxs ρ)) (p.1.inA (j := 2) rfl rfl rfl rfl (by decide) rfl) rfl ?_ ?_
  · rw [e]
    show (lN (pcs ρ * 1103515245 + 12345) - lN (pcs ρ * 1103515245 + 12345) / lN 2147483648 * lN 2147483648).toInt32 = _
    rw [e2, lN_i]; rfl
  · refine ld 137 p.1.ob (p.1.2.2 0) ?_
    refine ld (nI (nxs ρ)) (p.1.inA (j := 2) rfl rfl rfl rfl (by decide) rfl) si_eq ?_
    refine And.intro (by decide) ?_
    refine And.intro (nI_ne0 hk hk2) ?_
    refine rtI (K := K) ?_ (hK _ (Fr.rf.setI rfl) (nR_set p.2.1))
    have e3 : nI (nxs ρ) / 65536 = nI (nxs ρ / 65536) := pk_div (d := 65536) (by omega) (by decide) (by decide)
    rw [e3]
    exact pk_rem (by omega) (by omega) (by omega)
theorem sM_drawsOne (p : MP h ρ) (hn : pcn ρ < 40) (hb : 0 < bwA ρ) (hK : ∀ h', Fr [137] h h' → hI h' 137 = nR (drw ρ) → K none h') : Spec G l (mt mM_drawsOne) [vR 136] h K := by
  have g := p.2.2.n
  have gc := p.2.2.c
  have bwl : ∀ k, k ≤ pcc ρ → sumN (bw ρ) k ≤ 3600 := fun k hk => by
    have : sumN (bw ρ) k ≤ k * 9 := sumN_le fun i hi => Nat.le_trans (wN_le _ _) (pcW_le p.2.2 (by omega))
    omega
  have bwl2 : bwA ρ ≤ 3600 := bwl _ (Nat.le_refl _)
  obtain ⟨dl, d1, d2⟩ := drC_lt hb
  have dx := p.2.2.xy dl
  have lp2 : ∀ k, k ≤ drC ρ + 1 → ∀ h', Fr [137] h h' → hI h' 137 = nR (pu ρ 2 (nxs ρ)) → ∀ i c : Int32, (k ≤ drC ρ → i = nI (nxs ρ / 65536 % bwA ρ - sumN (bw ρ) k)) → (k = drC ρ + 1 → i < 0) → c = nI k - 1 → ∀ zz, Go G l (mt mM_drawsOne) 46 [some (vR 136), zz, some (vI i), some (vI c)] [] h' 0 0 K := by
    refine upto _ ?_
    intro k hk ih h' f er i c hi hi2 hc zz
    have p' : MP h' (pu ρ 2 (nxs ρ)) := ⟨p.1.fr f, er, good_pu2 p.2.2 (nxs_lt ρ)⟩
    have e0 : pcw (pu ρ 2 (nxs ρ)) = pcw ρ := pu_ne (by decide)
    have e1 : pch (pu ρ 2 (nxs ρ)) = pch ρ := pu_ne (by decide)
    have e3 : pcn (pu ρ 2 (nxs ρ)) = pcn ρ := pu_ne (by decide)
    have ec : pcc (pu ρ 2 (nxs ρ)) = pcc ρ := by unfold pcc; rw [e0, e1]
    by_cases hd : k = drC ρ + 1
    · have hneg := hi2 hd
      subst hd
      rw [nI_pred] at hc
      subst hc
      refine gM_drawsOne 99 [] fun S Cu hS hC => ?_
      refine And.intro (fun _ => ?_) (fun z => absurd hneg z)
      refine And.intro (p'.1.ob) (hS _ _ _ _ (sM_wide p' ?_))
      rw [e0]
      refine And.intro (nI_ne0 (by omega) (by omega)) ?_
      refine And.intro (p'.1.ob) (hS _ _ _ _ (sM_wide p' ?_))
      rw [e0]
      refine And.intro (nI_ne0 (by omega) (by omega)) ?_
      refine And.intro p'.1.ob (hS _ _ _ _ (sM_comes p'.1 er (pk_rem (by omega) (by omega) (by omega)) (pk_div (by omega) (by omega) (by omega)) (by omega) (by omega) (by omega) fun h2 f2 e2 => ?_))
      exact hK h2 (f.tr f2 rfl rfl) e2
    · have hi := hi (by omega)
      subst hi
      subst hc
      have hs : sumN (bw ρ) k ≤ nxs ρ / 65536 % bwA ρ := Nat.le_trans (sumN_mn (by omega)) d1
      have tl : nxs ρ / 65536 % bwA ρ < 3600 := Nat.lt_of_lt_of_le (Nat.mod_lt _ hb) bwl2
      have ek : nI k - 1 + 1 = nI k := by
        rw [show nI k - 1 + 1 = nI k from by rw [Int32.sub_add_cancel]]
      refine gM_drawsOne 99 [(46, 4), (71, 4)] fun S Cu hS hC => ?_
      refine And.intro (fun z => absurd z (nI_pos (by omega))) (fun _ => ?_)
      have fin : ∀ w : Int32, w = nI (bw ρ k) → Go G l (mt mM_drawsOne) 71 [some (vR 136), zz, some (vI (nI (nxs ρ / 65536 % bwA ρ - sumN (bw ρ) k))), some (vI (nI k - 1 + 1))] [vI w, vI (nI (nxs ρ / 65536 % bwA ρ - sumN (bw ρ) k))] h' 0 0 K := by
        intro w hw
        subst hw
        have bl : bw ρ k ≤ 9 := Nat.le_trans (wN_le _ _) (pcW_le p.2.2 (by omega))
        refine gM_drawsOne 99 [(46, 4)] fun S Cu hS hC => ?_
        refine hC _ _ _ _ (ih (by omega) h' f er _ _ (fun hk2 => ?_) (fun hk2 => ?_) (by rw [ek, nI_pred]) _)
        · have : sumN (bw ρ) (k + 1) ≤ nxs ρ / 65536 % bwA ρ := Nat.le_trans (sumN_mn (by omega)) d1
          simp only [sumN] at this ⊢
          rw [pk_sub (by omega)]
          exact congrArg nI (by omega)
        · have : nxs ρ / 65536 % bwA ρ < sumN (bw ρ) (k + 1) := by rw [hk2]; exact d2
          simp only [sumN] at this
          exact pk_sneg (by omega) (by omega)
      refine And.intro p'.1.ob (hS _ _ _ _ (sM_isBare p' ek (by omega) ?_))
      refine brE (fun q => ?_) (fun q => ?_)
      · refine hC _ _ _ _ (fin _ ?_)
        unfold bw; rw [wN_F (fun z => q (bare_pu2.mpr z))]; rfl
      · refine And.intro p'.1.ob (hS _ _ _ _ (sM_weight p' ek (by omega) ?_))
        refine hC _ _ _ _ (fin _ ?_)
        unfold bw; rw [wN_T (bare_pu2.mp q)]
        exact congrArg nI (pu_ne (by omega))
  have lp1 : ∀ k, k ≤ pcc ρ → ∀ i o, i = nI k → o = nI (sumN (bw ρ) k) → Go G l (mt mM_drawsOne) 4 [some (vR 136), some (vI o), some (vI i), none] [] h 0 0 K := by
    refine upto _ ?_
    intro k hk ih i o hi ho
    subst hi
    refine gM_drawsOne 99 [(4, 3), (46, 4), (30, 3)] fun S Cu hS hC => ?_
    refine And.intro p.1.ob (hS _ _ _ _ (sM_cells p ?_))
    refine pk_le (pcc ρ) k (fun q => ?_) (fun q => ?_)
    · obtain rfl : k = pcc ρ := by omega
      subst ho
      refine And.intro p.1.ob (hS _ _ _ _ (sM_drawOf (k := bwA ρ) p rfl hb (Nat.lt_of_le_of_lt bwl2 (by decide)) fun h' f er => ?_))
      exact hC _ _ _ _ (lp2 0 (by omega) h' f er _ _ (fun _ => congrArg nI (Nat.sub_zero _).symm) (fun z => by omega) rfl _)
    · have fin : ∀ w : Int32, w = nI (bw ρ k) → Go G l (mt mM_drawsOne) 30 [some (vR 136), some (vI o), some (vI (nI k)), none] [vI w, vI o] h 0 0 K := by
        intro w hw
        subst hw
        refine gM_drawsOne 99 [(4, 3)] fun S Cu hS hC => ?_
        refine hC _ _ _ _ (ih q _ _ (nI_1 k) ?_)
        rw [ho, nI_add]; rfl
      refine And.intro p.1.ob (hS _ _ _ _ (sM_isBare p rfl q ?_))
      refine brE (fun q2 => ?_) (fun q2 => ?_)
      · refine hC _ _ _ _ (fin _ ?_)
        unfold bw; rw [wN_F q2]; rfl
      · refine And.intro p.1.ob (hS _ _ _ _ (sM_weight p rfl (by omega) ?_))
        refine hC _ _ _ _ (fin _ ?_)
        unfold bw; rw [wN_T q2]
  exact eM_drawsOne 9 [(4, 3)] fun S Cu hS hC => hC _ _ _ _ (lp1 0 (by omega) _ _ rfl rfl)
theorem sM_draw {x : Int32} (r : MR h tp tn ft fp ρ pa an un sm sc sn bx bk) (h0 : ¬ (∃ n, 1 ≤ n ∧ pcn ρ + n ≤ 40 ∧ x = nI n ∧ n ≤ free ρ) → K (some (vI (-1))) h) (h1 : ∀ n, 1 ≤ n → pcn ρ + n ≤ 40 → x = nI n → n ≤ free ρ → ∀ h', FM h h' → MR h' tp tn ft fp (drwN ρ n) (pushP pa an ρ) (pushA an) 0 sm sc 0 bx bk → K (some (vI (nI (pcn ρ + n)))) h') : Spec G l (mt mM_draw) [vR 136, vI x] h K := by
  have p := r.1
  have g := p.2.2.n
  have gc := p.2.2.c
  have e40 : (Int64.ofNat 1 ≤ x.toInt64 ∧ x.toInt64 ≤ Int64.ofNat 40) ↔ _ := isIn_lh (x := x) (lo := 1) (hi := 40) (by decide) (by decide)
  have fl : free ρ ≤ 400 := by
    have : free ρ ≤ pcc ρ * 1 := sumN_le fun i _ => wN_le _ _
    omega
  have lp2 : ∀ n, 1 ≤ n → pcn ρ + n ≤ 40 → x = nI n → n ≤ free ρ → ∀ k, k ≤ n → ∀ h', FM h h' → MR h' tp tn ft fp (drwN ρ k) (pushP pa an ρ) (pushA an) 0 sm sc 0 bx bk → ∀ i, i = nI k → ∀ zz, Go G l (mt mM_draw) 83 [some (vR 136), some (vI x), zz, some (vI i)] [] h' 0 0 K := by
    intro n hn1 hn2 hx hf
    refine upto _ ?_
    intro k hk ih h' f r' i hi zz
    subst hi
    obtain ⟨ok1, ok2, ok3, -, -⟩ := drwN_ok p.2.2 hn2 hf k hk
    have p' := r'.1
    refine gM_draw 99 [(83, 4)] fun S Cu hS hC => ?_
    refine pk_le n k (fun q => ?_) (fun q => ?_) hx rfl
    · obtain rfl : k = n := by omega
      refine And.intro (p'.1.ob) (hS _ _ _ _ (sM_dots p' ?_))
      rw [ok2]
      exact h1 k hn1 hn2 hx hf h' f r'
    · refine And.intro p'.1.ob (hS _ _ _ _ (sM_drawsOne p' (by omega) (free_bw (by omega)) fun h2 f2 e2 => ?_))
      refine hC _ _ _ _ (ih q h2 (f.tr (f2.m rfl)) (r'.row f2 e2 (drwN_ok p.2.2 hn2 hf (k + 1) (by omega)).1) _ (nI_1 k) _)
  have lp1 : ∀ n, 1 ≤ n → pcn ρ + n ≤ 40 → x = nI n → ∀ k, k ≤ pcc ρ → ∀ i o, i = nI k → o = nI (sumN (fun c => wN (0 < pcW ρ c ∧ bare ρ c) 1) k) → Go G l (mt mM_draw) 29 [some (vR 136), some (vI x), some (vI o), some (vI i)] [] h 0 0 K := by
    intro n hn1 hn2 hx
    refine upto _ ?_
    intro k hk ih i o hi ho
    subst hi
    refine gM_draw 99 [(29, 4), (83, 4), (59, 4)] fun S Cu hS hC => ?_
    refine And.intro p.1.ob (hS _ _ _ _ (sM_cells p ?_))
    refine pk_le (pcc ρ) k (fun q => ?_) (fun q => ?_)
    · obtain rfl : k = pcc ρ := by omega
      refine pk_le n (free ρ) (fun q2 => ?_) (fun q2 => ?_) hx ho
      · refine And.intro p.1.ob (hS _ _ _ _ (sM_otherAct r fun h' f r' => ?_))
        refine hC _ _ _ _ (lp2 n hn1 hn2 hx q2 0 (by omega) h' f r' _ rfl _)
      · refine h0 (fun ⟨n', a, b, c, d⟩ => ?_)
        have : n = n' := (nI_eq (by omega) (by omega)).mp (hx.symm.trans c)
        omega
    · have fin : ∀ (P : Prop) (w : Int32), w = bI P → (P ↔ (0 < pcW ρ k ∧ bare ρ k)) → Go G l (mt mM_draw) 59 [some (vR 136), some (vI x), some (vI o), some (vI (nI k))] [vI w, vI o] h 0 0 K := by
        intro P w hw hP
        subst hw
        refine gM_draw 99 [(29, 4)] fun S Cu hS hC => ?_
        refine hS _ _ _ _ (sM_truth ?_)
        refine hC _ _ _ _ (ih q _ _ (nI_1 k) ?_)
        rw [ho, bI_wN, nI_add, wN_eq hP]; rfl
      have hw := pcW_le p.2.2 q
      refine And.intro p.1.ob (hS _ _ _ _ (sM_weight p rfl (by omega) ?_))
      refine pk_le (pcW ρ k) 0 (fun q2 => ?_) (fun q2 => ?_)
      · exact hC _ _ _ _ (fin False _ (bI_F (fun z => z)).symm ⟨False.elim, fun z => by omega⟩)
      · refine And.intro p.1.ob (hS _ _ _ _ (sM_isBare p rfl q ?_))
        refine brE (fun q3 => ?_) (fun q3 => ?_)
        · exact hC _ _ _ _ (fin False _ (bI_F (fun z => z)).symm ⟨False.elim, fun z => q3 z.2⟩)
        · exact hC _ _ _ _ (fin True _ (bI_T trivial).symm ⟨fun _ => ⟨q2, q3⟩, fun _ => trivial⟩)
  refine eM_draw 39 [(29, 4)] fun S Cu hS hC => ?_
  refine hS _ _ _ _ (sM_isIn ?_)
  refine brE (fun q => ?_) (fun q => ?_)
  · exact h0 (fun ⟨n, a, b, c, d⟩ => q (e40.mpr ⟨n, a, by omega, c⟩))
  obtain ⟨n, hn1, hn2, rfl⟩ := e40.mp q
  refine And.intro p.1.ob (hS _ _ _ _ (sM_dots p ?_))
  refine pk_le (pcn ρ + n) 40 (fun q2 => ?_) (fun q2 => ?_) (nI_add _ _) rfl
  · exact hC _ _ _ _ (lp1 n hn1 q2 rfl 0 (by omega) _ _ rfl rfl)
  · refine h0 (fun ⟨n', a, b, c, d⟩ => ?_)
    have : n = n' := (nI_eq (by omega) (by omega)).mp c
    omega
end MM
