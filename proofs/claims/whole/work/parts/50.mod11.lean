/-! ===== the model: shade, more, best, ties ===== -/
theorem nI_sqd (a b : Nat) : (nI a - nI b) * (nI a - nI b) = nI (sqd a b) := by
  rcases Nat.le_total b a with h | h
  · rw [pk_sub h, pk_mul]; unfold sqd; rw [show b - a = 0 by omega]; simp
  · have e : nI a - nI b = -(nI (b - a)) := by rw [← pk_sub h, Int32.neg_sub]
    rw [e, Int32.neg_mul_neg, pk_mul]; unfold sqd; rw [show a - b = 0 by omega]; simp
theorem argm_1 {f : Nat → Nat} : argm f 1 = 0 := by simp [argm]
section MM
variable {G : GP} {l : Launch} {K : Option AV → AH → Prop} {h : AH} {ρ : Pic}
theorem sM_ownersOf {s : Nat} {x : Int32} (p : MP h ρ) (hx : x = nI s) (hs : s < 2 ^ 31) (ho : ∀ c, c < pcc ρ → hI h 141 c = oI (own ρ c)) (hK : K (some (vI (nI (ownS ρ s)))) h) : Spec G l (mt mM_ownersOf) [vR 136, vI x] h K := by
  subst hx
  have g := p.2.2.n
  have gc := p.2.2.c
  have lp : ∀ d, d ≤ pcn ρ → ∀ i o, i = nI d → o = nI (sumN (fun d => wN (∃ c, c < pcc ρ ∧ pcW ρ c = s ∧ own ρ c = some d) 1) d) → ∀ z4 z5, Go G l (mt mM_ownersOf) 4 [some (vR 136), some (vI (nI s)), some (vI o), some (vI i), z4, z5] [] h 0 0 K := by
    refine upto _ ?_
    intro d hd ih i o hi ho2 z4 z5
    subst hi
    have lp2 : d < pcn ρ → ∀ k, k ≤ pcc ρ → ∀ b j, b = bI (∃ c, c < k ∧ pcW ρ c = s ∧ own ρ c = some d) → j = nI k → Go G l (mt mM_ownersOf) 18 [some (vR 136), some (vI (nI s)), some (vI o), some (vI (nI d)), some (vI b), some (vI j)] [] h 0 0 K := by
      intro hd2
      refine upto _ ?_
      intro k hk ih2 b j hb hj
      subst hb; subst hj
      have fin : k < pcc ρ → ∀ w, w = bI (∃ c, c < k + 1 ∧ pcW ρ c = s ∧ own ρ c = some d) → ∀ z4, Go G l (mt mM_ownersOf) 58 [some (vR 136), some (vI (nI s)), some (vI o), some (vI (nI d)), z4, some (vI (nI k))] [vI w] h 0 0 K := by
        intro q w hw z4
        refine gM_ownersOf 99 [(18, 6)] fun S Cu hS hC => ?_
        exact hC _ _ _ _ (ih2 q _ _ hw (nI_1 k))
      refine gM_ownersOf 99 [(4, 6), (58, 6)] fun S Cu hS hC => ?_
      refine And.intro p.1.ob (hS _ _ _ _ (sM_cells p ?_))
      refine pk_le (pcc ρ) k (fun q => ?_) (fun q => ?_)
      · obtain rfl : k = pcc ρ := by omega
        refine hS _ _ _ _ (sM_truth ?_)
        refine hC _ _ _ _ (ih hd2 _ _ (nI_1 d) ?_ _ _)
        rw [ho2, bI_wN, nI_add]; rfl
      · refine brN (fun z => ?_) (fun z => ?_)
        · obtain ⟨c, c1, c2⟩ := z
          exact hC _ _ _ _ (fin q _ (bI_T ⟨c, by omega, c2⟩).symm _)
        refine And.intro p.1.ob (hS _ _ _ _ (sM_weight p rfl (by omega) ?_))
        have wl := pcW_le p.2.2 q
        refine And.intro (fun z2 => ?_) (fun z2 => ?_)
        · refine hC _ _ _ _ (fin q _ (bI_F (fun ⟨c, c1, c2, c3⟩ => ?_)).symm _)
          by_cases ck : c = k
          · subst ck; exact z2 (congrArg nI c2)
          · exact z ⟨c, by omega, c2, c3⟩
        have z2 : pcW ρ k = s := (nI_eq (by omega) hs).mp z2
        refine ld 141 p.1.ob (p.1.2.2 19) ?_
        refine ld (oI (own ρ k)) (p.1.inA (j := k) rfl rfl rfl rfl (by omega) rfl) (rdA rfl (by omega) (ho k q)) ?_
        have eo := own_oI p.2.2 (c := k) (show d < 2 ^ 31 by omega)
        refine And.intro (fun z3 => ?_) (fun z3 => ?_)
        · refine hC _ _ _ _ (fin q _ (bI_F (fun ⟨c, c1, c2, c3⟩ => ?_)).symm _)
          by_cases ck : c = k
          · subst ck; exact z3 (eo.mpr c3)
          · exact z ⟨c, by omega, c2, c3⟩
        · exact hC _ _ _ _ (fin q _ (bI_T ⟨k, by omega, z2, eo.mp z3⟩).symm _)
    refine gM_ownersOf 99 [(18, 6)] fun S Cu hS hC => ?_
    refine And.intro p.1.ob (hS _ _ _ _ (sM_dots p ?_))
    refine pk_le (pcn ρ) d (fun q => ?_) (fun q => ?_)
    · obtain rfl : d = pcn ρ := by omega
      subst ho2; exact hK
    · exact hC _ _ _ _ (lp2 q 0 (by omega) _ _ (bI_F (fun ⟨c, c1, _⟩ => by omega)).symm rfl)
  exact eM_ownersOf 9 [(4, 6)] fun S Cu hS hC => hC _ _ _ _ (lp 0 (by omega) _ _ rfl rfl _ _)
theorem sM_shade {x w : Int32} (p : MP h ρ) (hK : ∀ h', Fr [141] h h' → K (some (vI (aShade ρ x w))) h') : Spec G l (mt mM_shade) [vR 136, vI x, vI w] h K := by
  have g := p.2.2.n
  have gc := p.2.2.c
  have e9 : (Int64.ofNat 0 ≤ x.toInt64 ∧ x.toInt64 ≤ Int64.ofNat 9) ↔ inN x 10 := (isIn_lh (x := x) (lo := 0) (hi := 9) (by decide) (by decide)).trans ⟨fun ⟨j, _, a, b⟩ => ⟨j, by omega, b⟩, fun ⟨j, a, b⟩ => ⟨j, by omega, by omega, b⟩⟩
  have e3 : (Int64.ofNat 0 ≤ w.toInt64 ∧ w.toInt64 ≤ Int64.ofNat 3) ↔ _ := isIn_lh (x := w) (lo := 0) (hi := 3) (by decide) (by decide)
  unfold aShade at hK
  refine eM_shade 99 [(46, 5)] fun S Cu hS hC => ?_
  refine hS _ _ _ _ (sM_isIn ?_)
  refine brE (fun q => ?_) (fun q => ?_)
  · exact rtC (K := K) (fun z => q (e9.mpr z)) (hK h Fr.rf)
  rw [cif_T (e9.mp q)] at hK
  obtain ⟨s, hs, rfl⟩ := e9.mp q
  rw [ix_nI (by omega)] at hK
  refine hS _ _ _ _ (sM_isIn ?_)
  refine brN (fun q2 => ?_) (fun q2 => ?_)
  · obtain ⟨v, -, hv, rfl⟩ := e3.mp q2
    refine And.intro p.1.ob (hS _ _ _ _ (sM_laysOwners p fun h' f eo => ?_))
    have p' := p.fr f rfl
    have hK := hK h' f
    refine And.intro (fun n2 => ?_) (fun e2 => ?_)
    · -- a sum over cells with that weight
      have gen : ∀ (F : Nat → Nat), K (some (vI (nI (sumN (fun c => wN (pcW ρ c = s) (F c)) (pcc ρ))))) h' → ((v = 0 ∧ ∀ c, c < pcc ρ → F c = 1) ∨ (v = 1 ∧ ∀ c, c < pcc ρ → F c = spotsAt ρ c) ∨ (v = 3 ∧ ∀ c, c < pcc ρ → F c = cstO ρ c (own ρ c))) → ∀ k, k ≤ pcc ρ → ∀ i o, i = nI k → o = nI (sumN (fun c => wN (pcW ρ c = s) (F c)) k) → Go G l (mt mM_shade) 46 [some (vR 136), some (vI (nI s)), some (vI (nI v)), some (vI o), some (vI i)] [] h' 0 0 K := by
        intro F hK hF
        refine upto _ ?_
        intro k hk ih i o hi ho
        subst hi
        have fin : k < pcc ρ → pcW ρ k = s → ∀ u, u = nI (F k) → Go G l (mt mM_shade) 105 [some (vR 136), some (vI (nI s)), some (vI (nI v)), some (vI o), some (vI (nI k))] [vI u, vI o] h' 0 0 K := by
          intro q hw u hu
          subst hu
          refine gM_shade 99 [(46, 5)] fun S Cu hS hC => ?_
          refine hC _ _ _ _ (ih q _ _ (nI_1 k) ?_)
          rw [ho, nI_add]; simp only [sumN]; rw [wN_T hw]
        refine gM_shade 99 [(46, 5), (105, 5)] fun S Cu hS hC => ?_
        refine And.intro p'.1.ob (hS _ _ _ _ (sM_cells p' ?_))
        refine pk_le (pcc ρ) k (fun q => ?_) (fun q => ?_)
        · obtain rfl : k = pcc ρ := by omega
          subst ho; exact hK
        have wl := pcW_le p.2.2 q
        refine And.intro p'.1.ob (hS _ _ _ _ (sM_weight p' rfl (by omega) ?_))
        refine And.intro (fun z => ?_) (fun z => ?_)
        · have z : pcW ρ k = s := (nI_eq (by omega) (by omega)).mp z
          rcases hF with ⟨rfl, hF⟩ | ⟨rfl, hF⟩ | ⟨rfl, hF⟩
          · refine And.intro (fun y => absurd rfl y) (fun _ => ?_)
            exact hC _ _ _ _ (fin q z _ (by rw [hF k q]; rfl))
          · refine And.intro (fun _ => ?_) (fun y => absurd y (by decide))
            refine And.intro (fun y => absurd rfl y) (fun _ => ?_)
            refine And.intro p'.1.ob (hS _ _ _ _ (sM_spotsAt p' rfl q ?_))
            exact hC _ _ _ _ (fin q z _ (by rw [hF k q]))
          · refine And.intro (fun _ => ?_) (fun y => absurd y (by decide))
            refine And.intro (fun _ => ?_) (fun y => absurd y (by decide))
            refine ld 141 p'.1.ob (p'.1.2.2 19) ?_
            refine ld (oI (own ρ k)) (p'.1.inA (j := k) rfl rfl rfl rfl (by omega) rfl) (rdA rfl (by omega) (eo k q)) ?_
            refine And.intro p'.1.ob (hS _ _ _ _ (sM_costBy (o := own ρ k) p' rfl rfl q (fun d hd => own_lt hd) ?_))
            exact hC _ _ _ _ (fin q z _ (by rw [hF k q, lN_i]))
        · have z : ¬ pcW ρ k = s := fun y => z (congrArg nI y)
          refine hC _ _ _ _ (ih q _ _ (nI_1 k) ?_)
          rw [ho]; simp only [sumN]; rw [wN_F z]; rfl
      have hv2 : v ≠ 2 := fun z => n2 (by rw [z]; rfl)
      have hv3 : v = 0 ∨ v = 1 ∨ v = 3 := by omega
      rcases hv3 with rfl | rfl | rfl
      · rw [sel_in (i := 0) rfl (by decide) rfl] at hK
        exact hC _ _ _ _ (gen (fun _ => 1) hK (Or.inl ⟨rfl, fun _ _ => rfl⟩) 0 (by omega) _ _ rfl rfl)
      · rw [sel_in (i := 1) rfl (by decide) rfl] at hK
        have e : sumN (fun d => wN (pcW ρ (spot ρ d) = s) 1) (pcn ρ) = sumN (fun c => wN (pcW ρ c = s) (spotsAt ρ c)) (pcc ρ) := (sumN_swap (P := fun c => pcW ρ c = s) (f := spot ρ) (fun d hd => (spot_xy p.2.2 hd).2.2.1)).symm
        rw [e] at hK
        exact hC _ _ _ _ (gen (spotsAt ρ) hK (Or.inr (Or.inl ⟨rfl, fun _ _ => rfl⟩)) 0 (by omega) _ _ rfl rfl)
      · rw [sel_in (i := 3) rfl (by decide) rfl] at hK
        exact hC _ _ _ _ (gen (fun c => cstO ρ c (own ρ c)) hK (Or.inr (Or.inr ⟨rfl, fun _ _ => rfl⟩)) 0 (by omega) _ _ rfl rfl)
    · rw [sel_in (i := 2) e2 (by decide) rfl] at hK
      exact And.intro p'.1.ob (hS _ _ _ _ (sM_ownersOf p' rfl (by omega) eo hK))
  · have := hK h Fr.rf
    rw [sel_out (fun i hi z => q2 (e3.mpr ⟨i, by omega, by simp at hi; omega, z⟩))] at this
    exact this
theorem dq_val {c a : Nat} (g : Good ρ) (hc : c < pcc ρ) (ha : a < pcc ρ) : (nI c - nI c / nI (pcw ρ) * nI (pcw ρ) - (nI a - nI a / nI (pcw ρ) * nI (pcw ρ))) * (nI c - nI c / nI (pcw ρ) * nI (pcw ρ) - (nI a - nI a / nI (pcw ρ) * nI (pcw ρ))) + (nI c / nI (pcw ρ) - nI a / nI (pcw ρ)) * (nI c / nI (pcw ρ) - nI a / nI (pcw ρ)) = nI (dq ρ c a) ∧ dq ρ c a < 2 ^ 20 := by
  have gn := g.n
  have gc := g.c
  have x1 := g.xy hc
  have x2 := g.xy ha
  refine ⟨?_, ?_⟩
  · rw [pk_rem (by omega) (by omega) (by omega), pk_rem (by omega) (by omega) (by omega), pk_div (by omega) (by omega) (by omega), pk_div (by omega) (by omega) (by omega), nI_sqd, nI_sqd, nI_add]; rfl
  · have a1 := sqd_le (m := 20) (show c % pcw ρ ≤ 20 by omega) (show a % pcw ρ ≤ 20 by omega)
    have a2 := sqd_le (m := 20) (show c / pcw ρ ≤ 20 by omega) (show a / pcw ρ ≤ 20 by omega)
    unfold dq; omega
theorem mn_min (a b : Nat) : mn a b = if a < b then a else b := rfl
theorem sM_costWith {a : Nat} {x : Int32} {O : Nat → Option Nat} (p : MP h ρ) (hx : x = nI a) (ha : a < pcc ρ) (hO : ∀ c, c < pcc ρ → ∃ d, O c = some d ∧ d < pcn ρ) (ho : ∀ c, c < pcc ρ → hI h 141 c = oI (O c)) (hK : K (some (vL (lN (cmv ρ O a)))) h) : Spec G l (mt mM_costWith) [vR 136, vI x] h K := by
  subst hx
  have g := p.2.2.n
  have gc := p.2.2.c
  have hw := nI_ne0 (n := pcw ρ) (by omega) (by omega)
  have lp : ∀ k, k ≤ pcc ρ → ∀ i o, i = nI k → o = lN (sumN (cmc ρ O a) k) → ∀ z5 z6 z7 z9, Go G l (mt mM_costWith) 5 [some (vR 136), some (vI (nI a)), some (vL o), none, some (vI i), z5, z6, z7, none, z9, none] [] h 0 0 K := by
    refine upto _ ?_
    intro k hk ih i o hi ho2 z5 z6 z7 z9
    subst hi
    have fin : k < pcc ρ → ∀ w, w = lN (cmc ρ O a k) → ∀ z5 z6 z7 z9, Go G l (mt mM_costWith) 103 [some (vR 136), some (vI (nI a)), some (vL o), none, some (vI (nI k)), z5, z6, z7, none, z9, none] [vL w, vL o] h 0 0 K := by
      intro q w hw z5 z6 z7 z9
      subst hw
      refine gM_costWith 99 [(5, 11)] fun S Cu hS hC => ?_
      refine hC _ _ _ _ (ih q _ _ (nI_1 k) ?_ _ _ _ _)
      rw [ho2, lN_add]; rfl
    refine gM_costWith 99 [(103, 11)] fun S Cu hS hC => ?_
    refine And.intro p.1.ob (hS _ _ _ _ (sM_cells p ?_))
    refine pk_le (pcc ρ) k (fun q => ?_) (fun q => ?_)
    · obtain rfl : k = pcc ρ := by omega
      subst ho2; exact hK
    have wl := pcW_le p.2.2 q
    obtain ⟨dv, dl⟩ := dq_val p.2.2 q ha
    obtain ⟨d, ed, hd⟩ := hO k q
    have cl := cst_le p.2.2 q hd
    refine And.intro p.1.ob (hS _ _ _ _ (sM_wide p ?_))
    refine And.intro hw ?_
    refine And.intro p.1.ob (hS _ _ _ _ (sM_wide p ?_))
    refine And.intro hw ?_
    refine And.intro p.1.ob (hS _ _ _ _ (sM_wide p ?_))
    refine And.intro hw ?_
    refine And.intro p.1.ob (hS _ _ _ _ (sM_wide p ?_))
    refine And.intro hw ?_
    refine And.intro p.1.ob (hS _ _ _ _ (sM_weight p rfl (by omega) ?_))
    refine ld 141 p.1.ob (p.1.2.2 19) ?_
    refine ld (nI d) (p.1.inA (j := k) rfl rfl rfl rfl (by omega) rfl) (rdA rfl (by omega) ((ho k q).trans (by rw [ed]; rfl))) ?_
    refine And.intro p.1.ob (hS _ _ _ _ (sM_costBy (o := some d) p rfl rfl q (fun e he => by injection he with he; omega) ?_))
    have e1 : ∀ v : Int32, v = nI (dq ρ k a) → Int64.ofNat 1000 * (nI (pcW ρ k)).toInt64 * v.toInt64 = lN (1000 * pcW ρ k * dq ρ k a) := by
      intro v hv
      rw [hv, nI_l (by omega), nI_l (by omega), show Int64.ofNat 1000 = lN 1000 from rfl, lN_mul, lN_mul]
    have b1 : 1000 * pcW ρ k * dq ρ k a < 2 ^ 63 := Nat.lt_of_le_of_lt (Nat.mul_le_mul (show 1000 * pcW ρ k ≤ 9000 by omega) (Nat.le_of_lt dl)) (by decide)
    have e2 := pk_lLT (a := 1000 * pcW ρ k * dq ρ k a) (b := cst ρ k d) b1 (by omega)
    refine And.intro (fun z => ?_) (fun z => ?_)
    · have z : ¬ 1000 * pcW ρ k * dq ρ k a < cst ρ k d := fun y => absurd z (Int32.not_le.mpr (ig_lt.mpr (by rw [e1 _ dv]; exact e2.mpr y)))
      refine hC _ _ _ _ (fin q _ ?_ _ _ _ _)
      unfold cmc; rw [ed]; show _ = lN (mn _ _); rw [mn_min, if_neg z]; rfl
    · have z : 1000 * pcW ρ k * dq ρ k a < cst ρ k d := by
        have z := ig_lt.mp (Int32.not_le.mp z)
        rw [e1 _ dv] at z
        exact e2.mp z
      refine hC _ _ _ _ (fin q _ ?_ _ _ _ _)
      unfold cmc; rw [ed, e1 _ dv]; show _ = lN (mn _ _); rw [mn_min, if_pos z]
  exact eM_costWith 9 [(5, 11)] fun S Cu hS hC => hC _ _ _ _ (lp 0 (by omega) _ _ rfl rfl _ _ _ _)
theorem sM_costMoved {a : Nat} {x y : Int32} {O : Nat → Option Nat} (p : MP h ρ) (hx : x = nI a) (ha : a < pcc ρ) (hO : ∀ c d, O c = some d → d < pcn ρ) (ho : ∀ c, c < pcc ρ → hI h 141 c = oI (O c)) (hK : K (some (vL (lN (cmv ρ O a)))) h) : Spec G l (mt mM_costMoved) [vR 136, vI y, vI x] h K := by
  subst hx
  have g := p.2.2.n
  have gc := p.2.2.c
  have hw := nI_ne0 (n := pcw ρ) (by omega) (by omega)
  have lp : ∀ k, k ≤ pcc ρ → ∀ i o, i = nI k → o = lN (sumN (cmc ρ O a) k) → ∀ z6 z7 z8 z10, Go G l (mt mM_costMoved) 5 [some (vR 136), some (vI y), some (vI (nI a)), some (vL o), none, some (vI i), z6, z7, z8, none, z10, none] [] h 0 0 K := by
    refine upto _ ?_
    intro k hk ih i o hi ho2 z6 z7 z8 z10
    subst hi
    have fin : k < pcc ρ → ∀ w, w = lN (cmc ρ O a k) → ∀ z6 z7 z8 z10, Go G l (mt mM_costMoved) 119 [some (vR 136), some (vI y), some (vI (nI a)), some (vL o), none, some (vI (nI k)), z6, z7, z8, none, z10, none] [vL w, vL o] h 0 0 K := by
      intro q w hw z6 z7 z8 z10
      subst hw
      refine gM_costMoved 99 [(5, 12)] fun S Cu hS hC => ?_
      refine hC _ _ _ _ (ih q _ _ (nI_1 k) ?_ _ _ _ _)
      rw [ho2, lN_add]; rfl
    refine gM_costMoved 99 [(119, 12)] fun S Cu hS hC => ?_
    refine And.intro p.1.ob (hS _ _ _ _ (sM_cells p ?_))
    refine pk_le (pcc ρ) k (fun q => ?_) (fun q => ?_)
    · obtain rfl : k = pcc ρ := by omega
      subst ho2; exact hK
    have wl := pcW_le p.2.2 q
    obtain ⟨dv, dl⟩ := dq_val p.2.2 q ha
    refine And.intro p.1.ob (hS _ _ _ _ (sM_wide p ?_))
    refine And.intro hw ?_
    refine And.intro p.1.ob (hS _ _ _ _ (sM_wide p ?_))
    refine And.intro hw ?_
    refine And.intro p.1.ob (hS _ _ _ _ (sM_wide p ?_))
    refine And.intro hw ?_
    refine And.intro p.1.ob (hS _ _ _ _ (sM_wide p ?_))
    refine And.intro hw ?_
    refine And.intro p.1.ob (hS _ _ _ _ (sM_weight p rfl (by omega) ?_))
    refine ld 141 p.1.ob (p.1.2.2 19) ?_
    refine ld (oI (O k)) (p.1.inA (j := k) rfl rfl rfl rfl (by omega) rfl) (rdA rfl (by omega) (ho k q)) ?_
    have e1 : ∀ v : Int32, v = nI (dq ρ k a) → Int64.ofNat 1000 * (nI (pcW ρ k)).toInt64 * v.toInt64 = lN (1000 * pcW ρ k * dq ρ k a) := by
      intro v hv
      rw [hv, nI_l (by omega), nI_l (by omega), show Int64.ofNat 1000 = lN 1000 from rfl, lN_mul, lN_mul]
    have b1 : 1000 * pcW ρ k * dq ρ k a < 2 ^ 63 := Nat.lt_of_le_of_lt (Nat.mul_le_mul (show 1000 * pcW ρ k ≤ 9000 by omega) (Nat.le_of_lt dl)) (by decide)
    cases ed : O k with
    | none =>
      refine And.intro (fun z => absurd rfl z) (fun _ => ?_)
      refine And.intro (fun z => ?_) (fun z => absurd (ig_lt.mp (Int32.not_le.mp z)) Int64.lt_irrefl)
      refine hC _ _ _ _ (fin q _ ?_ _ _ _ _)
      unfold cmc; rw [ed, e1 _ dv]
    | some d =>
      have hd := hO k d ed
      have cl := cst_le p.2.2 q hd
      refine And.intro (fun _ => ?_) (fun z => absurd z (nI_m1 (by omega)))
      refine ld 141 p.1.ob (p.1.2.2 19) ?_
      refine ld (nI d) (p.1.inA (j := k) rfl rfl rfl rfl (by omega) rfl) (rdA rfl (by omega) ((ho k q).trans (by rw [ed]; rfl))) ?_
      refine And.intro p.1.ob (hS _ _ _ _ (sM_costBy (o := some d) p rfl rfl q (fun e he => by injection he with he; omega) ?_))
      have e2 := pk_lLT (a := 1000 * pcW ρ k * dq ρ k a) (b := cst ρ k d) b1 (by omega)
      refine And.intro (fun z => ?_) (fun z => ?_)
      · have z : ¬ 1000 * pcW ρ k * dq ρ k a < cst ρ k d := fun y => absurd z (Int32.not_le.mpr (ig_lt.mpr (by rw [e1 _ dv]; exact e2.mpr y)))
        refine hC _ _ _ _ (fin q _ ?_ _ _ _ _)
        unfold cmc; rw [ed]; show _ = lN (mn _ _); rw [mn_min, if_neg z]; rfl
      · have z : 1000 * pcW ρ k * dq ρ k a < cst ρ k d := by
          have z := ig_lt.mp (Int32.not_le.mp z)
          rw [e1 _ dv] at z
          exact e2.mp z
        refine hC _ _ _ _ (fin q _ ?_ _ _ _ _)
        unfold cmc; rw [ed, e1 _ dv]; show _ = lN (mn _ _); rw [mn_min, if_pos z]
  exact eM_costMoved 9 [(5, 12)] fun S Cu hS hC => hC _ _ _ _ (lp 0 (by omega) _ _ rfl rfl _ _ _ _)
theorem sM_more {w : Int32} (p : MP h ρ) (hK : ∀ h', Fr [141] h h' → K (some (vI (aMore ρ w))) h') : Spec G l (mt mM_more) [vR 136, vI w] h K := by
  have g := p.2.2.n
  have gc := p.2.2.c
  have e1 : (Int64.ofNat 0 ≤ w.toInt64 ∧ w.toInt64 ≤ Int64.ofNat 1) ↔ _ := isIn_lh (x := w) (lo := 0) (hi := 1) (by decide) (by decide)
  unfold aMore at hK
  refine eM_more 99 [(30, 8)] fun S Cu hS hC => ?_
  refine And.intro p.1.ob (hS _ _ _ _ (sM_dots p ?_))
  refine And.intro (fun q => ?_) (fun q => ?_)
  · have hn : pcn ρ = 0 := (nI_eq (b := 0) (by omega) (by decide)).mp q
    exact rtC (K := K) (by omega) (hK h Fr.rf)
  have hn : 0 < pcn ρ := Nat.pos_of_ne_zero (fun z => q (by rw [z]; rfl))
  rw [cif_T hn] at hK
  refine hS _ _ _ _ (sM_isIn ?_)
  refine brN (fun q2 => ?_) (fun q2 => ?_)
  · obtain ⟨v, -, hv, rfl⟩ := e1.mp q2
    refine And.intro p.1.ob (hS _ _ _ _ (sM_laysOwners p fun h' f eo => ?_))
    have p' := p.fr f rfl
    have hK := hK h' f
    have lp : ∀ k, k ≤ pcc ρ → ∀ b u i, (k = 0 → b = -1) → (0 < k → b = nI (argm (cmv ρ (own ρ)) k) ∧ u = lN (cmv ρ (own ρ) (argm (cmv ρ (own ρ)) k))) → i = nI k → ∀ z6, Go G l (mt mM_more) 30 [some (vR 136), some (vI (nI v)), some (vI b), some (vL u), none, some (vI i), z6, none] [] h' 0 0 K := by
      refine upto _ ?_
      intro k hk ih b u i hb0 hb1 hi z6
      subst hi
      refine gM_more 99 [(30, 8)] fun S Cu hS hC => ?_
      refine And.intro p'.1.ob (hS _ _ _ _ (sM_cells p' ?_))
      refine pk_le (pcc ρ) k (fun q => ?_) (fun q => ?_)
      · obtain rfl : k = pcc ρ := by omega
        obtain ⟨rfl, rfl⟩ := hb1 (by omega)
        refine And.intro (fun n0 => ?_) (fun e0 => ?_)
        · have : v = 1 := by
            have h0 : v ≠ 0 := fun z => n0 (by rw [z]; rfl)
            omega
          subst this
          rw [sel_in (i := 1) rfl (by decide) rfl] at hK
          exact rtI (K := K) (lN_i _) hK
        · rw [sel_in (i := 0) e0 (by decide) rfl] at hK; exact hK
      · refine And.intro p'.1.ob (hS _ _ _ _ (sM_costWith (O := own ρ) p' rfl q (fun c _ => by obtain ⟨d, e⟩ := own_some (ρ := ρ) (c := c) hn; exact ⟨d, e, own_lt e⟩) eo ?_))
        by_cases k0 : k = 0
        · subst k0
          rw [hb0 rfl]
          refine And.intro (fun _ => ?_) (fun z => absurd rfl z)
          exact hC _ _ _ _ (ih q _ _ _ (fun z => by omega) (fun _ => ⟨by rw [argm_1], by rw [argm_1]⟩) (nI_1 0) _)
        · obtain ⟨rfl, rfl⟩ := hb1 (by omega)
          have al := argm_lt (f := cmv ρ (own ρ)) (n := k) (by omega)
          have c1 := cmv_le p.2.2 (O := own ρ) q
          have c2 := cmv_le p.2.2 (O := own ρ) (show argm (cmv ρ (own ρ)) k < pcc ρ by omega)
          have e2 := pk_lLT (a := cmv ρ (own ρ) k) (b := cmv ρ (own ρ) (argm (cmv ρ (own ρ)) k)) (by omega) (by omega)
          refine And.intro (fun z => absurd z (nI_m1 (by omega))) (fun _ => ?_)
          refine And.intro (fun z => ?_) (fun z => ?_)
          · have z := e2.mp (ig_lt.mp z)
            have ea : argm (cmv ρ (own ρ)) (k + 1) = k := by simp only [argm]; rw [if_pos z]
            exact hC _ _ _ _ (ih q _ _ _ (fun z => by omega) (fun _ => ⟨by rw [ea], by rw [ea]⟩) (nI_1 k) _)
          · have z : ¬ cmv ρ (own ρ) k < cmv ρ (own ρ) (argm (cmv ρ (own ρ)) k) := fun y => z (ig_lt.mpr (e2.mpr y))
            have ea : argm (cmv ρ (own ρ)) (k + 1) = argm (cmv ρ (own ρ)) k := by simp only [argm]; rw [if_neg z]
            exact hC _ _ _ _ (ih q _ _ _ (fun z => by omega) (fun _ => ⟨by rw [ea], by rw [ea]⟩) (nI_1 k) _)
    exact hC _ _ _ _ (lp 0 (by omega) _ _ _ (fun _ => rfl) (fun z => by omega) rfl _)
  · have := hK h Fr.rf
    rw [sel_out (fun i hi z => q2 (e1.mpr ⟨i, by omega, by simp at hi; omega, z⟩))] at this
    exact this
theorem sM_best {x w : Int32} (p : MP h ρ) (hK : ∀ h', Fr [141] h h' → K (some (vI (aBest ρ x w))) h') : Spec G l (mt mM_best) [vR 136, vI x, vI w] h K := by
  have g := p.2.2.n
  have gc := p.2.2.c
  have e1 : (Int64.ofNat 0 ≤ w.toInt64 ∧ w.toInt64 ≤ Int64.ofNat 1) ↔ _ := isIn_lh (x := w) (lo := 0) (hi := 1) (by decide) (by decide)
  unfold aBest at hK
  refine eM_best 99 [(22, 9)] fun S Cu hS hC => ?_
  refine And.intro p.1.ob (hS _ _ _ _ (sM_isDot p ?_))
  refine brE (fun q => ?_) (fun q => ?_)
  · exact rtC (K := K) q (hK h Fr.rf)
  rw [cif_T q] at hK
  obtain ⟨d, hd, rfl⟩ := q
  rw [ix_nI (by omega)] at hK
  refine hS _ _ _ _ (sM_isIn ?_)
  refine brN (fun q2 => ?_) (fun q2 => ?_)
  · obtain ⟨v, -, hv, rfl⟩ := e1.mp q2
    have lp : ∀ h', Fr [141] h h' → (∀ c, c < pcc ρ → hI h' 141 c = oI (owB ρ d c)) → ∀ k, k ≤ pcc ρ → ∀ b u i, (k = 0 → b = -1) → (0 < k → b = nI (argm (cmv ρ (owB ρ d)) k) ∧ u = lN (cmv ρ (owB ρ d) (argm (cmv ρ (owB ρ d)) k))) → i = nI k → ∀ z7, Go G l (mt mM_best) 56 [some (vR 136), some (vI (nI d)), some (vI (nI v)), some (vI b), some (vL u), none, some (vI i), z7, none] [] h' 0 0 K := by
      intro h' f eo
      have p' := p.fr f rfl
      have hK := hK h' f
      refine upto _ ?_
      intro k hk ih b u i hb0 hb1 hi z7
      subst hi
      refine gM_best 99 [(56, 9)] fun S Cu hS hC => ?_
      refine And.intro p'.1.ob (hS _ _ _ _ (sM_cells p' ?_))
      refine pk_le (pcc ρ) k (fun q => ?_) (fun q => ?_)
      · obtain rfl : k = pcc ρ := by omega
        obtain ⟨rfl, rfl⟩ := hb1 (by omega)
        refine And.intro (fun n0 => ?_) (fun e0 => ?_)
        · have : v = 1 := by
            have h0 : v ≠ 0 := fun z => n0 (by rw [z]; rfl)
            omega
          subst this
          rw [sel_in (i := 1) rfl (by decide) rfl] at hK
          exact rtI (K := K) (lN_i _) hK
        · rw [sel_in (i := 0) e0 (by decide) rfl] at hK; exact hK
      · refine And.intro p'.1.ob (hS _ _ _ _ (sM_costMoved (O := owB ρ d) p' rfl q (fun c e he => (ow_lt he).1) eo ?_))
        by_cases k0 : k = 0
        · subst k0
          rw [hb0 rfl]
          refine And.intro (fun _ => ?_) (fun z => absurd rfl z)
          exact hC _ _ _ _ (ih q _ _ _ (fun z => by omega) (fun _ => ⟨by rw [argm_1], by rw [argm_1]⟩) (nI_1 0) _)
        · obtain ⟨rfl, rfl⟩ := hb1 (by omega)
          have al := argm_lt (f := cmv ρ (owB ρ d)) (n := k) (by omega)
          have c1 := cmv_le p.2.2 (O := owB ρ d) q
          have c2 := cmv_le p.2.2 (O := owB ρ d) (show argm (cmv ρ (owB ρ d)) k < pcc ρ by omega)
          have e2 := pk_lLT (a := cmv ρ (owB ρ d) k) (b := cmv ρ (owB ρ d) (argm (cmv ρ (owB ρ d)) k)) (by omega) (by omega)
          refine And.intro (fun z => absurd z (nI_m1 (by omega))) (fun _ => ?_)
          refine And.intro (fun z => ?_) (fun z => ?_)
          · have z := e2.mp (ig_lt.mp z)
            have ea : argm (cmv ρ (owB ρ d)) (k + 1) = k := by simp only [argm]; rw [if_pos z]
            exact hC _ _ _ _ (ih q _ _ _ (fun z => by omega) (fun _ => ⟨by rw [ea], by rw [ea]⟩) (nI_1 k) _)
          · have z : ¬ cmv ρ (owB ρ d) k < cmv ρ (owB ρ d) (argm (cmv ρ (owB ρ d)) k) := fun y => z (ig_lt.mpr (e2.mpr y))
            have ea : argm (cmv ρ (owB ρ d)) (k + 1) = argm (cmv ρ (owB ρ d)) k := by simp only [argm]; rw [if_neg z]
            exact hC _ _ _ _ (ih q _ _ _ (fun z => by omega) (fun _ => ⟨by rw [ea], by rw [ea]⟩) (nI_1 k) _)
    have lp0 : ∀ k, k ≤ pcc ρ → ∀ h', Fr [141] h h' → (∀ c, c < k → hI h' 141 c = oI (owB ρ d c)) → ∀ i, i = nI k → ∀ z4 z5 z6 z7 z8, Go G l (mt mM_best) 22 [some (vR 136), some (vI (nI d)), some (vI (nI v)), some (vI i), z4, z5, z6, z7, z8] [] h' 0 0 K := by
      refine upto _ ?_
      intro k hk ih h' f ho i hi z4 z5 z6 z7 z8
      subst hi
      have p' := p.fr f rfl
      refine gM_best 99 [(22, 9), (56, 7)] fun S Cu hS hC => ?_
      refine And.intro p'.1.ob (hS _ _ _ _ (sM_cells p' ?_))
      refine pk_le (pcc ρ) k (fun q => ?_) (fun q => ?_)
      · obtain rfl : k = pcc ρ := by omega
        exact hC _ _ _ _ (lp h' f ho 0 (by omega) _ _ _ (fun _ => rfl) (fun z => by omega) rfl none)
      · refine ld 141 p'.1.ob (p'.1.2.2 19) ?_
        refine And.intro p'.1.ob (hS _ _ _ _ (sM_ownerBut p' rfl q ?_))
        refine sw k (oI (owB ρ d k)) (p'.1.inA (j := k) rfl rfl rfl rfl (by omega) rfl) (ix_nI (by omega)) (congrArg oI (owX_d p.2.2 hd k)) ?_
        refine hC _ _ _ _ (ih q _ (f.setI rfl) ?_ _ (nI_1 k) _ _ _ _ _)
        intro c hc
        by_cases e : c = k
        · subst e; exact si_eq
        · rw [si_ne e]; exact ho c (by omega)
    exact hC _ _ _ _ (lp0 0 (by omega) h Fr.rf (fun c hc => by omega) _ rfl _ _ _ _ _)
  · have := hK h Fr.rf
    rw [sel_out (fun i hi z => q2 (e1.mpr ⟨i, by omega, by simp at hi; omega, z⟩))] at this
    exact this
theorem sM_ties {x y : Int32} (p : MP h ρ) (hK : K (some (vI (aTies ρ x y))) h) : Spec G l (mt mM_ties) [vR 136, vI x, vI y] h K := by
  have g := p.2.2.n
  have gc := p.2.2.c
  unfold aTies at hK
  refine eM_ties 99 [(39, 7)] fun S Cu hS hC => ?_
  refine And.intro p.1.ob (hS _ _ _ _ (sM_isCell p ?_))
  refine brE (fun q => ?_) (fun q => ?_)
  · exact rtC (K := K) q hK
  rw [cif_T q] at hK
  obtain ⟨i, j, hi, hj, rfl, rfl, ec, hc, em, ed⟩ := isC_c p.2.2 q
  rw [ec] at hK
  refine And.intro p.1.ob (hS _ _ _ _ (sM_dots p ?_))
  refine And.intro (fun q2 => ?_) (fun q2 => ?_)
  · have hn : 0 < pcn ρ := Nat.pos_of_ne_zero (fun z => q2 (by rw [z]; rfl))
    obtain ⟨b, eb⟩ := own_some (ρ := ρ) (c := pcw ρ * j + i) hn
    have bl := own_lt eb
    rw [eb] at hK
    have hK : K (some (vI (nI (sumN (fun d => wN (¬ nearer ρ (pcw ρ * j + i) b d) 1) (pcn ρ))))) h := hK
    have lp : ∀ k, k ≤ pcn ρ → ∀ u o, u = nI k → o = nI (sumN (fun d => wN (¬ nearer ρ (pcw ρ * j + i) b d) 1) k) → Go G l (mt mM_ties) 39 [some (vR 136), some (vI (nI i)), some (vI (nI j)), some (vI (nI (pcw ρ * j + i))), some (vI (nI b)), some (vI o), some (vI u)] [] h 0 0 K := by
      refine upto _ ?_
      intro k hk ih u o hu ho
      subst hu
      have fin : k < pcn ρ → ∀ w, w = bI (¬ nearer ρ (pcw ρ * j + i) b k) → Go G l (mt mM_ties) 67 [some (vR 136), some (vI (nI i)), some (vI (nI j)), some (vI (nI (pcw ρ * j + i))), some (vI (nI b)), some (vI o), some (vI (nI k))] [vI w, vI o] h 0 0 K := by
        intro q w hw
        subst hw
        refine gM_ties 99 [(39, 7)] fun S Cu hS hC => ?_
        refine hS _ _ _ _ (sM_truth ?_)
        refine hC _ _ _ _ (ih q _ _ (nI_1 k) ?_)
        rw [ho, bI_wN, nI_add]; rfl
      refine gM_ties 99 [(67, 7)] fun S Cu hS hC => ?_
      refine And.intro p.1.ob (hS _ _ _ _ (sM_dots p ?_))
      refine pk_le (pcn ρ) k (fun q => ?_) (fun q => ?_)
      · obtain rfl : k = pcn ρ := by omega
        subst ho; exact hK
      · refine And.intro p.1.ob (hS _ _ _ _ (sM_isNearer p rfl rfl rfl hc bl q ?_))
        refine brN (fun z => ?_) (fun z => ?_)
        · exact hC _ _ _ _ (fin q _ (bI_F (fun y => y z)).symm)
        · exact hC _ _ _ _ (fin q _ (bI_T z).symm)
    refine And.intro p.1.ob (hS _ _ _ _ (sM_numberOf p rfl rfl ?_))
    refine And.intro p.1.ob (hS _ _ _ _ (sM_ownerBut p rfl hc ?_))
    have e0 : oI (ow ρ (fun d => ¬ nI d = -1) (pcw ρ * j + i) (pcn ρ)) = nI b := (congrArg oI (owX_m1 p.2.2 _)).trans (congrArg oI eb)
    rw [e0]
    exact hC _ _ _ _ (lp 0 (by omega) _ _ rfl rfl)
  · have hn : pcn ρ = 0 := (nI_eq (b := 0) (by omega) (by decide)).mp q2
    rw [own_none hn] at hK
    exact hK
end MM
