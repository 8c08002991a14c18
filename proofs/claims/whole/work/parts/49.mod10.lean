/-! ===== the model: touch, edge, tone, shade ===== -/
theorem oI_eq {o : Option Nat} {d : Nat} (h : ∀ b, o = some b → b < 2 ^ 31) (hd : d < 2 ^ 31) : oI o = nI d ↔ o = some d := by
  cases o with
  | none => exact ⟨fun z => absurd z.symm (nI_m1 hd), fun z => by cases z⟩
  | some q => exact ⟨fun z => congrArg some ((nI_eq (h q rfl) hd).mp z), fun z => by injection z with z; rw [z]; rfl⟩
theorem own_oI {ρ : Pic} (g : Good ρ) {c d : Nat} (hd : d < 2 ^ 31) : oI (own ρ c) = nI d ↔ own ρ c = some d := oI_eq (fun b e => by have := own_lt e; have := g.n; omega) hd
section MM
variable {G : GP} {l : Launch} {K : Option AV → AH → Prop} {h : AH} {ρ : Pic}
theorem sM_touch {x y : Int32} (p : MP h ρ) (hK : ∀ h', Fr [141] h h' → K (some (vI (aTouch ρ x y))) h') : Spec G l (mt mM_touch) [vR 136, vI x, vI y] h K := by
  have g := p.2.2.n
  unfold aTouch at hK
  refine eM_touch 39 [] fun S Cu hS hC => ?_
  refine And.intro p.1.ob (hS _ _ _ _ (sM_isDot p ?_))
  refine brE (fun q => ?_) (fun q => ?_)
  · exact rtC (K := K) (fun z => q z.1) (hK h Fr.rf)
  refine And.intro p.1.ob (hS _ _ _ _ (sM_isDot p ?_))
  refine brE (fun q2 => ?_) (fun q2 => ?_)
  · exact rtC (K := K) (fun z => q2 z.2.1) (hK h Fr.rf)
  refine And.intro (fun q3 => ?_) (fun q3 => ?_)
  · rw [cif_T ⟨q, q2, q3⟩] at hK
    obtain ⟨a, ha, rfl⟩ := q
    obtain ⟨b, hb, rfl⟩ := q2
    rw [ix_nI (by omega), ix_nI (by omega)] at hK
    refine And.intro p.1.ob (hS _ _ _ _ (sM_laysOwners p fun h' f eo => ?_))
    have p' := p.fr f rfl
    exact And.intro p'.1.ob (hS _ _ _ _ (sM_touches p' rfl rfl (by omega) (by omega) eo (hK h' f)))
  · exact rtC (K := K) (fun z => z.2.2 q3) (hK h Fr.rf)
theorem sM_farthestOf {d : Nat} {x : Int32} (p : MP h ρ) (hx : x = nI d) (hd : d < pcn ρ) (ho : ∀ c, c < pcc ρ → hI h 141 c = oI (own ρ c)) (hK : K (some (vI (oI (frO ρ d (pcc ρ))))) h) : Spec G l (mt mM_farthestOf) [vR 136, vI x] h K := by
  subst hx
  have g := p.2.2.n
  have gc := p.2.2.c
  have lp : ∀ k, k ≤ pcc ρ → ∀ i o, i = nI k → o = oI (frO ρ d k) → Go G l (mt mM_farthestOf) 4 [some (vR 136), some (vI (nI d)), some (vI o), some (vI i)] [] h 0 0 K := by
    refine upto _ ?_
    intro k hk ih i o hi ho2
    subst hi
    refine gM_farthestOf 99 [(4, 4)] fun S Cu hS hC => ?_
    refine And.intro p.1.ob (hS _ _ _ _ (sM_cells p ?_))
    refine pk_le (pcc ρ) k (fun q => ?_) (fun q => ?_)
    · obtain rfl : k = pcc ρ := by omega
      subst ho2; exact hK
    · refine ld 141 p.1.ob (p.1.2.2 19) ?_
      refine ld (oI (own ρ k)) (p.1.inA (j := k) rfl rfl rfl rfl (by omega) rfl) (rdA rfl (by omega) (ho k q)) ?_
      have eo := own_oI p.2.2 (c := k) (show d < 2 ^ 31 by omega)
      refine And.intro (fun z => ?_) (fun z => ?_)
      · have z : ¬ own ρ k = some d := fun y => z (eo.mpr y)
        refine hC _ _ _ _ (ih q _ _ (nI_1 k) (ho2.trans ?_))
        simp only [frO]
        cases frO ρ d k with
        | none => simp only; rw [if_neg z]
        | some b => simp only; rw [if_neg (fun y => z y.1)]
      · have z := eo.mp z
        cases e : frO ρ d k with
        | none =>
          rw [e] at ho2; subst ho2
          refine And.intro (fun _ => ?_) (fun y => absurd rfl y)
          refine hC _ _ _ _ (ih q _ _ (nI_1 k) ?_)
          simp only [frO, e]; rw [if_pos z]; rfl
        | some b =>
          have bl := frO_lt e
          rw [e] at ho2; subst ho2
          refine And.intro (fun y => absurd y (nI_m1 (by omega))) (fun _ => ?_)
          refine And.intro p.1.ob (hS _ _ _ _ (sM_upper p rfl rfl q hd ?_))
          refine And.intro p.1.ob (hS _ _ _ _ (sM_upper p rfl rfl (by omega) hd ?_))
          have g1 := gap_le p.2.2 q hd
          have g2 := gap_le p.2.2 (show b < pcc ρ by omega) hd
          have e2 := pk_lLT (a := gap ρ b d) (b := gap ρ k d) (by omega) (by omega)
          refine And.intro (fun y => ?_) (fun y => ?_)
          · have y : ¬ gap ρ b d < gap ρ k d := fun v => absurd y (Int32.not_le.mpr (ig_gt.mpr (e2.mpr v)))
            refine hC _ _ _ _ (ih q _ _ (nI_1 k) ?_)
            simp only [frO, e]; rw [if_neg (fun v => y v.2)]
          · have y := e2.mp (ig_gt.mp (Int32.not_le.mp y))
            refine hC _ _ _ _ (ih q _ _ (nI_1 k) ?_)
            simp only [frO, e]; rw [if_pos ⟨z, y⟩]; rfl
  exact eM_farthestOf 9 [(4, 4)] fun S Cu hS hC => hC _ _ _ _ (lp 0 (by omega) _ _ rfl rfl)
theorem sM_outside {d : Nat} {x : Int32} (p : MP h ρ) (hx : x = nI d) (hd : d < pcn ρ) (ho : ∀ c, c < pcc ρ → hI h 141 c = oI (own ρ c)) (hK : K (some (vI (nI (outs ρ d)))) h) : Spec G l (mt mM_outside) [vR 136, vI x] h K := by
  subst hx
  have g := p.2.2.n
  have gc := p.2.2.c
  have lp : ∀ k, k ≤ pcc ρ → ∀ i o, i = nI k → o = nI (sumN (fun c => wN (own ρ c = some d ∧ atE ρ c) 1) k) → ∀ z4, Go G l (mt mM_outside) 4 [some (vR 136), some (vI (nI d)), some (vI o), some (vI i), z4] [] h 0 0 K := by
    refine upto _ ?_
    intro k hk ih i o hi ho2 z4
    subst hi
    have fin : k < pcc ρ → ∀ w, w = bI (atE ρ k) → ∀ z4, Go G l (mt mM_outside) 65 [some (vR 136), some (vI (nI d)), some (vI o), some (vI (nI k)), z4] [vI w] h 0 0 K := by
      intro q w hw z4
      subst hw
      have fin2 : ∀ w2, w2 = bI (own ρ k = some d ∧ atE ρ k) → ∀ z4, Go G l (mt mM_outside) 88 [some (vR 136), some (vI (nI d)), some (vI o), some (vI (nI k)), z4] [vI w2, vI o] h 0 0 K := by
        intro w2 hw2 z4
        subst hw2
        refine gM_outside 99 [(4, 5)] fun S Cu hS hC => ?_
        refine hS _ _ _ _ (sM_truth ?_)
        refine hC _ _ _ _ (ih q _ _ (nI_1 k) ?_ _)
        rw [ho2, bI_wN, nI_add]; rfl
      refine gM_outside 99 [(88, 5)] fun S Cu hS hC => ?_
      refine ld 141 p.1.ob (p.1.2.2 19) ?_
      refine ld (oI (own ρ k)) (p.1.inA (j := k) rfl rfl rfl rfl (by omega) rfl) (rdA rfl (by omega) (ho k q)) ?_
      have eo := own_oI p.2.2 (c := k) (show d < 2 ^ 31 by omega)
      refine And.intro (fun z => ?_) (fun z => ?_)
      · exact hC _ _ _ _ (fin2 _ (bI_F (fun y => z (eo.mpr y.1))).symm _)
      · refine brE (fun y => ?_) (fun y => ?_)
        · exact hC _ _ _ _ (fin2 _ (bI_F (fun v => y v.2)).symm _)
        · exact hC _ _ _ _ (fin2 _ (bI_T ⟨eo.mp z, y⟩).symm _)
    refine gM_outside 99 [(65, 5)] fun S Cu hS hC => ?_
    refine And.intro p.1.ob (hS _ _ _ _ (sM_cells p ?_))
    refine pk_le (pcc ρ) k (fun q => ?_) (fun q => ?_)
    · obtain rfl : k = pcc ρ := by omega
      subst ho2; exact hK
    have xy := p.2.2.xy q
    have hw := nI_ne0 (n := pcw ρ) (by omega) (by omega)
    have em := pk_rem (a := k) (d := pcw ρ) (by omega) (by omega) (by omega)
    have ed := pk_div (a := k) (d := pcw ρ) (by omega) (by omega) (by omega)
    refine And.intro p.1.ob (hS _ _ _ _ (sM_wide p ?_))
    refine And.intro hw ?_
    refine pk_eq (k % pcw ρ) 0 (fun z => ?_) (fun z => ?_) em rfl
    · exact hC _ _ _ _ (fin q _ (bI_T (Or.inl z)).symm _)
    refine And.intro p.1.ob (hS _ _ _ _ (sM_wide p ?_))
    refine And.intro hw ?_
    refine pk_eq (k / pcw ρ) 0 (fun z2 => ?_) (fun z2 => ?_) ed rfl
    · exact hC _ _ _ _ (fin q _ (bI_T (Or.inr (Or.inl z2))).symm _)
    refine And.intro p.1.ob (hS _ _ _ _ (sM_wide p ?_))
    refine And.intro hw ?_
    refine And.intro p.1.ob (hS _ _ _ _ (sM_wide p ?_))
    refine pk_eq (k % pcw ρ) (pcw ρ - 1) (fun z3 => ?_) (fun z3 => ?_) em (by first | with_reducible rfl | (try simp (disch := omega) only [pk_rem]) <;> simp (disch := omega) only [nl0, nl1, nl2, nl3, nl4, nl8, nl9, nl10, nl12, nl20, nl24, nl30, nl32, nl40, nl48, nl100, nl120, nl200, nl255, nl400, nl404, nl524, nl900, nl1000, nl9999, nl16, nl65536, nI_add, pk_mul, pk_sub, pk_div, pk_rem, Nat.add_zero, Nat.zero_add, Nat.mul_one, Nat.add_sub_cancel_left, Nat.add_sub_cancel])
    · exact hC _ _ _ _ (fin q _ (bI_T (Or.inr (Or.inr (Or.inl z3)))).symm _)
    refine And.intro p.1.ob (hS _ _ _ _ (sM_wide p ?_))
    refine And.intro hw ?_
    refine And.intro p.1.ob (hS _ _ _ _ (sM_high p ?_))
    have eh : nI (pch ρ) - 1 = nI (pch ρ - 1) := by first | with_reducible rfl | (try simp (disch := omega) only [pk_rem]) <;> simp (disch := omega) only [nl0, nl1, nl2, nl3, nl4, nl8, nl9, nl10, nl12, nl20, nl24, nl30, nl32, nl40, nl48, nl100, nl120, nl200, nl255, nl400, nl404, nl524, nl900, nl1000, nl9999, nl16, nl65536, nI_add, pk_mul, pk_sub, pk_div, pk_rem, Nat.add_zero, Nat.zero_add, Nat.mul_one, Nat.add_sub_cancel_left, Nat.add_sub_cancel]
    refine And.intro (fun z4 => ?_) (fun z4 => ?_)
    · rw [ed, eh, nI_eq (by omega) (by omega)] at z4
      exact hC _ _ _ _ (fin q _ (bI_F (fun y => y.elim z (fun y => y.elim z2 (fun y => y.elim z3 z4)))).symm _)
    · rw [ed, eh, nI_eq (by omega) (by omega)] at z4
      exact hC _ _ _ _ (fin q _ (bI_T (Or.inr (Or.inr (Or.inr z4)))).symm _)
  exact eM_outside 9 [(4, 5)] fun S Cu hS hC => hC _ _ _ _ (lp 0 (by omega) _ _ rfl rfl _)
theorem sM_edge {x w : Int32} (p : MP h ρ) (hK : ∀ h', Fr [141] h h' → K (some (vI (aEdge ρ x w))) h') : Spec G l (mt mM_edge) [vR 136, vI x, vI w] h K := by
  have g := p.2.2.n
  have e2 : (Int64.ofNat 0 ≤ w.toInt64 ∧ w.toInt64 ≤ Int64.ofNat 2) ↔ _ := isIn_lh (x := w) (lo := 0) (hi := 2) (by decide) (by decide)
  unfold aEdge at hK
  refine eM_edge 99 [(52, 5)] fun S Cu hS hC => ?_
  refine And.intro p.1.ob (hS _ _ _ _ (sM_isDot p ?_))
  refine brE (fun q => ?_) (fun q => ?_)
  · exact rtC (K := K) q (hK h Fr.rf)
  rw [cif_T q] at hK
  obtain ⟨d, hd, rfl⟩ := q
  rw [ix_nI (by omega)] at hK
  refine hS _ _ _ _ (sM_isIn ?_)
  refine brN (fun q2 => ?_) (fun q2 => ?_)
  · obtain ⟨v, -, hv, rfl⟩ := e2.mp q2
    refine And.intro p.1.ob (hS _ _ _ _ (sM_laysOwners p fun h' f eo => ?_))
    have p' := p.fr f rfl
    have hK := hK h' f
    refine And.intro (fun n0 => ?_) (fun e0 => ?_)
    · refine And.intro (fun n2 => ?_) (fun e2 => ?_)
      · have : v = 1 := by
          have h0 : v ≠ 0 := fun z => n0 (by rw [z]; rfl)
          have h2 : v ≠ 2 := fun z => n2 (by rw [z]; rfl)
          omega
        subst this
        rw [sel_in (i := 1) rfl (by decide) rfl] at hK
        have lp : ∀ k, k ≤ pcn ρ → ∀ i o, i = nI k → o = nI (sumN (fun e => wN (¬ e = d) (tch ρ d e)) k) → Go G l (mt mM_edge) 52 [some (vR 136), some (vI (nI d)), some (vI (nI 1)), some (vI o), some (vI i)] [] h' 0 0 K := by
          refine upto _ ?_
          intro k hk ih i o hi ho
          subst hi
          have fin : k < pcn ρ → ∀ w, w = nI (wN (¬ k = d) (tch ρ d k)) → Go G l (mt mM_edge) 79 [some (vR 136), some (vI (nI d)), some (vI (nI 1)), some (vI o), some (vI (nI k))] [vI w, vI o] h' 0 0 K := by
            intro q w hw
            subst hw
            refine gM_edge 99 [(52, 5)] fun S Cu hS hC => ?_
            refine hC _ _ _ _ (ih q _ _ (nI_1 k) ?_)
            rw [ho, nI_add]; rfl
          refine gM_edge 99 [(79, 5)] fun S Cu hS hC => ?_
          refine And.intro p'.1.ob (hS _ _ _ _ (sM_dots p' ?_))
          refine pk_le (pcn ρ) k (fun q => ?_) (fun q => ?_)
          · obtain rfl : k = pcn ρ := by omega
            subst ho; exact hK
          · refine And.intro (fun z => ?_) (fun z => ?_)
            · refine And.intro p'.1.ob (hS _ _ _ _ (sM_touches p' rfl rfl (by omega) (by omega) eo ?_))
              exact hC _ _ _ _ (fin q _ (by rw [wN_T (fun y => z (by rw [y]))]))
            · have z := (nI_eq (by omega) (by omega)).mp z
              exact hC _ _ _ _ (fin q _ (by rw [wN_F (fun y => y z)]; rfl))
        exact hC _ _ _ _ (lp 0 (by omega) _ _ rfl rfl)
      · rw [sel_in (i := 2) e2 (by decide) rfl] at hK
        exact And.intro p'.1.ob (hS _ _ _ _ (sM_outside p' rfl hd eo hK))
    · rw [sel_in (i := 0) e0 (by decide) rfl] at hK
      exact And.intro p'.1.ob (hS _ _ _ _ (sM_farthestOf p' rfl hd eo hK))
  · have := hK h Fr.rf
    rw [sel_out (fun i hi z => q2 (e2.mpr ⟨i, by omega, by simp at hi; omega, z⟩))] at this
    exact this
theorem sM_isWithin {c i j r q : Nat} {a x y z w : Int32} (p : MP h ρ) (ha : a = nI c) (hx : x = nI i) (hy : y = nI j) (hz : z = nI r) (hw : w = nI q) (hc : c < pcc ρ) (hi : i < 2 ^ 30) (hj : j < 2 ^ 30) (hr : r < 2 ^ 30) (hq : q < 2 ^ 30) (hK : K (some (vI (bI (wi ρ i j r q c)))) h) : Spec G l (mt mM_isWithin) [vR 136, vI a, vI x, vI y, vI z, vI w] h K := by
  subst ha; subst hx; subst hy; subst hz; subst hw
  have g := p.2.2.n
  have gc := p.2.2.c
  have xy := p.2.2.xy hc
  have hw := nI_ne0 (n := pcw ρ) (by omega) (by omega)
  have em := pk_rem (a := c) (d := pcw ρ) (by omega) (by omega) (by omega)
  have ed := pk_div (a := c) (d := pcw ρ) (by omega) (by omega) (by omega)
  have key : ∀ {u : Int32} {m lo hi : Nat}, u = nI m → m < 2 ^ 30 → lo < 2 ^ 30 → hi < 2 ^ 30 → (((nI lo).toInt64 ≤ u.toInt64 ∧ u.toInt64 ≤ (nI hi).toInt64) ↔ (lo ≤ m ∧ m ≤ hi)) := by
    intro u m lo hi hu hm hl hh
    subst hu
    rw [Int32.toInt64_le, Int32.toInt64_le, nI_leI (by omega) (by omega), nI_leI (by omega) (by omega)]
  refine eM_isWithin 99 [] fun S Cu hS hC => ?_
  refine And.intro p.1.ob (hS _ _ _ _ (sM_wide p ?_))
  refine And.intro hw ?_
  refine hS _ _ _ _ (sM_isIn ?_)
  refine brE (fun z => ?_) (fun z => ?_)
  · exact rzF (fun y => z ((key em (by omega) hi hr).mpr y.1)) hK
  refine And.intro p.1.ob (hS _ _ _ _ (sM_wide p ?_))
  refine And.intro hw ?_
  refine hS _ _ _ _ (sM_isIn ?_)
  refine brE (fun z2 => ?_) (fun z2 => ?_)
  · exact rzF (fun y => z2 ((key ed (by omega) hj hq).mpr y.2)) hK
  · exact rzT ⟨(key em (by omega) hi hr).mp z, (key ed (by omega) hj hq).mp z2⟩ hK
theorem sM_weightsIn {i j r q : Nat} {x y z w : Int32} (p : MP h ρ) (hx : x = nI i) (hy : y = nI j) (hz : z = nI r) (hw : w = nI q) (hi : i < 2 ^ 30) (hj : j < 2 ^ 30) (hr : r < 2 ^ 30) (hq : q < 2 ^ 30) (hK : K (some (vI (nI (grey ρ i j r q)))) h) : Spec G l (mt mM_weightsIn) [vR 136, vI x, vI y, vI z, vI w] h K := by
  have g := p.2.2.n
  have gc := p.2.2.c
  have lp : ∀ k, k ≤ pcc ρ → ∀ u o, u = nI k → o = nI (sumN (fun c => wN (wi ρ i j r q c) (pcW ρ c)) k) → Go G l (mt mM_weightsIn) 6 [some (vR 136), some (vI x), some (vI y), some (vI z), some (vI w), some (vI o), some (vI u)] [] h 0 0 K := by
    refine upto _ ?_
    intro k hk ih u o hu ho
    subst hu
    have fin : k < pcc ρ → ∀ v, v = nI (wN (wi ρ i j r q k) (pcW ρ k)) → Go G l (mt mM_weightsIn) 41 [some (vR 136), some (vI x), some (vI y), some (vI z), some (vI w), some (vI o), some (vI (nI k))] [vI v, vI o] h 0 0 K := by
      intro q2 v hv
      subst hv
      refine gM_weightsIn 99 [(6, 7)] fun S Cu hS hC => ?_
      refine hC _ _ _ _ (ih q2 _ _ (nI_1 k) ?_)
      rw [ho, nI_add]; rfl
    refine gM_weightsIn 99 [(41, 7)] fun S Cu hS hC => ?_
    refine And.intro p.1.ob (hS _ _ _ _ (sM_cells p ?_))
    refine pk_le (pcc ρ) k (fun q2 => ?_) (fun q2 => ?_)
    · obtain rfl : k = pcc ρ := by omega
      subst ho; exact hK
    · refine And.intro p.1.ob (hS _ _ _ _ (sM_isWithin p rfl hx hy hz hw q2 hi hj hr hq ?_))
      refine brE (fun z => ?_) (fun z => ?_)
      · exact hC _ _ _ _ (fin q2 _ (by rw [wN_F z]; rfl))
      · refine And.intro p.1.ob (hS _ _ _ _ (sM_weight p rfl (by omega) ?_))
        exact hC _ _ _ _ (fin q2 _ (by rw [wN_T z]))
  exact eM_weightsIn 9 [(6, 7)] fun S Cu hS hC => hC _ _ _ _ (lp 0 (by omega) _ _ rfl rfl)
theorem sM_laysSpots (p : MP h ρ) (hK : ∀ h', Fr [153] h h' → (∀ d, d < pcn ρ → hI h' 153 d = nI (spot ρ d)) → K none h') : Spec G l (mt mM_laysSpots) [vR 136] h K := by
  have g := p.2.2.n
  have lp : ∀ k, k ≤ pcn ρ → ∀ h', Fr [153] h h' → (∀ c, c < k → hI h' 153 c = nI (spot ρ c)) → ∀ i, i = nI k → Go G l (mt mM_laysSpots) 2 [some (vR 136), some (vI i)] [] h' 0 0 K := by
    refine upto _ ?_
    intro k hk ih h' f ho i hi
    subst hi
    have p := p.fr f rfl
    refine gM_laysSpots 99 [(2, 2)] fun S Cu hS hC => ?_
    refine And.intro p.1.ob (hS _ _ _ _ (sM_dots p ?_))
    refine pk_le (pcn ρ) k (fun q => ?_) (fun q => ?_)
    · obtain rfl : k = pcn ρ := by omega
      exact hK h' f ho
    · refine ld 153 p.1.ob (p.1.2.2 33) ?_
      refine And.intro p.1.ob (hS _ _ _ _ (sM_spotOf p rfl q ?_))
      refine sw k _ (p.1.inA (j := k) rfl rfl rfl rfl (by omega) rfl) (ix_nI (by omega)) rfl ?_
      refine hC _ _ _ _ (ih q _ (f.setI rfl) ?_ _ (nI_1 k))
      intro c hc
      by_cases e : c = k
      · subst e; exact si_eq
      · rw [si_ne e]; exact ho c (by omega)
  exact eM_laysSpots 9 [(2, 2)] fun S Cu hS hC => hC _ _ _ _ (lp 0 (by omega) _ Fr.rf (fun c hc => by omega) _ rfl)
theorem sM_dotsIn {i j r q : Nat} {x y z w : Int32} (p : MP h ρ) (hs : ∀ d, d < pcn ρ → hI h 153 d = nI (spot ρ d)) (hx : x = nI i) (hy : y = nI j) (hz : z = nI r) (hw : w = nI q) (hi : i < 2 ^ 30) (hj : j < 2 ^ 30) (hr : r < 2 ^ 30) (hq : q < 2 ^ 30) (hK : K (some (vI (nI (dIn ρ i j r q)))) h) : Spec G l (mt mM_dotsIn) [vR 136, vI x, vI y, vI z, vI w] h K := by
  have g := p.2.2.n
  have gc := p.2.2.c
  have lp : ∀ k, k ≤ pcn ρ → ∀ u o, u = nI k → o = nI (sumN (fun d => wN (wi ρ i j r q (spot ρ d)) 1) k) → Go G l (mt mM_dotsIn) 6 [some (vR 136), some (vI x), some (vI y), some (vI z), some (vI w), some (vI o), some (vI u)] [] h 0 0 K := by
    refine upto _ ?_
    intro k hk ih u o hu ho
    subst hu
    refine gM_dotsIn 99 [(6, 7)] fun S Cu hS hC => ?_
    refine And.intro p.1.ob (hS _ _ _ _ (sM_dots p ?_))
    refine pk_le (pcn ρ) k (fun q2 => ?_) (fun q2 => ?_)
    · obtain rfl : k = pcn ρ := by omega
      subst ho; exact hK
    · refine ld 153 p.1.ob (p.1.2.2 33) ?_
      refine ld (nI (spot ρ k)) (p.1.inA (j := k) rfl rfl rfl rfl (by omega) rfl) (rdA rfl (by omega) (hs k q2)) ?_
      refine And.intro p.1.ob (hS _ _ _ _ (sM_isWithin p rfl hx hy hz hw (spot_xy p.2.2 q2).2.2.1 hi hj hr hq ?_))
      refine hS _ _ _ _ (sM_truth ?_)
      refine hC _ _ _ _ (ih q2 _ _ (nI_1 k) ?_)
      rw [ho, bI_wN, nI_add]; rfl
  exact eM_dotsIn 9 [(6, 7)] fun S Cu hS hC => hC _ _ _ _ (lp 0 (by omega) _ _ rfl rfl)
theorem sM_tone {x y r q w : Int32} (p : MP h ρ) (hK : ∀ h', Fr [153] h h' → K (some (vI (aTone ρ x y r q w))) h') : Spec G l (mt mM_tone) [vR 136, vI x, vI y, vI r, vI q, vI w] h K := by
  have g := p.2.2.n
  have e2 : (Int64.ofNat 0 ≤ w.toInt64 ∧ w.toInt64 ≤ Int64.ofNat 1) ↔ _ := isIn_lh (x := w) (lo := 0) (hi := 1) (by decide) (by decide)
  unfold aTone at hK
  refine eM_tone 99 [] fun S Cu hS hC => ?_
  refine And.intro p.1.ob (hS _ _ _ _ (sM_isCell p ?_))
  refine brE (fun q1 => ?_) (fun q1 => ?_)
  · exact rtC (K := K) (fun z => q1 z.1) (hK h Fr.rf)
  refine And.intro p.1.ob (hS _ _ _ _ (sM_isCell p ?_))
  refine brE (fun q2 => ?_) (fun q2 => ?_)
  · exact rtC (K := K) (fun z => q2 z.2.1) (hK h Fr.rf)
  refine And.intro (fun q3 => ?_) (fun q3 => ?_)
  · exact rtC (K := K) (fun z => absurd q3 (Int32.not_lt.mpr z.2.2.1)) (hK h Fr.rf)
  refine And.intro (fun q4 => ?_) (fun q4 => ?_)
  · exact rtC (K := K) (fun z => absurd q4 (Int32.not_lt.mpr z.2.2.2)) (hK h Fr.rf)
  rw [cif_T ⟨q1, q2, Int32.not_lt.mp q3, Int32.not_lt.mp q4⟩] at hK
  obtain ⟨⟨i, hi, rfl⟩, ⟨j, hj, rfl⟩⟩ := q1
  obtain ⟨⟨i2, hi2, rfl⟩, ⟨j2, hj2, rfl⟩⟩ := q2
  rw [ix_nI (by omega), ix_nI (by omega), ix_nI (by omega), ix_nI (by omega)] at hK
  refine hS _ _ _ _ (sM_isIn ?_)
  refine brN (fun q5 => ?_) (fun q5 => ?_)
  · obtain ⟨v, -, hv, rfl⟩ := e2.mp q5
    refine And.intro p.1.ob (hS _ _ _ _ (sM_laysSpots p fun h' f es => ?_))
    have p' := p.fr f rfl
    have hK := hK h' f
    refine And.intro (fun n0 => ?_) (fun e0 => ?_)
    · have : v = 1 := by
        have h0 : v ≠ 0 := fun z => n0 (by rw [z]; rfl)
        omega
      subst this
      rw [sel_in (i := 1) rfl (by decide) rfl] at hK
      exact And.intro p'.1.ob (hS _ _ _ _ (sM_dotsIn p' es rfl rfl rfl rfl (by omega) (by omega) (by omega) (by omega) hK))
    · rw [sel_in (i := 0) e0 (by decide) rfl] at hK
      exact And.intro p'.1.ob (hS _ _ _ _ (sM_weightsIn p' rfl rfl rfl rfl (by omega) (by omega) (by omega) (by omega) hK))
  · have := hK h Fr.rf
    rw [sel_out (fun i hi z => q5 (e2.mpr ⟨i, by omega, by simp at hi; omega, z⟩))] at this
    exact this
end MM
