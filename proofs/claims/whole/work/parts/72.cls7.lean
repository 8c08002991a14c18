/-! ===== the class: one draw, a quarter turn ===== -/
theorem SH.g {s : Nat} (hs : SH s) {k : Nat} (hk : SL.contains (grp k) = false) : grp k ≠ s := fun z => by
  rw [z] at hk; unfold SH at hs; rw [hs] at hk; cases hk
section CC
variable {G : GP} {l : Launch} {K : Option AV → AH → Prop} {h : AH} {ρ : Pic}
variable {s : Nat}
theorem sS_drawOne (x : SC h s ρ) (hb : busyP h ρ) (hn : pcn ρ < 40) (h0 : 0 < bwA ρ) (hK : ∀ h', FX s [119] h h' → SP h' s (drw ρ) → busyP h' (drw ρ) → K none h') : Spec G l (mt mS_drawOne) [vR s, vR 119] h K := by
  have g := x.2.2.2.n
  have gc := x.2.2.2.c
  have bwl : ∀ k, k ≤ pcc ρ → sumN (bw ρ) k ≤ 3600 := fun k hk => by
    have : sumN (bw ρ) k ≤ k * 9 := sumN_le fun i hi => Nat.le_trans (wN_le _ _) (pcW_le x.2.2.2 (by omega))
    omega
  have bwl2 : bwA ρ ≤ 3600 := bwl _ (Nat.le_refl _)
  obtain ⟨dl, d1, d2⟩ := drC_lt h0
  have dx := x.2.2.2.xy dl
  have tl : nxs ρ / 65536 % bwA ρ < 3600 := Nat.lt_of_lt_of_le (Nat.mod_lt _ h0) bwl2
  have e0 : pcw (pu ρ 2 (nxs ρ)) = pcw ρ := pu_ne (by decide)
  have e1 : pch (pu ρ 2 (nxs ρ)) = pch ρ := pu_ne (by decide)
  have e3 : pcn (pu ρ 2 (nxs ρ)) = pcn ρ := pu_ne (by decide)
  have ec : pcc (pu ρ 2 (nxs ρ)) = pcc ρ := by unfold pcc; rw [e0, e1]
  have hh := drw_h (ρ := ρ)
  have lp2 : ∀ h', FX s [] h h' → SC h' s (pu ρ 2 (nxs ρ)) → ∀ n, n ≤ drC ρ → ∀ i o z2, i = nI n → o = nI (sumN (bw ρ) n) → Go G l (mt mS_drawOne) 49 [some (vR s), some (vR 119), z2, some (vI (nI (nxs ρ / 65536 % bwA ρ))), some (vI o), some (vI i)] [] h' 0 0 K := by
    intro h' f x'
    have hb' : ∀ c, c < pcc ρ → hI h' 119 c = bI (¬ bare ρ c) := fun c hc => by rw [f.i (k := 119) (x.2.1.g rfl) rfl]; exact hb c hc
    refine upto _ ?_
    intro n hn2 ih i o z2 hi ho
    subst hi
    have fin : ∀ v : Int32, v = nI (bw ρ n) → Go G l (mt mS_drawOne) 78 [some (vR s), some (vR 119), z2, some (vI (nI (nxs ρ / 65536 % bwA ρ))), some (vI o), some (vI (nI n))] [vI v, vI o] h' 0 0 K := by
      intro v hv
      subst hv
      have es : o + nI (bw ρ n) = nI (sumN (bw ρ) (n + 1)) := by rw [ho, nI_add]; rfl
      have b1 := bwl (n + 1) (by omega)
      refine gS_drawOne 99 [(49, 6)] fun S Cu hS hC => ?_
      refine pk_le (sumN (bw ρ) (n + 1)) (nxs ρ / 65536 % bwA ρ) (fun q => ?_) (fun q => ?_) es rfl
      · have : n < drC ρ := by
          refine Classical.byContradiction fun z => ?_
          have : n = drC ρ := by omega
          subst this; omega
        exact hC _ _ _ _ (ih this _ _ _ (nI_1 n) es)
      · have en : n = drC ρ := by
          refine Classical.byContradiction fun z => ?_
          have := sumN_mn (f := bw ρ) (show n + 1 ≤ drC ρ by omega)
          omega
        subst en
        refine sw (drC ρ) (nI 1) ⟨x'.1.inA (k := 119) (t := 2) (n := 400) (j := drC ρ) rfl rfl rfl rfl (by omega) rfl, Or.inr rfl⟩ (ix_nI (by omega)) rfl ?_
        have f2 : FX 999 [119] h' (setI h' 119 (drC ρ) (nI 1)) := FX.rf.setI (Or.inr rfl)
        have x2 := x'.fx f2 rfl
        refine And.intro x2.ob (hS _ _ _ _ (sS_columnOf x2 rfl (by omega) ?_))
        refine And.intro x2.ob (hS _ _ _ _ (sS_rowOf x2 rfl (by omega) ?_))
        refine And.intro x2.ob (hS _ _ _ _ (sS_add (x := drC ρ % pcw ρ) (y := drC ρ / pcw ρ) x2 (by rw [e0]) (by rw [e0]) (by rw [e3]; exact hn) (by omega) (by omega) fun h3 f3 p3 => ?_))
        refine hK h3 ((f.tr (N := [119]) f2.of rfl rfl).tr f3 rfl rfl) p3 (fun c hc => ?_)
        rw [hh.2.2.2] at hc
        rw [f3.i (k := 119) (x.2.1.g rfl) rfl]
        have be : bare (drw ρ) c ↔ (bare ρ c ∧ ¬ (drC ρ % pcw ρ = c % pcw ρ ∧ drC ρ / pcw ρ = c / pcw ρ)) := by
          unfold drw
          rw [bare_addD, bare_pu2, e0]
        by_cases k : c = drC ρ
        · subst k
          rw [si_eq, bI_T (fun z => (be.mp z).2 ⟨rfl, rfl⟩)]; rfl
        · rw [si_ne k, hb' c hc]
          refine bI_eq (not_congr ?_)
          rw [be]
          refine ⟨fun z => ⟨z, fun y => k ?_⟩, fun z => z.1⟩
          rw [← Nat.div_add_mod c (pcw ρ), ← y.1, ← y.2, Nat.div_add_mod]
    refine gS_drawOne 99 [(78, 6)] fun S Cu hS hC => ?_
    refine And.intro (x'.ob) (hS _ _ _ _ (sS_size x' ?_))
    rw [ec]
    refine pk_le (pcc ρ) n (fun q => by omega) (fun q => ?_)
    refine ld _ (x'.1.inA (k := 119) (t := 2) (n := 400) (j := n) rfl rfl rfl rfl (by omega) rfl) (rdX rfl (by omega) (hb' n q)) ?_
    refine brE (fun q1 => ?_) (fun q1 => ?_)
    · refine ld _ x'.ob x'.r4 ?_
      refine ld _ (x'.inW rfl (by omega)) (x'.W rfl (by rw [ec]; exact q)) ?_
      refine hC _ _ _ _ (fin _ ?_)
      unfold bw; rw [wN_T (Classical.byContradiction q1)]
      exact congrArg nI (pu_ne (by omega))
    · refine hC _ _ _ _ (fin _ ?_)
      unfold bw; rw [wN_F q1]; rfl
  have lp1 : ∀ n, n ≤ pcc ρ → ∀ i o z4 z5, i = nI n → o = nI (sumN (bw ρ) n) → Go G l (mt mS_drawOne) 4 [some (vR s), some (vR 119), some (vI o), some (vI i), z4, z5] [] h 0 0 K := by
    refine upto _ ?_
    intro n hn2 ih i o z4 z5 hi ho
    subst hi
    have fin : n < pcc ρ → ∀ v : Int32, v = nI (bw ρ n) → Go G l (mt mS_drawOne) 29 [some (vR s), some (vR 119), some (vI o), some (vI (nI n)), none, none] [vI v, vI o] h 0 0 K := by
      intro q v hv
      subst hv
      refine gS_drawOne 99 [(4, 4)] fun S Cu hS hC => ?_
      exact hC _ _ _ _ (ih q _ _ _ _ (nI_1 n) (by rw [ho, nI_add]; rfl))
    refine gS_drawOne 99 [(29, 4), (49, 6)] fun S Cu hS hC => ?_
    refine And.intro (x.ob) (hS _ _ _ _ (sS_size x ?_))
    refine pk_le (pcc ρ) n (fun q => ?_) (fun q => ?_)
    · obtain rfl : n = pcc ρ := by omega
      subst ho
      refine And.intro x.ob (hS _ _ _ _ (sS_drawBelow (k := bwA ρ) x rfl h0 (by omega) fun h' f p => ?_))
      exact hC _ _ _ _ (lp2 h' f ⟨f.cs x.1, x.2.1, p, good_pu2 x.2.2.2 (nxs_lt ρ)⟩ 0 (by omega) _ _ _ rfl rfl)
    · refine ld _ (x.1.inA (k := 119) (t := 2) (n := 400) (j := n) rfl rfl rfl rfl (by omega) rfl) (rdX rfl (by omega) (hb n q)) ?_
      refine brE (fun q1 => ?_) (fun q1 => ?_)
      · refine ld _ x.ob x.r4 ?_
        refine ld _ (x.inW rfl (by omega)) (x.W rfl q) ?_
        refine hC _ _ _ _ (fin q _ ?_)
        unfold bw; rw [wN_T (Classical.byContradiction q1)]
      · refine hC _ _ _ _ (fin q _ ?_)
        unfold bw; rw [wN_F q1]; rfl
  exact eS_drawOne 9 [(4, 4)] fun S Cu hS hC => hC _ _ _ _ (lp1 0 (by omega) _ _ _ _ rfl rfl)
theorem sS_becomeQuarterTurnOf {u : Nat} (x : SC h s ρ) (y : SC h u ρ) (su : s ≠ u) (hK : ∀ h', FX s [] h h' → SP h' s (trn ρ) → K none h') : Spec G l (mt mS_becomeQuarterTurnOf) [vR s, vR u] h K := by
  have g := x.2.2.2.n
  have gc := x.2.2.2.c
  have A := x.2.1.a
  obtain ⟨g0, g1, g2, g3, g4⟩ := A.2.2
  have gd := x.2.2.2
  -- what holds of the new scene but its weights and dots
  have hd : ∀ h', FX s [] h h' → CS h' ∧ SC h' u ρ ∧ Ob h' s 7 ∧ hR h' s 4 = s + 1 ∧ hR h' s 5 = s + 2 ∧ hR h' s 6 = s + 3 ∧ (∀ {i : Int32} {j : Nat}, i = nI j → j < 400 → InA h' (s + 1) 0 i) ∧ (∀ {i : Int32} {j : Nat}, i = nI j → j < 40 → InA h' (s + 2) 0 i) ∧ (∀ {i : Int32} {j : Nat}, i = nI j → j < 40 → InA h' (s + 3) 0 i) := by
    intro h' f
    have c1 := f.cs x.1
    refine ⟨c1, f.sc y (fun z => su z.symm) rfl, ⟨A.2.1.1, by rw [c1.1]; omega, by rw [c1.2.1]; exact A.1.1⟩, c1.rf x.2.1.rf.1 rfl, c1.rf x.2.1.rf.2.1 rfl, c1.rf x.2.1.rf.2.2.1 rfl, fun {i j} hi hj => ⟨400, ⟨by omega, by rw [c1.1]; omega, by rw [c1.2.1]; exact A.1.2.1⟩, by subst hi; exact vp_in_nI hj (by decide)⟩, fun {i j} hi hj => ⟨40, ⟨by omega, by rw [c1.1]; omega, by rw [c1.2.1]; exact A.1.2.2.1⟩, by subst hi; exact vp_in_nI hj (by decide)⟩, fun {i j} hi hj => ⟨40, ⟨by omega, by rw [c1.1]; omega, by rw [c1.2.1]; exact A.1.2.2.2.1⟩, by subst hi; exact vp_in_nI hj (by decide)⟩⟩
  have lpD : ∀ k, k ≤ pcn ρ → ∀ h', FX s [] h h' → hI h' s 0 = nI (pch ρ) → hI h' s 1 = nI (pcw ρ) → hI h' s 2 = nI (pcn ρ) → hI h' s 3 = nI (pcs ρ) → (∀ c, c < pcc ρ → hI h' (s + 1) (tix ρ c) = nI (pcW ρ c)) → (∀ d, d < k → hI h' (s + 2) d = nI ((pch ρ - 1) * pcD ρ d - pcY ρ d) ∧ hI h' (s + 3) d = nI (pcX ρ d)) → (∀ d, d < pcn ρ → hI h' (s + 4) d = nI (pcD ρ d)) → ∀ i z3, i = nI k → Go G l (mt mS_becomeQuarterTurnOf) 83 [some (vR s), some (vR u), some (vI i), z3] [] h' 0 0 K := by
    refine upto _ ?_
    intro k hk ih h' f b0 b1 b2 b3 bw bd bq i z3 hi
    subst hi
    obtain ⟨c1, yu, ob, r4, r5, r6, iW, iX, iY⟩ := hd h' f
    refine gS_becomeQuarterTurnOf 99 [(83, 3)] fun S Cu hS hC => ?_
    refine ld _ ob b2 ?_
    refine pk_le (pcn ρ) k (fun q => ?_) (fun q => ?_)
    · obtain rfl : k = pcn ρ := by omega
      obtain ⟨t1, t2, t3, t4, t5, t6⟩ := trN_h gd (pcn ρ)
      refine hK h' f ⟨⟨?_, ?_, ?_, ?_⟩, fun c hc => ?_, fun d hd => ?_⟩
      · rw [b0]; exact congrArg nI t1.symm
      · rw [b1]; exact congrArg nI t2.symm
      · rw [b2]; exact congrArg nI t4.symm
      · rw [b3]; exact congrArg nI t3.symm
      · have ec : pcc (trn ρ) = pcc ρ := by unfold pcc trn; rw [t1, t2, Nat.mul_comm]
        rw [ec] at hc
        obtain ⟨s1, s2⟩ := tix_sur gd hc
        have := bw _ s1
        rw [s2] at this
        rw [this]
        have e : pcW (trn ρ) c = trW ρ (4 + c) := t5 (4 + c) (by omega)
        rw [e]
        unfold trW
        rw [if_neg (by omega), if_neg (by omega), if_pos (by omega), show 4 + c - 4 = c by omega]
      · have hd2 : d < pcn ρ := by have : pcn (trn ρ) = pcn ρ := t4; omega
        obtain ⟨v1, v2, v3⟩ := trN_d gd (pcn ρ) d hd2
        refine ⟨(bd d hd2).1.trans (congrArg nI v1.symm), (bd d hd2).2.trans (congrArg nI v2.symm), (bq d hd2).trans (congrArg nI v3.symm)⟩
    · have dk := gd.2.2.1 k q
      have d2 := gd.d q
      have m1 : (pch ρ - 1) * pcD ρ k ≤ 19 * 3600 := Nat.mul_le_mul (by omega) (by omega)
      refine ld _ ob r5 ?_
      refine ld _ yu.ob yu.2.2.1.1.2.1 ?_
      refine ld _ yu.ob yu.r7 ?_
      refine ld _ (yu.inD rfl (by omega)) (yu.D rfl q) ?_
      refine ld _ yu.ob yu.r6 ?_
      refine ld _ (yu.inY rfl (by omega)) (yu.Y rfl q) ?_
      refine sw k (nI ((pch ρ - 1) * pcD ρ k - pcY ρ k)) (iX rfl (by omega)) (ix_nI (by omega)) ?_ ?_
      · have e : nI (pch ρ) - 1 = nI (pch ρ - 1) := by first | with_reducible rfl | (try simp (disch := omega) only [pk_rem]) <;> simp (disch := omega) only [nl0, nl1, nl2, nl3, nl4, nl8, nl9, nl10, nl12, nl20, nl24, nl30, nl32, nl40, nl48, nl100, nl120, nl200, nl255, nl400, nl404, nl524, nl900, nl1000, nl9999, nl16, nl65536, nI_add, pk_mul, pk_sub, pk_div, pk_rem, Nat.add_zero, Nat.zero_add, Nat.mul_one, Nat.add_sub_cancel_left, Nat.add_sub_cancel]
        rw [e, pk_mul, pk_sub dk.2.2.2.1]
      refine ld _ ob r6 ?_
      have f2 : FX s [] h (setI h' (s + 2) k (nI ((pch ρ - 1) * pcD ρ k - pcY ρ k))) := f.setI (Or.inl g2)
      have yu2 := f2.sc y (fun z => su z.symm) rfl
      refine ld _ yu2.ob yu2.r5 ?_
      refine ld _ (yu2.inX rfl (by omega)) (yu2.X rfl q) ?_
      refine sw k (nI (pcX ρ k)) (iY rfl (by omega)) (ix_nI (by omega)) rfl ?_
      refine hC _ _ _ _ (ih q _ (f2.setI (Or.inl g3)) ?_ ?_ ?_ ?_ (fun c hc => ?_) (fun d hd => ?_) (fun d hd => ?_) _ _ (nI_1 k))
      · rw [si_n (by omega), si_n (by omega)]; exact b0
      · rw [si_n (by omega), si_n (by omega)]; exact b1
      · rw [si_n (by omega), si_n (by omega)]; exact b2
      · rw [si_n (by omega), si_n (by omega)]; exact b3
      · rw [si_n (by omega), si_n (by omega)]; exact bw c hc
      · by_cases e : d = k
        · subst e; rw [si_n (k' := s + 2) (by omega), si_eq, si_eq]; exact ⟨rfl, rfl⟩
        · rw [si_n (k' := s + 2) (by omega), si_ne e, si_ne e, si_n (by omega)]; exact bd d (by omega)
      · rw [si_n (by omega), si_n (by omega)]; exact bq d hd
  have outW : ∀ k, k ≤ pch ρ → ∀ h', FX s [] h h' → hI h' s 0 = nI (pch ρ) → hI h' s 1 = nI (pcw ρ) → hI h' s 2 = nI (pcn ρ) → hI h' s 3 = nI (pcs ρ) → (∀ c, c < pcw ρ * k → hI h' (s + 1) (tix ρ c) = nI (pcW ρ c)) → (∀ d, d < pcn ρ → hI h' (s + 4) d = nI (pcD ρ d)) → ∀ i z3, i = nI k → Go G l (mt mS_becomeQuarterTurnOf) 18 [some (vR s), some (vR u), some (vI i), z3] [] h' 0 0 K := by
    refine upto _ ?_
    intro k hk ih h' f b0 b1 b2 b3 bw bq i z3 hi
    subst hi
    have inn : k < pch ρ → ∀ m, m ≤ pcw ρ → ∀ h', FX s [] h h' → hI h' s 0 = nI (pch ρ) → hI h' s 1 = nI (pcw ρ) → hI h' s 2 = nI (pcn ρ) → hI h' s 3 = nI (pcs ρ) → (∀ c, c < pcw ρ * k + m → hI h' (s + 1) (tix ρ c) = nI (pcW ρ c)) → (∀ d, d < pcn ρ → hI h' (s + 4) d = nI (pcD ρ d)) → ∀ i, i = nI m → Go G l (mt mS_becomeQuarterTurnOf) 28 [some (vR s), some (vR u), some (vI (nI k)), some (vI i)] [] h' 0 0 K := by
      intro hk2
      refine upto _ ?_
      intro m hm ih2 h' f b0 b1 b2 b3 bw bq i hi
      subst hi
      obtain ⟨c1, yu, ob, r4, r5, r6, iW, iX, iY⟩ := hd h' f
      refine gS_becomeQuarterTurnOf 99 [(18, 3), (28, 4)] fun S Cu hS hC => ?_
      refine ld _ yu.ob yu.2.2.1.1.1 ?_
      refine pk_le (pcw ρ) m (fun q => ?_) (fun q => ?_)
      · obtain rfl : m = pcw ρ := by omega
        refine hC _ _ _ _ (ih hk2 h' f b0 b1 b2 b3 (fun c hc => bw c ?_) bq _ _ (nI_1 k))
        rw [Nat.mul_succ] at hc; exact hc
      · obtain ⟨e1, e2, e3⟩ := cel_lt (ρ := ρ) q hk2
        obtain ⟨t1, t2, t3⟩ := tix_lt gd e1
        have te : tix ρ (pcw ρ * k + m) = pch ρ * m + (pch ρ - 1 - k) := by unfold tix; rw [e2, e3]
        have iw : nI m * nI (pch ρ) + nI (pch ρ) - 1 - nI k = nI (tix ρ (pcw ρ * k + m)) := by
          rw [pk_mul, nI_add, show (1 : Int32) = nI 1 from rfl, pk_sub (by omega), pk_sub (by omega), te, Nat.mul_comm m]
          exact congrArg nI (by omega)
        refine ld _ ob r4 ?_
        refine ld _ ob b0 ?_
        refine ld _ yu.ob yu.2.2.1.1.2.1 ?_
        refine ld _ yu.ob yu.r4 ?_
        refine ld _ yu.ob yu.2.2.1.1.1 ?_
        have ei : nI k * nI (pcw ρ) + nI m = nI (pcw ρ * k + m) := by rw [pk_mul, nI_add, Nat.mul_comm]
        refine ld _ (yu.inW ei (by omega)) (yu.W ei e1) ?_
        refine sw (tix ρ (pcw ρ * k + m)) _ (iW iw (by omega)) (ix_of iw (by omega)) rfl ?_
        refine hC _ _ _ _ (ih2 q _ (f.setI (Or.inl g1)) ?_ ?_ ?_ ?_ (fun c hc => ?_) (fun d hd => ?_) _ (nI_1 m))
        · rw [si_n (by omega)]; exact b0
        · rw [si_n (by omega)]; exact b1
        · rw [si_n (by omega)]; exact b2
        · rw [si_n (by omega)]; exact b3
        · by_cases e : c = pcw ρ * k + m
          · subst e; exact si_eq
          · rw [si_ne (fun z => e (tix_inj gd (by omega) e1 z))]; exact bw c (by omega)
        · rw [si_n (by omega)]; exact bq d hd
    obtain ⟨c1, yu, ob, r4, r5, r6, iW, iX, iY⟩ := hd h' f
    refine gS_becomeQuarterTurnOf 99 [(28, 4), (83, 3)] fun S Cu hS hC => ?_
    refine ld _ yu.ob yu.2.2.1.1.2.1 ?_
    refine pk_le (pch ρ) k (fun q => ?_) (fun q => ?_)
    · obtain rfl : k = pch ρ := by omega
      exact hC _ _ _ _ (lpD 0 (by omega) h' f b0 b1 b2 b3 bw (fun d hd => absurd hd (Nat.not_lt_zero d)) bq _ _ rfl)
    · exact hC _ _ _ _ (inn q 0 (by omega) h' f b0 b1 b2 b3 bw bq _ rfl)
  refine eS_becomeQuarterTurnOf 39 [(18, 3)] fun S Cu hS hC => ?_
  refine ld _ y.ob y.2.2.1.1.2.1 ?_
  refine ld _ x.ob rfl ?_
  refine ld (nI (pcw ρ)) y.ob (by rw [si_n (fun z => su z.symm)]; exact y.2.2.1.1.1) ?_
  refine ld _ x.ob rfl ?_
  refine hC _ _ _ _ (outW 0 (by omega) _ ((FX.rf.setI (Or.inl g0)).setI (Or.inl g0)) ?_ ?_ ?_ ?_ (fun c hc => absurd hc (Nat.not_lt_zero c)) (fun d hd => ?_) _ _ rfl)
  · rw [si_ne (by decide), si_eq]
  · rw [si_eq]
  · rw [si_ne (by decide), si_ne (by decide)]; exact x.2.2.1.1.2.2.1
  · rw [si_ne (by decide), si_ne (by decide)]; exact x.2.2.1.1.2.2.2
  · rw [si_n (by omega), si_n (by omega)]; exact (x.2.2.1.2.2 d hd).2.2
end CC
