/-! ===== the model: moves, step, till, rounds, steps ===== -/
theorem MR.fs {h h' : AH} {tp : Nat → Nat} {tn : Nat} {ft fp : Int32} {ρ ρ' : Pic} {pa : Nat → Pic} {an un : Nat} {sm sc : Nat → Int32} {sn : Nat} {bx : Nat → Pic} {bk : Nat → Prop} {L : List Nat} (r : MR h tp tn ft fp ρ pa an un sm sc sn bx bk) (f : Fr L h h') (s : Sc1 [24] h h') (hL : (L.contains 138 || L.contains 140 || L.contains 146 || L.contains 147 || L.contains 157 || L.contains 159) = false) (e : hI h' 137 = nR ρ') (g : Good ρ') : MR h' tp tn ft fp ρ' pa an un sm sc sn bx bk := by
  simp only [Bool.or_eq_false_iff] at hL
  obtain ⟨⟨⟨⟨⟨h3, h4⟩, h5⟩, h6⟩, h7⟩, h8⟩ := hL
  obtain ⟨p, t, a, k, b⟩ := r
  exact ⟨⟨p.1.fr f, e, g⟩, t.fr f s h3 rfl, a.fr f s h4 rfl, k.fr f s (by rw [h5, h6]; rfl) rfl, b.fr f (by rw [h7, h8]; rfl)⟩
theorem Sc1.wk {L M : List Nat} {h h' : AH} (s : Sc1 L h h') (hL : L.all M.contains = true) : Sc1 M h h' := s.tr (M := []) Sc1.rf hL rfl
section MM
variable {G : GP} {l : Launch} {K : Option AV → AH → Prop} {h : AH} {ρ : Pic}
variable {tp : Nat → Nat} {tn : Nat} {ft fp : Int32} {pa : Nat → Pic} {an un : Nat} {sm sc : Nat → Int32} {sn : Nat} {bx : Nat → Pic} {bk : Nat → Prop}
theorem sM_moves (r : MR h tp tn ft fp ρ pa an un sm sc sn bx bk) (hK : ∀ h', FM h h' → MR h' tp tn ft fp ρ pa an un sm sc sn bx bk → K (some (vI (aMoves ρ))) h') : Spec G l (mt mM_moves) [vR 136] h K := by
  have p := r.1
  have g := p.2.2.n
  unfold aMoves at hK
  refine eM_moves 39 [] fun S Cu hS hC => ?_
  refine And.intro p.1.ob (hS _ _ _ _ (sM_dots p ?_))
  refine And.intro (fun q => ?_) (fun q => ?_)
  · have hn : 0 < pcn ρ := Nat.pos_of_ne_zero (fun z => q (by rw [z]; rfl))
    rw [cif_T hn] at hK
    refine And.intro p.1.ob (hS _ _ _ _ (sM_puts p.1 p.2.1 fun h1 f1 ea => ?_))
    have p1 := p.fr f1 rfl
    refine And.intro p1.1.ob (hS _ _ _ _ (sM_round p1 fun h2 f2 s2 er em eb => ?_))
    have m2 := p1.1.fr f2
    have gr := (rnd_ok p.2.2).1
    refine And.intro m2.ob (hS _ _ _ _ (sM_takesBack (ρ := ρ) (π := ρ) m2 (fun j hj => by rw [f2.i rfl]; exact ea j hj) (fun j hj => by rw [er]; unfold nR; rw [gr.2.2.2 j hj, p.2.2.2.2.2 j hj]) fun h3 f3 e3 => ?_))
    have m3 := m2.fr f3
    refine ld (nI (mvd ρ)) m3.ob ((Sc1.of (M := []) f3 rfl 24 rfl).trans em) ?_
    have f4 : Fr [136, 137, 141, 142, 143, 144, 145] h h3 := ((f1.tr f2 rfl rfl : Fr [136, 137, 141, 142, 143, 144, 145] h h2)).tr f3 rfl rfl
    have s4 : Sc1 [24] h h3 := (((Sc1.of (M := []) f1 rfl).tr s2 rfl rfl : Sc1 [24] h h2)).tr (Sc1.of (M := []) f3 rfl) rfl rfl
    exact hK h3 (f4.m rfl) (r.fs f4 s4 rfl e3 p.2.2)
  · have hn : pcn ρ = 0 := (nI_eq (b := 0) (by omega) (by decide)).mp q
    exact rtC (K := K) (by omega) (hK h FM.rf r)
theorem sM_step {x : Int32} (r : MR h tp tn ft fp ρ pa an un sm sc sn bx bk) (hK : ∀ h', FM h h' → MR h' tp tn ft fp ρ pa an un sm sc sn bx bk → K (some (vI (aStep ρ x))) h') : Spec G l (mt mM_step) [vR 136, vI x] h K := by
  have p := r.1
  have g := p.2.2.n
  unfold aStep at hK
  refine eM_step 99 [] fun S Cu hS hC => ?_
  refine And.intro p.1.ob (hS _ _ _ _ (sM_isDot p ?_))
  refine brN (fun q => ?_) (fun q => ?_)
  · rw [cif_T q] at hK
    obtain ⟨d, hd, rfl⟩ := q
    rw [ix_nI (by omega)] at hK
    refine And.intro p.1.ob (hS _ _ _ _ (sM_puts p.1 p.2.1 fun h1 f1 ea => ?_))
    have p1 := p.fr f1 rfl
    refine And.intro p1.1.ob (hS _ _ _ _ (sM_round p1 fun h2 f2 s2 er em eb => ?_))
    obtain ⟨gr, lr⟩ := rnd_ok p.2.2
    have p2 : MP h2 (rnd ρ) := ⟨p1.1.fr f2, er, gr⟩
    have hd2 : d < pcn (rnd ρ) := by rw [lr.2.2.2.1]; exact hd
    obtain ⟨a1, a2, a3, a4⟩ := gr.d19 hd2
    obtain ⟨b1, b2, b3, b4⟩ := p.2.2.d19 hd
    have ga := gr.d hd2
    have gb := p.2.2.d hd
    refine And.intro p2.1.ob (hS _ _ _ _ (sM_xOf p2 rfl (by omega) ?_))
    refine And.intro p2.1.ob (hS _ _ _ _ (sM_yOf p2 rfl (by omega) ?_))
    refine And.intro p2.1.ob (hS _ _ _ _ (sM_under p2 rfl hd2 ?_))
    refine ld 144 p2.1.ob (p2.1.2.2 22) ?_
    refine ld (nI (pcX ρ d)) (p2.1.inA (j := 3 * d) rfl rfl rfl (by first | with_reducible rfl | (try simp (disch := omega) only [pk_rem]) <;> simp (disch := omega) only [nl0, nl1, nl2, nl3, nl4, nl8, nl9, nl10, nl12, nl20, nl24, nl30, nl32, nl40, nl48, nl100, nl120, nl200, nl255, nl400, nl404, nl524, nl900, nl1000, nl9999, nl16, nl65536, nI_add, pk_mul, pk_sub, pk_div, pk_rem, Nat.add_zero, Nat.zero_add, Nat.mul_one, Nat.add_sub_cancel_left, Nat.add_sub_cancel]) (by omega) rfl) (rdA (j := 3 * d) (by first | with_reducible rfl | (try simp (disch := omega) only [pk_rem]) <;> simp (disch := omega) only [nl0, nl1, nl2, nl3, nl4, nl8, nl9, nl10, nl12, nl20, nl24, nl30, nl32, nl40, nl48, nl100, nl120, nl200, nl255, nl400, nl404, nl524, nl900, nl1000, nl9999, nl16, nl65536, nI_add, pk_mul, pk_sub, pk_div, pk_rem, Nat.add_zero, Nat.zero_add, Nat.mul_one, Nat.add_sub_cancel_left, Nat.add_sub_cancel]) (by omega) (eb _ (by omega))) ?_
    refine ld 144 p2.1.ob (p2.1.2.2 22) ?_
    refine ld (nI (pcY ρ d)) (p2.1.inA (j := 3 * d + 1) rfl rfl rfl (by first | with_reducible rfl | (try simp (disch := omega) only [pk_rem]) <;> simp (disch := omega) only [nl0, nl1, nl2, nl3, nl4, nl8, nl9, nl10, nl12, nl20, nl24, nl30, nl32, nl40, nl48, nl100, nl120, nl200, nl255, nl400, nl404, nl524, nl900, nl1000, nl9999, nl16, nl65536, nI_add, pk_mul, pk_sub, pk_div, pk_rem, Nat.add_zero, Nat.zero_add, Nat.mul_one, Nat.add_sub_cancel_left, Nat.add_sub_cancel]) (by omega) rfl) (rdA (j := 3 * d + 1) (by first | with_reducible rfl | (try simp (disch := omega) only [pk_rem]) <;> simp (disch := omega) only [nl0, nl1, nl2, nl3, nl4, nl8, nl9, nl10, nl12, nl20, nl24, nl30, nl32, nl40, nl48, nl100, nl120, nl200, nl255, nl400, nl404, nl524, nl900, nl1000, nl9999, nl16, nl65536, nI_add, pk_mul, pk_sub, pk_div, pk_rem, Nat.add_zero, Nat.zero_add, Nat.mul_one, Nat.add_sub_cancel_left, Nat.add_sub_cancel]) (by omega) ((eb _ (by omega)).trans (congrArg nI (congrArg ρ (by omega))))) ?_
    refine ld 144 p2.1.ob (p2.1.2.2 22) ?_
    refine ld (nI (pcD ρ d)) (p2.1.inA (j := 3 * d + 2) rfl rfl rfl (by first | with_reducible rfl | (try simp (disch := omega) only [pk_rem]) <;> simp (disch := omega) only [nl0, nl1, nl2, nl3, nl4, nl8, nl9, nl10, nl12, nl20, nl24, nl30, nl32, nl40, nl48, nl100, nl120, nl200, nl255, nl400, nl404, nl524, nl900, nl1000, nl9999, nl16, nl65536, nI_add, pk_mul, pk_sub, pk_div, pk_rem, Nat.add_zero, Nat.zero_add, Nat.mul_one, Nat.add_sub_cancel_left, Nat.add_sub_cancel]) (by omega) rfl) (rdA (j := 3 * d + 2) (by first | with_reducible rfl | (try simp (disch := omega) only [pk_rem]) <;> simp (disch := omega) only [nl0, nl1, nl2, nl3, nl4, nl8, nl9, nl10, nl12, nl20, nl24, nl30, nl32, nl40, nl48, nl100, nl120, nl200, nl255, nl400, nl404, nl524, nl900, nl1000, nl9999, nl16, nl65536, nI_add, pk_mul, pk_sub, pk_div, pk_rem, Nat.add_zero, Nat.zero_add, Nat.mul_one, Nat.add_sub_cancel_left, Nat.add_sub_cancel]) (by omega) ((eb _ (by omega)).trans (congrArg nI (congrArg ρ (by omega))))) ?_
    refine hS _ _ _ _ (sM_apart (nI_l (by omega)) (nI_l (by omega)) rfl (nI_l (by omega)) (nI_l (by omega)) (nI_l (by omega)) a1 a2 b1 b2 a3 a4 b3 b4 ?_)
    refine And.intro p2.1.ob (hS _ _ _ _ (sM_takesBack (ρ := ρ) (π := ρ) p2.1 (fun j hj => by rw [f2.i rfl]; exact ea j hj) (fun j hj => by rw [er]; unfold nR; rw [gr.2.2.2 j hj, p.2.2.2.2.2 j hj]) fun h3 f3 e3 => ?_))
    have f4 : Fr [136, 137, 141, 142, 143, 144, 145] h h3 := ((f1.tr f2 rfl rfl : Fr [136, 137, 141, 142, 143, 144, 145] h h2)).tr f3 rfl rfl
    have s4 : Sc1 [24] h h3 := (((Sc1.of (M := []) f1 rfl).tr s2 rfl rfl : Sc1 [24] h h2)).tr (Sc1.of (M := []) f3 rfl) rfl rfl
    exact hK h3 (f4.m rfl) (r.fs f4 s4 rfl e3 p.2.2)
  · exact rtC (K := K) q (hK h FM.rf r)
theorem sM_till {w : Int32} (r : MR h tp tn ft fp ρ pa an un sm sc sn bx bk) (hK : ∀ h', FM h h' → MR h' tp tn ft fp ρ pa an un sm sc sn bx bk → K (some (vI (aTill ρ w))) h') : Spec G l (mt mM_till) [vR 136, vI w] h K := by
  have p := r.1
  have g := p.2.2.n
  have e1 : (Int64.ofNat 0 ≤ w.toInt64 ∧ w.toInt64 ≤ Int64.ofNat 1) ↔ _ := isIn_lh (x := w) (lo := 0) (hi := 1) (by decide) (by decide)
  unfold aTill at hK
  have hK0 := hK h FM.rf r
  refine eM_till 99 [(30, 4)] fun S Cu hS hC => ?_
  refine And.intro p.1.ob (hS _ _ _ _ (sM_dots p ?_))
  refine And.intro (fun q => ?_) (fun q => ?_)
  · have hn : pcn ρ = 0 := (nI_eq (b := 0) (by omega) (by decide)).mp q
    exact rtC (K := K) (by omega) hK0
  have hn : 0 < pcn ρ := Nat.pos_of_ne_zero (fun z => q (by rw [z]; rfl))
  rw [cif_T hn] at hK hK0
  refine hS _ _ _ _ (sM_isIn ?_)
  refine brN (fun q2 => ?_) (fun q2 => ?_)
  · obtain ⟨v, -, hv, rfl⟩ := e1.mp q2
    have lp : ∀ k, k ≤ 200 → (∀ j, j + 1 < k → ¬ mvd (rndN ρ j) = 0) → ∀ h1, Fr [136, 137, 141, 142, 143, 144, 145] h h1 → Sc1 [24] h h1 → hI h1 137 = nR (rndN ρ k) → (∀ j, j < 524 → hI h1 143 j = nI (ρ j)) → ((k = 0 ∧ hI h1 136 24 = nI 1) ∨ (∃ j, k = j + 1 ∧ hI h1 136 24 = nI (mvd (rndN ρ j)))) → ∀ i, i = nI k → ∀ z3, Go G l (mt mM_till) 30 [some (vR 136), some (vI (nI v)), some (vI i), z3] [] h1 0 0 K := by
      refine upto _ ?_
      intro k hk ih hn1 h1 f1 s1 er ea em i hi z3
      subst hi
      obtain ⟨gk, lk⟩ := rndN_ok p.2.2 k
      have p1 : MP h1 (rndN ρ k) := ⟨p.1.fr f1, er, gk⟩
      -- the end: cost, taken back, answer
      have fin : ∀ m, m ≤ 40 → hI h1 136 24 = nI m → ((m = 0 ∧ ∃ j, k = j + 1 ∧ fstO (fun k => mvd (rndN ρ k) = 0) 200 = some j) ∨ (0 < m ∧ fstO (fun k => mvd (rndN ρ k) = 0) 200 = none)) → ∀ z3, Go G l (mt mM_till) 54 [some (vR 136), some (vI (nI v)), some (vI (nI k)), z3] [] h1 0 0 K := by
        intro m hm em hc z3
        refine gM_till 99 [] fun S Cu hS hC => ?_
        refine And.intro p1.1.ob (hS _ _ _ _ (sM_allCost p1 ?_))
        refine And.intro p1.1.ob (hS _ _ _ _ (sM_takesBack (ρ := ρ) (π := ρ) p1.1 ea (fun j hj => by rw [er]; unfold nR; rw [gk.2.2.2 j hj, p.2.2.2.2.2 j hj]) fun h3 f3 e3 => ?_))
        have m3 := p1.1.fr f3
        have f4 : Fr [136, 137, 141, 142, 143, 144, 145] h h3 := f1.tr f3 rfl rfl
        have s4 : Sc1 [24] h h3 := s1.tr (Sc1.of (M := []) f3 rfl) rfl rfl
        have hK := hK h3 (f4.m rfl) (r.fs f4 s4 rfl e3 p.2.2)
        refine ld (nI m) m3.ob ((Sc1.of (M := []) f3 rfl 24 rfl).trans em) ?_
        refine pk_le m 0 (fun z => ?_) (fun z => ?_)
        · rcases hc with ⟨-, j, rfl, hj⟩ | ⟨z2, -⟩
          · rw [hj] at hK
            have hK : K (some (vI (sel (nI v) [nI (j + 1), nI (tot (rndN ρ (j + 1)))]))) h3 := hK
            refine And.intro (fun n0 => ?_) (fun e0 => ?_)
            · have : v = 1 := by
                have h0 : v ≠ 0 := fun z => n0 (by rw [z]; rfl)
                omega
              subst this
              rw [sel_in (i := 1) rfl (by decide) rfl] at hK; exact hK
            · rw [sel_in (i := 0) e0 (by decide) rfl] at hK; exact hK
          · omega
        · rcases hc with ⟨z2, -⟩ | ⟨-, hj⟩
          · omega
          · rw [hj] at hK; exact hK
      refine gM_till 99 [(30, 4), (54, 4)] fun S Cu hS hC => ?_
      refine pk_le 200 k (fun q3 => ?_) (fun q3 => ?_)
      · obtain rfl : k = 200 := by omega
        rcases em with ⟨z, -⟩ | ⟨j, hj, em⟩
        · omega
        · obtain rfl : j = 199 := by omega
          have ml := mvd_le (rndN_ok p.2.2 199).1
          by_cases z : mvd (rndN ρ 199) = 0
          · exact hC _ _ _ _ (fin _ ml em (Or.inl ⟨z, 199, rfl, fstO_some (by decide) z (fun e he => hn1 e (by omega))⟩) _)
          · refine hC _ _ _ _ (fin _ ml em (Or.inr ⟨by omega, fstO_none fun d hd => ?_⟩) _)
            by_cases dd : d = 199
            · subst dd; exact z
            · exact hn1 d (by omega)
      · rcases em with ⟨rfl, em⟩ | ⟨j, rfl, em⟩
        · refine ld (nI 1) p1.1.ob em ?_
          refine And.intro (fun z => absurd z (by decide)) (fun _ => ?_)
          refine And.intro p1.1.ob (hS _ _ _ _ (sM_round p1 fun h2 f2 s2 er2 em2 eb2 => ?_))
          exact hC _ _ _ _ (ih q3 (fun j hj => by omega) h2 (f1.tr f2 rfl rfl) (s1.tr s2 rfl rfl) er2 (fun j hj => by rw [f2.i rfl]; exact ea j hj) (Or.inr ⟨0, rfl, em2⟩) _ (nI_1 0) _)
        · have ml := mvd_le (rndN_ok p.2.2 j).1
          refine ld _ p1.1.ob em ?_
          refine pk_le (mvd (rndN ρ j)) 0 (fun z => ?_) (fun z => ?_)
          · exact hC _ _ _ _ (fin _ ml em (Or.inl ⟨by omega, j, rfl, fstO_some (by omega) (show mvd (rndN ρ j) = 0 by omega) (fun e he => hn1 e (by omega))⟩) _)
          · refine And.intro p1.1.ob (hS _ _ _ _ (sM_round p1 fun h2 f2 s2 er2 em2 eb2 => ?_))
            refine hC _ _ _ _ (ih q3 (fun i hi => ?_) h2 (f1.tr f2 rfl rfl) (s1.tr s2 rfl rfl) er2 (fun j hj => by rw [f2.i rfl]; exact ea j hj) (Or.inr ⟨j + 1, rfl, em2⟩) _ (nI_1 (j + 1)) _)
            by_cases dd : i = j
            · subst dd; omega
            · exact hn1 i (by omega)
    refine And.intro p.1.ob (hS _ _ _ _ (sM_puts p.1 p.2.1 fun h1 f1 ea => ?_))
    have m1 := p.1.fr f1
    refine ld (nI 1) m1.ob rfl ?_
    have f2 : Fr [136, 137, 141, 142, 143, 144, 145] h (setI h1 136 24 (nI 1)) := (f1.tr Fr.rf rfl rfl (M := []) : Fr [136, 137, 141, 142, 143, 144, 145] h h1).setI rfl
    exact hC _ _ _ _ (lp 0 (by omega) (fun j hj => by omega) _ f2 (Sc1.set (Sc1.of f1 rfl) rfl) (by rw [si_nk rfl, f1.i rfl]; exact p.2.1) (fun j hj => by rw [si_nk rfl]; exact ea j hj) (Or.inl ⟨rfl, si_eq⟩) _ rfl _)
  · cases e : fstO (fun k => mvd (rndN ρ k) = 0) 200 with
    | none => rw [e] at hK0; exact hK0
    | some k =>
      rw [e] at hK0
      have hK0 : K (some (vI (sel w [nI (k + 1), nI (tot (rndN ρ (k + 1)))]))) h := hK0
      rw [sel_out (fun i hi z => q2 (e1.mpr ⟨i, by omega, by simp at hi; omega, z⟩))] at hK0
      exact hK0
theorem sM_notes {m : Nat} {c : Int32} (ms : MS h) (k0 : MK h sm sc sn) (em : hI h 136 24 = nI m) (hK : ∀ h', Fr [136, 146, 147] h h' → Sc1 [27] h h' → MK h' (pshI sm (nI m)) (pshI sc c) (psh20 sn) → K none h') : Spec G l (mt mM_notes) [vR 136, vI c] h K := by
  have hsn := k0.2.2
  have lp : ∀ k, k ≤ 19 → ∀ h1, Fr [146, 147] h h1 → (∀ i, i ≤ 19 - k → hI h1 146 i = hI h 146 i ∧ hI h1 147 i = hI h 147 i) → (∀ i, 19 - k < i → i < 20 → hI h1 146 i = hI h 146 (i - 1) ∧ hI h1 147 i = hI h 147 (i - 1)) → ∀ i, i = nI (19 - k) → Go G l (mt mM_notes) 3 [some (vR 136), some (vI c), some (vI i)] [] h1 0 0 K := by
    refine upto _ ?_
    intro k hk ih h1 f e1 e2 i hi
    have s : Sc1 [] h h1 := Sc1.of f rfl
    have f6 : Fr [136, 146, 147] h h1 := f.tr (M := []) Fr.rf rfl rfl
    have s6 : Sc1 [27] h h1 := Sc1.of f rfl
    subst hi
    have m1 := ms.fr f
    refine gM_notes 99 [(3, 3)] fun S Cu hS hC => ?_
    refine pk_le (19 - k) 0 (fun q => ?_) (fun q => ?_)
    · obtain rfl : k = 19 := by omega
      refine ld 146 m1.ob (m1.2.2 25) ?_
      refine ld (nI m) m1.ob ((s 24 rfl).trans em) ?_
      refine sw 0 _ (m1.inA (j := 0) rfl rfl rfl rfl (by decide) rfl) rfl rfl ?_
      refine ld 147 m1.ob (m1.2.2 26) ?_
      refine sw 0 c (m1.inA (j := 0) rfl rfl rfl rfl (by decide) rfl) rfl rfl ?_
      refine ld (nI sn) m1.ob (by rw [si_nk rfl, si_nk rfl, s 27 rfl]; exact k0.2.1) ?_
      have fin : ∀ v, v = nI (psh20 sn) → MK (setI (setI (setI h1 146 0 (nI m)) 147 0 c) 136 27 v) (pshI sm (nI m)) (pshI sc c) (psh20 sn) := by
        intro v hv
        refine ⟨fun i hi => ?_, by rw [si_eq, hv], by unfold psh20; split <;> omega⟩
        have hi2 : i < sn + 1 ∧ i < 20 := by unfold psh20 at hi; split at hi <;> omega
        unfold pshI
        have a1 : hI (setI (setI (setI h1 146 0 (nI m)) 147 0 c) 136 27 v) 146 i = hI (setI h1 146 0 (nI m)) 146 i := by rw [si_nk rfl, si_nk rfl]
        have a2 : hI (setI (setI (setI h1 146 0 (nI m)) 147 0 c) 136 27 v) 147 i = hI (setI (setI h1 146 0 (nI m)) 147 0 c) 147 i := by rw [si_nk rfl]
        rw [a1, a2]
        by_cases i0 : i = 0
        · subst i0; rw [if_pos rfl, if_pos rfl]; exact ⟨si_eq, si_eq⟩
        · rw [if_neg i0, if_neg i0, si_ne i0, si_ne i0]
          have a := e2 i (by omega) hi2.2
          have b := k0.1 (i - 1) (by omega)
          rw [si_nk rfl]
          exact ⟨a.1.trans b.1, a.2.trans b.2⟩
      refine pk_le 20 sn (fun z => ?_) (fun z => ?_)
      · refine ld (nI 20) m1.ob rfl ?_
        exact hK _ (((f6.setI rfl).setI rfl).setI rfl) (((s6.oth rfl).oth rfl).set rfl) (fin _ (congrArg nI (by unfold psh20; rw [if_neg (by omega)])))
      · refine ld (nI sn) m1.ob (by rw [si_nk rfl, si_nk rfl, s 27 rfl]; exact k0.2.1) ?_
        refine ld (nI (sn + 1)) m1.ob (nI_1 sn) ?_
        exact hK _ (((f6.setI rfl).setI rfl).setI rfl) (((s6.oth rfl).oth rfl).set rfl) (fin _ (congrArg nI (by unfold psh20; rw [if_pos (by omega)])))
    · have es : nI (19 - k) - 1 = nI (19 - (k + 1)) := (pk_sub (b := 1) (show 1 ≤ 19 - k by omega)).trans (congrArg nI (by omega))
      have es2 : nI (19 - k) + (-1) = nI (19 - (k + 1)) := by rw [show 19 - k = (19 - (k + 1)) + 1 by omega]; exact pk_m1 _
      refine ld 146 m1.ob (m1.2.2 25) ?_
      refine ld 146 m1.ob (m1.2.2 25) ?_
      refine ld _ (m1.inA (j := 19 - (k + 1)) rfl rfl rfl es (by omega) rfl) (rdA es (by omega) (e1 _ (by omega)).1) ?_
      refine sw (19 - k) _ (m1.inA (j := 19 - k) rfl rfl rfl rfl (by omega) rfl) (ix_nI (by omega)) rfl ?_
      refine ld 147 m1.ob (m1.2.2 26) ?_
      refine ld 147 m1.ob (m1.2.2 26) ?_
      refine ld (hI h 147 (19 - (k + 1))) (m1.inA (j := 19 - (k + 1)) rfl rfl rfl es (by omega) rfl) (rdA es (by omega) (by rw [si_nk rfl]; exact (e1 _ (by omega)).2)) ?_
      refine sw (19 - k) _ (m1.inA (j := 19 - k) rfl rfl rfl rfl (by omega) rfl) (ix_nI (by omega)) rfl ?_
      refine hC _ _ _ _ (ih (by omega) _ ((f.setI rfl).setI rfl) (fun i hi => ?_) (fun i hi hi2 => ?_) _ es2)
      · have a1 : hI (setI (setI h1 146 (19 - k) (hI h 146 (19 - (k + 1)))) 147 (19 - k) (hI h 147 (19 - (k + 1)))) 146 i = hI h1 146 i := by rw [si_nk rfl, si_ne (by omega)]
        have a2 : hI (setI (setI h1 146 (19 - k) (hI h 146 (19 - (k + 1)))) 147 (19 - k) (hI h 147 (19 - (k + 1)))) 147 i = hI h1 147 i := by rw [si_ne (by omega), si_nk rfl]
        rw [a1, a2]; exact e1 i (by omega)
      · by_cases e : i = 19 - k
        · subst e
          have a1 : hI (setI (setI h1 146 (19 - k) (hI h 146 (19 - (k + 1)))) 147 (19 - k) (hI h 147 (19 - (k + 1)))) 146 (19 - k) = hI h 146 (19 - (k + 1)) := by rw [si_nk rfl, si_eq]
          rw [a1, si_eq]; exact ⟨congrArg _ (by omega), congrArg _ (by omega)⟩
        · have a1 : hI (setI (setI h1 146 (19 - k) (hI h 146 (19 - (k + 1)))) 147 (19 - k) (hI h 147 (19 - (k + 1)))) 146 i = hI h1 146 i := by rw [si_nk rfl, si_ne e]
          have a2 : hI (setI (setI h1 146 (19 - k) (hI h 146 (19 - (k + 1)))) 147 (19 - k) (hI h 147 (19 - (k + 1)))) 147 i = hI h1 147 i := by rw [si_ne e, si_nk rfl]
          rw [a1, a2]; exact e2 i (by omega) hi2
  exact eM_notes 9 [(3, 3)] fun S Cu hS hC => hC _ _ _ _ (lp 0 (by omega) h Fr.rf (fun i hi => ⟨rfl, rfl⟩) (fun i hi hi2 => by omega) _ rfl)
theorem sM_rounds {x : Int32} (r : MR h tp tn ft fp ρ pa an un sm sc sn bx bk) (h0 : ¬ (∃ n, 1 ≤ n ∧ n ≤ 100 ∧ x = nI n ∧ 0 < pcn ρ) → K (some (vI (-1))) h) (h1 : ∀ n, 1 ≤ n → n ≤ 100 → x = nI n → 0 < pcn ρ → ∀ h', FM h h' → MR h' tp tn ft fp (rndN ρ (rdc ρ n)) (pushP pa an ρ) (pushA an) 0 (stM ρ sm (rdc ρ n)) (stC ρ sc (rdc ρ n)) (stN sn (rdc ρ n)) bx bk → K (some (vI (nI (rdc ρ n)))) h') : Spec G l (mt mM_rounds) [vR 136, vI x] h K := by
  have p := r.1
  have g := p.2.2.n
  have e100 : (Int64.ofNat 1 ≤ x.toInt64 ∧ x.toInt64 ≤ Int64.ofNat 100) ↔ _ := isIn_lh (x := x) (lo := 1) (hi := 100) (by decide) (by decide)
  have lp : ∀ n, 1 ≤ n → n ≤ 100 → x = nI n → 0 < pcn ρ → ∀ k, k ≤ n → (∀ j, j + 1 < k → ¬ mvd (rndN ρ j) = 0) → ∀ h1, FM h h1 → MR h1 tp tn ft fp (rndN ρ k) (pushP pa an ρ) (pushA an) 0 (stM ρ sm k) (stC ρ sc k) (stN sn k) bx bk → ((k = 0 ∧ hI h1 136 24 = nI 1) ∨ (∃ j, k = j + 1 ∧ hI h1 136 24 = nI (mvd (rndN ρ j)))) → ∀ i, i = nI k → ∀ z3, Go G l (mt mM_rounds) 32 [some (vR 136), some (vI x), some (vI i), z3] [] h1 0 0 K := by
    intro n hn1 hn2 hx hn
    refine upto _ ?_
    intro k hk ih hm h1' f1 r1 em i hi z3
    subst hi
    have p1 := r1.1
    -- one round more
    have more : k < n → ∀ m, hI h1' 136 24 = nI m → (∀ j, j + 1 < k + 1 → ¬ mvd (rndN ρ j) = 0) → ∀ z3, Go G l (mt mM_rounds) 44 [some (vR 136), some (vI x), some (vI (nI k)), z3] [] h1' 0 0 K := by
      intro q m em hm2 z3
      refine gM_rounds 99 [(32, 4)] fun S Cu hS hC => ?_
      refine And.intro p1.1.ob (hS _ _ _ _ (sM_allCost p1 ?_))
      refine And.intro p1.1.ob (hS _ _ _ _ (sM_round p1 fun h2 f2 s2 er2 em2 eb2 => ?_))
      have r2 := r1.fs (ρ' := rndN ρ (k + 1)) f2 s2 rfl er2 (rndN_ok p.2.2 (k + 1)).1
      refine And.intro r2.1.1.ob (hS _ _ _ _ (sM_notes r2.1.1 r2.2.2.2.1 em2 fun h3 f3 s3 k3 => ?_))
      refine hC _ _ _ _ (ih q hm2 h3 ((f1.tr (f2.m rfl)).tr (f3.m rfl)) ⟨r2.1.fr f3 rfl, r2.2.1.fr f3 s3 rfl rfl, r2.2.2.1.fr f3 s3 rfl rfl, k3, r2.2.2.2.2.fr f3 rfl⟩ (Or.inr ⟨k, rfl, (s3 24 rfl).trans em2⟩) _ (nI_1 k) _)
    refine gM_rounds 99 [(44, 4)] fun S Cu hS hC => ?_
    refine pk_le n k (fun q3 => ?_) (fun q3 => ?_) hx rfl
    · obtain rfl : k = n := by omega
      have e : rdc ρ k = k := by
        unfold rdc
        rcases em with ⟨z, -⟩ | ⟨j, rfl, em⟩
        · omega
        · by_cases z : mvd (rndN ρ j) = 0
          · rw [fstO_some (P := fun k => mvd (rndN ρ k) = 0) (d := j) (by omega) z (fun e he => hm e (by omega))]
          · rw [fstO_none fun d hd => ?_]
            by_cases dd : d = j
            · subst dd; exact z
            · exact hm d (by omega)
      have := h1 k hn1 hn2 hx hn h1' f1
      rw [e] at this
      exact this r1
    · rcases em with ⟨rfl, em⟩ | ⟨j, rfl, em⟩
      · refine ld (nI 1) p1.1.ob em ?_
        refine And.intro (fun z => absurd z (by decide)) (fun _ => ?_)
        exact hC _ _ _ _ (more q3 1 em (fun j hj => by omega) _)
      · have ml := mvd_le (rndN_ok p.2.2 j).1
        refine ld _ p1.1.ob em ?_
        refine pk_le (mvd (rndN ρ j)) 0 (fun z => ?_) (fun z => ?_)
        · have e : rdc ρ n = j + 1 := by
            unfold rdc
            rw [fstO_some (show j < n by omega) (show mvd (rndN ρ j) = 0 by omega) (fun e he => hm e (by omega))]
          have := h1 n hn1 hn2 hx hn h1' f1
          rw [e] at this
          exact this r1
        · refine hC _ _ _ _ (more q3 _ em (fun i hi => ?_) _)
          by_cases dd : i = j
          · subst dd; omega
          · exact hm i (by omega)
  refine eM_rounds 99 [(32, 4)] fun S Cu hS hC => ?_
  refine hS _ _ _ _ (sM_isIn ?_)
  refine brE (fun q => ?_) (fun q => ?_)
  · exact h0 (fun ⟨n, a, b, c, d⟩ => q (e100.mpr ⟨n, a, b, c⟩))
  obtain ⟨n, hn1, hn2, rfl⟩ := e100.mp q
  refine And.intro p.1.ob (hS _ _ _ _ (sM_dots p ?_))
  refine And.intro (fun q2 => ?_) (fun q2 => ?_)
  · have hn : 0 < pcn ρ := Nat.pos_of_ne_zero (fun z => q2 (by rw [z]; rfl))
    refine And.intro p.1.ob (hS _ _ _ _ (sM_act p r.2.2.1 fun h2 f2 s2 a2 => ?_))
    have p2 := p.fr f2 rfl
    refine ld (nI 1) p2.1.ob rfl ?_
    have f3 : Fr [136, 140] h (setI h2 136 24 (nI 1)) := f2.setI rfl
    have s3 : Sc1 [17, 18, 24] h (setI h2 136 24 (nI 1)) := (s2.wk rfl : Sc1 [17, 18, 24] h h2).set rfl
    have f4 : Fr [136] h2 (setI h2 136 24 (nI 1)) := Fr.rf.setI rfl
    have s4 : Sc1 [24] h2 (setI h2 136 24 (nI 1)) := Sc1.rf.set rfl
    exact hC _ _ _ _ (lp n hn1 hn2 rfl hn 0 (by omega) (fun j hj => by omega) _ (f3.m rfl) ⟨p.fr f3 rfl, r.2.1.fr f3 s3 rfl rfl, a2.fr f4 s4 rfl rfl, r.2.2.2.1.fr f3 s3 rfl rfl, r.2.2.2.2.fr f3 rfl⟩ (Or.inl ⟨rfl, si_eq⟩) _ rfl _)
  · have hn : pcn ρ = 0 := (nI_eq (b := 0) (by omega) (by decide)).mp q2
    exact h0 (fun ⟨n, a, b, c, d⟩ => by omega)
theorem sM_steps {x w : Int32} (m : MS h) (k0 : MK h sm sc sn) (hK : K (some (vI (aSteps sm sc sn x w))) h) : Spec G l (mt mM_steps) [vR 136, vI x, vI w] h K := by
  have hsn := k0.2.2
  unfold aSteps at hK
  refine eM_steps 39 [] fun S Cu hS hC => ?_
  refine And.intro (fun q => ?_) (fun q => ?_)
  · rw [cif_F q] at hK
    refine ld (nI sn) m.ob k0.2.1 ?_
    refine hS _ _ _ _ (sM_isIn ?_)
    refine brN (fun q2 => ?_) (fun q2 => ?_)
    · have q2 := (isIn_n (by omega)).mp q2
      rw [cif_T q2] at hK
      obtain ⟨i, hi, rfl⟩ := q2
      rw [ix_nI (by omega)] at hK
      refine And.intro (fun n0 => ?_) (fun e0 => ?_)
      · refine And.intro (fun n1 => ?_) (fun e1 => ?_)
        · rw [sel_out (fun i hi => match i, hi with | 0, _ => n0 | 1, _ => n1)] at hK
          exact hK
        · rw [sel_in (i := 1) e1 (by decide) rfl] at hK
          exact ld 147 m.ob (m.2.2 26) (ld _ (m.inA (j := i) rfl rfl rfl rfl (by omega) rfl) (rdA rfl (by omega) (k0.1 i hi).2) hK)
      · rw [sel_in (i := 0) e0 (by decide) rfl] at hK
        exact ld 146 m.ob (m.2.2 25) (ld _ (m.inA (j := i) rfl rfl rfl rfl (by omega) rfl) (rdA rfl (by omega) (k0.1 i hi).1) hK)
    · exact rtC (K := K) (fun z => q2 ((isIn_n (by omega)).mpr z)) hK
  · rw [cif_T q] at hK
    exact ld (nI sn) m.ob k0.2.1 hK
end MM
