/-! ===== the model: acts, undo, redo, put, take, move ===== -/
theorem MR.row {h h' : AH} {tp : Nat → Nat} {tn : Nat} {ft fp : Int32} {ρ ρ' : Pic} {pa : Nat → Pic} {an un : Nat} {sm sc : Nat → Int32} {sn : Nat} {bx : Nat → Pic} {bk : Nat → Prop} (r : MR h tp tn ft fp ρ pa an un sm sc sn bx bk) (f : Fr [137] h h') (e : hI h' 137 = nR ρ') (g : Good ρ') : MR h' tp tn ft fp ρ' pa an un sm sc sn bx bk := by
  obtain ⟨p, t, a, k, b⟩ := r
  have s : Sc1 [] h h' := Sc1.of f rfl
  exact ⟨⟨p.1.fr f, e, g⟩, t.fr f s rfl rfl, a.fr f s rfl rfl, k.fr f s rfl rfl, b.fr f rfl⟩
section MM
variable {G : GP} {l : Launch} {K : Option AV → AH → Prop} {h : AH} {ρ : Pic}
variable {tp : Nat → Nat} {tn : Nat} {ft fp : Int32} {pa : Nat → Pic} {an un : Nat} {sm sc : Nat → Int32} {sn : Nat} {bx : Nat → Pic} {bk : Nat → Prop}
theorem sM_act (p : MP h ρ) (a : MA h pa an un) (hK : ∀ h', Fr [136, 140] h h' → Sc1 [17, 18] h h' → MA h' (pushP pa an ρ) (pushA an) 0 → K none h') : Spec G l (mt mM_act) [vR 136] h K := by
  have hau := a.2.2.2
  have lp2 : ∀ (A : Nat) (pb : Nat → Pic), A ≤ 11 → (∀ i, i < A → Good (pb i)) → (∀ h', Fr [136, 140] h h' → Sc1 [17, 18] h h' → MA h' (fun i => if i = A then ρ else pb i) (A + 1) 0 → K none h') → ∀ k, k ≤ 524 → ∀ h', Fr [136, 140] h h' → Sc1 [17, 18] h h' → hI h' 136 17 = nI A → (∀ i, i < A → ∀ j, j < 524 → hI h' 140 (524 * i + j) = nI (pb i j)) → (∀ j, j < k → hI h' 140 (524 * A + j) = nI (ρ j)) → ∀ i, i = nI k → Go G l (mt mM_act) 54 [some (vR 136), some (vI i)] [] h' 0 0 K := by
    intro A pb hA hg hK
    refine upto _ ?_
    intro k hk ih h' f s e17 hb hr i hi
    subst hi
    have p := p.fr f rfl
    refine gM_act 99 [(54, 2)] fun S Cu hS hC => ?_
    refine pk_le 524 k (fun q => ?_) (fun q => ?_)
    · obtain rfl : k = 524 := by omega
      refine ld _ p.1.ob e17 ?_
      refine ld (nI (A + 1)) p.1.ob (nI_1 A) ?_
      refine ld (nI 0) p.1.ob rfl ?_
      refine hK _ ((f.setI rfl).setI rfl) ((s.set rfl).set rfl) ⟨fun i hi => ⟨fun j hj => ?_, ?_⟩, ?_, ?_, by omega⟩
      · rw [si_nk rfl, si_nk rfl]
        dsimp only
        by_cases e : i = A
        · rw [if_pos e, e]; exact hr j hj
        · rw [if_neg e]; exact hb i (by omega) j hj
      · dsimp only
        by_cases e : i = A
        · rw [if_pos e]; exact p.2.2
        · rw [if_neg e]; exact hg i (by omega)
      · rw [si_ne (by decide), si_eq]
      · rw [si_eq]
    · refine ld 140 p.1.ob (p.1.2.2 16) ?_
      refine ld _ p.1.ob e17 ?_
      refine ld 137 p.1.ob (p.1.2.2 0) ?_
      refine ld (nI (ρ k)) (p.1.inA (j := k) rfl rfl rfl rfl q rfl) (rdP p.2.1 rfl (by omega)) ?_
      refine sw (524 * A + k) _ (p.1.inA (j := 524 * A + k) rfl rfl rfl (by first | with_reducible rfl | (try simp (disch := omega) only [pk_rem]) <;> simp (disch := omega) only [nl0, nl1, nl2, nl3, nl4, nl8, nl9, nl10, nl12, nl20, nl24, nl30, nl32, nl40, nl48, nl100, nl120, nl200, nl255, nl400, nl404, nl524, nl900, nl1000, nl9999, nl16, nl65536, nI_add, pk_mul, pk_sub, pk_div, pk_rem, Nat.add_zero, Nat.zero_add, Nat.mul_one, Nat.add_sub_cancel_left, Nat.add_sub_cancel]) (by omega) rfl) (ix_of (by first | with_reducible rfl | (try simp (disch := omega) only [pk_rem]) <;> simp (disch := omega) only [nl0, nl1, nl2, nl3, nl4, nl8, nl9, nl10, nl12, nl20, nl24, nl30, nl32, nl40, nl48, nl100, nl120, nl200, nl255, nl400, nl404, nl524, nl900, nl1000, nl9999, nl16, nl65536, nI_add, pk_mul, pk_sub, pk_div, pk_rem, Nat.add_zero, Nat.zero_add, Nat.mul_one, Nat.add_sub_cancel_left, Nat.add_sub_cancel]) (by omega)) rfl ?_
      refine hC _ _ _ _ (ih q _ (f.setI rfl) (s.oth rfl) ?_ ?_ ?_ _ (nI_1 k))
      · rw [si_nk rfl]; exact e17
      · intro i hi j hj
        rw [si_ne (by omega)]; exact hb i hi j hj
      · intro j hj
        by_cases e : j = k
        · subst e; exact si_eq
        · rw [si_ne (by omega)]; exact hr j (by omega)
  have lp1 : an = 12 → ∀ k, k ≤ 5764 → ∀ h', Fr [136, 140] h h' → Sc1 [17, 18] h h' → hI h' 136 17 = nI 12 → (∀ j, j < k → hI h' 140 j = hI h 140 (j + 524)) → (∀ j, k ≤ j → hI h' 140 j = hI h 140 j) → ∀ i, i = nI (524 + k) → Go G l (mt mM_act) 13 [some (vR 136), some (vI i)] [] h' 0 0 K := by
    intro h12
    refine upto _ ?_
    intro k hk ih h' f s e17 hb hr i hi
    subst hi
    have p := p.fr f rfl
    refine gM_act 99 [(13, 2), (54, 2)] fun S Cu hS hC => ?_
    refine pk_le 6288 (524 + k) (fun q => ?_) (fun q => ?_)
    · obtain rfl : k = 5764 := by omega
      refine ld _ p.1.ob e17 ?_
      refine ld (nI 11) p.1.ob rfl ?_
      refine hC _ _ _ _ (lp2 11 (fun i => pa (i + 1)) (by decide) (fun i hi => (a.1 (i + 1) (by omega)).2) (fun h'' f' s' r => hK h'' f' s' ?_) 0 (by decide) _ (f.setI rfl) (s.set rfl) si_eq (fun i hi j hj => ?_) (fun j hj => by omega) _ rfl)
      · have e1 : pushP pa an ρ = (fun i => if i = 11 then ρ else pa (i + 1)) := by
          funext i; unfold pushP; rw [if_pos h12]
        have e2 : pushA an = 11 + 1 := by unfold pushA; rw [if_pos h12]
        rw [e1, e2]; exact r
      · rw [si_nk rfl, hb _ (by omega), ← (a.1 (i + 1) (by omega)).1 j hj]
        exact congrArg _ (by omega)
    · refine ld 140 p.1.ob (p.1.2.2 16) ?_
      refine ld 140 p.1.ob (p.1.2.2 16) ?_
      refine ld (hI h 140 (k + 524)) (p.1.inA (j := 524 + k) rfl rfl rfl rfl (by omega) rfl) (rdA rfl (by omega) ((hr _ (by omega)).trans (congrArg _ (by omega)))) ?_
      refine sw k _ (p.1.inA (j := k) rfl rfl rfl (by first | with_reducible rfl | (try simp (disch := omega) only [pk_rem]) <;> simp (disch := omega) only [nl0, nl1, nl2, nl3, nl4, nl8, nl9, nl10, nl12, nl20, nl24, nl30, nl32, nl40, nl48, nl100, nl120, nl200, nl255, nl400, nl404, nl524, nl900, nl1000, nl9999, nl16, nl65536, nI_add, pk_mul, pk_sub, pk_div, pk_rem, Nat.add_zero, Nat.zero_add, Nat.mul_one, Nat.add_sub_cancel_left, Nat.add_sub_cancel]) (by omega) rfl) (ix_of (by first | with_reducible rfl | (try simp (disch := omega) only [pk_rem]) <;> simp (disch := omega) only [nl0, nl1, nl2, nl3, nl4, nl8, nl9, nl10, nl12, nl20, nl24, nl30, nl32, nl40, nl48, nl100, nl120, nl200, nl255, nl400, nl404, nl524, nl900, nl1000, nl9999, nl16, nl65536, nI_add, pk_mul, pk_sub, pk_div, pk_rem, Nat.add_zero, Nat.zero_add, Nat.mul_one, Nat.add_sub_cancel_left, Nat.add_sub_cancel]) (by omega)) rfl ?_
      refine hC _ _ _ _ (ih (by omega) _ (f.setI rfl) (s.oth rfl) ?_ ?_ ?_ _ (nI_1 _))
      · rw [si_nk rfl]; exact e17
      · intro j hj
        by_cases e : j = k
        · subst e; exact si_eq
        · rw [si_ne e]; exact hb j (by omega)
      · intro j hj
        rw [si_ne (by omega)]; exact hr j (by omega)
  refine eM_act 99 [(13, 2), (54, 2)] fun S Cu hS hC => ?_
  refine ld _ p.1.ob a.2.1 ?_
  refine And.intro (fun q => ?_) (fun q => ?_)
  · have h12 : ¬ an = 12 := fun z => q (by rw [z]; rfl)
    refine hC _ _ _ _ (lp2 an pa (by omega) (fun i hi => (a.1 i (by omega)).2) (fun h'' f' s' r => hK h'' f' s' ?_) 0 (by decide) _ Fr.rf Sc1.rf a.2.1 (fun i hi j hj => (a.1 i (by omega)).1 j hj) (fun j hj => by omega) _ rfl)
    have e1 : pushP pa an ρ = (fun i => if i = an then ρ else pa i) := by
      funext i; unfold pushP; rw [if_neg h12]
    have e2 : pushA an = an + 1 := by unfold pushA; rw [if_neg h12]
    rw [e1, e2]; exact r
  · have h12 : an = 12 := (nI_eq (by omega) (by decide)).mp q
    exact hC _ _ _ _ (lp1 h12 0 (by decide) _ Fr.rf Sc1.rf (a.2.1.trans (congrArg nI h12)) (fun j hj => by omega) (fun j hj => rfl) _ rfl)
theorem sM_otherAct (r : MR h tp tn ft fp ρ pa an un sm sc sn bx bk) (hK : ∀ h', FM h h' → MR h' tp tn ft fp ρ (pushP pa an ρ) (pushA an) 0 sm sc 0 bx bk → K none h') : Spec G l (mt mM_otherAct) [vR 136] h K := by
  obtain ⟨p, t, a, k, b⟩ := r
  refine eM_otherAct 9 [] fun S Cu hS hC => ?_
  refine And.intro p.1.ob (hS _ _ _ _ (sM_act p a fun h' f s a' => ?_))
  have p' := p.fr f rfl
  refine ld (nI 0) p'.1.ob rfl ?_
  have f' : Fr [136, 140] h (setI h' 136 27 (nI 0)) := f.setI rfl
  have f2 : Fr [136] h' (setI h' 136 27 (nI 0)) := Fr.rf.setI rfl
  have s2 : Sc1 [27] h' (setI h' 136 27 (nI 0)) := Sc1.rf.set rfl
  have s' : Sc1 [17, 18, 27] h (setI h' 136 27 (nI 0)) := s.tr s2 rfl rfl
  exact hK _ (f'.m rfl) ⟨p.fr f' rfl, t.fr f' s' rfl rfl, a'.fr f2 s2 rfl rfl, ⟨fun i hi => by omega, si_eq, by decide⟩, b.fr f' rfl⟩
theorem sM_exchanges {n : Nat} {x : Int32} {π : Pic} (p : MP h ρ) (hx : x = nI n) (hn : n < 12) (gπ : Good π) (hr : ∀ k, k < 524 → hI h 140 (524 * n + k) = nI (π k)) (hK : ∀ h', Fr [136, 137, 140] h h' → Sc1 [27] h h' → hI h' 136 27 = nI 0 → hI h' 137 = nR π → (∀ k, k < 524 → hI h' 140 (524 * n + k) = nI (ρ k)) → (∀ j, (j < 524 * n ∨ 524 * n + 524 ≤ j) → hI h' 140 j = hI h 140 j) → K none h') : Spec G l (mt mM_exchanges) [vR 136, vI x] h K := by
  subst hx
  have lp : ∀ k, k ≤ 524 → ∀ h', Fr [136, 137, 140] h h' → Sc1 [27] h h' → (∀ j, j < k → hI h' 137 j = nI (π j)) → (∀ j, k ≤ j → hI h' 137 j = nI (ρ j)) → (∀ j, j < k → hI h' 140 (524 * n + j) = nI (ρ j)) → (∀ j, k ≤ j → j < 524 → hI h' 140 (524 * n + j) = nI (π j)) → (∀ j, (j < 524 * n ∨ 524 * n + 524 ≤ j) → hI h' 140 j = hI h 140 j) → ∀ i, i = nI k → Go G l (mt mM_exchanges) 2 [some (vR 136), some (vI (nI n)), some (vI i), none] [] h' 0 0 K := by
    refine upto _ ?_
    intro k hk ih h' f s a1 a2 b1 b2 c i hi
    subst hi
    have m := p.1.fr f
    refine gM_exchanges 99 [(2, 3)] fun S Cu hS hC => ?_
    refine pk_le 524 k (fun q => ?_) (fun q => ?_)
    · obtain rfl : k = 524 := by omega
      refine ld (nI 0) m.ob rfl ?_
      refine hK _ (f.setI rfl) (s.set rfl) si_eq ?_ (fun j hj => by rw [si_nk rfl]; exact b1 j hj) (fun j hj => by rw [si_nk rfl]; exact c j hj)
      rw [si_nk rfl]
      funext j
      by_cases e : j < 524
      · exact a1 j e
      · rw [a2 j (by omega)]; unfold nR; rw [p.2.2.2.2.2 j (by omega), gπ.2.2.2 j (by omega)]
    · refine ld 140 m.ob (m.2.2 16) ?_
      refine ld (nI (π k)) (m.inA (j := 524 * n + k) rfl rfl rfl (by first | with_reducible rfl | (try simp (disch := omega) only [pk_rem]) <;> simp (disch := omega) only [nl0, nl1, nl2, nl3, nl4, nl8, nl9, nl10, nl12, nl20, nl24, nl30, nl32, nl40, nl48, nl100, nl120, nl200, nl255, nl400, nl404, nl524, nl900, nl1000, nl9999, nl16, nl65536, nI_add, pk_mul, pk_sub, pk_div, pk_rem, Nat.add_zero, Nat.zero_add, Nat.mul_one, Nat.add_sub_cancel_left, Nat.add_sub_cancel]) (by omega) rfl) (rdA (by first | with_reducible rfl | (try simp (disch := omega) only [pk_rem]) <;> simp (disch := omega) only [nl0, nl1, nl2, nl3, nl4, nl8, nl9, nl10, nl12, nl20, nl24, nl30, nl32, nl40, nl48, nl100, nl120, nl200, nl255, nl400, nl404, nl524, nl900, nl1000, nl9999, nl16, nl65536, nI_add, pk_mul, pk_sub, pk_div, pk_rem, Nat.add_zero, Nat.zero_add, Nat.mul_one, Nat.add_sub_cancel_left, Nat.add_sub_cancel]) (by omega) (b2 k (Nat.le_refl _) q)) ?_
      refine ld 140 m.ob (m.2.2 16) ?_
      refine ld 137 m.ob (m.2.2 0) ?_
      refine ld (nI (ρ k)) (m.inA (j := k) rfl rfl rfl rfl q rfl) (rdA rfl (by omega) (a2 k (Nat.le_refl _))) ?_
      refine sw (524 * n + k) _ (m.inA (j := 524 * n + k) rfl rfl rfl (by first | with_reducible rfl | (try simp (disch := omega) only [pk_rem]) <;> simp (disch := omega) only [nl0, nl1, nl2, nl3, nl4, nl8, nl9, nl10, nl12, nl20, nl24, nl30, nl32, nl40, nl48, nl100, nl120, nl200, nl255, nl400, nl404, nl524, nl900, nl1000, nl9999, nl16, nl65536, nI_add, pk_mul, pk_sub, pk_div, pk_rem, Nat.add_zero, Nat.zero_add, Nat.mul_one, Nat.add_sub_cancel_left, Nat.add_sub_cancel]) (by omega) rfl) (ix_of (by first | with_reducible rfl | (try simp (disch := omega) only [pk_rem]) <;> simp (disch := omega) only [nl0, nl1, nl2, nl3, nl4, nl8, nl9, nl10, nl12, nl20, nl24, nl30, nl32, nl40, nl48, nl100, nl120, nl200, nl255, nl400, nl404, nl524, nl900, nl1000, nl9999, nl16, nl65536, nI_add, pk_mul, pk_sub, pk_div, pk_rem, Nat.add_zero, Nat.zero_add, Nat.mul_one, Nat.add_sub_cancel_left, Nat.add_sub_cancel]) (by omega)) rfl ?_
      refine ld 137 m.ob (m.2.2 0) ?_
      refine sw k _ (m.inA (j := k) rfl rfl rfl rfl q rfl) (ix_nI (by omega)) rfl ?_
      refine hC _ _ _ _ (ih q _ ((f.setI rfl).setI rfl) ((s.oth rfl).oth rfl) ?_ ?_ ?_ ?_ ?_ _ (nI_1 k))
      · intro j hj
        by_cases e : j = k
        · subst e; exact si_eq
        · rw [si_ne e, si_nk rfl]; exact a1 j (by omega)
      · intro j hj
        rw [si_ne (by omega), si_nk rfl]; exact a2 j (by omega)
      · intro j hj
        rw [si_nk rfl]
        by_cases e : j = k
        · subst e; exact si_eq
        · rw [si_ne (by omega)]; exact b1 j (by omega)
      · intro j hj hj2
        rw [si_nk rfl, si_ne (by omega)]; exact b2 j (by omega) hj2
      · intro j hj
        rw [si_nk rfl, si_ne (by omega)]; exact c j hj
  exact eM_exchanges 9 [(2, 3)] fun S Cu hS hC => hC _ _ _ _ (lp 0 (by omega) _ Fr.rf Sc1.rf (fun j hj => by omega) (fun j _ => by rw [p.2.1]; rfl) (fun j hj => by omega) (fun j _ hj => hr j hj) (fun j hj => rfl) _ rfl)
theorem sM_undo (r : MR h tp tn ft fp ρ pa an un sm sc sn bx bk) (h0 : an = 0 → K (some (vI 0)) h) (h1 : 0 < an → ∀ h', FM h h' → MR h' tp tn ft fp (pa (an - 1)) (swp pa (an - 1) ρ) (an - 1) (un + 1) sm sc 0 bx bk → K (some (vI 1)) h') : Spec G l (mt mM_undo) [vR 136] h K := by
  obtain ⟨p, t, a, k, b⟩ := r
  have hau := a.2.2.2
  refine eM_undo 39 [] fun S Cu hS hC => ?_
  refine ld _ p.1.ob a.2.1 ?_
  refine And.intro (fun q => ?_) (fun q => ?_)
  · have hp : 0 < an := Nat.pos_of_ne_zero (fun z => q (by rw [z]; rfl))
    refine ld _ p.1.ob a.2.1 ?_
    refine ld (nI (an - 1)) p.1.ob (by first | with_reducible rfl | (try simp (disch := omega) only [pk_rem]) <;> simp (disch := omega) only [nl0, nl1, nl2, nl3, nl4, nl8, nl9, nl10, nl12, nl20, nl24, nl30, nl32, nl40, nl48, nl100, nl120, nl200, nl255, nl400, nl404, nl524, nl900, nl1000, nl9999, nl16, nl65536, nI_add, pk_mul, pk_sub, pk_div, pk_rem, Nat.add_zero, Nat.zero_add, Nat.mul_one, Nat.add_sub_cancel_left, Nat.add_sub_cancel]) ?_
    refine ld (nI un) p.1.ob (by rw [si_ne (by decide)]; exact a.2.2.1) ?_
    refine ld (nI (un + 1)) p.1.ob (nI_1 _) ?_
    refine ld (nI (an - 1)) p.1.ob (by rw [si_ne (by decide), si_eq]) ?_
    have f1 : Fr [136] h (setI (setI h 136 17 (nI (an - 1))) 136 18 (nI (un + 1))) := (Fr.rf.setI rfl).setI rfl
    have s1 : Sc1 [17, 18] h (setI (setI h 136 17 (nI (an - 1))) 136 18 (nI (un + 1))) := (Sc1.rf.set rfl).set rfl
    refine And.intro p.1.ob (hS _ _ _ _ (sM_exchanges (p.fr f1 rfl) rfl (by omega) (a.1 (an - 1) (by omega)).2 (fun j hj => ?_) fun h' f s e27 e137 ea ec => ?_))
    · rw [si_nk rfl, si_nk rfl]; exact (a.1 (an - 1) (by omega)).1 j hj
    · have f2 : Fr [136, 137, 140] h h' := f1.tr f rfl rfl
      have s2 : Sc1 [17, 18, 27] h h' := s1.tr s rfl rfl
      refine And.intro (Or.inr rfl) (h1 hp h' (f2.m rfl) ⟨⟨p.1.fr f2, e137, (a.1 (an - 1) (by omega)).2⟩, t.fr f2 s2 rfl rfl, ⟨fun i hi => ⟨fun j hj => ?_, ?_⟩, ?_, ?_, by omega⟩, ⟨fun i hi => by omega, e27, by decide⟩, b.fr f2 rfl⟩)
      · unfold swp
        by_cases e : i = an - 1
        · rw [if_pos e, e]; exact ea j hj
        · rw [if_neg e, ec _ (by omega), si_nk rfl, si_nk rfl]; exact (a.1 i (by omega)).1 j hj
      · unfold swp
        by_cases e : i = an - 1
        · rw [if_pos e]; exact p.2.2
        · rw [if_neg e]; exact (a.1 i (by omega)).2
      · rw [s 17 rfl, si_ne (by decide), si_eq]
      · rw [s 18 rfl, si_eq]
  · exact And.intro (Or.inl rfl) (h0 ((nI_eq (by omega) (by decide)).mp q))
theorem sM_redo (r : MR h tp tn ft fp ρ pa an un sm sc sn bx bk) (h0 : un = 0 → K (some (vI 0)) h) (h1 : 0 < un → ∀ h', FM h h' → MR h' tp tn ft fp (pa an) (swp pa an ρ) (an + 1) (un - 1) sm sc 0 bx bk → K (some (vI 1)) h') : Spec G l (mt mM_redo) [vR 136] h K := by
  obtain ⟨p, t, a, k, b⟩ := r
  have hau := a.2.2.2
  refine eM_redo 39 [] fun S Cu hS hC => ?_
  refine ld _ p.1.ob a.2.2.1 ?_
  refine And.intro (fun q => ?_) (fun q => ?_)
  · have hp : 0 < un := Nat.pos_of_ne_zero (fun z => q (by rw [z]; rfl))
    refine ld _ p.1.ob a.2.2.1 ?_
    refine ld (nI (un - 1)) p.1.ob (by first | with_reducible rfl | (try simp (disch := omega) only [pk_rem]) <;> simp (disch := omega) only [nl0, nl1, nl2, nl3, nl4, nl8, nl9, nl10, nl12, nl20, nl24, nl30, nl32, nl40, nl48, nl100, nl120, nl200, nl255, nl400, nl404, nl524, nl900, nl1000, nl9999, nl16, nl65536, nI_add, pk_mul, pk_sub, pk_div, pk_rem, Nat.add_zero, Nat.zero_add, Nat.mul_one, Nat.add_sub_cancel_left, Nat.add_sub_cancel]) ?_
    refine ld (nI an) p.1.ob (by rw [si_ne (by decide)]; exact a.2.1) ?_
    have f1 : Fr [136] h (setI h 136 18 (nI (un - 1))) := Fr.rf.setI rfl
    have s1 : Sc1 [17, 18] h (setI h 136 18 (nI (un - 1))) := Sc1.rf.set rfl
    refine And.intro p.1.ob (hS _ _ _ _ (sM_exchanges (p.fr f1 rfl) rfl (by omega) (a.1 an (by omega)).2 (fun j hj => ?_) fun h' f s e27 e137 ea ec => ?_))
    · rw [si_nk rfl]; exact (a.1 an (by omega)).1 j hj
    · have f2 : Fr [136, 137, 140] h h' := f1.tr f rfl rfl
      have s2 : Sc1 [17, 18, 27] h h' := s1.tr s rfl rfl
      have m2 := p.1.fr f2
      refine ld (nI an) m2.ob ((s 17 rfl).trans (by rw [si_ne (by decide)]; exact a.2.1)) ?_
      refine ld (nI (an + 1)) m2.ob (nI_1 _) ?_
      have f3 : Fr [136, 137, 140] h (setI h' 136 17 (nI (an + 1))) := f2.setI rfl
      have s3 : Sc1 [17, 18, 27] h (setI h' 136 17 (nI (an + 1))) := s2.set rfl
      refine And.intro (Or.inr rfl) (h1 hp _ (f3.m rfl) ⟨⟨p.1.fr f3, by rw [si_nk rfl]; exact e137, (a.1 an (by omega)).2⟩, t.fr f3 s3 rfl rfl, ⟨fun i hi => ⟨fun j hj => ?_, ?_⟩, ?_, ?_, by omega⟩, ⟨fun i hi => by omega, ?_, by decide⟩, b.fr f3 rfl⟩)
      · rw [si_nk rfl]
        unfold swp
        by_cases e : i = an
        · rw [if_pos e, e]; exact ea j hj
        · rw [if_neg e, ec _ (by omega), si_nk rfl]; exact (a.1 i (by omega)).1 j hj
      · unfold swp
        by_cases e : i = an
        · rw [if_pos e]; exact p.2.2
        · rw [if_neg e]; exact (a.1 i (by omega)).2
      · rw [si_eq]
      · rw [si_ne (by decide), s 18 rfl, si_eq]
      · rw [si_ne (by decide)]; exact e27
  · exact And.intro (Or.inl rfl) (h0 ((nI_eq (by omega) (by decide)).mp q))
theorem sM_put {x y : Int32} (r : MR h tp tn ft fp ρ pa an un sm sc sn bx bk) (h0 : ¬ (isC ρ x y ∧ pcn ρ < 40) → K (some (vI (-1))) h) (h1 : ∀ i j, i < pcw ρ → j < pch ρ → x = nI i → y = nI j → pcn ρ < 40 → ∀ h', FM h h' → MR h' tp tn ft fp (addD ρ i j) (pushP pa an ρ) (pushA an) 0 sm sc 0 bx bk → K (some (vI (nI (pcn ρ)))) h') : Spec G l (mt mM_put) [vR 136, vI x, vI y] h K := by
  have p := r.1
  have g := p.2.2.n
  refine eM_put 39 [] fun S Cu hS hC => ?_
  refine And.intro p.1.ob (hS _ _ _ _ (sM_isCell p ?_))
  refine brE (fun q => ?_) (fun q => ?_)
  · exact h0 (fun z => q z.1)
  refine And.intro p.1.ob (hS _ _ _ _ (sM_dots p ?_))
  refine And.intro (fun q2 => ?_) (fun q2 => ?_)
  · have hn : pcn ρ < 40 := by
      have : ¬ pcn ρ = 40 := fun z => q2 (by rw [z]; rfl)
      omega
    obtain ⟨⟨i, hi, rfl⟩, ⟨j, hj, rfl⟩⟩ := q
    refine And.intro p.1.ob (hS _ _ _ _ (sM_otherAct r fun h' f r' => ?_))
    refine And.intro (r'.1.1.ob) (hS _ _ _ _ (sM_comes r'.1.1 r'.1.2.1 rfl rfl hn (by omega) (by omega) fun h2 f2 e2 => ?_))
    have gd := good_addD p.2.2 hn hi hj
    have r2 := r'.row f2 e2 gd
    refine And.intro (r2.1.1.ob) (hS _ _ _ _ (sM_dots r2.1 ?_))
    rw [addD_n]
    exact rtI (K := K) (nI_pred _) (h1 i j hi hj rfl rfl hn h2 (f.tr (f2.m rfl)) r2)
  · have e40 : pcn ρ = 40 := (nI_eq (b := 40) (by omega) (by decide)).mp q2
    exact h0 (fun z => by omega)
theorem sM_take {x : Int32} (r : MR h tp tn ft fp ρ pa an un sm sc sn bx bk) (h0 : ¬ inN x (pcn ρ) → K (some (vI (-1))) h) (h1 : ∀ i, i < pcn ρ → x = nI i → ∀ h', FM h h' → MR h' tp tn ft fp (delD ρ i) (pushP pa an ρ) (pushA an) 0 sm sc 0 bx bk → K (some (vI (nI (pcn ρ - 1)))) h') : Spec G l (mt mM_take) [vR 136, vI x] h K := by
  have p := r.1
  refine eM_take 39 [] fun S Cu hS hC => ?_
  refine And.intro p.1.ob (hS _ _ _ _ (sM_isDot p ?_))
  refine brN (fun q => ?_) (fun q => ?_)
  · obtain ⟨i, hi, rfl⟩ := q
    refine And.intro p.1.ob (hS _ _ _ _ (sM_otherAct r fun h' f r' => ?_))
    refine And.intro (r'.1.1.ob) (hS _ _ _ _ (sM_goes r'.1 rfl hi fun h2 f2 e2 => ?_))
    have gd := good_delD p.2.2 hi
    have r2 := r'.row f2 e2 gd
    refine And.intro (r2.1.1.ob) (hS _ _ _ _ (sM_dots r2.1 ?_))
    rw [delD_n]
    exact h1 i hi rfl h2 (f.tr (f2.m rfl)) r2
  · exact h0 q
theorem sM_move {x y z : Int32} (r : MR h tp tn ft fp ρ pa an un sm sc sn bx bk) (h0 : ¬ (∃ d i j, d < pcn ρ ∧ i < pcw ρ ∧ j < pch ρ ∧ x = nI d ∧ y = nI i ∧ z = nI j ∧ ¬ lies ρ d i j) → K (some (vI 0)) h) (h1 : ∀ d i j, d < pcn ρ → i < pcw ρ → j < pch ρ → x = nI d → y = nI i → z = nI j → ¬ lies ρ d i j → ∀ h', FM h h' → MR h' tp tn ft fp (setD ρ d i j 1) (pushP pa an ρ) (pushA an) 0 sm sc 0 bx bk → K (some (vI 1)) h') : Spec G l (mt mM_move) [vR 136, vI x, vI y, vI z] h K := by
  have p := r.1
  have g := p.2.2.n
  refine eM_move 39 [] fun S Cu hS hC => ?_
  refine And.intro p.1.ob (hS _ _ _ _ (sM_isDot p ?_))
  refine brE (fun q => ?_) (fun q => ?_)
  · exact And.intro (Or.inl rfl) (h0 (fun ⟨d, i, j, a, _, _, e, _⟩ => q ⟨d, a, e⟩))
  refine And.intro p.1.ob (hS _ _ _ _ (sM_isCell p ?_))
  refine brE (fun q2 => ?_) (fun q2 => ?_)
  · exact And.intro (Or.inl rfl) (h0 (fun ⟨d, i, j, a, b, c, e, e2, e3, _⟩ => q2 ⟨⟨i, b, e2⟩, ⟨j, c, e3⟩⟩))
  obtain ⟨d, hd, rfl⟩ := q
  obtain ⟨⟨i, hi, rfl⟩, ⟨j, hj, rfl⟩⟩ := q2
  refine And.intro p.1.ob (hS _ _ _ _ (sM_liesAt p rfl rfl rfl hd (by omega) (by omega) ?_))
  refine brE (fun q => ?_) (fun q => ?_)
  · refine And.intro p.1.ob (hS _ _ _ _ (sM_otherAct r fun h' f r' => ?_))
    refine And.intro (r'.1.1.ob) (hS _ _ _ _ (sM_lays r'.1.1 r'.1.2.1 rfl rfl rfl rfl (by omega) (by omega) (by omega) (by decide) (by decide) fun h2 f2 e2 => ?_))
    rw [lay_1] at e2
    have gd := good_setD p.2.2 (x := i) (y := j) (q := 1) hd ⟨by decide, by decide, by omega, by omega, Nat.gcd_one_right _⟩
    have r2 := r'.row f2 e2 gd
    exact And.intro (Or.inr rfl) (h1 d i j hd hi hj rfl rfl rfl q h2 (f.tr (f2.m rfl)) r2)
  · refine And.intro (Or.inl rfl) (h0 (fun ⟨d', i', j', a, b, c, e, e2, e3, e4⟩ => e4 ?_))
    rw [← (nI_eq (by omega) (by omega)).mp e, ← (nI_eq (by omega) (by omega)).mp e2, ← (nI_eq (by omega) (by omega)).mp e3]; exact q
end MM
