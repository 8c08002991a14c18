/-! ===== pieces; dot ===== -/
/-- e hangs together with c by cells of a dot -/
def comp (ρ : Pic) (d c e : Nat) : Prop := ∀ R : Nat → Prop, R c → (∀ a b, a < pcc ρ → b < pcc ρ → R a → bsd ρ a b → own ρ b = some d → R b) → R e
theorem comp.rf {ρ : Pic} {d c : Nat} : comp ρ d c c := fun _ h _ => h
theorem comp.st {ρ : Pic} {d c a b : Nat} (h : comp ρ d c a) (ha : a < pcc ρ) (hb : b < pcc ρ) (hab : bsd ρ a b) (ho : own ρ b = some d) : comp ρ d c b := fun R h1 h2 => h2 a b ha hb (h R h1 h2) hab ho
theorem comp.tr {ρ : Pic} {d a b c : Nat} (h : comp ρ d a b) (h' : comp ρ d b c) : comp ρ d a c := fun R h1 h2 => h' R (h R h1 h2) h2
def clsd (ρ : Pic) (d : Nat) (M : Nat → Prop) : Prop := ∀ a b, a < pcc ρ → b < pcc ρ → M a → bsd ρ a b → own ρ b = some d → M b
noncomputable def pcs1 (ρ : Pic) (d c : Nat) : Nat := wN (own ρ c = some d ∧ ∀ e, e < c → own ρ e = some d → ¬ comp ρ d e c) 1
noncomputable def pcsN (ρ : Pic) (d : Nat) : Nat := sumN (pcs1 ρ d) (pcc ρ)
/-- what was met before c -/
def metB (ρ : Pic) (d c e : Nat) : Prop := ∃ b, b < c ∧ own ρ b = some d ∧ comp ρ d b e
theorem metB_cl {ρ : Pic} {d c : Nat} : clsd ρ d (metB ρ d c) := fun a b ha hb ⟨x, h1, h2, h3⟩ hab ho => ⟨x, h1, h2, h3.st ha hb hab ho⟩
def vis (M : Nat → Prop) (n : Nat) (ln : Nat → Nat) (e : Nat) : Prop := M e ∨ ∃ i, i < n ∧ ln i = e
theorem vis_add {M : Nat → Prop} {n : Nat} {ln : Nat → Nat} {c e : Nat} : vis M (n + 1) (up1 ln n c) e ↔ (vis M n ln e ∨ e = c) := by
  unfold vis
  constructor
  · rintro (h | ⟨i, h1, h2⟩)
    · exact Or.inl (Or.inl h)
    · by_cases q : i = n
      · rw [q, up1_eq] at h2; exact Or.inr h2.symm
      · rw [up1_ne q] at h2; exact Or.inl (Or.inr ⟨i, by omega, h2⟩)
  · rintro ((h | ⟨i, h1, h2⟩) | rfl)
    · exact Or.inl h
    · exact Or.inr ⟨i, by omega, by rw [up1_ne (by omega)]; exact h2⟩
    · exact Or.inr ⟨n, by omega, up1_eq⟩
/-- the state of the search -/
def srch (ρ : Pic) (d c : Nat) (M : Nat → Prop) (n : Nat) (ln : Nat → Nat) : Prop := (∀ i, i < n → ln i < pcc ρ ∧ comp ρ d c (ln i)) ∧ sumN (fun e => wN (vis M n ln e) 1) (pcc ρ) = n + sumN (fun e => wN (M e) 1) (pcc ρ)
theorem cnt_le {P : Nat → Prop} {n : Nat} : sumN (fun e => wN (P e) 1) n ≤ n := by
  have : sumN (fun e => wN (P e) 1) n ≤ n * 1 := sumN_le fun _ _ => wN_le _ _
  omega
theorem srch_lt {ρ : Pic} {d c : Nat} {M : Nat → Prop} {n : Nat} {ln : Nat → Nat} (h : srch ρ d c M n ln) {e : Nat} (he : e < pcc ρ) (hv : ¬ vis M n ln e) : n < pcc ρ := by
  have h1 : sumN (fun i => wN (vis M n ln i ∨ i = e) 1) (pcc ρ) = sumN (fun i => wN (vis M n ln i) 1) (pcc ρ) + 1 := sumN_bump he (fun i hi => wN_eq ⟨fun z => z.elim id (fun y => absurd y hi), Or.inl⟩) (by rw [wN_T (Or.inr rfl), wN_F hv])
  have h2 := cnt_le (P := fun i => vis M n ln i ∨ i = e) (n := pcc ρ)
  have := h.2
  omega
theorem srch_le {ρ : Pic} {d c : Nat} {M : Nat → Prop} {n : Nat} {ln : Nat → Nat} (h : srch ρ d c M n ln) : n ≤ pcc ρ := by
  have h2 := cnt_le (P := fun i => vis M n ln i) (n := pcc ρ)
  have := h.2
  omega
theorem srch_add {ρ : Pic} {d c : Nat} {M : Nat → Prop} {n : Nat} {ln : Nat → Nat} (h : srch ρ d c M n ln) {e : Nat} (he : e < pcc ρ) (hv : ¬ vis M n ln e) (hc : comp ρ d c e) : srch ρ d c M (n + 1) (up1 ln n e) := by
  refine ⟨fun i hi => ?_, ?_⟩
  · by_cases q : i = n
    · rw [q, up1_eq]; exact ⟨he, hc⟩
    · rw [up1_ne q]; exact h.1 i (by omega)
  · rw [sumN_bump (g := fun i => wN (vis M n ln i) 1) he (fun i hi => wN_eq (vis_add.trans ⟨fun z => z.elim id (fun y => absurd y hi), Or.inl⟩)) (by rw [wN_T (vis_add.mpr (Or.inr rfl)), wN_F hv]), h.2]
    omega
/-- all done: what is met is what was, and all that hangs together with c -/
theorem srch_end {ρ : Pic} {d c : Nat} {M : Nat → Prop} {n : Nat} {ln : Nat → Nat} (h : srch ρ d c M n ln) (hM : clsd ρ d M) (hc : vis M n ln c) (hd : ∀ i, i < n → ∀ e, e < pcc ρ → bsd ρ (ln i) e → own ρ e = some d → vis M n ln e) (e : Nat) : vis M n ln e ↔ (M e ∨ comp ρ d c e) := by
  constructor
  · rintro (z | ⟨i, h1, h2⟩)
    · exact Or.inl z
    · rw [← h2]; exact Or.inr (h.1 i h1).2
  · rintro (z | z)
    · exact Or.inl z
    · refine z (vis M n ln) hc (fun a b ha hb va hab ho => ?_)
      rcases va with y | ⟨i, h1, h2⟩
      · exact Or.inl (hM a b ha hb y hab ho)
      · rw [← h2] at hab; exact hd i h1 b hb hab ho
noncomputable def aDot (ρ : Pic) (x w : Int32) : Int32 := cif (inN x (pcn ρ)) (sel w [nI (pcX ρ (ix x)), nI (pcY ρ (ix x)), nI (pcD ρ (ix x)), nI (cellsOf ρ (ix x)), nI (load ρ (ix x)), nI (bill ρ (ix x)), nI (spot ρ (ix x)), nI (pcsN ρ (ix x))]) (-1)
section MM
variable {G : GP} {l : Launch} {K : Option AV → AH → Prop} {h : AH} {ρ : Pic}
theorem sM_meets {d c : Nat} {x : Int32} {M : Nat → Prop} (p : MP h ρ) (hx : x = nI c) (hc : c < pcc ρ) (hoc : own ρ c = some d) (eo : ∀ e, e < pcc ρ → hI h 141 e = oI (own ρ e)) (em : ∀ e, e < pcc ρ → hI h 151 e = bI (M e)) (hM : clsd ρ d M) (hnc : ¬ M c) (hK : ∀ h', Fr [150, 151] h h' → (∀ e, e < pcc ρ → hI h' 151 e = bI (M e ∨ comp ρ d c e)) → K none h') : Spec G l (mt mM_meets) [vR 136, vI x] h K := by
  subst hx
  have g := p.2.2.n
  have gc := p.2.2.c
  have dl := own_lt hoc
  have lp : ∀ k, k ≤ pcc ρ → ∀ n ln, k ≤ n → srch ρ d c M n ln → vis M n ln c → (∀ i, i < k → ∀ e, e < pcc ρ → bsd ρ (ln i) e → own ρ e = some d → vis M n ln e) → ∀ h1, Fr [150, 151] h h1 → (∀ e, e < pcc ρ → hI h1 151 e = bI (vis M n ln e)) → (∀ i, i < n → hI h1 150 i = nI (ln i)) → ∀ u v, u = nI n → v = nI k → ∀ z4, Go G l (mt mM_meets) 18 [some (vR 136), some (vI (nI c)), some (vI u), some (vI v), z4] [] h1 0 0 K := by
    refine upto _ ?_
    intro k hk ih n ln hkn sr vc hd h1 f e151 e150 u v hu hv z4
    subst hu; subst hv
    have nl := srch_le sr
    have lp2 : k < n → ∀ j, j ≤ pcc ρ → ∀ n ln, k < n → srch ρ d c M n ln → vis M n ln c → (∀ i, i < k → ∀ e, e < pcc ρ → bsd ρ (ln i) e → own ρ e = some d → vis M n ln e) → (∀ e, e < j → bsd ρ (ln k) e → own ρ e = some d → vis M n ln e) → ∀ h1, Fr [150, 151] h h1 → (∀ e, e < pcc ρ → hI h1 151 e = bI (vis M n ln e)) → (∀ i, i < n → hI h1 150 i = nI (ln i)) → ∀ u w, u = nI n → w = nI j → Go G l (mt mM_meets) 26 [some (vR 136), some (vI (nI c)), some (vI u), some (vI (nI k)), some (vI w)] [] h1 0 0 K := by
      intro _
      refine upto _ ?_
      intro j hj ih2 n ln hkn sr vc hd hd2 h1 f e151 e150 u w hu hw
      subst hu; subst hw
      have nl := srch_le sr
      have p1 := p.fr f rfl
      have lk := sr.1 k hkn
      refine gM_meets 99 [(18, 5), (26, 5)] fun S Cu hS hC => ?_
      refine And.intro p1.1.ob (hS _ _ _ _ (sM_cells p1 ?_))
      refine pk_le (pcc ρ) j (fun q => ?_) (fun q => ?_)
      · obtain rfl : j = pcc ρ := by omega
        refine hC _ _ _ _ (ih (by omega) n ln hkn sr vc (fun i hi e he hb ho => ?_) h1 f e151 e150 _ _ rfl (nI_1 k) _)
        by_cases ik : i = k
        · rw [ik] at hb; exact hd2 e he hb ho
        · exact hd i (by omega) e he hb ho
      -- nothing new
      have skip : (bsd ρ (ln k) j → own ρ j = some d → vis M n ln j) → ∀ e, e < j + 1 → bsd ρ (ln k) e → own ρ e = some d → vis M n ln e := by
        intro hh e he hb ho
        by_cases ej : e = j
        · subst ej; exact hh hb ho
        · exact hd2 e (by omega) hb ho
      refine ld 151 p1.1.ob (p1.1.2.2 31) ?_
      refine ld _ (p1.1.inA (j := j) rfl rfl rfl rfl (by omega) rfl) (rdA rfl (by omega) (e151 j q)) ?_
      refine brN (fun z => ?_) (fun z => ?_)
      · exact hC _ _ _ _ (ih2 q n ln hkn sr vc hd (skip (fun _ _ => z)) h1 f e151 e150 _ _ rfl (nI_1 j))
      refine ld 141 p1.1.ob (p1.1.2.2 19) ?_
      refine ld (oI (own ρ j)) (p1.1.inA (j := j) rfl rfl rfl rfl (by omega) rfl) (rdA rfl (by omega) (by rw [f.i rfl]; exact eo j q)) ?_
      refine ld 141 p1.1.ob (p1.1.2.2 19) ?_
      refine ld (nI d) (p1.1.inA (j := c) rfl rfl rfl rfl (by omega) rfl) (rdA rfl (by omega) (by rw [f.i rfl, eo c hc, hoc]; rfl)) ?_
      have eoj := own_oI p.2.2 (c := j) (show d < 2 ^ 31 by omega)
      refine And.intro (fun z2 => ?_) (fun z2 => ?_)
      · exact hC _ _ _ _ (ih2 q n ln hkn sr vc hd (skip (fun _ y => absurd (eoj.mpr y) z2)) h1 f e151 e150 _ _ rfl (nI_1 j))
      have z2 := eoj.mp z2
      refine ld 150 p1.1.ob (p1.1.2.2 30) ?_
      refine ld _ (p1.1.inA (j := k) rfl rfl rfl rfl (by omega) rfl) (rdA rfl (by omega) (e150 k hkn)) ?_
      refine And.intro p1.1.ob (hS _ _ _ _ (sM_areBeside p1 rfl rfl lk.1 q ?_))
      refine brN (fun z3 => ?_) (fun z3 => ?_)
      · have nlt := srch_lt sr q z
        refine ld 151 p1.1.ob (p1.1.2.2 31) ?_
        refine sw j (nI 1) ⟨p1.1.inA (j := j) rfl rfl rfl rfl (by omega) rfl, Or.inr rfl⟩ (ix_nI (by omega)) rfl ?_
        refine ld 150 p1.1.ob (p1.1.2.2 30) ?_
        refine sw n (nI j) (p1.1.inA (j := n) rfl rfl rfl rfl (by omega) rfl) (ix_nI (by omega)) rfl ?_
        refine hC _ _ _ _ (ih2 q (n + 1) (up1 ln n j) (by omega) (srch_add sr q z (lk.2.st lk.1 q z3 z2)) (vis_add.mpr (Or.inl vc)) (fun i hi e he hb ho => ?_) (fun e he hb ho => ?_) _ ((f.setI rfl).setI rfl) (fun e he => ?_) (fun i hi => ?_) _ _ (nI_1 n) (nI_1 j))
        · rw [up1_ne (by omega)] at hb; exact vis_add.mpr (Or.inl (hd i hi e he hb ho))
        · rw [up1_ne (by omega)] at hb
          by_cases ej : e = j
          · exact vis_add.mpr (Or.inr ej)
          · exact vis_add.mpr (Or.inl (hd2 e (by omega) hb ho))
        · rw [si_nk rfl]
          by_cases ej : e = j
          · rw [ej, si_eq, bI_T (vis_add.mpr (Or.inr rfl))]; rfl
          · rw [si_ne ej, e151 e he]; exact bI_eq ⟨fun y => vis_add.mpr (Or.inl y), fun y => (vis_add.mp y).elim id (fun v => absurd v ej)⟩
        · by_cases ii : i = n
          · rw [ii, si_eq, up1_eq]
          · rw [si_ne ii, up1_ne ii, si_nk rfl]; exact e150 i (by omega)
      · exact hC _ _ _ _ (ih2 q n ln hkn sr vc hd (skip (fun y _ => absurd y z3)) h1 f e151 e150 _ _ rfl (nI_1 j))
    refine gM_meets 99 [(26, 5)] fun S Cu hS hC => ?_
    refine pk_le n k (fun q => ?_) (fun q => ?_)
    · obtain rfl : k = n := by omega
      refine hK h1 f (fun e he => (e151 e he).trans (bI_eq (srch_end sr hM vc hd e)))
    · exact hC _ _ _ _ (lp2 q 0 (by omega) n ln q sr vc hd (fun e he => by omega) h1 f e151 e150 _ _ rfl rfl)
  refine eM_meets 39 [(18, 5)] fun S Cu hS hC => ?_
  refine ld 150 p.1.ob (p.1.2.2 30) ?_
  refine sw 0 (nI c) (p.1.inA (j := 0) rfl rfl rfl rfl (by decide) rfl) rfl rfl ?_
  refine ld 151 p.1.ob (p.1.2.2 31) ?_
  refine sw c (nI 1) ⟨p.1.inA (j := c) rfl rfl rfl rfl (by omega) rfl, Or.inr rfl⟩ (ix_nI (by omega)) rfl ?_
  have v1 : ∀ e, vis M 1 (fun _ => c) e ↔ (M e ∨ e = c) := fun e => ⟨fun z => z.imp id (fun ⟨i, _, y⟩ => y.symm), fun z => z.imp id (fun y => ⟨0, by decide, y.symm⟩)⟩
  refine hC _ _ _ _ (lp 0 (by omega) 1 (fun _ => c) (by omega) ⟨fun i _ => ⟨hc, comp.rf⟩, ?_⟩ ((v1 c).mpr (Or.inr rfl)) (fun i hi => by omega) _ ((Fr.rf.setI rfl).setI rfl) (fun e he => ?_) (fun i hi => ?_) _ _ rfl rfl _)
  · rw [sumN_bump (g := fun i => wN (M i) 1) hc (fun i hi => wN_eq ((v1 i).trans ⟨fun z => z.elim id (fun y => absurd y hi), Or.inl⟩)) (by rw [wN_T ((v1 c).mpr (Or.inr rfl)), wN_F hnc])]
    omega
  · by_cases ec : e = c
    · rw [ec, si_eq, bI_T ((v1 c).mpr (Or.inr rfl))]; rfl
    · rw [si_ne ec, si_nk rfl, em e he]; exact bI_eq ⟨fun y => (v1 e).mpr (Or.inl y), fun y => ((v1 e).mp y).elim id (fun v => absurd v ec)⟩
  · rw [si_nk rfl, show i = 0 by omega, si_eq]
theorem sM_piecesOf {d : Nat} {x : Int32} (p : MP h ρ) (hx : x = nI d) (hd : d < pcn ρ) (eo : ∀ e, e < pcc ρ → hI h 141 e = oI (own ρ e)) (hK : ∀ h', Fr [150, 151] h h' → K (some (vI (nI (pcsN ρ d)))) h') : Spec G l (mt mM_piecesOf) [vR 136, vI x] h K := by
  subst hx
  have g := p.2.2.n
  have gc := p.2.2.c
  have lp2 : ∀ k, k ≤ pcc ρ → ∀ h1, Fr [150, 151] h h1 → (∀ e, e < pcc ρ → hI h1 151 e = bI (metB ρ d k e)) → ∀ n i, n = nI (sumN (pcs1 ρ d) k) → i = nI k → Go G l (mt mM_piecesOf) 27 [some (vR 136), some (vI (nI d)), some (vI n), some (vI i)] [] h1 0 0 K := by
    refine upto _ ?_
    intro k hk ih h1 f em n i hn hi
    subst hn; subst hi
    have p1 := p.fr f rfl
    refine gM_piecesOf 99 [(27, 4)] fun S Cu hS hC => ?_
    refine And.intro p1.1.ob (hS _ _ _ _ (sM_cells p1 ?_))
    refine pk_le (pcc ρ) k (fun q => ?_) (fun q => ?_)
    · obtain rfl : k = pcc ρ := by omega
      exact hK h1 f
    refine ld 141 p1.1.ob (p1.1.2.2 19) ?_
    refine ld (oI (own ρ k)) (p1.1.inA (j := k) rfl rfl rfl rfl (by omega) rfl) (rdA rfl (by omega) (by rw [f.i rfl]; exact eo k q)) ?_
    have eok := own_oI p.2.2 (c := k) (show d < 2 ^ 31 by omega)
    refine And.intro (fun z => ?_) (fun z => ?_)
    · have z : ¬ own ρ k = some d := fun y => z (eok.mpr y)
      refine hC _ _ _ _ (ih q h1 f (fun e he => (em e he).trans (bI_eq ⟨fun ⟨b, b1, b2⟩ => ⟨b, by omega, b2⟩, fun ⟨b, b1, b2, b3⟩ => ⟨b, ?_, b2, b3⟩⟩)) _ _ ?_ (nI_1 k))
      · exact Nat.lt_of_le_of_ne (by omega) (fun y => z (by rw [← y]; exact b2))
      · simp only [sumN]; unfold pcs1; rw [wN_F (fun y => z y.1)]; rfl
    have z := eok.mp z
    refine ld 151 p1.1.ob (p1.1.2.2 31) ?_
    refine ld _ (p1.1.inA (j := k) rfl rfl rfl rfl (by omega) rfl) (rdA rfl (by omega) (em k q)) ?_
    refine brE (fun z2 => ?_) (fun z2 => ?_)
    · refine And.intro p1.1.ob (hS _ _ _ _ (sM_meets p1 rfl q z (fun e he => by rw [f.i rfl]; exact eo e he) em metB_cl z2 fun h2 f2 em2 => ?_))
      refine hC _ _ _ _ (ih q h2 (f.tr f2 rfl rfl) (fun e he => (em2 e he).trans (bI_eq ?_)) _ _ ?_ (nI_1 k))
      · constructor
        · rintro (⟨b, b1, b2⟩ | y)
          · exact ⟨b, by omega, b2⟩
          · exact ⟨k, by omega, z, y⟩
        · rintro ⟨b, b1, b2, b3⟩
          by_cases bk : b = k
          · subst bk; exact Or.inr b3
          · exact Or.inl ⟨b, by omega, b2, b3⟩
      · simp only [sumN]
        have : pcs1 ρ d k = 1 := wN_T ⟨z, fun e he ho hc => z2 ⟨e, he, ho, hc⟩⟩
        rw [this]; exact nI_1 _
    · refine hC _ _ _ _ (ih q h1 f (fun e he => (em e he).trans (bI_eq ?_)) _ _ ?_ (nI_1 k))
      · constructor
        · rintro ⟨b, b1, b2⟩; exact ⟨b, by omega, b2⟩
        · rintro ⟨b, b1, b2, b3⟩
          by_cases bk : b = k
          · subst bk
            obtain ⟨a, a1, a2, a3⟩ := z2
            exact ⟨a, a1, a2, a3.tr b3⟩
          · exact ⟨b, by omega, b2, b3⟩
      · simp only [sumN]
        have : pcs1 ρ d k = 0 := wN_F fun y => by
          obtain ⟨a, a1, a2, a3⟩ := z2
          exact y.2 a a1 a2 a3
        rw [this]; rfl
  have lp1 : ∀ k, k ≤ pcc ρ → ∀ h1, Fr [150, 151] h h1 → (∀ e, e < k → hI h1 151 e = nI 0) → ∀ i, i = nI k → ∀ z3, Go G l (mt mM_piecesOf) 2 [some (vR 136), some (vI (nI d)), some (vI i), z3] [] h1 0 0 K := by
    refine upto _ ?_
    intro k hk ih h1 f em i hi z3
    subst hi
    have p1 := p.fr f rfl
    refine gM_piecesOf 99 [(2, 4), (27, 4)] fun S Cu hS hC => ?_
    refine And.intro p1.1.ob (hS _ _ _ _ (sM_cells p1 ?_))
    refine pk_le (pcc ρ) k (fun q => ?_) (fun q => ?_)
    · obtain rfl : k = pcc ρ := by omega
      refine hC _ _ _ _ (lp2 0 (by omega) h1 f (fun e he => (em e he).trans (bI_F (fun ⟨b, b1, _⟩ => by omega)).symm) _ _ rfl rfl)
    · refine ld 151 p1.1.ob (p1.1.2.2 31) ?_
      refine sw k (nI 0) ⟨p1.1.inA (j := k) rfl rfl rfl rfl (by omega) rfl, Or.inl rfl⟩ (ix_nI (by omega)) rfl ?_
      refine hC _ _ _ _ (ih q _ (f.setI rfl) (fun e he => ?_) _ (nI_1 k) _)
      by_cases ek : e = k
      · subst ek; exact si_eq
      · rw [si_ne ek]; exact em e (by omega)
  exact eM_piecesOf 9 [(2, 4)] fun S Cu hS hC => hC _ _ _ _ (lp1 0 (by omega) h Fr.rf (fun e he => by omega) _ rfl _)
theorem sM_dot {x w : Int32} (p : MP h ρ) (hK : ∀ h', Fr [141, 142, 150, 151] h h' → K (some (vI (aDot ρ x w))) h') : Spec G l (mt mM_dot) [vR 136, vI x, vI w] h K := by
  have g := p.2.2.n
  have gc := p.2.2.c
  unfold aDot at hK
  refine eM_dot 99 [(19, 5)] fun S Cu hS hC => ?_
  refine And.intro p.1.ob (hS _ _ _ _ (sM_isDot p ?_))
  refine brN (fun q => ?_) (fun q => ?_)
  · rw [cif_T q] at hK
    obtain ⟨d, hd, rfl⟩ := q
    rw [ix_nI (by omega)] at hK
    refine And.intro p.1.ob (hS _ _ _ _ (sM_laysLoads p fun h1 f1 eo el => ?_))
    have p1 : MP h1 ρ := p.fr f1 rfl
    have f1' : Fr [141, 142, 150, 151] h h1 := f1.tr (M := []) Fr.rf rfl rfl
    have hK1 := hK h1 f1'
    have lp : ∀ k, k ≤ pcc ρ → ∀ i o, i = nI k → o = nI (sumN (fun c => wN (own ρ c = some d) 1) k) → Go G l (mt mM_dot) 19 [some (vR 136), some (vI (nI d)), some (vI w), some (vI o), some (vI i)] [] h1 0 0 K := by
      refine upto _ ?_
      intro k hk ih i o hi ho
      subst hi
      have fin : k < pcc ρ → ∀ v, v = bI (own ρ k = some d) → Go G l (mt mM_dot) 45 [some (vR 136), some (vI (nI d)), some (vI w), some (vI o), some (vI (nI k))] [vI v, vI o] h1 0 0 K := by
        intro q v hv
        subst hv
        refine gM_dot 99 [(19, 5)] fun S Cu hS hC => ?_
        refine hS _ _ _ _ (sM_truth ?_)
        refine hC _ _ _ _ (ih q _ _ (nI_1 k) ?_)
        rw [ho, bI_wN, nI_add]; rfl
      refine gM_dot 99 [(45, 5)] fun S Cu hS hC => ?_
      refine And.intro p1.1.ob (hS _ _ _ _ (sM_cells p1 ?_))
      refine pk_le (pcc ρ) k (fun q => ?_) (fun q => ?_)
      · obtain rfl : k = pcc ρ := by omega
        subst ho
        refine And.intro (fun e => ?_) (fun n0 => And.intro (fun e => ?_) (fun n1 => And.intro (fun e => ?_) (fun n2 => And.intro (fun e => ?_) (fun n3 => And.intro (fun e => ?_) (fun n4 => And.intro (fun e => ?_) (fun n5 => And.intro (fun e => ?_) (fun n6 => And.intro (fun e => ?_) (fun n7 => ?_))))))))
        · rw [sel_in (i := 0) e (by decide) rfl] at hK1
          exact And.intro p1.1.ob (hS _ _ _ _ (sM_xOf p1 rfl (by omega) hK1))
        · rw [sel_in (i := 1) e (by decide) rfl] at hK1
          exact And.intro p1.1.ob (hS _ _ _ _ (sM_yOf p1 rfl (by omega) hK1))
        · rw [sel_in (i := 2) e (by decide) rfl] at hK1
          refine And.intro p1.1.ob (hS _ _ _ _ (sM_under p1 rfl hd ?_))
          exact rtI (K := K) (lN_i _) hK1
        · rw [sel_in (i := 3) e (by decide) rfl] at hK1
          exact hK1
        · rw [sel_in (i := 4) e (by decide) rfl] at hK1
          exact ld 142 p1.1.ob (p1.1.2.2 20) (ld _ (p1.1.inA (j := d) rfl rfl rfl rfl (by omega) rfl) (rdA rfl (by omega) (el d hd)) hK1)
        · rw [sel_in (i := 5) e (by decide) rfl] at hK1
          exact And.intro p1.1.ob (hS _ _ _ _ (sM_costOf p1 rfl hd eo hK1))
        · rw [sel_in (i := 6) e (by decide) rfl] at hK1
          exact And.intro p1.1.ob (hS _ _ _ _ (sM_spotOf p1 rfl hd hK1))
        · refine And.intro p1.1.ob (hS _ _ _ _ (sM_piecesOf p1 rfl hd eo fun h2 f2 => ?_))
          have := hK h2 (f1'.tr f2 rfl rfl)
          rw [sel_in (i := 7) e (by decide) rfl] at this
          exact this
        · rw [sel_out (fun i hi => match i, hi with | 0, _ => n0 | 1, _ => n1 | 2, _ => n2 | 3, _ => n3 | 4, _ => n4 | 5, _ => n5 | 6, _ => n6 | 7, _ => n7)] at hK1
          exact hK1
      · refine ld 141 p1.1.ob (p1.1.2.2 19) ?_
        refine ld _ (p1.1.inA (j := k) rfl rfl rfl rfl (by omega) rfl) (rdA rfl (by omega) (eo k q)) ?_
        have eok := own_oI p.2.2 (c := k) (show d < 2 ^ 31 by omega)
        refine And.intro (fun z => ?_) (fun z => ?_)
        · exact hC _ _ _ _ (fin q _ (bI_F (fun y => z (eok.mpr y))).symm)
        · exact hC _ _ _ _ (fin q _ (bI_T (eok.mp z)).symm)
    exact hC _ _ _ _ (lp 0 (by omega) _ _ rfl rfl)
  · exact rtC (K := K) q (hK h Fr.rf)
end MM
