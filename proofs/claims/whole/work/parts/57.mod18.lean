/-! ===== way ===== -/
abbrev WY : Type := (Nat → Option Nat) × (Nat → Nat) × Nat
def up1 {α : Type} (f : Nat → α) (k : Nat) (v : α) : Nat → α := fun i => if i = k then v else f i
theorem up1_eq {α : Type} {f : Nat → α} {k : Nat} {v : α} : up1 f k v k = v := if_pos rfl
theorem up1_ne {α : Type} {f : Nat → α} {k i : Nat} {v : α} (h : i ≠ k) : up1 f k v i = f i := if_neg h
def wyA (s : WY) (k d : Nat) : WY := (up1 s.1 d (some ((s.1 (s.2.1 k)).getD 0 + 1)), up1 s.2.1 s.2.2 d, s.2.2 + 1)
noncomputable def wyI (ρ : Pic) (k : Nat) (s : WY) : Nat → WY
  | 0 => s
  | d + 1 => @ite _ ((wyI ρ k s d).1 d = none ∧ ¬ tch ρ ((wyI ρ k s d).2.1 k) d = 0) (Classical.propDecidable _) (wyA (wyI ρ k s d) k d) (wyI ρ k s d)
noncomputable def wyO (ρ : Pic) (a : Nat) : Nat → WY
  | 0 => (up1 (fun _ => none) a (some 0), fun _ => a, 1)
  | k + 1 => if k < (wyO ρ a k).2.2 then wyI ρ k (wyO ρ a k) (pcn ρ) else wyO ρ a k
def wyV (n : Nat) (s : WY) : Prop := (∀ i, i < s.2.2 → s.2.1 i < n ∧ s.1 (s.2.1 i) ≠ none) ∧ s.2.2 = sumN (fun d => wN (¬ s.1 d = none) 1) n ∧ (∀ d v, s.1 d = some v → v < s.2.2)
theorem wyV.le {n : Nat} {s : WY} (h : wyV n s) : s.2.2 ≤ n := by
  rw [h.2.1]
  have : sumN (fun d => wN (¬ s.1 d = none) 1) n ≤ n * 1 := sumN_le fun d _ => wN_le _ _
  omega
theorem sumN_bump {f g : Nat → Nat} {a : Nat} : ∀ {n : Nat}, a < n → (∀ i, i ≠ a → f i = g i) → f a = g a + 1 → sumN f n = sumN g n + 1
  | 0, h, _, _ => by omega
  | n + 1, h, h1, h2 => by
    simp only [sumN]
    by_cases e : a = n
    · subst e
      rw [sumN_congr (g := g) (fun i hi => h1 i (by omega)), h2]; omega
    · rw [sumN_bump (a := a) (by omega) h1 h2, h1 n (fun z => e z.symm)]; omega
theorem wyA_ok {n : Nat} {s : WY} {k d : Nat} (h : wyV n s) (hk : k < s.2.2) (hd : d < n) (e : s.1 d = none) : wyV n (wyA s k d) := by
  refine ⟨fun i hi => ?_, ?_, fun j v hj => ?_⟩
  · have hi : i < s.2.2 + 1 := hi
    show up1 s.2.1 s.2.2 d i < n ∧ up1 s.1 d _ (up1 s.2.1 s.2.2 d i) ≠ none
    by_cases q : i = s.2.2
    · rw [q, up1_eq, up1_eq]; exact ⟨hd, fun z => by cases z⟩
    · rw [up1_ne q]
      have hh := h.1 i (by omega)
      refine ⟨hh.1, ?_⟩
      rw [up1_ne (fun z => by rw [z] at hh; exact hh.2 e)]; exact hh.2
  · show s.2.2 + 1 = _
    rw [h.2.1]
    refine (sumN_bump hd (fun i hi => ?_) ?_).symm
    · show wN (¬ up1 s.1 d _ i = none) 1 = _
      rw [up1_ne hi]
    · show wN (¬ up1 s.1 d _ d = none) 1 = _
      rw [up1_eq, wN_T (by intro z; cases z), wN_F (fun z => z e)]
  · show v < s.2.2 + 1
    have hj : up1 s.1 d (some ((s.1 (s.2.1 k)).getD 0 + 1)) j = some v := hj
    by_cases q : j = d
    · rw [q, up1_eq] at hj
      injection hj with hj
      cases e2 : s.1 (s.2.1 k) with
      | none => exact absurd e2 (h.1 k hk).2
      | some u =>
        rw [e2] at hj
        have := h.2.2 _ _ e2
        have hj : u + 1 = v := hj
        omega
    · rw [up1_ne q] at hj
      have := h.2.2 j v hj; omega
theorem wyI_T {ρ : Pic} {k d : Nat} {s : WY} (h : (wyI ρ k s d).1 d = none ∧ ¬ tch ρ ((wyI ρ k s d).2.1 k) d = 0) : wyI ρ k s (d + 1) = wyA (wyI ρ k s d) k d := if_pos h
theorem wyI_F {ρ : Pic} {k d : Nat} {s : WY} (h : ¬ ((wyI ρ k s d).1 d = none ∧ ¬ tch ρ ((wyI ρ k s d).2.1 k) d = 0)) : wyI ρ k s (d + 1) = wyI ρ k s d := if_neg h
theorem wyI_ok {ρ : Pic} {k : Nat} {s : WY} (h : wyV (pcn ρ) s) (hk : k < s.2.2) : ∀ d, d ≤ pcn ρ → wyV (pcn ρ) (wyI ρ k s d) ∧ s.2.2 ≤ (wyI ρ k s d).2.2
  | 0, _ => ⟨h, Nat.le_refl _⟩
  | d + 1, hd => by
    obtain ⟨a, b⟩ := wyI_ok h hk d (by omega)
    by_cases q : (wyI ρ k s d).1 d = none ∧ ¬ tch ρ ((wyI ρ k s d).2.1 k) d = 0
    · rw [wyI_T q]; exact ⟨wyA_ok a (by omega) (by omega) q.1, Nat.le_succ_of_le b⟩
    · rw [wyI_F q]; exact ⟨a, b⟩
theorem wyO_0 {n a : Nat} (ha : a < n) : wyV n ((up1 (fun _ => none) a (some 0), fun _ => a, 1) : WY) := by
  refine ⟨fun i hi => ⟨ha, ?_⟩, ?_, fun d v hv => ?_⟩
  · show up1 (fun _ => none) a (some 0) a ≠ none
    rw [up1_eq]; intro z; cases z
  · show 1 = _
    have : sumN (fun d => wN (¬ (up1 (fun _ => none) a (some 0) : Nat → Option Nat) d = none) 1) n = sumN (fun _ => 0) n + 1 := by
      refine sumN_bump ha (fun i hi => ?_) ?_
      · rw [wN_F (fun z => z (up1_ne hi))]
      · rw [wN_T (by rw [up1_eq]; intro z; cases z)]
    rw [sumN_zero (fun _ _ => rfl)] at this
    exact this.symm
  · have hv : up1 (fun _ => none) a (some 0) d = some v := hv
    by_cases q : d = a
    · rw [q, up1_eq] at hv; injection hv with hv; show v < 1; omega
    · rw [up1_ne q] at hv; cases hv
theorem wyO_ok {ρ : Pic} {a : Nat} (ha : a < pcn ρ) : ∀ k, wyV (pcn ρ) (wyO ρ a k)
  | 0 => wyO_0 ha
  | k + 1 => by
    simp only [wyO]
    by_cases q : k < (wyO ρ a k).2.2
    · rw [if_pos q]; exact (wyI_ok (wyO_ok ha k) q _ (Nat.le_refl _)).1
    · rw [if_neg q]; exact wyO_ok ha k
theorem wyO_end {ρ : Pic} {a k : Nat} (h : (wyO ρ a k).2.2 ≤ k) : ∀ m, wyO ρ a (k + m) = wyO ρ a k
  | 0 => rfl
  | m + 1 => by
    have ih := wyO_end h m
    show (if k + m < (wyO ρ a (k + m)).2.2 then _ else _) = _
    rw [ih, if_neg (by omega)]; exact ih
noncomputable def aWay (ρ : Pic) (x y : Int32) : Int32 := cif (inN x (pcn ρ) ∧ inN y (pcn ρ)) (oI ((wyO ρ (ix x) (pcn ρ)).1 (ix y))) (-1)
section MM
variable {G : GP} {l : Launch} {K : Option AV → AH → Prop} {h : AH} {ρ : Pic}
theorem sM_way {x y : Int32} (p : MP h ρ) (hK : ∀ h', Fr [141, 150, 152] h h' → K (some (vI (aWay ρ x y))) h') : Spec G l (mt mM_way) [vR 136, vI x, vI y] h K := by
  have g := p.2.2.n
  unfold aWay at hK
  refine eM_way 99 [(24, 6)] fun S Cu hS hC => ?_
  refine And.intro p.1.ob (hS _ _ _ _ (sM_isDot p ?_))
  refine brE (fun q => ?_) (fun q => ?_)
  · exact rtC (K := K) (fun z => q z.1) (hK h Fr.rf)
  refine And.intro p.1.ob (hS _ _ _ _ (sM_isDot p ?_))
  refine brN (fun q2 => ?_) (fun q2 => ?_)
  · rw [cif_T ⟨q, q2⟩] at hK
    obtain ⟨a, ha, rfl⟩ := q
    obtain ⟨b, hb, rfl⟩ := q2
    rw [ix_nI (by omega), ix_nI (by omega)] at hK
    refine And.intro p.1.ob (hS _ _ _ _ (sM_laysOwners p fun hA fA eoA => ?_))
    have om1 : ∀ {s : WY} {d : Nat}, wyV (pcn ρ) s → (oI (s.1 d) = -1 ↔ s.1 d = none) := by
      intro s d hs
      cases e : s.1 d with
      | none => exact ⟨fun _ => rfl, fun _ => rfl⟩
      | some v => exact ⟨fun z => absurd z (nI_m1 (by have := hs.2.2 d v e; have := hs.le; omega)), fun z => by cases z⟩
    -- the walk
    have lp : ∀ k, k ≤ pcn ρ → k ≤ (wyO ρ a k).2.2 → ∀ h1, Fr [141, 150, 152] h h1 → (∀ c, c < pcc ρ → hI h1 141 c = oI (own ρ c)) → (∀ d, d < pcn ρ → hI h1 152 d = oI ((wyO ρ a k).1 d)) → (∀ i, i < (wyO ρ a k).2.2 → hI h1 150 i = nI ((wyO ρ a k).2.1 i)) → ∀ n i, n = nI (wyO ρ a k).2.2 → i = nI k → ∀ z5, Go G l (mt mM_way) 64 [some (vR 136), some (vI (nI a)), some (vI (nI b)), some (vI n), some (vI i), z5] [] h1 0 0 K := by
      refine upto _ ?_
      intro k hk ih hkl h1 f eo es eq n i hn hi z5
      subst hn; subst hi
      have p1 := p.fr f rfl
      have ok := wyO_ok ha k
      have okl := ok.le
      have lp2 : k < (wyO ρ a k).2.2 → ∀ d, d ≤ pcn ρ → ∀ h1, Fr [141, 150, 152] h h1 → (∀ c, c < pcc ρ → hI h1 141 c = oI (own ρ c)) → (∀ e, e < pcn ρ → hI h1 152 e = oI ((wyI ρ k (wyO ρ a k) d).1 e)) → (∀ i, i < (wyI ρ k (wyO ρ a k) d).2.2 → hI h1 150 i = nI ((wyI ρ k (wyO ρ a k) d).2.1 i)) → ∀ n i, n = nI (wyI ρ k (wyO ρ a k) d).2.2 → i = nI d → Go G l (mt mM_way) 73 [some (vR 136), some (vI (nI a)), some (vI (nI b)), some (vI n), some (vI (nI k)), some (vI i)] [] h1 0 0 K := by
        intro hk2
        refine upto _ ?_
        intro d hd ih2 h1 f eo es eq n i hn hi
        subst hn; subst hi
        have p1 := p.fr f rfl
        obtain ⟨ok2, okm⟩ := wyI_ok ok hk2 d hd
        have ok2l := ok2.le
        refine gM_way 99 [(64, 6), (73, 6)] fun S Cu hS hC => ?_
        refine And.intro p1.1.ob (hS _ _ _ _ (sM_dots p1 ?_))
        refine pk_le (pcn ρ) d (fun q => ?_) (fun q => ?_)
        · obtain rfl : d = pcn ρ := by omega
          have e : wyO ρ a (k + 1) = wyI ρ k (wyO ρ a k) (pcn ρ) := if_pos hk2
          exact hC _ _ _ _ (ih (by omega) (by rw [e]; omega) h1 f eo (by rw [e]; exact es) (by rw [e]; exact eq) _ _ (by rw [e]) (nI_1 k) _)
        · have qk := ok2.1 k (by omega)
          refine ld 152 p1.1.ob (p1.1.2.2 32) ?_
          refine ld _ (p1.1.inA (j := d) rfl rfl rfl rfl (by omega) rfl) (rdA rfl (by omega) (es d q)) ?_
          refine And.intro (fun z => ?_) (fun z => ?_)
          · have z : ¬ (wyI ρ k (wyO ρ a k) d).1 d = none := fun y => z ((om1 ok2).mpr y)
            have e := wyI_F (ρ := ρ) (k := k) (d := d) (s := wyO ρ a k) (fun y => z y.1)
            exact hC _ _ _ _ (ih2 q h1 f eo (by rw [e]; exact es) (by rw [e]; exact eq) _ _ (by rw [e]) (nI_1 d))
          · have z := (om1 ok2).mp z
            refine ld 150 p1.1.ob (p1.1.2.2 30) ?_
            refine ld _ (p1.1.inA (j := k) rfl rfl rfl rfl (by omega) rfl) (rdA rfl (by omega) (eq k (by omega))) ?_
            refine And.intro p1.1.ob (hS _ _ _ _ (sM_touches p1 rfl rfl (by omega) (by omega) eo ?_))
            have tl : tch ρ ((wyI ρ k (wyO ρ a k) d).2.1 k) d < 2 ^ 31 := by
              have gc := p.2.2.c
              have : tch ρ ((wyI ρ k (wyO ρ a k) d).2.1 k) d ≤ pcc ρ * 2 := sumN_le fun c _ => by
                unfold tc1
                have := wN_le (c % pcw ρ + 1 < pcw ρ ∧ pr ρ ((wyI ρ k (wyO ρ a k) d).2.1 k) d c (c + 1)) 1
                have := wN_le (c / pcw ρ + 1 < pch ρ ∧ pr ρ ((wyI ρ k (wyO ρ a k) d).2.1 k) d c (c + pcw ρ)) 1
                omega
              omega
            refine And.intro (fun z2 => ?_) (fun z2 => ?_)
            · have z2 : ¬ tch ρ ((wyI ρ k (wyO ρ a k) d).2.1 k) d = 0 := fun y => z2 (by rw [y]; rfl)
              have e := wyI_T (ρ := ρ) (k := k) (d := d) (s := wyO ρ a k) ⟨z, z2⟩
              cases eu : (wyI ρ k (wyO ρ a k) d).1 ((wyI ρ k (wyO ρ a k) d).2.1 k) with
              | none => exact absurd eu qk.2
              | some u =>
                have ul := ok2.2.2 _ _ eu
                have s2 : (wyI ρ k (wyO ρ a k) d).2.2 < pcn ρ := by
                  have := (wyA_ok ok2 (k := k) (by omega) q z).le
                  exact this
                refine ld 152 p1.1.ob (p1.1.2.2 32) ?_
                refine ld 152 p1.1.ob (p1.1.2.2 32) ?_
                refine ld 150 p1.1.ob (p1.1.2.2 30) ?_
                refine ld _ (p1.1.inA (j := k) rfl rfl rfl rfl (by omega) rfl) (rdA rfl (by omega) (eq k (by omega))) ?_
                refine ld (nI u) (p1.1.inA (j := (wyI ρ k (wyO ρ a k) d).2.1 k) rfl rfl rfl rfl (by omega) rfl) (rdA rfl (by omega) ((es _ qk.1).trans (by rw [eu]; rfl))) ?_
                refine sw d (nI (u + 1)) (p1.1.inA (j := d) rfl rfl rfl rfl (by omega) rfl) (ix_nI (by omega)) (nI_1 u) ?_
                refine ld 150 p1.1.ob (p1.1.2.2 30) ?_
                refine sw (wyI ρ k (wyO ρ a k) d).2.2 (nI d) (p1.1.inA (j := (wyI ρ k (wyO ρ a k) d).2.2) rfl rfl rfl rfl (by omega) rfl) (ix_nI (by omega)) rfl ?_
                refine hC _ _ _ _ (ih2 q _ ((f.setI rfl).setI rfl) (fun c hc => by rw [si_nk rfl, si_nk rfl]; exact eo c hc) (fun j hj => ?_) (fun j hj => ?_) _ _ (by rw [e]; exact nI_1 _) (nI_1 d))
                · rw [si_nk rfl, e]
                  show _ = oI (up1 _ d _ j)
                  by_cases jd : j = d
                  · rw [jd, up1_eq, si_eq, eu]; rfl
                  · rw [up1_ne jd, si_ne jd]; exact es j hj
                · rw [e] at hj ⊢
                  have hj : j < (wyI ρ k (wyO ρ a k) d).2.2 + 1 := hj
                  show _ = nI (up1 _ _ _ j)
                  by_cases jd : j = (wyI ρ k (wyO ρ a k) d).2.2
                  · rw [jd, up1_eq, si_eq]
                  · rw [up1_ne jd, si_ne jd, si_nk rfl]; exact eq j (by omega)
            · have z2 := (nI_eq (b := 0) tl (by decide)).mp z2
              have e := wyI_F (ρ := ρ) (k := k) (d := d) (s := wyO ρ a k) (fun y => y.2 z2)
              exact hC _ _ _ _ (ih2 q h1 f eo (by rw [e]; exact es) (by rw [e]; exact eq) _ _ (by rw [e]) (nI_1 d))
      refine gM_way 99 [(73, 6)] fun S Cu hS hC => ?_
      refine pk_le (wyO ρ a k).2.2 k (fun q => ?_) (fun q => ?_)
      · refine ld 152 p1.1.ob (p1.1.2.2 32) ?_
        refine ld _ (p1.1.inA (j := b) rfl rfl rfl rfl (by omega) rfl) (rdA rfl (by omega) (es b hb)) ?_
        have e := wyO_end q (pcn ρ - k)
        rw [show k + (pcn ρ - k) = pcn ρ by omega] at e
        have := hK h1 f
        rw [e] at this
        exact this
      · exact hC _ _ _ _ (lp2 q 0 (by omega) h1 f eo es eq _ _ rfl rfl)
    have lp0 : ∀ k, k ≤ pcn ρ → ∀ h1, Fr [141, 150, 152] h h1 → (∀ c, c < pcc ρ → hI h1 141 c = oI (own ρ c)) → (∀ d, d < k → hI h1 152 d = -1) → ∀ i, i = nI k → ∀ z4 z5, Go G l (mt mM_way) 24 [some (vR 136), some (vI (nI a)), some (vI (nI b)), some (vI i), z4, z5] [] h1 0 0 K := by
      refine upto _ ?_
      intro k hk ih h1 f eo es i hi z4 z5
      subst hi
      have p1 := p.fr f rfl
      refine gM_way 99 [(24, 6), (64, 6)] fun S Cu hS hC => ?_
      refine And.intro p1.1.ob (hS _ _ _ _ (sM_dots p1 ?_))
      refine pk_le (pcn ρ) k (fun q => ?_) (fun q => ?_)
      · obtain rfl : k = pcn ρ := by omega
        refine ld 152 p1.1.ob (p1.1.2.2 32) ?_
        refine sw a (nI 0) (p1.1.inA (j := a) rfl rfl rfl rfl (by omega) rfl) (ix_nI (by omega)) rfl ?_
        refine ld 150 p1.1.ob (p1.1.2.2 30) ?_
        refine sw 0 (nI a) (p1.1.inA (j := 0) rfl rfl rfl rfl (by decide) rfl) rfl rfl ?_
        refine hC _ _ _ _ (lp 0 (by omega) (Nat.zero_le _) _ ((f.setI rfl).setI rfl) (fun c hc => by rw [si_nk rfl, si_nk rfl]; exact eo c hc) (fun d hd => ?_) (fun i hi => ?_) _ _ rfl rfl _)
        · rw [si_nk rfl]
          show _ = oI (up1 (fun _ => none) a (some 0) d)
          by_cases jd : d = a
          · rw [jd, up1_eq, si_eq]; rfl
          · rw [up1_ne jd, si_ne jd]; exact es d hd
        · have hi : i < 1 := hi
          obtain rfl : i = 0 := by omega
          exact si_eq
      · refine ld 152 p1.1.ob (p1.1.2.2 32) ?_
        refine sw k (-1) (p1.1.inA (j := k) rfl rfl rfl rfl (by omega) rfl) (ix_nI (by omega)) rfl ?_
        refine hC _ _ _ _ (ih q _ (f.setI rfl) (fun c hc => by rw [si_nk rfl]; exact eo c hc) (fun d hd => ?_) _ (nI_1 k) _ _)
        by_cases e : d = k
        · subst e; exact si_eq
        · rw [si_ne e]; exact es d (by omega)
    exact hC _ _ _ _ (lp0 0 (by omega) hA (fA.tr (M := []) Fr.rf rfl rfl) eoA (fun d hd => by omega) _ rfl _ _)
  · exact rtC (K := K) (fun z => q2 z.2) (hK h Fr.rf)
end MM
