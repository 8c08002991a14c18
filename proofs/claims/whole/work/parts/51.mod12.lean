/-! ===== the model: uneven, closest, boxes, about ===== -/
theorem MR.scr {h h' : AH} {tp : Nat → Nat} {tn : Nat} {ft fp : Int32} {ρ : Pic} {pa : Nat → Pic} {an un : Nat} {sm sc : Nat → Int32} {sn : Nat} {bx : Nat → Pic} {bk : Nat → Prop} {L : List Nat} (r : MR h tp tn ft fp ρ pa an un sm sc sn bx bk) (f : Fr L h h') (hL : (L.contains 136 || L.contains 137 || L.contains 138 || L.contains 140 || L.contains 146 || L.contains 147 || L.contains 157 || L.contains 159) = false) : MR h' tp tn ft fp ρ pa an un sm sc sn bx bk := by
  simp only [Bool.or_eq_false_iff] at hL
  obtain ⟨⟨⟨⟨⟨⟨⟨h1, h2⟩, h3⟩, h4⟩, h5⟩, h6⟩, h7⟩, h8⟩ := hL
  obtain ⟨p, t, a, k, b⟩ := r
  have s : Sc1 [] h h' := Sc1.of f h1
  exact ⟨p.fr f h2, t.fr f s h3 rfl, a.fr f s h4 rfl, k.fr f s (by rw [h5, h6]; rfl) rfl, b.fr f (by rw [h7, h8]; rfl)⟩
theorem dIn_le {ρ : Pic} (g : Good ρ) (i j r q : Nat) : dIn ρ i j r q ≤ 40 := by
  have : dIn ρ i j r q ≤ pcn ρ * 1 := sumN_le fun d _ => wN_le _ _
  have := g.n; omega
theorem grey_le {ρ : Pic} (g : Good ρ) (i j r q : Nat) : grey ρ i j r q ≤ 3600 := by
  have : grey ρ i j r q ≤ pcc ρ * 9 := sumN_le fun c hc => Nat.le_trans (wN_le _ _) (pcW_le g hc)
  have := g.c; omega
theorem unPQ_le {ρ : Pic} (g : Good ρ) (n x y : Nat) : unP ρ n x y ≤ 144000 ∧ unQ ρ n x y ≤ 144000 := ⟨Nat.le_trans (Nat.mul_le_mul (dIn_le g _ _ _ _) (allW_le g)) (by decide), Nat.le_trans (Nat.mul_le_mul (grey_le g _ _ _ _) g.n.2.2.2.2.2) (by decide)⟩
theorem unX_T {ρ : Pic} {n y k : Nat} {s : Nat × Nat × Nat} (z : ad (unX ρ n y s k).2.1 (unX ρ n y s k).2.2 < ad (unP ρ n k y) (unQ ρ n k y)) : unX ρ n y s (k + 1) = (pcw ρ * y + k, unP ρ n k y, unQ ρ n k y) := if_pos z
theorem unX_F {ρ : Pic} {n y k : Nat} {s : Nat × Nat × Nat} (z : ¬ ad (unX ρ n y s k).2.1 (unX ρ n y s k).2.2 < ad (unP ρ n k y) (unQ ρ n k y)) : unX ρ n y s (k + 1) = unX ρ n y s k := if_neg z
def un3 (s : Nat × Nat × Nat) : Prop := s.1 < 2 ^ 31 ∧ s.2.1 ≤ 144000 ∧ s.2.2 ≤ 144000
theorem unX_le {ρ : Pic} (g : Good ρ) {n y : Nat} (hy : y < 20) {s : Nat × Nat × Nat} (hs : un3 s) : ∀ k, k ≤ 20 → un3 (unX ρ n y s k)
  | 0, _ => hs
  | k + 1, hk => by
    simp only [unX]
    split
    · refine ⟨?_, unPQ_le g n k y⟩
      have : pcw ρ * y ≤ 20 * 20 := Nat.mul_le_mul g.n.2.1 (by omega)
      show pcw ρ * y + k < 2 ^ 31
      omega
    · exact unX_le g hy hs k (by omega)
theorem unY_le {ρ : Pic} (g : Good ρ) {n : Nat} (hn : 1 ≤ n) : ∀ k, k ≤ 20 → un3 (unY ρ n k)
  | 0, _ => ⟨by show 0 < 2 ^ 31; decide, Nat.zero_le _, Nat.zero_le _⟩
  | k + 1, hk => unX_le g (by omega) (unY_le g hn k (by omega)) _ (by have := g.n; omega)
def clL (s : Option (Nat × Nat × Nat)) : Int32 := match s with
  | none => -1
  | some q => nI q.1
def clA (s : Option (Nat × Nat × Nat)) : Int32 := match s with
  | none => 0
  | some q => nI q.2.1
def clB (s : Option (Nat × Nat × Nat)) : Int32 := match s with
  | none => 0
  | some q => nI q.2.2
theorem clI_skip {ρ : Pic} {a : Nat} {s : Option (Nat × Nat × Nat)} : ∀ k, k ≤ a + 1 → clI ρ a s k = s
  | 0, _ => rfl
  | k + 1, h => by simp only [clI]; rw [if_neg (by omega)]; exact clI_skip k (by omega)
theorem clI_new {ρ : Pic} {a k : Nat} {s : Option (Nat × Nat × Nat)} (h : a < k) (e : clI ρ a s k = none) : clI ρ a s (k + 1) = some (aptD ρ ρ a k, a, k) := by simp only [clI]; rw [if_pos h, e]
theorem clI_lt {ρ : Pic} {a k : Nat} {s : Option (Nat × Nat × Nat)} {q : Nat × Nat × Nat} (h : a < k) (e : clI ρ a s k = some q) (hq : aptD ρ ρ a k < q.1) : clI ρ a s (k + 1) = some (aptD ρ ρ a k, a, k) := by simp only [clI]; rw [if_pos h, e]; simp only; rw [if_pos hq]
theorem clI_ge {ρ : Pic} {a k : Nat} {s : Option (Nat × Nat × Nat)} {q : Nat × Nat × Nat} (h : a < k) (e : clI ρ a s k = some q) (hq : ¬ aptD ρ ρ a k < q.1) : clI ρ a s (k + 1) = some q := by simp only [clI]; rw [if_pos h, e]; simp only; rw [if_neg hq]
/-- what stands is small -/
def clOk (s : Option (Nat × Nat × Nat)) : Prop := ∀ q, s = some q → q.1 ≤ 723000
theorem aptD_le {ρ π : Pic} (g : Good ρ) (g2 : Good π) {a b : Nat} (ha : a < pcn ρ) (hb : b < pcn π) : aptD ρ π a b ≤ 723000 := by
  obtain ⟨h1, h2, h3, h4⟩ := g.d19 ha
  obtain ⟨k1, k2, k3, k4⟩ := g2.d19 hb
  exact apt_le h1 h2 k1 k2 h3 h4 k3 k4
theorem clI_ok {ρ : Pic} (g : Good ρ) {a : Nat} (ha : a < pcn ρ) {s : Option (Nat × Nat × Nat)} (hs : clOk s) : ∀ k, k ≤ pcn ρ → clOk (clI ρ a s k) ∧ ((s ≠ none ∨ a + 1 < k) → clI ρ a s k ≠ none)
  | 0, _ => ⟨hs, fun h => h.elim id (fun z => by omega)⟩
  | k + 1, hk => by
    obtain ⟨ih1, ih2⟩ := clI_ok g ha hs k (by omega)
    have al := aptD_le g g ha (show k < pcn ρ by omega)
    by_cases q : a < k
    · cases e : clI ρ a s k with
      | none => rw [clI_new q e]; exact ⟨fun p hp => by injection hp with hp; rw [← hp]; exact al, fun _ z => by cases z⟩
      | some p =>
        by_cases z : aptD ρ ρ a k < p.1
        · rw [clI_lt q e z]; exact ⟨fun p hp => by injection hp with hp; rw [← hp]; exact al, fun _ z => by cases z⟩
        · rw [clI_ge q e z]; exact ⟨fun p' hp => by injection hp with hp; rw [← hp]; exact ih1 p e, fun _ z => by cases z⟩
    · rw [clI_skip (k + 1) (by omega)]
      exact ⟨hs, fun h => h.elim id (fun z => by omega)⟩
theorem clO_ok {ρ : Pic} (g : Good ρ) : ∀ k, k ≤ pcn ρ → clOk (clO ρ k) ∧ (0 < k → 1 < pcn ρ → clO ρ k ≠ none)
  | 0, _ => ⟨fun q h => (by cases h), fun h => by omega⟩
  | k + 1, hk => by
    obtain ⟨ih1, ih2⟩ := clO_ok g k (by omega)
    obtain ⟨a, b⟩ := clI_ok g (show k < pcn ρ by omega) ih1 (pcn ρ) (Nat.le_refl _)
    refine ⟨a, fun _ hn => b ?_⟩
    by_cases k0 : k = 0
    · exact Or.inr (by omega)
    · exact Or.inl (ih2 (by omega) hn)
section MM
variable {G : GP} {l : Launch} {K : Option AV → AH → Prop} {h : AH} {ρ : Pic}
variable {tp : Nat → Nat} {tn : Nat} {ft fp : Int32} {pa : Nat → Pic} {an un : Nat} {sm sc : Nat → Int32} {sn : Nat} {bx : Nat → Pic} {bk : Nat → Prop}
theorem sM_uneven {x w : Int32} (p : MP h ρ) (hK : ∀ h', Fr [153] h h' → K (some (vI (aUneven ρ x w))) h') : Spec G l (mt mM_uneven) [vR 136, vI x, vI w] h K := by
  have g := p.2.2.n
  have gc := p.2.2.c
  have e20 : (Int64.ofNat 1 ≤ x.toInt64 ∧ x.toInt64 ≤ Int64.ofNat 20) ↔ _ := isIn_lh (x := x) (lo := 1) (hi := 20) (by decide) (by decide)
  have e1 : (Int64.ofNat 0 ≤ w.toInt64 ∧ w.toInt64 ≤ Int64.ofNat 1) ↔ inN w 2 := (isIn_lh (x := w) (lo := 0) (hi := 1) (by decide) (by decide)).trans ⟨fun ⟨j, _, a, b⟩ => ⟨j, by omega, b⟩, fun ⟨j, a, b⟩ => ⟨j, by omega, by omega, b⟩⟩
  unfold aUneven at hK
  refine eM_uneven 99 [(60, 9)] fun S Cu hS hC => ?_
  refine hS _ _ _ _ (sM_isIn ?_)
  refine brE (fun q => ?_) (fun q => ?_)
  · refine rtC (K := K) (fun z => q (e20.mpr ?_)) (hK h Fr.rf)
    obtain ⟨⟨j, hj, rfl⟩, -, h0, -⟩ := z
    exact ⟨j, Nat.pos_of_ne_zero (fun y => h0 (by rw [y]; rfl)), by omega, rfl⟩
  obtain ⟨n, hn1, hn2, rfl⟩ := e20.mp q
  refine And.intro p.1.ob (hS _ _ _ _ (sM_wide p ?_))
  refine pk_lt (pcw ρ) n (fun q2 => ?_) (fun q2 => ?_)
  · exact rtC (K := K) (fun z => by have := (inN_nI (by omega) (by omega)).mp z.1; omega) (hK h Fr.rf)
  refine And.intro p.1.ob (hS _ _ _ _ (sM_high p ?_))
  refine pk_lt (pch ρ) n (fun q3 => ?_) (fun q3 => ?_)
  · exact rtC (K := K) (fun z => by have := (inN_nI (by omega) (by omega)).mp z.2.1; omega) (hK h Fr.rf)
  refine hS _ _ _ _ (sM_isIn ?_)
  refine brN (fun q4 => ?_) (fun q4 => ?_)
  · rw [cif_T ⟨⟨n, by omega, rfl⟩, ⟨n, by omega, rfl⟩, nI_ne0 (by omega) (by omega), e1.mp q4⟩] at hK
    obtain ⟨v, hv, rfl⟩ := e1.mp q4
    rw [ix_nI (by omega)] at hK
    refine And.intro p.1.ob (hS _ _ _ _ (sM_laysSpots p fun h' f es => ?_))
    have p' := p.fr f rfl
    have hK := hK h' f
    refine And.intro p'.1.ob (hS _ _ _ _ (sM_allWeights p' ?_))
    have lpX : ∀ y, y < pch ρ + 1 - n → ∀ s : Nat × Nat × Nat, un3 s → (∀ b u i, b = nI (unX ρ n y s (pcw ρ + 1 - n)).1 → u = nI (unX ρ n y s (pcw ρ + 1 - n)).2.1 - nI (unX ρ n y s (pcw ρ + 1 - n)).2.2 → i = nI (y + 1) → ∀ z7 z8, Go G l (mt mM_uneven) 60 [some (vR 136), some (vI (nI n)), some (vI (nI v)), some (vI (nI (allW ρ))), some (vI b), some (vI u), some (vI i), z7, z8] [] h' 0 0 K) → ∀ k, k ≤ pcw ρ + 1 - n → ∀ b u i, ((b = -1 ∧ y = 0 ∧ k = 0 ∧ s = (0, 0, 0)) ∨ b = nI (unX ρ n y s k).1) → u = nI (unX ρ n y s k).2.1 - nI (unX ρ n y s k).2.2 → i = nI k → ∀ z8, Go G l (mt mM_uneven) 74 [some (vR 136), some (vI (nI n)), some (vI (nI v)), some (vI (nI (allW ρ))), some (vI b), some (vI u), some (vI (nI y)), some (vI i), z8] [] h' 0 0 K := by
      intro y hy s hs hend
      refine upto _ ?_
      intro k hk ih b u i hb hu hi z8
      subst hi
      obtain ⟨ul0, ul1, ul2⟩ := unX_le p.2.2 (n := n) (show y < 20 by omega) hs k (by omega)
      obtain ⟨pl, ql⟩ := unPQ_le p.2.2 n k y
      refine gM_uneven 99 [(74, 9), (60, 9)] fun S Cu hS hC => ?_
      refine And.intro p'.1.ob (hS _ _ _ _ (sM_wide p' ?_))
      refine pk_lt (pcw ρ) (k + n) (fun q => ?_) (fun q => ?_) rfl (nI_add _ _)
      · obtain rfl : k = pcw ρ + 1 - n := by omega
        rcases hb with ⟨-, -, z, -⟩ | hb
        · omega
        · exact hC _ _ _ _ (hend _ _ _ hb hu (nI_1 y) _ _)
      · have ex : nI k + nI n - 1 = nI (k + n - 1) := by first | with_reducible rfl | (try simp (disch := omega) only [pk_rem]) <;> simp (disch := omega) only [nl0, nl1, nl2, nl3, nl4, nl8, nl9, nl10, nl12, nl20, nl24, nl30, nl32, nl40, nl48, nl100, nl120, nl200, nl255, nl400, nl404, nl524, nl900, nl1000, nl9999, nl16, nl65536, nI_add, pk_mul, pk_sub, pk_div, pk_rem, Nat.add_zero, Nat.zero_add, Nat.mul_one, Nat.add_sub_cancel_left, Nat.add_sub_cancel]
        have ey : nI y + nI n - 1 = nI (y + n - 1) := by first | with_reducible rfl | (try simp (disch := omega) only [pk_rem]) <;> simp (disch := omega) only [nl0, nl1, nl2, nl3, nl4, nl8, nl9, nl10, nl12, nl20, nl24, nl30, nl32, nl40, nl48, nl100, nl120, nl200, nl255, nl400, nl404, nl524, nl900, nl1000, nl9999, nl16, nl65536, nI_add, pk_mul, pk_sub, pk_div, pk_rem, Nat.add_zero, Nat.zero_add, Nat.mul_one, Nat.add_sub_cancel_left, Nat.add_sub_cancel]
        refine And.intro p'.1.ob (hS _ _ _ _ (sM_dotsIn p' es rfl rfl ex ey (by omega) (by omega) (by omega) (by omega) ?_))
        refine And.intro p'.1.ob (hS _ _ _ _ (sM_weightsIn p' rfl rfl ex ey (by omega) (by omega) (by omega) (by omega) ?_))
        refine And.intro p'.1.ob (hS _ _ _ _ (sM_dots p' ?_))
        have ei : nI (dIn ρ k y (k + n - 1) (y + n - 1)) * nI (allW ρ) - nI (grey ρ k y (k + n - 1) (y + n - 1)) * nI (pcn ρ) = nI (unP ρ n k y) - nI (unQ ρ n k y) := by rw [pk_mul, pk_mul]; rfl
        have a1 := ad_le pl ql
        have a2 := ad_le ul1 ul2
        rcases hb with ⟨rfl, rfl, rfl, rfl⟩ | rfl
        · refine And.intro (fun _ => ?_) (fun z => absurd rfl z)
          refine And.intro p'.1.ob (hS _ _ _ _ (sM_numberOf p' rfl rfl ?_))
          by_cases z : ad 0 0 < ad (unP ρ n 0 0) (unQ ρ n 0 0)
          · have e : unX ρ n 0 (0, 0, 0) (0 + 1) = (pcw ρ * 0 + 0, unP ρ n 0 0, unQ ρ n 0 0) := unX_T z
            exact hC _ _ _ _ (ih (by omega) _ _ _ (Or.inr (by rw [e])) (by rw [e]; exact ei) (nI_1 0) _)
          · have e : unX ρ n 0 (0, 0, 0) (0 + 1) = (0, 0, 0) := unX_F z
            refine hC _ _ _ _ (ih (by omega) _ _ _ (Or.inr (by rw [e]; rfl)) ?_ (nI_1 0) _)
            rw [e, ei]
            have : unP ρ n 0 0 = unQ ρ n 0 0 := by unfold ad at z; omega
            rw [this, Int32.sub_self]; rfl
        · refine And.intro (fun z => absurd z (nI_m1 ul0)) (fun _ => ?_)
          refine hS _ _ _ _ (sM_sizeD ei (by omega) (by omega) ?_)
          refine hS _ _ _ _ (sM_sizeD hu (by omega) (by omega) ?_)
          refine pk_lt (ad (unX ρ n y s k).2.1 (unX ρ n y s k).2.2) (ad (unP ρ n k y) (unQ ρ n k y)) (fun z => ?_) (fun z => ?_)
          · refine And.intro p'.1.ob (hS _ _ _ _ (sM_numberOf p' rfl rfl ?_))
            have e : unX ρ n y s (k + 1) = (pcw ρ * y + k, unP ρ n k y, unQ ρ n k y) := by simp only [unX]; rw [if_pos z]
            exact hC _ _ _ _ (ih (by omega) _ _ _ (Or.inr (by rw [e])) (by rw [e]; exact ei) (nI_1 k) _)
          · have e : unX ρ n y s (k + 1) = unX ρ n y s k := by simp only [unX]; rw [if_neg (by omega)]
            exact hC _ _ _ _ (ih (by omega) _ _ _ (Or.inr (by rw [e])) (by rw [e]; exact hu) (nI_1 k) _)
    have lpY : ∀ y, y ≤ pch ρ + 1 - n → ∀ b u i, ((b = -1 ∧ y = 0) ∨ b = nI (unY ρ n y).1) → u = nI (unY ρ n y).2.1 - nI (unY ρ n y).2.2 → i = nI y → ∀ z7 z8, Go G l (mt mM_uneven) 60 [some (vR 136), some (vI (nI n)), some (vI (nI v)), some (vI (nI (allW ρ))), some (vI b), some (vI u), some (vI i), z7, z8] [] h' 0 0 K := by
      refine upto _ ?_
      intro y hy ih b u i hb hu hi z7 z8
      subst hi
      have un := unY_le p.2.2 hn1 y (by omega)
      refine gM_uneven 99 [(74, 9)] fun S Cu hS hC => ?_
      refine And.intro p'.1.ob (hS _ _ _ _ (sM_high p' ?_))
      refine pk_lt (pch ρ) (y + n) (fun q => ?_) (fun q => ?_) rfl (nI_add _ _)
      · obtain rfl : y = pch ρ + 1 - n := by omega
        rcases hb with ⟨-, z⟩ | rfl
        · omega
        · subst hu
          refine And.intro (fun n0 => ?_) (fun e0 => ?_)
          · have : v = 1 := by
              have h0 : v ≠ 0 := fun z => n0 (by rw [z]; rfl)
              omega
            subst this
            rw [sel_in (i := 1) rfl (by decide) rfl] at hK; exact hK
          · rw [sel_in (i := 0) e0 (by decide) rfl] at hK; exact hK
      · refine hC _ _ _ _ (lpX y (by omega) (unY ρ n y) un (fun b u i hb hu hi z7 z8 => ih (by omega) b u i (Or.inr hb) hu hi z7 z8) 0 (by omega) _ _ _ ?_ hu rfl _)
        rcases hb with ⟨rfl, rfl⟩ | rfl
        · exact Or.inl ⟨rfl, rfl, rfl, rfl⟩
        · exact Or.inr rfl
    exact hC _ _ _ _ (lpY 0 (by omega) (-1) 0 0 (Or.inl ⟨rfl, rfl⟩) (show (0 : Int32) = nI 0 - nI 0 by decide) rfl _ _)
  · exact rtC (K := K) (fun z => q4 (e1.mpr z.2.2.2)) (hK h Fr.rf)
theorem sM_closest {w : Int32} (p : MP h ρ) (hK : K (some (vI (aClosest ρ w))) h) : Spec G l (mt mM_closest) [vR 136, vI w] h K := by
  have g := p.2.2.n
  have e2 : (Int64.ofNat 0 ≤ w.toInt64 ∧ w.toInt64 ≤ Int64.ofNat 2) ↔ _ := isIn_lh (x := w) (lo := 0) (hi := 2) (by decide) (by decide)
  unfold aClosest at hK
  have cm : ∀ s : Option (Nat × Nat × Nat), clOk s → (clL s = -1 ↔ s = none) := by
    intro s hs
    cases s with
    | none => exact ⟨fun _ => rfl, fun _ => rfl⟩
    | some q => exact ⟨fun z => absurd z (nI_m1 (by have := hs q rfl; omega)), fun z => by cases z⟩
  refine eM_closest 99 [(32, 8)] fun S Cu hS hC => ?_
  refine And.intro p.1.ob (hS _ _ _ _ (sM_dots p ?_))
  refine pk_lt (pcn ρ) 2 (fun q => ?_) (fun q => ?_)
  · have : clO ρ (pcn ρ) = none := by
      have : pcn ρ = 0 ∨ pcn ρ = 1 := by omega
      rcases this with z | z
      · rw [z]; rfl
      · rw [z]; show clI ρ 0 (clO ρ 0) (pcn ρ) = none; rw [z, clI_skip 1 (by decide)]; rfl
    rw [this] at hK; exact hK
  refine hS _ _ _ _ (sM_isIn ?_)
  refine brN (fun q2 => ?_) (fun q2 => ?_)
  · obtain ⟨v, -, hv, rfl⟩ := e2.mp q2
    have lp : ∀ a, a ≤ pcn ρ → ∀ b c d i, b = clL (clO ρ a) → c = clA (clO ρ a) → d = clB (clO ρ a) → i = nI a → ∀ z6 z7, Go G l (mt mM_closest) 32 [some (vR 136), some (vI (nI v)), some (vI b), some (vI c), some (vI d), some (vI i), z6, z7] [] h 0 0 K := by
      refine upto _ ?_
      intro a ha ih b c d i hb hc hd hi z6 z7
      subst hi
      have ok := clO_ok p.2.2 a ha
      have lp2 : a < pcn ρ → ∀ k, k ≤ pcn ρ → a < k → ∀ b c d i, b = clL (clI ρ a (clO ρ a) k) → c = clA (clI ρ a (clO ρ a) k) → d = clB (clI ρ a (clO ρ a) k) → i = nI k → ∀ z7, Go G l (mt mM_closest) 47 [some (vR 136), some (vI (nI v)), some (vI b), some (vI c), some (vI d), some (vI (nI a)), some (vI i), z7] [] h 0 0 K := by
        intro ha2
        refine upto _ ?_
        intro k hk ih2 hak b c d i hb hc hd hi z7
        subst hi
        refine gM_closest 99 [(32, 8), (47, 8), (93, 8)] fun S Cu hS hC => ?_
        refine And.intro p.1.ob (hS _ _ _ _ (sM_dots p ?_))
        refine pk_le (pcn ρ) k (fun q3 => ?_) (fun q3 => ?_)
        · obtain rfl : k = pcn ρ := by omega
          exact hC _ _ _ _ (ih ha2 _ _ _ _ hb hc hd (nI_1 a) _ _)
        obtain ⟨a1, a2, a3, a4⟩ := p.2.2.d19 ha2
        obtain ⟨b1, b2, b3, b4⟩ := p.2.2.d19 q3
        have ga := p.2.2.d ha2
        have gb := p.2.2.d q3
        have al := aptD_le p.2.2 p.2.2 ha2 q3
        have iok := clI_ok p.2.2 ha2 ok.1 k hk
        refine And.intro p.1.ob (hS _ _ _ _ (sM_xOf p rfl (by omega) ?_))
        refine And.intro p.1.ob (hS _ _ _ _ (sM_yOf p rfl (by omega) ?_))
        refine And.intro p.1.ob (hS _ _ _ _ (sM_under p rfl ha2 ?_))
        refine And.intro p.1.ob (hS _ _ _ _ (sM_xOf p rfl (by omega) ?_))
        refine And.intro p.1.ob (hS _ _ _ _ (sM_yOf p rfl (by omega) ?_))
        refine hC _ _ _ _ (go93 p.1.ob (show 10 ≤ 12 by decide) (sM_under p rfl q3 ?_))
        refine gM_closest 99 [(32, 8), (47, 8)] fun S Cu hS hC => ?_
        refine hS _ _ _ _ (sM_apart (nI_l (by omega)) (nI_l (by omega)) rfl (nI_l (by omega)) (nI_l (by omega)) rfl a1 a2 b1 b2 a3 a4 b3 b4 ?_)
        cases e : clI ρ a (clO ρ a) k with
        | none =>
          rw [e] at hb; subst hb
          refine And.intro (fun _ => ?_) (fun z => absurd rfl z)
          have e3 := clI_new hak e
          exact hC _ _ _ _ (ih2 q3 (by omega) _ _ _ _ (by rw [e3]; rfl) (by rw [e3]; rfl) (by rw [e3]; rfl) (nI_1 k) _)
        | some r =>
          have rl := iok.1 r e
          rw [e] at hb; subst hb
          refine And.intro (fun z => absurd z (nI_m1 (by omega))) (fun _ => ?_)
          refine pk_lt (aptD ρ ρ a k) r.1 (fun z => ?_) (fun z => ?_)
          · have e3 := clI_lt hak e z
            exact hC _ _ _ _ (ih2 q3 (by omega) _ _ _ _ (by rw [e3]; rfl) (by rw [e3]; rfl) (by rw [e3]; rfl) (nI_1 k) _)
          · have e3 := clI_ge hak e (by omega)
            rw [e] at hc hd
            exact hC _ _ _ _ (ih2 q3 (by omega) _ _ _ _ (by rw [e3]) (by rw [e3]; exact hc) (by rw [e3]; exact hd) (nI_1 k) _)
      refine gM_closest 99 [(47, 8)] fun S Cu hS hC => ?_
      refine And.intro p.1.ob (hS _ _ _ _ (sM_dots p ?_))
      refine pk_le (pcn ρ) a (fun q3 => ?_) (fun q3 => ?_)
      · obtain rfl : a = pcn ρ := by omega
        cases e : clO ρ (pcn ρ) with
        | none => exact absurd e (ok.2 (by omega) (by omega))
        | some r =>
          rw [e] at hb hc hd hK
          subst hb; subst hc; subst hd
          have hK : K (some (vI (sel (nI v) [nI r.1, nI r.2.1, nI r.2.2]))) h := hK
          refine And.intro (fun n0 => ?_) (fun e0 => ?_)
          · refine And.intro (fun n1 => ?_) (fun e1 => ?_)
            · have : v = 2 := by
                have h0 : v ≠ 0 := fun z => n0 (by rw [z]; rfl)
                have h1 : v ≠ 1 := fun z => n1 (by rw [z]; rfl)
                omega
              subst this
              rw [sel_in (i := 2) rfl (by decide) rfl] at hK; exact hK
            · rw [sel_in (i := 1) e1 (by decide) rfl] at hK; exact hK
          · rw [sel_in (i := 0) e0 (by decide) rfl] at hK; exact hK
      · have e := clI_skip (ρ := ρ) (a := a) (s := clO ρ a) (a + 1) (Nat.le_refl _)
        exact hC _ _ _ _ (lp2 q3 (a + 1) (by omega) (by omega) _ _ _ _ (by rw [e]; exact hb) (by rw [e]; exact hc) (by rw [e]; exact hd) (nI_1 a) _)
    exact hC _ _ _ _ (lp 0 (by omega) _ _ _ _ rfl rfl rfl rfl _ _)
  · have ok := clO_ok p.2.2 (pcn ρ) (Nat.le_refl _)
    cases e : clO ρ (pcn ρ) with
    | none => exact absurd e (ok.2 (by omega) (by omega))
    | some r =>
      rw [e] at hK
      have hK : K (some (vI (sel w [nI r.1, nI r.2.1, nI r.2.2]))) h := hK
      rw [sel_out (fun i hi z => q2 (e2.mpr ⟨i, by omega, by simp at hi; omega, z⟩))] at hK
      exact hK
end MM
