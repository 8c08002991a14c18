/-! ===== turn ===== -/
def trW (ρ : Pic) : Pic := fun j => if j = 0 then pch ρ else if j = 1 then pcw ρ else if 4 ≤ j ∧ j < 4 + pcc ρ then pcW ρ ((pch ρ - 1 - (j - 4) % pch ρ) * pcw ρ + (j - 4) / pch ρ) else ρ j
def trN (ρ : Pic) : Nat → Pic
  | 0 => trW ρ
  | k + 1 => setD (trN ρ k) k ((pch ρ - 1) * pcD ρ k - pcY ρ k) (pcX ρ k) (pcD ρ k)
def trn (ρ : Pic) : Pic := trN ρ (pcn ρ)
/-- where a cell comes to -/
def tix (ρ : Pic) (c : Nat) : Nat := pch ρ * (c % pcw ρ) + (pch ρ - 1 - c / pcw ρ)
theorem tix_lt {ρ : Pic} (g : Good ρ) {c : Nat} (hc : c < pcc ρ) : tix ρ c < pcc ρ ∧ tix ρ c % pch ρ = pch ρ - 1 - c / pcw ρ ∧ tix ρ c / pch ρ = c % pcw ρ := by
  have gn := g.n
  have xy := g.xy hc
  have sub : pch ρ - 1 - c / pcw ρ < pch ρ := by
    generalize c / pcw ρ = y at xy ⊢
    omega
  unfold tix
  refine ⟨?_, ?_, ?_⟩
  · have : pch ρ * (c % pcw ρ + 1) ≤ pch ρ * pcw ρ := Nat.mul_le_mul_left _ xy.1
    rw [Nat.mul_succ] at this
    unfold pcc; rw [Nat.mul_comm (pcw ρ)]
    generalize pch ρ - 1 - c / pcw ρ = z at sub ⊢
    omega
  · rw [Nat.mul_add_mod, Nat.mod_eq_of_lt sub]
  · rw [Nat.mul_add_div (by omega), Nat.div_eq_of_lt sub]; rfl
theorem tix_inj {ρ : Pic} (g : Good ρ) {c e : Nat} (hc : c < pcc ρ) (he : e < pcc ρ) (h : tix ρ c = tix ρ e) : c = e := by
  obtain ⟨-, a1, a2⟩ := tix_lt g hc
  obtain ⟨-, b1, b2⟩ := tix_lt g he
  have x1 := g.xy hc
  have x2 := g.xy he
  rw [h] at a1 a2
  have e1 : c % pcw ρ = e % pcw ρ := a2.symm.trans b2
  have e2 : c / pcw ρ = e / pcw ρ := by
    generalize c / pcw ρ = y1 at *
    generalize e / pcw ρ = y2 at *
    omega
  rw [← Nat.div_add_mod c (pcw ρ), ← Nat.div_add_mod e (pcw ρ), e1, e2]
/-- where a cell comes from -/
theorem tix_sur {ρ : Pic} (g : Good ρ) {j : Nat} (hj : j < pcc ρ) : (pch ρ - 1 - j % pch ρ) * pcw ρ + j / pch ρ < pcc ρ ∧ tix ρ ((pch ρ - 1 - j % pch ρ) * pcw ρ + j / pch ρ) = j := by
  have gn := g.n
  have m := Nat.mod_lt j (show 0 < pch ρ by omega)
  have d : j / pch ρ < pcw ρ := by
    rw [Nat.div_lt_iff_lt_mul (by omega)]
    unfold pcc at hj; exact hj
  have e1 : ((pch ρ - 1 - j % pch ρ) * pcw ρ + j / pch ρ) % pcw ρ = j / pch ρ := by rw [Nat.mul_comm, Nat.mul_add_mod, Nat.mod_eq_of_lt d]
  have e2 : ((pch ρ - 1 - j % pch ρ) * pcw ρ + j / pch ρ) / pcw ρ = pch ρ - 1 - j % pch ρ := by rw [Nat.mul_comm, Nat.mul_add_div (by omega), Nat.div_eq_of_lt d]; rfl
  refine ⟨?_, ?_⟩
  · have : (pch ρ - 1 - j % pch ρ + 1) * pcw ρ ≤ pch ρ * pcw ρ := Nat.mul_le_mul_right _ (by omega)
    rw [Nat.succ_mul] at this
    unfold pcc; rw [Nat.mul_comm (pcw ρ)]; omega
  · unfold tix
    rw [e1, e2]
    have := Nat.div_add_mod j (pch ρ)
    omega
theorem trW_h {ρ : Pic} (g : Good ρ) : pcw (trW ρ) = pch ρ ∧ pch (trW ρ) = pcw ρ ∧ pcs (trW ρ) = pcs ρ ∧ pcn (trW ρ) = pcn ρ := by
  refine ⟨rfl, rfl, ?_, ?_⟩
  · show trW ρ 2 = ρ 2
    unfold trW; rw [if_neg (by decide), if_neg (by decide), if_neg (by omega)]
  · show trW ρ 3 = ρ 3
    unfold trW; rw [if_neg (by decide), if_neg (by decide), if_neg (by omega)]
theorem trW_hi {ρ : Pic} (g : Good ρ) {j : Nat} (h : 404 ≤ j) : trW ρ j = ρ j := by
  have := g.c
  unfold trW; rw [if_neg (by omega), if_neg (by omega), if_neg (by omega)]
theorem trN_h {ρ : Pic} (g : Good ρ) : ∀ k, pcw (trN ρ k) = pch ρ ∧ pch (trN ρ k) = pcw ρ ∧ pcs (trN ρ k) = pcs ρ ∧ pcn (trN ρ k) = pcn ρ ∧ (∀ j, j < 404 → trN ρ k j = trW ρ j) ∧ (k ≤ 40 → ∀ j, 524 ≤ j → trN ρ k j = 0)
  | 0 => by
    obtain ⟨a, b, c, d⟩ := trW_h g
    exact ⟨a, b, c, d, fun _ _ => rfl, fun _ j hj => by show trW ρ j = 0; rw [trW_hi g (by omega)]; exact g.2.2.2 j hj⟩
  | k + 1 => by
    obtain ⟨a, b, c, d, e, f⟩ := trN_h g k
    obtain ⟨a2, b2, c2, d2⟩ := @setD_h (trN ρ k) k ((pch ρ - 1) * pcD ρ k - pcY ρ k) (pcX ρ k) (pcD ρ k)
    exact ⟨a2.trans a, b2.trans b, c2.trans c, d2.trans d, fun j hj => (setD_lo hj).trans (e j hj), fun hk j hj => by show setD _ _ _ _ _ j = 0; rw [setD_z (by omega) hj]; exact f (by omega) j hj⟩
theorem trN_d {ρ : Pic} (g : Good ρ) : ∀ k d, d < k → pcX (trN ρ k) d = (pch ρ - 1) * pcD ρ d - pcY ρ d ∧ pcY (trN ρ k) d = pcX ρ d ∧ pcD (trN ρ k) d = pcD ρ d
  | 0, d, h => by omega
  | k + 1, d, h => by
    show pcX (setD _ _ _ _ _) d = _ ∧ pcY (setD _ _ _ _ _) d = _ ∧ pcD (setD _ _ _ _ _) d = _
    by_cases e : d = k
    · subst e; rw [setD_X, setD_Y, setD_D]; exact ⟨rfl, rfl, rfl⟩
    · rw [setD_Xn e, setD_Yn e, setD_Dn e]; exact trN_d g k d (by omega)
theorem gcd_turn {ρ : Pic} (g : Good ρ) {d : Nat} (hd : d < pcn ρ) : gcd3 ((pch ρ - 1) * pcD ρ d - pcY ρ d) (pcX ρ d) (pcD ρ d) = 1 := by
  obtain ⟨h1, h2, h3, h4, h5⟩ := g.2.2.1 d hd
  obtain ⟨a, b, c⟩ := @gcd3_dvd ((pch ρ - 1) * pcD ρ d - pcY ρ d) (pcX ρ d) (pcD ρ d)
  have e : gcd3 ((pch ρ - 1) * pcD ρ d - pcY ρ d) (pcX ρ d) (pcD ρ d) ∣ pcY ρ d := by
    have := Nat.dvd_sub (Nat.dvd_trans c (Nat.dvd_mul_left _ (pch ρ - 1))) a
    rw [Nat.sub_sub_self h4] at this
    exact this
  have : gcd3 ((pch ρ - 1) * pcD ρ d - pcY ρ d) (pcX ρ d) (pcD ρ d) ∣ 1 := by
    have z := Nat.dvd_gcd (Nat.dvd_gcd b e) c
    rw [h5] at z
    exact z
  exact Nat.dvd_one.mp this
theorem trn_ok {ρ : Pic} (g : Good ρ) : Good (trn ρ) ∧ pcw (trn ρ) = pch ρ ∧ pch (trn ρ) = pcw ρ ∧ pcn (trn ρ) = pcn ρ := by
  have gn := g.n
  obtain ⟨a, b, c, d, e, f⟩ := trN_h g (pcn ρ)
  have gc := g.c
  refine ⟨⟨?_, fun w hw => ?_, fun k hk => ?_, fun j hj => f (by omega) j hj⟩, a, b, d⟩
  · unfold trn; rw [a, b, c, d]; omega
  · show trN ρ (pcn ρ) (4 + w) ≤ 9
    rw [e _ (by omega)]
    unfold trW
    rw [if_neg (by omega), if_neg (by omega)]
    by_cases q : 4 ≤ 4 + w ∧ 4 + w < 4 + pcc ρ
    · rw [if_pos q]
      exact pcW_le g (by rw [show 4 + w - 4 = w by omega]; exact (tix_sur g (by omega)).1)
    · rw [if_neg q]; exact g.2.1 w hw
  · unfold trn at hk ⊢
    rw [d] at hk
    obtain ⟨x, y, z⟩ := trN_d g _ k hk
    obtain ⟨h1, h2, h3, h4, h5⟩ := g.2.2.1 k hk
    rw [a, b, x, y, z]
    exact ⟨h1, h2, by omega, h3, gcd_turn g hk⟩
theorem lay_g1 {ρ : Pic} {d x y q : Nat} (h : gcd3 x y q = 1) : lay ρ d x y q = setD ρ d x y q := by unfold lay; rw [h]; simp
section MM
variable {G : GP} {l : Launch} {K : Option AV → AH → Prop} {h : AH} {ρ : Pic}
variable {tp : Nat → Nat} {tn : Nat} {ft fp : Int32} {pa : Nat → Pic} {an un : Nat} {sm sc : Nat → Int32} {sn : Nat} {bx : Nat → Pic} {bk : Nat → Prop}
theorem sM_turn (r : MR h tp tn ft fp ρ pa an un sm sc sn bx bk) (hK : ∀ h', FM h h' → MR h' tp tn ft fp (trn ρ) (pushP pa an ρ) (pushA an) 0 sm sc 0 bx bk → K (some (vI (nI (pch ρ)))) h') : Spec G l (mt mM_turn) [vR 136] h K := by
  have p := r.1
  have g := p.2.2.n
  have gc := p.2.2.c
  have g0 := p.2.2
  refine eM_turn 9 [(6, 5)] fun S Cu hS hC => ?_
  refine And.intro p.1.ob (hS _ _ _ _ (sM_otherActF r fun hA fA rA => ?_))
  -- dots
  have lp3 : ∀ k, k ≤ pcn ρ → ∀ h1, Fr [137, 143] hA h1 → hI h1 137 = nR (trN ρ k) → (∀ j, j < 524 → hI h1 143 j = nI (ρ j)) → ∀ i, i = nI k → ∀ z4, Go G l (mt mM_turn) 100 [some (vR 136), some (vI (nI (pcw ρ))), some (vI (nI (pch ρ))), some (vI i), z4] [] h1 0 0 K := by
    refine upto _ ?_
    intro k hk ih h1 f1 er ea i hi z4
    subst hi
    have m1 := rA.1.1.fr f1
    obtain ⟨e1, e2, e3, e4, -, -⟩ := trN_h g0 k
    refine gM_turn 99 [(100, 5)] fun S Cu hS hC => ?_
    refine And.intro m1.ob (hS _ _ _ _ (sM_dotsR m1 er ?_))
    rw [e4]
    refine pk_le (pcn ρ) k (fun q => ?_) (fun q => ?_)
    · obtain rfl : k = pcn ρ := by omega
      refine And.intro m1.ob (hS _ _ _ _ (sM_wideR m1 er ?_))
      rw [e1]
      have s1 : Sc1 [24] hA h1 := Sc1.of f1 rfl
      exact hK h1 ((fA.m rfl).tr (f1.m rfl)) (rA.fs f1 s1 rfl er (trn_ok g0).1)
    · obtain ⟨h1', h2', h3', h4', h5'⟩ := g0.2.2.1 k q
      have gd := g0.d q
      have hmD : (pch ρ - 1) * pcD ρ k ≤ 68400 := Nat.le_trans (Nat.mul_le_mul (show pch ρ - 1 ≤ 19 by omega) h2') (by decide)
      refine ld 143 m1.ob (m1.2.2 21) ?_
      refine ld (nI (pcD ρ k)) (m1.inA (j := 404 + 3 * k + 2) rfl rfl rfl (by first | with_reducible rfl | (try simp (disch := omega) only [pk_rem]) <;> simp (disch := omega) only [nl0, nl1, nl2, nl3, nl4, nl8, nl9, nl10, nl12, nl20, nl24, nl30, nl32, nl40, nl48, nl100, nl120, nl200, nl255, nl400, nl404, nl524, nl900, nl1000, nl9999, nl16, nl65536, nI_add, pk_mul, pk_sub, pk_div, pk_rem, Nat.add_zero, Nat.zero_add, Nat.mul_one, Nat.add_sub_cancel_left, Nat.add_sub_cancel]) (by omega) rfl) (rdA (by first | with_reducible rfl | (try simp (disch := omega) only [pk_rem]) <;> simp (disch := omega) only [nl0, nl1, nl2, nl3, nl4, nl8, nl9, nl10, nl12, nl20, nl24, nl30, nl32, nl40, nl48, nl100, nl120, nl200, nl255, nl400, nl404, nl524, nl900, nl1000, nl9999, nl16, nl65536, nI_add, pk_mul, pk_sub, pk_div, pk_rem, Nat.add_zero, Nat.zero_add, Nat.mul_one, Nat.add_sub_cancel_left, Nat.add_sub_cancel]) (by omega) (ea (404 + 3 * k + 2) (by omega))) ?_
      refine ld 143 m1.ob (m1.2.2 21) ?_
      refine ld (nI (pcY ρ k)) (m1.inA (j := 404 + 3 * k + 1) rfl rfl rfl (by first | with_reducible rfl | (try simp (disch := omega) only [pk_rem]) <;> simp (disch := omega) only [nl0, nl1, nl2, nl3, nl4, nl8, nl9, nl10, nl12, nl20, nl24, nl30, nl32, nl40, nl48, nl100, nl120, nl200, nl255, nl400, nl404, nl524, nl900, nl1000, nl9999, nl16, nl65536, nI_add, pk_mul, pk_sub, pk_div, pk_rem, Nat.add_zero, Nat.zero_add, Nat.mul_one, Nat.add_sub_cancel_left, Nat.add_sub_cancel]) (by omega) rfl) (rdA (by first | with_reducible rfl | (try simp (disch := omega) only [pk_rem]) <;> simp (disch := omega) only [nl0, nl1, nl2, nl3, nl4, nl8, nl9, nl10, nl12, nl20, nl24, nl30, nl32, nl40, nl48, nl100, nl120, nl200, nl255, nl400, nl404, nl524, nl900, nl1000, nl9999, nl16, nl65536, nI_add, pk_mul, pk_sub, pk_div, pk_rem, Nat.add_zero, Nat.zero_add, Nat.mul_one, Nat.add_sub_cancel_left, Nat.add_sub_cancel]) (by omega) (ea (404 + 3 * k + 1) (by omega))) ?_
      refine ld 143 m1.ob (m1.2.2 21) ?_
      refine ld (nI (pcX ρ k)) (m1.inA (j := 404 + 3 * k) rfl rfl rfl (by first | with_reducible rfl | (try simp (disch := omega) only [pk_rem]) <;> simp (disch := omega) only [nl0, nl1, nl2, nl3, nl4, nl8, nl9, nl10, nl12, nl20, nl24, nl30, nl32, nl40, nl48, nl100, nl120, nl200, nl255, nl400, nl404, nl524, nl900, nl1000, nl9999, nl16, nl65536, nI_add, pk_mul, pk_sub, pk_div, pk_rem, Nat.add_zero, Nat.zero_add, Nat.mul_one, Nat.add_sub_cancel_left, Nat.add_sub_cancel]) (by omega) rfl) (rdA (by first | with_reducible rfl | (try simp (disch := omega) only [pk_rem]) <;> simp (disch := omega) only [nl0, nl1, nl2, nl3, nl4, nl8, nl9, nl10, nl12, nl20, nl24, nl30, nl32, nl40, nl48, nl100, nl120, nl200, nl255, nl400, nl404, nl524, nl900, nl1000, nl9999, nl16, nl65536, nI_add, pk_mul, pk_sub, pk_div, pk_rem, Nat.add_zero, Nat.zero_add, Nat.mul_one, Nat.add_sub_cancel_left, Nat.add_sub_cancel]) (by omega) (ea (404 + 3 * k) (by omega))) ?_
      refine And.intro m1.ob (hS _ _ _ _ (sM_lays (x := (pch ρ - 1) * pcD ρ k - pcY ρ k) (y := pcX ρ k) (q := pcD ρ k) m1 er rfl ?_ rfl rfl (by omega) (by omega) (by omega) (by omega) h1' fun h2 f2 e5 => ?_))
      · rw [show nI (pch ρ) - 1 = nI (pch ρ - 1) by first | with_reducible rfl | (try simp (disch := omega) only [pk_rem]) <;> simp (disch := omega) only [nl0, nl1, nl2, nl3, nl4, nl8, nl9, nl10, nl12, nl20, nl24, nl30, nl32, nl40, nl48, nl100, nl120, nl200, nl255, nl400, nl404, nl524, nl900, nl1000, nl9999, nl16, nl65536, nI_add, pk_mul, pk_sub, pk_div, pk_rem, Nat.add_zero, Nat.zero_add, Nat.mul_one, Nat.add_sub_cancel_left, Nat.add_sub_cancel], pk_mul, pk_sub h4']
      · rw [lay_g1 (gcd_turn g0 q)] at e5
        exact hC _ _ _ _ (ih q h2 (f1.tr f2 rfl rfl) e5 (fun j hj => by rw [f2.i rfl]; exact ea j hj) _ (nI_1 k) _)
  -- weights
  have lp2 : ∀ k, k ≤ pcc ρ → ∀ h1, Fr [137, 143] hA h1 → (∀ c, c < k → hI h1 137 (4 + tix ρ c) = nI (pcW ρ c)) → (∀ j, j < 4 ∨ 4 + pcc ρ ≤ j → hI h1 137 j = nI (trW ρ j)) → (∀ j, j < 524 → hI h1 143 j = nI (ρ j)) → ∀ i, i = nI k → ∀ z4, Go G l (mt mM_turn) 57 [some (vR 136), some (vI (nI (pcw ρ))), some (vI (nI (pch ρ))), some (vI i), z4] [] h1 0 0 K := by
    refine upto _ ?_
    intro k hk ih h1 f1 ew eo ea i hi z4
    subst hi
    have m1 := rA.1.1.fr f1
    refine gM_turn 99 [(57, 5), (100, 5)] fun S Cu hS hC => ?_
    refine pk_le (pcc ρ) k (fun q => ?_) (fun q => ?_) (pk_mul _ _) rfl
    · obtain rfl : k = pcc ρ := by omega
      refine hC _ _ _ _ (lp3 0 (by omega) h1 f1 (funext fun j => ?_) ea _ rfl _)
      by_cases z : j < 4 ∨ 4 + pcc ρ ≤ j
      · exact eo j z
      · obtain ⟨s1, s2⟩ := tix_sur g0 (show j - 4 < pcc ρ by omega)
        have := ew _ s1
        rw [s2, show 4 + (j - 4) = j by omega] at this
        rw [this]
        show _ = nI (trW ρ j)
        unfold trW
        rw [if_neg (by omega), if_neg (by omega), if_pos (by omega)]
    · have xy := g0.xy q
      obtain ⟨t1, t2, t3⟩ := tix_lt g0 q
      have hw := nI_ne0 (n := pcw ρ) (by omega) (by omega)
      refine ld 137 m1.ob (m1.2.2 0) ?_
      refine And.intro hw ?_
      refine And.intro hw ?_
      refine ld 143 m1.ob (m1.2.2 21) ?_
      refine ld (nI (pcW ρ k)) (m1.inA (j := 4 + k) rfl rfl rfl (by first | with_reducible rfl | (try simp (disch := omega) only [pk_rem]) <;> simp (disch := omega) only [nl0, nl1, nl2, nl3, nl4, nl8, nl9, nl10, nl12, nl20, nl24, nl30, nl32, nl40, nl48, nl100, nl120, nl200, nl255, nl400, nl404, nl524, nl900, nl1000, nl9999, nl16, nl65536, nI_add, pk_mul, pk_sub, pk_div, pk_rem, Nat.add_zero, Nat.zero_add, Nat.mul_one, Nat.add_sub_cancel_left, Nat.add_sub_cancel]) (by omega) rfl) (rdA (by first | with_reducible rfl | (try simp (disch := omega) only [pk_rem]) <;> simp (disch := omega) only [nl0, nl1, nl2, nl3, nl4, nl8, nl9, nl10, nl12, nl20, nl24, nl30, nl32, nl40, nl48, nl100, nl120, nl200, nl255, nl400, nl404, nl524, nl900, nl1000, nl9999, nl16, nl65536, nI_add, pk_mul, pk_sub, pk_div, pk_rem, Nat.add_zero, Nat.zero_add, Nat.mul_one, Nat.add_sub_cancel_left, Nat.add_sub_cancel]) (by omega) (ea (4 + k) (by omega))) ?_
      have ei : 4 + nI (pch ρ) * (nI k - nI k / nI (pcw ρ) * nI (pcw ρ)) + nI (pch ρ) - 1 - nI k / nI (pcw ρ) = nI (4 + tix ρ k) := by
        rw [pk_rem (by omega) (by omega) (by omega), pk_div (by omega) (by omega) (by omega), pk_mul, nl4, nI_add, nI_add, nl1, pk_sub (by omega), pk_sub (by omega)]
        refine congrArg nI ?_
        unfold tix
        generalize k / pcw ρ = y at xy ⊢
        omega
      refine sw (4 + tix ρ k) _ (m1.inA (j := 4 + tix ρ k) rfl rfl rfl ei (by omega) rfl) (ix_of ei (by omega)) rfl ?_
      refine hC _ _ _ _ (ih q _ (f1.setI rfl) (fun c hc => ?_) (fun j hj => ?_) (fun j hj => by rw [si_nk rfl]; exact ea j hj) _ (nI_1 k) _)
      · by_cases e : c = k
        · subst e; exact si_eq
        · rw [si_ne (fun z => e (tix_inj g0 (by omega) q (by omega)))]; exact ew c (by omega)
      · rw [si_ne (by omega)]; exact eo j hj
  -- laid aside
  have lp1 : ∀ k, k ≤ 524 → ∀ h1, Fr [143] hA h1 → (∀ j, j < k → hI h1 143 j = nI (ρ j)) → ∀ i, i = nI k → ∀ z2 z3 z4, Go G l (mt mM_turn) 6 [some (vR 136), some (vI i), z2, z3, z4] [] h1 0 0 K := by
    refine upto _ ?_
    intro k hk ih h1 f1 ea i hi z2 z3 z4
    subst hi
    have p1 := rA.1.fr f1 rfl
    refine gM_turn 99 [(6, 5), (57, 5)] fun S Cu hS hC => ?_
    refine pk_le 524 k (fun q => ?_) (fun q => ?_)
    · obtain rfl : k = 524 := by omega
      refine And.intro p1.1.ob (hS _ _ _ _ (sM_wide p1 ?_))
      refine And.intro p1.1.ob (hS _ _ _ _ (sM_high p1 ?_))
      refine ld 137 p1.1.ob (p1.1.2.2 0) ?_
      refine sw 0 (nI (pch ρ)) (p1.1.inA (j := 0) rfl rfl rfl rfl (by decide) rfl) rfl rfl ?_
      refine ld 137 p1.1.ob (p1.1.2.2 0) ?_
      refine sw 1 (nI (pcw ρ)) (p1.1.inA (j := 1) rfl rfl rfl rfl (by decide) rfl) rfl rfl ?_
      refine hC _ _ _ _ (lp2 0 (by omega) _ (((f1.tr (M := []) Fr.rf rfl rfl : Fr [137, 143] hA h1).setI rfl).setI rfl) (fun c hc => by omega) (fun j hj => ?_) (fun j hj => by rw [si_nk rfl, si_nk rfl]; exact ea j hj) _ rfl _)
      unfold trW
      by_cases j1 : j = 1
      · subst j1; rw [si_eq, if_neg (by decide), if_pos rfl]
      · rw [si_ne j1]
        by_cases j0 : j = 0
        · subst j0; rw [si_eq, if_pos rfl]
        · rw [si_ne j0, p1.2.1, if_neg j0, if_neg j1, if_neg (by omega)]; rfl
    · refine ld 143 p1.1.ob (p1.1.2.2 21) ?_
      refine ld 137 p1.1.ob (p1.1.2.2 0) ?_
      refine ld (nI (ρ k)) (p1.1.inA (j := k) rfl rfl rfl rfl q rfl) (rdP p1.2.1 rfl (by omega)) ?_
      refine sw k _ (p1.1.inA (j := k) rfl rfl rfl rfl q rfl) (ix_nI (by omega)) rfl ?_
      refine hC _ _ _ _ (ih q _ (f1.setI rfl) (fun j hj => ?_) _ (nI_1 k) _ _ _)
      by_cases e : j = k
      · subst e; exact si_eq
      · rw [si_ne e]; exact ea j (by omega)
  exact hC _ _ _ _ (lp1 0 (by omega) hA Fr.rf (fun j hj => by omega) _ rfl _ _ _)
end MM
