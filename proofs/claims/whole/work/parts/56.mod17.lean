/-! ===== due ===== -/
noncomputable def shw (ρ : Pic) (k : Nat) : Nat := sumN (fun c => wN (pcW ρ c = k) k) (pcc ρ)
noncomputable def duQ (ρ : Pic) (k : Nat) : Nat := pcn ρ * shw ρ k / allW ρ
noncomputable def duR (ρ : Pic) (k : Nat) : Nat := pcn ρ * shw ρ k % allW ρ
/-- sums over the shades 1 .. 9 -/
def s19 (f : Nat → Nat) (n : Nat) : Nat := sumN (fun k => f (k + 1)) n
noncomputable def duL (ρ : Pic) : Nat := pcn ρ - s19 (duQ ρ) 9
def duB (ρ : Pic) (k j : Nat) : Prop := duR ρ j < duR ρ k ∨ (duR ρ k = duR ρ j ∧ j < k)
noncomputable def duA (ρ : Pic) (s : Nat) : Nat := s19 (fun k => wN (duB ρ k s) 1) 9
noncomputable def aDue (ρ : Pic) (x : Int32) : Int32 := cif (inN x 10 ∧ ¬ x = 0) (cif (allW ρ = 0) 0 (nI (duQ ρ (ix x) + wN (duA ρ (ix x) < duL ρ) 1))) (-1)
theorem sumN_exch (f : Nat → Nat → Nat) (m : Nat) : ∀ n : Nat, sumN (fun k => sumN (f k) m) n = sumN (fun c => sumN (fun k => f k c) n) m
  | 0 => (sumN_zero fun _ _ => rfl).symm
  | n + 1 => by
    have e : sumN (fun c => sumN (fun k => f k c) (n + 1)) m = sumN (fun c => sumN (fun k => f k c) n + f n c) m := rfl
    rw [e, sumN_add, ← sumN_exch f m n]; rfl
theorem shw_all {ρ : Pic} (g : Good ρ) : s19 (shw ρ) 9 = allW ρ := by
  unfold s19 shw allW
  rw [sumN_exch]
  refine sumN_congr fun c hc => ?_
  have wl := pcW_le g hc
  by_cases z : pcW ρ c = 0
  · rw [z, sumN_zero]; intro k _; exact wN_F (by omega)
  · have := sumN_single (g := fun k => k + 1) (a := pcW ρ c - 1) (n := 9) (by omega)
    rw [← show pcW ρ c - 1 + 1 = pcW ρ c by omega, ← this]
    refine sumN_congr fun k _ => ?_
    rw [this]
    exact wN_eq (by omega)
theorem du_split {ρ : Pic} : ∀ n : Nat, pcn ρ * s19 (shw ρ) n = s19 (duQ ρ) n * allW ρ + s19 (duR ρ) n
  | 0 => by simp [s19, sumN]
  | n + 1 => by
    have ih := du_split (ρ := ρ) n
    show pcn ρ * (s19 (shw ρ) n + shw ρ (n + 1)) = (s19 (duQ ρ) n + duQ ρ (n + 1)) * allW ρ + (s19 (duR ρ) n + duR ρ (n + 1))
    rw [Nat.mul_add, ih, Nat.add_mul]
    have : pcn ρ * shw ρ (n + 1) = duQ ρ (n + 1) * allW ρ + duR ρ (n + 1) := by
      unfold duQ duR; rw [Nat.mul_comm (_ / _)]; exact (Nat.div_add_mod _ _).symm
    omega
theorem duL_lt {ρ : Pic} (g : Good ρ) (ha : 0 < allW ρ) : duL ρ < 9 ∧ s19 (duQ ρ) 9 ≤ pcn ρ := by
  have h := du_split (ρ := ρ) 9
  rw [shw_all g] at h
  have hr : s19 (duR ρ) 9 ≤ 9 * (allW ρ - 1) := sumN_le fun k _ => by have : duR ρ (k + 1) < allW ρ := Nat.mod_lt _ ha; omega
  have h1 : s19 (duQ ρ) 9 ≤ pcn ρ := Nat.le_of_mul_le_mul_right (by omega : s19 (duQ ρ) 9 * allW ρ ≤ pcn ρ * allW ρ) ha
  refine ⟨?_, h1⟩
  unfold duL
  refine Nat.lt_of_not_le fun z => ?_
  have h2 : 9 * allW ρ ≤ (pcn ρ - s19 (duQ ρ) 9) * allW ρ := Nat.mul_le_mul_right _ z
  rw [Nat.sub_mul] at h2
  omega
/-- those that have got one so far: all of them come ahead of all others -/
def duP (ρ : Pic) (P : Nat → Prop) (i : Nat) : Prop := s19 (fun k => wN (P k) 1) 9 = i ∧ ∀ k j, 1 ≤ k → k < 10 → 1 ≤ j → j < 10 → P k → ¬ P j → duB ρ k j
theorem duP_iff {ρ : Pic} {P : Nat → Prop} {i s : Nat} (h : duP ρ P i) (h1 : 1 ≤ s) (h2 : s < 10) : P s ↔ duA ρ s < i := by
  obtain ⟨hc, hu⟩ := h
  have hc : sumN (fun k => wN (P (k + 1)) 1) 9 = i := hc
  show P s ↔ sumN (fun k => wN (duB ρ (k + 1) s) 1) 9 < i
  constructor
  · intro hs
    rw [← hc]
    have key : ∀ n, n ≤ 9 → sumN (fun k => wN (duB ρ (k + 1) s) 1) n + (if s ≤ n then 1 else 0) ≤ sumN (fun k => wN (P (k + 1)) 1) n := by
      intro n
      induction n with
      | zero => intro _; rw [if_neg (by omega)]; exact Nat.le_refl _
      | succ n ih =>
        intro hn
        have ih := ih (by omega)
        simp only [sumN]
        by_cases e : s = n + 1
        · rw [if_neg (by omega)] at ih
          rw [if_pos (by omega), ← e, wN_T hs, wN_F (fun z => z.elim (Nat.lt_irrefl _) (fun y => Nat.lt_irrefl _ y.2))]
          omega
        · have hb : wN (duB ρ (n + 1) s) 1 ≤ wN (P (n + 1)) 1 := by
            by_cases q : duB ρ (n + 1) s
            · have : P (n + 1) := Classical.byContradiction fun z => by
                have := hu s (n + 1) h1 h2 (by omega) (by omega) hs z
                unfold duB at q this; omega
              rw [wN_T q, wN_T this]; exact Nat.le_refl _
            · rw [wN_F q]; exact Nat.zero_le _
          by_cases l : s ≤ n
          · rw [if_pos l] at ih; rw [if_pos (by omega)]; omega
          · rw [if_neg l] at ih; rw [if_neg (by omega)]; omega
    have := key 9 (Nat.le_refl _)
    rw [if_pos (by omega)] at this
    omega
  · intro hlt
    refine Classical.byContradiction fun hs => ?_
    have : sumN (fun k => wN (P (k + 1)) 1) 9 ≤ sumN (fun k => wN (duB ρ (k + 1) s) 1) 9 := sumN_mono fun k hk => by
      by_cases q : P (k + 1)
      · rw [wN_T q, wN_T (hu (k + 1) s (by omega) (by omega) h1 h2 q hs)]; exact Nat.le_refl _
      · rw [wN_F q]; exact Nat.zero_le _
    omega
/-- what stands of the rests -/
noncomputable def duE (ρ : Pic) (P : Nat → Prop) (k : Nat) : Int32 := cif (P k) (-1) (nI (duR ρ k))
theorem duE_lt {ρ : Pic} {P : Nat → Prop} (hr : ∀ k, duR ρ k < 2 ^ 31) {k j : Nat} : duE ρ P k < duE ρ P j ↔ (¬ P j ∧ (P k ∨ duR ρ k < duR ρ j)) := by
  unfold duE
  by_cases a : P k
  · rw [cif_T a]
    by_cases b : P j
    · rw [cif_T b]; exact ⟨fun z => absurd z (by decide), fun z => absurd b z.1⟩
    · rw [cif_F b]; exact ⟨fun _ => ⟨b, Or.inl a⟩, fun _ => Int32.lt_of_lt_of_le (by decide) (nI_pos' (hr j))⟩
  · rw [cif_F a]
    by_cases b : P j
    · rw [cif_T b]; exact ⟨fun z => absurd (Int32.lt_trans z (by decide)) (Int32.not_lt.mpr (nI_pos' (hr k))), fun z => absurd b z.1⟩
    · rw [cif_F b, nI_ltI (hr k) (hr j)]; exact ⟨fun z => ⟨b, Or.inr z⟩, fun z => z.2.elim (fun y => absurd y a) id⟩
section MM
variable {G : GP} {l : Launch} {K : Option AV → AH → Prop} {h : AH} {ρ : Pic}
theorem sM_due {x : Int32} (p : MP h ρ) (hK : ∀ h', Fr [154, 155, 156] h h' → K (some (vI (aDue ρ x))) h') : Spec G l (mt mM_due) [vR 136, vI x] h K := by
  have g := p.2.2.n
  have gc := p.2.2.c
  have e9 : (Int64.ofNat 1 ≤ x.toInt64 ∧ x.toInt64 ≤ Int64.ofNat 9) ↔ (inN x 10 ∧ ¬ x = 0) := (isIn_lh (x := x) (lo := 1) (hi := 9) (by decide) (by decide)).trans ⟨fun ⟨j, a, b, c⟩ => ⟨⟨j, by omega, c⟩, by rw [c]; exact nI_ne0 (by omega) (by omega)⟩, fun ⟨⟨j, a, c⟩, b⟩ => ⟨j, Nat.pos_of_ne_zero (fun z => b (by rw [c, z]; rfl)), by omega, c⟩⟩
  have al := allW_le p.2.2
  unfold aDue at hK
  refine eM_due 99 [(33, 7)] fun S Cu hS hC => ?_
  refine hS _ _ _ _ (sM_isIn ?_)
  refine brN (fun q => ?_) (fun q => ?_)
  · have q := e9.mp q
    rw [cif_T q] at hK
    obtain ⟨⟨s, hs, rfl⟩, q0⟩ := q
    have hs1 : 1 ≤ s := Nat.pos_of_ne_zero (fun z => q0 (by rw [z]; rfl))
    rw [ix_nI (by omega)] at hK
    refine And.intro p.1.ob (hS _ _ _ _ (sM_allWeights p ?_))
    refine And.intro (fun z => ?_) (fun z => ?_)
    · have ha : ¬ allW ρ = 0 := fun y => z (by rw [y]; rfl)
      rw [cif_F ha] at hK
      have dl := duL_lt p.2.2 (Nat.pos_of_ne_zero ha)
      have hr : ∀ k, duR ρ k < 2 ^ 31 := fun k => Nat.lt_of_lt_of_le (Nat.mod_lt _ (Nat.pos_of_ne_zero ha)) (by omega)
      have swl : ∀ k, k < 10 → shw ρ k ≤ 3600 := fun k hk => by
        have : shw ρ k ≤ pcc ρ * 9 := sumN_le fun c _ => Nat.le_trans (wN_le _ _) (by omega)
        omega
      have pl : ∀ k, k < 10 → pcn ρ * shw ρ k ≤ 144000 := fun k hk => Nat.le_trans (Nat.mul_le_mul g.2.2.2.2.2 (swl k hk)) (by decide)
      refine And.intro p.1.ob (hS _ _ _ _ (sM_dots p ?_))
      -- one each to those of which most was cut
      have lp4 : ∀ i, i ≤ duL ρ → ∀ (P : Nat → Prop) h1, duP ρ P i → Fr [154, 155, 156] h h1 → (∀ k, 1 ≤ k → k < 10 → hI h1 155 k = nI (duQ ρ k + wN (P k) 1)) → (∀ k, 1 ≤ k → k < 10 → hI h1 156 k = duE ρ P k) → ∀ u v, u = nI (duL ρ) → v = nI i → ∀ z5 z6, Go G l (mt mM_due) 163 [some (vR 136), some (vI (nI s)), some (vI (nI (allW ρ))), some (vI u), some (vI v), z5, z6] [] h1 0 0 K := by
        refine upto _ ?_
        intro i hi ih P h1 hP f e155 e156 u v hu hv z5 z6
        subst hu; subst hv
        have p1 := p.fr f rfl
        refine gM_due 99 [(177, 7)] fun S Cu hS hC => ?_
        refine pk_le (duL ρ) i (fun q => ?_) (fun q => ?_)
        · obtain rfl : i = duL ρ := by omega
          refine ld 155 p1.1.ob (p1.1.2.2 35) ?_
          refine ld _ (p1.1.inA (j := s) rfl rfl rfl rfl (by omega) rfl) (rdA rfl (by omega) (e155 s hs1 hs)) ?_
          have := hK h1 f
          rw [← wN_eq (duP_iff hP hs1 hs)] at this
          exact this
        · -- the scan for the most
          have lp5 : ∀ k, k ≤ 8 → ∀ mo, 1 ≤ mo → mo < 10 → 8 - k < mo → (∀ j, 8 - k < j → j < 10 → ¬ duE ρ P mo < duE ρ P j ∧ (mo < j → duE ρ P j < duE ρ P mo)) → ∀ a b, a = nI mo → b = nI (8 - k) → Go G l (mt mM_due) 177 [some (vR 136), some (vI (nI s)), some (vI (nI (allW ρ))), some (vI (nI (duL ρ))), some (vI (nI i)), some (vI a), some (vI b)] [] h1 0 0 K := by
            refine upto _ ?_
            intro k hk ih2 mo m1 m2 m3 hm a b ha hb
            subst ha; subst hb
            refine gM_due 99 [(163, 7), (177, 7)] fun S Cu hS hC => ?_
            refine pk_le (8 - k) 0 (fun q2 => ?_) (fun q2 => ?_)
            · obtain rfl : k = 8 := by omega
              -- mo is not yet served, and the best of those
              have hnp : ¬ P mo := fun hpm => by
                have hall : ∀ j, 1 ≤ j → j < 10 → P j := fun j j1 j2 => Classical.byContradiction fun z => (hm j (by omega) j2).1 ((duE_lt hr).mpr ⟨z, Or.inl hpm⟩)
                have : s19 (fun k => wN (P k) 1) 9 = 9 := by
                  have e : sumN (fun k => wN (P (k + 1)) 1) 9 = sumN (fun _ => 1) 9 := sumN_congr fun k hk => wN_T (hall (k + 1) (by omega) (by omega))
                  exact e
                have := hP.1
                omega
              have hbest : ∀ j, 1 ≤ j → j < 10 → ¬ P j → j ≠ mo → duB ρ mo j := by
                intro j j1 j2 hj hne
                have hh := hm j (by omega) j2
                have h3 : ¬ duR ρ mo < duR ρ j := fun z => hh.1 ((duE_lt hr).mpr ⟨hj, Or.inr z⟩)
                unfold duB
                by_cases z : duR ρ j < duR ρ mo
                · exact Or.inl z
                · refine Or.inr ⟨by omega, ?_⟩
                  refine Nat.lt_of_le_of_ne (Nat.le_of_not_lt fun y => ?_) hne
                  have := (duE_lt hr).mp (hh.2 y)
                  exact this.2.elim hj z
              have hP2 : duP ρ (fun k => P k ∨ k = mo) (i + 1) := by
                refine ⟨?_, fun k j k1 k2 j1 j2 hk hj => ?_⟩
                · rw [← hP.1]
                  have e : ∀ n, n ≤ 9 → sumN (fun k => wN (P (k + 1) ∨ k + 1 = mo) 1) n = sumN (fun k => wN (P (k + 1)) 1) n + (if mo ≤ n then 1 else 0) := by
                    intro n
                    induction n with
                    | zero => intro _; rw [if_neg (by omega)]; rfl
                    | succ n ih =>
                      intro hn
                      have ih := ih (by omega)
                      simp only [sumN]
                      rw [ih]
                      by_cases e : n + 1 = mo
                      · rw [wN_T (Or.inr e), wN_F (by rw [e]; exact hnp), if_neg (by omega), if_pos (by omega)]
                      · rw [wN_eq (show (P (n + 1) ∨ n + 1 = mo) ↔ P (n + 1) from ⟨fun z => z.elim id (fun y => absurd y e), Or.inl⟩)]
                        by_cases l : mo ≤ n
                        · rw [if_pos l, if_pos (by omega)]; omega
                        · rw [if_neg l, if_neg (by omega)]; omega
                  have := e 9 (Nat.le_refl _)
                  rw [if_pos (by omega)] at this
                  exact this
                · have hj1 : ¬ P j := fun z => hj (Or.inl z)
                  have hj2 : j ≠ mo := fun z => hj (Or.inr z)
                  rcases hk with z | z
                  · exact hP.2 k j k1 k2 j1 j2 z hj1
                  · rw [z]; exact hbest j j1 j2 hj1 hj2
              refine ld 155 p1.1.ob (p1.1.2.2 35) ?_
              refine ld _ (p1.1.inA (j := mo) rfl rfl rfl rfl (by omega) rfl) (rdA rfl (by omega) (e155 mo m1 m2)) ?_
              refine sw mo (nI (duQ ρ mo + wN (P mo) 1 + 1)) (p1.1.inA (j := mo) rfl rfl rfl rfl (by omega) rfl) (ix_nI (by omega)) (nI_1 _) ?_
              refine ld 156 p1.1.ob (p1.1.2.2 36) ?_
              refine sw mo (-1) (p1.1.inA (j := mo) rfl rfl rfl rfl (by omega) rfl) (ix_nI (by omega)) rfl ?_
              refine hC _ _ _ _ (ih q (fun k => P k ∨ k = mo) _ hP2 ((f.setI rfl).setI rfl) (fun k k1 k2 => ?_) (fun k k1 k2 => ?_) _ _ rfl (nI_1 i) _ _)
              · rw [si_nk rfl]
                by_cases e : k = mo
                · subst e; rw [si_eq, wN_T (Or.inr rfl), wN_F hnp]
                · rw [si_ne e, e155 k k1 k2, wN_eq (show P k ↔ (P k ∨ k = mo) from ⟨Or.inl, fun z => z.elim id (fun y => absurd y e)⟩)]
              · by_cases e : k = mo
                · subst e; rw [si_eq]; unfold duE; rw [cif_T (Or.inr rfl)]
                · rw [si_ne e, si_nk rfl, e156 k k1 k2]
                  unfold duE
                  by_cases y : P k
                  · rw [cif_T y, cif_T (Or.inl y)]
                  · rw [cif_F y, cif_F (fun v => v.elim y e)]
            · have es : nI (8 - k) + (-1) = nI (8 - (k + 1)) := by rw [show 8 - k = (8 - (k + 1)) + 1 by omega]; exact pk_m1 _
              refine ld 156 p1.1.ob (p1.1.2.2 36) ?_
              refine ld _ (p1.1.inA (j := 8 - k) rfl rfl rfl rfl (by omega) rfl) (rdA rfl (by omega) (e156 (8 - k) (by omega) (by omega))) ?_
              refine ld 156 p1.1.ob (p1.1.2.2 36) ?_
              refine ld _ (p1.1.inA (j := mo) rfl rfl rfl rfl (by omega) rfl) (rdA rfl (by omega) (e156 mo m1 m2)) ?_
              refine And.intro (fun z => ?_) (fun z => ?_)
              · refine hC _ _ _ _ (ih2 (by omega) mo m1 m2 (by omega) (fun j j1 j2 => ?_) _ _ rfl es)
                by_cases e : j = 8 - k
                · subst e; exact ⟨Int32.not_lt.mpr z, fun y => by omega⟩
                · exact hm j (by omega) j2
              · have z := Int32.not_le.mp z
                refine hC _ _ _ _ (ih2 (by omega) (8 - k) (by omega) (by omega) (by omega) (fun j j1 j2 => ?_) _ _ rfl es)
                by_cases e : j = 8 - k
                · subst e; exact ⟨Int32.lt_irrefl, fun y => by omega⟩
                · have hh := hm j (by omega) j2
                  have h3 : duE ρ P j < duE ρ P (8 - k) := Int32.lt_of_le_of_lt (Int32.not_lt.mp hh.1) z
                  exact ⟨fun y => absurd (Int32.lt_trans y h3) Int32.lt_irrefl, fun _ => h3⟩
          refine hC _ _ _ _ (lp5 0 (by omega) 9 (by omega) (by omega) (by omega) (fun j j1 j2 => ?_) _ _ rfl rfl)
          obtain rfl : j = 9 := by omega
          exact ⟨Int32.lt_irrefl, fun y => by omega⟩
      -- quotients and rests
      have lp3 : ∀ k, k ≤ 9 → ∀ h1, Fr [154, 155, 156] h h1 → (∀ j, 1 ≤ j → j < 10 → hI h1 154 j = nI (shw ρ j)) → (∀ j, 1 ≤ j → j < k + 1 → hI h1 155 j = nI (duQ ρ j)) → (∀ j, 1 ≤ j → j < k + 1 → hI h1 156 j = nI (duR ρ j)) → ∀ u v, u = nI (pcn ρ - s19 (duQ ρ) k) → v = nI (k + 1) → ∀ z5 z6, Go G l (mt mM_due) 95 [some (vR 136), some (vI (nI s)), some (vI (nI (allW ρ))), some (vI u), some (vI v), z5, z6] [] h1 0 0 K := by
        refine upto _ ?_
        intro k hk ih h1 f e154 e155 e156 u v hu hv z5 z6
        subst hu; subst hv
        have p1 := p.fr f rfl
        refine gM_due 99 [(95, 7), (163, 7)] fun S Cu hS hC => ?_
        refine pk_le 10 (k + 1) (fun q => ?_) (fun q => ?_)
        · obtain rfl : k = 9 := by omega
          refine hC _ _ _ _ (lp4 0 (by omega) (fun _ => False) h1 ⟨sumN_zero fun i _ => wN_F (fun z => z), fun _ _ _ _ _ _ z => z.elim⟩ f (fun k k1 k2 => by rw [wN_F (fun z => z)]; exact e155 k k1 (by omega)) (fun k k1 k2 => ?_) _ _ rfl rfl _ _)
          unfold duE; rw [cif_F (fun z => z)]; exact e156 k k1 (by omega)
        · have sw1 := swl (k + 1) (by omega)
          have pl1 := pl (k + 1) (by omega)
          have hne := nI_ne0 (n := allW ρ) (Nat.pos_of_ne_zero ha) (by omega)
          have eq : nI (pcn ρ) * nI (shw ρ (k + 1)) / nI (allW ρ) = nI (duQ ρ (k + 1)) := by rw [pk_mul, pk_div (by omega) (Nat.pos_of_ne_zero ha) (by omega)]; rfl
          have er : nI (pcn ρ) * nI (shw ρ (k + 1)) - nI (pcn ρ) * nI (shw ρ (k + 1)) / nI (allW ρ) * nI (allW ρ) = nI (duR ρ (k + 1)) := by rw [pk_mul, pk_rem (by omega) (Nat.pos_of_ne_zero ha) (by omega)]; rfl
          refine ld 155 p1.1.ob (p1.1.2.2 35) ?_
          refine And.intro p1.1.ob (hS _ _ _ _ (sM_dots p1 ?_))
          refine ld 154 p1.1.ob (p1.1.2.2 34) ?_
          refine ld _ (p1.1.inA (j := k + 1) rfl rfl rfl rfl (by omega) rfl) (rdA rfl (by omega) (e154 (k + 1) (by omega) (by omega))) ?_
          refine And.intro hne ?_
          refine sw (k + 1) _ (p1.1.inA (j := k + 1) rfl rfl rfl rfl (by omega) rfl) (ix_nI (by omega)) eq ?_
          have p2 := p1.fr (Fr.rf.setI rfl : Fr [155] h1 (setI h1 155 (k + 1) (nI (duQ ρ (k + 1))))) rfl
          refine ld 156 p1.1.ob (p1.1.2.2 36) ?_
          refine And.intro p2.1.ob (hS _ _ _ _ (sM_dots p2 ?_))
          refine ld 154 p1.1.ob (p1.1.2.2 34) ?_
          refine ld (nI (shw ρ (k + 1))) (p1.1.inA (j := k + 1) rfl rfl rfl rfl (by omega) rfl) (rdA rfl (by omega) (by rw [si_nk rfl]; exact e154 (k + 1) (by omega) (by omega))) ?_
          refine And.intro hne ?_
          refine sw (k + 1) _ (p1.1.inA (j := k + 1) rfl rfl rfl rfl (by omega) rfl) (ix_nI (by omega)) er ?_
          refine ld 155 p1.1.ob (p1.1.2.2 35) ?_
          refine ld (nI (duQ ρ (k + 1))) (p1.1.inA (j := k + 1) rfl rfl rfl rfl (by omega) rfl) (rdA rfl (by omega) (by rw [si_nk rfl, si_eq])) ?_
          have qm : s19 (duQ ρ) (k + 1) ≤ pcn ρ := Nat.le_trans (sumN_mn (by omega)) dl.2
          refine hC _ _ _ _ (ih (by omega) _ ((f.setI rfl).setI rfl) (fun j j1 j2 => by rw [si_nk rfl, si_nk rfl]; exact e154 j j1 j2) (fun j j1 j2 => ?_) (fun j j1 j2 => ?_) _ _ ?_ (nI_1 _) _ _)
          · rw [si_nk rfl]
            by_cases e : j = k + 1
            · subst e; exact si_eq
            · rw [si_ne e]; exact e155 j j1 (by omega)
          · by_cases e : j = k + 1
            · subst e; exact si_eq
            · rw [si_ne e, si_nk rfl]; exact e156 j j1 (by omega)
          · have e2 : s19 (duQ ρ) (k + 1) = s19 (duQ ρ) k + duQ ρ (k + 1) := rfl
            rw [pk_sub (by omega)]; exact congrArg nI (by omega)
      -- the shades' weights
      have lp2 : ∀ k, k ≤ pcc ρ → ∀ h1, Fr [154, 155, 156] h h1 → (∀ j, 1 ≤ j → j < 10 → hI h1 154 j = nI (sumN (fun c => wN (pcW ρ c = j) j) k)) → ∀ u v, u = nI (pcn ρ) → v = nI k → ∀ z5 z6, Go G l (mt mM_due) 57 [some (vR 136), some (vI (nI s)), some (vI (nI (allW ρ))), some (vI u), some (vI v), z5, z6] [] h1 0 0 K := by
        refine upto _ ?_
        intro k hk ih h1 f e154 u v hu hv z5 z6
        subst hu; subst hv
        have p1 := p.fr f rfl
        refine gM_due 99 [(57, 7), (95, 7)] fun S Cu hS hC => ?_
        refine And.intro p1.1.ob (hS _ _ _ _ (sM_cells p1 ?_))
        refine pk_le (pcc ρ) k (fun q => ?_) (fun q => ?_)
        · obtain rfl : k = pcc ρ := by omega
          exact hC _ _ _ _ (lp3 0 (by omega) h1 f e154 (fun j j1 j2 => by omega) (fun j j1 j2 => by omega) _ _ rfl rfl _ _)
        · have wl := pcW_le p.2.2 q
          refine ld 154 p1.1.ob (p1.1.2.2 34) ?_
          refine And.intro p1.1.ob (hS _ _ _ _ (sM_weight p1 rfl (by omega) ?_))
          refine ld (hI h1 154 (pcW ρ k)) (p1.1.inA (j := pcW ρ k) rfl rfl rfl rfl (by omega) rfl) (rdA rfl (by omega) rfl) ?_
          refine And.intro p1.1.ob (hS _ _ _ _ (sM_weight p1 rfl (by omega) ?_))
          refine sw (pcW ρ k) _ (p1.1.inA (j := pcW ρ k) rfl rfl rfl rfl (by omega) rfl) (ix_nI (by omega)) rfl ?_
          refine hC _ _ _ _ (ih q _ (f.setI rfl) (fun j j1 j2 => ?_) _ _ rfl (nI_1 k) _ _)
          by_cases e : j = pcW ρ k
          · have e3 := e154 j j1 j2
            rw [e] at e3 ⊢
            rw [si_eq, e3, nI_add]; simp only [sumN]; rw [wN_T trivial]
          · rw [si_ne e, e154 j j1 j2]; simp only [sumN]; rw [wN_F (fun z => e z.symm)]; rfl
      have lp1 : ∀ k, k ≤ 9 → ∀ h1, Fr [154, 155, 156] h h1 → (∀ j, 1 ≤ j → j < k + 1 → hI h1 154 j = nI 0) → ∀ v, v = nI (k + 1) → ∀ z5 z6, Go G l (mt mM_due) 33 [some (vR 136), some (vI (nI s)), some (vI (nI (allW ρ))), some (vI (nI (pcn ρ))), some (vI v), z5, z6] [] h1 0 0 K := by
        refine upto _ ?_
        intro k hk ih h1 f e154 v hv z5 z6
        subst hv
        have p1 := p.fr f rfl
        refine gM_due 99 [(33, 7), (57, 7)] fun S Cu hS hC => ?_
        refine pk_le 10 (k + 1) (fun q => ?_) (fun q => ?_)
        · obtain rfl : k = 9 := by omega
          exact hC _ _ _ _ (lp2 0 (by omega) h1 f (fun j j1 j2 => e154 j j1 (by omega)) _ _ rfl rfl _ _)
        · refine ld 154 p1.1.ob (p1.1.2.2 34) ?_
          refine sw (k + 1) (nI 0) (p1.1.inA (j := k + 1) rfl rfl rfl rfl (by omega) rfl) (ix_nI (by omega)) rfl ?_
          refine hC _ _ _ _ (ih (by omega) _ (f.setI rfl) (fun j j1 j2 => ?_) _ (nI_1 _) _ _)
          by_cases e : j = k + 1
          · subst e; exact si_eq
          · rw [si_ne e]; exact e154 j j1 (by omega)
      exact hC _ _ _ _ (lp1 0 (by omega) h Fr.rf (fun j j1 j2 => by omega) _ rfl _ _)
    · have ha : allW ρ = 0 := (nI_eq (b := 0) (by omega) (by decide)).mp z
      have := hK h Fr.rf
      rw [cif_T ha] at this
      exact this
  · exact rtC (K := K) (fun z => q (e9.mpr z)) (hK h Fr.rf)
end MM
