/-! ===== the model: a round ===== -/
section MM
variable {G : GP} {l : Launch} {K : Option AV → AH → Prop} {h : AH} {ρ : Pic}
theorem sM_nearestOn {c : Nat} {a : Int32} {T : Nat → Prop} (p : MP h ρ) (ha : a = nI c) (hc : c < pcc ρ) (ho : ∀ d, d < pcn ρ → hI h 145 d = bI (¬ T d)) (hK : K (some (vI (oI (ow ρ T c (pcn ρ))))) h) : Spec G l (mt mM_nearestOn) [vR 136, vI a] h K := by
  subst ha
  have g := p.2.2.n
  have lp : ∀ k, k ≤ pcn ρ → ∀ i o, i = nI k → o = oI (ow ρ T c k) → Go G l (mt mM_nearestOn) 4 [some (vR 136), some (vI (nI c)), some (vI o), some (vI i)] [] h 0 0 K := by
    refine upto _ ?_
    intro k hk ih i o hi ho2
    subst hi
    refine gM_nearestOn 99 [(4, 4)] fun S Cu hS hC => ?_
    refine And.intro p.1.ob (hS _ _ _ _ (sM_dots p ?_))
    refine pk_le (pcn ρ) k (fun q => ?_) (fun q => ?_)
    · obtain rfl : k = pcn ρ := by omega
      subst ho2; exact hK
    · refine ld 145 p.1.ob (p.1.2.2 23) ?_
      refine ld (bI (¬ T k)) (p.1.inA (j := k) rfl rfl rfl rfl (by omega) rfl) (rdA rfl (by omega) (ho k q)) ?_
      refine brN (fun r => ?_) (fun r => ?_)
      · refine hC _ _ _ _ (ih q _ _ (nI_1 k) (ho2.trans ?_))
        rw [ow_skip r]
      · have r : T k := Classical.byContradiction r
        cases e : ow ρ T c k with
        | none =>
          rw [e] at ho2; subst ho2
          refine And.intro (fun _ => ?_) (fun z => absurd rfl z)
          refine hC _ _ _ _ (ih q _ _ (nI_1 k) ?_)
          rw [ow_new e r]; rfl
        | some b2 =>
          have hb := (ow_lt e).1
          rw [e] at ho2; subst ho2
          refine And.intro (fun z => absurd z (nI_m1 (by omega))) (fun _ => ?_)
          refine And.intro p.1.ob (hS _ _ _ _ (sM_isNearer p rfl rfl rfl hc q (by omega) ?_))
          refine brE (fun z => ?_) (fun z => ?_)
          · refine hC _ _ _ _ (ih q _ _ (nI_1 k) ?_)
            rw [ow_stay e z]
          · refine hC _ _ _ _ (ih q _ _ (nI_1 k) ?_)
            rw [ow_near e r z]; rfl
  exact eM_nearestOn 9 [(4, 4)] fun S Cu hS hC => hC _ _ _ _ (lp 0 (by omega) _ _ rfl rfl)
/-- the dearest cell: of all by those that are on (x = -1), or of a dot -/
theorem sM_dearest {x : Int32} {O : Nat → Option Nat} (p : MP h ρ) (hO : ∀ c d, O c = some d → d < pcn ρ) (hx : (x = -1 ∧ ∃ S : Nat → Prop, (∀ d, d < pcn ρ → hI h 145 d = bI (¬ S d)) ∧ ∀ c, c < pcc ρ → O c = ow ρ S c (pcn ρ)) ∨ (∃ d, d < pcn ρ ∧ x = nI d ∧ ∀ c, c < pcc ρ → (hI h 141 c = nI d ∧ O c = some d) ∨ (¬ hI h 141 c = nI d ∧ O c = none))) (hK : K (some (vI (oI (wst ρ O (pcc ρ)).1))) h) : Spec G l (mt mM_dearest) [vR 136, vI x] h K := by
  have g := p.2.2.n
  have gc := p.2.2.c
  have lp : ∀ k, k ≤ pcc ρ → ∀ i o u v, i = nI k → o = oI (wst ρ O k).1 → u = lN (wst ρ O k).2.1 → v = lN (wst ρ O k).2.2 → ∀ z8 z9 z10, Go G l (mt mM_dearest) 10 [some (vR 136), some (vI x), some (vI o), some (vL u), none, some (vL v), none, some (vI i), z8, z9, z10] [] h 0 0 K := by
    refine upto _ ?_
    intro k hk ih i o u v hi ho hu hv z8 z9 z10
    subst hi
    have bd := wst_bd p.2.2 hO (n := k) hk
    -- behind the choice of the dot
    have fin : k < pcc ρ → ∀ w, w = oI (O k) → ∀ z8 z9 z10, Go G l (mt mM_dearest) 49 [some (vR 136), some (vI x), some (vI o), some (vL u), none, some (vL v), none, some (vI (nI k)), z8, z9, z10] [vI w] h 0 0 K := by
      intro q w hw z8 z9 z10
      cases e : O k with
      | none =>
        rw [e] at hw; subst hw
        refine gM_dearest 99 [(10, 11)] fun S Cu hS hC => ?_
        refine And.intro (fun z => absurd rfl z) (fun _ => ?_)
        exact hC _ _ _ _ (ih q _ _ _ _ (nI_1 k) (by rw [wst_n e]; exact ho) (by rw [wst_n e]; exact hu) (by rw [wst_n e]; exact hv) _ _ _)
      | some d =>
        have hd := hO k d e
        have sp := spn_pos p.2.2 hd
        have gp := gap_le p.2.2 q hd
        have wl := pcW_le p.2.2 q
        rw [e] at hw; subst hw
        refine gM_dearest 99 [(10, 11)] fun S Cu hS hC => ?_
        refine And.intro (fun _ => ?_) (fun z => absurd z (nI_m1 (by omega)))
        refine And.intro p.1.ob (hS _ _ _ _ (sM_weight p rfl (by omega) ?_))
        refine And.intro p.1.ob (hS _ _ _ _ (sM_upper p rfl rfl q hd ?_))
        refine And.intro p.1.ob (hS _ _ _ _ (sM_lower p rfl hd ?_))
        have e1 : (nI (pcW ρ k)).toInt64 * lN (gap ρ k d) = lN (pcW ρ k * gap ρ k d) := by rw [nI_l (by omega), lN_mul]
        have b1 : pcW ρ k * gap ρ k d ≤ 84214080000 := Nat.le_trans (Nat.mul_le_mul wl gp) (by decide)
        have e2 : lN (wst ρ O k).2.1 * lN (spn ρ d) < lN (pcW ρ k * gap ρ k d) * lN (wst ρ O k).2.2 ↔ ¬ pcW ρ k * gap ρ k d * (wst ρ O k).2.2 ≤ (wst ρ O k).2.1 * spn ρ d := by
          rw [lN_mul, lN_mul, pk_lLT (Nat.lt_of_le_of_lt (Nat.mul_le_mul bd.1 sp.2) (by decide)) (Nat.lt_of_le_of_lt (Nat.mul_le_mul b1 bd.2) (by decide))]
          omega
        rw [e1, hu, hv]
        refine And.intro (fun z => ?_) (fun z => ?_)
        · have z := e2.mp (ig_gt.mp z)
          refine And.intro p.1.ob (hS _ _ _ _ (sM_lower p rfl hd ?_))
          exact hC _ _ _ _ (ih q _ _ _ _ (nI_1 k) (by rw [wst_gt e z]; rfl) (by rw [wst_gt e z]) (by rw [wst_gt e z]) _ _ _)
        · have z : pcW ρ k * gap ρ k d * (wst ρ O k).2.2 ≤ (wst ρ O k).2.1 * spn ρ d := Classical.byContradiction fun y => z (ig_gt.mpr (e2.mpr y))
          exact hC _ _ _ _ (ih q _ _ _ _ (nI_1 k) (by rw [wst_le e z]; exact ho) (by rw [wst_le e z]) (by rw [wst_le e z]) _ _ _)
    refine gM_dearest 99 [(49, 11)] fun S Cu hS hC => ?_
    refine And.intro p.1.ob (hS _ _ _ _ (sM_cells p ?_))
    refine pk_le (pcc ρ) k (fun q => ?_) (fun q => ?_)
    · obtain rfl : k = pcc ρ := by omega
      subst ho; exact hK
    · rcases hx with ⟨rfl, S', hS1, hS2⟩ | ⟨d, hd, rfl, hd2⟩
      · refine And.intro (fun z => absurd rfl z) (fun _ => ?_)
        refine And.intro p.1.ob (hS _ _ _ _ (sM_nearestOn p rfl q hS1 ?_))
        exact hC _ _ _ _ (fin q _ (by rw [hS2 k q]) _ _ _)
      · refine And.intro (fun _ => ?_) (fun z => absurd z (nI_m1 (by omega)))
        refine ld 141 p.1.ob (p.1.2.2 19) ?_
        refine ld (hI h 141 k) (p.1.inA (j := k) rfl rfl rfl rfl (by omega) rfl) (rdA rfl (by omega) rfl) ?_
        rcases hd2 k q with ⟨y1, y2⟩ | ⟨y1, y2⟩
        · refine And.intro (fun z => absurd y1 z) (fun _ => ?_)
          exact hC _ _ _ _ (fin q _ (by rw [y2]; rfl) _ _ _)
        · refine And.intro (fun _ => ?_) (fun z => absurd z y1)
          exact hC _ _ _ _ (fin q _ (by rw [y2]; rfl) _ _ _)
  exact eM_dearest 9 [(10, 11)] fun S Cu hS hC => hC _ _ _ _ (lp 0 (by omega) _ _ _ _ rfl rfl rfl rfl _ _ _)
theorem sM_toMiddle {d q : Nat} {a : Int32} {O : Nat → Option Nat} (p : MP h ρ) (ha : a = nI d) (hd : d < 40) (hO : ∀ c e, O c = some e → e < 40) (ho : ∀ c, c < pcc ρ → hI h 141 c = oI (O c)) (hl : hI h 142 d = nI q) (hq : 1 ≤ q) (hq2 : q ≤ 3600) (hK : ∀ h', Fr [137] h h' → hI h' 137 = nR (lay ρ d (sumN (fun c => wN (O c = some d) (pcW ρ c * (c % pcw ρ))) (pcc ρ)) (sumN (fun c => wN (O c = some d) (pcW ρ c * (c / pcw ρ))) (pcc ρ)) q) → K none h') : Spec G l (mt mM_toMiddle) [vR 136, vI a] h K := by
  subst ha
  have g := p.2.2.n
  have gc := p.2.2.c
  have bX : sumN (fun c => wN (O c = some d) (pcW ρ c * (c % pcw ρ))) (pcc ρ) ≤ pcc ρ * 200 := sumN_le fun c hc => Nat.le_trans (wN_le _ _) (Nat.le_trans (Nat.mul_le_mul (pcW_le p.2.2 hc) (Nat.le_of_lt (p.2.2.xy hc).1)) (by omega))
  have bY : sumN (fun c => wN (O c = some d) (pcW ρ c * (c / pcw ρ))) (pcc ρ) ≤ pcc ρ * 200 := sumN_le fun c hc => Nat.le_trans (wN_le _ _) (Nat.le_trans (Nat.mul_le_mul (pcW_le p.2.2 hc) (Nat.le_of_lt (p.2.2.xy hc).2)) (by omega))
  have lp : ∀ k, k ≤ pcc ρ → ∀ i x y, i = nI k → x = nI (sumN (fun c => wN (O c = some d) (pcW ρ c * (c % pcw ρ))) k) → y = nI (sumN (fun c => wN (O c = some d) (pcW ρ c * (c / pcw ρ))) k) → Go G l (mt mM_toMiddle) 7 [some (vR 136), some (vI (nI d)), some (vI x), some (vI y), some (vI i)] [] h 0 0 K := by
    refine upto _ ?_
    intro k hk ih i x y hi hx hy
    subst hi
    refine gM_toMiddle 99 [(7, 5)] fun S Cu hS hC => ?_
    refine And.intro p.1.ob (hS _ _ _ _ (sM_cells p ?_))
    refine pk_le (pcc ρ) k (fun q2 => ?_) (fun q2 => ?_)
    · obtain rfl : k = pcc ρ := by omega
      refine ld 142 p.1.ob (p.1.2.2 20) ?_
      refine ld (nI q) (p.1.inA (j := d) rfl rfl rfl rfl hd rfl) (rdA rfl (by omega) hl) ?_
      exact And.intro p.1.ob (hS _ _ _ _ (sM_lays p.1 p.2.1 rfl hx hy rfl hd (by omega) (by omega) (by omega) hq hK))
    · refine ld 141 p.1.ob (p.1.2.2 19) ?_
      refine ld (oI (O k)) (p.1.inA (j := k) rfl rfl rfl rfl (by omega) rfl) (rdA rfl (by omega) (ho k q2)) ?_
      have eo : oI (O k) = nI d ↔ O k = some d := by
        cases e : O k with
        | none => exact ⟨fun z => absurd z.symm (nI_m1 (by omega)), fun z => by cases z⟩
        | some b =>
          have := hO k b e
          exact ⟨fun z => congrArg some ((nI_eq (by omega) (by omega)).mp z), fun z => by injection z with z; rw [z]; rfl⟩
      refine And.intro (fun z => ?_) (fun z => ?_)
      · have z := eo.mp z
        refine And.intro p.1.ob (hS _ _ _ _ (sM_weight p rfl (by omega) ?_))
        refine And.intro p.1.ob (hS _ _ _ _ (sM_wide p ?_))
        refine And.intro (nI_ne0 (by omega) (by omega)) ?_
        refine And.intro p.1.ob (hS _ _ _ _ (sM_weight p rfl (by omega) ?_))
        refine And.intro p.1.ob (hS _ _ _ _ (sM_wide p ?_))
        refine And.intro (nI_ne0 (by omega) (by omega)) ?_
        refine hC _ _ _ _ (ih q2 _ _ _ (nI_1 k) ?_ ?_)
        · rw [hx, pk_rem (by omega) (by omega) (by omega), pk_mul, nI_add]; simp only [sumN]; rw [wN_T z]
        · rw [hy, pk_div (by omega) (by omega) (by omega), pk_mul, nI_add]; simp only [sumN]; rw [wN_T z]
      · have z : ¬ O k = some d := fun y => z (eo.mpr y)
        refine hC _ _ _ _ (ih q2 _ _ _ (nI_1 k) ?_ ?_)
        · rw [hx]; simp only [sumN]; rw [wN_F z]; rfl
        · rw [hy]; simp only [sumN]; rw [wN_F z]; rfl
  exact eM_toMiddle 9 [(7, 5)] fun S Cu hS hC => hC _ _ _ _ (lp 0 (by omega) _ _ _ rfl rfl rfl)
theorem sM_isElsewhere {k n F d x y q : Nat} {a b : Int32} (p : MP h ρ) (hk : shp k = .inr (0, n)) (hk1 : Nat.blt 0 k = true) (hk2 : Nat.ble k 159 = true) (hn : Nat.ble n 10000 = true) (ha : a = nI F) (hb : b = nI d) (hd : d < pcn ρ) (hF : F + 3 * d + 2 < n) (hx : x < 2 ^ 31) (hy : y < 2 ^ 31) (hq : q < 2 ^ 31) (e1 : hI h k (F + 3 * d) = nI x) (e2 : hI h k (F + 3 * d + 1) = nI y) (e3 : hI h k (F + 3 * d + 2) = nI q) (hK : K (some (vI (bI (¬ (x = pcX ρ d ∧ y = pcY ρ d ∧ q = pcD ρ d))))) h) : Spec G l (mt mM_isElsewhere) [vR 136, vR k, vI a, vI b] h K := by
  subst ha; subst hb
  have g := p.2.2.n
  have gd := p.2.2.d hd
  have n1 := Nat.le_of_ble_eq_true hn
  refine eM_isElsewhere 99 [] fun S Cu hS hC => ?_
  refine ld (nI x) (p.1.inA (j := F + 3 * d) hk hk1 hk2 (by first | with_reducible rfl | (try simp (disch := omega) only [pk_rem]) <;> simp (disch := omega) only [nl0, nl1, nl2, nl3, nl4, nl8, nl9, nl10, nl12, nl20, nl24, nl30, nl32, nl40, nl48, nl100, nl120, nl200, nl255, nl400, nl404, nl524, nl900, nl1000, nl9999, nl16, nl65536, nI_add, pk_mul, pk_sub, pk_div, pk_rem, Nat.add_zero, Nat.zero_add, Nat.mul_one, Nat.add_sub_cancel_left, Nat.add_sub_cancel]) (by omega) hn) (rdA (by first | with_reducible rfl | (try simp (disch := omega) only [pk_rem]) <;> simp (disch := omega) only [nl0, nl1, nl2, nl3, nl4, nl8, nl9, nl10, nl12, nl20, nl24, nl30, nl32, nl40, nl48, nl100, nl120, nl200, nl255, nl400, nl404, nl524, nl900, nl1000, nl9999, nl16, nl65536, nI_add, pk_mul, pk_sub, pk_div, pk_rem, Nat.add_zero, Nat.zero_add, Nat.mul_one, Nat.add_sub_cancel_left, Nat.add_sub_cancel]) (by omega) e1) ?_
  refine And.intro p.1.ob (hS _ _ _ _ (sM_xOf p rfl (by omega) ?_))
  refine And.intro (fun z => ?_) (fun z => ?_)
  · exact rzT (fun w => z (congrArg nI w.1)) hK
  have zx := (nI_eq hx (by omega)).mp z
  refine ld (nI y) (p.1.inA (j := F + 3 * d + 1) hk hk1 hk2 (by first | with_reducible rfl | (try simp (disch := omega) only [pk_rem]) <;> simp (disch := omega) only [nl0, nl1, nl2, nl3, nl4, nl8, nl9, nl10, nl12, nl20, nl24, nl30, nl32, nl40, nl48, nl100, nl120, nl200, nl255, nl400, nl404, nl524, nl900, nl1000, nl9999, nl16, nl65536, nI_add, pk_mul, pk_sub, pk_div, pk_rem, Nat.add_zero, Nat.zero_add, Nat.mul_one, Nat.add_sub_cancel_left, Nat.add_sub_cancel]) (by omega) hn) (rdA (by first | with_reducible rfl | (try simp (disch := omega) only [pk_rem]) <;> simp (disch := omega) only [nl0, nl1, nl2, nl3, nl4, nl8, nl9, nl10, nl12, nl20, nl24, nl30, nl32, nl40, nl48, nl100, nl120, nl200, nl255, nl400, nl404, nl524, nl900, nl1000, nl9999, nl16, nl65536, nI_add, pk_mul, pk_sub, pk_div, pk_rem, Nat.add_zero, Nat.zero_add, Nat.mul_one, Nat.add_sub_cancel_left, Nat.add_sub_cancel]) (by omega) e2) ?_
  refine And.intro p.1.ob (hS _ _ _ _ (sM_yOf p rfl (by omega) ?_))
  refine And.intro (fun z => ?_) (fun z => ?_)
  · exact rzT (fun w => z (congrArg nI w.2.1)) hK
  have zy := (nI_eq hy (by omega)).mp z
  refine ld (nI q) (p.1.inA (j := F + 3 * d + 2) hk hk1 hk2 (by first | with_reducible rfl | (try simp (disch := omega) only [pk_rem]) <;> simp (disch := omega) only [nl0, nl1, nl2, nl3, nl4, nl8, nl9, nl10, nl12, nl20, nl24, nl30, nl32, nl40, nl48, nl100, nl120, nl200, nl255, nl400, nl404, nl524, nl900, nl1000, nl9999, nl16, nl65536, nI_add, pk_mul, pk_sub, pk_div, pk_rem, Nat.add_zero, Nat.zero_add, Nat.mul_one, Nat.add_sub_cancel_left, Nat.add_sub_cancel]) (by omega) hn) (rdA (by first | with_reducible rfl | (try simp (disch := omega) only [pk_rem]) <;> simp (disch := omega) only [nl0, nl1, nl2, nl3, nl4, nl8, nl9, nl10, nl12, nl20, nl24, nl30, nl32, nl40, nl48, nl100, nl120, nl200, nl255, nl400, nl404, nl524, nl900, nl1000, nl9999, nl16, nl65536, nI_add, pk_mul, pk_sub, pk_div, pk_rem, Nat.add_zero, Nat.zero_add, Nat.mul_one, Nat.add_sub_cancel_left, Nat.add_sub_cancel]) (by omega) e3) ?_
  refine And.intro p.1.ob (hS _ _ _ _ (sM_under p rfl hd ?_))
  have eq : (nI q).toInt64 = lN (pcD ρ d) ↔ q = pcD ρ d := by rw [nI_l hq, pk_lEQ (by omega) (by omega)]
  refine And.intro (fun z => ?_) (fun z => ?_)
  · exact rzF (fun w => w ⟨zx, zy, eq.mp (ig_eq.mp z)⟩) hK
  · exact rzT (fun w => z (ig_eq.mpr (eq.mpr w.2.2))) hK
theorem sM_round (p : MP h ρ) (hK : ∀ h', Fr [136, 137, 141, 142, 144, 145] h h' → Sc1 [24] h h' → hI h' 137 = nR (rnd ρ) → hI h' 136 24 = nI (mvd ρ) → (∀ j, j < 120 → hI h' 144 j = nI (ρ (404 + j))) → K none h') : Spec G l (mt mM_round) [vR 136] h K := by
  have g := p.2.2.n
  have gc := p.2.2.c
  have g0 := p.2.2
  -- the last loop: how many have moved
  have lp4 : ∀ k, k ≤ pcn ρ → ∀ h', Fr [136, 137, 141, 142, 144, 145] h h' → Sc1 [24] h h' → hI h' 137 = nR (rnd ρ) → hI h' 136 24 = nI (sumN (fun d => wN (¬ same ρ (rnd ρ) d) 1) k) → (∀ j, j < 120 → hI h' 144 j = nI (ρ (404 + j))) → ∀ i, i = nI k → ∀ z2, Go G l (mt mM_round) 159 [some (vR 136), some (vI i), z2] [] h' 0 0 K := by
    refine upto _ ?_
    intro k hk ih h' f s er em eb i hi z2
    subst hi
    obtain ⟨gr, lr⟩ := rnd_ok g0
    have p : MP h' (rnd ρ) := ⟨p.1.fr f, er, gr⟩
    refine gM_round 99 [(159, 3)] fun S Cu hS hC => ?_
    refine And.intro p.1.ob (hS _ _ _ _ (sM_dots p ?_))
    rw [lr.2.2.2.1]
    refine pk_le (pcn ρ) k (fun q => ?_) (fun q => ?_)
    · obtain rfl : k = pcn ρ := by omega
      exact hK h' f s er em eb
    · have gd := g0.d q
      refine ld _ p.1.ob em ?_
      refine ld 144 p.1.ob (p.1.2.2 22) ?_
      refine And.intro p.1.ob (hS _ _ _ _ (sM_isElsewhere (k := 144) (n := 120) (F := 0) (d := k) (x := pcX ρ k) (y := pcY ρ k) (q := pcD ρ k) p rfl rfl rfl rfl rfl rfl (by rw [lr.2.2.2.1]; exact q) (by omega) (by omega) (by omega) (by omega) ?_ ?_ ?_ ?_))
      · rw [eb _ (by omega)]; exact congrArg nI (congrArg ρ (by omega))
      · rw [eb _ (by omega)]; exact congrArg nI (congrArg ρ (by omega))
      · rw [eb _ (by omega)]; exact congrArg nI (congrArg ρ (by omega))
      refine hS _ _ _ _ (sM_truth ?_)
      refine ld (nI (sumN (fun d => wN (¬ same ρ (rnd ρ) d) 1) (k + 1))) p.1.ob (by rw [bI_wN, nI_add]; rfl) ?_
      refine hC _ _ _ _ (ih q _ (f.setI rfl) (s.set rfl) (by rw [si_nk rfl]; exact er) si_eq (fun j hj => by rw [si_nk rfl]; exact eb j hj) _ (nI_1 k) _)
  -- empty ones are put
  have lp3 : ∀ k, k ≤ pcn ρ → ∀ h', Fr [136, 137, 141, 142, 144, 145] h h' → Sc1 [24] h h' → hI h' 137 = nR (ems ρ k) → (∀ d, d < pcn ρ → hI h' 142 d = nI (load ρ d)) → (∀ j, j < 120 → hI h' 144 j = nI (ρ (404 + j))) → ∀ T : Nat → Prop, (∀ d, d < pcn ρ → hI h' 145 d = bI (¬ T d)) → (∀ d, d < pcn ρ → T d → (¬ load ρ d = 0 ∨ d < k)) → (∀ d, d < pcn ρ → ¬ load ρ d = 0 → T d) → ((∀ d, d < pcn ρ → (¬ load ρ d = 0 ∨ d < k) → T d) ∨ (wst (ems ρ k) (fun c => ow (ems ρ k) T c (pcn ρ)) (pcc ρ)).1 = none) → ∀ i, i = nI k → ∀ z2, Go G l (mt mM_round) 86 [some (vR 136), some (vI i), z2] [] h' 0 0 K := by
    refine upto _ ?_
    intro k hk ih h' f s er el eb T hT hT1 hT2 hT3 i hi z2
    subst hi
    obtain ⟨gr, lr⟩ := ems_ok g0 k hk
    have p : MP h' (ems ρ k) := ⟨p.1.fr f, er, gr⟩
    refine gM_round 99 [(86, 3), (159, 3)] fun S Cu hS hC => ?_
    refine And.intro p.1.ob (hS _ _ _ _ (sM_dots p ?_))
    rw [lr.2.2.2.1]
    refine pk_le (pcn ρ) k (fun q => ?_) (fun q => ?_)
    · obtain rfl : k = pcn ρ := by omega
      refine ld (nI 0) p.1.ob rfl ?_
      exact hC _ _ _ _ (lp4 0 (by omega) _ (f.setI rfl) (s.set rfl) (by rw [si_nk rfl]; exact er) si_eq (fun j hj => by rw [si_nk rfl]; exact eb j hj) _ rfl _)
    · have ll := load_le g0 k
      refine ld 142 p.1.ob (p.1.2.2 20) ?_
      refine ld (nI (load ρ k)) (p.1.inA (j := k) rfl rfl rfl rfl (by omega) rfl) (rdA rfl (by omega) (el k q)) ?_
      refine And.intro (fun z => ?_) (fun z => ?_)
      · have z : ¬ load ρ k = 0 := fun y => z (by rw [y]; rfl)
        refine And.intro (fun y => absurd rfl y) (fun _ => ?_)
        have e : ems ρ (k + 1) = ems ρ k := by simp only [ems]; rw [if_neg z]
        refine hC _ _ _ _ (ih q h' f s (by rw [e]; exact er) el eb T hT (fun d hd ht => ?_) hT2 ?_ _ (nI_1 k) _)
        · exact (hT1 d hd ht).imp id (fun y => by omega)
        · rw [e]
          refine hT3.imp (fun y d hd w => ?_) id
          by_cases dk : d = k
          · subst dk; exact hT2 d hd z
          · exact y d hd (w.imp id (fun v => by omega))
      · have z : load ρ k = 0 := (nI_eq (b := 0) (by omega) (by decide)).mp z
        -- what the class's own choice is
        have hw : (wst (ems ρ k) (fun c => ow (ems ρ k) T c (pcn ρ)) (pcc ρ)).1 = (wst (ems ρ k) (emO ρ (ems ρ k) k) (pcc ρ)).1 := by
          rcases hT3 with y | y
          · refine congrArg Prod.fst (wst_congr fun c hc => ?_)
            exact ow_congr fun d hd => ⟨hT1 d hd, y d hd⟩
          · rw [y]
            refine (wst_more gr lr (S := T) hT1 ?_ y).symm
            by_cases hne : ∃ d, d < pcn ρ ∧ T d
            · exact Or.inl hne
            · refine Or.inr fun c hc => no_load (fun d hd => ?_) (by omega) hc
              exact Classical.byContradiction fun w => hne ⟨d, hd, hT2 d hd w⟩
        refine And.intro p.1.ob (hS _ _ _ _ (sM_dearest (O := fun c => ow (ems ρ k) T c (pcn ρ)) p (fun c d e => by rw [lr.2.2.2.1]; exact (ow_lt e).1) (Or.inl ⟨rfl, T, ?_, ?_⟩) ?_))
        · rw [lr.2.2.2.1]; exact hT
        · rw [lr.2.2.2.1]; exact fun c _ => rfl
        rw [lr.cc, hw]
        cases e : (wst (ems ρ k) (emO ρ (ems ρ k) k) (pcc ρ)).1 with
        | none =>
          have e2 : ems ρ (k + 1) = ems ρ k := by simp only [ems]; rw [if_pos z, e]
          refine And.intro (fun y => absurd rfl y) (fun _ => ?_)
          refine hC _ _ _ _ (ih q h' f s (by rw [e2]; exact er) el eb T hT (fun d hd ht => ?_) hT2 ?_ _ (nI_1 k) _)
          · exact (hT1 d hd ht).imp id (fun y => by omega)
          · rw [e2]; exact Or.inr (hw.trans e)
        | some c =>
          have hc := wst_lt e
          have xy := g0.xy hc
          have e2 : ems ρ (k + 1) = setD (ems ρ k) k (c % pcw ρ) (c / pcw ρ) 1 := by simp only [ems]; rw [if_pos z, e]
          refine And.intro (fun _ => ?_) (fun y => absurd y (nI_m1 (by omega)))
          refine And.intro p.1.ob (hS _ _ _ _ (sM_wide p ?_))
          rw [lr.1]
          refine And.intro (nI_ne0 (by omega) (by omega)) ?_
          refine And.intro p.1.ob (hS _ _ _ _ (sM_wide p ?_))
          rw [lr.1]
          refine And.intro (nI_ne0 (by omega) (by omega)) ?_
          refine And.intro p.1.ob (hS _ _ _ _ (sM_lays p.1 er rfl (pk_rem (by omega) (by omega) (by omega)) (pk_div (by omega) (by omega) (by omega)) rfl (by omega) (by omega) (by omega) (by decide) (by decide) fun h2 f2 e3 => ?_))
          rw [lay_1, ← e2] at e3
          have m2 := p.1.fr f2
          have f3 : Fr [136, 137, 141, 142, 144, 145] h h2 := f.tr f2 rfl rfl
          have s3 : Sc1 [24] h h2 := s.tr (Sc1.of (M := []) f2 rfl) rfl rfl
          refine ld 145 m2.ob (m2.2.2 23) ?_
          refine sw k (nI 0) ⟨m2.inA (j := k) rfl rfl rfl rfl (by omega) rfl, Or.inl rfl⟩ (ix_nI (by omega)) rfl ?_
          have hall : ∀ d, d < pcn ρ → (¬ load ρ d = 0 ∨ d < k) → T d := by
            rcases hT3 with y | y
            · exact y
            · rw [hw, e] at y; cases y
          refine hC _ _ _ _ (ih q _ (f3.setI rfl) (s3.oth rfl) (by rw [si_nk rfl]; exact e3) (fun d hd => by rw [si_nk rfl, f2.i rfl]; exact el d hd) (fun j hj => by rw [si_nk rfl, f2.i rfl]; exact eb j hj) (fun d => T d ∨ d = k) (fun d hd => ?_) (fun d hd ht => ?_) (fun d hd w => Or.inl (hT2 d hd w)) (Or.inl fun d hd w => ?_) _ (nI_1 k) _)
          · by_cases dk : d = k
            · subst dk; rw [si_eq, bI_F (fun w => w (Or.inr rfl))]; rfl
            · rw [si_ne dk, f2.i rfl, hT d hd]
              exact bI_eq ⟨fun w v => v.elim w dk, fun w v => w (Or.inl v)⟩
          · rcases ht with y | y
            · exact (hT1 d hd y).imp id (fun v => by omega)
            · exact Or.inr (by omega)
          · by_cases dk : d = k
            · exact Or.inr dk
            · exact Or.inl (hall d hd (w.imp id (fun v => by omega)))
  -- those that are not empty go to their middles
  have lp2 : ∀ k, k ≤ pcn ρ → ∀ h', Fr [136, 137, 141, 142, 144, 145] h h' → Sc1 [24] h h' → hI h' 137 = nR (mids ρ k) → (∀ c, c < pcc ρ → hI h' 141 c = oI (own ρ c)) → (∀ d, d < pcn ρ → hI h' 142 d = nI (load ρ d)) → (∀ j, j < 120 → hI h' 144 j = nI (ρ (404 + j))) → (∀ d, d < k → hI h' 145 d = bI (load ρ d = 0)) → ∀ i, i = nI k → ∀ z2, Go G l (mt mM_round) 36 [some (vR 136), some (vI i), z2] [] h' 0 0 K := by
    refine upto _ ?_
    intro k hk ih h' f s er eo el eb ef i hi z2
    subst hi
    obtain ⟨gr, lr⟩ := mids_ok g0 k hk
    have p : MP h' (mids ρ k) := ⟨p.1.fr f, er, gr⟩
    refine gM_round 99 [(36, 3), (86, 3)] fun S Cu hS hC => ?_
    refine And.intro p.1.ob (hS _ _ _ _ (sM_dots p ?_))
    rw [lr.2.2.2.1]
    refine pk_le (pcn ρ) k (fun q => ?_) (fun q => ?_)
    · obtain rfl : k = pcn ρ := by omega
      refine hC _ _ _ _ (lp3 0 (by omega) h' f s er el eb (fun d => ¬ load ρ d = 0) (fun d hd => ?_) (fun d hd w => Or.inl w) (fun d hd w => w) (Or.inl fun d hd w => w.elim id (fun v => by omega)) _ rfl _)
      rw [ef d hd]; exact bI_eq ⟨fun w v => v w, fun w => Classical.byContradiction w⟩
    · have ll := load_le g0 k
      refine ld 145 p.1.ob (p.1.2.2 23) ?_
      refine ld 142 p.1.ob (p.1.2.2 20) ?_
      refine ld (nI (load ρ k)) (p.1.inA (j := k) rfl rfl rfl rfl (by omega) rfl) (rdA rfl (by omega) (el k q)) ?_
      refine And.intro (fun z => ?_) (fun z => ?_)
      · have z : ¬ load ρ k = 0 := fun y => z (by rw [y]; rfl)
        refine sw k (nI 0) ⟨p.1.inA (j := k) rfl rfl rfl rfl (by omega) rfl, Or.inl rfl⟩ (ix_nI (by omega)) rfl ?_
        refine ld 145 p.1.ob (p.1.2.2 23) ?_
        refine ld (nI 0) (p.1.inA (j := k) rfl rfl rfl rfl (by omega) rfl) (rdA rfl (by omega) si_eq) ?_
        refine And.intro (fun y => absurd rfl y) (fun _ => ?_)
        have f1 : Fr [145] h' (setI h' 145 k (nI 0)) := Fr.rf.setI rfl
        have sx := smX_lt g0 k
        have e2 : mids ρ (k + 1) = lay (mids ρ k) k (smX ρ k) (smY ρ k) (load ρ k) := by simp only [mids]; rw [if_neg z]
        refine And.intro p.1.ob (hS _ _ _ _ (sM_toMiddle (O := own ρ) (q := load ρ k) (p.fr f1 rfl) rfl (by omega) (fun c e he => Nat.lt_of_lt_of_le (own_lt he) g.2.2.2.2.2) ?_ (by rw [si_nk rfl]; exact el k q) (by omega) (by omega) fun h2 f2 e3 => ?_))
        · rw [lr.cc]; intro c hc; rw [si_nk rfl]; exact eo c hc
        · have ex : sumN (fun c => wN (own ρ c = some k) (pcW (mids ρ k) c * (c % pcw (mids ρ k)))) (pcc (mids ρ k)) = smX ρ k := by
            rw [lr.cc, lr.1]; exact sumN_congr fun c hc => by rw [lr.2.2.2.2 c (by omega)]
          have ey : sumN (fun c => wN (own ρ c = some k) (pcW (mids ρ k) c * (c / pcw (mids ρ k)))) (pcc (mids ρ k)) = smY ρ k := by
            rw [lr.cc, lr.1]; exact sumN_congr fun c hc => by rw [lr.2.2.2.2 c (by omega)]
          rw [ex, ey, ← e2] at e3
          have f3 : Fr [136, 137, 141, 142, 144, 145] h h2 := (f.tr f1 rfl rfl : Fr [136, 137, 141, 142, 144, 145] h _).tr f2 rfl rfl
          have s3 : Sc1 [24] h h2 := (s.tr (Sc1.of (M := []) f1 rfl) rfl rfl : Sc1 [24] h _).tr (Sc1.of (M := []) f2 rfl) rfl rfl
          refine hC _ _ _ _ (ih q h2 f3 s3 e3 (fun c hc => by rw [f2.i rfl, si_nk rfl]; exact eo c hc) (fun d hd => by rw [f2.i rfl, si_nk rfl]; exact el d hd) (fun j hj => by rw [f2.i rfl, si_nk rfl]; exact eb j hj) (fun d hd => ?_) _ (nI_1 k) _)
          rw [f2.i rfl]
          by_cases dk : d = k
          · subst dk; rw [si_eq, bI_F z]; rfl
          · rw [si_ne dk]; exact ef d (by omega)
      · have z : load ρ k = 0 := (nI_eq (b := 0) (by omega) (by decide)).mp z
        refine sw k (nI 1) ⟨p.1.inA (j := k) rfl rfl rfl rfl (by omega) rfl, Or.inr rfl⟩ (ix_nI (by omega)) rfl ?_
        refine ld 145 p.1.ob (p.1.2.2 23) ?_
        refine ld (nI 1) (p.1.inA (j := k) rfl rfl rfl rfl (by omega) rfl) (rdA rfl (by omega) si_eq) ?_
        refine And.intro (fun _ => ?_) (fun y => absurd y (by decide))
        have e2 : mids ρ (k + 1) = mids ρ k := by simp only [mids]; rw [if_pos z]
        refine hC _ _ _ _ (ih q _ (f.setI rfl) (s.oth rfl) (by rw [si_nk rfl, e2]; exact er) (fun c hc => by rw [si_nk rfl]; exact eo c hc) (fun d hd => by rw [si_nk rfl]; exact el d hd) (fun j hj => by rw [si_nk rfl]; exact eb j hj) (fun d hd => ?_) _ (nI_1 k) _)
        by_cases dk : d = k
        · subst dk; rw [si_eq, bI_T z]; rfl
        · rw [si_ne dk]; exact ef d (by omega)
  -- where they lay before
  have lp1 : ∀ k, k ≤ 120 → ∀ h', Fr [136, 137, 141, 142, 144, 145] h h' → Sc1 [24] h h' → hI h' 137 = nR ρ → (∀ c, c < pcc ρ → hI h' 141 c = oI (own ρ c)) → (∀ d, d < pcn ρ → hI h' 142 d = nI (load ρ d)) → (∀ j, j < k → hI h' 144 j = nI (ρ (404 + j))) → ∀ i, i = nI k → ∀ z2, Go G l (mt mM_round) 6 [some (vR 136), some (vI i), z2] [] h' 0 0 K := by
    refine upto _ ?_
    intro k hk ih h' f s er eo el eb i hi z2
    subst hi
    have p : MP h' ρ := ⟨p.1.fr f, er, g0⟩
    refine gM_round 99 [(6, 3), (36, 3)] fun S Cu hS hC => ?_
    refine pk_le 120 k (fun q => ?_) (fun q => ?_)
    · obtain rfl : k = 120 := by omega
      exact hC _ _ _ _ (lp2 0 (by omega) h' f s er eo el eb (fun d hd => by omega) _ rfl _)
    · refine ld 144 p.1.ob (p.1.2.2 22) ?_
      refine ld 137 p.1.ob (p.1.2.2 0) ?_
      refine ld (nI (ρ (404 + k))) (p.1.inA (j := 404 + k) rfl rfl rfl (by first | with_reducible rfl | (try simp (disch := omega) only [pk_rem]) <;> simp (disch := omega) only [nl0, nl1, nl2, nl3, nl4, nl8, nl9, nl10, nl12, nl20, nl24, nl30, nl32, nl40, nl48, nl100, nl120, nl200, nl255, nl400, nl404, nl524, nl900, nl1000, nl9999, nl16, nl65536, nI_add, pk_mul, pk_sub, pk_div, pk_rem, Nat.add_zero, Nat.zero_add, Nat.mul_one, Nat.add_sub_cancel_left, Nat.add_sub_cancel]) (by omega) rfl) (rdP er (by first | with_reducible rfl | (try simp (disch := omega) only [pk_rem]) <;> simp (disch := omega) only [nl0, nl1, nl2, nl3, nl4, nl8, nl9, nl10, nl12, nl20, nl24, nl30, nl32, nl40, nl48, nl100, nl120, nl200, nl255, nl400, nl404, nl524, nl900, nl1000, nl9999, nl16, nl65536, nI_add, pk_mul, pk_sub, pk_div, pk_rem, Nat.add_zero, Nat.zero_add, Nat.mul_one, Nat.add_sub_cancel_left, Nat.add_sub_cancel]) (by omega)) ?_
      refine sw k _ (p.1.inA (j := k) rfl rfl rfl rfl q rfl) (ix_nI (by omega)) rfl ?_
      refine hC _ _ _ _ (ih q _ (f.setI rfl) (s.oth rfl) (by rw [si_nk rfl]; exact er) (fun c hc => by rw [si_nk rfl]; exact eo c hc) (fun d hd => by rw [si_nk rfl]; exact el d hd) (fun j hj => ?_) _ (nI_1 k) _)
      by_cases dk : j = k
      · subst dk; exact si_eq
      · rw [si_ne dk]; exact eb j (by omega)
  refine eM_round 9 [(6, 3)] fun S Cu hS hC => ?_
  refine And.intro p.1.ob (hS _ _ _ _ (sM_laysLoads p fun h' f eo el => ?_))
  exact hC _ _ _ _ (lp1 0 (by omega) h' (f.tr Fr.rf rfl rfl (M := [])) (Sc1.of f rfl) ((f.i rfl).trans p.2.1) eo el (fun j hj => by omega) _ rfl _)
end MM
