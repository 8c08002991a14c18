/-! ===== the model: dots laid, acts ===== -/
section MM
variable {G : GP} {l : Launch} {K : Option AV → AH → Prop} {h : AH} {ρ : Pic}
theorem sM_wideR (m : MS h) (e : hI h 137 = nR ρ) (hK : K (some (vI (nI (pcw ρ)))) h) : Spec G l (mt mM_wide) [vR 136] h K :=
  eM_wide 9 [] fun _ _ _ _ => ld 137 m.ob (m.2.2 0) (ld _ (m.inA (j := 0) rfl rfl rfl rfl (by decide) rfl) (rd e rfl (by decide)) hK)
theorem sM_dotsR (m : MS h) (e : hI h 137 = nR ρ) (hK : K (some (vI (nI (pcn ρ)))) h) : Spec G l (mt mM_dots) [vR 136] h K :=
  eM_dots 9 [] fun _ _ _ _ => ld 137 m.ob (m.2.2 0) (ld _ (m.inA (j := 3) rfl rfl rfl rfl (by decide) rfl) (rd e rfl (by decide)) hK)
theorem sM_size {x : Nat} {a : Int32} (ha : a = nI x) (hx : x < 2 ^ 31) (hK : K (some (vI (nI x))) h) : Spec G l (mt mM_size) [vI a] h K := by
  subst ha
  refine eM_size 9 [] fun S Cu hS hC => ?_
  exact And.intro (fun _ => hK) (fun z => absurd (nI_pos' hx) z)
theorem sM_divisor {x y : Nat} {a b : Int32} (ha : a = nI x) (hb : b = nI y) (hx : x < 2 ^ 31) (hy : y < 2 ^ 31) (hK : K (some (vI (nI (Nat.gcd x y)))) h) : Spec G l (mt mM_divisor) [vI a, vI b] h K := by
  subst ha; subst hb
  have lp : ∀ n u v : Nat, v ≤ n → u < 2 ^ 31 → v < 2 ^ 31 → Nat.gcd u v = Nat.gcd x y → ∀ i j, i = nI u → j = nI v → Go G l (mt mM_divisor) 4 [some (vI (nI x)), some (vI (nI y)), some (vI i), some (vI j), none] [] h 0 0 K := by
    intro n
    induction n with
    | zero =>
      intro u v hv hu hv2 e i j hi hj
      obtain rfl : v = 0 := by omega
      subst hi; subst hj
      refine gM_divisor 99 [(4, 4)] fun S Cu hS hC => ?_
      refine And.intro (fun _ => ?_) (fun z => absurd rfl z)
      refine rtI (K := K) ?_ hK
      rw [← e, Nat.gcd_zero_right]
    | succ n ih =>
      intro u v hv hu hv2 e i j hi hj
      subst hi; subst hj
      refine gM_divisor 99 [(4, 4)] fun S Cu hS hC => ?_
      refine pk_eq v 0 (fun q => ?_) (fun q => ?_)
      · refine rtI (K := K) ?_ hK
        rw [← e, q, Nat.gcd_zero_right]
      · refine And.intro (nI_ne0 (by omega) (by omega)) ?_
        have := Nat.mod_lt u (show 0 < v by omega)
        refine hC _ _ _ _ (ih v (u % v) (by omega) hv2 (by omega) ?_ _ _ rfl (pk_rem hu (by omega) hv2))
        rw [← e, Nat.gcd_comm u v, Nat.gcd_rec v u, Nat.gcd_comm]
  exact eM_divisor 9 [(4, 4)] fun S Cu hS hC => hC _ _ _ _ (lp y x y (by omega) hx hy rfl _ _ rfl rfl)
theorem sM_lays {d x y q : Nat} {a b c e : Int32} (m : MS h) (er : hI h 137 = nR ρ) (ha : a = nI d) (hb : b = nI x) (hc : c = nI y) (he : e = nI q) (hd : d < 40) (hx : x < 2 ^ 31) (hy : y < 2 ^ 31) (hq : q < 2 ^ 31) (hq1 : 1 ≤ q) (hK : ∀ h', Fr [137] h h' → hI h' 137 = nR (lay ρ d x y q) → K none h') : Spec G l (mt mM_lays) [vR 136, vI a, vI b, vI c, vI e] h K := by
  subst ha; subst hb; subst hc; subst he
  have gp : 0 < gcd3 x y q := gcd3_pos hq1
  have gl : gcd3 x y q < 2 ^ 31 := Nat.lt_of_le_of_lt (Nat.le_of_dvd hq1 gcd3_dvd.2.2) hq
  have gl2 : Nat.gcd x y < 2 ^ 31 := by
    rcases Nat.eq_zero_or_pos x with z | z
    · subst z; rw [Nat.gcd_zero_left]; exact hy
    · exact Nat.lt_of_le_of_lt (Nat.le_of_dvd z (Nat.gcd_dvd_left _ _)) hx
  refine eM_lays 99 [] fun S Cu hS hC => ?_
  refine hS _ _ _ _ (sM_size rfl hx ?_)
  refine hS _ _ _ _ (sM_size rfl hy ?_)
  refine hS _ _ _ _ (sM_divisor rfl rfl hx hy ?_)
  refine hS _ _ _ _ (sM_divisor rfl rfl gl2 hq ?_)
  refine ld 137 m.ob (m.2.2 0) ?_
  refine And.intro (nI_ne0 gp gl) ?_
  refine sw (404 + 3 * d) (nI (x / gcd3 x y q)) (m.inA (j := 404 + 3 * d) rfl rfl rfl (by first | with_reducible rfl | (try simp (disch := omega) only [pk_rem]) <;> simp (disch := omega) only [nl0, nl1, nl2, nl3, nl4, nl8, nl9, nl10, nl12, nl20, nl24, nl30, nl32, nl40, nl48, nl100, nl120, nl200, nl255, nl400, nl404, nl524, nl900, nl1000, nl9999, nl16, nl65536, nI_add, pk_mul, pk_sub, pk_div, pk_rem, Nat.add_zero, Nat.zero_add, Nat.mul_one, Nat.add_sub_cancel_left, Nat.add_sub_cancel]) (by omega) rfl) (ix_of (by first | with_reducible rfl | (try simp (disch := omega) only [pk_rem]) <;> simp (disch := omega) only [nl0, nl1, nl2, nl3, nl4, nl8, nl9, nl10, nl12, nl20, nl24, nl30, nl32, nl40, nl48, nl100, nl120, nl200, nl255, nl400, nl404, nl524, nl900, nl1000, nl9999, nl16, nl65536, nI_add, pk_mul, pk_sub, pk_div, pk_rem, Nat.add_zero, Nat.zero_add, Nat.mul_one, Nat.add_sub_cancel_left, Nat.add_sub_cancel]) (by omega)) (pk_div hx gp gl) ?_
  refine ld 137 m.ob (m.2.2 0) ?_
  refine And.intro (nI_ne0 gp gl) ?_
  refine sw (404 + 3 * d + 1) (nI (y / gcd3 x y q)) (m.inA (j := 404 + 3 * d + 1) rfl rfl rfl (by first | with_reducible rfl | (try simp (disch := omega) only [pk_rem]) <;> simp (disch := omega) only [nl0, nl1, nl2, nl3, nl4, nl8, nl9, nl10, nl12, nl20, nl24, nl30, nl32, nl40, nl48, nl100, nl120, nl200, nl255, nl400, nl404, nl524, nl900, nl1000, nl9999, nl16, nl65536, nI_add, pk_mul, pk_sub, pk_div, pk_rem, Nat.add_zero, Nat.zero_add, Nat.mul_one, Nat.add_sub_cancel_left, Nat.add_sub_cancel]) (by omega) rfl) (ix_of (by first | with_reducible rfl | (try simp (disch := omega) only [pk_rem]) <;> simp (disch := omega) only [nl0, nl1, nl2, nl3, nl4, nl8, nl9, nl10, nl12, nl20, nl24, nl30, nl32, nl40, nl48, nl100, nl120, nl200, nl255, nl400, nl404, nl524, nl900, nl1000, nl9999, nl16, nl65536, nI_add, pk_mul, pk_sub, pk_div, pk_rem, Nat.add_zero, Nat.zero_add, Nat.mul_one, Nat.add_sub_cancel_left, Nat.add_sub_cancel]) (by omega)) (pk_div hy gp gl) ?_
  refine ld 137 m.ob (m.2.2 0) ?_
  refine And.intro (nI_ne0 gp gl) ?_
  refine sw (404 + 3 * d + 2) (nI (q / gcd3 x y q)) (m.inA (j := 404 + 3 * d + 2) rfl rfl rfl (by first | with_reducible rfl | (try simp (disch := omega) only [pk_rem]) <;> simp (disch := omega) only [nl0, nl1, nl2, nl3, nl4, nl8, nl9, nl10, nl12, nl20, nl24, nl30, nl32, nl40, nl48, nl100, nl120, nl200, nl255, nl400, nl404, nl524, nl900, nl1000, nl9999, nl16, nl65536, nI_add, pk_mul, pk_sub, pk_div, pk_rem, Nat.add_zero, Nat.zero_add, Nat.mul_one, Nat.add_sub_cancel_left, Nat.add_sub_cancel]) (by omega) rfl) (ix_of (by first | with_reducible rfl | (try simp (disch := omega) only [pk_rem]) <;> simp (disch := omega) only [nl0, nl1, nl2, nl3, nl4, nl8, nl9, nl10, nl12, nl20, nl24, nl30, nl32, nl40, nl48, nl100, nl120, nl200, nl255, nl400, nl404, nl524, nl900, nl1000, nl9999, nl16, nl65536, nI_add, pk_mul, pk_sub, pk_div, pk_rem, Nat.add_zero, Nat.zero_add, Nat.mul_one, Nat.add_sub_cancel_left, Nat.add_sub_cancel]) (by omega)) (pk_div hq gp gl) ?_
  exact hK _ (((Fr.rf.setI rfl).setI rfl).setI rfl) (nR_set (nR_set (nR_set er)))
theorem sM_comes {x y : Nat} {a b : Int32} (m : MS h) (er : hI h 137 = nR ρ) (ha : a = nI x) (hb : b = nI y) (hn : pcn ρ < 40) (hx : x < 20) (hy : y < 20) (hK : ∀ h', Fr [137] h h' → hI h' 137 = nR (addD ρ x y) → K none h') : Spec G l (mt mM_comes) [vR 136, vI a, vI b] h K := by
  subst ha; subst hb
  refine eM_comes 99 [] fun S Cu hS hC => ?_
  refine And.intro (m.ob) (hS _ _ _ _ (sM_dotsR m er ?_))
  refine And.intro (m.ob) (hS _ _ _ _ (sM_lays m er rfl rfl rfl rfl hn (by omega) (by omega) (by decide) (by decide) fun h' f e' => ?_))
  have m' := m.fr f
  rw [lay_1] at e'
  refine ld 137 m'.ob (m'.2.2 0) ?_
  refine ld _ (m'.inA (j := 3) rfl rfl rfl rfl (by decide) rfl) (rd e' rfl (by decide)) ?_
  refine sw 3 (nI (pcn ρ + 1)) (m'.inA (j := 3) rfl rfl rfl rfl (by decide) rfl) rfl ?_ ?_
  · show nI (setD ρ (pcn ρ) x y 1 3) + 1 = _
    rw [setD_lo (by decide), nI_1]; rfl
  · exact hK _ (f.setI rfl) (nR_set e')
/-- dots from d on come one forward -/
theorem sM_goes {d : Nat} {a : Int32} (p : MP h ρ) (ha : a = nI d) (hd : d < pcn ρ) (hK : ∀ h', Fr [137] h h' → hI h' 137 = nR (delD ρ d) → K none h') : Spec G l (mt mM_goes) [vR 136, vI a] h K := by
  subst ha
  have g := p.2.2.n
  have m := p.1
  -- the last loop
  have lp2 : ∀ k, k ≤ 3 → ∀ h', Fr [137] h h' → hI h' 137 = nR (fun j => if j = 3 then pcn ρ - 1 else if j < 404 + 3 * d then ρ j else if j < 404 + 3 * (pcn ρ - 1) then ρ (j + 3) else if j < 404 + 3 * (pcn ρ - 1) + k then 0 else ρ j) → ∀ i, i = nI k → Go G l (mt mM_goes) 56 [some (vR 136), some (vI (nI d)), some (vI i)] [] h' 0 0 K := by
    refine upto _ ?_
    intro k hk ih h' f er i hi
    subst hi
    have m := m.fr f
    refine gM_goes 99 [(56, 3)] fun S Cu hS hC => ?_
    refine pk_le 3 k (fun q => ?_) (fun q => ?_)
    · obtain rfl : k = 3 := by omega
      refine hK h' f (er.trans ?_)
      unfold delD
      rw [show 404 + 3 * (pcn ρ - 1) + 3 = 404 + 3 * pcn ρ by omega]
    · refine ld 137 m.ob (m.2.2 0) ?_
      refine And.intro (m.ob) (hS _ _ _ _ (sM_dotsR m er ?_))
      have en : pcn (fun j => if j = 3 then pcn ρ - 1 else if j < 404 + 3 * d then ρ j else if j < 404 + 3 * (pcn ρ - 1) then ρ (j + 3) else if j < 404 + 3 * (pcn ρ - 1) + k then 0 else ρ j) = pcn ρ - 1 := by unfold pcn; rfl
      rw [en]
      refine sw (404 + 3 * (pcn ρ - 1) + k) (nI 0) (m.inA (j := 404 + 3 * (pcn ρ - 1) + k) rfl rfl rfl (by first | with_reducible rfl | (try simp (disch := omega) only [pk_rem]) <;> simp (disch := omega) only [nl0, nl1, nl2, nl3, nl4, nl8, nl9, nl10, nl12, nl20, nl24, nl30, nl32, nl40, nl48, nl100, nl120, nl200, nl255, nl400, nl404, nl524, nl900, nl1000, nl9999, nl16, nl65536, nI_add, pk_mul, pk_sub, pk_div, pk_rem, Nat.add_zero, Nat.zero_add, Nat.mul_one, Nat.add_sub_cancel_left, Nat.add_sub_cancel]) (by omega) rfl) (ix_of (by first | with_reducible rfl | (try simp (disch := omega) only [pk_rem]) <;> simp (disch := omega) only [nl0, nl1, nl2, nl3, nl4, nl8, nl9, nl10, nl12, nl20, nl24, nl30, nl32, nl40, nl48, nl100, nl120, nl200, nl255, nl400, nl404, nl524, nl900, nl1000, nl9999, nl16, nl65536, nI_add, pk_mul, pk_sub, pk_div, pk_rem, Nat.add_zero, Nat.zero_add, Nat.mul_one, Nat.add_sub_cancel_left, Nat.add_sub_cancel]) (by omega)) rfl ?_
      refine hC _ _ _ _ (ih q _ (f.setI rfl) ((nR_set er).trans (congrArg nR (funext fun j => ?_))) _ (nI_1 k))
      (try unfold pu); (try dsimp only); (repeat' split) <;> first | rfl | (exfalso; omega) | exact congrArg _ (by omega)
  have lp1 : ∀ k, k ≤ 3 * (pcn ρ - 1 - d) → ∀ h', Fr [137] h h' → hI h' 137 = nR (fun j => if j < 404 + 3 * d then ρ j else if j < 404 + 3 * d + k then ρ (j + 3) else ρ j) → ∀ i, i = nI (404 + 3 * d + k) → Go G l (mt mM_goes) 8 [some (vR 136), some (vI (nI d)), some (vI i)] [] h' 0 0 K := by
    refine upto _ ?_
    intro k hk ih h' f er i hi
    subst hi
    have m := m.fr f
    refine gM_goes 99 [(8, 3), (56, 3)] fun S Cu hS hC => ?_
    refine And.intro (m.ob) (hS _ _ _ _ (sM_dotsR m er ?_))
    have en : pcn (fun j => if j < 404 + 3 * d then ρ j else if j < 404 + 3 * d + k then ρ (j + 3) else ρ j) = pcn ρ := by show (if 3 < 404 + 3 * d then _ else _) = _; rw [if_pos (by omega)]; rfl
    rw [en]
    refine pk_le (404 + 3 * pcn ρ - 3) (404 + 3 * d + k) (fun q => ?_) (fun q => ?_) (by first | with_reducible rfl | (try simp (disch := omega) only [pk_rem]) <;> simp (disch := omega) only [nl0, nl1, nl2, nl3, nl4, nl8, nl9, nl10, nl12, nl20, nl24, nl30, nl32, nl40, nl48, nl100, nl120, nl200, nl255, nl400, nl404, nl524, nl900, nl1000, nl9999, nl16, nl65536, nI_add, pk_mul, pk_sub, pk_div, pk_rem, Nat.add_zero, Nat.zero_add, Nat.mul_one, Nat.add_sub_cancel_left, Nat.add_sub_cancel]) rfl
    · obtain rfl : k = 3 * (pcn ρ - 1 - d) := by omega
      refine ld 137 m.ob (m.2.2 0) ?_
      refine ld (nI (pcn ρ)) (m.inA (j := 3) rfl rfl rfl rfl (by decide) rfl) ((rd er rfl (by decide)).trans (congrArg nI en)) ?_
      refine sw 3 (nI (pcn ρ - 1)) (m.inA (j := 3) rfl rfl rfl rfl (by decide) rfl) rfl (by first | with_reducible rfl | (try simp (disch := omega) only [pk_rem]) <;> simp (disch := omega) only [nl0, nl1, nl2, nl3, nl4, nl8, nl9, nl10, nl12, nl20, nl24, nl30, nl32, nl40, nl48, nl100, nl120, nl200, nl255, nl400, nl404, nl524, nl900, nl1000, nl9999, nl16, nl65536, nI_add, pk_mul, pk_sub, pk_div, pk_rem, Nat.add_zero, Nat.zero_add, Nat.mul_one, Nat.add_sub_cancel_left, Nat.add_sub_cancel]) ?_
      refine hC _ _ _ _ (lp2 0 (by omega) _ (f.setI rfl) ((nR_set er).trans (congrArg nR (funext fun j => ?_))) _ rfl)
      (try unfold pu); (try dsimp only); (repeat' split) <;> first | rfl | (exfalso; omega) | exact congrArg _ (by omega)
    · refine ld 137 m.ob (m.2.2 0) ?_
      refine ld 137 m.ob (m.2.2 0) ?_
      refine ld (nI (ρ (404 + 3 * d + k + 3))) (m.inA (j := 404 + 3 * d + k + 3) rfl rfl rfl (by first | with_reducible rfl | (try simp (disch := omega) only [pk_rem]) <;> simp (disch := omega) only [nl0, nl1, nl2, nl3, nl4, nl8, nl9, nl10, nl12, nl20, nl24, nl30, nl32, nl40, nl48, nl100, nl120, nl200, nl255, nl400, nl404, nl524, nl900, nl1000, nl9999, nl16, nl65536, nI_add, pk_mul, pk_sub, pk_div, pk_rem, Nat.add_zero, Nat.zero_add, Nat.mul_one, Nat.add_sub_cancel_left, Nat.add_sub_cancel]) (by omega) rfl) ((rd er (j := 404 + 3 * d + k + 3) (by first | with_reducible rfl | (try simp (disch := omega) only [pk_rem]) <;> simp (disch := omega) only [nl0, nl1, nl2, nl3, nl4, nl8, nl9, nl10, nl12, nl20, nl24, nl30, nl32, nl40, nl48, nl100, nl120, nl200, nl255, nl400, nl404, nl524, nl900, nl1000, nl9999, nl16, nl65536, nI_add, pk_mul, pk_sub, pk_div, pk_rem, Nat.add_zero, Nat.zero_add, Nat.mul_one, Nat.add_sub_cancel_left, Nat.add_sub_cancel]) (by omega)).trans (congrArg nI ?_)) ?_
      · show (if _ then _ else _) = _
        rw [if_neg (by omega), if_neg (by omega)]
      refine sw (404 + 3 * d + k) _ (m.inA (j := 404 + 3 * d + k) rfl rfl rfl (by first | with_reducible rfl | (try simp (disch := omega) only [pk_rem]) <;> simp (disch := omega) only [nl0, nl1, nl2, nl3, nl4, nl8, nl9, nl10, nl12, nl20, nl24, nl30, nl32, nl40, nl48, nl100, nl120, nl200, nl255, nl400, nl404, nl524, nl900, nl1000, nl9999, nl16, nl65536, nI_add, pk_mul, pk_sub, pk_div, pk_rem, Nat.add_zero, Nat.zero_add, Nat.mul_one, Nat.add_sub_cancel_left, Nat.add_sub_cancel]) (by omega) rfl) (ix_of (by first | with_reducible rfl | (try simp (disch := omega) only [pk_rem]) <;> simp (disch := omega) only [nl0, nl1, nl2, nl3, nl4, nl8, nl9, nl10, nl12, nl20, nl24, nl30, nl32, nl40, nl48, nl100, nl120, nl200, nl255, nl400, nl404, nl524, nl900, nl1000, nl9999, nl16, nl65536, nI_add, pk_mul, pk_sub, pk_div, pk_rem, Nat.add_zero, Nat.zero_add, Nat.mul_one, Nat.add_sub_cancel_left, Nat.add_sub_cancel]) (by omega)) rfl ?_
      refine hC _ _ _ _ (ih (by omega) _ (f.setI rfl) ((nR_set er).trans (congrArg nR (funext fun j => ?_))) _ (nI_1 _))
      (try unfold pu); (try dsimp only); (repeat' split) <;> first | rfl | (exfalso; omega) | exact congrArg _ (by omega)
  refine eM_goes 99 [(8, 3)] fun S Cu hS hC => ?_
  refine hC _ _ _ _ (lp1 0 (by omega) h Fr.rf (p.2.1.trans (congrArg nR (funext fun j => ?_))) _ (by first | with_reducible rfl | (try simp (disch := omega) only [pk_rem]) <;> simp (disch := omega) only [nl0, nl1, nl2, nl3, nl4, nl8, nl9, nl10, nl12, nl20, nl24, nl30, nl32, nl40, nl48, nl100, nl120, nl200, nl255, nl400, nl404, nl524, nl900, nl1000, nl9999, nl16, nl65536, nI_add, pk_mul, pk_sub, pk_div, pk_rem, Nat.add_zero, Nat.zero_add, Nat.mul_one, Nat.add_sub_cancel_left, Nat.add_sub_cancel]))
  (try unfold pu); (try dsimp only); (repeat' split) <;> first | rfl | (exfalso; omega) | exact congrArg _ (by omega)
end MM
