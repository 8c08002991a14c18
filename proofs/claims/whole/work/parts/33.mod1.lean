/-! ===== the model: small methods ===== -/
section MM
variable {G : GP} {l : Launch} {K : Option AV → AH → Prop} {h : AH} {ρ : Pic}
theorem sM_wide (p : MP h ρ) (hK : K (some (vI (nI (pcw ρ)))) h) : Spec G l (mt mM_wide) [vR 136] h K :=
  eM_wide 9 [] fun _ _ _ _ => ld 137 p.1.ob (p.1.2.2 0) (ld _ (p.1.inA (j := 0) rfl rfl rfl rfl (by decide) rfl) (rd p.2.1 rfl (by decide)) hK)
theorem sM_high (p : MP h ρ) (hK : K (some (vI (nI (pch ρ)))) h) : Spec G l (mt mM_high) [vR 136] h K :=
  eM_high 9 [] fun _ _ _ _ => ld 137 p.1.ob (p.1.2.2 0) (ld _ (p.1.inA (j := 1) rfl rfl rfl rfl (by decide) rfl) (rd p.2.1 rfl (by decide)) hK)
theorem sM_dots (p : MP h ρ) (hK : K (some (vI (nI (pcn ρ)))) h) : Spec G l (mt mM_dots) [vR 136] h K :=
  eM_dots 9 [] fun _ _ _ _ => ld 137 p.1.ob (p.1.2.2 0) (ld _ (p.1.inA (j := 3) rfl rfl rfl rfl (by decide) rfl) (rd p.2.1 rfl (by decide)) hK)
theorem sM_cells (p : MP h ρ) (hK : K (some (vI (nI (pcc ρ)))) h) : Spec G l (mt mM_cells) [vR 136] h K := by
  refine eM_cells 9 [] fun S Cu hS hC => ?_
  refine And.intro p.1.ob (hS _ _ _ _ (sM_wide p ?_))
  refine And.intro p.1.ob (hS _ _ _ _ (sM_high p ?_))
  exact rtI (K := K) (pk_mul _ _) hK
theorem sM_truth {q : Prop} (hK : K (some (vI (bI q))) h) : Spec G l (mt mM_truth) [vI (bI q)] h K :=
  eM_truth 9 [] fun _ _ _ _ => brE (fun q => rtF (K := K) q hK) (fun q => rtT (K := K) q hK)
theorem sM_isIn {a b c : Int64} (hK : K (some (vI (bI (b ≤ a ∧ a ≤ c)))) h) : Spec G l (mt mM_isIn) [vL a, vL b, vL c] h K := by
  refine eM_isIn 19 [] fun S Cu hS hC => ?_
  refine And.intro (fun q => ?_) (fun q => ?_)
  · exact rzF (fun z => absurd (ig_lt.mp q) (Int64.not_lt.mpr z.1)) hK
  · refine And.intro (fun r => ?_) (fun r => ?_)
    · exact rzF (fun z => absurd (ig_gt.mp r) (Int64.not_lt.mpr z.2)) hK
    · exact rzT ⟨Int64.not_lt.mp (fun z => q (ig_lt.mpr z)), Int64.not_lt.mp (fun z => r (ig_gt.mpr z))⟩ hK
/-- among lo .. hi, small numbers -/
theorem isIn_lh {x : Int32} {lo hi : Nat} (hl : lo < 2 ^ 31) (hh : hi < 2 ^ 31) : (lN lo ≤ x.toInt64 ∧ x.toInt64 ≤ lN hi) ↔ (∃ j, lo ≤ j ∧ j ≤ hi ∧ x = nI j) := by
  rw [← nI_l hl, ← nI_l hh, Int32.toInt64_le, Int32.toInt64_le]
  constructor
  · rintro ⟨a, b⟩
    have hx : ¬ x < 0 := fun z => absurd (Int32.le_trans (nI_pos' hl) a) (Int32.not_le.mpr z)
    obtain ⟨j, hj, rfl⟩ := nI_of hx
    exact ⟨j, (nI_leI hl hj).mp a, (nI_leI hj hh).mp b, rfl⟩
  · rintro ⟨j, a, b, rfl⟩
    exact ⟨(nI_leI hl (by omega)).mpr a, (nI_leI (by omega) hh).mpr b⟩
theorem isIn_n {x : Int32} {n : Nat} (hn : n < 2 ^ 30) : (lN 0 ≤ x.toInt64 ∧ x.toInt64 ≤ (nI n - 1).toInt64) ↔ inN x n := by
  rw [← nI_l (n := 0) (by decide), Int32.toInt64_le, Int32.toInt64_le]
  cases n with
  | zero =>
    constructor
    · rintro ⟨a, b⟩
      exact absurd (Int32.le_trans a b) (by decide)
    · rintro ⟨j, hj, -⟩; omega
  | succ n =>
    rw [nI_pred, inN_iff (by omega)]
    constructor
    · rintro ⟨a, b⟩
      refine ⟨a, Int32.lt_of_le_of_lt b (nI_lt (by omega) (by omega))⟩
    · rintro ⟨a, b⟩
      refine ⟨a, ?_⟩
      have hx : ¬ x < 0 := Int32.not_lt.mpr a
      obtain ⟨j, hj, rfl⟩ := nI_of hx
      have := (nI_ltI hj (by omega)).mp b
      exact nI_le (by omega) (by omega)
def isC (ρ : Pic) (x y : Int32) : Prop := inN x (pcw ρ) ∧ inN y (pch ρ)
theorem sM_isCell {x y : Int32} (p : MP h ρ) (hK : K (some (vI (bI (isC ρ x y)))) h) : Spec G l (mt mM_isCell) [vR 136, vI x, vI y] h K := by
  have g := p.2.2.n
  refine eM_isCell 39 [] fun S Cu hS hC => ?_
  refine And.intro p.1.ob (hS _ _ _ _ (sM_wide p ?_))
  refine hS _ _ _ _ (sM_isIn ?_)
  refine brE (fun q => ?_) (fun q => ?_)
  · exact rzF (fun z => q ((isIn_n (by omega)).mpr z.1)) hK
  refine And.intro p.1.ob (hS _ _ _ _ (sM_high p ?_))
  refine hS _ _ _ _ (sM_isIn ?_)
  refine brE (fun r => ?_) (fun r => ?_)
  · exact rzF (fun z => r ((isIn_n (by omega)).mpr z.2)) hK
  · exact rzT ⟨(isIn_n (by omega)).mp q, (isIn_n (by omega)).mp r⟩ hK
theorem sM_isDot {x : Int32} (p : MP h ρ) (hK : K (some (vI (bI (inN x (pcn ρ))))) h) : Spec G l (mt mM_isDot) [vR 136, vI x] h K := by
  have g := p.2.2.n
  refine eM_isDot 39 [] fun S Cu hS hC => ?_
  refine And.intro p.1.ob (hS _ _ _ _ (sM_dots p ?_))
  refine hS _ _ _ _ (sM_isIn ?_)
  exact And.intro (bI_01 _) (rtI (K := K) (bI_eq (isIn_n (by omega))) hK)
theorem sM_weight {c : Nat} {a : Int32} (p : MP h ρ) (ha : a = nI c) (hc : c < 400) (hK : K (some (vI (nI (pcW ρ c)))) h) : Spec G l (mt mM_weight) [vR 136, vI a] h K := by
  subst ha
  exact eM_weight 9 [] fun _ _ _ _ => ld 137 p.1.ob (p.1.2.2 0) (ld _ (p.1.inA (j := 4 + c) rfl rfl rfl (by first | with_reducible rfl | (try simp (disch := omega) only [pk_rem]) <;> simp (disch := omega) only [nl0, nl1, nl2, nl3, nl4, nl8, nl9, nl10, nl12, nl20, nl24, nl30, nl32, nl40, nl48, nl100, nl120, nl200, nl255, nl400, nl404, nl524, nl900, nl1000, nl9999, nl16, nl65536, nI_add, pk_mul, pk_sub, pk_div, pk_rem, Nat.add_zero, Nat.zero_add, Nat.mul_one, Nat.add_sub_cancel_left, Nat.add_sub_cancel]) (by omega) rfl) (rd p.2.1 (by first | with_reducible rfl | (try simp (disch := omega) only [pk_rem]) <;> simp (disch := omega) only [nl0, nl1, nl2, nl3, nl4, nl8, nl9, nl10, nl12, nl20, nl24, nl30, nl32, nl40, nl48, nl100, nl120, nl200, nl255, nl400, nl404, nl524, nl900, nl1000, nl9999, nl16, nl65536, nI_add, pk_mul, pk_sub, pk_div, pk_rem, Nat.add_zero, Nat.zero_add, Nat.mul_one, Nat.add_sub_cancel_left, Nat.add_sub_cancel]) (by omega)) hK)
theorem sM_numberOf {x y : Nat} {a b : Int32} (p : MP h ρ) (ha : a = nI x) (hb : b = nI y) (hK : K (some (vI (nI (pcw ρ * y + x)))) h) : Spec G l (mt mM_numberOf) [vR 136, vI a, vI b] h K := by
  subst ha; subst hb
  refine eM_numberOf 9 [] fun S Cu hS hC => ?_
  refine And.intro p.1.ob (hS _ _ _ _ (sM_wide p ?_))
  exact rtI (K := K) (by first | with_reducible rfl | (try simp (disch := omega) only [pk_rem]) <;> simp (disch := omega) only [nl0, nl1, nl2, nl3, nl4, nl8, nl9, nl10, nl12, nl20, nl24, nl30, nl32, nl40, nl48, nl100, nl120, nl200, nl255, nl400, nl404, nl524, nl900, nl1000, nl9999, nl16, nl65536, nI_add, pk_mul, pk_sub, pk_div, pk_rem, Nat.add_zero, Nat.zero_add, Nat.mul_one, Nat.add_sub_cancel_left, Nat.add_sub_cancel]) hK
theorem sM_xOf {d : Nat} {a : Int32} (p : MP h ρ) (ha : a = nI d) (hd : d < 40) (hK : K (some (vI (nI (pcX ρ d)))) h) : Spec G l (mt mM_xOf) [vR 136, vI a] h K := by
  subst ha
  exact eM_xOf 19 [] fun _ _ _ _ => ld 137 p.1.ob (p.1.2.2 0) (ld _ (p.1.inA (j := 404 + 3 * d) rfl rfl rfl (by first | with_reducible rfl | (try simp (disch := omega) only [pk_rem]) <;> simp (disch := omega) only [nl0, nl1, nl2, nl3, nl4, nl8, nl9, nl10, nl12, nl20, nl24, nl30, nl32, nl40, nl48, nl100, nl120, nl200, nl255, nl400, nl404, nl524, nl900, nl1000, nl9999, nl16, nl65536, nI_add, pk_mul, pk_sub, pk_div, pk_rem, Nat.add_zero, Nat.zero_add, Nat.mul_one, Nat.add_sub_cancel_left, Nat.add_sub_cancel]) (by omega) rfl) (rd p.2.1 (by first | with_reducible rfl | (try simp (disch := omega) only [pk_rem]) <;> simp (disch := omega) only [nl0, nl1, nl2, nl3, nl4, nl8, nl9, nl10, nl12, nl20, nl24, nl30, nl32, nl40, nl48, nl100, nl120, nl200, nl255, nl400, nl404, nl524, nl900, nl1000, nl9999, nl16, nl65536, nI_add, pk_mul, pk_sub, pk_div, pk_rem, Nat.add_zero, Nat.zero_add, Nat.mul_one, Nat.add_sub_cancel_left, Nat.add_sub_cancel]) (by omega)) hK)
theorem sM_yOf {d : Nat} {a : Int32} (p : MP h ρ) (ha : a = nI d) (hd : d < 40) (hK : K (some (vI (nI (pcY ρ d)))) h) : Spec G l (mt mM_yOf) [vR 136, vI a] h K := by
  subst ha
  exact eM_yOf 19 [] fun _ _ _ _ => ld 137 p.1.ob (p.1.2.2 0) (ld _ (p.1.inA (j := 404 + 3 * d + 1) rfl rfl rfl (by first | with_reducible rfl | (try simp (disch := omega) only [pk_rem]) <;> simp (disch := omega) only [nl0, nl1, nl2, nl3, nl4, nl8, nl9, nl10, nl12, nl20, nl24, nl30, nl32, nl40, nl48, nl100, nl120, nl200, nl255, nl400, nl404, nl524, nl900, nl1000, nl9999, nl16, nl65536, nI_add, pk_mul, pk_sub, pk_div, pk_rem, Nat.add_zero, Nat.zero_add, Nat.mul_one, Nat.add_sub_cancel_left, Nat.add_sub_cancel]) (by omega) rfl) (rd p.2.1 (by first | with_reducible rfl | (try simp (disch := omega) only [pk_rem]) <;> simp (disch := omega) only [nl0, nl1, nl2, nl3, nl4, nl8, nl9, nl10, nl12, nl20, nl24, nl30, nl32, nl40, nl48, nl100, nl120, nl200, nl255, nl400, nl404, nl524, nl900, nl1000, nl9999, nl16, nl65536, nI_add, pk_mul, pk_sub, pk_div, pk_rem, Nat.add_zero, Nat.zero_add, Nat.mul_one, Nat.add_sub_cancel_left, Nat.add_sub_cancel]) (by omega)) hK)
theorem sM_under {d : Nat} {a : Int32} (p : MP h ρ) (ha : a = nI d) (hd : d < pcn ρ) (hK : K (some (vL (lN (pcD ρ d)))) h) : Spec G l (mt mM_under) [vR 136, vI a] h K := by
  subst ha
  have g := p.2.2.n
  have g2 := p.2.2.d hd
  exact eM_under 19 [] fun _ _ _ _ => ld 137 p.1.ob (p.1.2.2 0) (ld _ (p.1.inA (j := 404 + 3 * d + 2) rfl rfl rfl (by first | with_reducible rfl | (try simp (disch := omega) only [pk_rem]) <;> simp (disch := omega) only [nl0, nl1, nl2, nl3, nl4, nl8, nl9, nl10, nl12, nl20, nl24, nl30, nl32, nl40, nl48, nl100, nl120, nl200, nl255, nl400, nl404, nl524, nl900, nl1000, nl9999, nl16, nl65536, nI_add, pk_mul, pk_sub, pk_div, pk_rem, Nat.add_zero, Nat.zero_add, Nat.mul_one, Nat.add_sub_cancel_left, Nat.add_sub_cancel]) (by omega) rfl) (rd p.2.1 (by first | with_reducible rfl | (try simp (disch := omega) only [pk_rem]) <;> simp (disch := omega) only [nl0, nl1, nl2, nl3, nl4, nl8, nl9, nl10, nl12, nl20, nl24, nl30, nl32, nl40, nl48, nl100, nl120, nl200, nl255, nl400, nl404, nl524, nl900, nl1000, nl9999, nl16, nl65536, nI_add, pk_mul, pk_sub, pk_div, pk_rem, Nat.add_zero, Nat.zero_add, Nat.mul_one, Nat.add_sub_cancel_left, Nat.add_sub_cancel]) (by omega)) (rtL (K := K) (nI_l (by show pcD ρ d < _; omega)) hK))
theorem sM_upper {c d : Nat} {a b : Int32} (p : MP h ρ) (ha : a = nI c) (hb : b = nI d) (hc : c < pcc ρ) (hd : d < pcn ρ) (hK : K (some (vL (lN (gap ρ c d)))) h) : Spec G l (mt mM_upper) [vR 136, vI a, vI b] h K := by
  subst ha; subst hb
  have g := p.2.2.n
  have g1 := p.2.2.c
  have g2 := p.2.2.d hd
  have g3 := p.2.2.xy hc
  refine eM_upper 99 [] fun S Cu hS hC => ?_
  refine And.intro p.1.ob (hS _ _ _ _ (sM_wide p ?_))
  refine And.intro (nI_ne0 (by omega) (by omega)) ?_
  refine And.intro p.1.ob (hS _ _ _ _ (sM_under p rfl hd ?_))
  refine And.intro p.1.ob (hS _ _ _ _ (sM_xOf p rfl (by omega) ?_))
  refine And.intro p.1.ob (hS _ _ _ _ (sM_wide p ?_))
  refine And.intro (nI_ne0 (by omega) (by omega)) ?_
  refine And.intro p.1.ob (hS _ _ _ _ (sM_under p rfl hd ?_))
  refine And.intro p.1.ob (hS _ _ _ _ (sM_yOf p rfl (by omega) ?_))
  refine rtL (K := K) ?_ hK
  (try simp (disch := omega) only [pk_rem, pk_lRem]) <;> simp (disch := omega) only [nl0, nl1, nl2, nl3, nl4, nl8, nl9, nl10, nl12, nl20, nl24, nl30, nl32, nl40, nl48, nl100, nl120, nl200, nl255, nl400, nl404, nl524, nl900, nl1000, nl9999, nl16, nl65536, nI_add, pk_mul, pk_sub, pk_div, pk_rem, nI_l, lN_add, lN_mul, lN_sqd, lN_i, ll0, ll1, ll1000]
  rfl
theorem sM_lower {d : Nat} {a : Int32} (p : MP h ρ) (ha : a = nI d) (hd : d < pcn ρ) (hK : K (some (vL (lN (spn ρ d)))) h) : Spec G l (mt mM_lower) [vR 136, vI a] h K := by
  subst ha
  refine eM_lower 19 [] fun S Cu hS hC => ?_
  refine And.intro p.1.ob (hS _ _ _ _ (sM_under p rfl hd ?_))
  refine And.intro p.1.ob (hS _ _ _ _ (sM_under p rfl hd ?_))
  exact rtL (K := K) (lN_mul _ _) hK
theorem sM_isNearer {c d e : Nat} {x y z : Int32} (p : MP h ρ) (hx : x = nI c) (hy : y = nI d) (hz : z = nI e) (hc : c < pcc ρ) (hd : d < pcn ρ) (he : e < pcn ρ) (hK : K (some (vI (bI (nearer ρ c d e)))) h) : Spec G l (mt mM_isNearer) [vR 136, vI x, vI y, vI z] h K := by
  subst hx; subst hy; subst hz
  have g := p.2.2
  refine eM_isNearer 39 [] fun S Cu hS hC => ?_
  refine And.intro p.1.ob (hS _ _ _ _ (sM_upper p rfl rfl hc hd ?_))
  refine And.intro p.1.ob (hS _ _ _ _ (sM_lower p rfl he ?_))
  refine And.intro p.1.ob (hS _ _ _ _ (sM_upper p rfl rfl hc he ?_))
  refine And.intro p.1.ob (hS _ _ _ _ (sM_lower p rfl hd ?_))
  have e : lN (gap ρ c d) * lN (spn ρ e) < lN (gap ρ c e) * lN (spn ρ d) ↔ nearer ρ c d e := by
    rw [lN_mul, lN_mul, pk_lLT (Nat.lt_of_lt_of_le (gs_lt g hc hd he) (by decide)) (Nat.lt_of_lt_of_le (gs_lt g hc he hd) (by decide))]; rfl
  refine And.intro (fun q => ?_) (fun q => ?_)
  · exact rzF (fun z => absurd q (Int32.not_le.mpr (ig_lt.mpr (e.mpr z)))) hK
  · exact rzT (e.mp (ig_lt.mp (Int32.not_le.mp q))) hK
theorem sM_ownerBut {c : Nat} {a b : Int32} (p : MP h ρ) (ha : a = nI c) (hc : c < pcc ρ) (hK : K (some (vI (oI (ow ρ (fun d => ¬ nI d = b) c (pcn ρ))))) h) : Spec G l (mt mM_ownerBut) [vR 136, vI a, vI b] h K := by
  subst ha
  have g := p.2.2.n
  have lp : ∀ k, k ≤ pcn ρ → ∀ i o, i = nI k → o = oI (ow ρ (fun d => ¬ nI d = b) c k) → Go G l (mt mM_ownerBut) 5 [some (vR 136), some (vI (nI c)), some (vI b), some (vI o), some (vI i)] [] h 0 0 K := by
    refine upto _ ?_
    intro k hk ih i o hi ho
    subst hi
    refine gM_ownerBut 99 [(5, 5)] fun S Cu hS hC => ?_
    refine And.intro p.1.ob (hS _ _ _ _ (sM_dots p ?_))
    refine pk_le (pcn ρ) k (fun q => ?_) (fun q => ?_)
    · obtain rfl : k = pcn ρ := by omega
      subst ho; exact hK
    · refine And.intro (fun r => ?_) (fun r => ?_)
      · refine hC _ _ _ _ (ih q _ _ (nI_1 k) (ho.trans ?_))
        rw [ow_skip (fun z => z r)]
      · cases e : ow ρ (fun d => ¬ nI d = b) c k with
        | none =>
          rw [e] at ho; subst ho
          refine And.intro (fun _ => ?_) (fun z => absurd rfl z)
          refine hC _ _ _ _ (ih q _ _ (nI_1 k) ?_)
          rw [ow_new e r]; rfl
        | some b2 =>
          have hb := (ow_lt e).1
          rw [e] at ho; subst ho
          refine And.intro (fun z => absurd z (nI_m1 (by omega))) (fun _ => ?_)
          refine And.intro p.1.ob (hS _ _ _ _ (sM_isNearer p rfl rfl rfl hc q (by omega) ?_))
          refine brE (fun z => ?_) (fun z => ?_)
          · refine hC _ _ _ _ (ih q _ _ (nI_1 k) ?_)
            rw [ow_stay e z]
          · refine hC _ _ _ _ (ih q _ _ (nI_1 k) ?_)
            rw [ow_near e r z]; rfl
  exact eM_ownerBut 9 [(5, 5)] fun S Cu hS hC => hC _ _ _ _ (lp 0 (by omega) _ _ rfl rfl)
end MM
