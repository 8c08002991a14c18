/-! ===== the class: spots, grey, ranks ===== -/
theorem sumN_put {P Q : Nat → Prop} {f : Nat → Nat} {a n : Nat} (ha : a < n) (hP : ¬ P a) (hQ : ∀ c, c < n → (Q c ↔ (P c ∨ a = c))) : sumN (fun c => wN (Q c) (f c)) n = sumN (fun c => wN (P c) (f c)) n + f a := by
  rw [← sumN_single (g := f) ha, ← sumN_add]
  refine sumN_congr fun c hc => ?_
  by_cases e : a = c
  · subst e; rw [wN_T ((hQ a hc).mpr (Or.inr rfl)), wN_F hP, wN_T rfl]; omega
  · rw [wN_F e, wN_eq (hQ c hc)]
    by_cases q : P c
    · rw [wN_T (Or.inl q), wN_T q, Nat.add_zero]
    · rw [wN_F (fun z => z.elim q e), wN_F q]
theorem cntT {P : Nat → Prop} {n : Nat} {o : Int32} (h : P n) (ho : o = nI (sumN (fun d => wN (P d) 1) n)) : o + 1 = nI (sumN (fun d => wN (P d) 1) (n + 1)) := by
  have e : sumN (fun d => wN (P d) 1) (n + 1) = sumN (fun d => wN (P d) 1) n + wN (P n) 1 := rfl
  rw [ho, e, wN_T h]; exact nI_1 _
theorem cntF {P : Nat → Prop} {n : Nat} {o : Int32} (h : ¬ P n) (ho : o = nI (sumN (fun d => wN (P d) 1) n)) : o = nI (sumN (fun d => wN (P d) 1) (n + 1)) := by
  have e : sumN (fun d => wN (P d) 1) (n + 1) = sumN (fun d => wN (P d) 1) n + wN (P n) 1 := rfl
  rw [ho, e, wN_F h]; rfl
/-- the part of a rectangle that comes ahead of a place -/
def wiP (ρ : Pic) (i j r q x y c : Nat) : Prop := wi ρ i j r q c ∧ (c / pcw ρ < y ∨ (c / pcw ρ = y ∧ c % pcw ρ < x))
noncomputable def greyP (ρ : Pic) (i j r q x y : Nat) : Nat := sumN (fun c => wN (wiP ρ i j r q x y c) (pcW ρ c)) (pcc ρ)
theorem greyP_0 {ρ : Pic} {i j r q : Nat} : greyP ρ i j r q i j = 0 := by
  refine sumN_zero fun c _ => wN_F fun z => ?_
  unfold wiP wi at z; omega
theorem greyP_row {ρ : Pic} {i j r q y : Nat} : greyP ρ i j r q (r + 1) y = greyP ρ i j r q i (y + 1) := by
  refine sumN_congr fun c _ => wN_eq ?_
  unfold wiP wi; omega
theorem greyP_all {ρ : Pic} {i j r q : Nat} (h : j ≤ q + 1) : greyP ρ i j r q i (q + 1) = grey ρ i j r q := by
  refine sumN_congr fun c _ => wN_eq ?_
  unfold wiP wi; omega
theorem cel_lt {ρ : Pic} {x y : Nat} (hx : x < pcw ρ) (hy : y < pch ρ) : pcw ρ * y + x < pcc ρ ∧ (pcw ρ * y + x) % pcw ρ = x ∧ (pcw ρ * y + x) / pcw ρ = y := by
  refine ⟨?_, ?_, ?_⟩
  · have : pcw ρ * (y + 1) ≤ pcw ρ * pch ρ := Nat.mul_le_mul_left _ hy
    rw [Nat.mul_succ] at this; unfold pcc; omega
  · rw [Nat.mul_add_mod, Nat.mod_eq_of_lt hx]
  · rw [Nat.mul_add_div (by omega), Nat.div_eq_of_lt hx]; rfl
theorem greyP_s {ρ : Pic} {i j r q x y : Nat} (hx : x < pcw ρ) (hy : y < pch ρ) (h1 : i ≤ x) (h2 : x ≤ r) (h3 : j ≤ y) (h4 : y ≤ q) : greyP ρ i j r q (x + 1) y = greyP ρ i j r q x y + pcW ρ (pcw ρ * y + x) := by
  obtain ⟨c1, c2, c3⟩ := cel_lt hx hy
  refine sumN_put c1 (fun z => ?_) (fun c hc => ?_)
  · unfold wiP at z; rw [c2, c3] at z; omega
  · unfold wiP wi
    constructor
    · rintro ⟨a, b⟩
      by_cases e : c / pcw ρ = y ∧ c % pcw ρ = x
      · right; rw [← Nat.div_add_mod c (pcw ρ), e.1, e.2]
      · left; refine ⟨a, ?_⟩; omega
    · rintro (⟨a, b⟩ | e)
      · exact ⟨a, by omega⟩
      · subst e; rw [c2, c3]; omega
theorem greyP_le {ρ : Pic} (g : Good ρ) (i j r q x y : Nat) : greyP ρ i j r q x y ≤ 3600 := by
  have gc := g.c
  refine Nat.le_trans (sumN_le (M := 9) fun c hc => Nat.le_trans (wN_le _ _) (g.2.1 c (by omega))) (by omega)
theorem grey_all {ρ : Pic} (g : Good ρ) : grey ρ 0 0 (pcw ρ - 1) (pch ρ - 1) = allW ρ := by
  refine sumN_congr fun c hc => wN_T ?_
  have := g.xy hc
  unfold wi; generalize c / pcw ρ = z at *; omega
section CC
variable {G : GP} {l : Launch} {K : Option AV → AH → Prop} {h : AH} {ρ : Pic}
variable {s : Nat}
theorem sS_nearestWhole {a b : Int32} {x q : Nat} (ha : a = nI x) (hb : b = nI q) (hx : x ≤ 68400) (h0 : 1 ≤ q) (hq : q ≤ 3600) (hK : K (some (vI (nI (nw x q)))) h) : Spec G l (mt mS_nearestWhole) [vI a, vI b] h K := by
  subst ha; subst hb
  refine eS_nearestWhole 39 [] fun S Cu hS hC => ?_
  refine pk_le q 0 (fun z => by omega) (fun _ => ?_)
  have e : (2 : Int32) * nI q = nI (2 * q) := pk_mul 2 q
  refine And.intro (by rw [e]; exact nI_ne0 (by omega) (by omega)) ?_
  refine rtI (K := K) ?_ hK
  unfold nw
  rw [e]
  first | with_reducible rfl | (try simp (disch := omega) only [pk_rem]) <;> simp (disch := omega) only [nl0, nl1, nl2, nl3, nl4, nl8, nl9, nl10, nl12, nl20, nl24, nl30, nl32, nl40, nl48, nl100, nl120, nl200, nl255, nl400, nl404, nl524, nl900, nl1000, nl9999, nl16, nl65536, nI_add, pk_mul, pk_sub, pk_div, pk_rem, Nat.add_zero, Nat.zero_add, Nat.mul_one, Nat.add_sub_cancel_left, Nat.add_sub_cancel]
theorem sS_spotColumn {a : Int32} {d : Nat} (x : SC h s ρ) (ha : a = nI d) (hd : d < pcn ρ) (hK : K (some (vI (nI (spX ρ d)))) h) : Spec G l (mt mS_spotColumn) [vR s, vI a] h K := by
  subst ha
  have g := x.2.2.2.n
  have g2 := x.2.2.2.d hd
  refine eS_spotColumn 39 [] fun S Cu hS hC => ?_
  refine ld _ x.ob x.r5 ?_
  refine ld _ (x.inX rfl (by omega)) (x.X rfl hd) ?_
  refine ld _ x.ob x.r7 ?_
  refine ld _ (x.inD rfl (by omega)) (x.D rfl hd) ?_
  exact hS _ _ _ _ (sS_nearestWhole rfl rfl (by omega) (by omega) (by omega) hK)
theorem sS_spotRow {a : Int32} {d : Nat} (x : SC h s ρ) (ha : a = nI d) (hd : d < pcn ρ) (hK : K (some (vI (nI (spY ρ d)))) h) : Spec G l (mt mS_spotRow) [vR s, vI a] h K := by
  subst ha
  have g := x.2.2.2.n
  have g2 := x.2.2.2.d hd
  refine eS_spotRow 39 [] fun S Cu hS hC => ?_
  refine ld _ x.ob x.r6 ?_
  refine ld _ (x.inY rfl (by omega)) (x.Y rfl hd) ?_
  refine ld _ x.ob x.r7 ?_
  refine ld _ (x.inD rfl (by omega)) (x.D rfl hd) ?_
  exact hS _ _ _ _ (sS_nearestWhole rfl rfl (by omega) (by omega) (by omega) hK)
theorem sS_spotOf {a : Int32} {d : Nat} (x : SC h s ρ) (ha : a = nI d) (hd : d < pcn ρ) (hK : K (some (vI (nI (spot ρ d)))) h) : Spec G l (mt mS_spotOf) [vR s, vI a] h K := by
  subst ha
  refine eS_spotOf 39 [] fun S Cu hS hC => ?_
  refine And.intro (x.ob) (hS _ _ _ _ (sS_spotColumn x rfl hd ?_))
  refine And.intro (x.ob) (hS _ _ _ _ (sS_spotRow x rfl hd ?_))
  refine And.intro (x.ob) (hS _ _ _ _ (sS_numberOf x rfl rfl ?_))
  exact hK
theorem sS_spotsWithin {a b c e : Int32} {i j r q : Nat} (x : SC h s ρ) (ha : a = nI i) (hb : b = nI j) (hc : c = nI r) (he : e = nI q) (hi : i < 2 ^ 30) (hj : j < 2 ^ 30) (hr : r < 2 ^ 30) (hq : q < 2 ^ 30) (hK : K (some (vI (nI (dIn ρ i j r q)))) h) : Spec G l (mt mS_spotsWithin) [vR s, vI a, vI b, vI c, vI e] h K := by
  subst ha; subst hb; subst hc; subst he
  have g := x.2.2.2.n
  have lp : ∀ k, k ≤ pcn ρ → ∀ u o z7 z8, u = nI k → o = nI (sumN (fun d => wN (wi ρ i j r q (spot ρ d)) 1) k) → Go G l (mt mS_spotsWithin) 6 [some (vR s), some (vI (nI i)), some (vI (nI j)), some (vI (nI r)), some (vI (nI q)), some (vI o), some (vI u), z7, z8] [] h 0 0 K := by
    refine upto _ ?_
    intro k hk ih u o z7 z8 hu ho
    subst hu
    refine gS_spotsWithin 99 [(6, 7)] fun S Cu hS hC => ?_
    refine ld _ x.ob x.2.2.1.1.2.2.1 ?_
    refine pk_le (pcn ρ) k (fun q2 => ?_) (fun q2 => ?_)
    · obtain rfl : k = pcn ρ := by omega
      subst ho; exact hK
    · obtain ⟨p1, p2, p3, p4, p5⟩ := spot_xy x.2.2.2 q2
      have no : ¬ wi ρ i j r q (spot ρ k) → Go G l (mt mS_spotsWithin) 6 [some (vR s), some (vI (nI i)), some (vI (nI j)), some (vI (nI r)), some (vI (nI q)), some (vI o), some (vI (nI k + 1)), none, none] [] h 0 0 K := fun z => ih q2 _ _ _ _ (nI_1 k) (cntF (P := fun d => wi ρ i j r q (spot ρ d)) z ho)
      unfold wi at no
      rw [p4, p5] at no
      refine And.intro (x.ob) (hS _ _ _ _ (sS_spotColumn x rfl q2 ?_))
      refine And.intro (x.ob) (hS _ _ _ _ (sS_spotRow x rfl q2 ?_))
      refine pk_lt (spX ρ k) i (fun q3 => ?_) (fun q3 => ?_)
      · exact hC _ _ _ _ (no (by omega))
      refine pk_lt r (spX ρ k) (fun q4 => ?_) (fun q4 => ?_)
      · exact hC _ _ _ _ (no (by omega))
      refine pk_lt (spY ρ k) j (fun q5 => ?_) (fun q5 => ?_)
      · exact hC _ _ _ _ (no (by omega))
      refine pk_lt q (spY ρ k) (fun q6 => ?_) (fun q6 => ?_)
      · exact hC _ _ _ _ (no (by omega))
      exact hC _ _ _ _ (ih q2 _ _ _ _ (nI_1 k) (cntT (P := fun d => wi ρ i j r q (spot ρ d)) (by unfold wi; rw [p4, p5]; omega) ho))
  exact eS_spotsWithin 19 [(6, 7)] fun S Cu hS hC => hC _ _ _ _ (lp 0 (by omega) _ _ _ _ rfl rfl)
theorem sS_greyWithin {a b c e : Int32} {i j r q : Nat} (x : SC h s ρ) (ha : a = nI i) (hb : b = nI j) (hc : c = nI r) (he : e = nI q) (hi : i ≤ r + 1) (hj : j ≤ q + 1) (hr : r < pcw ρ) (hq : q < pch ρ) (hK : K (some (vI (nI (grey ρ i j r q)))) h) : Spec G l (mt mS_greyWithin) [vR s, vI a, vI b, vI c, vI e] h K := by
  subst ha; subst hb; subst hc; subst he
  have g := x.2.2.2.n
  have gc := x.2.2.2.c
  have out : ∀ k, k ≤ q + 1 - j → ∀ u o z7, u = nI (j + k) → o = nI (greyP ρ i j r q i (j + k)) → Go G l (mt mS_greyWithin) 6 [some (vR s), some (vI (nI i)), some (vI (nI j)), some (vI (nI r)), some (vI (nI q)), some (vI o), some (vI u), z7] [] h 0 0 K := by
    refine upto _ ?_
    intro k hk ih u o z7 hu ho
    subst hu
    have inn : k < q + 1 - j → ∀ m, m ≤ r + 1 - i → ∀ v o, v = nI (i + m) → o = nI (greyP ρ i j r q (i + m) (j + k)) → Go G l (mt mS_greyWithin) 16 [some (vR s), some (vI (nI i)), some (vI (nI j)), some (vI (nI r)), some (vI (nI q)), some (vI o), some (vI (nI (j + k))), some (vI v)] [] h 0 0 K := by
      intro hk2
      refine upto _ ?_
      intro m hm ih2 v o hv ho
      subst hv
      refine gS_greyWithin 99 [(6, 7), (16, 8)] fun S Cu hS hC => ?_
      refine pk_lt r (i + m) (fun q2 => ?_) (fun q2 => ?_)
      · have em : i + m = r + 1 := by omega
        refine hC _ _ _ _ (ih hk2 _ _ _ (nI_1 _) ?_)
        rw [ho, em, greyP_row]; rfl
      · refine ld _ x.ob x.r4 ?_
        refine ld _ x.ob x.2.2.1.1.1 ?_
        obtain ⟨c1, c2, c3⟩ := cel_lt (ρ := ρ) (x := i + m) (y := j + k) (by omega) (by omega)
        have e : nI (j + k) * nI (pcw ρ) + nI (i + m) = nI (pcw ρ * (j + k) + (i + m)) := by rw [pk_mul, nI_add, Nat.mul_comm]
        refine ld _ (x.inW e (by omega)) (x.W e c1) ?_
        refine hC _ _ _ _ (ih2 (by omega) _ _ (nI_1 (i + m)) ?_)
        rw [ho, nI_add, ← greyP_s (by omega) (by omega) (by omega) (by omega) (by omega) (by omega)]; rfl
    refine gS_greyWithin 99 [(16, 8)] fun S Cu hS hC => ?_
    refine pk_lt q (j + k) (fun q2 => ?_) (fun q2 => ?_)
    · have ek : j + k = q + 1 := by omega
      rw [ek, greyP_all hj] at ho
      subst ho; exact hK
    · exact hC _ _ _ _ (inn (by omega) 0 (by omega) _ _ rfl ho)
  refine eS_greyWithin 19 [(6, 7)] fun S Cu hS hC => ?_
  exact hC _ _ _ _ (out 0 (by omega) _ _ _ rfl (by rw [Nat.add_zero, greyP_0]; rfl))
theorem sS_dotsAheadOf {a b c : Int32} {d i j : Nat} (x : SC h s ρ) (ha : a = nI d) (hb : b = nI i) (hc : c = nI j) (hd : d < pcn ρ) (hi : i < pcw ρ) (hj : j < pch ρ) (hK : K (some (vI (nI (rank ρ (pcw ρ * j + i) d)))) h) : Spec G l (mt mS_dotsAheadOf) [vR s, vI a, vI b, vI c] h K := by
  subst ha; subst hb; subst hc
  have g := x.2.2.2.n
  obtain ⟨c1, c2, c3⟩ := cel_lt (ρ := ρ) hi hj
  have lp : ∀ k, k ≤ pcn ρ → ∀ u o z5 z7 z10 z11 z12 z13, u = nI k → o = nI (sumN (fun e => wN (nearer ρ (pcw ρ * j + i) e d ∨ (e < d ∧ ¬ nearer ρ (pcw ρ * j + i) d e)) 1) k) → Go G l (mt mS_dotsAheadOf) 22 [some (vR s), some (vI (nI d)), some (vI (nI i)), some (vI (nI j)), some (vL (lN (gap ρ (pcw ρ * j + i) d))), z5, some (vL (lN (spn ρ d))), z7, some (vI o), some (vI u), z10, z11, z12, z13] [] h 0 0 K := by
    refine upto _ ?_
    intro k hk ih u o z5 z7 z10 z11 z12 z13 hu ho
    subst hu
    refine gS_dotsAheadOf 99 [(22, 10)] fun S Cu hS hC => ?_
    refine ld _ x.ob x.2.2.1.1.2.2.1 ?_
    refine pk_le (pcn ρ) k (fun q2 => ?_) (fun q2 => ?_)
    · obtain rfl : k = pcn ρ := by omega
      subst ho; exact hK
    · refine And.intro (x.ob) (hS _ _ _ _ (sS_gap x rfl rfl rfl q2 hi hj ?_))
      refine And.intro (x.ob) (hS _ _ _ _ (sS_span x rfl q2 ?_))
      have b1 := Nat.lt_of_lt_of_le (gs_lt x.2.2.2 c1 q2 hd) (show 2 ^ 60 ≤ 2 ^ 63 by decide)
      have b2 := Nat.lt_of_lt_of_le (gs_lt x.2.2.2 c1 hd q2) (show 2 ^ 60 ≤ 2 ^ 63 by decide)
      have e1 : lN (gap ρ (pcw ρ * j + i) k) * lN (spn ρ d) < lN (gap ρ (pcw ρ * j + i) d) * lN (spn ρ k) ↔ nearer ρ (pcw ρ * j + i) k d := by
        rw [lN_mul, lN_mul, pk_lLT b1 b2]; rfl
      have e2 : lN (gap ρ (pcw ρ * j + i) k) * lN (spn ρ d) = lN (gap ρ (pcw ρ * j + i) d) * lN (spn ρ k) ↔ gap ρ (pcw ρ * j + i) k * spn ρ d = gap ρ (pcw ρ * j + i) d * spn ρ k := by
        rw [lN_mul, lN_mul, pk_lEQ b1 b2]
      have yes : (nearer ρ (pcw ρ * j + i) k d ∨ (k < d ∧ ¬ nearer ρ (pcw ρ * j + i) d k)) → o + 1 = nI (sumN (fun e => wN (nearer ρ (pcw ρ * j + i) e d ∨ (e < d ∧ ¬ nearer ρ (pcw ρ * j + i) d e)) 1) (k + 1)) := fun z => cntT (P := fun e => nearer ρ (pcw ρ * j + i) e d ∨ (e < d ∧ ¬ nearer ρ (pcw ρ * j + i) d e)) z ho
      have no : ¬ (nearer ρ (pcw ρ * j + i) k d ∨ (k < d ∧ ¬ nearer ρ (pcw ρ * j + i) d k)) → o = nI (sumN (fun e => wN (nearer ρ (pcw ρ * j + i) e d ∨ (e < d ∧ ¬ nearer ρ (pcw ρ * j + i) d e)) 1) (k + 1)) := fun z => cntF (P := fun e => nearer ρ (pcw ρ * j + i) e d ∨ (e < d ∧ ¬ nearer ρ (pcw ρ * j + i) d e)) z ho
      refine And.intro (fun q3 => ?_) (fun q3 => ?_)
      · exact hC _ _ _ _ (ih q2 _ _ _ _ _ _ _ _ (nI_1 k) (yes (Or.inl (e1.mp (ig_lt.mp q3)))))
      have q3 : ¬ nearer ρ (pcw ρ * j + i) k d := fun z => q3 (ig_lt.mpr (e1.mpr z))
      refine And.intro (fun q4 => ?_) (fun q4 => ?_)
      · refine hC _ _ _ _ (ih q2 _ _ _ _ _ _ _ _ (nI_1 k) (no fun z => ?_))
        rcases z with z | z
        · exact q3 z
        · refine q4 (ig_eq.mpr (e2.mpr ?_))
          have := z.2
          unfold nearer at q3 this
          omega
      have q4 := e2.mp (ig_eq.mp q4)
      refine pk_le d k (fun q5 => ?_) (fun q5 => ?_)
      · exact hC _ _ _ _ (ih q2 _ _ _ _ _ _ _ _ (nI_1 k) (no fun z => z.elim q3 (fun y => by omega)))
      · refine hC _ _ _ _ (ih q2 _ _ _ _ _ _ _ _ (nI_1 k) (yes (Or.inr ⟨q5, fun z => ?_⟩)))
        unfold nearer at z; omega
  refine eS_dotsAheadOf 39 [(22, 10)] fun S Cu hS hC => ?_
  refine And.intro (x.ob) (hS _ _ _ _ (sS_gap x rfl rfl rfl hd hi hj ?_))
  refine And.intro (x.ob) (hS _ _ _ _ (sS_span x rfl hd ?_))
  exact hC _ _ _ _ (lp 0 (by omega) _ _ _ _ _ _ _ _ rfl rfl)
end CC
