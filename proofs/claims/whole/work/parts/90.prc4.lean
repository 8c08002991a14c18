/-! ===== the class: the cheapest cell ===== -/
def cmR (ρ : Pic) (R : Nat → Nat) (a c : Nat) : Nat := mn (1000 * pcW ρ c * dq ρ c a) (R c)
def cmS (ρ : Pic) (R : Nat → Nat) (a : Nat) : Nat := sumN (cmR ρ R a) (pcc ρ)
theorem dq_le {ρ : Pic} (g : Good ρ) {c a : Nat} (hc : c < pcc ρ) (ha : a < pcc ρ) : dq ρ c a ≤ 722 := by
  have gn := g.n
  have x1 := g.xy hc
  have x2 := g.xy ha
  have q1 := sqd_le (a := c % pcw ρ) (b := a % pcw ρ) (m := 19) (by omega) (by omega)
  have q2 := sqd_le (a := c / pcw ρ) (b := a / pcw ρ) (m := 19) (by omega) (by omega)
  unfold dq; omega
theorem cmS_le {ρ : Pic} (g : Good ρ) {R : Nat → Nat} {a : Nat} (ha : a < pcc ρ) : cmS ρ R a ≤ 889200000 := by
  refine Nat.le_trans (sumN_mono fun c hc => ?_) (cmv_le g (O := fun _ => none) ha)
  show mn _ _ ≤ 1000 * pcW ρ c * dq ρ c a
  unfold mn; split <;> omega
section CC
variable {G : GP} {l : Launch} {K : Option AV → AH → Prop} {h : AH} {ρ : Pic}
variable {s : Nat}
theorem sQ_sumWithOneAt {u v : Int32} {i j B : Nat} {R : Nat → Nat} (x : SC h s ρ) (r : rst h ρ R) (hR : ∀ c, c < pcc ρ → R c < 2 ^ 31) (hu : u = nI i) (hv : v = nI j) (hi : i < pcw ρ) (hj : j < pch ρ) (hB : hI h 110 2 = nI B) (B31 : B < 2 ^ 31) (hK : ∀ n, n ≤ cmS ρ R (pcw ρ * j + i) → (n < B → n = cmS ρ R (pcw ρ * j + i)) → K (some (vI (nI n))) h) : Spec G l (mt mQ_sumWithOneAt) [vR 110, vI u, vI v, vR s] h K := by
  subst hu; subst hv
  have g := x.2.2.2.n
  have gc := x.2.2.2.c
  obtain ⟨a1, a2, a3⟩ := cel_lt (ρ := ρ) hi hj
  have fl := cmS_le x.2.2.2 (R := R) a1
  generalize ea : pcw ρ * j + i = a at *
  have sl : ∀ k, k ≤ pcc ρ → sumN (cmR ρ R a) k ≤ cmS ρ R a := fun k hk => sumN_mn hk
  have ob := x.1.ob (k := 110) (ci := 5) rfl rfl rfl
  have out : ∀ y, y ≤ pch ρ → ∀ o n yy z7 z8 z9, o = nI (sumN (cmR ρ R a) (pcw ρ * y)) → n = nI (pcw ρ * y) → yy = nI y → Go G l (mt mQ_sumWithOneAt) 9 [some (vR 110), some (vI (nI i)), some (vI (nI j)), some (vR s), some (vI o), some (vI n), some (vI yy), z7, z8, z9] [] h 0 0 K := by
    refine upto _ ?_
    intro y hy ih o n yy z7 z8 z9 ho hn hyy
    subst ho; subst hn; subst hyy
    have wy : pcw ρ * y ≤ pcc ρ := Nat.mul_le_mul_left _ hy
    have sy := sl _ wy
    have inn : y < pch ρ → ∀ m, m ≤ pcw ρ → ∀ o n xx dp z9, o = nI (sumN (cmR ρ R a) (pcw ρ * y + m)) → n = nI (pcw ρ * y + m) → xx = nI m → dp = nI (sqd y j) → Go G l (mt mQ_sumWithOneAt) 41 [some (vR 110), some (vI (nI i)), some (vI (nI j)), some (vR s), some (vI o), some (vI n), some (vI (nI y)), some (vI dp), some (vI xx), z9] [] h 0 0 K := by
      intro hy2
      refine upto _ ?_
      intro m hm ih2 o n xx dp z9 ho hn hxx hdp
      subst hn; subst hxx; subst hdp
      by_cases q : m < pcw ρ
      · obtain ⟨c1, c2, c3⟩ := cel_lt (ρ := ρ) q hy2
        have rl := hR _ c1
        have rc := r _ c1
        have nx : ∀ o, o = nI (sumN (cmR ρ R a) (pcw ρ * y + (m + 1))) → Go G l (mt mQ_sumWithOneAt) 103 [some (vR 110), some (vI (nI i)), some (vI (nI j)), some (vR s), some (vI o), some (vI (nI (pcw ρ * y + m))), some (vI (nI y)), some (vI (nI (sqd y j))), some (vI (nI m)), none] [] h 0 0 K := by
          intro o ho
          refine gQ_sumWithOneAt 99 [(41, 9)] fun S Cu hS hC => ?_
          exact hC _ _ _ _ (ih2 q _ _ _ _ _ ho (nI_1 _) (nI_1 m) rfl)
        refine gQ_sumWithOneAt 99 [(103, 9)] fun S Cu hS hC => ?_
        refine ld _ x.ob x.2.2.1.1.1 ?_
        refine pk_le (pcw ρ) m (fun z => by omega) (fun _ => ?_)
        refine ld 111 ob (x.1.rf (k := 110) (j := 0) rfl rfl) ?_
        refine ld (nI (R (pcw ρ * y + m))) (x.1.inA (k := 111) (n := 400) rfl rfl rfl rfl (by omega) rfl) (rdX rfl (by omega) rc) ?_
        refine pk_le (R (pcw ρ * y + m)) 0 (fun q1 => ?_) (fun q1 => ?_)
        · refine hC _ _ _ _ (nx _ ?_)
          rw [ho, ← Nat.add_assoc]
          show _ = nI (sumN _ _ + mn _ (R (pcw ρ * y + m)))
          unfold mn
          rw [show R (pcw ρ * y + m) = 0 by omega, if_neg (Nat.not_lt_zero _)]; rfl
        · have w9 := x.2.2.2.2.1 (pcw ρ * y + m) (by omega)
          have dl := dq_le x.2.2.2 c1 a1
          have pl : 1000 * pcW ρ (pcw ρ * y + m) * dq ρ (pcw ρ * y + m) a ≤ 9000 * 722 := Nat.mul_le_mul (by omega) dl
          refine ld 111 ob (x.1.rf (k := 110) (j := 0) rfl rfl) ?_
          refine ld (nI (R (pcw ρ * y + m))) (x.1.inA (k := 111) (n := 400) rfl rfl rfl rfl (by omega) rfl) (rdX rfl (by omega) rc) ?_
          refine ld _ x.ob x.r4 ?_
          refine ld _ (x.inW rfl (by omega)) (x.W rfl c1) ?_
          refine hC _ _ _ _ (nx _ ?_)
          have eA : nI (pcW ρ (pcw ρ * y + m)) * 1000 * (nI (sqd y j) + (nI m - nI i) * (nI m - nI i)) = nI (1000 * pcW ρ (pcw ρ * y + m) * dq ρ (pcw ρ * y + m) a) := by
            unfold dq
            rw [nI_sqd, nI_add, show (1000 : Int32) = nI 1000 from rfl, pk_mul, pk_mul, c2, c3, a2, a3, Nat.mul_comm (pcW ρ (pcw ρ * y + m)), Nat.add_comm (sqd m i)]
          rw [eA, ho, ← Nat.add_assoc]
          show _ = nI (sumN _ _ + mn _ (R (pcw ρ * y + m)))
          unfold mn
          by_cases z : 1000 * pcW ρ (pcw ρ * y + m) * dq ρ (pcw ρ * y + m) a < R (pcw ρ * y + m)
          · rw [if_pos ((nI_ltI (by omega) rl).mpr z), if_pos z, nI_add]
          · rw [if_neg (fun w => z ((nI_ltI (by omega) rl).mp w)), if_neg z, nI_add]
      · obtain rfl : m = pcw ρ := by omega
        refine gQ_sumWithOneAt 99 [(9, 7)] fun S Cu hS hC => ?_
        refine ld _ x.ob x.2.2.1.1.1 ?_
        refine And.intro (fun _ => ?_) (fun z => absurd (Int32.le_refl _) z)
        exact hC _ _ _ _ (ih hy2 _ _ _ _ _ _ (by rw [Nat.mul_succ]; exact ho) (by rw [Nat.mul_succ]) (nI_1 y))
    refine gQ_sumWithOneAt 99 [(41, 9)] fun S Cu hS hC => ?_
    refine ld _ x.ob x.2.2.1.1.2.1 ?_
    refine pk_le (pch ρ) y (fun q => ?_) (fun q => ?_)
    · obtain rfl : y = pch ρ := by omega
      exact hK _ (Nat.le_refl _) (fun _ => rfl)
    · refine ld _ ob hB ?_
      refine pk_le B (sumN (cmR ρ R a) (pcw ρ * y)) (fun q2 => ?_) (fun q2 => ?_)
      · exact hK _ sy (fun z => by omega)
      · exact hC _ _ _ _ (inn q 0 (by omega) _ _ _ _ _ rfl rfl rfl (nI_sqd _ _))
  refine eQ_sumWithOneAt 19 [(9, 7)] fun S Cu hS hC => ?_
  exact hC _ _ _ _ (out 0 (Nat.zero_le _) _ _ _ _ _ _ rfl rfl rfl)
/-- the cheapest of the first k cells -/
def chp (h : AH) (F : Nat → Nat) (k : Nat) : Prop := (k = 0 ∧ hI h 110 1 = nI 0 ∧ hI h 110 2 = nI 2147483647) ∨ (0 < k ∧ hI h 110 1 = nI (argm F k) ∧ hI h 110 2 = nI (F (argm F k)))
theorem sQ_findCheapest {R : Nat → Nat} (x : SC h s ρ) (r : rst h ρ R) (hR : ∀ c, c < pcc ρ → R c < 2 ^ 31) (hK : ∀ h', F1 110 h h' → hI h' 110 1 = nI (argm (cmS ρ R) (pcc ρ)) → hI h' 110 2 = nI (cmS ρ R (argm (cmS ρ R) (pcc ρ))) → K none h') : Spec G l (mt mQ_findCheapest) [vR 110, vR s] h K := by
  have g := x.2.2.2.n
  have gc := x.2.2.2.c
  have out : ∀ y, y ≤ pch ρ → ∀ h1, F1 110 h h1 → chp h1 (cmS ρ R) (pcw ρ * y) → ∀ yy z3 z4, yy = nI y → Go G l (mt mQ_findCheapest) 13 [some (vR 110), some (vR s), some (vI yy), z3, z4] [] h1 0 0 K := by
    refine upto _ ?_
    intro y hy ih h1 f cp yy z3 z4 hyy
    subst hyy
    have inn : y < pch ρ → ∀ m, m ≤ pcw ρ → ∀ h1, F1 110 h h1 → chp h1 (cmS ρ R) (pcw ρ * y + m) → ∀ xx z4, xx = nI m → Go G l (mt mQ_findCheapest) 23 [some (vR 110), some (vR s), some (vI (nI y)), some (vI xx), z4] [] h1 0 0 K := by
      intro hy2
      refine upto _ ?_
      intro m hm ih2 h1 f cp xx z4 hxx
      subst hxx
      have x1 : SC h1 s ρ := x.fx (L := [110]) (f.x (Or.inr rfl)) rfl
      have r1 : rst h1 ρ R := fun c hc => by rw [f.2.2.2.2 111 (by decide)]; exact r c hc
      have ob := x1.1.ob (k := 110) (ci := 5) rfl rfl rfl
      by_cases q : m < pcw ρ
      · obtain ⟨c1, c2, c3⟩ := cel_lt (ρ := ρ) q hy2
        have fl := cmS_le x.2.2.2 (R := R) c1
        have al : 0 < pcw ρ * y + m → cmS ρ R (argm (cmS ρ R) (pcw ρ * y + m)) ≤ 889200000 := fun z => cmS_le x.2.2.2 (by have := argm_lt (f := cmS ρ R) z; omega)
        have eB : ∃ B, hI h1 110 2 = nI B ∧ B < 2 ^ 31 ∧ (B = 2147483647 ∧ pcw ρ * y + m = 0 ∨ (0 < pcw ρ * y + m ∧ B = cmS ρ R (argm (cmS ρ R) (pcw ρ * y + m)))) := by
          rcases cp with ⟨k0, _, e2⟩ | ⟨k0, _, e2⟩
          · exact ⟨_, e2, by omega, Or.inl ⟨rfl, k0⟩⟩
          · have := al k0
            exact ⟨_, e2, by omega, Or.inr ⟨k0, rfl⟩⟩
        obtain ⟨B, eB, B31, bB⟩ := eB
        refine gQ_findCheapest 99 [(23, 4)] fun S Cu hS hC => ?_
        refine ld _ x1.ob x1.2.2.1.1.1 ?_
        refine pk_le (pcw ρ) m (fun z => by omega) (fun _ => ?_)
        refine And.intro ob (hS _ _ _ _ (sQ_sumWithOneAt x1 r1 hR rfl rfl q hy2 eB B31 fun n n1 n2 => ?_))
        refine ld _ ob eB ?_
        refine pk_le B n (fun q1 => ?_) (fun q1 => ?_)
        · refine hC _ _ _ _ (ih2 q h1 f ?_ _ _ (nI_1 m))
          rw [← Nat.add_assoc]
          rcases bB with ⟨b1, b2⟩ | ⟨b1, b2⟩
          · omega
          · rcases cp with ⟨k0, _, _⟩ | ⟨k0, e1, e2⟩
            · omega
            · refine Or.inr ⟨by omega, ?_⟩
              have : argm (cmS ρ R) (pcw ρ * y + m + 1) = argm (cmS ρ R) (pcw ρ * y + m) := if_neg (by omega)
              rw [this]; exact ⟨e1, e2⟩
        · have en := n2 q1
          subst en
          refine ld _ ob rfl ?_
          have f2 : F1 110 h (setI h1 110 2 (nI (cmS ρ R (pcw ρ * y + m)))) := f.setI
          have x2 : SC _ s ρ := x.fx (L := [110]) (f2.x (Or.inr rfl)) rfl
          refine And.intro x2.ob (hS _ _ _ _ (sS_numberOf x2 rfl rfl ?_))
          refine ld _ (x2.1.ob (k := 110) (ci := 5) rfl rfl rfl) rfl ?_
          refine hC _ _ _ _ (ih2 q _ f2.setI ?_ _ _ (nI_1 m))
          have : argm (cmS ρ R) (pcw ρ * y + (m + 1)) = pcw ρ * y + m := by
            rw [← Nat.add_assoc]
            rcases bB with ⟨b1, b2⟩ | ⟨b1, b2⟩
            · rw [b2]; exact argm_1
            · exact if_pos (by omega)
          refine Or.inr ⟨by omega, ?_, ?_⟩
          · rw [si_eq, this]
          · rw [si_ne (by decide), si_eq, this]
      · obtain rfl : m = pcw ρ := by omega
        refine gQ_findCheapest 99 [(13, 3)] fun S Cu hS hC => ?_
        refine ld _ x1.ob x1.2.2.1.1.1 ?_
        refine And.intro (fun _ => ?_) (fun z => absurd (Int32.le_refl _) z)
        exact hC _ _ _ _ (ih hy2 h1 f (by rw [Nat.mul_succ]; exact cp) _ _ _ (nI_1 y))
    have x1 : SC h1 s ρ := x.fx (L := [110]) (f.x (Or.inr rfl)) rfl
    refine gQ_findCheapest 99 [(23, 4)] fun S Cu hS hC => ?_
    refine ld _ x1.ob x1.2.2.1.1.2.1 ?_
    refine pk_le (pch ρ) y (fun q => ?_) (fun q => ?_)
    · obtain rfl : y = pch ρ := by omega
      have : pcw ρ * pch ρ = pcc ρ := rfl
      rcases cp with ⟨k0, _⟩ | ⟨_, e1, e2⟩
      · omega
      · exact hK h1 f e1 e2
    · exact hC _ _ _ _ (inn q 0 (by omega) h1 f cp _ _ rfl)
  have ob := x.1.ob (k := 110) (ci := 5) rfl rfl rfl
  refine eQ_findCheapest 39 [(13, 3)] fun S Cu hS hC => ?_
  refine ld (nI 0) ob rfl ?_
  refine ld (nI 2147483647) ob rfl ?_
  refine hC _ _ _ _ (out 0 (Nat.zero_le _) _ (F1.rf.setI.setI) (Or.inl ⟨rfl, ?_, si_eq⟩) _ _ _ rfl)
  rw [si_ne (by decide), si_eq]
end CC
/-- an owner that is not left out stays -/
theorem owB_stay {ρ : Pic} (g : Good ρ) {c d b : Nat} (h : own ρ c = some b) (hb : ¬ b = d) : owB ρ d c = some b := by
  have sp := spn_all g
  have h1 := ow_is (ρ := ρ) (S := fun _ => True) (c := c) sp
  have h2 := ow_is (ρ := ρ) (S := fun e => ¬ e = d) (c := c) sp
  refine h2.uni ?_
  unfold own at h
  rw [h] at h1
  rcases h1 with ⟨e, _⟩ | ⟨b', e, l, _, al⟩
  · cases e
  · injection e with e; subst e
    exact Or.inr ⟨b, rfl, l, hb, fun d hd _ => al d hd trivial⟩
theorem rsA_m1 {ρ : Pic} {c : Nat} : rsA ρ (-1) c = cstO ρ c (own ρ c) := by
  unfold rsA; rw [if_neg (fun z => z.1 rfl)]
theorem rsA_d {ρ : Pic} (g : Good ρ) {d c : Nat} (hd : d < pcn ρ) : rsA ρ (nI d) c = rsO ρ c (owB ρ d c) := by
  have gn := g.n
  unfold rsA
  by_cases q : oI (own ρ c) = nI d
  · rw [if_pos ⟨nI_m1 (by omega), q⟩, ix_nI (by omega)]
  · rw [if_neg (fun z => q z.2)]
    cases e : own ρ c with
    | none =>
      obtain ⟨b, hb⟩ := own_some (ρ := ρ) (c := c) (by omega)
      rw [e] at hb; cases hb
    | some b =>
      have : owB ρ d c = some b := owB_stay g e (fun z => q (by rw [e, z]; rfl))
      rw [this]; rfl
theorem rsA_lt {ρ : Pic} (g : Good ρ) {a : Int32} (ha : a = -1 ∨ ∃ d, d < pcn ρ ∧ a = nI d) : ∀ c, c < pcc ρ → rsA ρ a c < 2 ^ 31 := by
  intro c hc
  rcases ha with rfl | ⟨d, hd, rfl⟩
  · rw [rsA_m1]
    have := ow_any g (S := fun _ => True) hc
    unfold own; omega
  · rw [rsA_d g hd]
    cases e : owB ρ d c with
    | none => show (if _ then 0 else 2147483647) < _; split <;> omega
    | some b =>
      have := cst_le g hc (ow_lt e).1
      show cst ρ c b < _; omega
theorem cm_more {ρ : Pic} (hn : 0 < pcn ρ) : cmS ρ (rsA ρ (-1)) = cmv ρ (own ρ) := by
  funext a
  refine sumN_congr fun c hc => ?_
  obtain ⟨b, hb⟩ := own_some (ρ := ρ) (c := c) hn
  unfold cmR cmc
  rw [rsA_m1, hb]; rfl
theorem cm_best {ρ : Pic} (g : Good ρ) {d a : Nat} (hd : d < pcn ρ) (ha : a < pcc ρ) : cmS ρ (rsA ρ (nI d)) a = cmv ρ (owB ρ d) a := by
  refine sumN_congr fun c hc => ?_
  unfold cmR cmc
  rw [rsA_d g hd]
  have w9 := g.2.1 c (by have := g.c; omega)
  have dl := dq_le g hc ha
  have pl : 1000 * pcW ρ c * dq ρ c a ≤ 9000 * 722 := Nat.mul_le_mul (by omega) dl
  cases owB ρ d c with
  | none =>
    show mn _ (if _ then 0 else _) = 1000 * pcW ρ c * dq ρ c a
    unfold mn
    by_cases w0 : pcW ρ c = 0
    · rw [if_pos w0, if_neg (Nat.not_lt_zero _), w0, Nat.mul_zero, Nat.zero_mul]
    · rw [if_neg w0, if_pos (by omega)]
  | some b => rfl
theorem argm_cg {f g : Nat → Nat} : ∀ {n : Nat}, (∀ i, i < n → f i = g i) → argm f n = argm g n
  | 0, _ => rfl
  | n + 1, h => by
    have ih := argm_cg (n := n) (fun i hi => h i (by omega))
    show (if f n < f (argm f n) then n else argm f n) = (if g n < g (argm g n) then n else argm g n)
    by_cases z : n = 0
    · subst z; rw [ih]; show (if f 0 < f 0 then 0 else 0) = (if g 0 < g 0 then 0 else 0); split <;> split <;> rfl
    · have l := argm_lt (f := g) (show 0 < n by omega)
      rw [ih, h n (by omega), h _ (by omega)]
theorem sum_loss {ρ : Pic} (g : Good ρ) {d : Nat} (hd : d < pcn ρ) (hn : 1 < pcn ρ) : sumN (rsA ρ (nI d)) (pcc ρ) = costX ρ d := by
  refine sumN_congr fun c hc => ?_
  rw [rsA_d g hd]
  have : ∃ b, owB ρ d c = some b := by
    by_cases z : d = 0
    · exact ow_some (d := 1) hn (by omega)
    · exact ow_some (d := 0) (by omega) (by omega)
  obtain ⟨b, hb⟩ := this
  rw [hb]; rfl
