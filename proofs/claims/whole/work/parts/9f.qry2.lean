/-! ===== the class: closest, loads, ties, due ===== -/
def clQ (s : Option (Nat × Nat × Nat)) : Int64 := match s with
  | none => lN 2147483647
  | some q => lN q.1
theorem ig_ge0 {x y : Int64} : 0 ≤ lg_cmp x y ↔ ¬ x < y := by
  rw [← ig_lt]; exact ⟨fun a b => absurd b (Int32.not_lt.mpr a), fun a => Int32.not_lt.mp a⟩
section CC
variable {G : GP} {l : Launch} {K : Option AV → AH → Prop} {h : AH} {ρ : Pic}
variable {sl : Nat → Nat} {tp : Nat → Nat} {tn : Nat} {ft fp : Int32} {pa : Nat → Pic} {an un : Nat} {sm sc : Nat → Int32} {sn : Nat} {bx : Nat → Pic} {bk : Nat → Prop}
theorem sC_closest {w : Int32} (r : CR h tp tn ft fp ρ pa an un sm sc sn bx bk) (hK : K (some (vI (aClosest ρ w))) h) : Spec G l (mt mC_closest) [vR 1, vI w] h K := by
  obtain ⟨sl, r⟩ := r
  have g := r.x.2.2.2.n
  have gd := r.x.2.2.2
  unfold aClosest at hK
  have iw := inN_iff (x := w) (n := 3) (by decide)
  have no : (pcn ρ < 2 ∨ ¬ inN w 3) → Go G l (mt mC_closest) 20 [some (vR 1), some (vI w), none, none, none, none, none, none, none, none] [] h 0 0 K := by
    intro q
    refine gC_closest 39 [] fun S Cu hS hC => ?_
    by_cases n2 : pcn ρ < 2
    · have : clO ρ (pcn ρ) = none := by
        have : pcn ρ = 0 ∨ pcn ρ = 1 := by omega
        rcases this with z | z
        · rw [z]; rfl
        · rw [z]; show clI ρ 0 (clO ρ 0) (pcn ρ) = none; rw [z, clI_skip 1 (by decide)]; rfl
      rw [this] at hK; exact hK
    · have q := q.resolve_left n2
      cases e : clO ρ (pcn ρ) with
      | none => rw [e] at hK; exact hK
      | some s =>
        rw [e] at hK
        have hK : K (some (vI (sel w [nI s.1, nI s.2.1, nI s.2.2]))) h := hK
        rw [sel_out (w := w) (l := [nI s.1, nI s.2.1, nI s.2.2]) (fun i hi y => q ⟨i, hi, y⟩)] at hK
        exact hK
  refine eC_closest 99 [(20, 2), (35, 7)] fun S Cu hS hC => ?_
  refine ld (sl 0) r.ob r.now ?_
  refine ld _ r.x.ob r.x.2.2.1.1.2.2.1 ?_
  refine pk_lt (pcn ρ) 2 (fun q => ?_) (fun q => ?_)
  · exact hC _ _ _ _ (no (Or.inl q))
  refine And.intro (fun q2 => ?_) (fun q2 => ?_)
  · exact hC _ _ _ _ (no (Or.inr (fun z => absurd (iw.mp z).1 (Int32.not_le.mpr q2))))
  obtain ⟨v, hv, ew⟩ := nI_of q2
  subst ew
  refine pk_le v 2 (fun q3 => ?_) (fun q3 => ?_)
  · have out : ∀ a, a ≤ pcn ρ → ∀ le c d i z3 z7 z8 z9, le = clQ (clO ρ a) → c = clA (clO ρ a) → d = clB (clO ρ a) → i = nI a → Go G l (mt mC_closest) 35 [some (vR 1), some (vI (nI v)), some (vL le), z3, some (vI c), some (vI d), some (vI i), z7, z8, z9] [] h 0 0 K := by
      refine upto _ ?_
      intro a ha ih le c d i z3 z7 z8 z9 hle hc hd hi
      subst hi
      have ok := clO_ok gd a ha
      have inn : a < pcn ρ → ∀ k, k ≤ pcn ρ → a < k → ∀ le c d i z3 z8 z9, le = clQ (clI ρ a (clO ρ a) k) → c = clA (clI ρ a (clO ρ a) k) → d = clB (clI ρ a (clO ρ a) k) → i = nI k → Go G l (mt mC_closest) 53 [some (vR 1), some (vI (nI v)), some (vL le), z3, some (vI c), some (vI d), some (vI (nI a)), some (vI i), z8, z9] [] h 0 0 K := by
        intro ha2
        refine upto _ ?_
        intro k hk ih2 ak le c d i z3 z8 z9 hle hc hd hi
        subst hi
        have ok2 := clI_ok gd ha2 ok.1 k hk
        refine gC_closest 99 [(35, 7), (53, 8)] fun S Cu hS hC => ?_
        refine ld (sl 0) r.ob r.now ?_
        refine ld _ r.x.ob r.x.2.2.1.1.2.2.1 ?_
        refine pk_le (pcn ρ) k (fun z => ?_) (fun z => ?_)
        · obtain rfl : k = pcn ρ := by omega
          exact hC _ _ _ _ (ih ha2 _ _ _ _ _ _ _ _ hle hc hd (nI_1 a))
        have al := aptD_le gd gd ha2 z
        refine ld (sl 0) r.ob r.now ?_
        refine ld (sl 0) r.ob r.now ?_
        refine And.intro (r.x.ob) (hS _ _ _ _ (sS_apart r.x r.x rfl rfl ha2 z ?_))
        cases es : clI ρ a (clO ρ a) k with
        | none =>
          rw [es] at hle
          have e := clI_new ak es
          refine And.intro (fun y => ?_) (fun _ => ?_)
          · exact absurd ((pk_lLT (a := aptD ρ ρ a k) (b := 2147483647) (by omega) (by omega)).mpr (by omega)) (by rw [hle] at y; exact ig_ge0.mp y)
          · exact hC _ _ _ _ (ih2 z (by omega) _ _ _ _ _ _ _ (by rw [e]; rfl) (by rw [e]; rfl) (by rw [e]; rfl) (nI_1 k))
        | some s =>
          rw [es] at hle hc hd
          have sl1 := ok2.1 s es
          have lt : lN (aptD ρ ρ a k) < le ↔ aptD ρ ρ a k < s.1 := by rw [hle]; exact pk_lLT (by omega) (by omega)
          refine And.intro (fun y => ?_) (fun y => ?_)
          · have y : ¬ aptD ρ ρ a k < s.1 := fun w => ig_ge0.mp y (lt.mpr w)
            have e := clI_ge ak es y
            exact hC _ _ _ _ (ih2 z (by omega) _ _ _ _ _ _ _ (by rw [e]; exact hle) (by rw [e]; exact hc) (by rw [e]; exact hd) (nI_1 k))
          · have y : aptD ρ ρ a k < s.1 := Classical.byContradiction fun w => y (ig_ge0.mpr fun x => w (lt.mp x))
            have e := clI_lt ak es y
            exact hC _ _ _ _ (ih2 z (by omega) _ _ _ _ _ _ _ (by rw [e]; rfl) (by rw [e]; rfl) (by rw [e]; rfl) (nI_1 k))
      refine gC_closest 99 [(53, 8)] fun S Cu hS hC => ?_
      refine ld (sl 0) r.ob r.now ?_
      refine ld _ r.x.ob r.x.2.2.1.1.2.2.1 ?_
      refine pk_le (pcn ρ) a (fun z => ?_) (fun z => ?_)
      · obtain rfl : a = pcn ρ := by omega
        cases es : clO ρ (pcn ρ) with
        | none => exact absurd es (ok.2 (by omega) (by omega))
        | some s =>
          rw [es] at hK hle hc hd
          have hK : K (some (vI (sel (nI v) [nI s.1, nI s.2.1, nI s.2.2]))) h := hK
          have v3 : v = 0 ∨ v = 1 ∨ v = 2 := by omega
          refine And.intro (fun e => ?_) (fun n0 => And.intro (fun e => ?_) (fun n1 => ?_))
          · rw [sel_in (i := 0) e (by decide) rfl] at hK
            refine rtI (K := K) ?_ hK
            rw [hle]; exact lN_i _
          · rw [sel_in (i := 1) e (by decide) rfl] at hK
            exact rtI (K := K) hc hK
          · have : v = 2 := by
              rcases v3 with rfl | rfl | rfl
              · exact absurd rfl n0
              · exact absurd rfl n1
              · rfl
            subst this
            rw [sel_in (i := 2) rfl (by decide) rfl] at hK
            exact rtI (K := K) hd hK
      · refine hC _ _ _ _ (inn z (a + 1) (by omega) (by omega) _ _ _ _ _ _ _ ?_ ?_ ?_ (nI_1 a))
        · rw [clI_skip (a + 1) (Nat.le_refl _)]; exact hle
        · rw [clI_skip (a + 1) (Nat.le_refl _)]; exact hc
        · rw [clI_skip (a + 1) (Nat.le_refl _)]; exact hd
    exact hC _ _ _ _ (out 0 (Nat.zero_le _) _ _ _ _ _ _ _ _ rfl rfl rfl rfl)
  · refine hC _ _ _ _ (no (Or.inr (fun ⟨m, hm, e⟩ => ?_)))
    have := (nI_eq hv (by omega)).mp e
    omega
theorem sC_firstGreatest {k : Nat} {f : Nat → Nat} (r : CRs h sl tp tn ft fp ρ pa an un sm sc sn bx bk) (hk : k = 13 ∨ k = 14) (ef : ∀ d, d < pcn ρ → hI h k d = nI (f d) ∧ f d < 2 ^ 31) (c0 : 0 < pcn ρ) (hK : K (some (vI (nI (argx f (pcn ρ))))) h) : Spec G l (mt mC_firstGreatest) [vR 1, vR k] h K := by
  have g := r.x.2.2.2.n
  have inA : ∀ {i : Nat}, i < 40 → InA h k 0 (nI i) := fun {i} hi => by
    rcases hk with rfl | rfl
    · exact r.cs.inA (k := 13) (n := 40) rfl rfl rfl rfl hi rfl
    · exact r.cs.inA (k := 14) (n := 40) rfl rfl rfl rfl hi rfl
  have lp : ∀ m, m ≤ pcn ρ → 1 ≤ m → ∀ o v, o = nI (argx f m) → v = nI m → Go G l (mt mC_firstGreatest) 4 [some (vR 1), some (vR k), some (vI o), some (vI v)] [] h 0 0 K := by
    refine upto _ ?_
    intro m hm ih m1 o v ho hv
    subst hv; subst ho
    have xl := argx_lt (f := f) m1
    refine gC_firstGreatest 99 [(4, 4)] fun S Cu hS hC => ?_
    refine ld (sl 0) r.ob r.now ?_
    refine ld _ r.x.ob r.x.2.2.1.1.2.2.1 ?_
    refine pk_le (pcn ρ) m (fun z => ?_) (fun z => ?_)
    · obtain rfl : m = pcn ρ := by omega
      exact hK
    have e1 := ef m z
    have e2 := ef (argx f m) (by omega)
    refine ld (nI (f m)) (inA (by omega)) (rdX rfl (by omega) e1.1) ?_
    refine ld (nI (f (argx f m))) (inA (by omega)) (rdX rfl (by omega) e2.1) ?_
    refine pk_le (f m) (f (argx f m)) (fun y => ?_) (fun y => ?_) rfl rfl e1.2 e2.2
    · have : argx f (m + 1) = argx f m := if_neg (by omega)
      exact hC _ _ _ _ (ih z (by omega) _ _ (by rw [this]) (nI_1 m))
    · have : argx f (m + 1) = m := if_pos y
      exact hC _ _ _ _ (ih z (by omega) _ _ (by rw [this]) (nI_1 m))
  refine eC_firstGreatest 19 [(4, 4)] fun S Cu hS hC => ?_
  refine hC _ _ _ _ (lp 1 c0 (Nat.le_refl _) _ _ ?_ rfl)
  show (0 : Int32) = nI (if f 0 < f 0 then 0 else 0)
  split <;> rfl
theorem sC_leastOf {f : Nat → Nat} (r : CRs h sl tp tn ft fp ρ pa an un sm sc sn bx bk) (ef : ∀ d, d < pcn ρ → hI h 13 d = nI (f d) ∧ f d < 2 ^ 31) (c0 : 0 < pcn ρ) (hK : K (some (vI (nI (f (argm f (pcn ρ)))))) h) : Spec G l (mt mC_leastOf) [vR 1, vR 13] h K := by
  have g := r.x.2.2.2.n
  have lp : ∀ m, m ≤ pcn ρ → ∀ o v, ((m = 0 ∧ o = nI 2147483647) ∨ (0 < m ∧ o = nI (f (argm f m)))) → v = nI m → Go G l (mt mC_leastOf) 6 [some (vR 1), some (vR 13), some (vI o), some (vI v)] [] h 0 0 K := by
    refine upto _ ?_
    intro m hm ih o v ho hv
    subst hv
    refine gC_leastOf 99 [(6, 4)] fun S Cu hS hC => ?_
    refine ld (sl 0) r.ob r.now ?_
    refine ld _ r.x.ob r.x.2.2.1.1.2.2.1 ?_
    refine pk_le (pcn ρ) m (fun z => ?_) (fun z => ?_)
    · obtain rfl : m = pcn ρ := by omega
      rcases ho with ⟨e, _⟩ | ⟨_, e⟩
      · omega
      · subst e; exact hK
    have e1 := ef m z
    refine ld (nI (f m)) (r.cs.inA (k := 13) (n := 40) rfl rfl rfl rfl (by omega) rfl) (rdX rfl (by omega) e1.1) ?_
    refine hC _ _ _ _ (ih z _ _ (Or.inr ⟨by omega, ?_⟩) (nI_1 m))
    rcases ho with ⟨e, eo⟩ | ⟨m1, eo⟩
    · subst e
      rw [eo, argm_1]
      by_cases y : f 0 < 2147483647
      · rw [if_pos ((nI_ltI e1.2 (by omega)).mpr y)]
      · rw [if_neg (fun w => y ((nI_ltI e1.2 (by omega)).mp w)), show f 0 = 2147483647 by have := e1.2; omega]
    · have xl := argm_lt (f := f) m1
      have e2 := (ef (argm f m) (by omega)).2
      rw [eo]
      by_cases y : f m < f (argm f m)
      · have : argm f (m + 1) = m := if_pos y
        rw [if_pos ((nI_ltI e1.2 e2).mpr y), this]
      · have : argm f (m + 1) = argm f m := if_neg y
        rw [if_neg (fun w => y ((nI_ltI e1.2 e2).mp w)), this]
  refine eC_leastOf 19 [(6, 4)] fun S Cu hS hC => ?_
  exact hC _ _ _ _ (lp 0 (Nat.zero_le _) _ _ (Or.inl ⟨rfl, rfl⟩) rfl)
theorem sC_loads {w : Int32} (r : CR h tp tn ft fp ρ pa an un sm sc sn bx bk) (hK : ∀ h', FC h h' → CR h' tp tn ft fp ρ pa an un sm sc sn bx bk → K (some (vI (aLoads ρ w))) h') : Spec G l (mt mC_loads) [vR 1, vI w] h K := by
  obtain ⟨sl, r⟩ := r
  have g := r.x.2.2.2.n
  unfold aLoads at hK
  refine eC_loads 99 [] fun S Cu hS hC => ?_
  refine ld (sl 0) r.ob r.now ?_
  refine ld _ r.x.ob r.x.2.2.1.1.2.2.1 ?_
  refine And.intro (fun q => ?_) (fun q => ?_)
  · have c0 : 0 < pcn ρ := Nat.pos_of_ne_zero (fun z => q (by rw [z]; rfl))
    rw [cif_T c0] at hK
    refine And.intro r.ob (hS _ _ _ _ (sC_upToDate r fun h2 f2 r2 d2 => ?_))
    have hK := hK h2 (f2.m9 rfl) r2.r
    have el : ∀ d, d < pcn ρ → hI h2 13 d = nI (load ρ d) ∧ load ρ d < 2 ^ 31 := fun d hd => ⟨d2.ld (by omega), by have := load_le r.x.2.2.2 d; omega⟩
    have eb : ∀ d, d < pcn ρ → hI h2 14 d = nI (bill ρ d) ∧ bill ρ d < 2 ^ 31 := fun d hd => ⟨(d2.2.2.1 d (by omega)).2.2.1, by have := bill_le r.x.2.2.2 d; omega⟩
    have f13 : hR h2 7 5 = 13 := r2.cs.fr (f := 7) (j := 5) (Or.inl rfl) (by decide)
    have f14 : hR h2 7 6 = 14 := r2.cs.fr (f := 7) (j := 6) (Or.inl rfl) (by decide)
    have ob := r2.cs.fob (f := 7) (Or.inl rfl)
    refine And.intro (fun e => ?_) (fun n0 => And.intro (fun e => ?_) (fun n1 => And.intro (fun e => ?_) (fun n2 => And.intro (fun e => ?_) (fun n3 => ?_))))
    · rw [sel_in (i := 0) e (by decide) rfl] at hK
      refine ld 13 ob f13 ?_
      refine ld 13 ob f13 ?_
      refine And.intro r2.ob (hS _ _ _ _ (sC_firstGreatest r2 (Or.inl rfl) el c0 ?_))
      have xl := argx_lt (f := load ρ) c0
      exact ld _ (r2.cs.inA (k := 13) (n := 40) rfl rfl rfl rfl (by omega) rfl) (rdX rfl (by omega) (el _ xl).1) hK
    · rw [sel_in (i := 1) e (by decide) rfl] at hK
      refine ld 13 ob f13 ?_
      exact And.intro r2.ob (hS _ _ _ _ (sC_leastOf r2 el c0 hK))
    · rw [sel_in (i := 2) e (by decide) rfl] at hK
      refine ld 13 ob f13 ?_
      exact And.intro r2.ob (hS _ _ _ _ (sC_firstGreatest r2 (Or.inl rfl) el c0 hK))
    · rw [sel_in (i := 3) e (by decide) rfl] at hK
      refine ld 14 ob f14 ?_
      exact And.intro r2.ob (hS _ _ _ _ (sC_firstGreatest r2 (Or.inr rfl) eb c0 hK))
    · rw [sel_out (fun i hi => match i, hi with | 0, _ => n0 | 1, _ => n1 | 2, _ => n2 | 3, _ => n3)] at hK
      exact hK
  · have q : pcn ρ = 0 := (nI_eq (b := 0) (by omega) (by decide)).mp q
    exact rtC (K := K) (by omega) (hK h FC.rf r.r)
theorem sC_ties {x y : Int32} (r : CR h tp tn ft fp ρ pa an un sm sc sn bx bk) (hK : ∀ h', FC h h' → CR h' tp tn ft fp ρ pa an un sm sc sn bx bk → K (some (vI (aTies ρ x y))) h') : Spec G l (mt mC_ties) [vR 1, vI x, vI y] h K := by
  obtain ⟨sl, r⟩ := r
  have g := r.x.2.2.2.n
  have gc := r.x.2.2.2.c
  have hK0 := hK h FC.rf r.r
  unfold aTies at hK hK0
  have no : (¬ isC ρ x y ∨ pcn ρ = 0) → Go G l (mt mC_ties) 22 [some (vR 1), some (vI x), some (vI y), none, none, none, none] [] h 0 0 K := by
    intro q
    refine gC_ties 39 [] fun S Cu hS hC => ?_
    by_cases c : isC ρ x y
    · rw [cif_T c, own_none (q.resolve_left (fun z => z c))] at hK0
      exact hK0
    · exact rtC (K := K) c hK0
  refine eC_ties 99 [(22, 3), (46, 7)] fun S Cu hS hC => ?_
  refine ld (sl 0) r.ob r.now ?_
  refine And.intro (r.x.ob) (hS _ _ _ _ (sS_holds r.x ?_))
  refine brE (fun q => ?_) (fun q => ?_)
  · exact hC _ _ _ _ (no (Or.inl q))
  refine ld (sl 0) r.ob r.now ?_
  refine ld _ r.x.ob r.x.2.2.1.1.2.2.1 ?_
  refine And.intro (fun q2 => ?_) (fun q2 => ?_)
  · have c0 : 0 < pcn ρ := Nat.pos_of_ne_zero (fun z => q2 (by rw [z]; rfl))
    rw [cif_T q] at hK
    obtain ⟨i, j, hi, hj, rfl, rfl, ec, hc, c2, c3⟩ := isC_c r.x.2.2.2 q
    rw [ec] at hK
    refine And.intro r.ob (hS _ _ _ _ (sC_upToDate r fun h2 f2 r2 d2 => ?_))
    have hK := hK h2 (f2.m9 rfl) r2.r
    obtain ⟨b, eb⟩ := own_some (ρ := ρ) (c := pcw ρ * j + i) c0
    have bl := own_lt eb
    rw [eb] at hK
    have hK : K (some (vI (nI (sumN (fun d => wN (¬ nearer ρ (pcw ρ * j + i) b d) 1) (pcn ρ))))) h2 := hK
    have e1 := d2.1 _ hc
    rw [eb] at e1
    have is := ow_is (ρ := ρ) (S := fun _ => True) (c := pcw ρ * j + i) (spn_all r.x.2.2.2)
    have eo : ow ρ (fun _ => True) (pcw ρ * j + i) (pcn ρ) = some b := eb
    rw [eo] at is
    have mi : ∀ d, d < pcn ρ → gap ρ (pcw ρ * j + i) b * spn ρ d ≤ gap ρ (pcw ρ * j + i) d * spn ρ b := fun d hd => by
      rcases is with ⟨z, _⟩ | ⟨b', z, _, _, al⟩
      · cases z
      · injection z with z; subst z; exact (al d hd trivial).1
    refine ld (sl 0) r2.ob r2.now ?_
    refine And.intro (r2.x.ob) (hS _ _ _ _ (sS_numberOf r2.x rfl rfl ?_))
    have f9 : hR h2 7 1 = 9 := r2.cs.fr (f := 7) (j := 1) (Or.inl rfl) (by decide)
    have f10 : hR h2 7 2 = 10 := r2.cs.fr (f := 7) (j := 2) (Or.inl rfl) (by decide)
    have ob := r2.cs.fob (f := 7) (Or.inl rfl)
    have lp : ∀ k, k ≤ pcn ρ → ∀ o v, o = nI (sumN (fun d => wN (¬ nearer ρ (pcw ρ * j + i) b d) 1) k) → v = nI k → Go G l (mt mC_ties) 46 [some (vR 1), some (vI (nI i)), some (vI (nI j)), some (vR 7), some (vI (nI (pcw ρ * j + i))), some (vI o), some (vI v)] [] h2 0 0 K := by
      refine upto _ ?_
      intro k hk ih o v ho hv
      subst hv
      refine gC_ties 99 [(46, 7)] fun S Cu hS hC => ?_
      refine ld (sl 0) r2.ob r2.now ?_
      refine ld _ r2.x.ob r2.x.2.2.1.1.2.2.1 ?_
      refine pk_le (pcn ρ) k (fun z => ?_) (fun z => ?_)
      · obtain rfl : k = pcn ρ := by omega
        subst ho; exact hK
      have s1 := gs_lt r.x.2.2.2 hc z bl
      have s2 := gs_lt r.x.2.2.2 hc bl z
      refine ld (sl 0) r2.ob r2.now ?_
      refine And.intro (r2.x.ob) (hS _ _ _ _ (sS_gap r2.x rfl rfl rfl z hi hj ?_))
      refine ld 10 ob f10 ?_
      refine ld (lN (spn ρ b)) (r2.cs.inA (k := 10) (t := 1) (n := 400) rfl rfl rfl rfl (by omega) rfl) (rdL rfl (by omega) e1.2.2) ?_
      refine ld 9 ob f9 ?_
      refine ld (lN (gap ρ (pcw ρ * j + i) b)) (r2.cs.inA (k := 9) (t := 1) (n := 400) rfl rfl rfl rfl (by omega) rfl) (rdL rfl (by omega) e1.2.1) ?_
      refine ld (sl 0) r2.ob r2.now ?_
      refine And.intro (r2.x.ob) (hS _ _ _ _ (sS_span r2.x rfl z ?_))
      have eq : lN (gap ρ (pcw ρ * j + i) k) * lN (spn ρ b) = lN (gap ρ (pcw ρ * j + i) b) * lN (spn ρ k) ↔ gap ρ (pcw ρ * j + i) k * spn ρ b = gap ρ (pcw ρ * j + i) b * spn ρ k := by rw [lN_mul, lN_mul, pk_lEQ (by omega) (by omega)]
      have mk := mi k z
      refine And.intro (fun y => ?_) (fun y => ?_)
      · refine hC _ _ _ _ (ih z _ _ (cntF (P := fun d => ¬ nearer ρ (pcw ρ * j + i) b d) (fun w => y (ig_eq.mpr (eq.mpr ?_))) ho) (nI_1 k))
        unfold nearer at w; omega
      · have y := eq.mp (ig_eq.mp y)
        refine hC _ _ _ _ (ih z _ _ (cntT (P := fun d => ¬ nearer ρ (pcw ρ * j + i) b d) ?_ ho) (nI_1 k))
        unfold nearer; omega
    exact hC _ _ _ _ (lp 0 (Nat.zero_le _) _ _ rfl rfl)
  · have q2 : pcn ρ = 0 := (nI_eq (b := 0) (by omega) (by decide)).mp q2
    exact hC _ _ _ _ (no (Or.inr q2))
theorem sC_due {x : Int32} (r : CR h tp tn ft fp ρ pa an un sm sc sn bx bk) (hK : ∀ h', FC h h' → CR h' tp tn ft fp ρ pa an un sm sc sn bx bk → K (some (vI (aDue ρ x))) h') : Spec G l (mt mC_due) [vR 1, vI x] h K := by
  obtain ⟨sl, r⟩ := r
  have g := r.x.2.2.2.n
  have gd := r.x.2.2.2
  have al := allW_le gd
  have sa := shw_all gd
  unfold aDue at hK
  have no : ¬ (inN x 10 ∧ ¬ x = 0) → Go G l (mt mC_due) 11 [some (vR 1), some (vI x), none, none, none, none, none, none] [] h 0 0 K := by
    intro q
    refine gC_due 39 [] fun S Cu hS hC => ?_
    exact rtC (K := K) q (hK h FC.rf r.r)
  refine eC_due 99 [(11, 2), (28, 4)] fun S Cu hS hC => ?_
  refine And.intro (fun q => ?_) (fun q => ?_)
  · refine hC _ _ _ _ (no (fun ⟨⟨j, hj, e⟩, n⟩ => ?_))
    rw [e] at q n
    have := (nI_ltI (b := 1) (by omega) (by decide)).mp q
    exact n (by rw [show j = 0 by omega]; rfl)
  have x0 : 0 ≤ x := Int32.le_trans (show (0 : Int32) ≤ 1 by decide) (Int32.not_lt.mp q)
  obtain ⟨s, hs, ex⟩ := nI_of (Int32.not_lt.mpr x0)
  subst ex
  have s1 : 1 ≤ s := Nat.le_of_not_lt fun z => q ((nI_ltI (b := 1) hs (by decide)).mpr z)
  refine pk_lt s 10 (fun q2 => ?_) (fun q2 => ?_)
  · rw [cif_T ⟨⟨s, q2, rfl⟩, nI_ne0 (by omega) (by omega)⟩, ix_nI (by omega)] at hK
    refine ld (sl 0) r.ob r.now ?_
    refine ld 121 r.ob (r.cs.rf (k := 1) (j := 12) rfl rfl) ?_
    refine And.intro r.x.ob (hS _ _ _ _ (sS_sumByShade r.x fun h2 f2 e2 => ?_))
    have g2 : FX 999 [121] h h2 := f2.x (Or.inr rfl)
    have r2 := r.scr g2 rfl
    have hK := hK h2 (g2.m9 rfl) r2.r
    have l121 := r2.cs.rf (k := 1) (j := 12) rfl rfl
    have in12 : ∀ {i : Nat}, i < 10 → InA h2 121 0 (nI i) := fun {i} hi => r2.cs.inA (k := 121) (n := 10) rfl rfl rfl rfl hi rfl
    have sl9 : ∀ k, k ≤ 9 → s19 (shw ρ) k ≤ allW ρ := fun k hk => by rw [← sa]; exact sumN_mn hk
    have shl : ∀ k, 1 ≤ k → k < 10 → shw ρ k ≤ allW ρ := fun k h1 h2 => by
      have := sumN_pos (f := fun k => shw ρ (k + 1)) (i := k - 1) (n := 9) (by omega)
      rw [show k - 1 + 1 = k by omega] at this
      rw [← sa]; exact this
    by_cases a0 : allW ρ = 0
    · rw [cif_T a0] at hK
      have lp1 : ∀ k, k ≤ 9 → ∀ o v z4 z5 z6 z7, o = nI (s19 (shw ρ) k) → v = nI (k + 1) → Go G l (mt mC_due) 28 [some (vR 1), some (vI (nI s)), some (vI o), some (vI v), z4, z5, z6, z7] [] h2 0 0 K := by
        refine upto _ ?_
        intro k hk ih o v z4 z5 z6 z7 ho hv
        subst hv
        refine gC_due 99 [(28, 4)] fun S Cu hS hC => ?_
        refine pk_le 10 (k + 1) (fun z => ?_) (fun z => ?_)
        · obtain rfl : k = 9 := by omega
          rw [sa, a0] at ho
          refine And.intro (fun y => absurd ho y) (fun _ => hK)
        · refine ld 121 r2.ob l121 ?_
          refine ld _ (in12 (by omega)) (rdX rfl (by omega) (e2 (k + 1) (by omega))) ?_
          exact hC _ _ _ _ (ih (by omega) _ _ _ _ _ _ (by rw [ho, nI_add]; rfl) (nI_1 _))
      exact hC _ _ _ _ (lp1 0 (by decide) _ _ _ _ _ _ rfl rfl)
    · rw [cif_F a0] at hK
      have ap : 0 < allW ρ := Nat.pos_of_ne_zero a0
      obtain ⟨dl9, dq9⟩ := duL_lt gd ap
      have qm : ∀ k, 1 ≤ k → k < 10 → pcn ρ * shw ρ k ≤ 40 * 3600 := fun k h1 h2 => Nat.mul_le_mul g.2.2.2.2.2 (Nat.le_trans (shl k h1 h2) al)
      have eQ : ∀ k, 1 ≤ k → k < 10 → nI (pcn ρ) * nI (shw ρ k) / nI (allW ρ) = nI (duQ ρ k) := fun k h1 h2 => by
        have := qm k h1 h2
        rw [pk_mul, pk_div (by omega) ap (by omega)]; rfl
      have eR : ∀ k, 1 ≤ k → k < 10 → nI (pcn ρ) * nI (shw ρ k) - nI (pcn ρ) * nI (shw ρ k) / nI (allW ρ) * nI (allW ρ) = nI (duR ρ k) := fun k h1 h2 => by
        have := qm k h1 h2
        rw [pk_mul, pk_rem (by omega) ap (by omega)]; rfl
      have rl : ∀ k, duR ρ k < 2 ^ 31 := fun k => by
        have : duR ρ k < allW ρ := Nat.mod_lt _ ap
        omega
      have nz : ¬ nI (allW ρ) = 0 := nI_ne0 ap (by omega)
      have lp2 : ∀ k, k ≤ 9 → ∀ gi ah i z7, gi = nI (s19 (duQ ρ) k) → ah = nI (s19 (fun k => wN (duB ρ k s) 1) k) → i = nI (k + 1) → Go G l (mt mC_due) 81 [some (vR 1), some (vI (nI s)), some (vI (nI (allW ρ))), some (vI gi), some (vI ah), some (vI (nI (duR ρ s))), some (vI i), z7] [] h2 0 0 K := by
        refine upto _ ?_
        intro k hk ih gi ah i z7 hgi hah hi
        subst hi
        have nx : k < 9 → ∀ gi ah z7, gi = nI (s19 (duQ ρ) (k + 1)) → ah = nI (s19 (fun k => wN (duB ρ k s) 1) (k + 1)) → Go G l (mt mC_due) 150 [some (vR 1), some (vI (nI s)), some (vI (nI (allW ρ))), some (vI gi), some (vI ah), some (vI (nI (duR ρ s))), some (vI (nI (k + 1))), z7] [] h2 0 0 K := by
          intro z gi ah z7 hgi hah
          refine gC_due 39 [(81, 7)] fun S Cu hS hC => ?_
          exact hC _ _ _ _ (ih z _ _ _ _ hgi hah (nI_1 _))
        have fin : k = 9 → ∀ v, v = nI (wN (duA ρ s < duL ρ) 1) → Go G l (mt mC_due) 195 [none, none, none, none, none, none, none, none] [vI v, vI (nI (duQ ρ s))] h2 0 0 K := by
          intro _ v hv
          refine gC_due 39 [] fun S Cu hS hC => ?_
          refine rtI (K := K) ?_ hK
          rw [hv, nI_add]
        refine gC_due 199 [(150, 7), (195, 0)] fun S Cu hS hC => ?_
        refine pk_le 10 (k + 1) (fun z => ?_) (fun z => ?_)
        · obtain rfl : k = 9 := by omega
          refine ld (sl 0) r2.ob r2.now ?_
          refine ld _ r2.x.ob r2.x.2.2.1.1.2.2.1 ?_
          refine ld (sl 0) r2.ob r2.now ?_
          refine ld _ r2.x.ob r2.x.2.2.1.1.2.2.1 ?_
          refine ld 121 r2.ob l121 ?_
          refine ld _ (in12 q2) (rdX rfl (by omega) (e2 s q2)) ?_
          refine And.intro nz ?_
          rw [eQ s s1 q2]
          have dal : duA ρ s ≤ 9 := by
            have : duA ρ s ≤ 9 * 1 := sumN_le fun _ _ => wN_le _ _
            omega
          refine pk_le (duL ρ) (duA ρ s) (fun y => ?_) (fun y => ?_) ?_ hah
          · exact hC _ _ _ _ (fin rfl _ (by rw [wN_F (by omega)]; rfl))
          · exact hC _ _ _ _ (fin rfl _ (by rw [wN_T y]; rfl))
          · rw [hgi, pk_sub dq9]; rfl
        · have k1 : k + 1 < 10 := z
          refine ld (sl 0) r2.ob r2.now ?_
          refine ld _ r2.x.ob r2.x.2.2.1.1.2.2.1 ?_
          refine ld 121 r2.ob l121 ?_
          refine ld _ (in12 k1) (rdX rfl (by omega) (e2 (k + 1) k1)) ?_
          refine And.intro nz ?_
          rw [eQ (k + 1) (by omega) k1]
          have eg : gi + nI (duQ ρ (k + 1)) = nI (s19 (duQ ρ) (k + 1)) := by rw [hgi, nI_add]; rfl
          refine ld (sl 0) r2.ob r2.now ?_
          refine ld _ r2.x.ob r2.x.2.2.1.1.2.2.1 ?_
          refine ld 121 r2.ob l121 ?_
          refine ld _ (in12 k1) (rdX rfl (by omega) (e2 (k + 1) k1)) ?_
          refine And.intro nz ?_
          rw [eR (k + 1) (by omega) k1]
          have ya : duB ρ (k + 1) s → ah + 1 = nI (s19 (fun k => wN (duB ρ k s) 1) (k + 1)) := fun y => by
            rw [hah, nI_1]
            show nI (_ + 1) = nI (_ + wN (duB ρ (k + 1) s) 1)
            rw [wN_T y]; rfl
          have na : ¬ duB ρ (k + 1) s → ah = nI (s19 (fun k => wN (duB ρ k s) 1) (k + 1)) := fun y => by
            rw [hah]
            show nI _ = nI (_ + wN (duB ρ (k + 1) s) 1)
            rw [wN_F y]; rfl
          refine pk_lt (duR ρ s) (duR ρ (k + 1)) (fun y => ?_) (fun y => ?_) rfl rfl (rl _) (rl _)
          · exact hC _ _ _ _ (nx (by omega) _ _ _ eg (ya (Or.inl y)))
          refine And.intro (fun y2 => ?_) (fun y2 => ?_)
          · exact hC _ _ _ _ (nx (by omega) _ _ _ eg (na (fun w => w.elim (fun u => by omega) (fun u => y2 (by rw [u.1])))))
          have y2 := (nI_eq (rl _) (rl _)).mp y2
          refine pk_le (k + 1) s (fun y3 => ?_) (fun y3 => ?_)
          · exact hC _ _ _ _ (nx (by omega) _ _ _ eg (na (fun w => w.elim (fun u => by omega) (fun u => by omega))))
          · exact hC _ _ _ _ (nx (by omega) _ _ _ eg (ya (Or.inr ⟨y2, y3⟩)))
      have lp1 : ∀ k, k ≤ 9 → ∀ o v z4 z5 z6 z7, o = nI (s19 (shw ρ) k) → v = nI (k + 1) → Go G l (mt mC_due) 28 [some (vR 1), some (vI (nI s)), some (vI o), some (vI v), z4, z5, z6, z7] [] h2 0 0 K := by
        refine upto _ ?_
        intro k hk ih o v z4 z5 z6 z7 ho hv
        subst hv
        refine gC_due 99 [(28, 4), (81, 7)] fun S Cu hS hC => ?_
        refine pk_le 10 (k + 1) (fun z => ?_) (fun z => ?_)
        · obtain rfl : k = 9 := by omega
          rw [sa] at ho
          subst ho
          refine And.intro (fun _ => ?_) (fun y => absurd y nz)
          refine ld (sl 0) r2.ob r2.now ?_
          refine ld _ r2.x.ob r2.x.2.2.1.1.2.2.1 ?_
          refine ld 121 r2.ob l121 ?_
          refine ld _ (in12 q2) (rdX rfl (by omega) (e2 s q2)) ?_
          refine And.intro nz ?_
          rw [eR s s1 q2]
          exact hC _ _ _ _ (lp2 0 (by decide) _ _ _ _ rfl rfl rfl)
        · refine ld 121 r2.ob l121 ?_
          refine ld _ (in12 (by omega)) (rdX rfl (by omega) (e2 (k + 1) (by omega))) ?_
          exact hC _ _ _ _ (ih (by omega) _ _ _ _ _ _ (by rw [ho, nI_add]; rfl) (nI_1 _))
      exact hC _ _ _ _ (lp1 0 (by decide) _ _ _ _ _ _ rfl rfl)
  · refine hC _ _ _ _ (no (fun ⟨⟨j, hj, e⟩, _⟩ => ?_))
    have := (nI_eq hs (by omega)).mp e
    omega
end CC
