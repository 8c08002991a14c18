/-! ===== the class: pictures that are kept for undo ===== -/
theorem sr_eq {h : AH} {k j v : Nat} : hR (setR h k j v) k j = v := by show up2 (hR h) k j v k j = v; unfold up2; rw [if_pos ⟨rfl, rfl⟩]
theorem sr_ne {h : AH} {k j k' j' v : Nat} (hn : ¬ (k' = k ∧ j' = j)) : hR (setR h k j v) k' j' = hR h k' j' := by show up2 (hR h) k j v k' j' = hR h k' j'; unfold up2; rw [if_neg hn]
theorem CS.setR {h : AH} (c : CS h) {k j v : Nat} (hz : crf k j = 0) : CS (setR h k j v) := ⟨c.1, c.2.1, fun k' j' z => by
  rw [sr_ne (fun y => z (by rw [y.1, y.2]; exact hz))]; exact c.2.2 k' j' z⟩
theorem CS.setI {h : AH} (c : CS h) {k j : Nat} {v : Int32} : CS (setI h k j v) := ⟨c.1, c.2.1, c.2.2⟩
/-- which scene is now, draft, and each slot -/
def SLO (h : AH) (sl : Nat → Nat) : Prop := (∀ i, i < 14 → PL.contains (sl i) = true) ∧ (∀ i j, i < 14 → j < 14 → sl i = sl j → i = j) ∧ hR h 1 0 = sl 0 ∧ hR h 17 4 = sl 1 ∧ ∀ i, i < 12 → hR h 25 i = sl (2 + i)
theorem SLO.of {h h' : AH} {sl : Nat → Nat} (x : SLO h sl) (e : hR h' = hR h) : SLO h' sl := by unfold SLO; rw [e]; exact x
theorem SLO.sh {h : AH} {sl : Nat → Nat} (x : SLO h sl) {i : Nat} (hi : i < 14) : SH (sl i) := pl_sl (x.1 i hi)
theorem SLO.ne {h : AH} {sl : Nat → Nat} (x : SLO h sl) {i j : Nat} (hi : i < 14) (hj : j < 14) (d : i ≠ j) : sl i ≠ sl j := fun z => d (x.2.1 i j hi hj z)
theorem SLO.nl {h : AH} {sl : Nat → Nat} (x : SLO h sl) {i : Nat} (hi : i < 14) {L : List Nat} (hL : L.all (fun g => !PL.contains g) = true) : L.contains (sl i) = false := by
  cases e : L.contains (sl i) with
  | false => rfl
  | true =>
    have := List.all_eq_true.mp hL (sl i) (by simpa using e)
    rw [x.1 i hi] at this; cases this
/-- pictures ahead of acts, and behind those undone -/
def CP (h : AH) (sl : Nat → Nat) (pa : Nat → Pic) (an un : Nat) : Prop := ∃ o, o < 12 ∧ hI h 24 1 = nI o ∧ hI h 24 2 = nI an ∧ hI h 24 3 = nI un ∧ an + un ≤ 12 ∧ ∀ i, i < an + un → SP h (sl (2 + (o + i) % 12)) (pa i) ∧ Good (pa i)
theorem CP.fx {h h' : AH} {sl : Nat → Nat} {pa : Nat → Pic} {an un s : Nat} {L : List Nat} (x : CP h sl pa an un) (so : SLO h sl) (f : FX s L h h') (h1 : 24 ≠ s) (h2 : L.contains 24 = false) (h3 : ∀ i, i < 12 → sl (2 + i) ≠ s) (h4 : ∀ i, i < 12 → L.contains (sl (2 + i)) = false) : CP h' sl pa an un := by
  obtain ⟨o, o1, e1, e2, e3, l, al⟩ := x
  have e : hI h' 24 = hI h 24 := f.i h1 h2
  refine ⟨o, o1, by rw [e]; exact e1, by rw [e]; exact e2, by rw [e]; exact e3, l, fun i hi => ?_⟩
  have m := Nat.mod_lt (o + i) (show 0 < 12 by decide)
  exact ⟨f.sp (al i hi).1 (so.sh (by omega)) (h3 _ m) (h4 _ m), (al i hi).2⟩
section CC
variable {G : GP} {l : Launch} {K : Option AV → AH → Prop} {h : AH} {ρ : Pic}
variable {sl : Nat → Nat} {pa : Nat → Pic} {an un : Nat}
theorem sP_clear (cs : CS h) (hK : ∀ h', F1 24 h h' → hI h' 24 1 = hI h 24 1 → hI h' 24 2 = nI 0 → hI h' 24 3 = nI 0 → K none h') : Spec G l (mt mP_clear) [vR 24] h K := by
  have ob := cs.ob (k := 24) (ci := 4) rfl rfl rfl
  refine eP_clear 39 [] fun S Cu hS hC => ?_
  refine ld (nI 0) ob rfl ?_
  refine ld (nI 0) ob rfl ?_
  refine hK _ F1.rf.setI.setI ?_ ?_ si_eq
  · rw [si_ne (by decide), si_ne (by decide)]
  · rw [si_ne (by decide), si_eq]
theorem sP_slotOf {x : Int32} {o i : Nat} (cs : CS h) (e1 : hI h 24 1 = nI o) (ho : o < 12) (hx : x = nI i) (hi : i ≤ 12) (hK : K (some (vI (nI ((o + i) % 12)))) h) : Spec G l (mt mP_slotOf) [vR 24, vI x] h K := by
  subst hx
  refine eP_slotOf 39 [] fun S Cu hS hC => ?_
  refine ld _ (cs.ob (k := 24) (ci := 4) rfl rfl rfl) e1 ?_
  refine And.intro (by decide) ?_
  refine rtI (K := K) ?_ hK
  rw [nI_add, show (12 : Int32) = nI 12 from rfl, pk_rem (by omega) (by decide) (by decide)]
theorem sP_keep (cs : CS h) (so : SLO h sl) (cp : CP h sl pa an un) (x : SC h (sl 0) ρ) (hK : ∀ h' j, j < 12 → FX (sl (2 + j)) [24] h h' → SP h' (sl (2 + j)) ρ → CP h' sl (pushP pa an ρ) (pushA an) 0 → K (some (vR (sl (2 + j)))) h') : Spec G l (mt mP_keep) [vR 24, vR (sl 0)] h K := by
  obtain ⟨o, ho, e1, e2, e3, al, ae⟩ := cp
  have fin : ∀ h1 o1 a1 (pb : Nat → Pic), FX 999 [24] h h1 → o1 < 12 → a1 < 12 → hI h1 24 1 = nI o1 → hI h1 24 2 = nI a1 → hI h1 24 3 = nI 0 → (∀ i, i < a1 → SP h (sl (2 + (o1 + i) % 12)) (pb i) ∧ Good (pb i)) → (∀ i, i < a1 → pushP pa an ρ i = pb i) → pushP pa an ρ a1 = ρ → pushA an = a1 + 1 → Go G l (mt mP_keep) 37 [some (vR 24), some (vR (sl 0)), none] [] h1 0 0 K := by
    intro h1 o1 a1 pb f o12 a12 g1 g2 g3 ab pp p0 pA
    have c1 := f.cs cs
    have ob := c1.ob (k := 24) (ci := 4) rfl rfl rfl
    have m := Nat.mod_lt (o1 + a1) (show 0 < 12 by decide)
    have sh := so.sh (i := 2 + (o1 + a1) % 12) (by omega)
    have A := sh.a
    have x1 : SC h1 (sl 0) ρ := f.sc x (by have := x.2.1.lt; omega) (so.nl (by decide) rfl)
    refine gP_keep 99 [] fun S Cu hS hC => ?_
    refine ld 25 ob (c1.rf (k := 24) (j := 0) rfl rfl) ?_
    refine ld _ ob g2 ?_
    refine And.intro ob (hS _ _ _ _ (sP_slotOf c1 g1 o12 rfl (by omega) ?_))
    refine ld (sl (2 + (o1 + a1) % 12)) (c1.inA (k := 25) (t := 3) (n := 12) (j := (o1 + a1) % 12) rfl rfl rfl rfl m rfl) (by rw [ix_nI (by omega), f.2.2.1]; exact so.2.2.2.2 _ m) ?_
    refine And.intro ⟨A.2.1.1, by rw [c1.1]; omega, by rw [c1.2.1]; exact A.1.1⟩ (hS _ _ _ _ (sS_copy c1 sh x1 (so.ne (by omega) (by decide) (by omega)) fun h2 f2 p2 => ?_))
    have s24 : (24 : Nat) ≠ sl (2 + (o1 + a1) % 12) := fun z => by have := so.1 (2 + (o1 + a1) % 12) (by omega); rw [← z] at this; cases this
    have g24 : hI h2 24 = hI h1 24 := f2.i (k := 24) s24 rfl
    have c2 := f2.cs c1
    refine ld (nI a1) (c2.ob (k := 24) (ci := 4) rfl rfl rfl) (by rw [g24]; exact g2) ?_
    refine ld (nI (a1 + 1)) (c2.ob (k := 24) (ci := 4) rfl rfl rfl) (nI_1 a1) ?_
    have f3 : FX (sl (2 + (o1 + a1) % 12)) [24] h (setI h2 24 2 (nI (a1 + 1))) := ((f.of).tr (N := [24]) f2 rfl rfl).setI (Or.inr rfl)
    have f4 : FX 999 [24] h2 (setI h2 24 2 (nI (a1 + 1))) := FX.rf.setI (Or.inr rfl)
    have p3 : SP (setI h2 24 2 (nI (a1 + 1))) (sl (2 + (o1 + a1) % 12)) ρ := f4.sp p2 sh (by have := sh.lt; omega) (so.nl (by omega) rfl)
    refine hK _ ((o1 + a1) % 12) m f3 p3 ⟨o1, o12, ?_, ?_, ?_, by rw [pA]; omega, fun i hi => ?_⟩
    · rw [si_ne (by decide), g24]; exact g1
    · rw [si_eq, pA]
    · rw [si_ne (by decide), g24]; exact g3
    · rw [pA] at hi
      by_cases e : i = a1
      · subst e; rw [p0]; exact ⟨p3, x.2.2.2⟩
      · have mi := Nat.mod_lt (o1 + i) (show 0 < 12 by decide)
        rw [pp i (by omega)]
        refine ⟨f3.sp (ab i (by omega)).1 (so.sh (by omega)) (so.ne (by omega) (by omega) (by omega)) (so.nl (by omega) rfl), (ab i (by omega)).2⟩
  have ob := cs.ob (k := 24) (ci := 4) rfl rfl rfl
  refine eP_keep 99 [(37, 2)] fun S Cu hS hC => ?_
  refine ld (nI 0) ob rfl ?_
  refine ld (nI an) ob (by rw [si_ne (by decide)]; exact e2) ?_
  have f1 : FX 999 [24] h (setI h 24 3 (nI 0)) := FX.rf.setI (Or.inr rfl)
  refine And.intro (fun q => ?_) (fun q => ?_)
  · have q : ¬ an = 12 := fun z => q (by rw [z]; rfl)
    refine hC _ _ _ _ (fin _ o an pa f1 ho (by omega) ?_ ?_ si_eq (fun i hi => ae i (by omega)) (fun i hi => ?_) ?_ ?_)
    · rw [si_ne (by decide)]; exact e1
    · rw [si_ne (by decide)]; exact e2
    · unfold pushP; rw [if_neg q, if_neg (by omega)]
    · unfold pushP; rw [if_neg q, if_pos rfl]
    · unfold pushA; rw [if_neg q]
  · have q : an = 12 := (nI_eq (b := 12) (by omega) (by decide)).mp q
    subst q
    have m := Nat.mod_lt (o + 1) (show 0 < 12 by decide)
    refine ld (nI o) ob (by rw [si_ne (by decide)]; exact e1) ?_
    refine And.intro (by decide) ?_
    refine ld (nI ((o + 1) % 12)) ob ?_ ?_
    · rw [nI_1, show (12 : Int32) = nI 12 from rfl, pk_rem (by omega) (by decide) (by decide)]
    refine ld (nI 12) ob (by rw [si_ne (by decide), si_ne (by decide)]; exact e2) ?_
    refine ld (nI 11) ob rfl ?_
    refine hC _ _ _ _ (fin _ ((o + 1) % 12) 11 (fun i => pa (i + 1)) ((f1.setI (Or.inr rfl)).setI (Or.inr rfl)) m (by decide) ?_ si_eq ?_ (fun i hi => ?_) (fun i hi => ?_) ?_ rfl)
    · rw [si_ne (by decide), si_eq]
    · rw [si_ne (by decide), si_ne (by decide), si_eq]
    · have := ae (i + 1) (by omega)
      rw [show ((o + 1) % 12 + i) % 12 = (o + (i + 1)) % 12 by omega]
      exact this
    · unfold pushP; rw [if_pos rfl, if_neg (by omega)]
    · unfold pushP; rw [if_pos rfl, if_pos rfl]
theorem sP_swap {x : Int32} {j u : Nat} (cs : CS h) (so : SLO h sl) (hx : x = nI j) (hj : j < 12) (hu : SH u) (hK : K (some (vR (sl (2 + j)))) (setR h 25 j u)) : Spec G l (mt mP_swap) [vR 24, vI x, vR u] h K := by
  subst hx
  have ob := cs.ob (k := 24) (ci := 4) rfl rfl rfl
  have A := hu.a
  refine eP_swap 39 [] fun S Cu hS hC => ?_
  refine ld 25 ob (cs.rf (k := 24) (j := 0) rfl rfl) ?_
  refine ld (sl (2 + j)) (cs.inA (k := 25) (t := 3) (n := 12) (j := j) rfl rfl rfl rfl hj rfl) (by rw [ix_nI (by omega)]; exact so.2.2.2.2 j hj) ?_
  refine ld 25 ob (cs.rf (k := 24) (j := 0) rfl rfl) ?_
  refine swR j ⟨cs.inA (k := 25) (t := 3) (n := 12) (j := j) rfl rfl rfl rfl hj rfl, ⟨A.2.1.1, by rw [cs.1]; omega, by rw [cs.2.1]; exact A.1.1⟩⟩ (ix_nI (by omega)) ?_
  exact hK
theorem sP_swapBack {o u : Nat} (cs : CS h) (so : SLO h sl) (ho : o < 12) (e1 : hI h 24 1 = nI o) (e2 : hI h 24 2 = nI an) (e3 : hI h 24 3 = nI un) (a0 : 0 < an) (a12 : an ≤ 12) (hu : SH u) (hK : K (some (vR (sl (2 + (o + (an - 1)) % 12)))) (setR (setI (setI h 24 2 (nI (an - 1))) 24 3 (nI (un + 1))) 25 ((o + (an - 1)) % 12) u)) : Spec G l (mt mP_swapBack) [vR 24, vR u] h K := by
  have ob := cs.ob (k := 24) (ci := 4) rfl rfl rfl
  refine eP_swapBack 39 [] fun S Cu hS hC => ?_
  refine ld _ ob e2 ?_
  refine ld (nI (an - 1)) ob (by first | with_reducible rfl | (try simp (disch := omega) only [pk_rem]) <;> simp (disch := omega) only [nl0, nl1, nl2, nl3, nl4, nl8, nl9, nl10, nl12, nl20, nl24, nl30, nl32, nl40, nl48, nl100, nl120, nl200, nl255, nl400, nl404, nl524, nl900, nl1000, nl9999, nl16, nl65536, nI_add, pk_mul, pk_sub, pk_div, pk_rem, Nat.add_zero, Nat.zero_add, Nat.mul_one, Nat.add_sub_cancel_left, Nat.add_sub_cancel]) ?_
  refine ld (nI un) ob (by rw [si_ne (by decide)]; exact e3) ?_
  refine ld (nI (un + 1)) ob (nI_1 un) ?_
  refine ld (nI (an - 1)) ob (by rw [si_ne (by decide), si_eq]) ?_
  refine And.intro ob (hS _ _ _ _ (sP_slotOf (o := o) (i := an - 1) cs.setI.setI (by rw [si_ne (by decide), si_ne (by decide)]; exact e1) ho rfl (by omega) ?_))
  refine And.intro ob (hS _ _ _ _ (sP_swap (sl := sl) (j := (o + (an - 1)) % 12) cs.setI.setI (so.of rfl) rfl (Nat.mod_lt _ (by decide)) hu ?_))
  exact hK
theorem sP_swapForth {o u : Nat} (cs : CS h) (so : SLO h sl) (ho : o < 12) (e1 : hI h 24 1 = nI o) (e2 : hI h 24 2 = nI an) (e3 : hI h 24 3 = nI un) (u0 : 0 < un) (a12 : an + un ≤ 12) (hu : SH u) (hK : K (some (vR (sl (2 + (o + an) % 12)))) (setR (setI (setI h 24 2 (nI (an + 1))) 24 3 (nI (un - 1))) 25 ((o + an) % 12) u)) : Spec G l (mt mP_swapForth) [vR 24, vR u] h K := by
  have ob := cs.ob (k := 24) (ci := 4) rfl rfl rfl
  refine eP_swapForth 39 [] fun S Cu hS hC => ?_
  refine ld _ ob e2 ?_
  refine And.intro ob (hS _ _ _ _ (sP_slotOf (o := o) (i := an) cs e1 ho rfl (by omega) ?_))
  refine ld _ ob e2 ?_
  refine ld (nI (an + 1)) ob (nI_1 an) ?_
  refine ld (nI un) ob (by rw [si_ne (by decide)]; exact e3) ?_
  refine ld (nI (un - 1)) ob (by first | with_reducible rfl | (try simp (disch := omega) only [pk_rem]) <;> simp (disch := omega) only [nl0, nl1, nl2, nl3, nl4, nl8, nl9, nl10, nl12, nl20, nl24, nl30, nl32, nl40, nl48, nl100, nl120, nl200, nl255, nl400, nl404, nl524, nl900, nl1000, nl9999, nl16, nl65536, nI_add, pk_mul, pk_sub, pk_div, pk_rem, Nat.add_zero, Nat.zero_add, Nat.mul_one, Nat.add_sub_cancel_left, Nat.add_sub_cancel]) ?_
  refine And.intro ob (hS _ _ _ _ (sP_swap (sl := sl) (j := (o + an) % 12) cs.setI.setI (so.of rfl) rfl (Nat.mod_lt _ (by decide)) hu ?_))
  exact hK
end CC
