/-! ===== the class: rows filled, scenes copied, dots more and less ===== -/
section CC
variable {G : GP} {l : Launch} {K : Option AV → AH → Prop} {h : AH} {ρ : Pic}
variable {s : Nat}
theorem sJ_fillI {k n : Nat} {v : Int32} (ar : Ar h k 0 n) (hn : n < 2 ^ 31) (hK : ∀ h', F1 k h h' → (∀ i, i < n → hI h' k i = v) → K none h') : Spec G l (mt mJa_fillI) [vR k, vI v] h K := by
  have lp : ∀ i, i ≤ n → ∀ h', F1 k h h' → (∀ j, j < i → hI h' k j = v) → ∀ a, a = nI i → Go G l (mt mJa_fillI) 5 [some (vR k), some (vI v), some (vI a), some (vI (nI n))] [] h' 0 0 K := by
    refine upto _ ?_
    intro i hi ih h' f hv a ha
    subst ha
    have ar : Ar h' k 0 n := ⟨ar.1, by rw [f.1]; exact ar.2.1, by rw [f.2.1]; exact ar.2.2⟩
    refine gJa_fillI 39 [(5, 4)] fun S Cu hS hC => ?_
    refine pk_le n i (fun q => ?_) (fun q => ?_)
    · exact hK h' f (fun j hj => hv j (by omega))
    · refine sw i v ⟨n, ar, vp_in_nI q hn⟩ (ix_nI (by omega)) rfl ?_
      refine hC _ _ _ _ (ih q _ f.setI (fun j hj => ?_) _ (nI_1 i))
      by_cases e : j = i
      · subst e; exact si_eq
      · rw [si_ne e]; exact hv j (by omega)
  refine eJa_fillI 39 [(5, 4)] fun S Cu hS hC => ?_
  exact ⟨0, n, by decide, ar, hC _ _ _ _ (lp 0 (Nat.zero_le _) h F1.rf (fun j hj => absurd hj (Nat.not_lt_zero j)) _ rfl)⟩
/-- of the longs only cell k has changed -/
def F1L (k : Nat) (h h' : AH) : Prop := hN h' = hN h ∧ hS h' = hS h ∧ hR h' = hR h ∧ hI h' = hI h ∧ ∀ q, q ≠ k → hL h' q = hL h q
theorem F1L.rf {k : Nat} {h : AH} : F1L k h h := ⟨rfl, rfl, rfl, rfl, fun _ _ => rfl⟩
theorem sl_n {h : AH} {k k' j : Nat} {v : Int64} (hk : k' ≠ k) : hL (setL h k j v) k' = hL h k' := by
  funext i
  show up2 (hL h) k j v k' i = hL h k' i
  unfold up2; rw [if_neg (fun z => hk z.1)]
theorem F1L.setL {k : Nat} {h h' : AH} (f : F1L k h h') {j : Nat} {v : Int64} : F1L k h (setL h' k j v) := ⟨f.1, f.2.1, f.2.2.1, f.2.2.2.1, fun q hq => by rw [sl_n hq]; exact f.2.2.2.2 q hq⟩
theorem F1L.x {k s : Nat} {L : List Nat} {h h' : AH} (f : F1L k h h') (hk : grp k = s ∨ L.contains (grp k) = true) : FX s L h h' := by
  refine ⟨f.1, f.2.1, f.2.2.1, fun q a b => ⟨by rw [f.2.2.2.1], f.2.2.2.2 q (fun z => ?_)⟩⟩
  subst z; exact hk.elim a (fun y => by rw [b] at y; cases y)
theorem sJ_fillL {k n : Nat} {v : Int64} (ar : Ar h k 1 n) (hn : n < 2 ^ 31) (hK : ∀ h', F1L k h h' → (∀ i, i < n → hL h' k i = v) → K none h') : Spec G l (mt mJa_fillL) [vR k, vL v] h K := by
  have lp : ∀ i, i ≤ n → ∀ h', F1L k h h' → (∀ j, j < i → hL h' k j = v) → ∀ a z2, a = nI i → Go G l (mt mJa_fillL) 6 [some (vR k), some (vL v), z2, some (vI a), some (vI (nI n))] [] h' 0 0 K := by
    refine upto _ ?_
    intro i hi ih h' f hv a z2 ha
    subst ha
    have ar : Ar h' k 1 n := ⟨ar.1, by rw [f.1]; exact ar.2.1, by rw [f.2.1]; exact ar.2.2⟩
    refine gJa_fillL 39 [(6, 5)] fun S Cu hS hC => ?_
    refine pk_le n i (fun q => ?_) (fun q => ?_)
    · exact hK h' f (fun j hj => hv j (by omega))
    · refine sw i v ⟨n, ar, vp_in_nI q hn⟩ (ix_nI (by omega)) rfl ?_
      refine hC _ _ _ _ (ih q _ f.setL (fun j hj => ?_) _ _ (nI_1 i))
      by_cases e : j = i
      · subst e; exact sl_eq
      · rw [sl_ne e]; exact hv j (by omega)
  refine eJa_fillL 39 [(6, 5)] fun S Cu hS hC => ?_
  exact ⟨1, n, by decide, ar, hC _ _ _ _ (lp 0 (Nat.zero_le _) h F1L.rf (fun j hj => absurd hj (Nat.not_lt_zero j)) _ _ rfl)⟩
theorem sS_add {a b : Int32} {x y : Nat} (p : SC h s ρ) (ha : a = nI x) (hb : b = nI y) (hn : pcn ρ < 40) (hx : x < 20) (hy : y < 20) (hK : ∀ h', FX s [] h h' → SP h' s (addD ρ x y) → K none h') : Spec G l (mt mS_add) [vR s, vI a, vI b] h K := by
  subst ha; subst hb
  have gc := p.2.2.2.c
  have A := p.2.1.a
  have f1 : FX s [] h (setI h s 2 (nI (pcn ρ + 1))) := FX.rf.setI (Or.inl A.2.2.1)
  refine eS_add 39 [] fun S Cu hS hC => ?_
  refine ld _ p.ob p.2.2.1.1.2.2.1 ?_
  refine pk_le 40 (pcn ρ) (fun z => by omega) (fun _ => ?_)
  refine ld _ p.ob p.2.2.1.1.2.2.1 ?_
  refine ld (nI (pcn ρ + 1)) p.ob (nI_1 _) ?_
  have ob : Ob (setI h s 2 (nI (pcn ρ + 1))) s 7 := p.ob
  refine ld (nI (pcn ρ + 1)) ob si_eq ?_
  refine And.intro ob (hS _ _ _ _ (sS_place (d := pcn ρ) (x := x) (y := y) (q := 1) (f1.cs p.1) p.2.1 (by first | with_reducible rfl | (try simp (disch := omega) only [pk_rem]) <;> simp (disch := omega) only [nl0, nl1, nl2, nl3, nl4, nl8, nl9, nl10, nl12, nl20, nl24, nl30, nl32, nl40, nl48, nl100, nl120, nl200, nl255, nl400, nl404, nl524, nl900, nl1000, nl9999, nl16, nl65536, nI_add, pk_mul, pk_sub, pk_div, pk_rem, Nat.add_zero, Nat.zero_add, Nat.mul_one, Nat.add_sub_cancel_left, Nat.add_sub_cancel]) rfl rfl rfl hn (by omega) (by omega) (by decide) (by decide) ?_))
  rw [gcd3_1, Nat.div_one, Nat.div_one, Nat.div_one]
  refine hK _ (f1.tr (plH_fx p.2.1) rfl rfl) ?_
  obtain ⟨e0, e1, e2, e3⟩ := addD_h (ρ := ρ) (x := x) (y := y)
  have z := plH_0 (h := setI h s 2 (nI (pcn ρ + 1))) (s := s) (d := pcn ρ) (x := x) (y := y) (q := 1)
  have q := p.2.2.1
  refine ⟨⟨?_, ?_, ?_, ?_⟩, fun c hc => ?_, fun d hd => ?_⟩
  · rw [z.1, si_ne (by decide), e0]; exact q.1.1
  · rw [z.1, si_ne (by decide), e1]; exact q.1.2.1
  · rw [z.1, si_eq, addD_n]
  · rw [z.1, si_ne (by decide), e2]; exact q.1.2.2.2
  · rw [e3] at hc
    rw [z.2, si_n (by omega), addD_W (by omega)]; exact q.2.1 c hc
  · rw [addD_n] at hd
    rw [addD_X, addD_Y, addD_D]
    by_cases k : d = pcn ρ
    · subst k; rw [plH_2, plH_3, plH_4, if_pos rfl, if_pos rfl, if_pos rfl]; exact ⟨rfl, rfl, rfl⟩
    · rw [plH_2n k, plH_3n k, plH_4n k, if_neg k, if_neg k, if_neg k, si_n (by omega), si_n (by omega), si_n (by omega)]
      exact q.2.2 d (by omega)
theorem sS_remove {a : Int32} {d : Nat} (p : SC h s ρ) (ha : a = nI d) (hd : d < pcn ρ) (hK : ∀ h', FX s [] h h' → SP h' s (delD ρ d) → K none h') : Spec G l (mt mS_remove) [vR s, vI a] h K := by
  subst ha
  have g := p.2.2.2.n
  have gc := p.2.2.2.c
  have A := p.2.1.a
  obtain ⟨g0, g1, g2, g3, g4⟩ := A.2.2
  have q0 := p.2.2.1
  have lp : ∀ k, k ≤ pcn ρ - 1 → d ≤ k → ∀ h', FX s [] h h' → hI h' s = hI h s → hI h' (s + 1) = hI h (s + 1) → (∀ e, e < pcn ρ → hI h' (s + 2) e = nI (pcX ρ (if d ≤ e ∧ e < k then e + 1 else e)) ∧ hI h' (s + 3) e = nI (pcY ρ (if d ≤ e ∧ e < k then e + 1 else e)) ∧ hI h' (s + 4) e = nI (pcD ρ (if d ≤ e ∧ e < k then e + 1 else e))) → ∀ i, i = nI k → Go G l (mt mS_remove) 2 [some (vR s), some (vI (nI d)), some (vI i)] [] h' 0 0 K := by
    refine upto _ ?_
    intro k hk ih dk h' f es es1 er i hi
    subst hi
    have c1 := f.cs p.1
    have x : SC h' s ρ → True := fun _ => trivial
    have ob : Ob h' s 7 := ⟨A.2.1.1, by rw [c1.1]; omega, by rw [c1.2.1]; exact A.1.1⟩
    have r5 : hR h' s 5 = s + 2 := c1.rf p.2.1.rf.2.1 rfl
    have r6 : hR h' s 6 = s + 3 := c1.rf p.2.1.rf.2.2.1 rfl
    have r7 : hR h' s 7 = s + 4 := c1.rf p.2.1.rf.2.2.2 rfl
    have iX : ∀ {i : Int32} {j : Nat}, i = nI j → j < 40 → InA h' (s + 2) 0 i := fun {i j} hi hj => ⟨40, ⟨by omega, by rw [c1.1]; omega, by rw [c1.2.1]; exact A.1.2.2.1⟩, by subst hi; exact vp_in_nI hj (by decide)⟩
    have iY : ∀ {i : Int32} {j : Nat}, i = nI j → j < 40 → InA h' (s + 3) 0 i := fun {i j} hi hj => ⟨40, ⟨by omega, by rw [c1.1]; omega, by rw [c1.2.1]; exact A.1.2.2.2.1⟩, by subst hi; exact vp_in_nI hj (by decide)⟩
    have iD : ∀ {i : Int32} {j : Nat}, i = nI j → j < 40 → InA h' (s + 4) 0 i := fun {i j} hi hj => ⟨40, ⟨by omega, by rw [c1.1]; omega, by rw [c1.2.1]; exact A.1.2.2.2.2⟩, by subst hi; exact vp_in_nI hj (by decide)⟩
    refine gS_remove 99 [(2, 3)] fun S Cu hS hC => ?_
    refine ld (nI (pcn ρ)) ob (by rw [es]; exact q0.1.2.2.1) ?_
    refine pk_le (pcn ρ - 1) k (fun q => ?_) (fun q => ?_) (by first | with_reducible rfl | (try simp (disch := omega) only [pk_rem]) <;> simp (disch := omega) only [nl0, nl1, nl2, nl3, nl4, nl8, nl9, nl10, nl12, nl20, nl24, nl30, nl32, nl40, nl48, nl100, nl120, nl200, nl255, nl400, nl404, nl524, nl900, nl1000, nl9999, nl16, nl65536, nI_add, pk_mul, pk_sub, pk_div, pk_rem, Nat.add_zero, Nat.zero_add, Nat.mul_one, Nat.add_sub_cancel_left, Nat.add_sub_cancel]) rfl
    · obtain rfl : k = pcn ρ - 1 := by omega
      refine ld (nI (pcn ρ)) ob (by rw [es]; exact q0.1.2.2.1) ?_
      refine ld (nI (pcn ρ - 1)) ob (by first | with_reducible rfl | (try simp (disch := omega) only [pk_rem]) <;> simp (disch := omega) only [nl0, nl1, nl2, nl3, nl4, nl8, nl9, nl10, nl12, nl20, nl24, nl30, nl32, nl40, nl48, nl100, nl120, nl200, nl255, nl400, nl404, nl524, nl900, nl1000, nl9999, nl16, nl65536, nI_add, pk_mul, pk_sub, pk_div, pk_rem, Nat.add_zero, Nat.zero_add, Nat.mul_one, Nat.add_sub_cancel_left, Nat.add_sub_cancel]) ?_
      refine hK _ (f.setI (Or.inl g0)) ?_
      have dw : ∀ j, j < 404 → j ≠ 3 → delD ρ d j = ρ j := fun j a b => delD_lo a b
      have e0 : pcw (delD ρ d) = pcw ρ := dw 0 (by decide) (by decide)
      have e1 : pch (delD ρ d) = pch ρ := dw 1 (by decide) (by decide)
      have e2 : pcs (delD ρ d) = pcs ρ := dw 2 (by decide) (by decide)
      refine ⟨⟨?_, ?_, ?_, ?_⟩, fun c hc => ?_, fun e he => ?_⟩
      · rw [si_ne (by decide), es, e0]; exact q0.1.1
      · rw [si_ne (by decide), es, e1]; exact q0.1.2.1
      · rw [si_eq, delD_n]
      · rw [si_ne (by decide), es, e2]; exact q0.1.2.2.2
      · have ec : pcc (delD ρ d) = pcc ρ := by unfold pcc; rw [e0, e1]
        rw [ec] at hc
        have : pcW (delD ρ d) c = pcW ρ c := dw (4 + c) (by omega) (by omega)
        rw [si_n (by omega), es1, this]; exact q0.2.1 c hc
      · rw [delD_n] at he
        rw [si_n (by omega), si_n (by omega), si_n (by omega)]
        have := er e (by omega)
        by_cases q2 : d ≤ e
        · rw [if_pos ⟨q2, he⟩] at this
          have x0 : pcX (delD ρ d) e = pcX ρ (e + 1) := delD_ge (i := 0) q2 (by omega) (by decide)
          have x1 : pcY (delD ρ d) e = pcY ρ (e + 1) := delD_ge (i := 1) q2 (by omega) (by decide)
          have x2 : pcD (delD ρ d) e = pcD ρ (e + 1) := delD_ge (i := 2) q2 (by omega) (by decide)
          rw [x0, x1, x2]; exact this
        · rw [if_neg (fun z => q2 z.1)] at this
          have x0 : pcX (delD ρ d) e = pcX ρ e := delD_lt (i := 0) (by omega) (by decide)
          have x1 : pcY (delD ρ d) e = pcY ρ e := delD_lt (i := 1) (by omega) (by decide)
          have x2 : pcD (delD ρ d) e = pcD ρ e := delD_lt (i := 2) (by omega) (by decide)
          rw [x0, x1, x2]; exact this
    · have e1 := er (k + 1) (by omega)
      rw [if_neg (by omega)] at e1
      refine ld _ ob r5 ?_
      refine ld _ ob r5 ?_
      refine ld (nI (pcX ρ (k + 1))) (iX (nI_1 k) (by omega)) (by rw [ix_of (nI_1 k) (by omega)]; exact e1.1) ?_
      refine sw k _ (iX rfl (by omega)) (ix_nI (by omega)) rfl ?_
      refine ld _ ob r6 ?_
      refine ld _ ob r6 ?_
      refine ld (nI (pcY ρ (k + 1))) (iY (nI_1 k) (by omega)) (by rw [si_n (by omega), ix_of (nI_1 k) (by omega)]; exact e1.2.1) ?_
      refine sw k _ (iY rfl (by omega)) (ix_nI (by omega)) rfl ?_
      refine ld _ ob r7 ?_
      refine ld _ ob r7 ?_
      refine ld (nI (pcD ρ (k + 1))) (iD (nI_1 k) (by omega)) (by rw [si_n (by omega), si_n (by omega), ix_of (nI_1 k) (by omega)]; exact e1.2.2) ?_
      refine sw k _ (iD rfl (by omega)) (ix_nI (by omega)) rfl ?_
      have z := plH_0 (h := h') (s := s) (d := k) (x := pcX ρ (k + 1)) (y := pcY ρ (k + 1)) (q := pcD ρ (k + 1))
      refine hC _ _ _ _ (ih q (by omega) (plH h' s k (pcX ρ (k + 1)) (pcY ρ (k + 1)) (pcD ρ (k + 1))) (f.tr (plH_fx p.2.1) rfl rfl) (z.1.trans es) (z.2.trans es1) (fun e he => ?_) _ (nI_1 k))
      by_cases ek : e = k
      · subst ek; rw [plH_2, plH_3, plH_4, if_pos (by omega)]; exact ⟨rfl, rfl, rfl⟩
      · rw [plH_2n ek, plH_3n ek, plH_4n ek]
        have := er e he
        rw [show (if d ≤ e ∧ e < k + 1 then e + 1 else e) = (if d ≤ e ∧ e < k then e + 1 else e) by split <;> split <;> omega]
        exact this
  refine eS_remove 19 [(2, 3)] fun S Cu hS hC => ?_
  refine hC _ _ _ _ (lp d (by omega) (Nat.le_refl _) h FX.rf rfl rfl (fun e he => ?_) _ rfl)
  rw [if_neg (by omega)]; exact q0.2.2 e he
theorem FX.row {s : Nat} {L : List Nat} {h h' : AH} (f : FX s L h h') {k : Nat} {g : Nat → Int32} (hk : grp k = s ∨ L.contains (grp k) = true) : FX s L h (rowI h' k g) := by
  refine ⟨f.1, f.2.1, f.2.2.1, fun q a b => ?_⟩
  have x := f.2.2.2 q a b
  have ne : q ≠ k := fun z => by subst z; exact hk.elim a (fun y => by rw [b] at y; cases y)
  exact ⟨by rw [ri_n ne]; exact x.1, x.2⟩
theorem SH.gr {u : Nat} (hu : SH u) {i : Nat} (hi : i ≤ 4) : grp (u + i) = u := by
  obtain ⟨g0, g1, g2, g3, g4⟩ := hu.a.2.2
  have : i = 0 ∨ i = 1 ∨ i = 2 ∨ i = 3 ∨ i = 4 := by omega
  rcases this with rfl | rfl | rfl | rfl | rfl
  · exact g0
  · exact g1
  · exact g2
  · exact g3
  · exact g4
theorem SH.ne {u s : Nat} (hu : SH u) (hs : SH s) (d : s ≠ u) (i j : Nat) (hi : i ≤ 4) (hj : j ≤ 4) : u + i ≠ s + j := fun z => by
  have := congrArg grp z
  rw [hu.gr hi, hs.gr hj] at this
  exact d this.symm
theorem cpy_at {f g : Nat → Int32} {n c : Nat} (hc : c < n) (hn : n < 2 ^ 31) : va_cpy f g (ix 0) (ix 0) (ix (nI n)) c = f c := by
  unfold va_cpy
  rw [show ix (0 : Int32) = 0 from rfl, ix_nI hn, if_pos (by omega)]
  congr 1; omega
theorem sS_copy {u : Nat} {π : Pic} (cs : CS h) (sh : SH s) (p : SC h u π) (su : s ≠ u) (hK : ∀ h', FX s [] h h' → SP h' s π → K none h') : Spec G l (mt mS_copy) [vR s, vR u] h K := by
  have A := sh.a
  have B := p.2.1.a
  have gc := p.2.2.2.c
  have gn := p.2.2.2.n
  obtain ⟨g0, g1, g2, g3, g4⟩ := A.2.2
  have ne := SH.ne p.2.1 sh su
  have ob : Ob h s 7 := ⟨A.2.1.1, by rw [cs.1]; omega, by rw [cs.2.1]; exact A.1.1⟩
  have us : u ≠ s := fun z => su z.symm
  have ar : ∀ {v i n : Nat}, SH v → 1 ≤ i → i ≤ 4 → shp (v + i) = .inr (0, n) → Ar h (v + i) 0 n := fun {v i n} hv h1 h2 e => ⟨by omega, by rw [cs.1]; have := hv.a.2.1; omega, by rw [cs.2.1]; exact e⟩
  refine eS_copy 199 [] fun S Cu hS hC => ?_
  refine ld (nI (pcw π)) p.ob p.2.2.1.1.1 ?_
  refine ld (nI (pcw π)) ob rfl ?_
  refine ld (nI (pch π)) p.ob (by rw [si_n us]; exact p.2.2.1.1.2.1) ?_
  refine ld (nI (pch π)) ob rfl ?_
  refine ld (nI (pcn π)) p.ob (by rw [si_n us, si_n us]; exact p.2.2.1.1.2.2.1) ?_
  refine ld (nI (pcn π)) ob rfl ?_
  refine ld (nI (pcs π)) p.ob (by rw [si_n us, si_n us, si_n us]; exact p.2.2.1.1.2.2.2) ?_
  refine ld (nI (pcs π)) ob rfl ?_
  refine ld (u + 1) p.ob p.r4 ?_
  refine ld (s + 1) ob (cs.rf sh.rf.1 rfl) ?_
  refine ⟨400, 400, ar p.2.1 (by decide) (by decide) B.1.2.1, ar sh (by decide) (by decide) A.1.2.1, by decide, by decide, by decide, by decide, by decide, ?_⟩
  refine ld (u + 2) p.ob p.r5 ?_
  refine ld (s + 2) ob (cs.rf sh.rf.2.1 rfl) ?_
  refine ⟨40, 40, ar p.2.1 (by decide) (by decide) B.1.2.2.1, ar sh (by decide) (by decide) A.1.2.2.1, by decide, by decide, by decide, by decide, by decide, ?_⟩
  refine ld (u + 3) p.ob p.r6 ?_
  refine ld (s + 3) ob (cs.rf sh.rf.2.2.1 rfl) ?_
  refine ⟨40, 40, ar p.2.1 (by decide) (by decide) B.1.2.2.2.1, ar sh (by decide) (by decide) A.1.2.2.2.1, by decide, by decide, by decide, by decide, by decide, ?_⟩
  refine ld (u + 4) p.ob p.r7 ?_
  refine ld (s + 4) ob (cs.rf sh.rf.2.2.2 rfl) ?_
  refine ⟨40, 40, ar p.2.1 (by decide) (by decide) B.1.2.2.2.2, ar sh (by decide) (by decide) A.1.2.2.2.2, by decide, by decide, by decide, by decide, by decide, ?_⟩
  have n1 : ∀ {i j : Nat}, i ≤ 4 → j ≤ 4 → u + i ≠ s + j := fun a b => ne _ _ a b
  have n0 : ∀ {i : Nat}, i ≤ 4 → u + i ≠ s := fun {i} a => ne i 0 a (by decide)
  refine hK _ ((((((((FX.rf.setI (Or.inl g0)).setI (Or.inl g0)).setI (Or.inl g0)).setI (Or.inl g0)).row (Or.inl g1)).row (Or.inl g2)).row (Or.inl g3)).row (Or.inl g4)) ⟨⟨?_, ?_, ?_, ?_⟩, fun c hc => ?_, fun d hd => ⟨?_, ?_, ?_⟩⟩
  · rw [ri_n (by omega), ri_n (by omega), ri_n (by omega), ri_n (by omega), si_ne (by decide), si_ne (by decide), si_ne (by decide), si_eq]
  · rw [ri_n (by omega), ri_n (by omega), ri_n (by omega), ri_n (by omega), si_ne (by decide), si_ne (by decide), si_eq]
  · rw [ri_n (by omega), ri_n (by omega), ri_n (by omega), ri_n (by omega), si_ne (by decide), si_eq]
  · rw [ri_n (by omega), ri_n (by omega), ri_n (by omega), ri_n (by omega), si_eq]
  · rw [ri_n (by omega), ri_n (by omega), ri_n (by omega), ri_eq]
    refine (cpy_at (n := 400) (by omega) (by decide)).trans ?_
    rw [si_n (n0 (by decide)), si_n (n0 (by decide)), si_n (n0 (by decide)), si_n (n0 (by decide))]
    exact p.2.2.1.2.1 c hc
  · rw [ri_n (by omega), ri_n (by omega), ri_eq]
    refine (cpy_at (n := 40) (by omega) (by decide)).trans ?_
    rw [ri_n (n1 (by decide) (by decide)), si_n (n0 (by decide)), si_n (n0 (by decide)), si_n (n0 (by decide)), si_n (n0 (by decide))]
    exact (p.2.2.1.2.2 d hd).1
  · rw [ri_n (by omega), ri_eq]
    refine (cpy_at (n := 40) (by omega) (by decide)).trans ?_
    rw [ri_n (n1 (by decide) (by decide)), ri_n (n1 (by decide) (by decide)), si_n (n0 (by decide)), si_n (n0 (by decide)), si_n (n0 (by decide)), si_n (n0 (by decide))]
    exact (p.2.2.1.2.2 d hd).2.1
  · rw [ri_eq]
    refine (cpy_at (n := 40) (by omega) (by decide)).trans ?_
    rw [ri_n (n1 (by decide) (by decide)), ri_n (n1 (by decide) (by decide)), ri_n (n1 (by decide) (by decide)), si_n (n0 (by decide)), si_n (n0 (by decide)), si_n (n0 (by decide)), si_n (n0 (by decide))]
    exact (p.2.2.1.2.2 d hd).2.2
theorem sS_clear (cs : CS h) (sh : SH s) (hK : ∀ h', FX s [] h h' → SP h' s pic0 → K none h') : Spec G l (mt mS_clear) [vR s] h K := by
  have A := sh.a
  obtain ⟨g0, g1, g2, g3, g4⟩ := A.2.2
  have ob : Ob h s 7 := ⟨A.2.1.1, by rw [cs.1]; omega, by rw [cs.2.1]; exact A.1.1⟩
  have ar1 : Ar h (s + 1) 0 400 := ⟨by omega, by rw [cs.1]; omega, by rw [cs.2.1]; exact A.1.2.1⟩
  refine eS_clear 99 [] fun S Cu hS hC => ?_
  refine ld (nI 8) ob rfl ?_
  refine ld (nI 8) ob rfl ?_
  refine ld (nI 0) ob rfl ?_
  refine ld (nI 0) ob rfl ?_
  refine ld (s + 1) ob (cs.rf sh.rf.1 rfl) ?_
  refine hS _ _ _ _ (sJ_fillI (n := 400) ar1 (by decide) fun h' f hv => ?_)
  refine hK h' (((((FX.rf.setI (Or.inl g0)).setI (Or.inl g0)).setI (Or.inl g0)).setI (Or.inl g0)).tr (L := []) (M := []) (f.x (Or.inl g1)) rfl rfl) ⟨⟨?_, ?_, ?_, ?_⟩, fun c hc => ?_, fun d hd => absurd hd (Nat.not_lt_zero d)⟩
  · rw [f.2.2.2.2 s (by omega), si_ne (by decide), si_ne (by decide), si_ne (by decide), si_eq]; rfl
  · rw [f.2.2.2.2 s (by omega), si_ne (by decide), si_ne (by decide), si_eq]; rfl
  · rw [f.2.2.2.2 s (by omega), si_ne (by decide), si_eq]; rfl
  · rw [f.2.2.2.2 s (by omega), si_eq]; rfl
  · have : c < 64 := hc
    rw [hv c (by omega)]
    show nI 0 = nI (pic0 (4 + c))
    unfold pic0; rw [pu_ne (by omega), pu_ne (by omega)]
end CC
