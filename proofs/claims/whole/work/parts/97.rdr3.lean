/-! ===== the class: lines of a tape ===== -/
theorem SP.puW {h : AH} {s c v : Nat} {ρ : Pic} (p : SP h s ρ) (hc : c < 400) : SP (setI h (s + 1) c (nI v)) s (pu ρ (4 + c) v) := by
  have e0 : pcw (pu ρ (4 + c) v) = pcw ρ := pu_ne (by omega)
  have e1 : pch (pu ρ (4 + c) v) = pch ρ := pu_ne (by omega)
  have e2 : pcs (pu ρ (4 + c) v) = pcs ρ := pu_ne (by omega)
  have e3 : pcn (pu ρ (4 + c) v) = pcn ρ := pu_ne (by omega)
  have ec : pcc (pu ρ (4 + c) v) = pcc ρ := by unfold pcc; rw [e0, e1]
  refine ⟨?_, fun d hd => ?_, fun d hd => ?_⟩
  · rw [si_n (by omega), e0, e1, e2, e3]; exact p.1
  · rw [ec] at hd
    by_cases k : d = c
    · subst k; rw [si_eq]; exact congrArg nI pu_eq.symm
    · rw [si_ne k, p.2.1 d hd]; exact congrArg nI (pu_ne (ρ := ρ) (i := 4 + d) (j := 4 + c) (v := v) (by omega)).symm
  · rw [e3] at hd
    have x0 : pcX (pu ρ (4 + c) v) d = pcX ρ d := pu_ne (by omega)
    have x1 : pcY (pu ρ (4 + c) v) d = pcY ρ d := pu_ne (by omega)
    have x2 : pcD (pu ρ (4 + c) v) d = pcD ρ d := pu_ne (by omega)
    rw [si_n (by omega), si_n (by omega), si_n (by omega), x0, x1, x2]; exact p.2.2 d hd
/-- ahead of a line: its first token is read -/
def RS (h : AH) (t : Nat → Nat) (L u e : Nat) (π : Pic) (w : Nat) : Prop := RR h t L u ∧ NF h ∧ RK h (tok t L e) ∧ SP h u π ∧ hI h 17 5 = nI w ∧ LnOK L e π w
theorem RR.sh {h : AH} {t : Nat → Nat} {L u : Nat} (r : RR h t L u) : SH u := pl_sl r.2.1
theorem RR.ne {h : AH} {t : Nat → Nat} {L u : Nat} (r : RR h t L u) {k : Nat} (hk : PL.contains (grp k) = false) : grp k ≠ u := fun z => by rw [z, r.2.1] at hk; cases hk
/-- a change of the draft alone -/
theorem RR.d {h h' : AH} {t : Nat → Nat} {L u : Nat} (r : RR h t L u) (f : FX u [] h h') : RR h' t L u :=
  ⟨f.cs r.1, r.2.1, by rw [f.2.2.1]; exact r.2.2.1, by rw [f.i (k := 17) (r.ne rfl) rfl]; exact r.2.2.2.1, r.2.2.2.2.1, fun i hi => by rw [f.i (k := 18) (r.ne rfl) rfl]; exact r.2.2.2.2.2.1 i hi, r.2.2.2.2.2.2⟩
theorem RR.e17 {h h' : AH} {t : Nat → Nat} {L u : Nat} (r : RR h t L u) (f : FX u [] h h') : hI h' 17 = hI h 17 := f.i (k := 17) (r.ne rfl) rfl
theorem N17.sp {h h' : AH} {M : List Nat} {u : Nat} {π : Pic} (f : N17 M h h') (p : SP h u π) (hu : PL.contains u = true) : SP h' u π := (f.x (s := 999)).sp p (pl_sl hu) (by have := (pl_sl hu).lt; omega) (by
  cases e : [17].contains u with
  | false => rfl
  | true =>
    have : u = 17 := by simpa using e
    rw [this] at hu; cases hu)
section CC
variable {G : GP} {l : Launch} {K : Option AV → AH → Prop} {h : AH} {ρ : Pic}
variable {t : Nat → Nat} {L u e w : Nat} {π : Pic}
/-- how a line ends -/
def LK (h : AH) (t : Nat → Nat) (L u : Nat) (K : Option AV → AH → Prop) (o : Ou (Nat × Pic × Nat)) : Prop := (∀ q, o = .inl q → ∀ h', FX u [17] h h' → RR h' t L u → FLt h' q → K none h') ∧ (∀ x, o = .inr x → ∀ h', FX u [17] h h' → RR h' t L u → NF h' → RK h' (tok t L x.1) → SP h' u x.2.1 → hI h' 17 5 = nI x.2.2 → K none h')
theorem sR_readRow (s : RS h t L u e π w) (kw : (tok t L e).1 = 1) (hk : LK h t L u K (bd (rowR t L e π w) fun a => bd (sgn t L a.1) fun b => .inr (b, a.2))) : Spec G l (mt mR_readRow) [vR 17] h K := by
  obtain ⟨r, nf, rk, sp, e5, ln⟩ := s
  have L9 := r.2.2.2.2.1
  have g := ln.2.1.n
  have gc := ln.2.1.c
  have sh := r.sh
  have A := sh.a
  have obu : ∀ {h' : AH}, CS h' → Ob h' u 7 := fun c => ⟨A.2.1.1, by rw [c.1]; omega, by rw [c.2.1]; exact A.1.1⟩
  obtain ⟨k0, k1⟩ := hk
  have ts := tok_sp (t := t) ln.1
  have ts2 := tok_sp (t := t) ts.2.2.1
  have tn := tokAt_num (t := t) (L := L) (s := run blB t L (tok t L e).2.2)
  rw [← tok_eq] at tn
  unfold rowR at k0 k1
  have wL := ln.2.2
  refine eR_readRow 199 [(58, 1)] fun S Cu hS hC => ?_
  refine ld _ r.ob e5 ?_
  refine ld u r.ob r.2.2.1 ?_
  refine ld _ (obu r.1) sp.1.2.1 ?_
  refine pk_lt w (pch π) (fun q => ?_) (fun q => ?_)
  · rw [if_neg (by omega)] at k0 k1
    refine And.intro r.ob (hS _ _ _ _ (sR_next r rk.2.2 ts.2.2.1 fun h2 f2 rk2 => ?_))
    have r2 := r.n f2 rfl
    have sp2 := f2.sp sp r.2.1
    generalize tok t L (tok t L e).2.2 = T at *
    refine And.intro r2.ob (hS _ _ _ _ (sR_expect (k := 2) r2 rk2 ts2.2.2.2.1 rfl (by decide) (fun q2 => ?_) (fun q2 h3 f3 fl => ?_)))
    · refine And.intro (fun _ => ?_) (fun z => absurd z (by decide))
      rw [if_pos q2] at k0 k1
      have dg := tn q2
      refine ld _ r2.ob rk2.2.2 ?_
      refine ld _ r2.ob rk2.2.1 ?_
      refine ld u r2.ob r2.2.2.1 ?_
      refine ld _ (obu r2.1) sp2.1.1 ?_
      refine pk_le (T.2.2 - T.2.1) (pcw π) (fun q3 => ?_) (fun q3 => ?_) (pk_sub ts2.2.1) rfl
      · rw [if_pos q3] at k0 k1
        have lp : ∀ k, k ≤ T.2.2 - T.2.1 → ∀ h3, FX u [] h2 h3 → SP h3 u (rowP t π w T.2.1 k) → ∀ v, v = nI (T.2.1 + k) → Go G l (mt mR_readRow) 63 [some (vR 17), some (vI v)] [] h3 0 0 K := by
          refine upto _ ?_
          intro k hk ih h3 f3 sp3 v hv
          subst hv
          have r3 := r2.d f3
          have e17 := r2.e17 f3
          have gk := good_rowP (t := t) (π := π) (w := w) (s := T.2.1) (n := k) ln.2.1 q (by omega) (fun i a b => dg i a (by omega))
          refine gR_readRow 99 [(63, 2)] fun S Cu hS hC => ?_
          refine ld (nI T.2.2) r3.ob (by rw [e17]; exact rk2.2.2) ?_
          refine pk_le T.2.2 (T.2.1 + k) (fun z => ?_) (fun z => ?_)
          · obtain rfl : k = T.2.2 - T.2.1 := by omega
            refine ld (nI w) r3.ob (by rw [e17, f2.2 5 rfl]; exact e5) ?_
            refine ld (nI (w + 1)) r3.ob (nI_1 w) ?_
            have f4 : N17 [5] h3 (setI h3 17 5 (nI (w + 1))) := N17.rf.setI rfl
            have r4 := r3.n f4 rfl
            have nf4 : NF (setI h3 17 5 (nI (w + 1))) := (show NF h3 from by unfold NF; rw [e17]; exact nf.n f2 rfl).n f4 rfl
            have sp4 := f4.sp sp3 r.2.1
            have fx4 : FX u [17] h (setI h3 17 5 (nI (w + 1))) := (f2.x.tr (N := [17]) f3 rfl rfl).tr f4.x rfl rfl
            refine And.intro r4.ob (hS _ _ _ _ (sR_readSign (e := T.2.2) r4 nf4 ?_ ts2.2.2.1 (fun q4 e4 h5 f5 fl => ?_) (fun x e4 xL h5 f5 k5 => ?_)))
            · rw [si_ne (by decide), e17]; exact rk2.2.2
            · exact k0 _ (by show bd (sgn t L T.2.2) _ = _; rw [e4]; rfl) h5 (fx4.tr f5.x rfl rfl) (r4.n f5 rfl) fl
            · refine k1 _ (by show bd (sgn t L T.2.2) _ = _; rw [e4]; rfl) h5 (fx4.tr f5.x rfl rfl) (r4.n f5 rfl) (nf4.n f5 rfl) k5 (f5.sp sp4 r.2.1) ?_
              rw [f5.2 5 rfl, si_eq]
          · have dgk := dgB_iff.mp (dg (T.2.1 + k) (by omega) z)
            have wl : pcw π * w + k < 400 := by
              have : pcw π * (w + 1) ≤ pcw π * pch π := Nat.mul_le_mul_left _ q
              rw [Nat.mul_succ] at this
              have : pcw π * pch π = pcc π := rfl
              omega
            have er : nI w * nI (pcw π) + nI (T.2.1 + k) - nI T.2.1 = nI (pcw π * w + k) := by
              rw [pk_mul, nI_add, pk_sub (by omega), Nat.mul_comm]
              exact congrArg nI (by omega)
            have inW : InA h3 (u + 1) 0 (nI w * nI (pcw π) + nI (T.2.1 + k) - nI T.2.1) := ⟨400, ⟨by omega, by rw [r3.1.1]; omega, by rw [r3.1.2.1]; exact A.1.2.1⟩, by rw [er]; exact vp_in_nI wl (by decide)⟩
            refine ld u r3.ob r3.2.2.1 ?_
            refine ld (u + 1) (obu r3.1) (r3.1.rf sh.rf.1 rfl) ?_
            refine ld (nI w) r3.ob (by rw [e17, f2.2 5 rfl]; exact e5) ?_
            refine ld u r3.ob r3.2.2.1 ?_
            refine ld (nI (pcw π)) (obu r3.1) (by rw [sp3.1.1, gk.2.1]) ?_
            refine ld (nI T.2.1) r3.ob (by rw [e17]; exact rk2.2.1) ?_
            refine ld 18 r3.ob r3.r3 ?_
            refine ld (nI (t (T.2.1 + k))) (r3.inA rfl (by omega)) (r3.by rfl (by omega)) ?_
            refine sw (pcw π * w + k) (nI (t (T.2.1 + k) - 48)) inW (ix_of er (by omega)) (pk_sub (b := 48) (by omega)) ?_
            refine hC _ _ _ _ (ih (by omega) _ (f3.setI (Or.inl A.2.2.2.1)) ?_ _ (nI_1 _))
            rw [rowP_s, show 4 + pcw π * w + k = 4 + (pcw π * w + k) by omega]
            exact sp3.puW wl
        have go58 : Go G l (mt mR_readRow) 58 [some (vR 17), none] [] h2 0 0 K := by
          refine gR_readRow 99 [(63, 2)] fun S Cu hS hC => ?_
          refine ld _ r2.ob rk2.2.1 ?_
          exact hC _ _ _ _ (lp 0 (Nat.zero_le _) h2 FX.rf (by rw [rowP_0]; exact sp2) _ rfl)
        exact hC _ _ _ _ go58
      · rw [if_neg (by omega)] at k0
        have fau4 : fau T 4 = (4, T.2.1) := by unfold fau; rw [if_neg (by omega)]
        refine And.intro r2.ob (hS _ _ _ _ (sR_fail (k := 4) r2 rfl rk2.2.1 fun h3 f3 a b => ?_))
        refine k0 _ rfl h3 (f2.x.tr f3.x rfl rfl) (r2.n f3 rfl) ?_
        rw [fau4]; exact ⟨a, b, show 1 ≤ 4 by decide, show 4 ≤ 4 by decide⟩
    · refine And.intro (fun z => absurd rfl z) (fun _ => ?_)
      rw [if_neg q2] at k0
      exact k0 _ rfl h3 (f2.x.tr f3.x rfl rfl) (r2.n f3 rfl) fl
  · rw [if_pos (by omega)] at k0
    have fau3 : fau (tok t L e) 3 = (3, (tok t L e).2.1) := by unfold fau; rw [if_neg (by omega)]
    refine And.intro r.ob (hS _ _ _ _ (sR_fail (k := 3) r rfl rk.2.1 fun h3 f3 a b => ?_))
    refine k0 _ rfl h3 f3.x (r.n f3 rfl) ?_
    rw [fau3]; exact ⟨a, b, show 1 ≤ 3 by decide, show 3 ≤ 4 by decide⟩
theorem sR_readDot (s : RS h t L u e π w) (kw : (tok t L e).1 = 1) (hk : LK h t L u K (bd (dotR t L e π w) fun a => bd (sgn t L a.1) fun b => .inr (b, a.2))) : Spec G l (mt mR_readDot) [vR 17] h K := by
  obtain ⟨r, nf, rk, sp, e5, ln⟩ := s
  have L9 := r.2.2.2.2.1
  have g := ln.2.1.n
  have gc := ln.2.1.c
  have sh := r.sh
  have A := sh.a
  have obu : ∀ {h' : AH}, CS h' → Ob h' u 7 := fun c => ⟨A.2.1.1, by rw [c.1]; omega, by rw [c.2.1]; exact A.1.1⟩
  obtain ⟨k0, k1⟩ := hk
  have ts := tok_sp (t := t) ln.1
  unfold dotR at k0 k1
  -- all goes wrong from 48 on
  have bad : ∀ q h2, FX u [17] h h2 → RR h2 t L u → FLt h2 q → bd (dotR t L e π w) (fun a => bd (sgn t L a.1) fun b => (.inr (b, a.2) : Ou (Nat × Pic × Nat))) = .inl q → ∀ z1 z2, Go G l (mt mR_readDot) 48 [some (vR 17), z1, z2] [] h2 0 0 K := by
    intro q h2 f2 r2 fl eo z1 z2
    unfold dotR at eo
    refine gR_readDot 99 [] fun S Cu hS hC => ?_
    refine And.intro r2.ob (hS _ _ _ _ (sR_readSignB r2 fl ?_))
    refine ld _ r2.ob fl.1 ?_
    refine And.intro (fun _ => ?_) (fun z => absurd z (nI_ne0 (by have := fl.2.2; omega) (by have := fl.2.2; omega)))
    exact k0 q eo h2 f2 r2 fl
  unfold dotR at bad
  refine eR_readDot 199 [(48, 3)] fun S Cu hS hC => ?_
  refine ld u r.ob r.2.2.1 ?_
  refine ld _ (obu r.1) sp.1.2.2.1 ?_
  refine pk_lt (pcn π) 40 (fun q => ?_) (fun q => ?_)
  · rw [if_neg (by omega)] at k0 k1 bad
    refine ld u r.ob r.2.2.1 ?_
    refine ld _ (obu r.1) sp.1.1 ?_
    refine And.intro r.ob (hS _ _ _ _ (sR_readNumber (lo := 0) (hi := pcw π - 1) r nf rk.2.2 ts.2.2.1 rfl (by first | with_reducible rfl | (try simp (disch := omega) only [pk_rem]) <;> simp (disch := omega) only [nl0, nl1, nl2, nl3, nl4, nl8, nl9, nl10, nl12, nl20, nl24, nl30, nl32, nl40, nl48, nl100, nl120, nl200, nl255, nl400, nl404, nl524, nl900, nl1000, nl9999, nl16, nl65536, nI_add, pk_mul, pk_sub, pk_div, pk_rem, Nat.add_zero, Nat.zero_add, Nat.mul_one, Nat.add_sub_cancel_left, Nat.add_sub_cancel]) (by decide) (by omega) (fun q1 e1 h2 f2 fl => ?_) (fun x e1 h2 f2 a2 => ?_)))
    · have r2 := r.n f2 rfl
      have sp2 := f2.sp sp r.2.1
      refine ld u r2.ob r2.2.2.1 ?_
      refine ld _ (obu r2.1) sp2.1.2.1 ?_
      refine And.intro r2.ob (hS _ _ _ _ (sR_readNumberB r2 fl ?_))
      exact hC _ _ _ _ (bad q1 h2 f2.x r2 fl (by rw [e1]; rfl) _ _)
    · have r2 := r.n f2 rfl
      have sp2 := f2.sp sp r.2.1
      have nf2 := nf.n f2 rfl
      obtain ⟨n1, n2, n3, n4⟩ := num_sp ts.2.2.1 e1
      rw [e1] at k0 k1 bad
      refine ld u r2.ob r2.2.2.1 ?_
      refine ld _ (obu r2.1) sp2.1.2.1 ?_
      refine And.intro r2.ob (hS _ _ _ _ (sR_readNumber (lo := 0) (hi := pch π - 1) r2 nf2 a2 n2 rfl (by first | with_reducible rfl | (try simp (disch := omega) only [pk_rem]) <;> simp (disch := omega) only [nl0, nl1, nl2, nl3, nl4, nl8, nl9, nl10, nl12, nl20, nl24, nl30, nl32, nl40, nl48, nl100, nl120, nl200, nl255, nl400, nl404, nl524, nl900, nl1000, nl9999, nl16, nl65536, nI_add, pk_mul, pk_sub, pk_div, pk_rem, Nat.add_zero, Nat.zero_add, Nat.mul_one, Nat.add_sub_cancel_left, Nat.add_sub_cancel]) (by decide) (by omega) (fun q1 e2 h3 f3 fl => ?_) (fun y e2 h3 f3 a3 => ?_)))
      · have r3 := r2.n f3 rfl
        exact hC _ _ _ _ (bad q1 h3 (f2.x.tr f3.x rfl rfl) r3 fl (by show bd (bd (num t L x.2 0 (pch π - 1)) _) _ = _; rw [e2]; rfl) _ _)
      · have r3 := r2.n f3 rfl
        have sp3 := f3.sp sp2 r.2.1
        have nf3 := nf2.n f3 rfl
        obtain ⟨m1, m2, m3, m4⟩ := num_sp n2 e2
        have go48 : Go G l (mt mR_readDot) 48 [some (vR 17), some (vI (nI x.1)), some (vI (nI y.1))] [] h3 0 0 K := by
          refine gR_readDot 99 [] fun S Cu hS hC => ?_
          refine And.intro r3.ob (hS _ _ _ _ (sR_readSign r3 nf3 a3 m2 (fun q1 e3 h4 f4 fl => ?_) (fun z e3 zL h4 f4 k4 => ?_)))
          · have r4 := r3.n f4 rfl
            refine ld _ r4.ob fl.1 ?_
            refine And.intro (fun _ => ?_) (fun z => absurd z (nI_ne0 (by have := fl.2.2; omega) (by have := fl.2.2; omega)))
            exact k0 q1 (by show bd (bd (num t L x.2 0 (pch π - 1)) _) _ = _; rw [e2]; show bd (sgn t L y.2) _ = _; rw [e3]; rfl) h4 ((f2.x.tr (N := [17]) f3.x rfl rfl).tr f4.x rfl rfl) r4 fl
          · have r4 := r3.n f4 rfl
            have sp4 := f4.sp sp3 r.2.1
            have nf4 := nf3.n f4 rfl
            refine ld _ r4.ob nf4.1 ?_
            refine And.intro (fun z => absurd rfl z) (fun _ => ?_)
            refine ld u r4.ob r4.2.2.1 ?_
            have x4 : SC h4 u π := ⟨r4.1, sh, sp4, ln.2.1⟩
            refine And.intro x4.ob (hS _ _ _ _ (sS_add x4 rfl rfl q (by omega) (by omega) fun h5 f5 p5 => ?_))
            have e17 := r4.e17 f5
            refine k1 (z, addD π x.1 y.1, w) (by show bd (bd (num t L x.2 0 (pch π - 1)) _) _ = _; rw [e2]; show bd (sgn t L y.2) _ = _; rw [e3]; rfl) h5 (((f2.x.tr (N := [17]) f3.x rfl rfl).tr (N := [17]) f4.x rfl rfl).tr f5 rfl rfl) (r4.d f5) ?_ ?_ p5 ?_
            · unfold NF; rw [e17]; exact nf4
            · unfold RK; rw [e17]; exact k4
            · rw [e17, f4.2 5 rfl, f3.2 5 rfl, f2.2 5 rfl]; exact e5
        exact hC _ _ _ _ go48
  · rw [if_pos (by omega)] at k0
    have fau3 : fau (tok t L e) 3 = (3, (tok t L e).2.1) := by unfold fau; rw [if_neg (by omega)]
    refine And.intro r.ob (hS _ _ _ _ (sR_fail (k := 3) r rfl rk.2.1 fun h3 f3 a b => ?_))
    refine k0 _ rfl h3 f3.x (r.n f3 rfl) ?_
    rw [fau3]; exact ⟨a, b, show 1 ≤ 3 by decide, show 3 ≤ 4 by decide⟩
theorem sR_readLine (s : RS h t L u e π w) (hk : LK h t L u K (line t L e π w)) : Spec G l (mt mR_readLine) [vR 17] h K := by
  have r := s.1
  have rk := s.2.2.1
  have ln := s.2.2.2.2.2
  have ts := tok_sp (t := t) ln.1
  unfold line at hk
  refine eR_readLine 99 [(45, 1)] fun S Cu hS hC => ?_
  refine And.intro r.ob (hS _ _ _ _ (sR_isWord (i := 1) r rk ln.1 (by decide) ?_))
  refine brE (fun q => ?_) (fun q => ?_)
  · have q : ¬ wdT t (tok t L e) 0x726f77 := q
    rw [if_neg q] at hk
    refine And.intro r.ob (hS _ _ _ _ (sR_isWord (i := 2) r rk ln.1 (by decide) ?_))
    refine brE (fun q2 => ?_) (fun q2 => ?_)
    · have q2 : ¬ wdT t (tok t L e) 0x646f74 := q2
      rw [if_neg q2] at hk
      have fl : ∀ v, v = nI (fau (tok t L e) 2).1 → Go G l (mt mR_readLine) 45 [some (vR 17)] [vI v, vR 17] h 0 0 K := by
        intro v hv
        refine gR_readLine 39 [] fun S Cu hS hC => ?_
        refine And.intro r.ob (hS _ _ _ _ (sR_fail r hv rk.2.1 fun h' f a b => ?_))
        exact hk.1 _ rfl h' f.x (r.n f rfl) ⟨a, b, fau_ok (by decide)⟩
      refine ld _ r.ob rk.1 ?_
      refine And.intro (fun z => ?_) (fun z => ?_)
      · refine hC _ _ _ _ (fl _ ?_)
        show _ = nI (if (tok t L e).1 = 4 then 1 else 2)
        rw [if_neg (fun y => z ((kk_0 ts.2.2.2.1).mpr y))]; rfl
      · refine hC _ _ _ _ (fl _ ?_)
        show _ = nI (if (tok t L e).1 = 4 then 1 else 2)
        rw [if_pos ((kk_0 ts.2.2.2.1).mp z)]; rfl
    · have q2 : wdT t (tok t L e) 0x646f74 := q2
      rw [if_pos q2] at hk
      exact And.intro r.ob (hS _ _ _ _ (sR_readDot s q2.1 hk))
  · have q : wdT t (tok t L e) 0x726f77 := q
    rw [if_pos q] at hk
    exact And.intro r.ob (hS _ _ _ _ (sR_readRow s q.1 hk))
end CC
