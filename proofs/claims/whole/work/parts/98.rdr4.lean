/-! ===== the class: a tape read, and fed ===== -/
section CC
variable {G : GP} {l : Launch} {K : Option AV → AH → Prop} {h : AH} {ρ : Pic}
variable {t : Nat → Nat} {L u : Nat}
theorem sS_clear2 {s : Nat} (cs : CS h) (sh : SH s) (hK : ∀ h', FX s [] h h' → SP h' s pic0 → (∀ c, c < 400 → hI h' (s + 1) c = nI 0) → K none h') : Spec G l (mt mS_clear) [vR s] h K := by
  have A := sh.a
  obtain ⟨g0, g1, g2, g3, g4⟩ := A.2.2
  have ob : Ob h s 7 := ⟨A.2.1.1, by rw [cs.1]; omega, by rw [cs.2.1]; exact A.1.1⟩
  have ar1 : Ar h (s + 1) 0 400 := ⟨by omega, by rw [cs.1]; omega, by rw [cs.2.1]; exact A.1.2.1⟩
  refine eS_clear 99 [] fun S Cu hS hC => ?_
  refine ld (nI 8) ob rfl ?_
  refine ld (nI 8) ob rfl ?_
  refine ld (nI 0) ob rfl ?_
  refine ld (nI 0) ob rfl ?_
  refine ld (s + 1) ob (cs.rf sh.rf.1 rfl) ?_
  refine hS _ _ _ _ (sJ_fillI (n := 400) ar1 (by decide) fun h' f hv => ?_)
  refine hK h' (((((FX.rf.setI (Or.inl g0)).setI (Or.inl g0)).setI (Or.inl g0)).setI (Or.inl g0)).tr (L := []) (M := []) (f.x (Or.inl g1)) rfl rfl) ⟨⟨?_, ?_, ?_, ?_⟩, fun c hc => ?_, fun d hd => absurd hd (Nat.not_lt_zero d)⟩ (fun c hc => hv c hc)
  · rw [f.2.2.2.2 s (by omega), si_ne (by decide), si_ne (by decide), si_ne (by decide), si_eq]; rfl
  · rw [f.2.2.2.2 s (by omega), si_ne (by decide), si_ne (by decide), si_eq]; rfl
  · rw [f.2.2.2.2 s (by omega), si_ne (by decide), si_eq]; rfl
  · rw [f.2.2.2.2 s (by omega), si_eq]; rfl
  · have : c < 64 := hc
    rw [hv c (by omega)]
    show nI 0 = nI (pic0 (4 + c))
    unfold pic0; rw [pu_ne (by omega), pu_ne (by omega)]
theorem sR_readSize (r : RR h t L u) (nf : NF h) (rk : RK h (tok t L 0)) (z4 : ∀ c, c < 400 → hI h (u + 1) c = nI 0) (e2 : hI h u 2 = nI 0) (e3 : hI h u 3 = nI 0) (e5 : hI h 17 5 = nI 0)
    (h0 : ∀ q, (bd (num t L (tok t L 0).2.2 1 20) fun a => bd (num t L a.2 1 20) fun b => bd (sgn t L b.2) fun c => (.inr (c, pu (pu pic0 0 a.1) 1 b.1) : Ou (Nat × Pic))) = .inl q → ∀ h', FX u [17] h h' → RR h' t L u → FLt h' q → K none h')
    (h1 : ∀ x, (bd (num t L (tok t L 0).2.2 1 20) fun a => bd (num t L a.2 1 20) fun b => bd (sgn t L b.2) fun c => (.inr (c, pu (pu pic0 0 a.1) 1 b.1) : Ou (Nat × Pic))) = .inr x → ∀ h', FX u [17] h h' → RR h' t L u → NF h' → RK h' (tok t L x.1) → SP h' u x.2 → hI h' 17 5 = nI 0 → K none h') : Spec G l (mt mR_readSize) [vR 17] h K := by
  have sh := r.sh
  have A := sh.a
  have obu : ∀ {h' : AH}, CS h' → Ob h' u 7 := fun c => ⟨A.2.1.1, by rw [c.1]; omega, by rw [c.2.1]; exact A.1.1⟩
  have ts := tok_sp (t := t) (a := 0) (L := L) (Nat.zero_le _)
  have g0 := A.2.2.1
  have g1 := A.2.2.2.1
  have l17 : ∀ {h' h2 : AH} {j : Nat} {v : Int32}, RR h' t L u → hI (setI h' u j v) 17 = hI h' 17 := fun {h' h2 j v} r' => si_n (fun z => by have := r'.2.1; rw [← z] at this; cases this)
  refine eR_readSize 99 [] fun S Cu hS hC => ?_
  refine ld u r.ob r.2.2.1 ?_
  refine And.intro r.ob (hS _ _ _ _ (sR_readNumber (lo := 1) (hi := 20) r nf rk.2.2 ts.2.2.1 rfl rfl (by decide) (by decide) (fun q e1 h2 f2 fl => ?_) (fun a e1 h2 f2 a2 => ?_)))
  · have r2 := r.n f2 rfl
    refine ld (nI 1) (obu r2.1) rfl ?_
    have f3 : FX u [] h2 (setI h2 u 0 (nI 1)) := FX.rf.setI (Or.inl g0)
    have r3 := r2.d f3
    have fl3 : FLt (setI h2 u 0 (nI 1)) q := by unfold FLt; rw [r2.e17 f3]; exact fl
    refine ld u r3.ob r3.2.2.1 ?_
    refine And.intro r3.ob (hS _ _ _ _ (sR_readNumberB r3 fl3 ?_))
    refine ld (nI 1) (obu r3.1) rfl ?_
    have f4 : FX u [] h2 (setI (setI h2 u 0 (nI 1)) u 1 (nI 1)) := f3.setI (Or.inl g0)
    have r4 := r2.d f4
    have fl4 : FLt (setI (setI h2 u 0 (nI 1)) u 1 (nI 1)) q := by unfold FLt; rw [r2.e17 f4]; exact fl
    refine And.intro r4.ob (hS _ _ _ _ (sR_readSignB r4 fl4 ?_))
    exact h0 q (by rw [e1]; rfl) _ (f2.x.tr f4 rfl rfl) r4 fl4
  · have r2 := r.n f2 rfl
    obtain ⟨n1, n2, n3, n4⟩ := num_sp ts.2.2.1 e1
    rw [e1] at h0 h1
    refine ld (nI a.1) (obu r2.1) rfl ?_
    have f3 : FX u [] h2 (setI h2 u 0 (nI a.1)) := FX.rf.setI (Or.inl g0)
    have r3 := r2.d f3
    have e17 := r2.e17 f3
    have nf3 : NF (setI h2 u 0 (nI a.1)) := by unfold NF; rw [e17]; exact nf.n f2 rfl
    refine ld u r3.ob r3.2.2.1 ?_
    refine And.intro r3.ob (hS _ _ _ _ (sR_readNumber (lo := 1) (hi := 20) r3 nf3 (by rw [e17]; exact a2) n2 rfl rfl (by decide) (by decide) (fun q e4 h4 f4 fl => ?_) (fun b e4 h4 f4 a4 => ?_)))
    · have r4 := r3.n f4 rfl
      refine ld (nI 1) (obu r4.1) rfl ?_
      have f5 : FX u [] h4 (setI h4 u 1 (nI 1)) := FX.rf.setI (Or.inl g0)
      have r5 := r4.d f5
      have fl5 : FLt (setI h4 u 1 (nI 1)) q := by unfold FLt; rw [r4.e17 f5]; exact fl
      refine And.intro r5.ob (hS _ _ _ _ (sR_readSignB r5 fl5 ?_))
      exact h0 q (by show bd (num t L a.2 1 20) _ = _; rw [e4]; rfl) _ (((f2.x.tr (N := [17]) f3 rfl rfl).tr (N := [17]) f4.x rfl rfl).tr f5 rfl rfl) r5 fl5
    · have r4 := r3.n f4 rfl
      obtain ⟨m1, m2, m3, m4⟩ := num_sp n2 e4
      have nf4 := nf3.n f4 rfl
      refine ld (nI b.1) (obu r4.1) rfl ?_
      have f5 : FX u [] h4 (setI h4 u 1 (nI b.1)) := FX.rf.setI (Or.inl g0)
      have r5 := r4.d f5
      have e17b := r4.e17 f5
      have nf5 : NF (setI h4 u 1 (nI b.1)) := by unfold NF; rw [e17b]; exact nf4
      have fx5 : FX u [17] h (setI h4 u 1 (nI b.1)) := ((f2.x.tr (N := [17]) f3 rfl rfl).tr (N := [17]) f4.x rfl rfl).tr f5 rfl rfl
      have u17 : u ≠ 17 := fun z => by have := r.2.1; rw [z] at this; cases this
      have u117 : u + 1 ≠ 17 := fun z => by have := g1; rw [z] at this; exact u17 this.symm
      have eu : hI h4 u = hI (setI h2 u 0 (nI a.1)) u := f4.1.2.2.2.2 u u17
      have eu2 : hI h2 u = hI h u := f2.1.2.2.2.2 u u17
      have sp5 : SP (setI h4 u 1 (nI b.1)) u (pu (pu pic0 0 a.1) 1 b.1) := by
        refine ⟨⟨?_, ?_, ?_, ?_⟩, fun c hc => ?_, fun d hd => absurd hd (Nat.not_lt_zero d)⟩
        · rw [si_ne (by decide), eu, si_eq]; rfl
        · rw [si_eq]; rfl
        · rw [si_ne (by decide), eu, si_ne (by decide), eu2]; exact e2
        · rw [si_ne (by decide), eu, si_ne (by decide), eu2]; exact e3
        · have hc : c < a.1 * b.1 := hc
          have : a.1 * b.1 ≤ 20 * 20 := Nat.mul_le_mul n4 m4
          rw [si_n (by omega), f4.1.2.2.2.2 (u + 1) u117, si_n (by omega), f2.1.2.2.2.2 (u + 1) u117, z4 c (by omega)]
          show nI 0 = nI (pu (pu pic0 0 a.1) 1 b.1 (4 + c))
          unfold pic0; rw [pu_ne (by omega), pu_ne (by omega), pu_ne (by omega), pu_ne (by omega)]
      refine And.intro r5.ob (hS _ _ _ _ (sR_readSign r5 nf5 (by rw [e17b]; exact a4) m2 (fun q e6 h6 f6 fl => ?_) (fun x e6 xL h6 f6 k6 => ?_)))
      · exact h0 q (by show bd (num t L a.2 1 20) _ = _; rw [e4]; show bd (sgn t L b.2) _ = _; rw [e6]; rfl) h6 (fx5.tr f6.x rfl rfl) (r5.n f6 rfl) fl
      · refine h1 (x, pu (pu pic0 0 a.1) 1 b.1) (by show bd (num t L a.2 1 20) _ = _; rw [e4]; show bd (sgn t L b.2) _ = _; rw [e6]; rfl) h6 (fx5.tr f6.x rfl rfl) (r5.n f6 rfl) (nf5.n f6 rfl) k6 (f6.sp sp5 r.2.1) ?_
        rw [f6.2 5 rfl, e17b, f4.2 5 rfl, e17, f2.2 5 rfl]; exact e5
theorem tok_end {t : Nat → Nat} {L e : Nat} (h : L ≤ e) (he : e ≤ L) : (tok t L e).1 = 0 := by
  obtain rfl : e = L := by omega
  rw [tok_eq, run_L (Nat.le_refl _)]
  unfold tokAt; rw [if_pos (Nat.le_refl _)]
theorem sR_read (r : RR h t L u) (h0 : ∀ q, pict t L = .inl q → ∀ h', FX u [17] h h' → hI h' 17 0 = nI 0 → hI h' 17 1 = nI q.1 → hI h' 17 2 = nI q.2 → K (some (vI 0)) h') (h1 : ∀ π, pict t L = .inr π → ∀ h', FX u [17] h h' → hI h' 17 0 = nI 0 → hI h' 17 1 = nI 0 → hI h' 17 2 = -1 → SP h' u π → K (some (vI 1)) h') : Spec G l (mt mR_read) [vR 17] h K := by
  have L9 := r.2.2.2.2.1
  have finB : ∀ q, pict t L = .inl q → ∀ h2, FX u [17] h h2 → RR h2 t L u → FLt h2 q → ∀ z1, Go G l (mt mR_read) 78 [some (vR 17), z1] [] h2 0 0 K := by
    intro q ep h2 f2 r2 fl z1
    refine gR_read 39 [] fun S Cu hS hC => ?_
    refine ld (nI 0) r2.ob rfl ?_
    refine ld (nI q.1) r2.ob (by rw [si_ne (by decide)]; exact fl.1) ?_
    refine And.intro (fun _ => ?_) (fun z => absurd z (nI_ne0 (by have := fl.2.2; omega) (by have := fl.2.2; omega)))
    refine And.intro (Or.inl rfl) (h0 q ep _ (f2.setI (Or.inr rfl)) si_eq ?_ ?_)
    · rw [si_ne (by decide)]; exact fl.1
    · rw [si_ne (by decide)]; exact fl.2.1
  have finG : ∀ π, pict t L = .inr π → ∀ h2, FX u [17] h h2 → RR h2 t L u → NF h2 → SP h2 u π → ∀ z1, Go G l (mt mR_read) 78 [some (vR 17), z1] [] h2 0 0 K := by
    intro π ep h2 f2 r2 nf sp z1
    refine gR_read 39 [] fun S Cu hS hC => ?_
    refine ld (nI 0) r2.ob rfl ?_
    refine ld (nI 0) r2.ob (by rw [si_ne (by decide)]; exact nf.1) ?_
    refine And.intro (fun z => absurd rfl z) (fun _ => ?_)
    have f3 : N17 [0] h2 (setI h2 17 0 (nI 0)) := N17.rf.setI rfl
    refine And.intro (Or.inr rfl) (h1 π ep _ (f2.setI (Or.inr rfl)) si_eq ?_ ?_ (f3.sp sp r.2.1))
    · rw [si_ne (by decide)]; exact nf.1
    · rw [si_ne (by decide)]; exact nf.2
  have lpB : ∀ q, pict t L = .inl q → ∀ h2, FX u [17] h h2 → RR h2 t L u → FLt h2 q → ∀ i, Go G l (mt mR_read) 46 [some (vR 17), some (vI i)] [] h2 0 0 K := by
    intro q ep h2 f2 r2 fl i
    refine gR_read 39 [(78, 1)] fun S Cu hS hC => ?_
    refine And.intro (fun _ => ?_) (fun _ => ?_)
    · exact hC _ _ _ _ (finB q ep h2 f2 r2 fl _)
    · refine ld _ r2.ob fl.1 ?_
      refine And.intro (fun _ => ?_) (fun z => absurd z (nI_ne0 (by have := fl.2.2; omega) (by have := fl.2.2; omega)))
      exact hC _ _ _ _ (finB q ep h2 f2 r2 fl _)
  have lp : ∀ i, i ≤ 900 → ∀ h2 n e π w, FX u [17] h h2 → RS h2 t L u e π w → i ≤ e → L + 1 ≤ n + e → pict t L = lns t L n e π w → ∀ v, v = nI i → Go G l (mt mR_read) 46 [some (vR 17), some (vI v)] [] h2 0 0 K := by
    refine upto _ ?_
    intro i hi ih h2 n e π w f2 rs ie ne ep v hv
    subst hv
    have r2 := rs.1
    have nf := rs.2.1
    have rk := rs.2.2.1
    have sp := rs.2.2.2.1
    have ln := rs.2.2.2.2.2
    have ts := tok_sp (t := t) ln.1
    have el := ln.1
    obtain ⟨n, rfl⟩ : ∃ m, n = m + 1 := ⟨n - 1, by omega⟩
    simp only [lns] at ep
    refine gR_read 39 [(46, 2), (78, 1)] fun S Cu hS hC => ?_
    refine pk_le 900 i (fun q => ?_) (fun q => ?_)
    · rw [if_pos (tok_end (by omega) ln.1)] at ep
      exact hC _ _ _ _ (finG π ep h2 f2 r2 nf sp _)
    refine ld _ r2.ob nf.1 ?_
    refine And.intro (fun z => absurd rfl z) (fun _ => ?_)
    refine ld _ r2.ob rk.1 ?_
    refine And.intro (fun z => ?_) (fun z => ?_)
    · rw [if_pos ((kk_eq (b := 0) ts.2.2.2.1 (by decide)).mp z)] at ep
      exact hC _ _ _ _ (finG π ep h2 f2 r2 nf sp _)
    · rw [if_neg (fun y => z (by rw [y]; rfl))] at ep
      refine And.intro r2.ob (hS _ _ _ _ (sR_readLine rs ⟨fun q2 e2 h3 f3 r3 fl => ?_, fun x e2 h3 f3 r3 nf3 k3 sp3 e5 => ?_⟩))
      · rw [e2] at ep
        exact hC _ _ _ _ (lpB q2 ep h3 (f2.tr f3 rfl rfl) r3 fl _)
      · rw [e2] at ep
        obtain ⟨l1, l2⟩ := line_sp ln e2
        exact hC _ _ _ _ (ih q h3 n x.1 x.2.1 x.2.2 (f2.tr f3 rfl rfl) ⟨r3, nf3, k3, sp3, e5, l2⟩ (by omega) (by omega) ep _ (nI_1 i))
  have sh := r.sh
  have A := sh.a
  have obu : ∀ {h' : AH}, CS h' → Ob h' u 7 := fun c => ⟨A.2.1.1, by rw [c.1]; omega, by rw [c.2.1]; exact A.1.1⟩
  refine eR_read 99 [(46, 2)] fun S Cu hS hC => ?_
  refine ld (nI 0) r.ob rfl ?_
  refine ld (-1) r.ob rfl ?_
  refine ld (nI 0) r.ob rfl ?_
  refine ld (nI 0) r.ob rfl ?_
  have f1 : N17 [1, 2, 5, 6] h (setI (setI (setI (setI h 17 1 (nI 0)) 17 2 (-1)) 17 5 (nI 0)) 17 6 (nI 0)) := (((N17.rf.setI rfl).setI rfl).setI rfl).setI rfl
  have n1 : NF (setI (setI (setI (setI h 17 1 (nI 0)) 17 2 (-1)) 17 5 (nI 0)) 17 6 (nI 0)) := ⟨by rw [si_ne (by decide), si_ne (by decide), si_ne (by decide), si_eq], by rw [si_ne (by decide), si_ne (by decide), si_eq]⟩
  have a5 : hI (setI (setI (setI (setI h 17 1 (nI 0)) 17 2 (-1)) 17 5 (nI 0)) 17 6 (nI 0)) 17 5 = nI 0 := by rw [si_ne (by decide), si_eq]
  have a6 : hI (setI (setI (setI (setI h 17 1 (nI 0)) 17 2 (-1)) 17 5 (nI 0)) 17 6 (nI 0)) 17 6 = nI 0 := si_eq
  generalize setI (setI (setI (setI h 17 1 (nI 0)) 17 2 (-1)) 17 5 (nI 0)) 17 6 (nI 0) = h2 at *
  have r2 := r.n f1 rfl
  refine ld u r2.ob r2.2.2.1 ?_
  refine And.intro (obu r2.1) (hS _ _ _ _ (sS_clear2 r2.1 sh fun h3 f3 p3 z3 => ?_))
  have r3 := r2.d f3
  have e17 := r2.e17 f3
  have n3 : NF h3 := by unfold NF; rw [e17]; exact n1
  refine And.intro r3.ob (hS _ _ _ _ (sR_next r3 (by rw [e17]; exact a6) (Nat.zero_le _) fun h4 f4 k4 => ?_))
  have r4 := r3.n f4 rfl
  have n4 := n3.n f4 rfl
  have p4 := f4.sp p3 r.2.1
  have b5 : hI h4 17 5 = nI 0 := by rw [f4.2 5 rfl, e17]; exact a5
  have fx4 : FX u [17] h h4 := (f1.x.tr (N := [17]) f3 rfl rfl).tr f4.x rfl rfl
  have u17 : u ≠ 17 := fun z => by have := r.2.1; rw [z] at this; cases this
  have u117 : u + 1 ≠ 17 := fun z => by have := A.2.2.2.1; rw [z] at this; exact u17 this.symm
  refine And.intro r4.ob (hS _ _ _ _ (sR_isWord (i := 0) r4 k4 (Nat.zero_le _) (by decide) ?_))
  refine brE (fun q => ?_) (fun q => ?_)
  · have q : ¬ wdT t (tok t L 0) 0x73697a65 := q
    have ep : pict t L = lns t L (L + 1) 0 pic0 0 := by unfold pict size; rw [if_neg q]; rfl
    exact hC _ _ _ _ (lp 0 (Nat.zero_le _) h4 (L + 1) 0 pic0 0 fx4 ⟨r4, n4, k4, p4, b5, Nat.zero_le _, good_pic0, Nat.zero_le _⟩ (Nat.le_refl _) (by omega) ep _ rfl)
  · have q : wdT t (tok t L 0) 0x73697a65 := q
    refine And.intro r4.ob (hS _ _ _ _ (sR_readSize r4 n4 k4 (fun c hc => by rw [f4.1.2.2.2.2 (u + 1) u117]; exact z3 c hc) p4.1.2.2.1 p4.1.2.2.2 b5 (fun q2 e2 h5 f5 r5 fl => ?_) (fun x e2 h5 f5 r5 n5 k5 p5 c5 => ?_)))
    · have ep : pict t L = .inl q2 := by unfold pict size; rw [if_pos q, e2]; rfl
      exact hC _ _ _ _ (lpB q2 ep h5 (fx4.tr f5 rfl rfl) r5 fl _)
    · have es : size t L = .inr x := by unfold size; rw [if_pos q, e2]
      have ep : pict t L = lns t L (L + 1) x.1 x.2 0 := by unfold pict; rw [es]; rfl
      have ok := size_sp es
      exact hC _ _ _ _ (lp 0 (Nat.zero_le _) h5 (L + 1) x.1 x.2 0 (fx4.tr f5 rfl rfl) ⟨r5, n5, k5, p5, c5, ok⟩ (Nat.zero_le _) (by omega) ep _ rfl)
/-- the tape -/
def CT (h : AH) (tp : Nat → Nat) (tn : Nat) (ft fp : Int32) : Prop := (∀ i, i < tn → hI h 18 i = nI (tp i)) ∧ hI h 17 0 = nI tn ∧ tn ≤ 900 ∧ hI h 17 1 = ft ∧ hI h 17 2 = fp
theorem CT.fx {h h' : AH} {tp : Nat → Nat} {tn s : Nat} {ft fp : Int32} {M : List Nat} (c : CT h tp tn ft fp) (f : FX s M h h') (h1 : 17 ≠ s) (h2 : M.contains 17 = false) : CT h' tp tn ft fp := by
  unfold CT; rw [f.i (k := 17) h1 h2, f.i (k := 18) h1 h2]; exact c
theorem sR_hasRoom {tp : Nat → Nat} {tn : Nat} {ft fp : Int32} (cs : CS h) (c : CT h tp tn ft fp) (hK : K (some (vI (bI (tn + 20 ≤ 900)))) h) : Spec G l (mt mR_hasRoom) [vR 17] h K := by
  refine eR_hasRoom 39 [] fun S Cu hS hC => ?_
  refine ld _ (cs.ob (k := 17) (ci := 6) rfl rfl rfl) c.2.1 ?_
  have := c.2.2.1
  refine pk_lt 900 (tn + 20) (fun q => ?_) (fun q => ?_) rfl (nI_add _ _)
  · exact rzF (fun z => by omega) hK
  · exact rzT q hK
theorem sR_append {tp : Nat → Nat} {tn : Nat} {ft fp v : Int32} (cs : CS h) (c : CT h tp tn ft fp) (hn : tn + 4 ≤ 900) (hK : ∀ h', FX 999 [17] h h' → CT h' (four tp tn v) (tn + 4) ft fp → K none h') : Spec G l (mt mR_append) [vR 17, vI v] h K := by
  have ob := cs.ob (k := 17) (ci := 6) rfl rfl rfl
  have r3 : hR h 17 3 = 18 := cs.rf (k := 17) (j := 3) rfl rfl
  refine eR_append 199 [] fun S Cu hS hC => ?_
  refine And.intro (fun z => absurd z (by decide)) (fun _ => ?_)
  refine ld (nI tn) ob c.2.1 ?_
  refine pk_le 900 tn (fun z => by omega) (fun _ => ?_)
  refine ld 18 ob r3 ?_
  refine ld (nI tn) ob c.2.1 ?_
  refine sw tn (nI (byt v 24)) (cs.inA (k := 18) (n := 900) (j := tn) rfl rfl rfl rfl (by omega) rfl) (ix_nI (by omega)) (byt_eq v 24).1 ?_
  refine ld (nI tn) ob ((congrFun (si_nk rfl) 0).trans c.2.1) ?_
  refine ld (nI (tn + 1)) ob (nI_1 _) ?_
  refine And.intro (fun z => absurd z (by decide)) (fun _ => ?_)
  refine ld (nI (tn + 1)) ob si_eq ?_
  refine pk_le 900 (tn + 1) (fun z => by omega) (fun _ => ?_)
  refine ld 18 ob r3 ?_
  refine ld (nI (tn + 1)) ob si_eq ?_
  refine sw (tn + 1) (nI (byt v 16)) (cs.inA (k := 18) (n := 900) (j := tn + 1) rfl rfl rfl rfl (by omega) rfl) (ix_nI (by omega)) (byt_eq v 16).1 ?_
  refine ld (nI (tn + 1)) ob ((congrFun (si_nk rfl) 0).trans si_eq) ?_
  refine ld (nI (tn + 2)) ob (nI_1 _) ?_
  refine And.intro (fun z => absurd z (by decide)) (fun _ => ?_)
  refine ld (nI (tn + 2)) ob si_eq ?_
  refine pk_le 900 (tn + 2) (fun z => by omega) (fun _ => ?_)
  refine ld 18 ob r3 ?_
  refine ld (nI (tn + 2)) ob si_eq ?_
  refine sw (tn + 2) (nI (byt v 8)) (cs.inA (k := 18) (n := 900) (j := tn + 2) rfl rfl rfl rfl (by omega) rfl) (ix_nI (by omega)) (byt_eq v 8).1 ?_
  refine ld (nI (tn + 2)) ob ((congrFun (si_nk rfl) 0).trans si_eq) ?_
  refine ld (nI (tn + 3)) ob (nI_1 _) ?_
  refine And.intro (fun z => absurd z (by decide)) (fun _ => ?_)
  refine ld (nI (tn + 3)) ob si_eq ?_
  refine pk_le 900 (tn + 3) (fun z => by omega) (fun _ => ?_)
  refine ld 18 ob r3 ?_
  refine ld (nI (tn + 3)) ob si_eq ?_
  refine sw (tn + 3) (nI (byt v 0)) (cs.inA (k := 18) (n := 900) (j := tn + 3) rfl rfl rfl rfl (by omega) rfl) (ix_nI (by omega)) (byt_eq v 0).1 ?_
  refine ld (nI (tn + 3)) ob ((congrFun (si_nk rfl) 0).trans si_eq) ?_
  refine ld (nI (tn + 4)) ob (nI_1 _) ?_
  refine And.intro (fun _ => ?_) (fun z => absurd (by decide) z)
  refine hK _ ((((((((FX.rf.setI (Or.inr rfl)).setI (Or.inr rfl)).setI (Or.inr rfl)).setI (Or.inr rfl)).setI (Or.inr rfl)).setI (Or.inr rfl)).setI (Or.inr rfl)).setI (Or.inr rfl)) ⟨fun i hi => ?_, si_eq, by omega, ?_, ?_⟩
  · unfold four
    rw [si_nk rfl]
    by_cases h3 : i = tn + 3
    · rw [h3, up1_eq, si_eq]
    · rw [up1_ne h3, si_ne h3, si_nk rfl]
      by_cases h2 : i = tn + 2
      · rw [h2, up1_eq, si_eq]
      · rw [up1_ne h2, si_ne h2, si_nk rfl]
        by_cases h1 : i = tn + 1
        · rw [h1, up1_eq, si_eq]
        · rw [up1_ne h1, si_ne h1, si_nk rfl]
          by_cases h0 : i = tn
          · rw [h0, up1_eq, si_eq]
          · rw [up1_ne h0, si_ne h0]; exact c.1 i (by omega)
  · rw [si_ne (by decide), si_nk rfl, si_ne (by decide), si_nk rfl, si_ne (by decide), si_nk rfl, si_ne (by decide), si_nk rfl]; exact c.2.2.2.1
  · rw [si_ne (by decide), si_nk rfl, si_ne (by decide), si_nk rfl, si_ne (by decide), si_nk rfl, si_ne (by decide), si_nk rfl]; exact c.2.2.2.2
theorem sR_handOver {v : Nat} (cs : CS h) (e : hR h 17 4 = u) (hv : SH v) (hK : K (some (vR u)) (setR h 17 4 v)) : Spec G l (mt mR_handOver) [vR 17, vR v] h K := by
  have ob := cs.ob (k := 17) (ci := 6) rfl rfl rfl
  refine eR_handOver 39 [] fun S Cu hS hC => ?_
  refine ld u ob e ?_
  refine And.intro ⟨ob, hv.a.2.1.1, by rw [cs.1]; have := hv.a.2.1; omega⟩ ?_
  exact hK
end CC
