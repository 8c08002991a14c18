/-! ===== the tape ===== -/
def byt (v s : Int32) : Nat := ((v >>> (s &&& 31)) &&& 255).toNatClampNeg
theorem byt_eq (v s : Int32) : (v >>> (s &&& 31)) &&& 255 = nI (byt v s) ∧ byt v s < 256 := by
  obtain ⟨j, hj, e⟩ := pk_andE (v >>> (s &&& 31)) (m := 255) 8 (by decide)
  have : byt v s = j := by unfold byt; rw [e]; exact nI_clamp (by omega)
  rw [this]; exact ⟨e, hj⟩
def four (tp : Nat → Nat) (n : Nat) (v : Int32) : Nat → Nat := up1 (up1 (up1 (up1 tp n (byt v 24)) (n + 1) (byt v 16)) (n + 2) (byt v 8)) (n + 3) (byt v 0)
theorem four_lt {tp : Nat → Nat} {n i : Nat} {v : Int32} (h : i < n) : four tp n v i = tp i := by
  unfold four; rw [up1_ne (by omega), up1_ne (by omega), up1_ne (by omega), up1_ne (by omega)]
theorem four_b {tp : Nat → Nat} {n : Nat} {v : Int32} (h : ∀ i, i < n → tp i < 256) : ∀ i, i < n + 4 → four tp n v i < 256 := by
  intro i hi
  unfold four
  by_cases h3 : i = n + 3
  · rw [h3, up1_eq]; exact (byt_eq v 0).2
  · rw [up1_ne h3]
    by_cases h2 : i = n + 2
    · rw [h2, up1_eq]; exact (byt_eq v 8).2
    · rw [up1_ne h2]
      by_cases h1 : i = n + 1
      · rw [h1, up1_eq]; exact (byt_eq v 16).2
      · rw [up1_ne h1]
        by_cases h0 : i = n
        · rw [h0, up1_eq]; exact (byt_eq v 24).2
        · rw [up1_ne h0]; exact h i (by omega)
def feed5 (tp : Nat → Nat) (n : Nat) (a b c d e : Int32) : Nat → Nat := four (four (four (four (four tp n a) (n + 4) b) (n + 8) c) (n + 12) d) (n + 16) e
def aFault (ft fp w : Int32) : Int32 := sel w [ft, fp]
section MM
variable {G : GP} {l : Launch} {K : Option AV → AH → Prop} {h : AH} {ρ : Pic}
variable {tp : Nat → Nat} {tn : Nat} {ft fp : Int32} {pa : Nat → Pic} {an un : Nat} {sm sc : Nat → Int32} {sn : Nat} {bx : Nat → Pic} {bk : Nat → Prop}
theorem sM_four {v : Int32} (m : MS h) (t : MT h tp tn ft fp) (hn : tn + 4 ≤ 900) (hK : ∀ h', Fr [136, 138] h h' → Sc1 [2] h h' → MT h' (four tp tn v) (tn + 4) ft fp → K none h') : Spec G l (mt mM_four) [vR 136, vI v] h K := by
  refine eM_four 199 [] fun S Cu hS hC => ?_
  refine And.intro (fun z => absurd z (by decide)) (fun _ => ?_)
  refine ld 138 m.ob (m.2.2 1) ?_
  refine ld (nI tn) m.ob t.2.1 ?_
  refine sw tn (nI (byt v 24)) (m.inA (j := tn) rfl rfl rfl rfl (by omega) rfl) (ix_nI (by omega)) (byt_eq v 24).1 ?_
  refine ld (nI tn) m.ob ((congrFun (si_nk rfl) 2).trans t.2.1) ?_
  refine ld (nI (tn + 1)) m.ob (nI_1 _) ?_
  refine And.intro (fun z => absurd z (by decide)) (fun _ => ?_)
  refine ld 138 m.ob (m.2.2 1) ?_
  refine ld (nI (tn + 1)) m.ob si_eq ?_
  refine sw (tn + 1) (nI (byt v 16)) (m.inA (j := tn + 1) rfl rfl rfl rfl (by omega) rfl) (ix_nI (by omega)) (byt_eq v 16).1 ?_
  refine ld (nI (tn + 1)) m.ob ((congrFun (si_nk rfl) 2).trans si_eq) ?_
  refine ld (nI (tn + 2)) m.ob (nI_1 _) ?_
  refine And.intro (fun z => absurd z (by decide)) (fun _ => ?_)
  refine ld 138 m.ob (m.2.2 1) ?_
  refine ld (nI (tn + 2)) m.ob si_eq ?_
  refine sw (tn + 2) (nI (byt v 8)) (m.inA (j := tn + 2) rfl rfl rfl rfl (by omega) rfl) (ix_nI (by omega)) (byt_eq v 8).1 ?_
  refine ld (nI (tn + 2)) m.ob ((congrFun (si_nk rfl) 2).trans si_eq) ?_
  refine ld (nI (tn + 3)) m.ob (nI_1 _) ?_
  refine And.intro (fun z => absurd z (by decide)) (fun _ => ?_)
  refine ld 138 m.ob (m.2.2 1) ?_
  refine ld (nI (tn + 3)) m.ob si_eq ?_
  refine sw (tn + 3) (nI (byt v 0)) (m.inA (j := tn + 3) rfl rfl rfl rfl (by omega) rfl) (ix_nI (by omega)) (byt_eq v 0).1 ?_
  refine ld (nI (tn + 3)) m.ob ((congrFun (si_nk rfl) 2).trans si_eq) ?_
  refine ld (nI (tn + 4)) m.ob (nI_1 _) ?_
  refine And.intro (fun _ => ?_) (fun z => absurd (by decide) z)
  have f : Fr [136, 138] h _ := (((((((Fr.rf.setI (k := 138) (j := tn) (v := nI (byt v 24)) rfl).setI (k := 136) (j := 2) (v := nI (tn + 1)) rfl).setI (k := 138) (j := tn + 1) (v := nI (byt v 16)) rfl).setI (k := 136) (j := 2) (v := nI (tn + 2)) rfl).setI (k := 138) (j := tn + 2) (v := nI (byt v 8)) rfl).setI (k := 136) (j := 2) (v := nI (tn + 3)) rfl).setI (k := 138) (j := tn + 3) (v := nI (byt v 0)) rfl).setI (k := 136) (j := 2) (v := nI (tn + 4)) rfl
  have s : Sc1 [2] h _ := (((((((Sc1.rf.oth (k := 138) (j := tn) (v := nI (byt v 24)) rfl).set (j := 2) (v := nI (tn + 1)) rfl).oth (k := 138) (j := tn + 1) (v := nI (byt v 16)) rfl).set (j := 2) (v := nI (tn + 2)) rfl).oth (k := 138) (j := tn + 2) (v := nI (byt v 8)) rfl).set (j := 2) (v := nI (tn + 3)) rfl).oth (k := 138) (j := tn + 3) (v := nI (byt v 0)) rfl).set (j := 2) (v := nI (tn + 4)) rfl
  refine hK _ f s ⟨fun i hi => ?_, si_eq, by omega, (s 11 rfl).trans t.2.2.2.1, (s 12 rfl).trans t.2.2.2.2⟩
  unfold four
  rw [si_nk rfl]
  by_cases h3 : i = tn + 3
  · rw [h3, up1_eq, si_eq]
  · rw [up1_ne h3, si_ne h3, si_nk rfl]
    by_cases h2 : i = tn + 2
    · rw [h2, up1_eq, si_eq]
    · rw [up1_ne h2, si_ne h2, si_nk rfl]
      by_cases h1 : i = tn + 1
      · rw [h1, up1_eq, si_eq]
      · rw [up1_ne h1, si_ne h1, si_nk rfl]
        by_cases h0 : i = tn
        · rw [h0, up1_eq, si_eq]
        · rw [up1_ne h0, si_ne h0]; exact t.1 i (by omega)
theorem sM_feed {a b c d e : Int32} (r : MR h tp tn ft fp ρ pa an un sm sc sn bx bk) (h0 : ¬ tn + 20 ≤ 900 → K (some (vI (-1))) h) (h1 : tn + 20 ≤ 900 → ∀ h', FM h h' → MR h' (feed5 tp tn a b c d e) (tn + 20) ft fp ρ pa an un sm sc sn bx bk → K (some (vI (nI (tn + 20)))) h') : Spec G l (mt mM_feed) [vR 136, vI a, vI b, vI c, vI d, vI e] h K := by
  have t := r.2.1
  have tl := t.2.2.1
  refine eM_feed 99 [] fun S Cu hS hC => ?_
  refine ld (nI tn) r.1.1.ob t.2.1 ?_
  refine pk_le (tn + 20) 900 (fun q => ?_) (fun q => ?_) (by first | with_reducible rfl | (try simp (disch := omega) only [pk_rem]) <;> simp (disch := omega) only [nl0, nl1, nl2, nl3, nl4, nl8, nl9, nl10, nl12, nl20, nl24, nl30, nl32, nl40, nl48, nl100, nl120, nl200, nl255, nl400, nl404, nl524, nl900, nl1000, nl9999, nl16, nl65536, nI_add, pk_mul, pk_sub, pk_div, pk_rem, Nat.add_zero, Nat.zero_add, Nat.mul_one, Nat.add_sub_cancel_left, Nat.add_sub_cancel]) rfl
  · have step : ∀ {h : AH} {tp : Nat → Nat} {tn : Nat} {v : Int32} {K : Option AV → AH → Prop}, MR h tp tn ft fp ρ pa an un sm sc sn bx bk → tn + 4 ≤ 900 → (∀ h', FM h h' → MR h' (four tp tn v) (tn + 4) ft fp ρ pa an un sm sc sn bx bk → K none h') → Spec G l (mt mM_four) [vR 136, vI v] h K := by
      intro h tp tn v K r hn hK
      refine sM_four r.1.1 r.2.1 hn fun h' f s t' => ?_
      exact hK h' (f.m rfl) ⟨r.1.fr f rfl, t', r.2.2.1.fr f s rfl rfl, r.2.2.2.1.fr f s rfl rfl, r.2.2.2.2.fr f rfl⟩
    refine And.intro r.1.1.ob (hS _ _ _ _ (step r (by omega) fun ha fa ra => ?_))
    refine And.intro ra.1.1.ob (hS _ _ _ _ (step ra (by omega) fun hb fb rb => ?_))
    refine And.intro rb.1.1.ob (hS _ _ _ _ (step rb (by omega) fun hc fc rc => ?_))
    refine And.intro rc.1.1.ob (hS _ _ _ _ (step rc (by omega) fun hd fd rd => ?_))
    refine And.intro rd.1.1.ob (hS _ _ _ _ (step rd (by omega) fun he fe re => ?_))
    exact ld (nI (tn + 20)) re.1.1.ob re.2.1.2.1 (h1 q he ((((fa.tr fb).tr fc).tr fd).tr fe) re)
  · exact h0 (by omega)
theorem sM_end {x : Int32} (r : MR h tp tn ft fp ρ pa an un sm sc sn bx bk) (h0 : ¬ inN x (tn + 1) → K (some (vI (-1))) h) (h1 : ∀ n, n ≤ tn → x = nI n → ∀ h', FM h h' → MR h' tp n ft fp ρ pa an un sm sc sn bx bk → K (some (vI (nI n))) h') : Spec G l (mt mM_end) [vR 136, vI x] h K := by
  have t := r.2.1
  have tl := t.2.2.1
  have e1 : (Int64.ofNat 0 ≤ x.toInt64 ∧ x.toInt64 ≤ (nI tn).toInt64) ↔ inN x (tn + 1) := by
    rw [nI_l (by omega)]
    exact (isIn_lh (x := x) (lo := 0) (hi := tn) (by decide) (by omega)).trans ⟨fun ⟨j, _, a, b⟩ => ⟨j, by omega, b⟩, fun ⟨j, a, b⟩ => ⟨j, by omega, by omega, b⟩⟩
  refine eM_end 39 [] fun S Cu hS hC => ?_
  refine ld (nI tn) r.1.1.ob t.2.1 ?_
  refine hS _ _ _ _ (sM_isIn ?_)
  refine brN (fun q => ?_) (fun q => ?_)
  · obtain ⟨n, hn, rfl⟩ := e1.mp q
    refine ld (nI n) r.1.1.ob rfl ?_
    have f : Fr [136] h (setI h 136 2 (nI n)) := Fr.rf.setI rfl
    have s : Sc1 [2] h (setI h 136 2 (nI n)) := Sc1.rf.set rfl
    exact h1 n (by omega) rfl _ (f.m rfl) ⟨r.1.fr f rfl, ⟨fun i hi => by rw [si_nk rfl]; exact t.1 i (by omega), si_eq, by omega, (s 11 rfl).trans t.2.2.2.1, (s 12 rfl).trans t.2.2.2.2⟩, r.2.2.1.fr f s rfl rfl, r.2.2.2.1.fr f s rfl rfl, r.2.2.2.2.fr f rfl⟩
  · exact h0 (fun z => q (e1.mpr z))
theorem sM_fault {w : Int32} (m : MS h) (t : MT h tp tn ft fp) (hK : K (some (vI (aFault ft fp w))) h) : Spec G l (mt mM_fault) [vR 136, vI w] h K := by
  unfold aFault at hK
  refine eM_fault 39 [] fun S Cu hS hC => ?_
  refine And.intro (fun n0 => ?_) (fun e0 => ?_)
  · refine And.intro (fun n1 => ?_) (fun e1 => ?_)
    · rw [sel_out (fun i hi => match i, hi with | 0, _ => n0 | 1, _ => n1)] at hK
      exact hK
    · rw [sel_in (i := 1) e1 (by decide) rfl] at hK
      exact ld _ m.ob t.2.2.2.2 hK
  · rw [sel_in (i := 0) e0 (by decide) rfl] at hK
    exact ld _ m.ob t.2.2.2.1 hK
end MM
