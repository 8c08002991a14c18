/-! ===== the model: boxes, about, moves, step, till, rounds, steps ===== -/
noncomputable def rndN (ρ : Pic) : Nat → Pic
  | 0 => ρ
  | k + 1 => rnd (rndN ρ k)
theorem rndN_ok {ρ : Pic} (g : Good ρ) : ∀ k, Good (rndN ρ k) ∧ Like ρ (rndN ρ k)
  | 0 => ⟨g, Like.rf⟩
  | k + 1 => by
    obtain ⟨a, b⟩ := rndN_ok g k
    obtain ⟨c, d⟩ := rnd_ok a
    exact ⟨c, d.1.trans b.1, d.2.1.trans b.2.1, d.2.2.1.trans b.2.2.1, d.2.2.2.1.trans b.2.2.2.1, fun c hc => (d.2.2.2.2 c hc).trans (b.2.2.2.2 c hc)⟩
theorem mvd_le {ρ : Pic} (g : Good ρ) : mvd ρ ≤ 40 := by
  have : mvd ρ ≤ pcn ρ * 1 := sumN_le fun d _ => wN_le _ _
  have := g.n; omega
noncomputable def emp (ρ : Pic) : Nat := sumN (fun d => wN (load ρ d = 0) 1) (pcn ρ)
noncomputable def aAbout (ρ : Pic) (an un tn : Nat) (w : Int32) : Int32 := sel w [nI (pcw ρ), nI (pch ρ), nI (pcn ρ), nI (allW ρ), nI (tot ρ), nI (emp ρ), nI (pcs ρ), nI an, nI un, nI tn]
noncomputable def aAgainst (ρ : Pic) (bx : Nat → Pic) (bk : Nat → Prop) (x w : Int32) : Int32 := cif (inN x 2 ∧ bk (ix x) ∧ pcw (bx (ix x)) = pcw ρ ∧ pch (bx (ix x)) = pch ρ) (sel w [nI (sumN (fun c => wN (¬ own ρ c = own (bx (ix x)) c) 1) (pcc ρ)), nI (sumN (fun c => wN (¬ pcW (bx (ix x)) c = pcW ρ c) 1) (pcc ρ)), nI (sumN (fun d => wN (¬ same (bx (ix x)) ρ d) 1) (mn (pcn ρ) (pcn (bx (ix x)))))]) (-1)
noncomputable def aMoves (ρ : Pic) : Int32 := cif (0 < pcn ρ) (nI (mvd ρ)) (-1)
noncomputable def aStep (ρ : Pic) (x : Int32) : Int32 := cif (inN x (pcn ρ)) (nI (aptD (rnd ρ) ρ (ix x) (ix x))) (-1)
noncomputable def tlO (ρ : Pic) (w : Int32) (o : Option Nat) : Int32 := match o with
  | none => -1
  | some k => sel w [nI (k + 1), nI (tot (rndN ρ (k + 1)))]
noncomputable def aTill (ρ : Pic) (w : Int32) : Int32 := cif (0 < pcn ρ) (tlO ρ w (fstO (fun k => mvd (rndN ρ k) = 0) 200)) (-1)
noncomputable def aSteps (sm sc : Nat → Int32) (sn : Nat) (x w : Int32) : Int32 := cif (x = -1) (nI sn) (cif (inN x sn) (sel w [sm (ix x), sc (ix x)]) (-1))
/-- a step more -/
def pshI (f : Nat → Int32) (v : Int32) : Nat → Int32 := fun i => if i = 0 then v else f (i - 1)
def psh20 (n : Nat) : Nat := if n < 20 then n + 1 else 20
noncomputable def stM (ρ : Pic) (sm : Nat → Int32) : Nat → Nat → Int32
  | 0 => sm
  | k + 1 => pshI (stM ρ sm k) (nI (mvd (rndN ρ k)))
noncomputable def stC (ρ : Pic) (sc : Nat → Int32) : Nat → Nat → Int32
  | 0 => sc
  | k + 1 => pshI (stC ρ sc k) (nI (tot (rndN ρ k)))
def stN (sn : Nat) : Nat → Nat
  | 0 => sn
  | k + 1 => psh20 (stN sn k)
/-- how many rounds are made of n -/
noncomputable def rdc (ρ : Pic) (n : Nat) : Nat := match fstO (fun k => mvd (rndN ρ k) = 0) n with
  | none => n
  | some k => k + 1
section MM
variable {G : GP} {l : Launch} {K : Option AV → AH → Prop} {h : AH} {ρ : Pic}
variable {tp : Nat → Nat} {tn : Nat} {ft fp : Int32} {pa : Nat → Pic} {an un : Nat} {sm sc : Nat → Int32} {sn : Nat} {bx : Nat → Pic} {bk : Nat → Prop}
theorem sM_puts (m : MS h) (er : hI h 137 = nR ρ) (hK : ∀ h', Fr [143] h h' → (∀ j, j < 524 → hI h' 143 j = nI (ρ j)) → K none h') : Spec G l (mt mM_puts) [vR 136] h K := by
  have lp : ∀ k, k ≤ 524 → ∀ h', Fr [143] h h' → (∀ j, j < k → hI h' 143 j = nI (ρ j)) → ∀ i, i = nI k → Go G l (mt mM_puts) 2 [some (vR 136), some (vI i)] [] h' 0 0 K := by
    refine upto _ ?_
    intro k hk ih h' f ho i hi
    subst hi
    have m := m.fr f
    refine gM_puts 99 [(2, 2)] fun S Cu hS hC => ?_
    refine pk_le 524 k (fun q => ?_) (fun q => ?_)
    · obtain rfl : k = 524 := by omega
      exact hK h' f ho
    · refine ld 143 m.ob (m.2.2 21) ?_
      refine ld 137 m.ob (m.2.2 0) ?_
      refine ld (nI (ρ k)) (m.inA (j := k) rfl rfl rfl rfl q rfl) (rdP ((f.i rfl).trans er) rfl (by omega)) ?_
      refine sw k _ (m.inA (j := k) rfl rfl rfl rfl q rfl) (ix_nI (by omega)) rfl ?_
      refine hC _ _ _ _ (ih q _ (f.setI rfl) ?_ _ (nI_1 k))
      intro c hc
      by_cases e : c = k
      · subst e; exact si_eq
      · rw [si_ne e]; exact ho c (by omega)
  exact eM_puts 9 [(2, 2)] fun S Cu hS hC => hC _ _ _ _ (lp 0 (by omega) _ Fr.rf (fun c hc => by omega) _ rfl)
theorem sM_takesBack {π : Pic} (m : MS h) (ea : ∀ j, j < 524 → hI h 143 j = nI (ρ j)) (ez : ∀ j, 524 ≤ j → hI h 137 j = nI (ρ j)) (hK : ∀ h', Fr [137] h h' → hI h' 137 = nR ρ → K none h') : Spec G l (mt mM_takesBack) [vR 136] h K := by
  have lp : ∀ k, k ≤ 524 → ∀ h', Fr [137] h h' → (∀ j, j < k → hI h' 137 j = nI (ρ j)) → (∀ j, 524 ≤ j → hI h' 137 j = nI (ρ j)) → ∀ i, i = nI k → Go G l (mt mM_takesBack) 2 [some (vR 136), some (vI i)] [] h' 0 0 K := by
    refine upto _ ?_
    intro k hk ih h' f ho hz i hi
    subst hi
    have m := m.fr f
    refine gM_takesBack 99 [(2, 2)] fun S Cu hS hC => ?_
    refine pk_le 524 k (fun q => ?_) (fun q => ?_)
    · obtain rfl : k = 524 := by omega
      refine hK h' f (funext fun j => ?_)
      by_cases e : j < 524
      · exact ho j e
      · exact hz j (by omega)
    · refine ld 137 m.ob (m.2.2 0) ?_
      refine ld 143 m.ob (m.2.2 21) ?_
      refine ld (nI (ρ k)) (m.inA (j := k) rfl rfl rfl rfl q rfl) (rdA rfl (by omega) (by rw [f.i rfl]; exact ea k q)) ?_
      refine sw k _ (m.inA (j := k) rfl rfl rfl rfl q rfl) (ix_nI (by omega)) rfl ?_
      refine hC _ _ _ _ (ih q _ (f.setI rfl) ?_ ?_ _ (nI_1 k))
      · intro c hc
        by_cases e : c = k
        · subst e; exact si_eq
        · rw [si_ne e]; exact ho c (by omega)
      · intro j hj; rw [si_ne (by omega)]; exact hz j hj
  exact eM_takesBack 9 [(2, 2)] fun S Cu hS hC => hC _ _ _ _ (lp 0 (by omega) _ Fr.rf (fun c hc => by omega) ez _ rfl)
theorem sM_isBox {x : Int32} (ho : Ob h 136 10) (hK : K (some (vI (bI (inN x 2)))) h) : Spec G l (mt mM_isBox) [vR 136, vI x] h K := by
  have e1 : (Int64.ofNat 0 ≤ x.toInt64 ∧ x.toInt64 ≤ Int64.ofNat 1) ↔ inN x 2 := (isIn_lh (x := x) (lo := 0) (hi := 1) (by decide) (by decide)).trans ⟨fun ⟨j, _, a, b⟩ => ⟨j, by omega, b⟩, fun ⟨j, a, b⟩ => ⟨j, by omega, by omega, b⟩⟩
  refine eM_isBox 19 [] fun S Cu hS hC => ?_
  refine hS _ _ _ _ (sM_isIn ?_)
  exact And.intro (bI_01 _) (rtI (K := K) (bI_eq e1) hK)
theorem sM_image {x : Int32} (r : MR h tp tn ft fp ρ pa an un sm sc sn bx bk) (h0 : ¬ inN x 2 → K (some (vI (-1))) h) (h1 : ∀ b, b < 2 → x = nI b → ∀ h', FM h h' → MR h' tp tn ft fp ρ pa an un sm sc sn (swp bx b ρ) (fun i => i = b ∨ bk i) → K (some (vI (nI (pcn ρ)))) h') : Spec G l (mt mM_image) [vR 136, vI x] h K := by
  obtain ⟨p, t, a, k, mb⟩ := r
  have lp : ∀ b, b < 2 → x = nI b → ∀ k, k ≤ 524 → ∀ h', Fr [157, 159] h h' → (∀ i, i < 2 → hI h' 159 i = bI (i = b ∨ bk i)) → (∀ j, j < k → hI h' 157 (524 * b + j) = nI (ρ j)) → (∀ j, (j < 524 * b ∨ 524 * b + 524 ≤ j) → hI h' 157 j = hI h 157 j) → ∀ i, i = nI k → Go G l (mt mM_image) 19 [some (vR 136), some (vI x), some (vI i)] [] h' 0 0 K := by
    intro b hb hx
    subst hx
    refine upto _ ?_
    intro k2 hk ih h' f ek eb eo i hi
    subst hi
    have p' := p.fr f rfl
    refine gM_image 99 [(19, 3)] fun S Cu hS hC => ?_
    refine pk_le 524 k2 (fun q => ?_) (fun q => ?_)
    · obtain rfl : k2 = 524 := by omega
      refine And.intro p'.1.ob (hS _ _ _ _ (sM_dots p' ?_))
      have s : Sc1 [] h h' := Sc1.of f rfl
      refine h1 b hb rfl h' (f.m rfl) ⟨p', t.fr f s rfl rfl, a.fr f s rfl rfl, k.fr f s rfl rfl, fun i hi => ⟨ek i hi, fun hk => ?_⟩⟩
      unfold swp
      by_cases e : i = b
      · rw [if_pos e]; subst e; exact ⟨p.2.2, eb⟩
      · rw [if_neg e]
        have hk := hk.elim (fun z => absurd z e) id
        refine ⟨((mb i hi).2 hk).1, fun j hj => ?_⟩
        rw [eo _ (by omega)]; exact ((mb i hi).2 hk).2 j hj
    · refine ld 157 p'.1.ob (p'.1.2.2 37) ?_
      refine ld 137 p'.1.ob (p'.1.2.2 0) ?_
      refine ld (nI (ρ k2)) (p'.1.inA (j := k2) rfl rfl rfl rfl q rfl) (rdP p'.2.1 rfl (by omega)) ?_
      refine sw (524 * b + k2) _ (p'.1.inA (j := 524 * b + k2) rfl rfl rfl (by first | with_reducible rfl | (try simp (disch := omega) only [pk_rem]) <;> simp (disch := omega) only [nl0, nl1, nl2, nl3, nl4, nl8, nl9, nl10, nl12, nl20, nl24, nl30, nl32, nl40, nl48, nl100, nl120, nl200, nl255, nl400, nl404, nl524, nl900, nl1000, nl9999, nl16, nl65536, nI_add, pk_mul, pk_sub, pk_div, pk_rem, Nat.add_zero, Nat.zero_add, Nat.mul_one, Nat.add_sub_cancel_left, Nat.add_sub_cancel]) (by omega) rfl) (ix_of (by first | with_reducible rfl | (try simp (disch := omega) only [pk_rem]) <;> simp (disch := omega) only [nl0, nl1, nl2, nl3, nl4, nl8, nl9, nl10, nl12, nl20, nl24, nl30, nl32, nl40, nl48, nl100, nl120, nl200, nl255, nl400, nl404, nl524, nl900, nl1000, nl9999, nl16, nl65536, nI_add, pk_mul, pk_sub, pk_div, pk_rem, Nat.add_zero, Nat.zero_add, Nat.mul_one, Nat.add_sub_cancel_left, Nat.add_sub_cancel]) (by omega)) rfl ?_
      refine hC _ _ _ _ (ih q _ (f.setI rfl) (fun i hi => by rw [si_nk rfl]; exact ek i hi) (fun j hj => ?_) (fun j hj => ?_) _ (nI_1 k2))
      · by_cases e : j = k2
        · subst e; exact si_eq
        · rw [si_ne (by omega)]; exact eb j (by omega)
      · rw [si_ne (by omega)]; exact eo j hj
  refine eM_image 39 [(19, 3)] fun S Cu hS hC => ?_
  refine And.intro p.1.ob (hS _ _ _ _ (sM_isBox p.1.ob ?_))
  refine brN (fun q => ?_) (fun q => ?_)
  · obtain ⟨b, hb, rfl⟩ := q
    refine ld 159 p.1.ob (p.1.2.2 39) ?_
    refine sw b (nI 1) ⟨p.1.inA (j := b) rfl rfl rfl rfl hb rfl, Or.inr rfl⟩ (ix_nI (by omega)) rfl ?_
    refine hC _ _ _ _ (lp b hb rfl 0 (by omega) _ (Fr.rf.setI rfl) (fun i hi => ?_) (fun j hj => by omega) (fun j hj => by rw [si_nk rfl]) _ rfl)
    by_cases e : i = b
    · subst e; rw [si_eq, bI_T (Or.inl rfl)]; rfl
    · rw [si_ne e, (mb i hi).1]; exact bI_eq ⟨Or.inr, fun z => z.elim (fun y => absurd y e) id⟩
  · exact h0 q
theorem sM_back {x : Int32} (r : MR h tp tn ft fp ρ pa an un sm sc sn bx bk) (h0 : ¬ (∃ b, b < 2 ∧ x = nI b ∧ bk b) → K (some (vI (-1))) h) (h1 : ∀ b, b < 2 → x = nI b → bk b → ∀ h', FM h h' → MR h' tp tn ft fp (bx b) pa 0 0 sm sc 0 bx bk → K (some (vI (nI (pcn (bx b))))) h') : Spec G l (mt mM_back) [vR 136, vI x] h K := by
  obtain ⟨p, t, a, k, mb⟩ := r
  have lp : ∀ b, b < 2 → x = nI b → bk b → ∀ k, k ≤ 524 → ∀ h', Fr [137] h h' → (∀ j, j < k → hI h' 137 j = nI (bx b j)) → (∀ j, 524 ≤ j → hI h' 137 j = nI (ρ j)) → ∀ i, i = nI k → Go G l (mt mM_back) 21 [some (vR 136), some (vI x), some (vI i)] [] h' 0 0 K := by
    intro b hb hx hbk
    subst hx
    obtain ⟨gb, eb⟩ := (mb b hb).2 hbk
    refine upto _ ?_
    intro k2 hk ih h' f e1 e2 i hi
    subst hi
    have m := p.1.fr f
    refine gM_back 99 [(21, 3)] fun S Cu hS hC => ?_
    refine pk_le 524 k2 (fun q => ?_) (fun q => ?_)
    · obtain rfl : k2 = 524 := by omega
      refine ld (nI 0) m.ob rfl ?_
      refine ld (nI 0) m.ob rfl ?_
      refine ld (nI 0) m.ob rfl ?_
      have er : hI h' 137 = nR (bx b) := funext fun j => by
        by_cases e : j < 524
        · exact e1 j e
        · rw [e2 j (by omega)]; unfold nR; rw [p.2.2.2.2.2 j (by omega), gb.2.2.2 j (by omega)]
      have f2 : Fr [136, 137] h (setI (setI (setI h' 136 17 (nI 0)) 136 18 (nI 0)) 136 27 (nI 0)) := (((f.tr Fr.rf rfl rfl (M := []) : Fr [136, 137] h h').setI rfl).setI rfl).setI rfl
      have s2 : Sc1 [17, 18, 27] h (setI (setI (setI h' 136 17 (nI 0)) 136 18 (nI 0)) 136 27 (nI 0)) := ((Sc1.set (Sc1.of f rfl) rfl).set rfl).set rfl
      have p2 : MP (setI (setI (setI h' 136 17 (nI 0)) 136 18 (nI 0)) 136 27 (nI 0)) (bx b) := ⟨p.1.fr f2, by rw [si_nk rfl, si_nk rfl, si_nk rfl]; exact er, gb⟩
      refine And.intro p2.1.ob (hS _ _ _ _ (sM_dots p2 ?_))
      refine h1 b hb rfl hbk _ (f2.m rfl) ⟨p2, t.fr f2 s2 rfl rfl, ⟨fun i hi => by omega, ?_, ?_, by omega⟩, ⟨fun i hi => by omega, si_eq, by omega⟩, mb.fr f2 rfl⟩
      · rw [si_ne (by decide), si_ne (by decide), si_eq]
      · rw [si_ne (by decide), si_eq]
    · refine ld 137 m.ob (m.2.2 0) ?_
      refine ld 157 m.ob (m.2.2 37) ?_
      refine ld (nI (bx b k2)) (m.inA (j := 524 * b + k2) rfl rfl rfl (by first | with_reducible rfl | (try simp (disch := omega) only [pk_rem]) <;> simp (disch := omega) only [nl0, nl1, nl2, nl3, nl4, nl8, nl9, nl10, nl12, nl20, nl24, nl30, nl32, nl40, nl48, nl100, nl120, nl200, nl255, nl400, nl404, nl524, nl900, nl1000, nl9999, nl16, nl65536, nI_add, pk_mul, pk_sub, pk_div, pk_rem, Nat.add_zero, Nat.zero_add, Nat.mul_one, Nat.add_sub_cancel_left, Nat.add_sub_cancel]) (by omega) rfl) (rdA (j := 524 * b + k2) (by first | with_reducible rfl | (try simp (disch := omega) only [pk_rem]) <;> simp (disch := omega) only [nl0, nl1, nl2, nl3, nl4, nl8, nl9, nl10, nl12, nl20, nl24, nl30, nl32, nl40, nl48, nl100, nl120, nl200, nl255, nl400, nl404, nl524, nl900, nl1000, nl9999, nl16, nl65536, nI_add, pk_mul, pk_sub, pk_div, pk_rem, Nat.add_zero, Nat.zero_add, Nat.mul_one, Nat.add_sub_cancel_left, Nat.add_sub_cancel]) (by omega) (by rw [f.i rfl]; exact eb k2 q)) ?_
      refine sw k2 _ (m.inA (j := k2) rfl rfl rfl rfl q rfl) (ix_nI (by omega)) rfl ?_
      refine hC _ _ _ _ (ih q _ (f.setI rfl) (fun j hj => ?_) (fun j hj => by rw [si_ne (by omega)]; exact e2 j hj) _ (nI_1 k2))
      by_cases e : j = k2
      · subst e; exact si_eq
      · rw [si_ne e]; exact e1 j (by omega)
  refine eM_back 39 [(21, 3)] fun S Cu hS hC => ?_
  refine And.intro p.1.ob (hS _ _ _ _ (sM_isBox p.1.ob ?_))
  refine brE (fun q => ?_) (fun q => ?_)
  · exact h0 (fun ⟨b, hb, e, _⟩ => q ⟨b, hb, e⟩)
  obtain ⟨b, hb, rfl⟩ := q
  refine ld 159 p.1.ob (p.1.2.2 39) ?_
  refine ld (bI (bk b)) (p.1.inA (j := b) rfl rfl rfl rfl hb rfl) (rdA rfl (by omega) (mb b hb).1) ?_
  refine brN (fun q => ?_) (fun q => ?_)
  · exact hC _ _ _ _ (lp b hb rfl q 0 (by omega) h Fr.rf (fun j hj => by omega) (fun j hj => by rw [p.2.1]; rfl) _ rfl)
  · refine h0 (fun ⟨b', hb', e, hk⟩ => q ?_)
    rw [(nI_eq (by omega) (by omega)).mp e]; exact hk
theorem sM_otherOwners {b : Nat} {x : Int32} {β : Pic} (p : MP h ρ) (hx : x = nI b) (hb : b < 2) (gβ : Good β) (ew : pcw β = pcw ρ) (eh : pch β = pch ρ) (eb : ∀ k, k < 524 → hI h 157 (524 * b + k) = nI (β k)) (hK : ∀ h', Fr [137, 141, 143, 158] h h' → hI h' 137 = nR ρ → K (some (vI (nI (sumN (fun c => wN (¬ own ρ c = own β c) 1) (pcc ρ))))) h') : Spec G l (mt mM_otherOwners) [vR 136, vI x] h K := by
  subst hx
  have g := p.2.2.n
  have gc := p.2.2.c
  have ec : pcc β = pcc ρ := by unfold pcc; rw [ew, eh]
  have lp3 : ∀ h1, Fr [137, 141, 143, 158] h h1 → hI h1 137 = nR ρ → (∀ c, c < pcc ρ → hI h1 141 c = oI (own ρ c)) → (∀ c, c < pcc ρ → hI h1 158 c = oI (own β c)) → ∀ k, k ≤ pcc ρ → ∀ i o, i = nI k → o = nI (sumN (fun c => wN (¬ own ρ c = own β c) 1) k) → Go G l (mt mM_otherOwners) 81 [some (vR 136), some (vI (nI b)), some (vI o), some (vI i)] [] h1 0 0 K := by
    intro h1 f er e1 e2
    have p1 : MP h1 ρ := ⟨p.1.fr f, er, p.2.2⟩
    refine upto _ ?_
    intro k hk ih i o hi ho
    subst hi
    have fin : k < pcc ρ → ∀ w, w = bI (¬ own ρ k = own β k) → Go G l (mt mM_otherOwners) 110 [some (vR 136), some (vI (nI b)), some (vI o), some (vI (nI k))] [vI w, vI o] h1 0 0 K := by
      intro q w hw
      subst hw
      refine gM_otherOwners 99 [(81, 4)] fun S Cu hS hC => ?_
      refine hS _ _ _ _ (sM_truth ?_)
      refine hC _ _ _ _ (ih q _ _ (nI_1 k) ?_)
      rw [ho, bI_wN, nI_add]; rfl
    refine gM_otherOwners 99 [(110, 4)] fun S Cu hS hC => ?_
    refine And.intro p1.1.ob (hS _ _ _ _ (sM_cells p1 ?_))
    refine pk_le (pcc ρ) k (fun q => ?_) (fun q => ?_)
    · obtain rfl : k = pcc ρ := by omega
      subst ho; exact hK h1 f er
    · refine ld 141 p1.1.ob (p1.1.2.2 19) ?_
      refine ld _ (p1.1.inA (j := k) rfl rfl rfl rfl (by omega) rfl) (rdA rfl (by omega) (e1 k q)) ?_
      refine ld 158 p1.1.ob (p1.1.2.2 38) ?_
      refine ld _ (p1.1.inA (j := k) rfl rfl rfl rfl (by omega) rfl) (rdA rfl (by omega) (e2 k q)) ?_
      have eo : oI (own ρ k) = oI (own β k) ↔ own ρ k = own β k := by
        cases e : own β k with
        | none =>
          cases e' : own ρ k with
          | none => exact ⟨fun _ => rfl, fun _ => rfl⟩
          | some d => exact ⟨fun z => absurd z (nI_m1 (by have := own_lt e'; omega)), fun z => by cases z⟩
        | some d => exact own_oI p.2.2 (by have := own_lt e; have := gβ.n; omega)
      refine And.intro (fun z => ?_) (fun z => ?_)
      · exact hC _ _ _ _ (fin q _ (bI_F (fun y => y (eo.mp z))).symm)
      · exact hC _ _ _ _ (fin q _ (bI_T (fun y => z (eo.mpr y))).symm)
  have lp2 : ∀ k, k ≤ pcc ρ → ∀ h1, Fr [137, 141, 143, 158] h h1 → hI h1 137 = nR β → (∀ j, j < 524 → hI h1 143 j = nI (ρ j)) → (∀ c, c < pcc ρ → hI h1 141 c = oI (own β c)) → (∀ c, c < k → hI h1 158 c = oI (own β c)) → ∀ i, i = nI k → ∀ z3, Go G l (mt mM_otherOwners) 43 [some (vR 136), some (vI (nI b)), some (vI i), z3] [] h1 0 0 K := by
    refine upto _ ?_
    intro k hk ih h1 f er ea e1 e2 i hi z3
    subst hi
    have p1 : MP h1 β := ⟨p.1.fr f, er, gβ⟩
    refine gM_otherOwners 99 [(43, 4), (81, 4)] fun S Cu hS hC => ?_
    refine And.intro p1.1.ob (hS _ _ _ _ (sM_cells p1 ?_))
    rw [ec]
    refine pk_le (pcc ρ) k (fun q => ?_) (fun q => ?_)
    · obtain rfl : k = pcc ρ := by omega
      refine And.intro p1.1.ob (hS _ _ _ _ (sM_takesBack (π := ρ) p1.1 ea (fun j hj => by rw [er]; unfold nR; rw [gβ.2.2.2 j hj, p.2.2.2.2.2 j hj]) fun h2 f2 e3 => ?_))
      have f3 : Fr [137, 141, 143, 158] h h2 := f.tr f2 rfl rfl
      have p2 : MP h2 ρ := ⟨p.1.fr f3, e3, p.2.2⟩
      refine And.intro p2.1.ob (hS _ _ _ _ (sM_laysOwners p2 fun h3 f4 e4 => ?_))
      exact hC _ _ _ _ (lp3 h3 (f3.tr f4 rfl rfl) ((f4.i rfl).trans e3) e4 (fun c hc => by rw [f4.i rfl, f2.i rfl]; exact e2 c hc) 0 (by omega) _ _ rfl rfl)
    · refine ld 158 p1.1.ob (p1.1.2.2 38) ?_
      refine ld 141 p1.1.ob (p1.1.2.2 19) ?_
      refine ld _ (p1.1.inA (j := k) rfl rfl rfl rfl (by omega) rfl) (rdA rfl (by omega) (e1 k q)) ?_
      refine sw k _ (p1.1.inA (j := k) rfl rfl rfl rfl (by omega) rfl) (ix_nI (by omega)) rfl ?_
      refine hC _ _ _ _ (ih q _ (f.setI rfl) (by rw [si_nk rfl]; exact er) (fun j hj => by rw [si_nk rfl]; exact ea j hj) (fun c hc => by rw [si_nk rfl]; exact e1 c hc) (fun c hc => ?_) _ (nI_1 k) _)
      by_cases e : c = k
      · subst e; exact si_eq
      · rw [si_ne e]; exact e2 c (by omega)
  have lp1 : ∀ k, k ≤ 524 → ∀ h1, Fr [137, 141, 143, 158] h h1 → (∀ j, j < k → hI h1 137 j = nI (β j)) → (∀ j, 524 ≤ j → hI h1 137 j = nI (ρ j)) → (∀ j, j < 524 → hI h1 143 j = nI (ρ j)) → ∀ i, i = nI k → ∀ z3, Go G l (mt mM_otherOwners) 6 [some (vR 136), some (vI (nI b)), some (vI i), z3] [] h1 0 0 K := by
    refine upto _ ?_
    intro k hk ih h1 f e1 e2 ea i hi z3
    subst hi
    have m := p.1.fr f
    refine gM_otherOwners 99 [(6, 4), (43, 4)] fun S Cu hS hC => ?_
    refine pk_le 524 k (fun q => ?_) (fun q => ?_)
    · obtain rfl : k = 524 := by omega
      have er : hI h1 137 = nR β := funext fun j => by
        by_cases e : j < 524
        · exact e1 j e
        · rw [e2 j (by omega)]; unfold nR; rw [p.2.2.2.2.2 j (by omega), gβ.2.2.2 j (by omega)]
      have p1 : MP h1 β := ⟨m, er, gβ⟩
      refine And.intro p1.1.ob (hS _ _ _ _ (sM_laysOwners p1 fun h3 f4 e4 => ?_))
      rw [ec] at e4
      exact hC _ _ _ _ (lp2 0 (by omega) h3 (f.tr f4 rfl rfl) ((f4.i rfl).trans er) (fun j hj => by rw [f4.i rfl]; exact ea j hj) e4 (fun c hc => by omega) _ rfl _)
    · refine ld 137 m.ob (m.2.2 0) ?_
      refine ld 157 m.ob (m.2.2 37) ?_
      refine ld (nI (β k)) (m.inA (j := 524 * b + k) rfl rfl rfl (by first | with_reducible rfl | (try simp (disch := omega) only [pk_rem]) <;> simp (disch := omega) only [nl0, nl1, nl2, nl3, nl4, nl8, nl9, nl10, nl12, nl20, nl24, nl30, nl32, nl40, nl48, nl100, nl120, nl200, nl255, nl400, nl404, nl524, nl900, nl1000, nl9999, nl16, nl65536, nI_add, pk_mul, pk_sub, pk_div, pk_rem, Nat.add_zero, Nat.zero_add, Nat.mul_one, Nat.add_sub_cancel_left, Nat.add_sub_cancel]) (by omega) rfl) (rdA (j := 524 * b + k) (by first | with_reducible rfl | (try simp (disch := omega) only [pk_rem]) <;> simp (disch := omega) only [nl0, nl1, nl2, nl3, nl4, nl8, nl9, nl10, nl12, nl20, nl24, nl30, nl32, nl40, nl48, nl100, nl120, nl200, nl255, nl400, nl404, nl524, nl900, nl1000, nl9999, nl16, nl65536, nI_add, pk_mul, pk_sub, pk_div, pk_rem, Nat.add_zero, Nat.zero_add, Nat.mul_one, Nat.add_sub_cancel_left, Nat.add_sub_cancel]) (by omega) (by rw [f.i rfl]; exact eb k q)) ?_
      refine sw k _ (m.inA (j := k) rfl rfl rfl rfl q rfl) (ix_nI (by omega)) rfl ?_
      refine hC _ _ _ _ (ih q _ (f.setI rfl) (fun j hj => ?_) (fun j hj => by rw [si_ne (by omega)]; exact e2 j hj) (fun j hj => by rw [si_nk rfl]; exact ea j hj) _ (nI_1 k) _)
      by_cases e : j = k
      · subst e; exact si_eq
      · rw [si_ne e]; exact e1 j (by omega)
  refine eM_otherOwners 39 [(6, 4)] fun S Cu hS hC => ?_
  refine And.intro p.1.ob (hS _ _ _ _ (sM_puts p.1 p.2.1 fun h1 f ea => ?_))
  exact hC _ _ _ _ (lp1 0 (by omega) h1 (f.tr Fr.rf rfl rfl (M := [])) (fun j hj => by omega) (fun j hj => by rw [f.i rfl, p.2.1]; rfl) ea _ rfl _)
theorem sM_against {x w : Int32} (r : MR h tp tn ft fp ρ pa an un sm sc sn bx bk) (hK : ∀ h', FM h h' → MR h' tp tn ft fp ρ pa an un sm sc sn bx bk → K (some (vI (aAgainst ρ bx bk x w))) h') : Spec G l (mt mM_against) [vR 136, vI x, vI w] h K := by
  have p := r.1
  have mb := r.2.2.2.2
  have g := p.2.2.n
  have gc := p.2.2.c
  have e2 : (Int64.ofNat 0 ≤ w.toInt64 ∧ w.toInt64 ≤ Int64.ofNat 2) ↔ _ := isIn_lh (x := w) (lo := 0) (hi := 2) (by decide) (by decide)
  unfold aAgainst at hK
  have hK0 := hK h FM.rf r
  refine eM_against 99 [(90, 6), (141, 6)] fun S Cu hS hC => ?_
  refine And.intro p.1.ob (hS _ _ _ _ (sM_isBox p.1.ob ?_))
  refine brE (fun q => ?_) (fun q => ?_)
  · exact rtC (K := K) (fun z => q z.1) hK0
  obtain ⟨b, hb, rfl⟩ := q
  rw [ix_nI (by omega)] at hK0 hK
  refine ld 159 p.1.ob (p.1.2.2 39) ?_
  refine ld (bI (bk b)) (p.1.inA (j := b) rfl rfl rfl rfl hb rfl) (rdA rfl (by omega) (mb b hb).1) ?_
  refine brE (fun q => ?_) (fun q => ?_)
  · exact rtC (K := K) (fun z => q z.2.1) hK0
  obtain ⟨gb, eb⟩ := (mb b hb).2 q
  have gbn := gb.n
  have ew0 : hI h 157 (524 * b + 0) = nI (pcw (bx b)) := eb 0 (by decide)
  have eh0 : hI h 157 (524 * b + 1) = nI (pch (bx b)) := eb 1 (by decide)
  refine hS _ _ _ _ (sM_isIn ?_)
  refine brN (fun q2 => ?_) (fun q2 => ?_)
  · obtain ⟨v, -, hv, rfl⟩ := e2.mp q2
    refine ld 157 p.1.ob (p.1.2.2 37) ?_
    refine ld _ (p.1.inA (j := 524 * b + 0) rfl rfl rfl (by first | with_reducible rfl | (try simp (disch := omega) only [pk_rem]) <;> simp (disch := omega) only [nl0, nl1, nl2, nl3, nl4, nl8, nl9, nl10, nl12, nl20, nl24, nl30, nl32, nl40, nl48, nl100, nl120, nl200, nl255, nl400, nl404, nl524, nl900, nl1000, nl9999, nl16, nl65536, nI_add, pk_mul, pk_sub, pk_div, pk_rem, Nat.add_zero, Nat.zero_add, Nat.mul_one, Nat.add_sub_cancel_left, Nat.add_sub_cancel]) (by omega) rfl) (rdA (by first | with_reducible rfl | (try simp (disch := omega) only [pk_rem]) <;> simp (disch := omega) only [nl0, nl1, nl2, nl3, nl4, nl8, nl9, nl10, nl12, nl20, nl24, nl30, nl32, nl40, nl48, nl100, nl120, nl200, nl255, nl400, nl404, nl524, nl900, nl1000, nl9999, nl16, nl65536, nI_add, pk_mul, pk_sub, pk_div, pk_rem, Nat.add_zero, Nat.zero_add, Nat.mul_one, Nat.add_sub_cancel_left, Nat.add_sub_cancel]) (by omega) ew0) ?_
    refine And.intro p.1.ob (hS _ _ _ _ (sM_wide p ?_))
    refine And.intro (fun z => ?_) (fun z => ?_)
    · exact rtC (K := K) (fun y => z (by rw [y.2.2.1])) hK0
    have zw := (nI_eq (by omega) (by omega)).mp z
    refine ld 157 p.1.ob (p.1.2.2 37) ?_
    refine ld _ (p.1.inA (j := 524 * b + 1) rfl rfl rfl (by first | with_reducible rfl | (try simp (disch := omega) only [pk_rem]) <;> simp (disch := omega) only [nl0, nl1, nl2, nl3, nl4, nl8, nl9, nl10, nl12, nl20, nl24, nl30, nl32, nl40, nl48, nl100, nl120, nl200, nl255, nl400, nl404, nl524, nl900, nl1000, nl9999, nl16, nl65536, nI_add, pk_mul, pk_sub, pk_div, pk_rem, Nat.add_zero, Nat.zero_add, Nat.mul_one, Nat.add_sub_cancel_left, Nat.add_sub_cancel]) (by omega) rfl) (rdA (by first | with_reducible rfl | (try simp (disch := omega) only [pk_rem]) <;> simp (disch := omega) only [nl0, nl1, nl2, nl3, nl4, nl8, nl9, nl10, nl12, nl20, nl24, nl30, nl32, nl40, nl48, nl100, nl120, nl200, nl255, nl400, nl404, nl524, nl900, nl1000, nl9999, nl16, nl65536, nI_add, pk_mul, pk_sub, pk_div, pk_rem, Nat.add_zero, Nat.zero_add, Nat.mul_one, Nat.add_sub_cancel_left, Nat.add_sub_cancel]) (by omega) eh0) ?_
    refine And.intro p.1.ob (hS _ _ _ _ (sM_high p ?_))
    refine And.intro (fun z => ?_) (fun z => ?_)
    · have zh := (nI_eq (by omega) (by omega)).mp z
      have cT : inN (nI b) 2 ∧ bk b ∧ pcw (bx b) = pcw ρ ∧ pch (bx b) = pch ρ := ⟨⟨b, hb, rfl⟩, q, zw, zh⟩
      rw [cif_T cT] at hK hK0
      have e524 : (524 : Int32) * nI b = nI (524 * b) := by first | with_reducible rfl | (try simp (disch := omega) only [pk_rem]) <;> simp (disch := omega) only [nl0, nl1, nl2, nl3, nl4, nl8, nl9, nl10, nl12, nl20, nl24, nl30, nl32, nl40, nl48, nl100, nl120, nl200, nl255, nl400, nl404, nl524, nl900, nl1000, nl9999, nl16, nl65536, nI_add, pk_mul, pk_sub, pk_div, pk_rem, Nat.add_zero, Nat.zero_add, Nat.mul_one, Nat.add_sub_cancel_left, Nat.add_sub_cancel]
      refine And.intro (fun n0 => ?_) (fun e0 => ?_)
      · -- weights or dots
        have lp2 : ∀ k, v = 2 → k ≤ mn (pcn ρ) (pcn (bx b)) → ∀ i o f, i = nI k → f = nI (524 * b) → o = nI (sumN (fun d => wN (¬ same (bx b) ρ d) 1) k) → Go G l (mt mM_against) 141 [some (vR 136), some (vI (nI b)), some (vI (nI v)), some (vI f), some (vI o), some (vI i)] [] h 0 0 K := by
          intro k hv2
          subst hv2
          have mnl : mn (pcn ρ) (pcn (bx b)) ≤ pcn ρ ∧ mn (pcn ρ) (pcn (bx b)) ≤ pcn (bx b) ∧ (pcn ρ ≤ mn (pcn ρ) (pcn (bx b)) ∨ pcn (bx b) ≤ mn (pcn ρ) (pcn (bx b))) := by unfold mn; split <;> omega
          revert k
          refine upto _ ?_
          intro k hk ih i o f hi hf ho
          subst hi; subst hf
          refine gM_against 99 [(141, 6)] fun S Cu hS hC => ?_
          refine And.intro (fun z => absurd rfl z) (fun _ => ?_)
          refine And.intro p.1.ob (hS _ _ _ _ (sM_dots p ?_))
          refine pk_le (pcn ρ) k (fun q3 => ?_) (fun q3 => ?_)
          · obtain rfl : k = mn (pcn ρ) (pcn (bx b)) := by omega
            rw [sel_in (i := 2) rfl (by decide) rfl] at hK0
            subst ho; exact hK0
          refine ld 157 p.1.ob (p.1.2.2 37) ?_
          refine ld (nI (pcn (bx b))) (p.1.inA (j := 524 * b + 3) rfl rfl rfl (by first | with_reducible rfl | (try simp (disch := omega) only [pk_rem]) <;> simp (disch := omega) only [nl0, nl1, nl2, nl3, nl4, nl8, nl9, nl10, nl12, nl20, nl24, nl30, nl32, nl40, nl48, nl100, nl120, nl200, nl255, nl400, nl404, nl524, nl900, nl1000, nl9999, nl16, nl65536, nI_add, pk_mul, pk_sub, pk_div, pk_rem, Nat.add_zero, Nat.zero_add, Nat.mul_one, Nat.add_sub_cancel_left, Nat.add_sub_cancel]) (by omega) rfl) (rdA (by first | with_reducible rfl | (try simp (disch := omega) only [pk_rem]) <;> simp (disch := omega) only [nl0, nl1, nl2, nl3, nl4, nl8, nl9, nl10, nl12, nl20, nl24, nl30, nl32, nl40, nl48, nl100, nl120, nl200, nl255, nl400, nl404, nl524, nl900, nl1000, nl9999, nl16, nl65536, nI_add, pk_mul, pk_sub, pk_div, pk_rem, Nat.add_zero, Nat.zero_add, Nat.mul_one, Nat.add_sub_cancel_left, Nat.add_sub_cancel]) (by omega) (eb 3 (by decide))) ?_
          refine pk_le (pcn (bx b)) k (fun q4 => ?_) (fun q4 => ?_)
          · obtain rfl : k = mn (pcn ρ) (pcn (bx b)) := by omega
            rw [sel_in (i := 2) rfl (by decide) rfl] at hK0
            subst ho; exact hK0
          have gd := gb.d q4
          refine ld 157 p.1.ob (p.1.2.2 37) ?_
          refine And.intro p.1.ob (hS _ _ _ _ (sM_isElsewhere (k := 157) (n := 1048) (F := 524 * b + 404) (d := k) (x := pcX (bx b) k) (y := pcY (bx b) k) (q := pcD (bx b) k) p rfl rfl rfl rfl (by first | with_reducible rfl | (try simp (disch := omega) only [pk_rem]) <;> simp (disch := omega) only [nl0, nl1, nl2, nl3, nl4, nl8, nl9, nl10, nl12, nl20, nl24, nl30, nl32, nl40, nl48, nl100, nl120, nl200, nl255, nl400, nl404, nl524, nl900, nl1000, nl9999, nl16, nl65536, nI_add, pk_mul, pk_sub, pk_div, pk_rem, Nat.add_zero, Nat.zero_add, Nat.mul_one, Nat.add_sub_cancel_left, Nat.add_sub_cancel]) rfl q3 (by omega) (by omega) (by omega) (by omega) ?_ ?_ ?_ ?_))
          · rw [show 524 * b + 404 + 3 * k = 524 * b + (404 + 3 * k) by omega, eb _ (by omega)]; rfl
          · rw [show 524 * b + 404 + 3 * k + 1 = 524 * b + (404 + 3 * k + 1) by omega, eb _ (by omega)]; rfl
          · rw [show 524 * b + 404 + 3 * k + 2 = 524 * b + (404 + 3 * k + 2) by omega, eb _ (by omega)]; rfl
          refine hS _ _ _ _ (sM_truth ?_)
          refine hC _ _ _ _ (ih (by omega) _ _ _ (nI_1 k) rfl ?_)
          rw [ho, bI_wN, nI_add]; rfl
        have lp1 : v = 1 → ∀ k, k ≤ pcc ρ → ∀ i o f, i = nI k → f = nI (524 * b) → o = nI (sumN (fun c => wN (¬ pcW (bx b) c = pcW ρ c) 1) k) → Go G l (mt mM_against) 90 [some (vR 136), some (vI (nI b)), some (vI (nI v)), some (vI f), some (vI o), some (vI i)] [] h 0 0 K := by
          intro hv1
          subst hv1
          refine upto _ ?_
          intro k hk ih i o f hi hf ho
          subst hi; subst hf
          have fin : k < pcc ρ → ∀ w, w = bI (¬ pcW (bx b) k = pcW ρ k) → Go G l (mt mM_against) 126 [some (vR 136), some (vI (nI b)), some (vI (nI 1)), some (vI (nI (524 * b))), some (vI o), some (vI (nI k))] [vI w, vI o] h 0 0 K := by
            intro q3 w hw
            subst hw
            refine gM_against 99 [(90, 6)] fun S Cu hS hC => ?_
            refine hS _ _ _ _ (sM_truth ?_)
            refine hC _ _ _ _ (ih q3 _ _ _ (nI_1 k) rfl ?_)
            rw [ho, bI_wN, nI_add]; rfl
          refine gM_against 99 [(126, 6)] fun S Cu hS hC => ?_
          refine And.intro p.1.ob (hS _ _ _ _ (sM_cells p ?_))
          refine pk_le (pcc ρ) k (fun q3 => ?_) (fun q3 => ?_)
          · obtain rfl : k = pcc ρ := by omega
            refine And.intro (fun _ => ?_) (fun z => absurd z (by decide))
            rw [sel_in (i := 1) rfl (by decide) rfl] at hK0
            subst ho; exact hK0
          have w1 := pcW_le p.2.2 q3
          have w2 := gb.2.1 k (by omega)
          refine ld 157 p.1.ob (p.1.2.2 37) ?_
          refine ld (nI (pcW (bx b) k)) (p.1.inA (j := 524 * b + (4 + k)) rfl rfl rfl (by first | with_reducible rfl | (try simp (disch := omega) only [pk_rem]) <;> simp (disch := omega) only [nl0, nl1, nl2, nl3, nl4, nl8, nl9, nl10, nl12, nl20, nl24, nl30, nl32, nl40, nl48, nl100, nl120, nl200, nl255, nl400, nl404, nl524, nl900, nl1000, nl9999, nl16, nl65536, nI_add, pk_mul, pk_sub, pk_div, pk_rem, Nat.add_zero, Nat.zero_add, Nat.mul_one, Nat.add_sub_cancel_left, Nat.add_sub_cancel]; exact congrArg nI (by omega)) (by omega) rfl) (rdA (j := 524 * b + (4 + k)) (by first | with_reducible rfl | (try simp (disch := omega) only [pk_rem]) <;> simp (disch := omega) only [nl0, nl1, nl2, nl3, nl4, nl8, nl9, nl10, nl12, nl20, nl24, nl30, nl32, nl40, nl48, nl100, nl120, nl200, nl255, nl400, nl404, nl524, nl900, nl1000, nl9999, nl16, nl65536, nI_add, pk_mul, pk_sub, pk_div, pk_rem, Nat.add_zero, Nat.zero_add, Nat.mul_one, Nat.add_sub_cancel_left, Nat.add_sub_cancel]; exact congrArg nI (by omega)) (by omega) (eb (4 + k) (by omega))) ?_
          refine And.intro p.1.ob (hS _ _ _ _ (sM_weight p rfl (by omega) ?_))
          have ee := nI_eq (a := pcW (bx b) k) (b := pcW ρ k) (by omega) (by omega)
          refine And.intro (fun z => ?_) (fun z => ?_)
          · exact hC _ _ _ _ (fin q3 _ (bI_F (fun y => y (ee.mp z))).symm)
          · exact hC _ _ _ _ (fin q3 _ (bI_T (fun y => z (ee.mpr y))).symm)
        have hv3 : v = 1 ∨ v = 2 := by
          have h0 : v ≠ 0 := fun z => n0 (by rw [z]; rfl)
          omega
        rcases hv3 with rfl | rfl
        · refine And.intro (fun z => absurd rfl z) (fun _ => ?_)
          exact hC _ _ _ _ (lp1 rfl 0 (by omega) _ _ _ rfl e524 rfl)
        · refine And.intro (fun _ => ?_) (fun z => absurd z (by decide))
          exact hC _ _ _ _ (lp2 0 rfl (by omega) _ _ _ rfl e524 rfl)
      · refine And.intro p.1.ob (hS _ _ _ _ (sM_otherOwners (β := bx b) p rfl hb gb zw zh eb fun h' f er => ?_))
        have s : Sc1 [] h h' := Sc1.of f rfl
        have := hK h' (f.m rfl) ⟨⟨p.1.fr f, er, p.2.2⟩, r.2.1.fr f s rfl rfl, r.2.2.1.fr f s rfl rfl, r.2.2.2.1.fr f s rfl rfl, mb.fr f rfl⟩
        rw [sel_in (i := 0) e0 (by decide) rfl] at this
        exact this
    · exact rtC (K := K) (fun y => z (by rw [y.2.2.2])) hK0
  · by_cases cT : inN (nI b) 2 ∧ bk b ∧ pcw (bx b) = pcw ρ ∧ pch (bx b) = pch ρ
    · rw [cif_T cT, sel_out (fun i hi z => q2 (e2.mpr ⟨i, by omega, by simp at hi; omega, z⟩))] at hK0
      exact hK0
    · exact rtC (K := K) cT hK0
theorem sM_emptyOnes (p : MP h ρ) (hK : ∀ h', Fr [141, 142] h h' → K (some (vI (nI (emp ρ)))) h') : Spec G l (mt mM_emptyOnes) [vR 136] h K := by
  have g := p.2.2.n
  refine eM_emptyOnes 99 [(8, 3)] fun S Cu hS hC => ?_
  refine And.intro p.1.ob (hS _ _ _ _ (sM_laysLoads p fun h' f eo el => ?_))
  have p' : MP h' ρ := p.fr f rfl
  have lp : ∀ k, k ≤ pcn ρ → ∀ i o, i = nI k → o = nI (sumN (fun d => wN (load ρ d = 0) 1) k) → Go G l (mt mM_emptyOnes) 8 [some (vR 136), some (vI o), some (vI i)] [] h' 0 0 K := by
    refine upto _ ?_
    intro k hk ih i o hi ho
    subst hi
    have fin : k < pcn ρ → ∀ w, w = bI (load ρ k = 0) → Go G l (mt mM_emptyOnes) 31 [some (vR 136), some (vI o), some (vI (nI k))] [vI w, vI o] h' 0 0 K := by
      intro q w hw
      subst hw
      refine gM_emptyOnes 99 [(8, 3)] fun S Cu hS hC => ?_
      refine hS _ _ _ _ (sM_truth ?_)
      refine hC _ _ _ _ (ih q _ _ (nI_1 k) ?_)
      rw [ho, bI_wN, nI_add]; rfl
    refine gM_emptyOnes 99 [(31, 3)] fun S Cu hS hC => ?_
    refine And.intro p'.1.ob (hS _ _ _ _ (sM_dots p' ?_))
    refine pk_le (pcn ρ) k (fun q => ?_) (fun q => ?_)
    · obtain rfl : k = pcn ρ := by omega
      subst ho; exact hK h' f
    · have ll := load_le p.2.2 k
      refine ld 142 p'.1.ob (p'.1.2.2 20) ?_
      refine ld (nI (load ρ k)) (p'.1.inA (j := k) rfl rfl rfl rfl (by omega) rfl) (rdA rfl (by omega) (el k q)) ?_
      refine And.intro (fun z => ?_) (fun z => ?_)
      · exact hC _ _ _ _ (fin q _ (bI_F (fun y => z (by rw [y]; rfl))).symm)
      · exact hC _ _ _ _ (fin q _ (bI_T ((nI_eq (b := 0) (by omega) (by decide)).mp z)).symm)
  exact hC _ _ _ _ (lp 0 (by omega) _ _ rfl rfl)
theorem sM_about {w : Int32} (r : MR h tp tn ft fp ρ pa an un sm sc sn bx bk) (hK : ∀ h', FM h h' → MR h' tp tn ft fp ρ pa an un sm sc sn bx bk → K (some (vI (aAbout ρ an un tn w))) h') : Spec G l (mt mM_about) [vR 136, vI w] h K := by
  have p := r.1
  have hK0 := hK h FM.rf r
  unfold aAbout at hK hK0
  refine eM_about 39 [] fun S Cu hS hC => ?_
  refine And.intro (fun e => ?_) (fun n0 => And.intro (fun e => ?_) (fun n1 => And.intro (fun e => ?_) (fun n2 => And.intro (fun e => ?_) (fun n3 => And.intro (fun e => ?_) (fun n4 => And.intro (fun e => ?_) (fun n5 => And.intro (fun e => ?_) (fun n6 => And.intro (fun e => ?_) (fun n7 => And.intro (fun e => ?_) (fun n8 => And.intro (fun e => ?_) (fun n9 => ?_))))))))))
  · rw [sel_in (i := 0) e (by decide) rfl] at hK0
    exact And.intro p.1.ob (hS _ _ _ _ (sM_wide p hK0))
  · rw [sel_in (i := 1) e (by decide) rfl] at hK0
    exact And.intro p.1.ob (hS _ _ _ _ (sM_high p hK0))
  · rw [sel_in (i := 2) e (by decide) rfl] at hK0
    exact And.intro p.1.ob (hS _ _ _ _ (sM_dots p hK0))
  · rw [sel_in (i := 3) e (by decide) rfl] at hK0
    exact And.intro p.1.ob (hS _ _ _ _ (sM_allWeights p hK0))
  · rw [sel_in (i := 4) e (by decide) rfl] at hK0
    exact And.intro p.1.ob (hS _ _ _ _ (sM_allCost p hK0))
  · refine And.intro p.1.ob (hS _ _ _ _ (sM_emptyOnes p fun h' f => ?_))
    have := hK h' (f.m rfl) (r.scr f rfl)
    rw [sel_in (i := 5) e (by decide) rfl] at this
    exact this
  · rw [sel_in (i := 6) e (by decide) rfl] at hK0
    exact ld 137 p.1.ob (p.1.2.2 0) (ld _ (p.1.inA (j := 2) rfl rfl rfl rfl (by decide) rfl) (rdP p.2.1 rfl (by decide)) hK0)
  · rw [sel_in (i := 7) e (by decide) rfl] at hK0
    exact ld _ p.1.ob r.2.2.1.2.1 hK0
  · rw [sel_in (i := 8) e (by decide) rfl] at hK0
    exact ld _ p.1.ob r.2.2.1.2.2.1 hK0
  · rw [sel_in (i := 9) e (by decide) rfl] at hK0
    exact ld _ p.1.ob r.2.1.2.1 hK0
  · rw [sel_out (fun i hi => match i, hi with | 0, _ => n0 | 1, _ => n1 | 2, _ => n2 | 3, _ => n3 | 4, _ => n4 | 5, _ => n5 | 6, _ => n6 | 7, _ => n7 | 8, _ => n8 | 9, _ => n9)] at hK0
    exact hK0
end MM
