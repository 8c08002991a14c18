/-! ===== the class: a round, first those with a load ===== -/
/-- only scene s and the owners of field f have changed -/
def FRd (f s : Nat) (h h' : AH) : Prop := hN h' = hN h ∧ hS h' = hS h ∧ hR h' = hR h ∧ (∀ k, grp k ≠ s → k ≠ f + 1 → hI h' k = hI h k) ∧ ∀ k, grp k ≠ s → k ≠ f + 2 → k ≠ f + 3 → hL h' k = hL h k
theorem FRd.rf {f s : Nat} {h : AH} : FRd f s h h := ⟨rfl, rfl, rfl, fun _ _ _ => rfl, fun _ _ _ _ => rfl⟩
theorem FRd.tr {f s : Nat} {h h1 h2 : AH} (a : FRd f s h h1) (b : FRd f s h1 h2) : FRd f s h h2 := ⟨b.1.trans a.1, b.2.1.trans a.2.1, b.2.2.1.trans a.2.2.1, fun k p q => (b.2.2.2.1 k p q).trans (a.2.2.2.1 k p q), fun k p q r => (b.2.2.2.2 k p q r).trans (a.2.2.2.2 k p q r)⟩
theorem FO.rd {f s : Nat} {h h' : AH} (a : FO f h h') : FRd f s h h' := ⟨a.1, a.2.1, a.2.2.1, fun k _ q => a.2.2.2.1 k q, fun k _ q r => a.2.2.2.2 k q r⟩
theorem FX.rd {f s : Nat} {h h' : AH} (a : FX s [] h h') : FRd f s h h' := ⟨a.1, a.2.1, a.2.2.1, fun k p _ => a.i p rfl, fun k p _ _ => a.l p rfl⟩
theorem FRd.x {f s : Nat} {h h' : AH} (a : FRd f s h h') (hf : FH f) : FX s [f] h h' := by
  have no : ∀ {k i : Nat}, i ≤ 9 → [f].contains (grp k) = false → k ≠ f + i := fun {k i} hi q z => by
    rw [z, hf.gr hi] at q
    have : [f].contains f = true := by simp
    rw [this] at q; cases q
  exact ⟨a.1, a.2.1, a.2.2.1, fun k p q => ⟨a.2.2.2.1 k p (no (by decide) q), a.2.2.2.2 k p (no (by decide) q) (no (by decide) q)⟩⟩
theorem FRd.cs {f s : Nat} {h h' : AH} (a : FRd f s h h') (c : CS h) : CS h' := ⟨a.1.trans c.1, a.2.1.trans c.2.1, fun k j z => by rw [a.2.2.1]; exact c.2.2 k j z⟩
theorem SH.gf {s f : Nat} (hs : SH s) (hf : FH f) {i : Nat} (hi : i ≤ 9) : grp (f + i) ≠ s := fun z => hs.nf hf (by rw [← z]; exact hf.gr hi)
/-- owners that a change of a scene leaves -/
theorem owR.fx {h h' : AH} {f s : Nat} {ρ : Pic} {O : Nat → Option Nat} (o : owR h f ρ O) (a : FX s [] h h') (hs : SH s) (hf : FH f) : owR h' f ρ O := by
  intro c hc
  rw [a.i (hs.gf hf (by decide)) rfl, a.l (hs.gf hf (by decide)) rfl, a.l (hs.gf hf (by decide)) rfl]; exact o c hc
section CC
variable {G : GP} {l : Launch} {K : Option AV → AH → Prop} {h : AH} {ρ : Pic}
variable {s f : Nat}
theorem rd1 {h0 : AH} (cs : CS h0) (sh : SH s) (gd : Good ρ) (hf : FH f) (au : AU h0 f ρ (pcc ρ)) (hN : ∀ h' O z4, FRd f s h0 h' → SP h' s (mids ρ (pcn ρ)) → owR h' f (mids ρ (pcn ρ)) O → (∀ c, c < pcc ρ → IsOw (mids ρ (pcn ρ)) (fun e => ¬ load ρ e = 0 ∧ e < pcn ρ) c (pcn ρ) (O c)) → Go G l (mt mF_round) 66 [some (vR f), some (vR s), some (vI (nI (mv1 ρ (pcn ρ)))), none, z4] [] h' 0 0 K) : ∀ k, k ≤ pcn ρ → ∀ h' O, FRd f s h0 h' → SP h' s (mids ρ k) → owR h' f (mids ρ k) O → (∀ c, c < pcc ρ → IsOw (mids ρ k) (fun e => ¬ load ρ e = 0 ∧ e < k) c (pcn ρ) (O c)) → ∀ mo i z4, mo = nI (mv1 ρ k) → i = nI k → Go G l (mt mF_round) 8 [some (vR f), some (vR s), some (vI mo), some (vI i), z4] [] h' 0 0 K := by
  have g := gd.n
  have gc := gd.c
  have A := hf.a
  refine upto _ ?_
  intro k hk ih h' O fr sp ow is mo i z4 hmo hi
  subst hi
  obtain ⟨gm, lk⟩ := mids_ok gd k hk
  have c1 := fr.cs cs
  have x : SC h' s (mids ρ k) := ⟨c1, sh, sp, gm⟩
  have ob := c1.fob hf
  have hr : ∀ {i : Nat}, i ≤ 9 → i ≠ 1 → hI h' (f + i) = hI h0 (f + i) := fun {i} a b => fr.2.2.2.1 (f + i) (sh.gf hf a) (by omega)
  have nx : k < pcn ρ → mids ρ (k + 1) = mids ρ k → load ρ k = 0 → Go G l (mt mF_round) 60 [some (vR f), some (vR s), some (vI mo), some (vI (nI k)), z4] [] h' 0 0 K := by
    intro q e z
    refine gF_round 99 [(8, 5)] fun S Cu hS hC => ?_
    refine hC _ _ _ _ (ih q h' O fr (by rw [e]; exact sp) (by rw [e]; exact ow) (fun c hc => ?_) _ _ _ ?_ (nI_1 k))
    · rw [e]
      refine (is c hc).cg fun d hd => ⟨fun w => ⟨w.1, by omega⟩, fun w => ⟨w.1, ?_⟩⟩
      by_cases dk : d = k
      · subst dk; exact absurd z w.1
      · omega
    · exact cntF (P := fun d => ¬ load ρ d = 0 ∧ ¬ same ρ (rnd ρ) d) (fun w => w.1 z) hmo
  refine gF_round 199 [(54, 5), (60, 5), (66, 3)] fun S Cu hS hC => ?_
  refine ld (nI (pcn ρ)) x.ob (by rw [sp.1.2.2.1, lk.2.2.2.1]) ?_
  refine pk_le (pcn ρ) k (fun q => ?_) (fun q => ?_)
  · obtain rfl : k = pcn ρ := by omega
    subst hmo
    exact hC _ _ _ _ (hN h' O _ fr sp ow is)
  · obtain ⟨u1, u2, u3, u4, u5⟩ := au.2.1 k (by omega)
    have ll := load_le gd k
    have sl := sm_le gd k
    have m1 : (pcw ρ - 1) * load ρ k ≤ 19 * 3600 := Nat.mul_le_mul (by omega) ll
    have m2 : (pch ρ - 1) * load ρ k ≤ 19 * 3600 := Nat.mul_le_mul (by omega) ll
    have r6 : hI h' (f + 6) k = nI (load ρ k) := by rw [hr (by decide) (by decide)]; exact u2
    have r8 : hI h' (f + 8) k = nI (smX ρ k) := by rw [hr (by decide) (by decide)]; exact u4
    have r9 : hI h' (f + 9) k = nI (smY ρ k) := by rw [hr (by decide) (by decide)]; exact u5
    refine ld (f + 6) ob (c1.fr hf (by decide)) ?_
    refine ld (nI (load ρ k)) (c1.fin hf (by decide) A.2.2.2.2.2.2.1 rfl (by omega) (by decide)) (rdX rfl (by omega) r6) ?_
    refine pk_le (load ρ k) 0 (fun q0 => ?_) (fun q0 => ?_)
    · have z : load ρ k = 0 := by omega
      exact hC _ _ _ _ (nx q (by simp only [mids]; rw [if_pos z]) z)
    · have z : ¬ load ρ k = 0 := by omega
      have em : mids ρ (k + 1) = lay (mids ρ k) k (smX ρ k) (smY ρ k) (load ρ k) := by simp only [mids]; rw [if_neg z]
      obtain ⟨gm2, lk2⟩ := mids_ok gd (k + 1) q
      refine ld (f + 8) ob (c1.fr hf (by decide)) ?_
      refine ld (nI (smX ρ k)) (c1.fin hf (by decide) A.2.2.2.2.2.2.2.2.1 rfl (by omega) (by decide)) (rdX rfl (by omega) r8) ?_
      refine ld (f + 9) ob (c1.fr hf (by decide)) ?_
      refine ld (nI (smY ρ k)) (c1.fin hf (by decide) A.2.2.2.2.2.2.2.2.2 rfl (by omega) (by decide)) (rdX rfl (by omega) r9) ?_
      refine ld (f + 6) ob (c1.fr hf (by decide)) ?_
      refine ld (nI (load ρ k)) (c1.fin hf (by decide) A.2.2.2.2.2.2.1 rfl (by omega) (by decide)) (rdX rfl (by omega) r6) ?_
      have px : FX s [] h' (plH h' s k (smX ρ k / gcd3 (smX ρ k) (smY ρ k) (load ρ k)) (smY ρ k / gcd3 (smX ρ k) (smY ρ k) (load ρ k)) (load ρ k / gcd3 (smX ρ k) (smY ρ k) (load ρ k))) := plH_fx sh
      have p2 : SP (plH h' s k (smX ρ k / gcd3 (smX ρ k) (smY ρ k) (load ρ k)) (smY ρ k / gcd3 (smX ρ k) (smY ρ k) (load ρ k)) (load ρ k / gcd3 (smX ρ k) (smY ρ k) (load ρ k))) s (mids ρ (k + 1)) := by rw [em]; exact sp.pl (by rw [lk.cc]; exact gc.1)
      have was := mids_0 (ρ := ρ) (d := k) (k := k) (Or.inl (Nat.le_refl k))
      have wil := rnd_full q z
      have o1 := sp.2.2 k (by rw [lk.2.2.2.1]; exact q)
      have gk := gd.d q
      have g2 := gm2.d (d := k) (by rw [lk2.2.2.2.1]; exact q)
      have eX : pcX (mids ρ (k + 1)) k = smX ρ k / gcd3 (smX ρ k) (smY ρ k) (load ρ k) := by rw [em]; exact setD_X
      have eY : pcY (mids ρ (k + 1)) k = smY ρ k / gcd3 (smX ρ k) (smY ρ k) (load ρ k) := by rw [em]; exact setD_Y
      have eD : pcD (mids ρ (k + 1)) k = load ρ k / gcd3 (smX ρ k) (smY ρ k) (load ρ k) := by rw [em]; exact setD_D
      have mvq : (hI h' (s + 2) k = nI (smX ρ k / gcd3 (smX ρ k) (smY ρ k) (load ρ k)) ∧ hI h' (s + 3) k = nI (smY ρ k / gcd3 (smX ρ k) (smY ρ k) (load ρ k)) ∧ hI h' (s + 4) k = nI (load ρ k / gcd3 (smX ρ k) (smY ρ k) (load ρ k))) ↔ same ρ (rnd ρ) k := by
        rw [o1.1, o1.2.1, o1.2.2, ← was.1, ← was.2.1, ← was.2.2, ← eX, ← eY, ← eD]
        refine ⟨fun w => same.tr ⟨(nI_eq (by omega) (by omega)).mp w.1, (nI_eq (by omega) (by omega)).mp w.2.1, (nI_eq (by omega) (by omega)).mp w.2.2⟩ wil, fun w => ?_⟩
        have y := w.tr wil.sy
        exact ⟨congrArg nI y.1, congrArg nI y.2.1, congrArg nI y.2.2⟩
      refine And.intro x.ob (hS _ _ _ _ (sS_place (d := k) c1 sh rfl rfl rfl rfl (by omega) (by omega) (by omega) (by omega) (by omega) ?_))
      generalize plH h' s k (smX ρ k / gcd3 (smX ρ k) (smY ρ k) (load ρ k)) (smY ρ k / gcd3 (smX ρ k) (smY ρ k) (load ρ k)) (load ρ k / gcd3 (smX ρ k) (smY ρ k) (load ρ k)) = h2 at px p2 ⊢
      have x2 : SC h2 s (mids ρ (k + 1)) := ⟨px.cs c1, sh, p2, gm2⟩
      have cc : pcc (mids ρ (k + 1)) = pcc (mids ρ k) := by rw [lk2.cc, lk.cc]
      have ww : pcw (mids ρ (k + 1)) = pcw (mids ρ k) := by rw [lk2.1, lk.1]
      have sg : ∀ c d, d ≠ k → gap (mids ρ (k + 1)) c d = gap (mids ρ k) c d ∧ spn (mids ρ (k + 1)) d = spn (mids ρ k) d := fun c d hd => (mids_s (Or.inl hd)).gs ww c
      have is2 : ∀ c, c < pcc ρ → IsOw (mids ρ (k + 1)) (fun e => ¬ load ρ e = 0 ∧ e < k) c (pcn ρ) (O c) := fun c hc => (is c hc).ps fun d hd sd => sg c d (by omega)
      have ow2 : owR h2 f (mids ρ (k + 1)) O := (ow.fx px sh hf).ps cc (fun c b hc e => sg c b (by
        rw [lk.cc] at hc
        have := is c hc; rw [e] at this
        have := this.lt.2.2; omega))
      have hp : ∀ e, e < pcn ρ → 0 < spn (mids ρ (k + 1)) e := fun e he => (spn_pos gm2 (by rw [lk2.2.2.2.1]; exact he)).1
      have g54 : ∀ mo, mo = nI (mv1 ρ (k + 1)) → Go G l (mt mF_round) 54 [some (vR f), some (vR s), some (vI mo), some (vI (nI k)), z4] [] h2 0 0 K := by
        intro mo hmo
        refine gF_round 99 [(8, 5)] fun S Cu hS hC => ?_
        refine And.intro (x2.1.fob hf) (hS _ _ _ _ (sF_offer x2 hf rfl (by rw [lk2.2.2.2.1]; exact q) ow2 (fun c b hc e => by rw [lk2.cc] at hc; have := is c hc; rw [e] at this; rw [lk2.2.2.2.1]; exact this.lt.1) fun h3 o3 ow3 => ?_))
        refine hC _ _ _ _ (ih q h3 _ ((fr.tr px.rd).tr o3.rd) ((o3.x hf).sp p2 sh (sh.nf hf) rfl) ow3 (fun c hc => ?_) _ _ _ hmo (nI_1 k))
        refine (ofr_is hp q (is2 c hc)).cg fun d hd => ⟨fun w => ?_, fun w => ?_⟩
        · rcases w with w | w
          · exact ⟨w.1, by omega⟩
          · subst w; exact ⟨z, by omega⟩
        · by_cases dk : d = k
          · exact Or.inr dk
          · exact Or.inl ⟨w.1, by omega⟩
      refine brE (fun w => ?_) (fun w => ?_)
      · refine hC _ _ _ _ (g54 _ (cntF (P := fun d => ¬ load ρ d = 0 ∧ ¬ same ρ (rnd ρ) d) (fun y => w (fun v => y.2 (mvq.mp v))) hmo))
      · exact hC _ _ _ _ (g54 _ (cntT (P := fun d => ¬ load ρ d = 0 ∧ ¬ same ρ (rnd ρ) d) ⟨z, fun v => w (mvq.mpr v)⟩ hmo))
end CC
