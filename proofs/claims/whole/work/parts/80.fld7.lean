/-! ===== the class: a round, then the empty ones ===== -/
section CC
variable {G : GP} {l : Launch} {K : Option AV → AH → Prop} {h : AH} {ρ : Pic}
variable {s f : Nat}
theorem rd2 {h0 : AH} (cs : CS h0) (sh : SH s) (gd : Good ρ) (hf : FH f) (au : AU h0 f ρ (pcc ρ)) (hN : ∀ h' O z4, FRd f s h0 h' → SP h' s (rnd ρ) → owR h' f (rnd ρ) O → (∀ c, c < pcc ρ → IsOw (rnd ρ) (fun e => ¬ load ρ e = 0 ∨ e < pcn ρ) c (pcn ρ) (O c)) → Go G l (mt mF_round) 135 [some (vR f), some (vR s), some (vI (nI (mvd ρ))), none, z4] [] h' 0 0 K) : ∀ k, k ≤ pcn ρ → ∀ h' O, FRd f s h0 h' → SP h' s (ems ρ k) → owR h' f (ems ρ k) O → (∀ c, c < pcc ρ → IsOw (ems ρ k) (fun e => ¬ load ρ e = 0 ∨ e < k) c (pcn ρ) (O c)) → ∀ mo i z4, mo = nI (mv1 ρ (pcn ρ) + mv2 ρ k) → i = nI k → Go G l (mt mF_round) 68 [some (vR f), some (vR s), some (vI mo), some (vI i), z4] [] h' 0 0 K := by
  have g := gd.n
  have gc := gd.c
  have A := hf.a
  refine upto _ ?_
  intro k hk ih h' O fr sp ow is mo i z4 hmo hi
  subst hi
  obtain ⟨gm, lk⟩ := ems_ok gd k hk
  have c1 := fr.cs cs
  have x : SC h' s (ems ρ k) := ⟨c1, sh, sp, gm⟩
  have ob := c1.fob hf
  have ms : mv2 ρ (k + 1) = mv2 ρ k + wN (load ρ k = 0 ∧ ¬ same ρ (rnd ρ) k) 1 := rfl
  have mF : ¬ (load ρ k = 0 ∧ ¬ same ρ (rnd ρ) k) → mo = nI (mv1 ρ (pcn ρ) + mv2 ρ (k + 1)) := fun z => by rw [hmo, ms, wN_F z]; rfl
  have mT : (load ρ k = 0 ∧ ¬ same ρ (rnd ρ) k) → mo + 1 = nI (mv1 ρ (pcn ρ) + mv2 ρ (k + 1)) := fun z => by rw [hmo, ms, wN_T z]; exact nI_1 _
  -- the dot offered
  have g123 : k < pcn ρ → load ρ k = 0 → ∀ h2 mo, FRd f s h0 h2 → SP h2 s (ems ρ (k + 1)) → owR h2 f (ems ρ (k + 1)) O → (∀ c, c < pcc ρ → IsOw (ems ρ (k + 1)) (fun e => ¬ load ρ e = 0 ∨ e < k) c (pcn ρ) (O c)) → mo = nI (mv1 ρ (pcn ρ) + mv2 ρ (k + 1)) → Go G l (mt mF_round) 123 [some (vR f), some (vR s), some (vI mo), some (vI (nI k)), none] [] h2 0 0 K := by
    intro q z h2 mo fr2 p2 ow2 is2 hmo2
    obtain ⟨gm2, lk2⟩ := ems_ok gd (k + 1) q
    have x2 : SC h2 s (ems ρ (k + 1)) := ⟨fr2.cs cs, sh, p2, gm2⟩
    have hp : ∀ e, e < pcn ρ → 0 < spn (ems ρ (k + 1)) e := fun e he => (spn_pos gm2 (by rw [lk2.2.2.2.1]; exact he)).1
    refine gF_round 99 [(68, 4)] fun S Cu hS hC => ?_
    refine And.intro (x2.1.fob hf) (hS _ _ _ _ (sF_offer x2 hf rfl (by rw [lk2.2.2.2.1]; exact q) ow2 (fun c b hc e => by rw [lk2.cc] at hc; have := is2 c hc; rw [e] at this; rw [lk2.2.2.2.1]; exact this.lt.1) fun h3 o3 ow3 => ?_))
    refine hC _ _ _ _ (ih q h3 _ (fr2.tr o3.rd) ((o3.x hf).sp p2 sh (sh.nf hf) rfl) ow3 (fun c hc => ?_) _ _ _ hmo2 (nI_1 k))
    exact (ofr_is hp q (is2 c hc)).cg fun d hd => ⟨fun w => by omega, fun w => by omega⟩
  refine gF_round 199 [(68, 4), (123, 4), (135, 3)] fun S Cu hS hC => ?_
  refine ld (nI (pcn ρ)) x.ob (by rw [sp.1.2.2.1, lk.2.2.2.1]) ?_
  refine pk_le (pcn ρ) k (fun q => ?_) (fun q => ?_)
  · obtain rfl : k = pcn ρ := by omega
    rw [mv_all] at hmo
    subst hmo
    exact hC _ _ _ _ (hN h' O _ fr sp ow is)
  · obtain ⟨u1, u2, u3, u4, u5⟩ := au.2.1 k (by omega)
    have ll := load_le gd k
    have r6 : hI h' (f + 6) k = nI (load ρ k) := by rw [fr.2.2.2.1 (f + 6) (sh.gf hf (by decide)) (by omega)]; exact u2
    refine ld (f + 6) ob (c1.fr hf (by decide)) ?_
    refine ld (nI (load ρ k)) (c1.fin hf (by decide) A.2.2.2.2.2.2.1 rfl (by omega) (by decide)) (rdX rfl (by omega) r6) ?_
    refine And.intro (fun q0 => ?_) (fun q0 => ?_)
    · have z : ¬ load ρ k = 0 := fun w => q0 (by rw [w]; rfl)
      have e : ems ρ (k + 1) = ems ρ k := by simp only [ems]; rw [if_neg z]
      refine hC _ _ _ _ (ih q h' O fr (by rw [e]; exact sp) (by rw [e]; exact ow) (fun c hc => ?_) _ _ _ (mF (fun w => z w.1)) (nI_1 k))
      rw [e]
      refine (is c hc).cg fun d hd => ⟨fun w => by omega, fun w => ?_⟩
      by_cases dk : d = k
      · subst dk; exact Or.inl z
      · omega
    · have z : load ρ k = 0 := (nI_eq (b := 0) (by omega) (by decide)).mp q0
      have hp0 : ∀ e, e < pcn ρ → 0 < spn (ems ρ k) e := fun e he => (spn_pos gm (by rw [lk.2.2.2.1]; exact he)).1
      have eO : ∀ c, c < pcc ρ → O c = emO ρ (ems ρ k) k c := fun c hc => (is c hc).uni (ow_is hp0)
      refine And.intro ob (hS _ _ _ _ (sF_worstOf (O := O) (P := emO ρ (ems ρ k) k) x hf ow (fun c b e => by rw [lk.2.2.2.1]; exact (ow_lt e).1) (fun c hc => ?_) ?_))
      · rw [lk.cc] at hc
        rw [← eO c hc]
        cases e : O c with
        | none => exact Or.inl ⟨rfl, Or.inl rfl⟩
        | some b => exact Or.inr ⟨b, rfl, rfl, Or.inl rfl⟩
      have was := ems_was z
      have wil := rnd_empty (ρ := ρ) q
      have ccE : pcc (ems ρ k) = pcc ρ := lk.cc
      cases ew : (wst (ems ρ k) (emO ρ (ems ρ k) k) (pcc (ems ρ k))).1 with
      | none =>
        have ew2 : (wst (ems ρ k) (emO ρ (ems ρ k) k) (pcc ρ)).1 = none := by rw [← ccE]; exact ew
        have e : ems ρ (k + 1) = ems ρ k := by simp only [ems]; rw [if_pos z, ew2]
        refine And.intro (fun _ => ?_) (fun w => absurd rfl w)
        refine hC _ _ _ _ (g123 q z h' _ fr (by rw [e]; exact sp) (by rw [e]; exact ow) (by rw [e]; exact is) (mF (fun w => w.2 ?_)))
        rw [e] at wil
        exact was.tr wil
      | some c =>
        have ew2 : (wst (ems ρ k) (emO ρ (ems ρ k) k) (pcc ρ)).1 = some c := by rw [← ccE]; exact ew
        have hc := wst_lt ew2
        have xy := gd.xy hc
        have e : ems ρ (k + 1) = setD (ems ρ k) k (c % pcw ρ) (c / pcw ρ) 1 := by simp only [ems]; rw [if_pos z, ew2]
        obtain ⟨gm2, lk2⟩ := ems_ok gd (k + 1) q
        refine And.intro (fun w => absurd w (fun w => nI_m1 (by omega) w)) (fun _ => ?_)
        refine And.intro x.ob (hS _ _ _ _ (sS_columnOf (c := c) x rfl (by omega) ?_))
        refine And.intro x.ob (hS _ _ _ _ (sS_rowOf (c := c) x rfl (by omega) ?_))
        have o1 := sp.2.2 k (by rw [lk.2.2.2.1]; exact q)
        have gk := gd.d q
        have px : FX s [] h' (plH h' s k (c % pcw ρ) (c / pcw ρ) 1) := plH_fx sh
        have p2 : SP (plH h' s k (c % pcw ρ) (c / pcw ρ) 1) s (ems ρ (k + 1)) := by rw [e]; exact sp.pl (by rw [lk.cc]; exact gc.1)
        have eX : pcX (ems ρ (k + 1)) k = c % pcw ρ := by rw [e]; exact setD_X
        have eY : pcY (ems ρ (k + 1)) k = c / pcw ρ := by rw [e]; exact setD_Y
        have eD : pcD (ems ρ (k + 1)) k = 1 := by rw [e]; exact setD_D
        have mvq : (hI h' (s + 2) k = nI (c % pcw ρ) ∧ hI h' (s + 3) k = nI (c / pcw ρ) ∧ hI h' (s + 4) k = nI 1) ↔ same ρ (rnd ρ) k := by
          rw [o1.1, o1.2.1, o1.2.2, ← was.1, ← was.2.1, ← was.2.2]
          refine ⟨fun w => same.tr ⟨((nI_eq (by omega) (by omega)).mp w.1).trans eX.symm, ((nI_eq (by omega) (by omega)).mp w.2.1).trans eY.symm, ((nI_eq (by omega) (by decide)).mp w.2.2).trans eD.symm⟩ wil, fun w => ?_⟩
          have y := w.tr wil.sy
          exact ⟨congrArg nI (y.1.trans eX), congrArg nI (y.2.1.trans eY), congrArg nI (y.2.2.trans eD)⟩
        refine And.intro x.ob (hS _ _ _ _ (sS_place (d := k) (x := c % pcw ρ) (y := c / pcw ρ) (q := 1) c1 sh rfl (by rw [lk.1]) (by rw [lk.1]) rfl (by omega) (by omega) (by omega) (by decide) (by decide) ?_))
        rw [gcd3_1, Nat.div_one, Nat.div_one, Nat.div_one]
        generalize plH h' s k (c % pcw ρ) (c / pcw ρ) 1 = h2 at px p2 ⊢
        have cc : pcc (ems ρ (k + 1)) = pcc (ems ρ k) := by rw [lk2.cc, lk.cc]
        have ww : pcw (ems ρ (k + 1)) = pcw (ems ρ k) := by rw [lk2.1, lk.1]
        have sg : ∀ c d, d ≠ k → gap (ems ρ (k + 1)) c d = gap (ems ρ k) c d ∧ spn (ems ρ (k + 1)) d = spn (ems ρ k) d := fun c d hd => (ems_s (Or.inl hd)).gs ww c
        have nk : ∀ {d : Nat}, (¬ load ρ d = 0 ∨ d < k) → d ≠ k := fun {d} w y => by subst y; exact w.elim (fun v => v z) (fun v => Nat.lt_irrefl _ v)
        have is2 : ∀ c, c < pcc ρ → IsOw (ems ρ (k + 1)) (fun e => ¬ load ρ e = 0 ∨ e < k) c (pcn ρ) (O c) := fun c hc => (is c hc).ps fun d hd sd => sg c d (nk sd)
        have ow2 : owR h2 f (ems ρ (k + 1)) O := (ow.fx px sh hf).ps cc (fun c b hc e => sg c b (by
          rw [lk.cc] at hc
          have := is c hc; rw [e] at this
          exact nk this.lt.2))
        refine brE (fun w => ?_) (fun w => ?_)
        · exact hC _ _ _ _ (g123 q z h2 _ (fr.tr px.rd) p2 ow2 is2 (mF (fun y => w (fun v => y.2 (mvq.mp v)))))
        · exact hC _ _ _ _ (g123 q z h2 _ (fr.tr px.rd) p2 ow2 is2 (mT ⟨z, fun v => w (mvq.mpr v)⟩))
theorem sF_round (x : SC h s ρ) (hf : FH f) (fd : FDR h f ρ) (hK : ∀ h', FX s [f] h h' → SP h' s (rnd ρ) → FDR h' f (rnd ρ) → K (some (vI (nI (mvd ρ)))) h') : Spec G l (mt mF_round) [vR f, vR s] h K := by
  have gd := x.2.2.2
  have gc := gd.c
  obtain ⟨gr, lr⟩ := rnd_ok gd
  have hp : ∀ e, e < pcn ρ → 0 < spn (rnd ρ) e := fun e he => (spn_pos gr (by rw [lr.2.2.2.1]; exact he)).1
  have fin : ∀ h' O z4, FRd f s h h' → SP h' s (rnd ρ) → owR h' f (rnd ρ) O → (∀ c, c < pcc ρ → IsOw (rnd ρ) (fun e => ¬ load ρ e = 0 ∨ e < pcn ρ) c (pcn ρ) (O c)) → Go G l (mt mF_round) 135 [some (vR f), some (vR s), some (vI (nI (mvd ρ))), none, z4] [] h' 0 0 K := by
    intro h' O z4 fr sp ow is
    have x' : SC h' s (rnd ρ) := ⟨fr.cs x.1, x.2.1, sp, gr⟩
    have ow' : owR h' f (rnd ρ) (own (rnd ρ)) := ow.cg fun c hc => by
      rw [lr.cc] at hc
      unfold own
      rw [lr.2.2.2.1]
      exact ((is c hc).cg (T := fun _ => True) (fun d hd => ⟨fun _ => trivial, fun _ => Or.inr hd⟩)).uni (ow_is hp)
    refine gF_round 99 [] fun S Cu hS hC => ?_
    refine And.intro (x'.1.fob hf) (hS _ _ _ _ (sF_addUp x' hf ow' fun h2 o2 fd2 => ?_))
    refine hK h2 ?_ (o2.x.sp sp x.2.1 (x.2.1.nf hf) rfl) fd2
    have a := fr.x hf
    refine ⟨o2.1.trans a.1, o2.2.1.trans a.2.1, o2.2.2.1.trans a.2.2.1, fun k p q => ?_⟩
    have nf : grp k ≠ f := fun z => by
      rw [z] at q
      have : [f].contains f = true := by simp
      rw [this] at q; cases q
    exact ⟨(o2.2.2.2.2 k (Or.inl nf)).trans (a.i p q), by rw [o2.2.2.2.1]; exact a.l p q⟩
  refine eF_round 99 [(8, 4)] fun S Cu hS hC => ?_
  refine And.intro (x.1.fob hf) (hS _ _ _ _ (sF_wipeOwners (ρ := ρ) x.1 hf gc.1 fun h1 o1 ow1 => ?_))
  refine hC _ _ _ _ (rd1 (h0 := h) x.1 x.2.1 gd hf fd.2 (fun h' O z4 fr sp ow is => ?_) 0 (Nat.zero_le _) h1 _ o1.rd ((o1.x hf).sp x.2.2.1 x.2.1 (x.2.1.nf hf) rfl) ow1 (fun c hc => Or.inl ⟨rfl, fun d hd w => absurd w.2 (Nat.not_lt_zero d)⟩) _ _ _ rfl rfl)
  refine gF_round 99 [(68, 4)] fun S Cu hS hC => ?_
  refine hC _ _ _ _ (rd2 (h0 := h) x.1 x.2.1 gd hf fd.2 fin 0 (Nat.zero_le _) h' O fr sp ow (fun c hc => ?_) _ _ _ rfl rfl)
  exact (is c hc).cg fun d hd => ⟨fun w => Or.inl w.1, fun w => ⟨w.elim id (fun v => absurd v (Nat.not_lt_zero d)), hd⟩⟩
end CC
