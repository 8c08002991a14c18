/-! ===== the class: a field added up; a survey ===== -/
theorem IsOw.cg {ρ : Pic} {S T : Nat → Prop} {c n : Nat} {o : Option Nat} (h : IsOw ρ S c n o) (e : ∀ d, d < n → (S d ↔ T d)) : IsOw ρ T c n o := by
  rcases h with ⟨a, b⟩ | ⟨b, a, hb, sb, h⟩
  · exact Or.inl ⟨a, fun d hd z => b d hd ((e d hd).mpr z)⟩
  · exact Or.inr ⟨b, a, hb, (e b hb).mp sb, fun d hd z => h d hd ((e d hd).mpr z)⟩
theorem IsOw.lt {ρ : Pic} {S : Nat → Prop} {c n b : Nat} (h : IsOw ρ S c n (some b)) : b < n ∧ S b := by
  rcases h with ⟨a, _⟩ | ⟨b', a, hb, sb, _⟩
  · cases a
  · injection a with a; subst a; exact ⟨hb, sb⟩
theorem owR.cg {h : AH} {f : Nat} {ρ : Pic} {O P : Nat → Option Nat} (o : owR h f ρ O) (e : ∀ c, c < pcc ρ → O c = P c) : owR h f ρ P := fun c hc => by rw [← e c hc]; exact o c hc
section CC
variable {G : GP} {l : Launch} {K : Option AV → AH → Prop} {h : AH} {ρ : Pic}
variable {s f : Nat}
theorem sF_addUp (x : SC h s ρ) (hf : FH f) (ho : owR h f ρ (own ρ)) (hK : ∀ h', FA f h h' → FDR h' f ρ → K none h') : Spec G l (mt mF_addUp) [vR f, vR s] h K := by
  have g := x.2.2.2.n
  have gc := x.2.2.2.c
  have A := hf.a
  have B := hf.b
  have hx : ∀ h', FA f h h' → SC h' s ρ := fun h' o => o.x.sc x (x.2.1.nf hf) rfl
  have out : ∀ y, y ≤ pch ρ → ∀ h', FA f h h' → AU h' f ρ (pcw ρ * y) → ∀ n yy z4, n = nI (pcw ρ * y) → yy = nI y → Go G l (mt mF_addUp) 49 [some (vR f), some (vR s), some (vI n), some (vI yy), z4] [] h' 0 0 K := by
    refine upto _ ?_
    intro y hy ih h' o au n yy z4 hn hyy
    subst hn; subst hyy
    have inn : y < pch ρ → ∀ m, m ≤ pcw ρ → ∀ h', FA f h h' → AU h' f ρ (pcw ρ * y + m) → ∀ n xx, n = nI (pcw ρ * y + m) → xx = nI m → Go G l (mt mF_addUp) 60 [some (vR f), some (vR s), some (vI n), some (vI (nI y)), some (vI xx)] [] h' 0 0 K := by
      intro hy2
      refine upto _ ?_
      intro m hm ih2 h' o au n xx hn hxx
      subst hn; subst hxx
      have x' := hx h' o
      refine gF_addUp 99 [(49, 4), (60, 5)] fun S Cu hS hC => ?_
      refine ld _ x'.ob x'.2.2.1.1.1 ?_
      refine pk_le (pcw ρ) m (fun q => ?_) (fun q => ?_)
      · obtain rfl : m = pcw ρ := by omega
        exact hC _ _ _ _ (ih hy2 h' o (by rw [Nat.mul_succ]; exact au) _ _ _ (by rw [Nat.mul_succ]) (nI_1 y))
      · obtain ⟨c1, c2, c3⟩ := cel_lt (ρ := ρ) q hy2
        refine ld _ x'.ob x'.r4 ?_
        refine ld _ (x'.inW rfl (by omega)) (x'.W rfl c1) ?_
        refine And.intro (x'.1.fob hf) (hS _ _ _ _ (sF_addCell (c := pcw ρ * y + m) x'.1 hf x.2.2.2 rfl (by rw [c2]) (by rw [c3]) rfl c1 (o.ow ho) au fun h2 o2 au2 => ?_))
        exact hC _ _ _ _ (ih2 q h2 (o.tr o2) au2 _ _ (nI_1 _) (nI_1 m))
    have x' := hx h' o
    refine gF_addUp 99 [(60, 5)] fun S Cu hS hC => ?_
    refine ld _ x'.ob x'.2.2.1.1.2.1 ?_
    refine pk_le (pch ρ) y (fun q => ?_) (fun q => ?_)
    · obtain rfl : y = pch ρ := by omega
      exact hK h' o ⟨o.ow ho, au⟩
    · exact hC _ _ _ _ (inn q 0 (by omega) h' o au _ _ rfl rfl)
  have ar : ∀ {h' : AH}, FA f h h' → ∀ {i t n : Nat}, 1 ≤ i → i ≤ 9 → shp (f + i) = .inr (t, n) → Ar h' (f + i) t n := fun {h'} a {i t n} h1 h2 e => ⟨by omega, by rw [a.1, x.1.1]; omega, by rw [a.2.1, x.1.2.1]; exact e⟩
  refine eF_addUp 99 [(49, 4)] fun S Cu hS hC => ?_
  refine ld (nI 0) (x.1.fob hf) rfl ?_
  have o0 : FA f h (setI h f 9 (nI 0)) := FA.rf.setI hf (i := 0) (by decide) (by decide)
  refine ld (f + 5) (o0.x.cs x.1 |>.fob hf) (o0.x.cs x.1 |>.fr hf (by decide)) ?_
  refine hS _ _ _ _ (sJ_fillI (n := 40) (ar o0 (by decide) (by decide) A.2.2.2.2.2.1) (by decide) fun h1 f1 v1 => ?_)
  have o1 := o0.f1 hf f1 (by decide) (by decide)
  refine ld (f + 6) (o1.x.cs x.1 |>.fob hf) (o1.x.cs x.1 |>.fr hf (by decide)) ?_
  refine hS _ _ _ _ (sJ_fillI (n := 40) (ar o1 (by decide) (by decide) A.2.2.2.2.2.2.1) (by decide) fun h2 f2 v2 => ?_)
  have o2 := o1.f1 hf f2 (by decide) (by decide)
  refine ld (f + 7) (o2.x.cs x.1 |>.fob hf) (o2.x.cs x.1 |>.fr hf (by decide)) ?_
  refine hS _ _ _ _ (sJ_fillI (n := 40) (ar o2 (by decide) (by decide) A.2.2.2.2.2.2.2.1) (by decide) fun h3 f3 v3 => ?_)
  have o3 := o2.f1 hf f3 (by decide) (by decide)
  refine ld (f + 8) (o3.x.cs x.1 |>.fob hf) (o3.x.cs x.1 |>.fr hf (by decide)) ?_
  refine hS _ _ _ _ (sJ_fillI (n := 40) (ar o3 (by decide) (by decide) A.2.2.2.2.2.2.2.2.1) (by decide) fun h4 f4 v4 => ?_)
  have o4 := o3.f1 hf f4 (by decide) (by decide)
  refine ld (f + 9) (o4.x.cs x.1 |>.fob hf) (o4.x.cs x.1 |>.fr hf (by decide)) ?_
  refine hS _ _ _ _ (sJ_fillI (n := 40) (ar o4 (by decide) (by decide) A.2.2.2.2.2.2.2.2.2) (by decide) fun h5 f5 v5 => ?_)
  have o5 := o4.f1 hf f5 (by decide) (by decide)
  refine hC _ _ _ _ (out 0 (by omega) h5 o5 ⟨fun c hc => absurd hc (Nat.not_lt_zero c), fun d hd => ⟨?_, ?_, ?_, ?_, ?_⟩, ?_⟩ _ _ _ rfl rfl)
  · rw [f5.2.2.2.2 _ (by omega), f4.2.2.2.2 _ (by omega), f3.2.2.2.2 _ (by omega), f2.2.2.2.2 _ (by omega)]; exact v1 d hd
  · rw [f5.2.2.2.2 _ (by omega), f4.2.2.2.2 _ (by omega), f3.2.2.2.2 _ (by omega)]; exact v2 d hd
  · rw [f5.2.2.2.2 _ (by omega), f4.2.2.2.2 _ (by omega)]; exact v3 d hd
  · rw [f5.2.2.2.2 _ (by omega)]; exact v4 d hd
  · exact v5 d hd
  · rw [f5.2.2.2.2 _ (by omega), f4.2.2.2.2 _ (by omega), f3.2.2.2.2 _ (by omega), f2.2.2.2.2 _ (by omega), f1.2.2.2.2 _ (by omega), si_eq]; rfl
theorem sF_survey (x : SC h s ρ) (hf : FH f) (hK : ∀ h', FX f [] h h' → FDR h' f ρ → K none h') : Spec G l (mt mF_survey) [vR f, vR s] h K := by
  have g := x.2.2.2.n
  have gc := x.2.2.2.c
  have hp : ∀ e, e < pcn ρ → 0 < spn ρ e := fun e he => (spn_pos x.2.2.2 he).1
  have lp : ∀ k, k ≤ pcn ρ → ∀ h', FO f h h' → ∀ O, owR h' f ρ O → (∀ c, c < pcc ρ → IsOw ρ (fun e => e < k) c (pcn ρ) (O c)) → ∀ i, i = nI k → Go G l (mt mF_survey) 6 [some (vR f), some (vR s), some (vI i)] [] h' 0 0 K := by
    refine upto _ ?_
    intro k hk ih h' o O ow is i hi
    subst hi
    have x' : SC h' s ρ := (o.x hf).sc x (x.2.1.nf hf) rfl
    refine gF_survey 99 [(6, 3)] fun S Cu hS hC => ?_
    refine ld _ x'.ob x'.2.2.1.1.2.2.1 ?_
    refine pk_le (pcn ρ) k (fun q => ?_) (fun q => ?_)
    · obtain rfl : k = pcn ρ := by omega
      have ow' : owR h' f ρ (own ρ) := ow.cg fun c hc => ((is c hc).cg (T := fun _ => True) (fun d hd => ⟨fun _ => trivial, fun _ => hd⟩)).uni (ow_is hp)
      refine And.intro (x'.1.fob hf) (hS _ _ _ _ (sF_addUp x' hf ow' fun h2 o2 fd => ?_))
      exact hK h2 ((o.x hf).tr o2.x rfl rfl) fd
    · refine And.intro (x'.1.fob hf) (hS _ _ _ _ (sF_offer x' hf rfl q ow (fun c b hc e => by have := is c hc; rw [e] at this; exact this.lt.1) fun h2 o2 ow2 => ?_))
      refine hC _ _ _ _ (ih q h2 (o.tr o2) _ ow2 (fun c hc => ?_) _ (nI_1 k))
      exact (ofr_is hp q (is c hc)).cg (fun d hd => by omega)
  refine eF_survey 19 [(6, 3)] fun S Cu hS hC => ?_
  refine And.intro (x.1.fob hf) (hS _ _ _ _ (sF_wipeOwners (ρ := ρ) x.1 hf gc.1 fun h1 o1 ow1 => ?_))
  exact hC _ _ _ _ (lp 0 (by omega) h1 o1 _ ow1 (fun c hc => Or.inl ⟨rfl, fun d hd z => absurd z (Nat.not_lt_zero d)⟩) _ rfl)
end CC
