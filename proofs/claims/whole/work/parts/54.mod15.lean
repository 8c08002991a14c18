/-! ===== the model: adapt ===== -/
noncomputable def adO (ρ : Pic) (d c : Nat) : Option Nat := @ite _ (own ρ c = some d) (Classical.propDecidable _) (some d) none
noncomputable def adL (ρ : Pic) (lf hi : Nat) : Nat → List Nat
  | 0 => []
  | k + 1 => if lf + (adL ρ lf hi k).length < 40 ∧ hi < load ρ k then (match (wst ρ (adO ρ k) (pcc ρ)).1 with
      | none => adL ρ lf hi k
      | some c => adL ρ lf hi k ++ [c]) else adL ρ lf hi k
theorem adL_no {ρ : Pic} {lf hi k : Nat} (h : ¬ (lf + (adL ρ lf hi k).length < 40 ∧ hi < load ρ k)) : adL ρ lf hi (k + 1) = adL ρ lf hi k := by simp only [adL]; rw [if_neg h]
theorem adL_none {ρ : Pic} {lf hi k : Nat} (h : lf + (adL ρ lf hi k).length < 40 ∧ hi < load ρ k) (e : (wst ρ (adO ρ k) (pcc ρ)).1 = none) : adL ρ lf hi (k + 1) = adL ρ lf hi k := by simp only [adL]; rw [if_pos h, e]
theorem adL_some {ρ : Pic} {lf hi k c : Nat} (h : lf + (adL ρ lf hi k).length < 40 ∧ hi < load ρ k) (e : (wst ρ (adO ρ k) (pcc ρ)).1 = some c) : adL ρ lf hi (k + 1) = adL ρ lf hi k ++ [c] := by simp only [adL]; rw [if_pos h, e]
theorem adL_full {ρ : Pic} {lf hi k : Nat} (h : 40 ≤ lf + (adL ρ lf hi k).length) : ∀ m, adL ρ lf hi (k + m) = adL ρ lf hi k
  | 0 => rfl
  | m + 1 => by
    have ih := adL_full h m
    show adL ρ lf hi (k + m + 1) = _
    rw [adL_no (fun z => by rw [ih] at z; omega), ih]
theorem adL_ok {ρ : Pic} {lf hi : Nat} (hl : lf ≤ 40) : ∀ k, lf + (adL ρ lf hi k).length ≤ 40 ∧ (adL ρ lf hi k).length ≤ k ∧ ∀ c ∈ adL ρ lf hi k, c < pcc ρ
  | 0 => ⟨hl, Nat.le_refl _, fun c hc => by cases hc⟩
  | k + 1 => by
    obtain ⟨a, b, d⟩ := adL_ok hl k
    by_cases q : lf + (adL ρ lf hi k).length < 40 ∧ hi < load ρ k
    · cases e : (wst ρ (adO ρ k) (pcc ρ)).1 with
      | none => rw [adL_none q e]; exact ⟨a, by omega, d⟩
      | some c =>
        rw [adL_some q e, List.length_append]
        refine ⟨by show _ + (_ + 1) ≤ 40; omega, by show _ + 1 ≤ _; omega, fun x hx => ?_⟩
        rcases List.mem_append.mp hx with z | z
        · exact d x z
        · have := List.mem_singleton.mp z; subst this; exact wst_lt e
    · rw [adL_no q]; exact ⟨a, by omega, d⟩
/-- dots of a kind taken, from behind -/
noncomputable def dl (P : Nat → Prop) : Nat → Pic → Pic
  | 0, π => π
  | k + 1, π => dl P k (@ite _ (P k) (Classical.propDecidable _) (delD π k) π)
theorem delD_wh {ρ : Pic} {d : Nat} : pcw (delD ρ d) = pcw ρ ∧ pch (delD ρ d) = pch ρ := ⟨delD_lo (by decide) (by decide), delD_lo (by decide) (by decide)⟩
theorem dl_ok {P : Nat → Prop} : ∀ (k : Nat) (π : Pic), Good π → k ≤ pcn π → Good (dl P k π) ∧ pcw (dl P k π) = pcw π ∧ pch (dl P k π) = pch π ∧ pcn (dl P k π) + sumN (fun d => wN (P d) 1) k = pcn π
  | 0, π, g, _ => ⟨g, rfl, rfl, rfl⟩
  | k + 1, π, g, hk => by
    simp only [dl]
    by_cases q : P k
    · rw [if_pos q]
      have n1 := @delD_n π k
      obtain ⟨a, b, c, d⟩ := dl_ok k (delD π k) (good_delD g (by omega)) (by omega)
      refine ⟨a, b.trans delD_wh.1, c.trans delD_wh.2, ?_⟩
      simp only [sumN]; rw [wN_T q]; omega
    · rw [if_neg q]
      obtain ⟨a, b, c, d⟩ := dl_ok k π g (by omega)
      refine ⟨a, b, c, ?_⟩
      simp only [sumN]; rw [wN_F q]; omega
theorem sumN_not {P : Nat → Prop} : ∀ n : Nat, sumN (fun d => wN (P d) 1) n + sumN (fun d => wN (¬ P d) 1) n = n
  | 0 => rfl
  | n + 1 => by
    have ih := sumN_not (P := P) n
    simp only [sumN]
    by_cases q : P n
    · rw [wN_T q, wN_F (fun z => z q)]; omega
    · rw [wN_F q, wN_T q]; omega
/-- dots put at cells, one behind the other -/
def adA (w : Nat) (π : Pic) (L : List Nat) : Nat → Pic
  | 0 => π
  | k + 1 => addD (adA w π L k) (L.getD k 0 % w) (L.getD k 0 / w)
theorem adA_ok {π : Pic} (g : Good π) {L : List Nat} (hn : pcn π + L.length ≤ 40) (hL : ∀ c ∈ L, c < pcc π) : ∀ k, k ≤ L.length → Good (adA (pcw π) π L k) ∧ pcw (adA (pcw π) π L k) = pcw π ∧ pch (adA (pcw π) π L k) = pch π ∧ pcn (adA (pcw π) π L k) = pcn π + k
  | 0, _ => ⟨g, rfl, rfl, rfl⟩
  | k + 1, hk => by
    obtain ⟨a, b, c, d⟩ := adA_ok g hn hL k (by omega)
    have hc : L.getD k 0 < pcc π := by
      rw [List.getD_eq_getElem?_getD, List.getElem?_eq_getElem (by omega)]
      exact hL _ (List.getElem_mem _)
    have xy := g.xy hc
    obtain ⟨e1, e2, -, -⟩ := @addD_h (adA (pcw π) π L k) (L.getD k 0 % pcw π) (L.getD k 0 / pcw π)
    refine ⟨good_addD a (by omega) (by rw [b]; exact xy.1) (by rw [c]; exact xy.2), e1.trans b, e2.trans c, ?_⟩
    show pcn (addD _ _ _) = _
    rw [addD_n, d]; omega
noncomputable def adLf (ρ : Pic) (lo : Nat) : Nat := sumN (fun d => wN (¬ load ρ d < lo) 1) (pcn ρ)
noncomputable def adpL (ρ : Pic) (lo hi : Nat) : List Nat := adL ρ (adLf ρ lo) hi (pcn ρ)
noncomputable def adp (ρ : Pic) (lo hi : Nat) : Pic := adA (pcw ρ) (dl (fun d => load ρ d < lo) (pcn ρ) ρ) (adpL ρ lo hi) (adpL ρ lo hi).length
/-- nothing would be taken or put -/
def adZ (ρ : Pic) (lo hi : Nat) : Prop := adLf ρ lo = pcn ρ ∧ (adpL ρ lo hi).length = 0
theorem getD_app {L : List Nat} {c k : Nat} : (L ++ [c]).getD k 0 = if k = L.length then c else L.getD k 0 := by
  rw [List.getD_eq_getElem?_getD, List.getD_eq_getElem?_getD]
  by_cases e : k = L.length
  · subst e; rw [if_pos rfl]; simp
  · rw [if_neg e]
    by_cases q : k < L.length
    · rw [List.getElem?_append_left q]
    · rw [List.getElem?_eq_none (by simp; omega), List.getElem?_eq_none (by omega)]
section MM
variable {G : GP} {l : Launch} {K : Option AV → AH → Prop} {h : AH} {ρ : Pic}
variable {tp : Nat → Nat} {tn : Nat} {ft fp : Int32} {pa : Nat → Pic} {an un : Nat} {sm sc : Nat → Int32} {sn : Nat} {bx : Nat → Pic} {bk : Nat → Prop}
theorem sM_truthE {q : Prop} {x : Int32} (e : x = bI q) (hK : K (some (vI (bI q))) h) : Spec G l (mt mM_truth) [vI x] h K := by
  subst e; exact sM_truth hK
theorem sM_otherActF (r : MR h tp tn ft fp ρ pa an un sm sc sn bx bk) (hK : ∀ h', Fr [136, 140] h h' → MR h' tp tn ft fp ρ (pushP pa an ρ) (pushA an) 0 sm sc 0 bx bk → K none h') : Spec G l (mt mM_otherAct) [vR 136] h K := by
  obtain ⟨p, t, a, k, b⟩ := r
  refine eM_otherAct 9 [] fun S Cu hS hC => ?_
  refine And.intro p.1.ob (hS _ _ _ _ (sM_act p a fun h' f s a' => ?_))
  have p' := p.fr f rfl
  refine ld (nI 0) p'.1.ob rfl ?_
  have f' : Fr [136, 140] h (setI h' 136 27 (nI 0)) := f.setI rfl
  have f2 : Fr [136] h' (setI h' 136 27 (nI 0)) := Fr.rf.setI rfl
  have s2 : Sc1 [27] h' (setI h' 136 27 (nI 0)) := Sc1.rf.set rfl
  have s' : Sc1 [17, 18, 27] h (setI h' 136 27 (nI 0)) := s.tr s2 rfl rfl
  exact hK _ f' ⟨p.fr f' rfl, t.fr f' s' rfl rfl, a'.fr f2 s2 rfl rfl, ⟨fun i hi => by omega, si_eq, by decide⟩, b.fr f' rfl⟩
theorem sM_adapt {x y : Int32} (r : MR h tp tn ft fp ρ pa an un sm sc sn bx bk) (h0 : ∀ h', FM h h' → MR h' tp tn ft fp ρ pa an un sm sc sn bx bk → ¬ (∃ lo hi, lo ≤ hi ∧ hi ≤ 9999 ∧ x = nI lo ∧ y = nI hi ∧ ¬ adZ ρ lo hi) → K (some (vI (-1))) h') (h1 : ∀ lo hi, lo ≤ hi → hi ≤ 9999 → x = nI lo → y = nI hi → ¬ adZ ρ lo hi → ∀ h', FM h h' → MR h' tp tn ft fp (adp ρ lo hi) (pushP pa an ρ) (pushA an) 0 sm sc 0 bx bk → K (some (vI (nI (adLf ρ lo + (adpL ρ lo hi).length)))) h') : Spec G l (mt mM_adapt) [vR 136, vI x, vI y] h K := by
  have p := r.1
  have g := p.2.2.n
  have gc := p.2.2.c
  have g0 := p.2.2
  have e1 : (Int64.ofNat 0 ≤ x.toInt64 ∧ x.toInt64 ≤ Int64.ofNat 9999) ↔ _ := isIn_lh (x := x) (lo := 0) (hi := 9999) (by decide) (by decide)
  refine eM_adapt 99 [(39, 7)] fun S Cu hS hC => ?_
  refine hS _ _ _ _ (sM_isIn ?_)
  refine brE (fun q => ?_) (fun q => ?_)
  · exact h0 h FM.rf r (fun ⟨lo, hi, a, b, c, d, _⟩ => q (e1.mpr ⟨lo, by omega, by omega, c⟩))
  obtain ⟨lo, -, hlo, rfl⟩ := e1.mp q
  have e2 : ((nI lo).toInt64 ≤ y.toInt64 ∧ y.toInt64 ≤ Int64.ofNat 9999) ↔ (∃ j, lo ≤ j ∧ j ≤ 9999 ∧ y = nI j) := by
    rw [nI_l (by omega)]; exact isIn_lh (x := y) (lo := lo) (hi := 9999) (by omega) (by decide)
  refine hS _ _ _ _ (sM_isIn ?_)
  refine brN (fun q2 => ?_) (fun q2 => ?_)
  · obtain ⟨hi, hh1, hh2, rfl⟩ := e2.mp q2
    have only : ∀ {lo' hi' : Nat}, lo' ≤ hi' → hi' ≤ 9999 → nI lo = nI lo' → nI hi = nI hi' → lo = lo' ∧ hi = hi' := fun a b c d => ⟨(nI_eq (by omega) (by omega)).mp c, (nI_eq (by omega) (by omega)).mp d⟩
    have lfl : adLf ρ lo ≤ 40 := by
      have : adLf ρ lo ≤ pcn ρ * 1 := sumN_le fun d _ => wN_le _ _
      omega
    obtain ⟨al1, al2, al3⟩ := adL_ok (ρ := ρ) (hi := hi) lfl (pcn ρ)
    have lpl : (adpL ρ lo hi).length ≤ 40 := by unfold adpL; omega
    obtain ⟨dg, dw, dh, dn⟩ := dl_ok (P := fun d => load ρ d < lo) (pcn ρ) ρ g0 (Nat.le_refl _)
    have sn2 := sumN_not (P := fun d => load ρ d < lo) (pcn ρ)
    have dn2 : pcn (dl (fun d => load ρ d < lo) (pcn ρ) ρ) = adLf ρ lo := by unfold adLf; omega
    have dc : pcc (dl (fun d => load ρ d < lo) (pcn ρ) ρ) = pcc ρ := by unfold pcc; rw [dw, dh]
    have aok := adA_ok dg (L := adpL ρ lo hi) (by rw [dn2]; unfold adpL; omega) (by rw [dc]; exact al3)
    rw [dw] at aok
    refine And.intro p.1.ob (hS _ _ _ _ (sM_laysLoads p fun hA fA eo el => ?_))
    have rA := r.scr fA rfl
    -- dots put
    have lp4 : ∀ k, k ≤ (adpL ρ lo hi).length → ∀ h1', FM h h1' → MR h1' tp tn ft fp (adA (pcw ρ) (dl (fun d => load ρ d < lo) (pcn ρ) ρ) (adpL ρ lo hi) k) (pushP pa an ρ) (pushA an) 0 sm sc 0 bx bk → ¬ adZ ρ lo hi → (∀ i, i < (adpL ρ lo hi).length → hI h1' 149 i = nI ((adpL ρ lo hi).getD i 0)) → ∀ a b i, b = nI (adpL ρ lo hi).length → i = nI k → ∀ z6, Go G l (mt mM_adapt) 236 [some (vR 136), some (vI (nI lo)), some (vI (nI hi)), some (vI a), some (vI b), some (vI i), z6] [] h1' 0 0 K := by
      refine upto _ ?_
      intro k hk ih h1' f1 r1 nz e149 a b i hb hi z6
      subst hi; subst hb
      have p1 := r1.1
      obtain ⟨a1, a2, a3, a4⟩ := aok k hk
      refine gM_adapt 99 [(236, 7)] fun S Cu hS hC => ?_
      refine pk_le (adpL ρ lo hi).length k (fun q3 => ?_) (fun q3 => ?_)
      · obtain rfl : k = (adpL ρ lo hi).length := by omega
        refine And.intro p1.1.ob (hS _ _ _ _ (sM_dots p1 ?_))
        rw [a4, dn2]
        exact h1 lo hi hh1 hh2 rfl rfl nz h1' f1 r1
      · have hc : (adpL ρ lo hi).getD k 0 < pcc ρ := by
          rw [List.getD_eq_getElem?_getD, List.getElem?_eq_getElem (by omega)]
          exact al3 _ (List.getElem_mem _)
        have xy := g0.xy hc
        refine ld 149 p1.1.ob (p1.1.2.2 29) ?_
        refine ld _ (p1.1.inA (j := k) rfl rfl rfl rfl (by omega) rfl) (rdA rfl (by omega) (e149 k q3)) ?_
        refine And.intro p1.1.ob (hS _ _ _ _ (sM_wide p1 ?_))
        rw [a2]
        refine And.intro (nI_ne0 (by omega) (by omega)) ?_
        refine ld 149 p1.1.ob (p1.1.2.2 29) ?_
        refine ld _ (p1.1.inA (j := k) rfl rfl rfl rfl (by omega) rfl) (rdA rfl (by omega) (e149 k q3)) ?_
        refine And.intro p1.1.ob (hS _ _ _ _ (sM_wide p1 ?_))
        rw [a2]
        refine And.intro (nI_ne0 (by omega) (by omega)) ?_
        refine And.intro p1.1.ob (hS _ _ _ _ (sM_comes p1.1 p1.2.1 (pk_rem (by omega) (by omega) (by omega)) (pk_div (by omega) (by omega) (by omega)) (by rw [a4, dn2]; unfold adpL at q3; omega) (by omega) (by omega) fun h2 f2 e2 => ?_))
        refine hC _ _ _ _ (ih q3 h2 (f1.tr (f2.m rfl)) (r1.row f2 e2 (aok (k + 1) (by omega)).1) nz (fun i hi => by rw [f2.i rfl]; exact e149 i hi) _ _ _ rfl (nI_1 k) _)
    -- dots taken
    have lp3 : ∀ k, k ≤ pcn ρ → ∀ (π : Pic) (h1' : AH), k ≤ pcn π → dl (fun d => load ρ d < lo) k π = dl (fun d => load ρ d < lo) (pcn ρ) ρ → FM h h1' → MR h1' tp tn ft fp π (pushP pa an ρ) (pushA an) 0 sm sc 0 bx bk → ¬ adZ ρ lo hi → (∀ i, i < (adpL ρ lo hi).length → hI h1' 149 i = nI ((adpL ρ lo hi).getD i 0)) → (∀ d, d < pcn ρ → hI h1' 148 d = bI (load ρ d < lo)) → ∀ a b i, b = nI (adpL ρ lo hi).length → i = nI k - 1 → ∀ z6, Go G l (mt mM_adapt) 206 [some (vR 136), some (vI (nI lo)), some (vI (nI hi)), some (vI a), some (vI b), some (vI i), z6] [] h1' 0 0 K := by
      intro k
      induction k with
      | zero =>
        intro hk π h1' hπ eπ f1 r1 nz e149 e148 a b i hb hi z6
        subst hi
        refine gM_adapt 99 [(236, 7)] fun S Cu hS hC => ?_
        refine And.intro (fun _ => ?_) (fun z => absurd (by decide) z)
        have eπ : π = dl (fun d => load ρ d < lo) (pcn ρ) ρ := eπ
        subst eπ
        exact hC _ _ _ _ (lp4 0 (by omega) h1' f1 r1 nz e149 _ _ _ hb rfl _)
      | succ k ih =>
        intro hk π h1' hπ eπ f1 r1 nz e149 e148 a b i hb hi z6
        rw [nI_pred] at hi
        subst hi
        have p1 := r1.1
        refine gM_adapt 99 [(206, 7)] fun S Cu hS hC => ?_
        refine And.intro (fun z => absurd z (nI_pos (by omega))) (fun _ => ?_)
        refine ld 148 p1.1.ob (p1.1.2.2 28) ?_
        refine ld _ (p1.1.inA (j := k) rfl rfl rfl rfl (by omega) rfl) (rdA rfl (by omega) (e148 k (by omega))) ?_
        have em : nI k + (-1) = nI k - 1 := by rw [Int32.sub_eq_add_neg]
        refine brE (fun z => ?_) (fun z => ?_)
        · simp only [dl] at eπ
          rw [if_neg z] at eπ
          exact hC _ _ _ _ (ih (by omega) π h1' (by omega) eπ f1 r1 nz e149 e148 _ _ _ hb em _)
        · simp only [dl] at eπ
          rw [if_pos z] at eπ
          refine And.intro p1.1.ob (hS _ _ _ _ (sM_goes p1 rfl (by omega) fun h2 f2 e2 => ?_))
          exact hC _ _ _ _ (ih (by omega) (delD π k) h2 (by rw [delD_n]; omega) eπ (f1.tr (f2.m rfl)) (r1.row f2 e2 (good_delD p1.2.2 (by omega))) nz (fun i hi => by rw [f2.i rfl]; exact e149 i hi) (fun d hd => by rw [f2.i rfl]; exact e148 d hd) _ _ _ hb em _)
    -- behind the plan
    have endp : ∀ h1', Fr [141, 142, 148, 149] h h1' → (∀ i, i < (adpL ρ lo hi).length → hI h1' 149 i = nI ((adpL ρ lo hi).getD i 0)) → (∀ d, d < pcn ρ → hI h1' 148 d = bI (load ρ d < lo)) → ∀ a b, a = nI (adLf ρ lo) → b = nI (adpL ρ lo hi).length → ∀ z5 z6, Go G l (mt mM_adapt) 179 [some (vR 136), some (vI (nI lo)), some (vI (nI hi)), some (vI a), some (vI b), z5, z6] [] h1' 0 0 K := by
      intro h1' f1 e149 e148 a b ha hb z5 z6
      have r1 := r.scr f1 rfl
      have p1 := r1.1
      have go : ¬ adZ ρ lo hi → ∀ z5 z6, Go G l (mt mM_adapt) 194 [some (vR 136), some (vI (nI lo)), some (vI (nI hi)), some (vI a), some (vI b), z5, z6] [] h1' 0 0 K := by
        intro nz z5 z6
        refine gM_adapt 99 [(206, 7)] fun S Cu hS hC => ?_
        refine And.intro p1.1.ob (hS _ _ _ _ (sM_otherActF r1 fun h2 f2 r2 => ?_))
        refine And.intro r2.1.1.ob (hS _ _ _ _ (sM_dots r2.1 ?_))
        exact hC _ _ _ _ (lp3 (pcn ρ) (Nat.le_refl _) ρ h2 (Nat.le_refl _) rfl ((f1.m rfl).tr (f2.m rfl)) r2 nz (fun i hi => by rw [f2.i rfl]; exact e149 i hi) (fun d hd => by rw [f2.i rfl]; exact e148 d hd) _ _ _ hb rfl _)
      refine gM_adapt 99 [(194, 7)] fun S Cu hS hC => ?_
      refine And.intro p1.1.ob (hS _ _ _ _ (sM_dots p1 ?_))
      subst ha; subst hb
      refine And.intro (fun z => ?_) (fun z => ?_)
      · exact hC _ _ _ _ (go (fun y => z (by rw [y.1])) _ _)
      · have z := (nI_eq (by omega) (by omega)).mp z
        refine And.intro (fun z2 => ?_) (fun z2 => ?_)
        · exact hC _ _ _ _ (go (fun y => z2 (by rw [y.2]; rfl)) _ _)
        · have z2 := (nI_eq (b := 0) (by omega) (by decide)).mp z2
          refine h0 h1' (f1.m rfl) r1 (fun ⟨lo', hi', a, b, c, d, e⟩ => e ?_)
          obtain ⟨rfl, rfl⟩ := only a b c d
          exact ⟨z, z2⟩
    -- the plan
    have lp2 : ∀ k, k ≤ pcn ρ → ∀ h1', Fr [141, 142, 148, 149] h h1' → (∀ c, c < pcc ρ → hI h1' 141 c = oI (own ρ c)) → (∀ d, d < pcn ρ → hI h1' 142 d = nI (load ρ d)) → (∀ d, d < pcn ρ → hI h1' 148 d = bI (load ρ d < lo)) → (∀ i, i < (adL ρ (adLf ρ lo) hi k).length → hI h1' 149 i = nI ((adL ρ (adLf ρ lo) hi k).getD i 0)) → ∀ a b i, a = nI (adLf ρ lo) → b = nI (adL ρ (adLf ρ lo) hi k).length → i = nI k → ∀ z6, Go G l (mt mM_adapt) 101 [some (vR 136), some (vI (nI lo)), some (vI (nI hi)), some (vI a), some (vI b), some (vI i), z6] [] h1' 0 0 K := by
      refine upto _ ?_
      intro k hk ih h1' f1 eo1 el1 e148 e149 a b i ha hb hi z6
      subst hi
      have p1 := (r.scr f1 rfl).1
      obtain ⟨bl1, bl2, bl3⟩ := adL_ok (ρ := ρ) (hi := hi) lfl k
      refine gM_adapt 99 [(101, 7), (179, 7), (150, 7)] fun S Cu hS hC => ?_
      refine And.intro p1.1.ob (hS _ _ _ _ (sM_dots p1 ?_))
      refine pk_le (pcn ρ) k (fun q3 => ?_) (fun q3 => ?_)
      · obtain rfl : k = pcn ρ := by omega
        exact hC _ _ _ _ (endp h1' f1 e149 e148 _ _ ha hb _ _)
      refine pk_le 40 (adLf ρ lo + (adL ρ (adLf ρ lo) hi k).length) (fun q4 => ?_) (fun q4 => ?_) rfl (by rw [ha, hb, nI_add])
      · have e : adpL ρ lo hi = adL ρ (adLf ρ lo) hi k := by
          have := adL_full q4 (pcn ρ - k)
          rw [show k + (pcn ρ - k) = pcn ρ by omega] at this
          exact this
        exact hC _ _ _ _ (endp h1' f1 (by rw [e]; exact e149) e148 _ _ ha (by rw [e]; exact hb) _ _)
      have ll := load_le g0 k
      -- behind the choice
      have fin : ∀ o : Option Nat, ((o = none ∧ adL ρ (adLf ρ lo) hi (k + 1) = adL ρ (adLf ρ lo) hi k) ∨ (∃ c, o = some c ∧ c < pcc ρ ∧ adL ρ (adLf ρ lo) hi (k + 1) = adL ρ (adLf ρ lo) hi k ++ [c])) → ∀ z6, Go G l (mt mM_adapt) 150 [some (vR 136), some (vI (nI lo)), some (vI (nI hi)), some (vI a), some (vI b), some (vI (nI k)), z6] [vI (oI o)] h1' 0 0 K := by
        intro o ho z6
        refine gM_adapt 99 [(101, 7)] fun S Cu hS hC => ?_
        rcases ho with ⟨rfl, e⟩ | ⟨c, rfl, hc, e⟩
        · refine And.intro (fun z => absurd rfl z) (fun _ => ?_)
          exact hC _ _ _ _ (ih q3 h1' f1 eo1 el1 e148 (by rw [e]; exact e149) _ _ _ ha (by rw [e]; exact hb) (nI_1 k) _)
        · refine And.intro (fun _ => ?_) (fun z => absurd z (nI_m1 (by omega)))
          refine ld 149 p1.1.ob (p1.1.2.2 29) ?_
          refine sw (adL ρ (adLf ρ lo) hi k).length (nI c) (p1.1.inA (j := (adL ρ (adLf ρ lo) hi k).length) rfl rfl rfl hb (by omega) rfl) (ix_of hb (by omega)) rfl ?_
          refine hC _ _ _ _ (ih q3 _ (f1.setI rfl) (fun c hc => by rw [si_nk rfl]; exact eo1 c hc) (fun d hd => by rw [si_nk rfl]; exact el1 d hd) (fun d hd => by rw [si_nk rfl]; exact e148 d hd) (fun i hi' => ?_) _ _ _ ha ?_ (nI_1 k) _)
          · rw [e, getD_app]
            rw [e, List.length_append] at hi'
            by_cases ee : i = (adL ρ (adLf ρ lo) hi k).length
            · rw [if_pos ee, ee, si_eq]
            · rw [if_neg ee, si_ne ee]; exact e149 i (by have hi' : i < (adL ρ (adLf ρ lo) hi k).length + 1 := hi'; omega)
          · rw [e, List.length_append, hb]; exact nI_1 _
      refine ld 148 p1.1.ob (p1.1.2.2 28) ?_
      refine ld _ (p1.1.inA (j := k) rfl rfl rfl rfl (by omega) rfl) (rdA rfl (by omega) (e148 k q3)) ?_
      refine brN (fun z => ?_) (fun z => ?_)
      · exact hC _ _ _ _ (fin none (Or.inl ⟨rfl, adL_no (by omega)⟩) _)
      refine ld 142 p1.1.ob (p1.1.2.2 20) ?_
      refine ld _ (p1.1.inA (j := k) rfl rfl rfl rfl (by omega) rfl) (rdA rfl (by omega) (el1 k q3)) ?_
      refine pk_le (load ρ k) hi (fun z2 => ?_) (fun z2 => ?_)
      · exact hC _ _ _ _ (fin none (Or.inl ⟨rfl, adL_no (by omega)⟩) _)
      refine And.intro p1.1.ob (hS _ _ _ _ (sM_dearest (O := adO ρ k) p1 (fun c d e => ?_) (Or.inr ⟨k, q3, rfl, fun c hc => ?_⟩) ?_))
      · unfold adO at e
        by_cases y : own ρ c = some k
        · rw [if_pos y] at e; injection e with e; omega
        · rw [if_neg y] at e; cases e
      · rw [eo1 c hc]
        have eo2 := own_oI g0 (c := c) (show k < 2 ^ 31 by omega)
        unfold adO
        by_cases y : own ρ c = some k
        · exact Or.inl ⟨eo2.mpr y, if_pos y⟩
        · exact Or.inr ⟨fun v => y (eo2.mp v), if_neg y⟩
      · cases e : (wst ρ (adO ρ k) (pcc ρ)).1 with
        | none => exact hC _ _ _ _ (fin none (Or.inl ⟨rfl, adL_none ⟨by omega, z2⟩ e⟩) _)
        | some c => exact hC _ _ _ _ (fin (some c) (Or.inr ⟨c, rfl, wst_lt e, adL_some ⟨by omega, z2⟩ e⟩) _)
    -- who goes
    have lp1 : ∀ k, k ≤ pcn ρ → ∀ h1', Fr [141, 142, 148, 149] h h1' → (∀ c, c < pcc ρ → hI h1' 141 c = oI (own ρ c)) → (∀ d, d < pcn ρ → hI h1' 142 d = nI (load ρ d)) → (∀ d, d < k → hI h1' 148 d = bI (load ρ d < lo)) → ∀ a i, a = nI (sumN (fun d => wN (¬ load ρ d < lo) 1) k) → i = nI k → ∀ z6, Go G l (mt mM_adapt) 39 [some (vR 136), some (vI (nI lo)), some (vI (nI hi)), some (vI a), some (vI (nI 0)), some (vI i), z6] [] h1' 0 0 K := by
      refine upto _ ?_
      intro k hk ih h1' f1 eo1 el1 e148 a i ha hi z6
      subst hi
      have p1 := (r.scr f1 rfl).1
      refine gM_adapt 99 [(101, 7), (70, 7)] fun S Cu hS hC => ?_
      refine And.intro p1.1.ob (hS _ _ _ _ (sM_dots p1 ?_))
      refine pk_le (pcn ρ) k (fun q3 => ?_) (fun q3 => ?_)
      · obtain rfl : k = pcn ρ := by omega
        exact hC _ _ _ _ (lp2 0 (by omega) h1' f1 eo1 el1 e148 (fun i hi => by cases hi) _ _ _ ha rfl rfl _)
      have ll := load_le g0 k
      have fin : ∀ w, w = bI (load ρ k < lo) → ∀ z6, Go G l (mt mM_adapt) 70 [some (vR 136), some (vI (nI lo)), some (vI (nI hi)), some (vI a), some (vI (nI 0)), some (vI (nI k)), z6] [vI w, vI (nI k), vR 148] h1' 0 0 K := by
        intro w hw z6
        subst hw
        refine gM_adapt 99 [(39, 7)] fun S Cu hS hC => ?_
        refine sw k (bI (load ρ k < lo)) ⟨p1.1.inA (j := k) rfl rfl rfl rfl (by omega) rfl, bI_01 _⟩ (ix_nI (by omega)) rfl ?_
        refine ld 148 p1.1.ob (p1.1.2.2 28) ?_
        refine ld (bI (load ρ k < lo)) (p1.1.inA (j := k) rfl rfl rfl rfl (by omega) rfl) (rdA rfl (by omega) si_eq) ?_
        have nxt : ∀ v, v = bI (¬ load ρ k < lo) → a + v = nI (sumN (fun d => wN (¬ load ρ d < lo) 1) (k + 1)) := by
          intro v hv
          rw [hv, ha, bI_wN, nI_add]; rfl
        have e148' : ∀ d, d < k + 1 → hI (setI h1' 148 k (bI (load ρ k < lo))) 148 d = bI (load ρ d < lo) := by
          intro d hd
          by_cases e : d = k
          · subst e; exact si_eq
          · rw [si_ne e]; exact e148 d (by omega)
        refine brN (fun z => ?_) (fun z => ?_)
        · refine hS _ _ _ _ (sM_truthE (q := ¬ load ρ k < lo) (bI_F (fun y => y z)).symm ?_)
          exact hC _ _ _ _ (ih q3 _ (f1.setI rfl) (fun c hc => by rw [si_nk rfl]; exact eo1 c hc) (fun d hd => by rw [si_nk rfl]; exact el1 d hd) e148' _ _ (nxt _ rfl) (nI_1 k) _)
        · refine hS _ _ _ _ (sM_truthE (q := ¬ load ρ k < lo) (bI_T z).symm ?_)
          exact hC _ _ _ _ (ih q3 _ (f1.setI rfl) (fun c hc => by rw [si_nk rfl]; exact eo1 c hc) (fun d hd => by rw [si_nk rfl]; exact el1 d hd) e148' _ _ (nxt _ rfl) (nI_1 k) _)
      refine ld 148 p1.1.ob (p1.1.2.2 28) ?_
      refine ld 142 p1.1.ob (p1.1.2.2 20) ?_
      refine ld _ (p1.1.inA (j := k) rfl rfl rfl rfl (by omega) rfl) (rdA rfl (by omega) (el1 k q3)) ?_
      refine pk_le lo (load ρ k) (fun z => ?_) (fun z => ?_)
      · exact hC _ _ _ _ (fin _ (bI_F (by omega)).symm _)
      · exact hC _ _ _ _ (fin _ (bI_T z).symm _)
    exact hC _ _ _ _ (lp1 0 (by omega) hA (fA.tr (M := []) Fr.rf rfl rfl) eo el (fun d hd => by omega) _ _ rfl rfl _)
  · refine h0 h FM.rf r (fun ⟨lo', hi', a, b, c, d, e⟩ => q2 (e2.mpr ⟨hi', ?_, b, d⟩))
    have := (nI_eq (by omega) (by omega)).mp c
    omega
end MM
