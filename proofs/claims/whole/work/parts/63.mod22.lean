/-! ===== the model's reader: lines, picture ===== -/
def RGd (h : AH) (t : Nat → Nat) (L e : Nat) : Prop := RB h t L ∧ hI h 136 9 = nI 0 ∧ hI h 136 10 = -1 ∧ RT h t (tok t L e) ∧ e ≤ L
def RFl (h : AH) (t : Nat → Nat) (L : Nat) (q : Nat × Nat) : Prop := RB h t L ∧ hI h 136 9 = nI q.1 ∧ (1 ≤ q.1 ∧ q.1 ≤ 4) ∧ hI h 136 10 = nI q.2
def RW (h : AH) (π : Pic) (w : Nat) : Prop := (∀ k, k < 524 → hI h 139 k = nI (π k)) ∧ hI h 136 15 = nI w
theorem RW.fr {h h' : AH} {π : Pic} {w : Nat} {F M : List Nat} (r : RW h π w) (f : Fr F h h') (s : Sc1 M h h') (h1 : F.contains 139 = false) (h2 : M.contains 15 = false) : RW h' π w := by
  refine ⟨fun i hi => ?_, (s 15 h2).trans r.2⟩
  rw [f.i h1]; exact r.1 i hi
theorem RW.set {h : AH} {π : Pic} {w j v : Nat} (r : RW h π w) : RW (setI h 139 j (nI v)) (pu π j v) w := by
  refine ⟨fun i hi => ?_, by rw [si_nk rfl]; exact r.2⟩
  by_cases e : i = j
  · rw [e, si_eq, pu_eq]
  · rw [si_ne e, pu_ne e]; exact r.1 i hi
theorem RGd.st {h : AH} {t : Nat → Nat} {L e j : Nat} {v : Int32} (r : RGd h t L e) : RGd (setI h 139 j v) t L e := by
  obtain ⟨a, b, c, d, f⟩ := r
  refine ⟨a.fr (F := [139]) (M := []) (Fr.rf.setI rfl) (Sc1.rf.oth rfl) rfl rfl, by rw [si_nk rfl]; exact b, by rw [si_nk rfl]; exact c, ?_, f⟩
  unfold RT; rw [si_nk rfl]; exact d
theorem RFl.st {h : AH} {t : Nat → Nat} {L j : Nat} {q : Nat × Nat} {v : Int32} (r : RFl h t L q) : RFl (setI h 139 j v) t L q := by
  obtain ⟨a, b, c, d⟩ := r
  exact ⟨a.fr (F := [139]) (M := []) (Fr.rf.setI rfl) (Sc1.rf.oth rfl) rfl rfl, by rw [si_nk rfl]; exact b, c, by rw [si_nk rfl]; exact d⟩
theorem fau_ok {T : TK} {k : Nat} (h : 1 ≤ k ∧ k ≤ 4) : 1 ≤ (fau T k).1 ∧ (fau T k).1 ≤ 4 := by
  show 1 ≤ (if T.1 = 4 then 1 else k) ∧ (if T.1 = 4 then 1 else k) ≤ 4
  split <;> omega
theorem rowP_0 {t : Nat → Nat} {π : Pic} {w s : Nat} : rowP t π w s 0 = π := by
  funext j; unfold rowP; rw [if_neg (by omega)]
theorem rowP_s {t : Nat → Nat} {π : Pic} {w s k : Nat} : rowP t π w s (k + 1) = pu (rowP t π w s k) (4 + pcw π * w + k) (t (s + k) - 48) := by
  funext j; unfold pu rowP
  generalize pcw π * w = z
  by_cases e : j = 4 + z + k
  · rw [if_pos (by omega), if_pos e, show j - (4 + z) = k by omega]
  · rw [if_neg e]
    by_cases q : 4 + z ≤ j ∧ j < 4 + z + k
    · rw [if_pos q, if_pos (by omega)]
    · rw [if_neg q, if_neg (by omega)]
section MM
variable {G : GP} {l : Launch} {K : Option AV → AH → Prop} {h : AH} {ρ : Pic}
variable {t : Nat → Nat} {L e : Nat}
theorem sM_goG (r : RGd h t L e) (hK : ∀ h', Fr [136] h h' → Sc1 [4, 5, 6, 7, 8] h h' → RGd h' t L (tok t L e).2.2 → K none h') : Spec G l (mt mM_goOn) [vR 136] h K := by
  have s := tok_sp (t := t) r.2.2.2.2
  exact sM_goOn r.1 r.2.2.2.1.2.2.2.1 s.2.2.1 fun h' f g q => hK h' f g ⟨r.1.fr f g rfl rfl, (g 9 rfl).trans r.2.1, (g 10 rfl).trans r.2.2.1, q, s.2.2.1⟩
theorem sM_wrong {x : Int32} {k : Nat} (r : RGd h t L e) (hx : x = nI k) (hk : 1 ≤ k ∧ k ≤ 4) (hK : ∀ h', Fr [136] h h' → Sc1 [9, 10] h h' → RFl h' t L (fau (tok t L e) k) → K none h') : Spec G l (mt mM_wrong) [vR 136, vI x] h K := by
  subst hx
  obtain ⟨rb, r9, r10, rt, re⟩ := r
  have s := tok_sp (t := t) re
  have fin : K none (setI (setI h 136 9 (nI (fau (tok t L e) k).1)) 136 10 (nI (tok t L e).2.1)) := by
    have f : Fr [136] h (setI (setI h 136 9 (nI (fau (tok t L e) k).1)) 136 10 (nI (tok t L e).2.1)) := (Fr.rf.setI rfl).setI rfl
    have g : Sc1 [9, 10] h (setI (setI h 136 9 (nI (fau (tok t L e) k).1)) 136 10 (nI (tok t L e).2.1)) := (Sc1.rf.set rfl).set rfl
    exact hK _ f g ⟨rb.fr f g rfl rfl, by rw [si_ne (by decide), si_eq], fau_ok hk, si_eq⟩
  refine eM_wrong 59 [] fun S Cu hS hC => ?_
  refine ld (nI 0) rb.1.ob r9 ?_
  refine And.intro (fun _ => ?_) (fun z => absurd (by decide) z)
  by_cases q : (tok t L e).1 = 4
  · refine ld (nI 4) rb.1.ob (by rw [rt.1, q]) ?_
    refine And.intro (fun z => absurd rfl z) (fun _ => ?_)
    refine ld (nI (fau (tok t L e) k).1) rb.1.ob (by show _ = nI (if _ then _ else _); rw [if_pos q]; rfl) ?_
    refine ld (nI (tok t L e).2.1) rb.1.ob (by rw [si_ne (by decide)]; exact rt.2.1) ?_
    exact ld _ rb.1.ob rfl fin
  · refine ld (nI (tok t L e).1) rb.1.ob rt.1 ?_
    refine And.intro (fun _ => ?_) (fun z => absurd z (fun z => q ((nI_eq (by omega) (by decide)).mp z)))
    refine ld (nI (fau (tok t L e) k).1) rb.1.ob (by show _ = nI (if _ then _ else _); rw [if_neg q]) ?_
    refine ld (nI (tok t L e).2.1) rb.1.ob (by rw [si_ne (by decide)]; exact rt.2.1) ?_
    exact ld _ rb.1.ob rfl fin
theorem sM_isGoodG (m : MS h) (e9 : hI h 136 9 = nI 0) (hK : K (some (vI (bI True))) h) : Spec G l (mt mM_isGood) [vR 136] h K := by
  refine eM_isGood 39 [] fun S Cu hS hC => ?_
  refine ld (nI 0) m.ob e9 ?_
  exact And.intro (fun z => absurd rfl z) (fun _ => rzT trivial hK)
theorem sM_isGoodB {k : Nat} (m : MS h) (e9 : hI h 136 9 = nI k) (hk : 1 ≤ k ∧ k ≤ 4) (hK : K (some (vI (bI False))) h) : Spec G l (mt mM_isGood) [vR 136] h K := by
  refine eM_isGood 39 [] fun S Cu hS hC => ?_
  refine ld (nI k) m.ob e9 ?_
  exact And.intro (fun _ => rzF (fun z => z) hK) (fun z => absurd ((nI_eq (a := k) (b := 0) (by omega) (by decide)).mp z) (by omega))
theorem lN_inj {a b : Nat} (ha : a < 2 ^ 64) (hb : b < 2 ^ 64) (e : lN a = lN b) : a = b := by
  have e : (lN a).toBitVec.toNat = (lN b).toBitVec.toNat := congrArg (fun z => z.toBitVec.toNat) e
  rw [lnBv, lnBv, BitVec.toNat_ofNat, BitVec.toNat_ofNat, Nat.mod_eq_of_lt ha, Nat.mod_eq_of_lt hb] at e
  exact e
theorem sM_isWord {x : Int64} {c : Nat} (r : RGd h t L e) (hx : x = lN c) (hc : c < 2 ^ 64) (hK : K (some (vI (bI (wdT t (tok t L e) c)))) h) : Spec G l (mt mM_isWord) [vR 136, vL x] h K := by
  subst hx
  obtain ⟨rb, r9, r10, rt, re⟩ := r
  have s := tok_sp (t := t) re
  refine eM_isWord 59 [] fun S Cu hS hC => ?_
  refine ld (nI 0) rb.1.ob r9 ?_
  refine And.intro (fun z => absurd rfl z) (fun _ => ?_)
  refine ld (nI (tok t L e).1) rb.1.ob rt.1 ?_
  by_cases q : (tok t L e).1 = 1
  · refine And.intro (fun z => absurd ((nI_eq (by omega) (by decide)).mpr q) z) (fun _ => ?_)
    refine ld _ rb.1.ob (rt.2.2.2.2.1 q) ?_
    have w := tokAt_word q
    have wl : wcd t (tok t L e).2.1 ((tok t L e).2.2 - (tok t L e).2.1) < 2 ^ 64 := Nat.lt_of_lt_of_le (wcd_lt (fun i h1 h2 => rb.2.2.2.2 i (by omega))) (Nat.le_trans (Nat.pow_le_pow_right (by decide) (show (tok t L e).2.2 - (tok t L e).2.1 ≤ 8 from w.1)) (by decide))
    refine And.intro (fun z => ?_) (fun z => ?_)
    · exact rzF (fun y => z (ig_eq.mpr (congrArg lN y.2))) hK
    · exact rzT ⟨q, lN_inj wl hc (ig_eq.mp z)⟩ hK
  · refine And.intro (fun _ => ?_) (fun z => absurd z (fun z => q ((nI_eq (by omega) (by decide)).mp z)))
    exact rzF (fun y => q y.1) hK
theorem sM_numberB {a b : Int32} {q : Nat × Nat} (r : RFl h t L q) (hK : K (some (vI 0)) h) : Spec G l (mt mM_number) [vR 136, vI a, vI b] h K := by
  have := r.2.2.1
  refine eM_number 99 [] fun S Cu hS hC => ?_
  refine ld (nI q.1) r.1.1.ob r.2.1 ?_
  exact pk_le q.1 0 (fun z => by omega) (fun _ => hK)
theorem sM_number {a b : Int32} {lo hi : Nat} (r : RGd h t L e) (ea : a = nI lo) (eb : b = nI hi) (hh : hi ≤ 20) (hl : lo ≤ 20) (h0 : ∀ q, num t L e lo hi = .inl q → ∀ h' v, Fr [136] h h' → Sc1 [4, 5, 6, 7, 8, 9, 10] h h' → RFl h' t L q → K (some (vI v)) h') (h1 : ∀ x, num t L e lo hi = .inr x → ∀ h', Fr [136] h h' → Sc1 [4, 5, 6, 7, 8, 9, 10] h h' → RGd h' t L x.2 → K (some (vI (nI x.1))) h') : Spec G l (mt mM_number) [vR 136, vI a, vI b] h K := by
  subst ea; subst eb
  have r0 := r
  obtain ⟨rb, r9, r10, rt, re⟩ := r
  have s := tok_sp (t := t) re
  have lL := rb.2.2.2.1
  have bad : ∀ q h', num t L e lo hi = .inl q → Fr [136] h h' → Sc1 [9, 10] h h' → RFl h' t L q → Go G l (mt mM_number) 53 [some (vR 136), none, none, none] [] h' 0 0 K := by
    intro q h' eq f g rf
    refine gM_number 99 [] fun S Cu hS hC => ?_
    refine ld _ rf.1.1.ob rfl ?_
    refine And.intro rf.1.1.ob (hS _ _ _ _ (sM_isGoodB rf.1.1 rf.2.1 rf.2.2.1 ?_))
    refine brE (fun _ => ?_) (fun z => z.elim)
    exact h0 q eq h' _ f (g.wk rfl) rf
  refine eM_number 99 [(53, 1)] fun S Cu hS hC => ?_
  refine ld (nI 0) rb.1.ob r9 ?_
  refine And.intro (fun _ => ?_) (fun z => absurd (by decide) z)
  refine ld (nI (tok t L e).1) rb.1.ob rt.1 ?_
  refine pk_eq (tok t L e).1 2 (fun q => ?_) (fun q => ?_)
  · refine ld (nI ((tok t L e).2.2 - (tok t L e).2.1)) rb.1.ob rt.2.2.1 ?_
    refine pk_lt 4 ((tok t L e).2.2 - (tok t L e).2.1) (fun q2 => ?_) (fun q2 => ?_)
    · refine And.intro rb.1.ob (hS _ _ _ _ (sM_wrong (k := 4) r0 rfl (by decide) fun h' f g rf => ?_))
      exact hC _ _ _ _ (bad _ h' (by unfold num; rw [if_pos q, if_neg (fun z => by omega)]) f g rf)
    · have vl := vdg_lt (t := t) (s := (tok t L e).2.1) (n := (tok t L e).2.2 - (tok t L e).2.1) (fun i h1 h2 => tokAt_num q i h1 (show i < (tok t L e).2.2 by omega))
      have vl : vdg t (tok t L e).2.1 ((tok t L e).2.2 - (tok t L e).2.1) < 10000 := Nat.lt_of_lt_of_le vl (Nat.le_trans (Nat.pow_le_pow_right (by decide) q2) (by decide))
      refine ld _ rb.1.ob (rt.2.2.2.2.2 q q2) ?_
      have ei : (((nI lo).toInt64 ≤ (nI (vdg t (tok t L e).2.1 ((tok t L e).2.2 - (tok t L e).2.1))).toInt64 ∧ (nI (vdg t (tok t L e).2.1 ((tok t L e).2.2 - (tok t L e).2.1))).toInt64 ≤ (nI hi).toInt64) ↔ (lo ≤ vdg t (tok t L e).2.1 ((tok t L e).2.2 - (tok t L e).2.1) ∧ vdg t (tok t L e).2.1 ((tok t L e).2.2 - (tok t L e).2.1) ≤ hi)) := by
        rw [nI_l (n := lo) (by omega), nI_l (n := hi) (by omega)]
        refine (isIn_lh (by omega) (by omega)).trans ⟨fun ⟨j, a, b, c⟩ => ?_, fun z => ⟨_, z.1, z.2, rfl⟩⟩
        have := (nI_eq (by omega) (by omega)).mp c
        omega
      refine hS _ _ _ _ (sM_isIn ?_)
      refine brN (fun q3 => ?_) (fun q3 => ?_)
      · have q3 := ei.mp q3
        have en : num t L e lo hi = .inr (vdg t (tok t L e).2.1 ((tok t L e).2.2 - (tok t L e).2.1), (tok t L e).2.2) := by
          unfold num; rw [if_pos q, if_pos ⟨q2, q3⟩]
        refine hC _ _ _ _ ?_
        refine gM_number 99 [] fun S Cu hS hC => ?_
        refine ld _ rb.1.ob (rt.2.2.2.2.2 q q2) ?_
        refine And.intro rb.1.ob (hS _ _ _ _ (sM_isGoodG rb.1 r9 ?_))
        refine brE (fun z => (z trivial).elim) (fun _ => ?_)
        refine And.intro rb.1.ob (hS _ _ _ _ (sM_goG r0 fun h' f g rg => ?_))
        exact h1 _ en h' f (g.wk rfl) rg
      · refine And.intro rb.1.ob (hS _ _ _ _ (sM_wrong (k := 4) r0 rfl (by decide) fun h' f g rf => ?_))
        exact hC _ _ _ _ (bad _ h' (by unfold num; rw [if_pos q, if_neg (fun z => q3 (ei.mpr z.2))]) f g rf)
  · refine And.intro rb.1.ob (hS _ _ _ _ (sM_wrong (k := 2) r0 rfl (by decide) fun h' f g rf => ?_))
    exact hC _ _ _ _ (bad _ h' (by unfold num; rw [if_neg q]) f g rf)
theorem sM_endsB {q : Nat × Nat} (r : RFl h t L q) (hK : K none h) : Spec G l (mt mM_ends) [vR 136] h K := by
  refine eM_ends 99 [] fun S Cu hS hC => ?_
  refine And.intro r.1.1.ob (hS _ _ _ _ (sM_isGoodB r.1.1 r.2.1 r.2.2.1 ?_))
  refine brE (fun _ => ?_) (fun z => z.elim)
  refine And.intro r.1.1.ob (hS _ _ _ _ (sM_isGoodB r.1.1 r.2.1 r.2.2.1 ?_))
  exact brE (fun _ => hK) (fun z => z.elim)
theorem sM_ends (r : RGd h t L e) (h0 : ∀ q, sgn t L e = .inl q → ∀ h', Fr [136] h h' → Sc1 [4, 5, 6, 7, 8, 9, 10] h h' → RFl h' t L q → K none h') (h1 : ∀ x, sgn t L e = .inr x → ∀ h', Fr [136] h h' → Sc1 [4, 5, 6, 7, 8, 9, 10] h h' → RGd h' t L x → K none h') : Spec G l (mt mM_ends) [vR 136] h K := by
  have r0 := r
  obtain ⟨rb, r9, r10, rt, re⟩ := r
  have s := tok_sp (t := t) re
  refine eM_ends 99 [] fun S Cu hS hC => ?_
  refine And.intro rb.1.ob (hS _ _ _ _ (sM_isGoodG rb.1 r9 ?_))
  refine brE (fun z => (z trivial).elim) (fun _ => ?_)
  refine ld (nI (tok t L e).1) rb.1.ob rt.1 ?_
  refine pk_eq (tok t L e).1 3 (fun q => ?_) (fun q => ?_)
  · refine And.intro rb.1.ob (hS _ _ _ _ (sM_isGoodG rb.1 r9 ?_))
    refine brE (fun z => (z trivial).elim) (fun _ => ?_)
    refine And.intro rb.1.ob (hS _ _ _ _ (sM_goG r0 fun h' f g rg => ?_))
    exact h1 _ (by unfold sgn; rw [if_pos q]) h' f (g.wk rfl) rg
  · refine And.intro rb.1.ob (hS _ _ _ _ (sM_wrong (k := 2) r0 rfl (by decide) fun h' f g rf => ?_))
    refine And.intro rf.1.1.ob (hS _ _ _ _ (sM_isGoodB rf.1.1 rf.2.1 rf.2.2.1 ?_))
    refine brE (fun _ => ?_) (fun z => z.elim)
    exact h0 _ (by unfold sgn; rw [if_neg q]) h' f (g.wk rfl) rf
end MM
