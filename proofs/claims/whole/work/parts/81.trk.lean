/-! ===== the class: steps that were made ===== -/
theorem fm_chk : ∀ q k : Fin 20, (q.val < k.val → ((nI q.val - nI k.val) - (nI q.val - nI k.val) / 20 * 20 = nI q.val - nI k.val) ∧ ((nI q.val - nI k.val) ^^^ 20 < 0) ∧ (¬ nI q.val - nI k.val = 0) ∧ (nI q.val - nI k.val + 20 = nI ((q.val + 20 - k.val) % 20))) ∧ (k.val ≤ q.val → ((nI q.val - nI k.val) - (nI q.val - nI k.val) / 20 * 20 = nI ((q.val + 20 - k.val) % 20)) ∧ 0 ≤ ((nI q.val - nI k.val) ^^^ 20)) := by decide +kernel
def CK (h : AH) (sm sc : Nat → Int32) (sn : Nat) : Prop := ∃ q, q < 20 ∧ hI h 86 2 = nI q ∧ hI h 86 3 = nI sn ∧ sn ≤ 20 ∧ ∀ i, i < sn → hI h 87 ((q + 20 - i) % 20) = sm i ∧ hI h 88 ((q + 20 - i) % 20) = sc i
theorem CK.fx {h h' : AH} {sm sc : Nat → Int32} {sn : Nat} {s : Nat} {L : List Nat} (c : CK h sm sc sn) (f : FX s L h h') (h1 : 86 ≠ s) (h2 : L.contains 86 = false) : CK h' sm sc sn := by
  unfold CK; rw [f.i (k := 86) h1 h2, f.i (k := 87) h1 h2, f.i (k := 88) h1 h2]; exact c
section CC
variable {G : GP} {l : Launch} {K : Option AV → AH → Prop} {h : AH} {ρ : Pic}
theorem sJ_floorMod {a : Int32} {q k : Nat} (ha : a = nI q - nI k) (hq : q < 20) (hk : k < 20) (hK : K (some (vI (nI ((q + 20 - k) % 20)))) h) : Spec G l (mt mJm_floorMod) [vI a, vI 20] h K := by
  subst ha
  have c := fm_chk ⟨q, hq⟩ ⟨k, hk⟩
  refine eJm_floorMod 39 [] fun S Cu hS hC => ?_
  refine And.intro (by decide) ?_
  by_cases z : q < k
  · obtain ⟨c1, c2, c3, c4⟩ := c.1 z
    refine And.intro (fun y => absurd c2 (Int32.not_lt.mpr y)) (fun _ => ?_)
    refine And.intro (fun y => absurd (c1.symm.trans y) c3) (fun _ => ?_)
    exact rtI (K := K) (by rw [c1]; exact c4) hK
  · obtain ⟨c1, c2⟩ := c.2 (by show k ≤ q; omega)
    refine And.intro (fun _ => rtI (K := K) c1 hK) (fun y => absurd c2 y)
variable {sm sc : Nat → Int32} {sn : Nat}
theorem sT_clear (cs : CS h) (c : CK h sm sc sn) (hK : ∀ h', FX 999 [86] h h' → CK h' sm sc 0 → K none h') : Spec G l (mt mT_clear) [vR 86] h K := by
  obtain ⟨q, q1, q2, q3, q4, q5⟩ := c
  refine eT_clear 19 [] fun S Cu hS hC => ?_
  refine ld (nI 0) (cs.ob (k := 86) (ci := 8) rfl rfl rfl) rfl ?_
  exact hK _ (FX.rf.setI (Or.inr rfl)) ⟨q, q1, by rw [si_ne (by decide)]; exact q2, si_eq, by omega, fun i hi => absurd hi (Nat.not_lt_zero i)⟩
theorem sT_movedAt {a : Int32} {i : Nat} (cs : CS h) (c : CK h sm sc sn) (ha : a = nI i) (hi : i < sn) (hK : K (some (vI (sm i))) h) : Spec G l (mt mT_movedAt) [vR 86, vI a] h K := by
  subst ha
  obtain ⟨q, q1, q2, q3, q4, q5⟩ := c
  have ml := Nat.mod_lt (q + 20 - i) (show 0 < 20 by decide)
  refine eT_movedAt 19 [] fun S Cu hS hC => ?_
  refine ld 87 (cs.ob (k := 86) (ci := 8) rfl rfl rfl) (cs.rf (k := 86) (j := 0) rfl rfl) ?_
  refine ld (nI q) (cs.ob (k := 86) (ci := 8) rfl rfl rfl) q2 ?_
  refine hS _ _ _ _ (sJ_floorMod rfl q1 (by omega) ?_)
  exact ld (sm i) (cs.inA (k := 87) rfl rfl rfl rfl ml rfl) (rdX rfl (by omega) (q5 i hi).1) hK
theorem sT_costAt {a : Int32} {i : Nat} (cs : CS h) (c : CK h sm sc sn) (ha : a = nI i) (hi : i < sn) (hK : K (some (vI (sc i))) h) : Spec G l (mt mT_costAt) [vR 86, vI a] h K := by
  subst ha
  obtain ⟨q, q1, q2, q3, q4, q5⟩ := c
  have ml := Nat.mod_lt (q + 20 - i) (show 0 < 20 by decide)
  refine eT_costAt 19 [] fun S Cu hS hC => ?_
  refine ld 88 (cs.ob (k := 86) (ci := 8) rfl rfl rfl) (cs.rf (k := 86) (j := 1) rfl rfl) ?_
  refine ld (nI q) (cs.ob (k := 86) (ci := 8) rfl rfl rfl) q2 ?_
  refine hS _ _ _ _ (sJ_floorMod rfl q1 (by omega) ?_)
  exact ld (sc i) (cs.inA (k := 88) rfl rfl rfl rfl ml rfl) (rdX rfl (by omega) (q5 i hi).2) hK
theorem sT_add {m c : Int32} (cs : CS h) (k : CK h sm sc sn) (hK : ∀ h', FX 999 [86] h h' → CK h' (pshI sm m) (pshI sc c) (psh20 sn) → K none h') : Spec G l (mt mT_add) [vR 86, vI m, vI c] h K := by
  obtain ⟨q, q1, q2, q3, q4, q5⟩ := k
  have ob : Ob h 86 8 := cs.ob (k := 86) (ci := 8) rfl rfl rfl
  have ml := Nat.mod_lt (q + 1) (show 0 < 20 by decide)
  have eq : (nI q + 1) - (nI q + 1) / 20 * 20 = nI ((q + 1) % 20) := by
    rw [nI_1]; exact pk_rem (a := q + 1) (d := 20) (by omega) (by decide) (by decide)
  have em : (if (20 : Int32) < nI sn + 1 then 20 else nI sn + 1) = nI (psh20 sn) := by
    rw [nI_1]
    unfold psh20
    by_cases z : sn < 20
    · rw [if_pos z, if_neg]
      intro y
      have := (nI_ltI (a := 20) (b := sn + 1) (by decide) (by omega)).mp y
      omega
    · rw [if_neg z, if_pos]
      · rfl
      · exact (nI_ltI (a := 20) (b := sn + 1) (by decide) (by omega)).mpr (by omega)
  refine eT_add 39 [] fun S Cu hS hC => ?_
  refine ld (nI q) ob q2 ?_
  refine And.intro (by decide) ?_
  refine ld (nI ((q + 1) % 20)) ob eq ?_
  refine ld 87 ob (cs.rf (k := 86) (j := 0) rfl rfl) ?_
  refine ld (nI ((q + 1) % 20)) ob si_eq ?_
  refine sw ((q + 1) % 20) m (cs.inA (k := 87) rfl rfl rfl rfl ml rfl) (ix_nI (by omega)) rfl ?_
  refine ld 88 ob (cs.rf (k := 86) (j := 1) rfl rfl) ?_
  refine ld (nI ((q + 1) % 20)) ob (by rw [si_nk rfl]; exact si_eq) ?_
  refine sw ((q + 1) % 20) c (cs.inA (k := 88) rfl rfl rfl rfl ml rfl) (ix_nI (by omega)) rfl ?_
  refine ld (nI sn) ob (by rw [si_nk rfl, si_nk rfl, si_ne (by decide)]; exact q3) ?_
  refine ld (nI (psh20 sn)) ob em ?_
  have p20 : psh20 sn ≤ 20 ∧ psh20 sn ≤ sn + 1 := by unfold psh20; split <;> omega
  refine hK _ ((((FX.rf.setI (Or.inr rfl)).setI (Or.inr rfl)).setI (Or.inr rfl)).setI (Or.inr rfl)) ⟨(q + 1) % 20, ml, ?_, si_eq, p20.1, fun i hi => ?_⟩
  · rw [si_ne (by decide), si_nk rfl, si_nk rfl, si_eq]
  · unfold pshI
    by_cases z : i = 0
    · subst z
      rw [if_pos rfl, if_pos rfl, show ((q + 1) % 20 + 20 - 0) % 20 = (q + 1) % 20 by omega]
      refine ⟨?_, ?_⟩
      · rw [si_nk (k' := 87) rfl, si_nk (k' := 87) rfl, si_eq]
      · rw [si_nk (k' := 88) rfl, si_eq]
    · have old := q5 (i - 1) (by omega)
      rw [if_neg z, if_neg z, show ((q + 1) % 20 + 20 - i) % 20 = (q + 20 - (i - 1)) % 20 by omega]
      refine ⟨?_, ?_⟩
      · rw [si_nk (k' := 87) rfl, si_nk (k' := 87) rfl, si_ne (by omega), si_nk (k' := 87) rfl]; exact old.1
      · rw [si_nk (k' := 88) rfl, si_ne (by omega), si_nk (k' := 88) rfl, si_nk (k' := 88) rfl]; exact old.2
end CC
