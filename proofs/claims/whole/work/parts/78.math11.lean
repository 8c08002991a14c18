/-! ===== a round, dot by dot ===== -/
theorem IsOw.ps {ρ π : Pic} {S : Nat → Prop} {c n : Nat} {o : Option Nat} (h : IsOw ρ S c n o) (e : ∀ d, d < n → S d → gap π c d = gap ρ c d ∧ spn π d = spn ρ d) : IsOw π S c n o := by
  rcases h with ⟨a, b⟩ | ⟨b, a, hb, sb, h⟩
  · exact Or.inl ⟨a, b⟩
  · refine Or.inr ⟨b, a, hb, sb, fun d hd sd => ?_⟩
    rw [(e d hd sd).1, (e d hd sd).2, (e b hb sb).1, (e b hb sb).2]
    exact h d hd sd
theorem owR.ps {h : AH} {f : Nat} {ρ π : Pic} {O : Nat → Option Nat} (o : owR h f ρ O) (ec : pcc π = pcc ρ) (e : ∀ c b, c < pcc ρ → O c = some b → gap π c b = gap ρ c b ∧ spn π b = spn ρ b) : owR h f π O := by
  intro c hc
  rw [ec] at hc
  have := o c hc
  cases eo : O c with
  | none => rw [eo] at this; exact this
  | some b =>
    rw [eo] at this
    refine ⟨this.1, ?_, ?_⟩
    · show _ = lN (gap π c b); rw [(e c b hc eo).1]; exact this.2.1
    · show _ = lN (spn π b); rw [(e c b hc eo).2]; exact this.2.2
theorem same.rf {ρ : Pic} {d : Nat} : same ρ ρ d := ⟨rfl, rfl, rfl⟩
theorem same.tr {ρ π σ : Pic} {d : Nat} (a : same ρ π d) (b : same π σ d) : same ρ σ d := ⟨a.1.trans b.1, a.2.1.trans b.2.1, a.2.2.trans b.2.2⟩
theorem same.sy {ρ π : Pic} {d : Nat} (a : same ρ π d) : same π ρ d := ⟨a.1.symm, a.2.1.symm, a.2.2.symm⟩
theorem same_setD {π : Pic} {d e x y q : Nat} (h : e ≠ d) : same π (setD π d x y q) e := ⟨(setD_Xn h).symm, (setD_Yn h).symm, (setD_Dn h).symm⟩
theorem same.gs {ρ π : Pic} {d : Nat} (h : same ρ π d) (hw : pcw π = pcw ρ) (c : Nat) : gap π c d = gap ρ c d ∧ spn π d = spn ρ d := gap_congr hw h.1.symm h.2.1.symm h.2.2.symm
theorem mids_s {ρ : Pic} {k d : Nat} (h : d ≠ k ∨ load ρ k = 0) : same (mids ρ k) (mids ρ (k + 1)) d := by
  simp only [mids]
  by_cases z : load ρ k = 0
  · rw [if_pos z]; exact same.rf
  · rw [if_neg z]
    exact same_setD (h.resolve_right z)
theorem mids_0 {ρ : Pic} {d : Nat} : ∀ {k : Nat}, (k ≤ d ∨ load ρ d = 0) → same ρ (mids ρ k) d
  | 0, _ => same.rf
  | k + 1, h => by
    refine (mids_0 (k := k) (h.imp (fun z => by omega) id)).tr (mids_s ?_)
    by_cases e : d = k
    · subst e; exact Or.inr (h.resolve_left (by omega))
    · exact Or.inl e
theorem mids_1 {ρ : Pic} {d : Nat} : ∀ {k : Nat}, d < k → same (mids ρ (d + 1)) (mids ρ k) d
  | 0, h => absurd h (Nat.not_lt_zero d)
  | k + 1, h => by
    by_cases e : d = k
    · subst e; exact same.rf
    · exact (mids_1 (k := k) (by omega)).tr (mids_s (Or.inl e))
theorem ems_s {ρ : Pic} {k d : Nat} (h : d ≠ k ∨ ¬ load ρ k = 0) : same (ems ρ k) (ems ρ (k + 1)) d := by
  simp only [ems]
  by_cases z : load ρ k = 0
  · rw [if_pos z]
    have h := h.resolve_right (fun y => y z)
    split
    · exact same.rf
    · exact same_setD h
  · rw [if_neg z]; exact same.rf
theorem ems_0 {ρ : Pic} {d : Nat} : ∀ {k : Nat}, (k ≤ d ∨ ¬ load ρ d = 0) → same (mids ρ (pcn ρ)) (ems ρ k) d
  | 0, _ => same.rf
  | k + 1, h => by
    refine (ems_0 (k := k) (h.imp (fun z => by omega) id)).tr (ems_s ?_)
    by_cases e : d = k
    · subst e; exact Or.inr (h.resolve_left (by omega))
    · exact Or.inl e
theorem ems_1 {ρ : Pic} {d : Nat} : ∀ {k : Nat}, d < k → same (ems ρ (d + 1)) (ems ρ k) d
  | 0, h => absurd h (Nat.not_lt_zero d)
  | k + 1, h => by
    by_cases e : d = k
    · subst e; exact same.rf
    · exact (ems_1 (k := k) (by omega)).tr (ems_s (Or.inl e))
/-- where a dot with a load comes to -/
theorem rnd_full {ρ : Pic} {d : Nat} (hd : d < pcn ρ) (h : ¬ load ρ d = 0) : same (mids ρ (d + 1)) (rnd ρ) d := (mids_1 hd).tr (ems_0 (Or.inr h))
/-- where an empty one comes to -/
theorem rnd_empty {ρ : Pic} {d : Nat} (hd : d < pcn ρ) : same (ems ρ (d + 1)) (rnd ρ) d := ems_1 hd
/-- where it lay before -/
theorem ems_was {ρ : Pic} {d : Nat} (h : load ρ d = 0) : same ρ (ems ρ d) d := (mids_0 (Or.inr h)).tr (ems_0 (Or.inl (Nat.le_refl d)))
noncomputable def mv1 (ρ : Pic) (k : Nat) : Nat := sumN (fun d => wN (¬ load ρ d = 0 ∧ ¬ same ρ (rnd ρ) d) 1) k
noncomputable def mv2 (ρ : Pic) (k : Nat) : Nat := sumN (fun d => wN (load ρ d = 0 ∧ ¬ same ρ (rnd ρ) d) 1) k
theorem mv_all {ρ : Pic} : mv1 ρ (pcn ρ) + mv2 ρ (pcn ρ) = mvd ρ := by
  unfold mv1 mv2 mvd
  rw [← sumN_add]
  refine sumN_congr fun d _ => ?_
  by_cases z : load ρ d = 0
  · rw [wN_F (fun y => y.1 z)]
    by_cases q : same ρ (rnd ρ) d
    · rw [wN_F (fun y => y.2 q), wN_F (fun y => y q)]
    · rw [wN_T ⟨z, q⟩, wN_T q]
  · rw [wN_F (p := load ρ d = 0 ∧ _) (fun y => z y.1)]
    by_cases q : same ρ (rnd ρ) d
    · rw [wN_F (fun y => y.2 q), wN_F (fun y => y q)]
    · rw [wN_T ⟨z, q⟩, wN_T q]
