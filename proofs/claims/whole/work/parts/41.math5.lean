/-! ===== fractions; what the nearest is; the dearest cell; a round ===== -/
theorem fr_trans {a sa b sb c sc : Nat} (hb : 0 < sb) (h1 : a * sb ≤ b * sa) (h2 : b * sc ≤ c * sb) : a * sc ≤ c * sa := by
  have e1 : a * sc * sb ≤ b * sa * sc := by rw [Nat.mul_right_comm]; exact Nat.mul_le_mul_right _ h1
  have e2 : b * sa * sc ≤ c * sa * sb := by rw [Nat.mul_right_comm b, Nat.mul_right_comm c]; exact Nat.mul_le_mul_right _ h2
  exact Nat.le_of_mul_le_mul_right (Nat.le_trans e1 e2) hb
theorem fr_trans_lt {a sa b sb c sc : Nat} (hb : 0 < sb) (hsc : 0 < sc) (h1 : a * sb < b * sa) (h2 : b * sc ≤ c * sb) : a * sc < c * sa := by
  have e1 : a * sc * sb < b * sa * sc := by rw [Nat.mul_right_comm]; exact Nat.mul_lt_mul_of_pos_right h1 hsc
  have e2 : b * sa * sc ≤ c * sa * sb := by rw [Nat.mul_right_comm b, Nat.mul_right_comm c]; exact Nat.mul_le_mul_right _ h2
  exact Nat.lt_of_mul_lt_mul_right (Nat.lt_of_lt_of_le e1 e2)
theorem fr_trans_lt' {a sa b sb c sc : Nat} (hb : 0 < sb) (hsa : 0 < sa) (h1 : a * sb ≤ b * sa) (h2 : b * sc < c * sb) : a * sc < c * sa := by
  have e1 : a * sc * sb ≤ b * sa * sc := by rw [Nat.mul_right_comm]; exact Nat.mul_le_mul_right _ h1
  have e2 : b * sa * sc < c * sa * sb := by rw [Nat.mul_right_comm b, Nat.mul_right_comm c]; exact Nat.mul_lt_mul_of_pos_right h2 hsa
  exact Nat.lt_of_mul_lt_mul_right (Nat.lt_of_le_of_lt e1 e2)
/-- what it means to be the nearest of a kind -/
def IsOw (ρ : Pic) (S : Nat → Prop) (c n : Nat) (o : Option Nat) : Prop := (o = none ∧ ∀ d, d < n → ¬ S d) ∨ ∃ b, o = some b ∧ b < n ∧ S b ∧ ∀ d, d < n → S d → gap ρ c b * spn ρ d ≤ gap ρ c d * spn ρ b ∧ (d < b → gap ρ c b * spn ρ d < gap ρ c d * spn ρ b)
theorem IsOw.uni {ρ : Pic} {S : Nat → Prop} {c n : Nat} {o o' : Option Nat} (h : IsOw ρ S c n o) (h' : IsOw ρ S c n o') : o = o' := by
  rcases h with ⟨rfl, h⟩ | ⟨b, rfl, hb, sb, h⟩
  · rcases h' with ⟨rfl, h'⟩ | ⟨b', rfl, hb', sb', h'⟩
    · rfl
    · exact absurd sb' (h b' hb')
  · rcases h' with ⟨rfl, h'⟩ | ⟨b', rfl, hb', sb', h'⟩
    · exact absurd sb (h' b hb)
    · have a := h b' hb' sb'
      have a' := h' b hb sb
      rcases Nat.lt_trichotomy b b' with q | q | q
      · have := a'.2 q; omega
      · rw [q]
      · have := a.2 q; omega
theorem ow_is {ρ : Pic} {S : Nat → Prop} {c : Nat} : ∀ {n : Nat}, (∀ d, d < n → 0 < spn ρ d) → IsOw ρ S c n (ow ρ S c n)
  | 0, _ => Or.inl ⟨rfl, fun d hd => by omega⟩
  | n + 1, hp => by
    have ih := ow_is (ρ := ρ) (S := S) (c := c) (n := n) (fun d hd => hp d (by omega))
    by_cases hs : S n
    · rcases ih with ⟨e, h⟩ | ⟨b, e, hb, sb, h⟩
      · rw [ow_new e hs]
        refine Or.inr ⟨n, rfl, by omega, hs, fun d hd hd2 => ?_⟩
        have : d = n := by
          by_cases q : d < n
          · exact absurd hd2 (h d q)
          · omega
        subst this; exact ⟨Nat.le_refl _, fun q => by omega⟩
      · by_cases q : nearer ρ c n b
        · rw [ow_near e hs q]
          refine Or.inr ⟨n, rfl, by omega, hs, fun d hd hd2 => ?_⟩
          by_cases z : d = n
          · subst z; exact ⟨Nat.le_refl _, fun q => by omega⟩
          · have h1 := (h d (by omega) hd2).1
            have h2 := fr_trans_lt (hp b (by omega)) (hp d (by omega)) q h1
            exact ⟨Nat.le_of_lt h2, fun _ => h2⟩
        · rw [ow_stay e q]
          refine Or.inr ⟨b, rfl, by omega, sb, fun d hd hd2 => ?_⟩
          by_cases z : d = n
          · subst z; exact ⟨Nat.le_of_not_lt q, fun w => by omega⟩
          · exact h d (by omega) hd2
    · rw [ow_skip hs]
      rcases ih with ⟨e, h⟩ | ⟨b, e, hb, sb, h⟩
      · refine Or.inl ⟨e, fun d hd => ?_⟩
        by_cases z : d = n
        · subst z; exact hs
        · exact h d (by omega)
      · refine Or.inr ⟨b, e, by omega, sb, fun d hd hd2 => ?_⟩
        by_cases z : d = n
        · subst z; exact absurd hd2 hs
        · exact h d (by omega) hd2
/-- positions of the dots of a kind are all that counts -/
theorem gap_congr {ρ π : Pic} {c d : Nat} (hw : pcw π = pcw ρ) (hX : pcX π d = pcX ρ d) (hY : pcY π d = pcY ρ d) (hD : pcD π d = pcD ρ d) : gap π c d = gap ρ c d ∧ spn π d = spn ρ d := by
  unfold gap spn; rw [hw, hX, hY, hD]; exact ⟨rfl, rfl⟩
theorem ow_pos {ρ π : Pic} {S : Nat → Prop} {c : Nat} : ∀ {n : Nat}, (∀ d, d < n → S d → gap π c d = gap ρ c d ∧ spn π d = spn ρ d) → ow π S c n = ow ρ S c n
  | 0, _ => rfl
  | n + 1, h => by
    have ih := ow_pos (ρ := ρ) (π := π) (S := S) (c := c) (n := n) (fun d hd => h d (by omega))
    by_cases hs : S n
    · cases e : ow ρ S c n with
      | none => rw [ow_new e hs, ow_new (ih.trans e) hs]
      | some b =>
        have hb := ow_lt e
        have a := h n (by omega) hs
        have a' := h b (by omega) hb.2
        have en : nearer π c n b ↔ nearer ρ c n b := by unfold nearer; rw [a.1, a.2, a'.1, a'.2]
        by_cases q : nearer ρ c n b
        · rw [ow_near e hs q, ow_near (ih.trans e) hs (en.mpr q)]
        · rw [ow_stay e q, ow_stay (ih.trans e) (fun z => q (en.mp z))]
    · rw [ow_skip hs, ow_skip hs, ih]
/-- the cell with the greatest weight by distance to what owns it: best, and the fraction -/
noncomputable def wst (ρ : Pic) (O : Nat → Option Nat) : Nat → Option Nat × Nat × Nat
  | 0 => (none, 0, 1)
  | n + 1 => match O n with
    | none => wst ρ O n
    | some d => if pcW ρ n * gap ρ n d * (wst ρ O n).2.2 ≤ (wst ρ O n).2.1 * spn ρ d then wst ρ O n else (some n, pcW ρ n * gap ρ n d, spn ρ d)
theorem wst_n {ρ : Pic} {O : Nat → Option Nat} {n : Nat} (e : O n = none) : wst ρ O (n + 1) = wst ρ O n := by simp only [wst, e]
theorem wst_le {ρ : Pic} {O : Nat → Option Nat} {n d : Nat} (e : O n = some d) (q : pcW ρ n * gap ρ n d * (wst ρ O n).2.2 ≤ (wst ρ O n).2.1 * spn ρ d) : wst ρ O (n + 1) = wst ρ O n := by simp only [wst, e]; rw [if_pos q]
theorem wst_gt {ρ : Pic} {O : Nat → Option Nat} {n d : Nat} (e : O n = some d) (q : ¬ pcW ρ n * gap ρ n d * (wst ρ O n).2.2 ≤ (wst ρ O n).2.1 * spn ρ d) : wst ρ O (n + 1) = (some n, pcW ρ n * gap ρ n d, spn ρ d) := by simp only [wst, e]; rw [if_neg q]
theorem wst_lt {ρ : Pic} {O : Nat → Option Nat} : ∀ {n c : Nat}, (wst ρ O n).1 = some c → c < n
  | 0, c, h => by simp [wst] at h
  | n + 1, c, h => by
    cases e : O n with
    | none => rw [wst_n e] at h; have := wst_lt h; omega
    | some d =>
      by_cases q : pcW ρ n * gap ρ n d * (wst ρ O n).2.2 ≤ (wst ρ O n).2.1 * spn ρ d
      · rw [wst_le e q] at h; have := wst_lt h; omega
      · rw [wst_gt e q] at h; injection h with h; omega
theorem wst_none {ρ : Pic} {O : Nat → Option Nat} : ∀ {n : Nat}, (wst ρ O n).1 = none → wst ρ O n = (none, 0, 1)
  | 0, _ => rfl
  | n + 1, h => by
    cases e : O n with
    | none => rw [wst_n e] at h ⊢; exact wst_none h
    | some d =>
      by_cases q : pcW ρ n * gap ρ n d * (wst ρ O n).2.2 ≤ (wst ρ O n).2.1 * spn ρ d
      · rw [wst_le e q] at h ⊢; exact wst_none h
      · rw [wst_gt e q] at h; cases h
theorem wst_none_iff {ρ : Pic} {O : Nat → Option Nat} : ∀ {n : Nat}, (wst ρ O n).1 = none ↔ ∀ c d, c < n → O c = some d → pcW ρ c * gap ρ c d = 0
  | 0 => ⟨fun _ c d hc => by omega, fun _ => rfl⟩
  | n + 1 => by
    have ih := wst_none_iff (ρ := ρ) (O := O) (n := n)
    cases e : O n with
    | none =>
      rw [wst_n e, ih]
      refine ⟨fun h c d hc q => ?_, fun h c d hc q => h c d (by omega) q⟩
      by_cases z : c = n
      · subst z; rw [e] at q; cases q
      · exact h c d (by omega) q
    | some d =>
      by_cases q : pcW ρ n * gap ρ n d * (wst ρ O n).2.2 ≤ (wst ρ O n).2.1 * spn ρ d
      · rw [wst_le e q]
        constructor
        · intro h c d' hc q'
          by_cases z : c = n
          · subst z
            rw [e] at q'; injection q' with q'; subst q'
            rw [wst_none h] at q
            simp only [Nat.mul_one, Nat.zero_mul] at q
            omega
          · exact ih.mp h c d' (by omega) q'
        · intro h; exact ih.mpr (fun c d' hc q' => h c d' (by omega) q')
      · rw [wst_gt e q]
        constructor
        · intro h; cases h
        · intro h
          exfalso
          have h1 := ih.mpr (fun c d' hc q' => h c d' (by omega) q')
          have h2 := h n d (by omega) e
          rw [wst_none h1] at q
          simp only [Nat.mul_one, Nat.zero_mul] at q
          omega
theorem wst_congr {ρ : Pic} {O P : Nat → Option Nat} : ∀ {n : Nat}, (∀ c, c < n → O c = P c) → wst ρ O n = wst ρ P n
  | 0, _ => rfl
  | n + 1, h => by
    have ih := wst_congr (ρ := ρ) (O := O) (P := P) (n := n) (fun c hc => h c (by omega))
    simp only [wst]
    rw [ih, h n (by omega)]
/-- the fraction that stands is small enough for longs -/
theorem wst_bd {ρ : Pic} (g : Good ρ) {O : Nat → Option Nat} (hO : ∀ c d, O c = some d → d < pcn ρ) : ∀ {n : Nat}, n ≤ pcc ρ → (wst ρ O n).2.1 ≤ 84214080000 ∧ (wst ρ O n).2.2 ≤ 12960000
  | 0, _ => ⟨Nat.zero_le _, by show 1 ≤ 12960000; decide⟩
  | n + 1, h => by
    have ih := wst_bd g hO (n := n) (by omega)
    cases e : O n with
    | none => rw [wst_n e]; exact ih
    | some d =>
      by_cases q : pcW ρ n * gap ρ n d * (wst ρ O n).2.2 ≤ (wst ρ O n).2.1 * spn ρ d
      · rw [wst_le e q]; exact ih
      · rw [wst_gt e q]
        have hd := hO n d e
        exact ⟨Nat.le_trans (Nat.mul_le_mul (pcW_le g (by omega)) (gap_le g (by omega) hd)) (by decide), (spn_pos g hd).2⟩
/-- dots that are not empty go to their middles -/
noncomputable def mids (ρ : Pic) : Nat → Pic
  | 0 => ρ
  | k + 1 => if load ρ k = 0 then mids ρ k else lay (mids ρ k) k (smX ρ k) (smY ρ k) (load ρ k)
/-- then empty ones, by number -/
noncomputable def emO (ρ π : Pic) (k c : Nat) : Option Nat := ow π (fun e => ¬ load ρ e = 0 ∨ e < k) c (pcn ρ)
noncomputable def ems (ρ : Pic) : Nat → Pic
  | 0 => mids ρ (pcn ρ)
  | k + 1 => if load ρ k = 0 then (match (wst (ems ρ k) (emO ρ (ems ρ k) k) (pcc ρ)).1 with
      | none => ems ρ k
      | some c => setD (ems ρ k) k (c % pcw ρ) (c / pcw ρ) 1) else ems ρ k
noncomputable def rnd (ρ : Pic) : Pic := ems ρ (pcn ρ)
def same (ρ π : Pic) (d : Nat) : Prop := pcX ρ d = pcX π d ∧ pcY ρ d = pcY π d ∧ pcD ρ d = pcD π d
noncomputable def mvd (ρ : Pic) : Nat := sumN (fun d => wN (¬ same ρ (rnd ρ) d) 1) (pcn ρ)
/-- as a picture, but for its dots -/
def Like (ρ π : Pic) : Prop := pcw π = pcw ρ ∧ pch π = pch ρ ∧ pcs π = pcs ρ ∧ pcn π = pcn ρ ∧ ∀ c, c < 400 → pcW π c = pcW ρ c
theorem Like.rf {ρ : Pic} : Like ρ ρ := ⟨rfl, rfl, rfl, rfl, fun _ _ => rfl⟩
theorem Like.setD {ρ π : Pic} (h : Like ρ π) {d x y q : Nat} : Like ρ (setD π d x y q) := by
  obtain ⟨a, b, c, d', e⟩ := h
  obtain ⟨a2, b2, c2, d2⟩ := @setD_h π d x y q
  exact ⟨a2.trans a, b2.trans b, c2.trans c, d2.trans d', fun c hc => (setD_W hc).trans (e c hc)⟩
theorem Like.cc {ρ π : Pic} (h : Like ρ π) : pcc π = pcc ρ := by unfold pcc; rw [h.1, h.2.1]
theorem sm_le {ρ : Pic} (g : Good ρ) (d : Nat) : smX ρ d ≤ (pcw ρ - 1) * load ρ d ∧ smY ρ d ≤ (pch ρ - 1) * load ρ d := by
  have key : ∀ (f : Nat → Nat) (m : Nat), (∀ c, c < pcc ρ → f c ≤ m) → ∀ n, n ≤ pcc ρ → sumN (fun c => wN (own ρ c = some d) (pcW ρ c * f c)) n ≤ m * sumN (fun c => wN (own ρ c = some d) (pcW ρ c)) n := by
    intro f m hf n
    induction n with
    | zero => intro _; simp [sumN]
    | succ n ih =>
      intro hn
      simp only [sumN]
      rw [Nat.mul_add]
      refine Nat.add_le_add (ih (by omega)) ?_
      by_cases q : own ρ n = some d
      · rw [wN_T q, wN_T q, Nat.mul_comm]; exact Nat.mul_le_mul_right _ (hf n (by omega))
      · rw [wN_F q]; exact Nat.zero_le _
  refine ⟨key (fun c => c % pcw ρ) _ (fun c hc => ?_) _ (Nat.le_refl _), key (fun c => c / pcw ρ) _ (fun c hc => ?_) _ (Nat.le_refl _)⟩
  · have := (g.xy hc).1; omega
  · have := (g.xy hc).2; omega
theorem mids_ok {ρ : Pic} (g : Good ρ) : ∀ k, k ≤ pcn ρ → Good (mids ρ k) ∧ Like ρ (mids ρ k)
  | 0, _ => ⟨g, Like.rf⟩
  | k + 1, h => by
    obtain ⟨a, b⟩ := mids_ok g k (by omega)
    simp only [mids]
    by_cases q : load ρ k = 0
    · rw [if_pos q]; exact ⟨a, b⟩
    · rw [if_neg q]
      have sl := sm_le g k
      have ll := load_le g k
      refine ⟨good_lay a (by rw [b.2.2.2.1]; omega) (by omega) (by omega) (by rw [b.1]; exact sl.1) (by rw [b.2.1]; exact sl.2), b.setD⟩
theorem ems_ok {ρ : Pic} (g : Good ρ) : ∀ k, k ≤ pcn ρ → Good (ems ρ k) ∧ Like ρ (ems ρ k)
  | 0, _ => mids_ok g _ (Nat.le_refl _)
  | k + 1, h => by
    obtain ⟨a, b⟩ := ems_ok g k (by omega)
    simp only [ems]
    by_cases q : load ρ k = 0
    · rw [if_pos q]
      cases e : (wst (ems ρ k) (emO ρ (ems ρ k) k) (pcc ρ)).1 with
      | none => exact ⟨a, b⟩
      | some c =>
        have hc := wst_lt e
        have xy := g.xy hc
        refine ⟨good_setD a (by rw [b.2.2.2.1]; omega) ⟨by decide, by decide, ?_, ?_, Nat.gcd_one_right _⟩, b.setD⟩
        · rw [b.1]; omega
        · rw [b.2.1]; omega
    · rw [if_neg q]; exact ⟨a, b⟩
theorem rnd_ok {ρ : Pic} (g : Good ρ) : Good (rnd ρ) ∧ Like ρ (rnd ρ) := ems_ok g _ (Nat.le_refl _)
theorem smX_lt {ρ : Pic} (g : Good ρ) (d : Nat) : smX ρ d < 2 ^ 31 ∧ smY ρ d < 2 ^ 31 := by
  have a := sm_le g d
  have b := load_le g d
  have c := g.n
  exact ⟨Nat.lt_of_le_of_lt (Nat.le_trans a.1 (Nat.mul_le_mul (show pcw ρ - 1 ≤ 20 by omega) b)) (by decide), Nat.lt_of_le_of_lt (Nat.le_trans a.2 (Nat.mul_le_mul (show pch ρ - 1 ≤ 20 by omega) b)) (by decide)⟩
/-- without loads there are no weights -/
theorem no_load {ρ : Pic} (h : ∀ d, d < pcn ρ → load ρ d = 0) (hn : 0 < pcn ρ) {c : Nat} (hc : c < pcc ρ) : pcW ρ c = 0 := by
  obtain ⟨b, hb⟩ := own_some (ρ := ρ) (c := c) hn
  have h1 := h b (own_lt hb)
  have h2 := sumN_pos (f := fun c => wN (own ρ c = some b) (pcW ρ c)) hc
  unfold load at h1
  rw [h1] at h2
  simp only [wN_T hb] at h2
  omega
/-- stuck for some is stuck for more -/
theorem wst_more {ρ π : Pic} (g : Good π) (lk : Like ρ π) {S T : Nat → Prop} (hST : ∀ d, d < pcn ρ → S d → T d) (hS0 : (∃ d, d < pcn ρ ∧ S d) ∨ ∀ c, c < pcc ρ → pcW ρ c = 0) (h : (wst π (fun c => ow π S c (pcn ρ)) (pcc ρ)).1 = none) : (wst π (fun c => ow π T c (pcn ρ)) (pcc ρ)).1 = none := by
  rw [wst_none_iff] at h ⊢
  intro c d hc e
  have gc := g.c
  rw [lk.cc] at gc
  rcases hS0 with ⟨s, hs, ss⟩ | h0
  · obtain ⟨b, hb⟩ := ow_some (ρ := π) (c := c) hs ss
    have bl := ow_lt hb
    have h1 := h c b hc hb
    rcases Nat.mul_eq_zero.mp h1 with z | z
    · rw [z, Nat.zero_mul]
    · have sp : ∀ d, d < pcn ρ → 0 < spn π d := fun d hd => (spn_pos g (by rw [lk.2.2.2.1]; exact hd)).1
      rcases ow_is (S := T) (c := c) sp with ⟨q, -⟩ | ⟨b', q, hb', sb', hh⟩
      · rw [q] at e; cases e
      · rw [q] at e; injection e with e; subst e
        have := (hh b bl.1 (hST b bl.1 bl.2)).1
        rw [z, Nat.zero_mul] at this
        have h3 : gap π c b' * spn π b = 0 := by omega
        rcases Nat.mul_eq_zero.mp h3 with y | y
        · rw [y, Nat.mul_zero]
        · have := sp b bl.1; omega
  · rw [lk.2.2.2.2 c (by omega), h0 c hc, Nat.zero_mul]
