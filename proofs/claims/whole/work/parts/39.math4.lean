/-! ===== drawing ===== -/
theorem good_pu2 {ρ : Pic} (g : Good ρ) {s : Nat} (hs : s < 2 ^ 31) : Good (pu ρ 2 s) := by
  have g1 := g.n
  have e : ∀ j, j ≠ 2 → pu ρ 2 s j = ρ j := fun j hj => pu_ne hj
  have e0 : pcw (pu ρ 2 s) = pcw ρ := e 0 (by decide)
  have e1 : pch (pu ρ 2 s) = pch ρ := e 1 (by decide)
  have e3 : pcn (pu ρ 2 s) = pcn ρ := e 3 (by decide)
  have e2 : pcs (pu ρ 2 s) = s := pu_eq (ρ := ρ) (j := 2)
  refine ⟨by rw [e0, e1, e2, e3]; omega, fun c hc => ?_, fun d hd => ?_, fun k hk => ?_⟩
  · show pu ρ 2 s (4 + c) ≤ 9
    rw [e _ (by omega)]; exact g.2.1 c hc
  · rw [e0, e1]
    rw [e3] at hd
    show DotOK _ _ (pu ρ 2 s _) (pu ρ 2 s _) (pu ρ 2 s _)
    rw [e _ (by omega), e _ (by omega), e _ (by omega)]; exact g.2.2.1 d hd
  · show pu ρ 2 s k = 0
    rw [e _ (by omega)]; exact g.2.2.2 k hk
theorem good_puW {ρ : Pic} (g : Good ρ) {c v : Nat} (hc : c < 400) (hv : v ≤ 9) : Good (pu ρ (4 + c) v) := by
  have g1 := g.n
  have e : ∀ j, j < 4 ∨ 404 ≤ j → pu ρ (4 + c) v j = ρ j := fun j hj => pu_ne (by omega)
  have e0 : pcw (pu ρ (4 + c) v) = pcw ρ := e 0 (by decide)
  have e1 : pch (pu ρ (4 + c) v) = pch ρ := e 1 (by decide)
  have e2 : pcs (pu ρ (4 + c) v) = pcs ρ := e 2 (by decide)
  have e3 : pcn (pu ρ (4 + c) v) = pcn ρ := e 3 (by decide)
  refine ⟨by rw [e0, e1, e2, e3]; omega, fun b hb => ?_, fun d hd => ?_, fun k hk => ?_⟩
  · show pu ρ (4 + c) v (4 + b) ≤ 9
    by_cases q : b = c
    · subst q; rw [pu_eq]; exact hv
    · rw [pu_ne (by omega)]; exact g.2.1 b hb
  · rw [e0, e1]
    rw [e3] at hd
    show DotOK _ _ (pu ρ _ v _) (pu ρ _ v _) (pu ρ _ v _)
    rw [e _ (by omega), e _ (by omega), e _ (by omega)]; exact g.2.2.1 d hd
  · show pu ρ _ v k = 0
    rw [e _ (by omega)]; exact g.2.2.2 k hk
def nxs (ρ : Pic) : Nat := (pcs ρ * 1103515245 + 12345) % 2147483648
noncomputable def bw (ρ : Pic) (c : Nat) : Nat := wN (bare ρ c) (pcW ρ c)
noncomputable def bwA (ρ : Pic) : Nat := sumN (bw ρ) (pcc ρ)
noncomputable def pck (ρ : Pic) (t : Nat) : Nat := sumN (fun c => wN (sumN (bw ρ) (c + 1) ≤ t) 1) (pcc ρ)
theorem sumN_mn {f : Nat → Nat} {a b : Nat} (h : a ≤ b) : sumN f a ≤ sumN f b := by
  induction b with
  | zero => rw [show a = 0 by omega]; exact Nat.le_refl _
  | succ b ih =>
    by_cases e : a = b + 1
    · rw [e]; exact Nat.le_refl _
    · exact Nat.le_trans (ih (by omega)) (by simp only [sumN]; omega)
/-- how many come ahead of the first by which a growing sum passes t -/
theorem cnt_first {f : Nat → Nat} {t c : Nat} : ∀ {n : Nat}, c ≤ n → sumN f c ≤ t → (c < n → t < sumN f (c + 1)) → sumN (fun i => wN (sumN f (i + 1) ≤ t) 1) n = c
  | 0, h, _, _ => by rw [show c = 0 by omega]; rfl
  | n + 1, h, h1, h2 => by
    show sumN (fun i => wN (sumN f (i + 1) ≤ t) 1) n + wN (sumN f (n + 1) ≤ t) 1 = c
    by_cases e : c = n + 1
    · subst e
      have ih := cnt_first (f := f) (t := t) (c := n) (n := n) (Nat.le_refl _) (Nat.le_trans (sumN_mn (by omega)) h1) (fun q => by omega)
      rw [ih, wN_T h1]
    · have ih := cnt_first (f := f) (t := t) (c := c) (n := n) (by omega) h1 (fun q => h2 (by omega))
      have h3 : t < sumN f (n + 1) := Nat.lt_of_lt_of_le (h2 (by omega)) (sumN_mn (by omega))
      rw [ih, wN_F (by omega), Nat.add_zero]
theorem pck_eq {ρ : Pic} {t c : Nat} (hc : c < pcc ρ) (h1 : sumN (bw ρ) c ≤ t) (h2 : t < sumN (bw ρ) (c + 1)) : pck ρ t = c := cnt_first (by omega) h1 (fun _ => h2)
noncomputable def drC (ρ : Pic) : Nat := pck ρ (nxs ρ / 65536 % bwA ρ)
noncomputable def drw (ρ : Pic) : Pic := addD (pu ρ 2 (nxs ρ)) (drC ρ % pcw ρ) (drC ρ / pcw ρ)
noncomputable def drwN (ρ : Pic) : Nat → Pic
  | 0 => ρ
  | k + 1 => drw (drwN ρ k)
noncomputable def free (ρ : Pic) : Nat := sumN (fun c => wN (0 < pcW ρ c ∧ bare ρ c) 1) (pcc ρ)
/-- a sum that passes t has a first place where it does -/
theorem sum_pass {f : Nat → Nat} {t : Nat} : ∀ {n : Nat}, t < sumN f n → ∃ c, c < n ∧ sumN f c ≤ t ∧ t < sumN f (c + 1)
  | 0, h => by simp [sumN] at h
  | n + 1, h => by
    by_cases q : t < sumN f n
    · obtain ⟨c, a, b⟩ := sum_pass q
      exact ⟨c, by omega, b⟩
    · exact ⟨n, by omega, by omega, h⟩
theorem free_bw {ρ : Pic} (h : 0 < free ρ) : 0 < bwA ρ := by
  have : free ρ ≤ bwA ρ := sumN_mono fun c _ => by
    unfold bw
    by_cases q : 0 < pcW ρ c ∧ bare ρ c
    · rw [wN_T q, wN_T q.2]; omega
    · rw [wN_F q]; omega
  omega
theorem drC_lt {ρ : Pic} (h : 0 < bwA ρ) : drC ρ < pcc ρ ∧ sumN (bw ρ) (drC ρ) ≤ nxs ρ / 65536 % bwA ρ ∧ nxs ρ / 65536 % bwA ρ < sumN (bw ρ) (drC ρ + 1) := by
  obtain ⟨c, a, b, d⟩ := sum_pass (f := bw ρ) (n := pcc ρ) (Nat.mod_lt (nxs ρ / 65536) h)
  have e : drC ρ = c := pck_eq a b d
  rw [e]; exact ⟨a, b, d⟩
theorem nxs_lt (ρ : Pic) : nxs ρ < 2 ^ 31 := Nat.mod_lt _ (by decide)
theorem addD_X {ρ : Pic} {x y d : Nat} : pcX (addD ρ x y) d = if d = pcn ρ then x else pcX ρ d := by
  have e : pcX (addD ρ x y) d = pcX (setD ρ (pcn ρ) x y 1) d := pu_ne (by omega)
  rw [e]
  by_cases q : d = pcn ρ
  · rw [if_pos q, q, setD_X]
  · rw [if_neg q, setD_Xn q]
theorem addD_Y {ρ : Pic} {x y d : Nat} : pcY (addD ρ x y) d = if d = pcn ρ then y else pcY ρ d := by
  have e : pcY (addD ρ x y) d = pcY (setD ρ (pcn ρ) x y 1) d := pu_ne (by omega)
  rw [e]
  by_cases q : d = pcn ρ
  · rw [if_pos q, q, setD_Y]
  · rw [if_neg q, setD_Yn q]
theorem addD_D {ρ : Pic} {x y d : Nat} : pcD (addD ρ x y) d = if d = pcn ρ then 1 else pcD ρ d := by
  have e : pcD (addD ρ x y) d = pcD (setD ρ (pcn ρ) x y 1) d := pu_ne (by omega)
  rw [e]
  by_cases q : d = pcn ρ
  · rw [if_pos q, q, setD_D]
  · rw [if_neg q, setD_Dn q]
theorem addD_h {ρ : Pic} {x y : Nat} : pcw (addD ρ x y) = pcw ρ ∧ pch (addD ρ x y) = pch ρ ∧ pcs (addD ρ x y) = pcs ρ ∧ pcc (addD ρ x y) = pcc ρ := by
  have e : ∀ j, j ≠ 3 → j < 404 → addD ρ x y j = ρ j := fun j h1 h2 => by unfold addD; rw [pu_ne h1]; exact setD_lo h2
  have a : pcw (addD ρ x y) = pcw ρ := e 0 (by decide) (by decide)
  have b : pch (addD ρ x y) = pch ρ := e 1 (by decide) (by decide)
  exact ⟨a, b, e 2 (by decide) (by decide), by unfold pcc; rw [a, b]⟩
theorem addD_W {ρ : Pic} {x y c : Nat} (hc : c < 400) : pcW (addD ρ x y) c = pcW ρ c := by
  show addD ρ x y (4 + c) = ρ (4 + c)
  unfold addD; rw [pu_ne (by omega)]; exact setD_lo (by omega)
theorem lies_pu2 {ρ : Pic} {s d x y : Nat} : lies (pu ρ 2 s) d x y ↔ lies ρ d x y := by
  unfold lies pcD pcX pcY
  rw [pu_ne (by omega), pu_ne (by omega), pu_ne (by omega)]
theorem bare_pu2 {ρ : Pic} {s c : Nat} : bare (pu ρ 2 s) c ↔ bare ρ c := by
  have e0 : pcw (pu ρ 2 s) = pcw ρ := pu_ne (by decide)
  have e3 : pcn (pu ρ 2 s) = pcn ρ := pu_ne (by decide)
  unfold bare
  rw [e0, e3]
  exact ⟨fun q d hd z => q d hd (lies_pu2.mpr z), fun q d hd z => q d hd (lies_pu2.mp z)⟩
theorem bare_addD {ρ : Pic} {x y c : Nat} : bare (addD ρ x y) c ↔ (bare ρ c ∧ ¬ (x = c % pcw ρ ∧ y = c / pcw ρ)) := by
  obtain ⟨ew, -, -, -⟩ := @addD_h ρ x y
  unfold bare lies
  rw [ew, addD_n]
  constructor
  · intro q
    refine ⟨fun d hd z => ?_, fun z => ?_⟩
    · have := q d (by omega)
      rw [addD_D, addD_X, addD_Y, if_neg (by omega), if_neg (by omega), if_neg (by omega)] at this
      exact this z
    · have := q (pcn ρ) (by omega)
      rw [addD_D, addD_X, addD_Y, if_pos rfl, if_pos rfl, if_pos rfl] at this
      exact this ⟨rfl, z.1, z.2⟩
  · rintro ⟨q1, q2⟩ d hd
    rw [addD_D, addD_X, addD_Y]
    by_cases e : d = pcn ρ
    · rw [if_pos e, if_pos e, if_pos e]; exact fun z => q2 ⟨z.2.1, z.2.2⟩
    · rw [if_neg e, if_neg e, if_neg e]; exact q1 d (by omega)
theorem drw_h {ρ : Pic} : pcw (drw ρ) = pcw ρ ∧ pch (drw ρ) = pch ρ ∧ pcn (drw ρ) = pcn ρ + 1 ∧ pcc (drw ρ) = pcc ρ := by
  obtain ⟨a, b, c, d⟩ := @addD_h (pu ρ 2 (nxs ρ)) (drC ρ % pcw ρ) (drC ρ / pcw ρ)
  have e0 : pcw (pu ρ 2 (nxs ρ)) = pcw ρ := pu_ne (by decide)
  have e1 : pch (pu ρ 2 (nxs ρ)) = pch ρ := pu_ne (by decide)
  have e3 : pcn (pu ρ 2 (nxs ρ)) = pcn ρ := pu_ne (by decide)
  refine ⟨a.trans e0, b.trans e1, ?_, d.trans (by unfold pcc; rw [e0, e1])⟩
  show pcn (addD _ _ _) = _
  rw [addD_n, e3]
theorem drw_W {ρ : Pic} {c : Nat} (hc : c < 400) : pcW (drw ρ) c = pcW ρ c := by
  show pcW (addD _ _ _) c = _
  rw [addD_W hc]; exact pu_ne (by omega)
theorem good_drw {ρ : Pic} (g : Good ρ) (hn : pcn ρ < 40) (hb : 0 < bwA ρ) : Good (drw ρ) := by
  have e0 : pcw (pu ρ 2 (nxs ρ)) = pcw ρ := pu_ne (by decide)
  have e1 : pch (pu ρ 2 (nxs ρ)) = pch ρ := pu_ne (by decide)
  have e3 : pcn (pu ρ 2 (nxs ρ)) = pcn ρ := pu_ne (by decide)
  have hx := g.xy (drC_lt hb).1
  exact good_addD (good_pu2 g (nxs_lt ρ)) (by rw [e3]; exact hn) (by rw [e0]; exact hx.1) (by rw [e1]; exact hx.2)
theorem sumN_one {f g : Nat → Nat} {a : Nat} : ∀ {n : Nat}, (∀ i, i < n → i ≠ a → f i ≤ g i) → (a < n → f a ≤ g a + 1) → sumN f n ≤ sumN g n + 1
  | 0, _, _ => by simp [sumN]
  | n + 1, h, h2 => by
    simp only [sumN]
    by_cases e : n = a
    · have := sumN_mono (f := f) (g := g) (n := n) (fun i hi => h i (by omega) (by omega))
      have := h2 (by omega)
      subst e; omega
    · have := sumN_one (f := f) (g := g) (a := a) (n := n) (fun i hi => h i (by omega)) (fun q => h2 (by omega))
      have := h n (by omega) e
      omega
theorem free_drw {ρ : Pic} (g : Good ρ) (hb : 0 < bwA ρ) : free ρ ≤ free (drw ρ) + 1 := by
  obtain ⟨ew, -, -, ec⟩ := @drw_h ρ
  have gc := g.c
  unfold free
  rw [ec]
  refine sumN_one (a := drC ρ) (fun i hi hne => ?_) (fun _ => Nat.le_trans (wN_le _ _) (by omega))
  rw [drw_W (by omega)]
  refine Nat.le_of_eq (wN_eq ?_)
  have e0 : pcw (pu ρ 2 (nxs ρ)) = pcw ρ := pu_ne (by decide)
  show _ ↔ (_ ∧ bare (addD _ _ _) i)
  rw [bare_addD, bare_pu2, e0]
  refine ⟨fun q => ⟨q.1, q.2, fun z => hne ?_⟩, fun q => ⟨q.1, q.2.1⟩⟩
  have h1 := Nat.div_add_mod i (pcw ρ)
  have h2 := Nat.div_add_mod (drC ρ) (pcw ρ)
  rw [z.1, z.2] at h2
  omega
theorem drwN_ok {ρ : Pic} (g : Good ρ) {n : Nat} (hn : pcn ρ + n ≤ 40) (hf : n ≤ free ρ) : ∀ k, k ≤ n → Good (drwN ρ k) ∧ pcn (drwN ρ k) = pcn ρ + k ∧ free ρ ≤ free (drwN ρ k) + k ∧ pcc (drwN ρ k) = pcc ρ ∧ pcw (drwN ρ k) = pcw ρ
  | 0, _ => ⟨g, rfl, Nat.le_refl _, rfl, rfl⟩
  | k + 1, h => by
    obtain ⟨a, b, c, d, e⟩ := drwN_ok g hn hf k (by omega)
    have hb : 0 < bwA (drwN ρ k) := free_bw (by omega)
    obtain ⟨d1, d2, d3, d4⟩ := @drw_h (drwN ρ k)
    have fr := free_drw a hb
    refine ⟨good_drw a (by omega) hb, ?_, ?_, d4.trans d, d1.trans e⟩
    · show pcn (drw _) = _
      rw [d3, b]; omega
    · show _ ≤ free (drw _) + _
      omega
