/-! ===== who lies beside whom; grey; squares ===== -/
def bsd (ρ : Pic) (c e : Nat) : Prop := ad (c % pcw ρ) (e % pcw ρ) + ad (c / pcw ρ) (e / pcw ρ) = 1
theorem modk {w c k : Nat} (hw : 1 ≤ w) (hk : k ≤ w) : (c % w + k < w ∧ (c + k) % w = c % w + k ∧ (c + k) / w = c / w) ∨ (w ≤ c % w + k ∧ (c + k) % w = c % w + k - w ∧ (c + k) / w = c / w + 1) := by
  have e := Nat.div_add_mod c w
  have l := Nat.mod_lt c hw
  by_cases q : c % w + k < w
  · refine Or.inl ⟨q, ?_, ?_⟩
    · rw [show c + k = w * (c / w) + (c % w + k) by omega, Nat.mul_add_mod, Nat.mod_eq_of_lt q]
    · rw [show c + k = w * (c / w) + (c % w + k) by omega, Nat.mul_add_div hw, Nat.div_eq_of_lt q]; rfl
  · have e2 : c + k = w * (c / w + 1) + (c % w + k - w) := by rw [Nat.mul_succ]; omega
    refine Or.inr ⟨by omega, ?_, ?_⟩
    · rw [e2, Nat.mul_add_mod, Nat.mod_eq_of_lt (by omega)]
    · rw [e2, Nat.mul_add_div hw, Nat.div_eq_of_lt (show c % w + k - w < w by omega)]
theorem bsd_k {ρ : Pic} {c k : Nat} (hw : 1 ≤ pcw ρ) (h1 : 1 ≤ k) (h2 : k ≤ pcw ρ) : bsd ρ c (c + k) ↔ ((k = 1 ∧ c % pcw ρ + 1 < pcw ρ) ∨ k = pcw ρ) := by
  have l := Nat.mod_lt c hw
  unfold bsd ad
  rcases modk (c := c) hw h2 with ⟨a, b, d⟩ | ⟨a, b, d⟩
  · rw [b, d]
    constructor
    · intro q; left; omega
    · rintro (q | q) <;> omega
  · rw [b, d]
    constructor
    · intro q; right; omega
    · rintro (q | q) <;> omega
/-- the owners of two cells are these two -/
def pr (ρ : Pic) (a b c e : Nat) : Prop := (own ρ c = some a ∧ own ρ e = some b) ∨ (own ρ c = some b ∧ own ρ e = some a)
noncomputable def tc1 (ρ : Pic) (a b c : Nat) : Nat := wN (c % pcw ρ + 1 < pcw ρ ∧ pr ρ a b c (c + 1)) 1 + wN (c / pcw ρ + 1 < pch ρ ∧ pr ρ a b c (c + pcw ρ)) 1
noncomputable def tch (ρ : Pic) (a b : Nat) : Nat := sumN (tc1 ρ a b) (pcc ρ)
theorem cell_lt {ρ : Pic} (g : Good ρ) {c : Nat} (hc : c < pcc ρ) : (c % pcw ρ + 1 < pcw ρ → c + 1 < pcc ρ) ∧ (c / pcw ρ + 1 < pch ρ ↔ c + pcw ρ < pcc ρ) := by
  have gn := g.n
  have e := Nat.div_add_mod c (pcw ρ)
  have xy := g.xy hc
  have m1 : pcw ρ * (c / pcw ρ + 1) ≤ pcw ρ * pch ρ := Nat.mul_le_mul_left _ xy.2
  rw [Nat.mul_succ] at m1
  unfold pcc at hc ⊢
  refine ⟨fun q => by omega, fun q => ?_, fun q => ?_⟩
  · have m2 : pcw ρ * (c / pcw ρ + 1 + 1) ≤ pcw ρ * pch ρ := Nat.mul_le_mul_left _ q
    rw [Nat.mul_succ, Nat.mul_succ] at m2
    omega
  · refine Nat.lt_of_not_le fun z => ?_
    have m2 : pcw ρ * pch ρ ≤ pcw ρ * (c / pcw ρ + 1) := Nat.mul_le_mul_left _ z
    rw [Nat.mul_succ] at m2
    omega
/-- what was counted of a cell's partners up to the k-th behind it -/
noncomputable def tcp (ρ : Pic) (a b c k : Nat) : Nat := wN (1 ≤ k ∧ c % pcw ρ + 1 < pcw ρ ∧ pr ρ a b c (c + 1)) 1 + wN (pcw ρ ≤ k ∧ c / pcw ρ + 1 < pch ρ ∧ pr ρ a b c (c + pcw ρ)) 1
theorem tcp_0 {ρ : Pic} (g : Good ρ) {a b c : Nat} : tcp ρ a b c 0 = 0 := by
  have := g.n
  unfold tcp; rw [wN_F (by omega), wN_F (by omega)]
theorem tcp_s {ρ : Pic} (g : Good ρ) {a b c k : Nat} (hc : c + (k + 1) < pcc ρ) (hk : k + 1 ≤ pcw ρ) : tcp ρ a b c (k + 1) = tcp ρ a b c k + wN (pr ρ a b c (c + (k + 1)) ∧ bsd ρ c (c + (k + 1))) 1 := by
  have gn := g.n
  have hb := bsd_k (ρ := ρ) (c := c) gn.1 (show 1 ≤ k + 1 by omega) hk
  have cl := cell_lt g (show c < pcc ρ by omega)
  unfold tcp
  by_cases h1 : k + 1 = pcw ρ
  · -- the one below
    have hy : c / pcw ρ + 1 < pch ρ := cl.2.mpr (by omega)
    have e1 : wN (pcw ρ ≤ k ∧ c / pcw ρ + 1 < pch ρ ∧ pr ρ a b c (c + pcw ρ)) 1 = 0 := wN_F (by omega)
    have e2 : wN (pcw ρ ≤ k + 1 ∧ c / pcw ρ + 1 < pch ρ ∧ pr ρ a b c (c + pcw ρ)) 1 = wN (pr ρ a b c (c + (k + 1)) ∧ bsd ρ c (c + (k + 1))) 1 := by
      rw [h1] at hb ⊢
      exact wN_eq ⟨fun z => ⟨z.2.2, hb.mpr (Or.inr rfl)⟩, fun z => ⟨Nat.le_refl _, hy, z.1⟩⟩
    have e3 : wN (1 ≤ k + 1 ∧ c % pcw ρ + 1 < pcw ρ ∧ pr ρ a b c (c + 1)) 1 = wN (1 ≤ k ∧ c % pcw ρ + 1 < pcw ρ ∧ pr ρ a b c (c + 1)) 1 := wN_eq ⟨fun z => ⟨by omega, z.2⟩, fun z => ⟨by omega, z.2⟩⟩
    rw [e1, e2, e3]; omega
  · have e1 : wN (pcw ρ ≤ k ∧ c / pcw ρ + 1 < pch ρ ∧ pr ρ a b c (c + pcw ρ)) 1 = 0 := wN_F (by omega)
    have e2 : wN (pcw ρ ≤ k + 1 ∧ c / pcw ρ + 1 < pch ρ ∧ pr ρ a b c (c + pcw ρ)) 1 = 0 := wN_F (by omega)
    rw [e1, e2]
    by_cases h2 : k = 0
    · subst h2
      rw [wN_F (p := 1 ≤ 0 ∧ _) (by omega)]
      have : wN (1 ≤ 0 + 1 ∧ c % pcw ρ + 1 < pcw ρ ∧ pr ρ a b c (c + 1)) 1 = wN (pr ρ a b c (c + (0 + 1)) ∧ bsd ρ c (c + (0 + 1))) 1 :=
        wN_eq ⟨fun z => ⟨z.2.2, hb.mpr (Or.inl ⟨rfl, z.2.1⟩)⟩, fun z => ⟨by omega, (hb.mp z.2).elim (fun y => y.2) (fun y => absurd y h1), z.1⟩⟩
      rw [this]; simp
    · have : wN (pr ρ a b c (c + (k + 1)) ∧ bsd ρ c (c + (k + 1))) 1 = 0 := wN_F fun z => (hb.mp z.2).elim (fun y => by omega) h1
      rw [this]
      have : wN (1 ≤ k + 1 ∧ c % pcw ρ + 1 < pcw ρ ∧ pr ρ a b c (c + 1)) 1 = wN (1 ≤ k ∧ c % pcw ρ + 1 < pcw ρ ∧ pr ρ a b c (c + 1)) 1 := wN_eq ⟨fun z => ⟨by omega, z.2⟩, fun z => ⟨by omega, z.2⟩⟩
      rw [this]
theorem tcp_end {ρ : Pic} (g : Good ρ) {a b c k : Nat} (hc : c < pcc ρ) (h : pcw ρ ≤ k ∨ pcc ρ ≤ c + (k + 1)) : tcp ρ a b c k = tc1 ρ a b c := by
  have gn := g.n
  have cl := cell_lt g hc
  unfold tcp tc1
  have e1 : wN (1 ≤ k ∧ c % pcw ρ + 1 < pcw ρ ∧ pr ρ a b c (c + 1)) 1 = wN (c % pcw ρ + 1 < pcw ρ ∧ pr ρ a b c (c + 1)) 1 := wN_eq ⟨fun z => z.2, fun z => ⟨by have := cl.1 z.1; omega, z⟩⟩
  have e2 : wN (pcw ρ ≤ k ∧ c / pcw ρ + 1 < pch ρ ∧ pr ρ a b c (c + pcw ρ)) 1 = wN (c / pcw ρ + 1 < pch ρ ∧ pr ρ a b c (c + pcw ρ)) 1 := wN_eq ⟨fun z => z.2, fun z => ⟨by have := cl.2.mp z.1; omega, z⟩⟩
  rw [e1, e2]
noncomputable def aTouch (ρ : Pic) (x y : Int32) : Int32 := cif (inN x (pcn ρ) ∧ inN y (pcn ρ) ∧ ¬ x = y) (nI (tch ρ (ix x) (ix y))) (-1)
/-- the first of a dot's cells with the greatest distance -/
noncomputable def frO (ρ : Pic) (d : Nat) : Nat → Option Nat
  | 0 => none
  | k + 1 => match frO ρ d k with
    | none => @ite _ (own ρ k = some d) (Classical.propDecidable _) (some k) none
    | some b => @ite _ (own ρ k = some d ∧ gap ρ b d < gap ρ k d) (Classical.propDecidable _) (some k) (some b)
theorem frO_lt {ρ : Pic} {d : Nat} : ∀ {k b : Nat}, frO ρ d k = some b → b < k ∧ own ρ b = some d
  | 0, b, h => by simp [frO] at h
  | k + 1, b, h => by
    simp only [frO] at h
    cases e : frO ρ d k with
    | none =>
      simp only [e] at h
      by_cases q : own ρ k = some d
      · rw [if_pos q] at h; injection h with h; subst h; exact ⟨by omega, q⟩
      · rw [if_neg q] at h; cases h
    | some a =>
      have ih := frO_lt e
      simp only [e] at h
      by_cases q : own ρ k = some d ∧ gap ρ a d < gap ρ k d
      · rw [if_pos q] at h; injection h with h; subst h; exact ⟨by omega, q.1⟩
      · rw [if_neg q] at h; injection h with h; subst h; exact ⟨by omega, ih.2⟩
def atE (ρ : Pic) (c : Nat) : Prop := c % pcw ρ = 0 ∨ c / pcw ρ = 0 ∨ c % pcw ρ = pcw ρ - 1 ∨ c / pcw ρ = pch ρ - 1
noncomputable def outs (ρ : Pic) (d : Nat) : Nat := sumN (fun c => wN (own ρ c = some d ∧ atE ρ c) 1) (pcc ρ)
noncomputable def tchA (ρ : Pic) (a : Nat) : Nat := sumN (fun d => wN (¬ d = a) (tch ρ a d)) (pcn ρ)
noncomputable def aEdge (ρ : Pic) (x w : Int32) : Int32 := cif (inN x (pcn ρ)) (sel w [oI (frO ρ (ix x) (pcc ρ)), nI (tchA ρ (ix x)), nI (outs ρ (ix x))]) (-1)
/-- a cell within a rectangle -/
def wi (ρ : Pic) (i j r q c : Nat) : Prop := (i ≤ c % pcw ρ ∧ c % pcw ρ ≤ r) ∧ (j ≤ c / pcw ρ ∧ c / pcw ρ ≤ q)
noncomputable def grey (ρ : Pic) (i j r q : Nat) : Nat := sumN (fun c => wN (wi ρ i j r q c) (pcW ρ c)) (pcc ρ)
noncomputable def dIn (ρ : Pic) (i j r q : Nat) : Nat := sumN (fun d => wN (wi ρ i j r q (spot ρ d)) 1) (pcn ρ)
noncomputable def aTone (ρ : Pic) (x y r q w : Int32) : Int32 := cif (isC ρ x y ∧ isC ρ r q ∧ x ≤ r ∧ y ≤ q) (sel w [nI (grey ρ (ix x) (ix y) (ix r) (ix q)), nI (dIn ρ (ix x) (ix y) (ix r) (ix q))]) (-1)
noncomputable def unP (ρ : Pic) (n x y : Nat) : Nat := dIn ρ x y (x + n - 1) (y + n - 1) * allW ρ
noncomputable def unQ (ρ : Pic) (n x y : Nat) : Nat := grey ρ x y (x + n - 1) (y + n - 1) * pcn ρ
noncomputable def unX (ρ : Pic) (n y : Nat) (s : Nat × Nat × Nat) : Nat → Nat × Nat × Nat
  | 0 => s
  | k + 1 => if ad (unX ρ n y s k).2.1 (unX ρ n y s k).2.2 < ad (unP ρ n k y) (unQ ρ n k y) then (pcw ρ * y + k, unP ρ n k y, unQ ρ n k y) else unX ρ n y s k
noncomputable def unY (ρ : Pic) (n : Nat) : Nat → Nat × Nat × Nat
  | 0 => (0, 0, 0)
  | k + 1 => unX ρ n k (unY ρ n k) (pcw ρ + 1 - n)
noncomputable def aUneven (ρ : Pic) (x w : Int32) : Int32 := cif (inN x (pcw ρ + 1) ∧ inN x (pch ρ + 1) ∧ ¬ x = 0 ∧ inN w 2) (sel w [nI (unY ρ (ix x) (pch ρ + 1 - ix x)).1, nI (unY ρ (ix x) (pch ρ + 1 - ix x)).2.1 - nI (unY ρ (ix x) (pch ρ + 1 - ix x)).2.2]) (-2147483648)
noncomputable def ownS (ρ : Pic) (s : Nat) : Nat := sumN (fun d => wN (∃ c, c < pcc ρ ∧ pcW ρ c = s ∧ own ρ c = some d) 1) (pcn ρ)
noncomputable def aShade (ρ : Pic) (s w : Int32) : Int32 := cif (inN s 10) (sel w [nI (sumN (fun c => wN (pcW ρ c = ix s) 1) (pcc ρ)), nI (sumN (fun d => wN (pcW ρ (spot ρ d) = ix s) 1) (pcn ρ)), nI (ownS ρ (ix s)), nI (sumN (fun c => wN (pcW ρ c = ix s) (cstO ρ c (own ρ c))) (pcc ρ))]) (-1)
theorem sumN_single {g : Nat → Nat} {a : Nat} : ∀ {n : Nat}, a < n → sumN (fun c => wN (a = c) (g c)) n = g a
  | 0, h => by omega
  | n + 1, h => by
    simp only [sumN]
    by_cases e : a = n
    · subst e
      rw [wN_T rfl, sumN_zero (fun i hi => wN_F (by omega))]; omega
    · rw [wN_F e, sumN_single (by omega)]; rfl
theorem sumN_swap {P : Nat → Prop} {f : Nat → Nat} {m : Nat} : ∀ {n : Nat}, (∀ d, d < n → f d < m) → sumN (fun c => wN (P c) (sumN (fun d => wN (f d = c) 1) n)) m = sumN (fun d => wN (P (f d)) 1) n
  | 0, _ => sumN_zero fun i _ => by
      by_cases q : P i
      · rw [wN_T q]; rfl
      · rw [wN_F q]
  | n + 1, h => by
    have ih := sumN_swap (P := P) (f := f) (m := m) (n := n) (fun d hd => h d (by omega))
    have e : sumN (fun c => wN (P c) (sumN (fun d => wN (f d = c) 1) (n + 1))) m = sumN (fun c => wN (P c) (sumN (fun d => wN (f d = c) 1) n) + wN (f n = c) (wN (P c) 1)) m := by
      refine sumN_congr fun c _ => ?_
      simp only [sumN]
      by_cases q : P c
      · rw [wN_T q, wN_T q, wN_T q]
      · rw [wN_F q, wN_F q, wN_F q]
        by_cases z : f n = c
        · rw [wN_T z]
        · rw [wN_F z]
    rw [e, sumN_add, ih, sumN_single (g := fun c => wN (P c) 1) (h n (by omega))]
    rfl
/-- a dot more at a cell -/
def mn (a b : Nat) : Nat := if a < b then a else b
def dq (ρ : Pic) (c a : Nat) : Nat := sqd (c % pcw ρ) (a % pcw ρ) + sqd (c / pcw ρ) (a / pcw ρ)
noncomputable def cmc (ρ : Pic) (O : Nat → Option Nat) (a c : Nat) : Nat := match O c with
  | none => 1000 * pcW ρ c * dq ρ c a
  | some d => mn (1000 * pcW ρ c * dq ρ c a) (cst ρ c d)
noncomputable def cmv (ρ : Pic) (O : Nat → Option Nat) (a : Nat) : Nat := sumN (cmc ρ O a) (pcc ρ)
noncomputable def aMore (ρ : Pic) (w : Int32) : Int32 := cif (0 < pcn ρ) (sel w [nI (argm (cmv ρ (own ρ)) (pcc ρ)), nI (cmv ρ (own ρ) (argm (cmv ρ (own ρ)) (pcc ρ)))]) (-1)
noncomputable def aBest (ρ : Pic) (d w : Int32) : Int32 := cif (inN d (pcn ρ)) (sel w [nI (argm (cmv ρ (owB ρ (ix d))) (pcc ρ)), nI (cmv ρ (owB ρ (ix d)) (argm (cmv ρ (owB ρ (ix d))) (pcc ρ)))]) (-1)
noncomputable def tieO (ρ : Pic) (c : Nat) (o : Option Nat) : Int32 := match o with
  | none => -1
  | some b => nI (sumN (fun d => wN (¬ nearer ρ c b d) 1) (pcn ρ))
noncomputable def aTies (ρ : Pic) (x y : Int32) : Int32 := cif (isC ρ x y) (tieO ρ (cno ρ x y) (own ρ (cno ρ x y))) (-1)
theorem cmc_le {ρ : Pic} {O : Nat → Option Nat} {a c : Nat} : cmc ρ O a c ≤ 1000 * pcW ρ c * dq ρ c a := by
  unfold cmc
  cases O c with
  | none => exact Nat.le_refl _
  | some d => show mn _ _ ≤ _; unfold mn; split <;> omega
theorem cmv_le {ρ : Pic} (g : Good ρ) {O : Nat → Option Nat} {a : Nat} (ha : a < pcc ρ) : cmv ρ O a ≤ 889200000 := by
  have xy := g.xy ha
  refine Nat.le_trans (sumN_mono fun c _ => ?_) (one_le g (X := a % pcw ρ) (Y := a / pcw ρ) (D := 1) (by decide) (by omega) (by omega))
  refine Nat.le_trans cmc_le ?_
  simp only [Nat.mul_one, Nat.div_one]; exact Nat.le_refl _
