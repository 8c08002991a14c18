/-! ===== sums, owners, costs, loads ===== -/
theorem rdA {h : AH} {k j : Nat} {i v : Int32} (hi : i = nI j) (hj : j < 2 ^ 31) (e : hI h k j = v) : hI h k (ix i) = v := by rw [ix_of hi hj]; exact e
theorem rdP {h : AH} {k j : Nat} {i : Int32} {ρ : Pic} (e : hI h k = nR ρ) (hi : i = nI j) (hj : j < 2 ^ 31) : hI h k (ix i) = nI (ρ j) := by rw [e, ix_of hi hj]; rfl
theorem rdL {h : AH} {k j : Nat} {i : Int32} {v : Int64} (hi : i = nI j) (hj : j < 2 ^ 31) (e : hL h k j = v) : hL h k (ix i) = v := by rw [ix_of hi hj]; exact e
theorem rdR {h : AH} {k j : Nat} {i : Int32} {v : Nat} (hi : i = nI j) (hj : j < 2 ^ 31) (e : hR h k j = v) : hR h k (ix i) = v := by rw [ix_of hi hj]; exact e
def sumN (f : Nat → Nat) : Nat → Nat
  | 0 => 0
  | n + 1 => sumN f n + f n
theorem sumN_congr {f g : Nat → Nat} : ∀ {n : Nat}, (∀ i, i < n → f i = g i) → sumN f n = sumN g n
  | 0, _ => rfl
  | n + 1, h => by
    simp only [sumN]
    rw [sumN_congr (fun i hi => h i (by omega)), h n (by omega)]
theorem sumN_le {f : Nat → Nat} {M : Nat} : ∀ {n : Nat}, (∀ i, i < n → f i ≤ M) → sumN f n ≤ n * M
  | 0, _ => by simp [sumN]
  | n + 1, h => by
    simp only [sumN]
    have := sumN_le (n := n) (fun i hi => h i (by omega))
    have := h n (by omega)
    rw [Nat.succ_mul]; omega
theorem sumN_mono {f g : Nat → Nat} : ∀ {n : Nat}, (∀ i, i < n → f i ≤ g i) → sumN f n ≤ sumN g n
  | 0, _ => Nat.le_refl _
  | n + 1, h => by
    simp only [sumN]
    exact Nat.add_le_add (sumN_mono (fun i hi => h i (by omega))) (h n (by omega))
theorem sumN_add {f g : Nat → Nat} : ∀ {n : Nat}, sumN (fun i => f i + g i) n = sumN f n + sumN g n
  | 0 => rfl
  | n + 1 => by simp only [sumN]; rw [sumN_add]; omega
theorem sumN_zero {f : Nat → Nat} : ∀ {n : Nat}, (∀ i, i < n → f i = 0) → sumN f n = 0
  | 0, _ => rfl
  | n + 1, h => by simp only [sumN]; rw [sumN_zero (fun i hi => h i (by omega)), h n (by omega)]
theorem sumN_pos {f : Nat → Nat} {i : Nat} : ∀ {n : Nat}, i < n → f i ≤ sumN f n
  | 0, h => by omega
  | n + 1, h => by
    simp only [sumN]
    by_cases e : i = n
    · subst e; omega
    · have := sumN_pos (f := f) (i := i) (n := n) (by omega); omega
noncomputable def wN (p : Prop) (x : Nat) : Nat := @ite _ p (Classical.propDecidable p) x 0
theorem wN_T {p : Prop} {x : Nat} (h : p) : wN p x = x := by unfold wN; rw [if_pos h]
theorem wN_F {p : Prop} {x : Nat} (h : ¬ p) : wN p x = 0 := by unfold wN; rw [if_neg h]
theorem wN_le (p : Prop) (x : Nat) : wN p x ≤ x := by
  by_cases h : p
  · rw [wN_T h]; exact Nat.le_refl _
  · rw [wN_F h]; exact Nat.zero_le _
theorem wN_eq {p q : Prop} {x : Nat} (h : p ↔ q) : wN p x = wN q x := by rw [propext h]
theorem bI_wN (p : Prop) : bI p = nI (wN p 1) := by
  by_cases h : p
  · rw [wN_T h, bI_T h]; rfl
  · rw [wN_F h, bI_F h]; rfl
theorem ow_congr {ρ : Pic} {S T : Nat → Prop} {c : Nat} : ∀ {n : Nat}, (∀ d, d < n → (S d ↔ T d)) → ow ρ S c n = ow ρ T c n
  | 0, _ => rfl
  | n + 1, h => by
    have ih := ow_congr (ρ := ρ) (S := S) (T := T) (c := c) (n := n) (fun d hd => h d (by omega))
    have e := propext (h n (by omega))
    simp only [ow]
    rw [ih, e]
noncomputable def own (ρ : Pic) (c : Nat) : Option Nat := ow ρ (fun _ => True) c (pcn ρ)
noncomputable def owB (ρ : Pic) (b : Nat) (c : Nat) : Option Nat := ow ρ (fun d => ¬ d = b) c (pcn ρ)
noncomputable def owX (ρ : Pic) (b : Int32) (c : Nat) : Option Nat := ow ρ (fun d => ¬ nI d = b) c (pcn ρ)
theorem owX_m1 {ρ : Pic} (g : Good ρ) (c : Nat) : owX ρ (-1) c = own ρ c := ow_congr fun d hd => ⟨fun _ => trivial, fun _ => nI_m1 (by have := g.n; omega)⟩
theorem owX_d {ρ : Pic} (g : Good ρ) {b : Nat} (hb : b < pcn ρ) (c : Nat) : owX ρ (nI b) c = owB ρ b c := ow_congr fun d hd => by
  have := g.n
  rw [nI_eq (by omega) (by omega)]
theorem own_lt {ρ : Pic} {c d : Nat} (h : own ρ c = some d) : d < pcn ρ := (ow_lt h).1
theorem ow_some {ρ : Pic} {S : Nat → Prop} {c d : Nat} : ∀ {n : Nat}, d < n → S d → ∃ b, ow ρ S c n = some b
  | 0, h, _ => by omega
  | n + 1, h, hs => by
    by_cases e : d = n
    · subst e
      cases q : ow ρ S c d with
      | none => exact ⟨_, ow_new q hs⟩
      | some b =>
        by_cases z : nearer ρ c d b
        · exact ⟨_, ow_near q hs z⟩
        · exact ⟨_, ow_stay q z⟩
    · obtain ⟨b, hb⟩ := ow_some (n := n) (d := d) (by omega) hs
      by_cases z : S n ∧ nearer ρ c n b
      · exact ⟨_, ow_near hb z.1 z.2⟩
      · by_cases y : S n
        · exact ⟨_, ow_stay hb (fun x => z ⟨y, x⟩)⟩
        · exact ⟨b, by rw [ow_skip y]; exact hb⟩
theorem own_some {ρ : Pic} {c : Nat} (h : 0 < pcn ρ) : ∃ b, own ρ c = some b := ow_some (d := 0) h trivial
theorem own_none {ρ : Pic} {c : Nat} (h : pcn ρ = 0) : own ρ c = none := by unfold own; rw [h]; rfl
def cst (ρ : Pic) (c d : Nat) : Nat := 1000 * pcW ρ c * gap ρ c d / spn ρ d
def cstO (ρ : Pic) (c : Nat) (o : Option Nat) : Nat := match o with
  | none => 0
  | some d => cst ρ c d
noncomputable def tot (ρ : Pic) : Nat := sumN (fun c => cstO ρ c (own ρ c)) (pcc ρ)
noncomputable def load (ρ : Pic) (d : Nat) : Nat := sumN (fun c => wN (own ρ c = some d) (pcW ρ c)) (pcc ρ)
noncomputable def cellsOf (ρ : Pic) (d : Nat) : Nat := sumN (fun c => wN (own ρ c = some d) 1) (pcc ρ)
noncomputable def bill (ρ : Pic) (d : Nat) : Nat := sumN (fun c => wN (own ρ c = some d) (cst ρ c d)) (pcc ρ)
noncomputable def smX (ρ : Pic) (d : Nat) : Nat := sumN (fun c => wN (own ρ c = some d) (pcW ρ c * (c % pcw ρ))) (pcc ρ)
noncomputable def smY (ρ : Pic) (d : Nat) : Nat := sumN (fun c => wN (own ρ c = some d) (pcW ρ c * (c / pcw ρ))) (pcc ρ)
def allW (ρ : Pic) : Nat := sumN (fun c => pcW ρ c) (pcc ρ)
theorem pcW_le {ρ : Pic} (g : Good ρ) {c : Nat} (hc : c < pcc ρ) : pcW ρ c ≤ 9 := g.2.1 c (Nat.lt_of_lt_of_le hc g.c.1)
theorem load_le {ρ : Pic} (g : Good ρ) (d : Nat) : load ρ d ≤ 3600 := by
  have h : load ρ d ≤ pcc ρ * 9 := sumN_le fun c hc => Nat.le_trans (wN_le _ _) (pcW_le g hc)
  have := g.c; omega
theorem allW_le {ρ : Pic} (g : Good ρ) : allW ρ ≤ 3600 := by
  have h : allW ρ ≤ pcc ρ * 9 := sumN_le fun c hc => pcW_le g hc
  have := g.c; omega
/-- a dot lies just at a cell -/
def lies (ρ : Pic) (d x y : Nat) : Prop := pcD ρ d = 1 ∧ pcX ρ d = x ∧ pcY ρ d = y
theorem lies_iff {ρ : Pic} (g : Good ρ) {d x y : Nat} (hd : d < pcn ρ) : (pcX ρ d = x * pcD ρ d ∧ pcY ρ d = y * pcD ρ d) ↔ lies ρ d x y := by
  obtain ⟨h1, -, -, -, h5⟩ := g.2.2.1 d hd
  constructor
  · rintro ⟨a, b⟩
    have e : pcD ρ d = 1 := by
      rw [a, b, Nat.gcd_mul_right, Nat.gcd_eq_right (Nat.dvd_mul_left _ _)] at h5
      exact h5
    rw [e, Nat.mul_one] at a b
    exact ⟨e, a, b⟩
  · rintro ⟨e, a, b⟩
    rw [e, Nat.mul_one, Nat.mul_one]; exact ⟨a, b⟩
def bare (ρ : Pic) (c : Nat) : Prop := ∀ d, d < pcn ρ → ¬ lies ρ d (c % pcw ρ) (c / pcw ρ)
