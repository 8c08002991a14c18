/-! ===== steps of a walk: loads and stores with chosen values; truth values ===== -/
theorem ld {p : Prop} {α : Type} {a : α} {f : α → Prop} (v : α) (hp : p) (e : a = v) (k : f v) : p ∧ ∃ v, a = v ∧ f v := ⟨hp, v, e, k⟩
theorem sw {p : Prop} {α : Type} {a : α} {b : Nat} {f : Nat → α → Prop} (j : Nat) (v : α) (hp : p) (e : b = j) (e2 : a = v) (k : f j v) : p ∧ ∃ j v, b = j ∧ a = v ∧ f j v := ⟨hp, j, v, e, e2, k⟩
theorem swR {p : Prop} {b : Nat} {f : Nat → Prop} (j : Nat) (hp : p) (e : b = j) (k : f j) : p ∧ ∃ j, b = j ∧ f j := ⟨hp, j, e, k⟩
theorem rtI {K : Option AV → AH → Prop} {h : AH} {x y : Int32} (e : x = y) (hK : K (some (vI y)) h) : K (some (vI x)) h := e ▸ hK
theorem rtL {K : Option AV → AH → Prop} {h : AH} {x y : Int64} (e : x = y) (hK : K (some (vL y)) h) : K (some (vL x)) h := e ▸ hK
noncomputable def bI (p : Prop) : Int32 := @ite _ p (Classical.propDecidable p) 1 0
theorem bI_T {p : Prop} (h : p) : bI p = 1 := by unfold bI; rw [if_pos h]
theorem bI_F {p : Prop} (h : ¬ p) : bI p = 0 := by unfold bI; rw [if_neg h]
theorem bI_0 {p : Prop} : bI p = 0 ↔ ¬ p := by
  by_cases h : p
  · rw [bI_T h]; exact ⟨fun q => absurd q (by decide), fun q => absurd h q⟩
  · rw [bI_F h]; exact ⟨fun _ => h, fun _ => rfl⟩
theorem bI_01 (p : Prop) : bI p = 0 ∨ bI p = 1 := by
  by_cases h : p
  · exact Or.inr (bI_T h)
  · exact Or.inl (bI_F h)
theorem bI_eq {p q : Prop} (h : p ↔ q) : bI p = bI q := by rw [propext h]
theorem rtT {K : Option AV → AH → Prop} {h : AH} {p : Prop} (hp : p) (hK : K (some (vI (bI p))) h) : K (some (vI 1)) h := bI_T hp ▸ hK
theorem rtF {K : Option AV → AH → Prop} {h : AH} {p : Prop} (hp : ¬ p) (hK : K (some (vI (bI p))) h) : K (some (vI 0)) h := bI_F hp ▸ hK
/-- a branch on a truth value -/
theorem brE {p A B : Prop} (f : ¬ p → A) (g : p → B) : (bI p = 0 → A) ∧ (¬ bI p = 0 → B) := ⟨fun e => f (bI_0.mp e), fun e => g (Classical.byContradiction fun q => e (bI_0.mpr q))⟩
theorem brN {p A B : Prop} (f : p → A) (g : ¬ p → B) : (¬ bI p = 0 → A) ∧ (bI p = 0 → B) := ⟨fun e => f (Classical.byContradiction fun q => e (bI_0.mpr q)), fun e => g (bI_0.mp e)⟩
theorem ix_nI {k : Nat} (h : k < 2 ^ 31) : ix (nI k) = k := nI_clamp h
theorem ix_of {i : Int32} {k : Nat} (e : i = nI k) (h : k < 2 ^ 31) : ix i = k := by subst e; exact nI_clamp h
theorem rd {h : AH} {k : Nat} {f : Nat → Int32} {i : Int32} {j : Nat} (e : hI h k = f) (hi : i = nI j) (hj : j < 2 ^ 31) : hI h k (ix i) = f j := by rw [e, ix_of hi hj]
theorem ig_lt {x y : Int64} : lg_cmp x y < 0 ↔ x < y := by
  unfold lg_cmp
  by_cases h1 : x > y
  · rw [if_pos h1]
    exact ⟨fun q => absurd q (by decide), fun q => absurd (Int64.lt_trans q h1) (Int64.lt_irrefl)⟩
  · rw [if_neg h1]
    by_cases h2 : x = y
    · rw [if_pos h2]; subst h2; exact ⟨fun q => absurd q (by decide), fun q => absurd q h1⟩
    · rw [if_neg h2]
      exact ⟨fun _ => Int64.lt_of_le_of_ne (Int64.not_lt.mp h1) h2, fun _ => by decide⟩
theorem ig_gt {x y : Int64} : 0 < lg_cmp x y ↔ y < x := by
  unfold lg_cmp
  by_cases h1 : x > y
  · rw [if_pos h1]; exact ⟨fun _ => h1, fun _ => by decide⟩
  · rw [if_neg h1]
    by_cases h2 : x = y
    · rw [if_pos h2]; exact ⟨fun q => absurd q (by decide), fun q => absurd q h1⟩
    · rw [if_neg h2]; exact ⟨fun q => absurd q (by decide), fun q => absurd q h1⟩
theorem ig_eq {x y : Int64} : lg_cmp x y = 0 ↔ x = y := by
  unfold lg_cmp
  by_cases h1 : x > y
  · rw [if_pos h1]; exact ⟨fun q => absurd q (by decide), fun q => absurd (q ▸ h1) Int64.lt_irrefl⟩
  · rw [if_neg h1]
    by_cases h2 : x = y
    · rw [if_pos h2]; exact ⟨fun _ => h2, fun _ => rfl⟩
    · rw [if_neg h2]; exact ⟨fun q => absurd q (by decide), fun q => absurd q h2⟩
/-! ===== the cells that are there, by number ===== -/
def sc5 : List (Nat ⊕ (Nat × Nat)) := [.inl 7, .inr (0, 400), .inr (0, 40), .inr (0, 40), .inr (0, 40)]
def fd10 : List (Nat ⊕ (Nat × Nat)) := [.inl 2, .inr (0, 400), .inr (1, 400), .inr (1, 400), .inr (0, 400), .inr (0, 40), .inr (0, 40), .inr (0, 40), .inr (0, 40), .inr (0, 40)]
def shl : List (Nat ⊕ (Nat × Nat)) := [.inl 99, .inl 9] ++ (sc5 ++ (fd10 ++ ([.inl 6, .inr (0, 900)] ++ (sc5 ++ ([.inl 4, .inr (3, 12)] ++ (sc5 ++ (sc5 ++ (sc5 ++ (sc5 ++ (sc5 ++ (sc5 ++ (sc5 ++ (sc5 ++ (sc5 ++ (sc5 ++ (sc5 ++ (sc5 ++ ([.inl 8, .inr (0, 20), .inr (0, 20)] ++ ([.inl 0] ++ (sc5 ++ (sc5 ++ (fd10 ++ ([.inl 5, .inr (0, 400)] ++ ([.inl 3, .inr (0, 1600), .inr (0, 40), .inr (0, 40), .inr (2, 400), .inr (0, 400)] ++ ([.inr (4, 2), .inr (2, 400), .inr (0, 40), .inr (0, 10)] ++ ([.inl 1] ++ (sc5 ++ ([.inr (0, 400)] ++ ([.inl 1] ++ (sc5 ++ ([.inr (0, 400)] ++
  [.inl 10, .inr (0, 524), .inr (0, 900), .inr (0, 524), .inr (0, 6288), .inr (0, 400), .inr (0, 40), .inr (0, 524), .inr (0, 120), .inr (2, 40), .inr (0, 20), .inr (0, 20), .inr (2, 40), .inr (0, 40), .inr (0, 400), .inr (2, 400), .inr (0, 40), .inr (0, 40), .inr (0, 10), .inr (0, 10), .inr (0, 10), .inr (0, 1048), .inr (0, 400), .inr (2, 2)])))))))))))))))))))))))))))))))
def shp (k : Nat) : Nat ⊕ (Nat × Nat) := (shl[k]?).getD (.inl 99)
theorem shl_len : shl.length = 160 := by decide +kernel
theorem shp_chk : shp 136 = .inl 10 ∧ shp 159 = .inr (2, 2) ∧ shp 137 = .inr (0, 524) ∧ shp 129 = .inl 1 ∧ shp 112 = .inl 3 ∧ shp 100 = .inl 2 ∧ shp 89 = .inl 0 ∧ shp 24 = .inl 4 := by decide +kernel
/-- references of the model -/
def mrf (j : Nat) : Nat := ([137, 138, 0, 0, 0, 0, 0, 0, 0, 0, 0, 0, 0, 0, 139, 0, 140, 0, 0, 141, 142, 143, 144, 145, 0, 146, 147, 0, 148, 149, 150, 151, 152, 153, 154, 155, 156, 157, 158, 159] : List Nat).getD j 0
def MS (h : AH) : Prop := hN h = 159 ∧ hS h = shp ∧ ∀ j, hR h 136 j = mrf j
theorem MS.ob {h : AH} (m : MS h) : Ob h 136 10 := ⟨by decide, by rw [m.1]; decide, by rw [m.2.1]; rfl⟩
theorem MS.ar {h : AH} (m : MS h) {k t n : Nat} (e : shp k = .inr (t, n)) (h0 : Nat.blt 0 k = true) (h1 : Nat.ble k 159 = true) : Ar h k t n := ⟨Nat.le_of_ble_eq_true h0, by rw [m.1]; exact Nat.le_of_ble_eq_true h1, by rw [m.2.1]; exact e⟩
theorem MS.inA {h : AH} (m : MS h) {k t n : Nat} {i : Int32} {j : Nat} (e : shp k = .inr (t, n)) (h0 : Nat.blt 0 k = true) (h1 : Nat.ble k 159 = true) (hi : i = nI j) (hj : j < n) (hn : Nat.ble n 10000 = true) : InA h k t i := ⟨n, m.ar e h0 h1, by subst hi; exact vp_in_nI hj (Nat.lt_of_le_of_lt (Nat.le_of_ble_eq_true hn) (by decide))⟩
/-! ===== a picture: WIDE, HIGH, SEED, MANY, weights from 4 on, dots from 404 on ===== -/
abbrev Pic : Type := Nat → Nat
def nR (ρ : Pic) : Nat → Int32 := fun j => nI (ρ j)
def pcw (ρ : Pic) : Nat := ρ 0
def pch (ρ : Pic) : Nat := ρ 1
def pcs (ρ : Pic) : Nat := ρ 2
def pcn (ρ : Pic) : Nat := ρ 3
def pcW (ρ : Pic) (c : Nat) : Nat := ρ (4 + c)
def pcX (ρ : Pic) (d : Nat) : Nat := ρ (404 + 3 * d)
def pcY (ρ : Pic) (d : Nat) : Nat := ρ (404 + 3 * d + 1)
def pcD (ρ : Pic) (d : Nat) : Nat := ρ (404 + 3 * d + 2)
def pcc (ρ : Pic) : Nat := pcw ρ * pch ρ
/-- a dot that may lie in a picture of this size -/
def DotOK (w h x y d : Nat) : Prop := 1 ≤ d ∧ d ≤ 3600 ∧ x ≤ (w - 1) * d ∧ y ≤ (h - 1) * d ∧ Nat.gcd (Nat.gcd x y) d = 1
def Good (ρ : Pic) : Prop := (1 ≤ pcw ρ ∧ pcw ρ ≤ 20 ∧ 1 ≤ pch ρ ∧ pch ρ ≤ 20 ∧ pcs ρ < 2 ^ 31 ∧ pcn ρ ≤ 40) ∧ (∀ c, c < 400 → pcW ρ c ≤ 9) ∧ (∀ d, d < pcn ρ → DotOK (pcw ρ) (pch ρ) (pcX ρ d) (pcY ρ d) (pcD ρ d)) ∧ (∀ k, 524 ≤ k → ρ k = 0)
/-- the square of how far two numbers are apart -/
def sqd (a b : Nat) : Nat := (a - b) * (a - b) + (b - a) * (b - a)
def gap (ρ : Pic) (c d : Nat) : Nat := sqd (c % pcw ρ * pcD ρ d) (pcX ρ d) + sqd (c / pcw ρ * pcD ρ d) (pcY ρ d)
def spn (ρ : Pic) (d : Nat) : Nat := pcD ρ d * pcD ρ d
def nearer (ρ : Pic) (c d e : Nat) : Prop := gap ρ c d * spn ρ e < gap ρ c e * spn ρ d
theorem lN_sqd (a b : Nat) : (lN a - lN b) * (lN a - lN b) = lN (sqd a b) := by
  rcases Nat.le_total b a with h | h
  · rw [lN_sub h, lN_mul]; unfold sqd; rw [show b - a = 0 by omega]; simp
  · have e : lN a - lN b = -(lN (b - a)) := by rw [← lN_sub h]; simp [Int64.neg_sub]
    rw [e, Int64.neg_mul_neg, lN_mul]; unfold sqd; rw [show a - b = 0 by omega]; simp
