/-! ===== answers ===== -/
noncomputable def cif (p : Prop) (a b : Int32) : Int32 := @ite _ p (Classical.propDecidable p) a b
theorem cif_T {p : Prop} {a b : Int32} (h : p) : cif p a b = a := by unfold cif; rw [if_pos h]
theorem cif_F {p : Prop} {a b : Int32} (h : ¬ p) : cif p a b = b := by unfold cif; rw [if_neg h]
/-- the answer by what is asked -/
def sel (w : Int32) (l : List Int32) : Int32 := if w < 0 then -1 else (l[ix w]?).getD (-1)
theorem sel_in {w : Int32} {l : List Int32} {i : Nat} {v : Int32} (e : w = nI i) (hi : i < 2 ^ 31) (hv : l[i]? = some v) : sel w l = v := by
  subst e; unfold sel; rw [if_neg (nI_pos hi), ix_nI hi, hv]; rfl
theorem sel_out {w : Int32} {l : List Int32} (h : ∀ i, i < l.length → ¬ w = nI i) : sel w l = -1 := by
  unfold sel
  by_cases q : w < 0
  · rw [if_pos q]
  · rw [if_neg q]
    obtain ⟨j, hj, rfl⟩ := nI_of q
    rw [ix_nI hj]
    have : l.length ≤ j := Nat.le_of_not_lt fun z => h j z rfl
    rw [List.getElem?_eq_none this]; rfl
theorem rtC {K : Option AV → AH → Prop} {h : AH} {p : Prop} {a b : Int32} (hp : ¬ p) (hK : K (some (vI (cif p a b))) h) : K (some (vI b)) h := by rw [cif_F hp] at hK; exact hK
/-- the first of a kind -/
noncomputable def fstO (P : Nat → Prop) : Nat → Option Nat
  | 0 => none
  | n + 1 => match fstO P n with
    | some d => some d
    | none => @ite _ (P n) (Classical.propDecidable _) (some n) none
theorem fstO_none {P : Nat → Prop} : ∀ {n : Nat}, (∀ d, d < n → ¬ P d) → fstO P n = none
  | 0, _ => rfl
  | n + 1, h => by
    simp only [fstO, fstO_none (n := n) (fun d hd => h d (by omega))]
    rw [if_neg (h n (by omega))]
theorem fstO_some {P : Nat → Prop} {d : Nat} : ∀ {n : Nat}, d < n → P d → (∀ e, e < d → ¬ P e) → fstO P n = some d
  | 0, h, _, _ => by omega
  | n + 1, h, hp, hn => by
    by_cases e : d = n
    · subst e
      simp only [fstO, fstO_none hn]
      rw [if_pos hp]
    · simp only [fstO, fstO_some (n := n) (by omega) hp hn]
/-- how far two numbers are apart -/
def ad (a b : Nat) : Nat := (a - b) + (b - a)
theorem sqd_ad (a b : Nat) : sqd a b = ad a b * ad a b := by
  unfold sqd ad
  rcases Nat.le_total b a with h | h
  · rw [show b - a = 0 by omega]; simp
  · rw [show a - b = 0 by omega]; simp
def nw (x q : Nat) : Nat := (2 * x + q - 1) / (2 * q)
theorem nw_sp {x q : Nat} (hq : 1 ≤ q) : 2 * (nw x q * q) + 1 ≤ 2 * x + q ∧ 2 * x ≤ 2 * (nw x q * q) + q := by
  have h1 := Nat.div_mul_le_self (2 * x + q - 1) (2 * q)
  have h2 := Nat.lt_mul_div_succ (2 * x + q - 1) (show 0 < 2 * q by omega)
  have e1 : nw x q * (2 * q) = 2 * (nw x q * q) := by rw [Nat.mul_left_comm]
  have e2 : 2 * q * ((2 * x + q - 1) / (2 * q) + 1) = 2 * (nw x q * q) + 2 * q := by
    rw [Nat.mul_add, Nat.mul_one, Nat.mul_comm (2 * q) ((2 * x + q - 1) / (2 * q)), ← e1]; rfl
  rw [e2] at h2
  have h1 : nw x q * (2 * q) ≤ 2 * x + q - 1 := h1
  rw [e1] at h1
  omega
theorem nw_le {x q m : Nat} (hq : 1 ≤ q) (hx : x ≤ m * q) : nw x q ≤ m := by
  have := (nw_sp (x := x) hq).1
  refine Nat.le_of_not_lt fun z => ?_
  have h1 : (m + 1) * q ≤ nw x q * q := Nat.mul_le_mul_right _ z
  rw [Nat.succ_mul] at h1
  omega
theorem nw_min {x q : Nat} (hq : 1 ≤ q) (i : Nat) : sqd (nw x q * q) x ≤ sqd (i * q) x ∧ (i < nw x q → sqd (nw x q * q) x < sqd (i * q) x) := by
  have hs := nw_sp (x := x) hq
  rw [sqd_ad, sqd_ad]
  rcases Nat.lt_trichotomy i (nw x q) with z | z | z
  · have h1 : (i + 1) * q ≤ nw x q * q := Nat.mul_le_mul_right _ z
    rw [Nat.succ_mul] at h1
    have h2 : ad (nw x q * q) x < ad (i * q) x := by unfold ad; omega
    have h3 := Nat.mul_lt_mul_of_lt_of_lt h2 h2
    exact ⟨Nat.le_of_lt h3, fun _ => h3⟩
  · rw [z]; exact ⟨Nat.le_refl _, fun q => by omega⟩
  · have h1 : (nw x q + 1) * q ≤ i * q := Nat.mul_le_mul_right _ z
    rw [Nat.succ_mul] at h1
    have h2 : ad (nw x q * q) x ≤ ad (i * q) x := by unfold ad; omega
    exact ⟨Nat.mul_le_mul h2 h2, fun q => by omega⟩
def spX (ρ : Pic) (d : Nat) : Nat := nw (pcX ρ d) (pcD ρ d)
def spY (ρ : Pic) (d : Nat) : Nat := nw (pcY ρ d) (pcD ρ d)
def spot (ρ : Pic) (d : Nat) : Nat := pcw ρ * spY ρ d + spX ρ d
theorem spot_xy {ρ : Pic} (g : Good ρ) {d : Nat} (hd : d < pcn ρ) : spX ρ d < pcw ρ ∧ spY ρ d < pch ρ ∧ spot ρ d < pcc ρ ∧ spot ρ d % pcw ρ = spX ρ d ∧ spot ρ d / pcw ρ = spY ρ d := by
  obtain ⟨h1, h2, h3, h4, -⟩ := g.2.2.1 d hd
  have gn := g.n
  have a : spX ρ d < pcw ρ := by have := nw_le h1 h3; unfold spX; omega
  have b : spY ρ d < pch ρ := by have := nw_le h1 h4; unfold spY; omega
  refine ⟨a, b, ?_, ?_, ?_⟩
  · have : pcw ρ * (spY ρ d + 1) ≤ pcw ρ * pch ρ := Nat.mul_le_mul_left _ b
    rw [Nat.mul_succ] at this
    unfold spot pcc; omega
  · unfold spot; rw [Nat.mul_add_mod, Nat.mod_eq_of_lt a]
  · unfold spot; rw [Nat.mul_add_div (by omega), Nat.div_eq_of_lt a]; rfl
theorem spot_min {ρ : Pic} (g : Good ρ) {d : Nat} (hd : d < pcn ρ) (c : Nat) : gap ρ (spot ρ d) d ≤ gap ρ c d ∧ (c < spot ρ d → gap ρ (spot ρ d) d < gap ρ c d) := by
  obtain ⟨h1, -⟩ := g.2.2.1 d hd
  obtain ⟨-, -, -, ex, ey⟩ := spot_xy g hd
  unfold gap
  rw [ex, ey]
  have mx := nw_min (x := pcX ρ d) h1 (c % pcw ρ)
  have my := nw_min (x := pcY ρ d) h1 (c / pcw ρ)
  refine ⟨Nat.add_le_add mx.1 my.1, fun q => ?_⟩
  by_cases z : c / pcw ρ < spY ρ d
  · exact Nat.add_lt_add_of_le_of_lt mx.1 (my.2 z)
  · have e := Nat.div_add_mod c (pcw ρ)
    have e2 : pcw ρ * spY ρ d ≤ pcw ρ * (c / pcw ρ) := Nat.mul_le_mul_left _ (by omega)
    unfold spot at q
    exact Nat.add_lt_add_of_lt_of_le (mx.2 (by unfold spX at q; omega)) my.1
/-- the first with the least gap is the spot -/
theorem spot_uni {ρ : Pic} (g : Good ρ) {d b : Nat} (hd : d < pcn ρ) (hb : b < pcc ρ) (h1 : ∀ c, c < pcc ρ → gap ρ b d ≤ gap ρ c d) (h2 : ∀ c, c < b → gap ρ b d < gap ρ c d) : b = spot ρ d := by
  obtain ⟨-, -, hs, -, -⟩ := spot_xy g hd
  have a := h1 _ hs
  have m := spot_min g hd b
  rcases Nat.lt_trichotomy b (spot ρ d) with q | q | q
  · have := m.2 q; omega
  · exact q
  · have := h2 _ q; omega
noncomputable def spotsAt (ρ : Pic) (c : Nat) : Nat := sumN (fun d => wN (spot ρ d = c) 1) (pcn ρ)
def cno (ρ : Pic) (x y : Int32) : Nat := pcw ρ * ix y + ix x
noncomputable def aCell (ρ : Pic) (x y w : Int32) : Int32 := cif (isC ρ x y) (sel w [nI (pcW ρ (cno ρ x y)), oI (own ρ (cno ρ x y)), nI (cstO ρ (cno ρ x y) (own ρ (cno ρ x y))), nI (spotsAt ρ (cno ρ x y))]) (-1)
theorem isC_c {ρ : Pic} (g : Good ρ) {x y : Int32} (h : isC ρ x y) : ∃ i j, i < pcw ρ ∧ j < pch ρ ∧ x = nI i ∧ y = nI j ∧ cno ρ x y = pcw ρ * j + i ∧ pcw ρ * j + i < pcc ρ ∧ (pcw ρ * j + i) % pcw ρ = i ∧ (pcw ρ * j + i) / pcw ρ = j := by
  obtain ⟨⟨i, hi, rfl⟩, ⟨j, hj, rfl⟩⟩ := h
  have gn := g.n
  refine ⟨i, j, hi, hj, rfl, rfl, ?_, ?_, ?_, ?_⟩
  · unfold cno; rw [ix_nI (by omega), ix_nI (by omega)]
  · have : pcw ρ * (j + 1) ≤ pcw ρ * pch ρ := Nat.mul_le_mul_left _ hj
    rw [Nat.mul_succ] at this
    unfold pcc; omega
  · rw [Nat.mul_add_mod, Nat.mod_eq_of_lt hi]
  · rw [Nat.mul_add_div (by omega), Nat.div_eq_of_lt hi]; rfl
noncomputable def rank (ρ : Pic) (c d : Nat) : Nat := sumN (fun e => wN (nearer ρ c e d ∨ (e < d ∧ ¬ nearer ρ c d e)) 1) (pcn ρ)
noncomputable def aNear (ρ : Pic) (x y k : Int32) : Int32 := cif (isC ρ x y ∧ inN k (pcn ρ)) (oI (fstO (fun d => nI (rank ρ (cno ρ x y) d) = k) (pcn ρ))) (-1)
noncomputable def aFar (ρ : Pic) (x y d w : Int32) : Int32 := cif (isC ρ x y ∧ inN d (pcn ρ)) (sel w [nI (gap ρ (cno ρ x y) (ix d) / spn ρ (ix d)), nI (gap ρ (cno ρ x y) (ix d) % spn ρ (ix d) * 1000 / spn ρ (ix d))]) (-1)
noncomputable def aAround (ρ : Pic) (x y r : Int32) : Int32 := cif (isC ρ x y ∧ inN r 31) (nI (sumN (fun d => wN (gap ρ (cno ρ x y) d ≤ spn ρ d * ix r * ix r) 1) (pcn ρ))) (-1)
def mx (a b : Nat) : Nat := if b < a then a else b
def ringO (ρ : Pic) (c : Nat) (o : Option Nat) : Int32 := match o with
  | none => -1
  | some d => nI (mx (ad (pcX ρ d / pcD ρ d) (c % pcw ρ)) (ad (pcY ρ d / pcD ρ d) (c / pcw ρ)))
noncomputable def aRing (ρ : Pic) (x y : Int32) : Int32 := cif (isC ρ x y) (ringO ρ (cno ρ x y) (own ρ (cno ρ x y))) (-1)
noncomputable def costX (ρ : Pic) (d : Nat) : Nat := sumN (fun c => cstO ρ c (owB ρ d c)) (pcc ρ)
noncomputable def lossI (ρ : Pic) (d : Nat) : Int32 := nI (costX ρ d) - nI (tot ρ)
noncomputable def aLoss (ρ : Pic) (d : Int32) : Int32 := cif (inN d (pcn ρ) ∧ 1 < pcn ρ) (lossI ρ (ix d)) (-1)
/-- the first with the least value -/
def argm (f : Nat → Nat) : Nat → Nat
  | 0 => 0
  | n + 1 => if f n < f (argm f n) then n else argm f n
theorem argm_lt {f : Nat → Nat} : ∀ {n : Nat}, 0 < n → argm f n < n
  | 0, h => by omega
  | n + 1, _ => by
    simp only [argm]
    by_cases q : f n < f (argm f n)
    · rw [if_pos q]; omega
    · rw [if_neg q]
      cases n with
      | zero => exact Nat.lt_succ_self _
      | succ n => have := argm_lt (f := f) (n := n + 1) (by omega); omega
/-- the first with the greatest -/
def argx (f : Nat → Nat) : Nat → Nat
  | 0 => 0
  | n + 1 => if f (argx f n) < f n then n else argx f n
theorem argx_lt {f : Nat → Nat} : ∀ {n : Nat}, 0 < n → argx f n < n
  | 0, h => by omega
  | n + 1, _ => by
    simp only [argx]
    by_cases q : f (argx f n) < f n
    · rw [if_pos q]; omega
    · rw [if_neg q]
      cases n with
      | zero => exact Nat.lt_succ_self _
      | succ n => have := argx_lt (f := f) (n := n + 1) (by omega); omega
noncomputable def aIdle (ρ : Pic) : Int32 := cif (1 < pcn ρ) (nI (argm (costX ρ) (pcn ρ))) (-1)
/-- costs are small -/
theorem cst_le {ρ : Pic} (g : Good ρ) {c d : Nat} (hc : c < pcc ρ) (hd : d < pcn ρ) : cst ρ c d ≤ 6498000 := by
  obtain ⟨h1, h2, h3, h4, -⟩ := g.2.2.1 d hd
  obtain ⟨x1, x2⟩ := g.xy hc
  have gn := g.n
  have a : sqd (c % pcw ρ * pcD ρ d) (pcX ρ d) ≤ (19 * pcD ρ d) * (19 * pcD ρ d) := sqd_le (Nat.mul_le_mul_right _ (by omega)) (Nat.le_trans h3 (Nat.mul_le_mul_right _ (by omega)))
  have b : sqd (c / pcw ρ * pcD ρ d) (pcY ρ d) ≤ (19 * pcD ρ d) * (19 * pcD ρ d) := sqd_le (Nat.mul_le_mul_right _ (by omega)) (Nat.le_trans h4 (Nat.mul_le_mul_right _ (by omega)))
  have e : (19 * pcD ρ d) * (19 * pcD ρ d) = 361 * spn ρ d := by unfold spn; rw [Nat.mul_mul_mul_comm]
  have gl : gap ρ c d ≤ 722 * spn ρ d := by unfold gap; omega
  have sp := (spn_pos g hd).1
  unfold cst
  refine Nat.le_trans (Nat.div_le_div_right (Nat.mul_le_mul (Nat.mul_le_mul_left 1000 (pcW_le g hc)) gl)) ?_
  rw [← Nat.mul_assoc, Nat.mul_div_cancel _ sp]
  decide
theorem ow_any {ρ : Pic} (g : Good ρ) {S : Nat → Prop} {c : Nat} (hc : c < pcc ρ) : cstO ρ c (ow ρ S c (pcn ρ)) ≤ 6498000 := by
  cases e : ow ρ S c (pcn ρ) with
  | none => exact Nat.zero_le _
  | some d => exact cst_le g hc (ow_lt e).1
/-- what all cells cost by one dot: dots lie in the picture, so that this is less than 2 ^ 31 -/
theorem sq_sum : ∀ n : Nat, n ≤ 20 → sumN (fun i => (19 - i) * (19 - i)) n ≤ 2470 ∧ sumN (fun i => i * i) n ≤ 2470 := by decide
