/-! ===== costs fit an int ===== -/
theorem sqd_2 (a b : Nat) : sqd a b + 2 * (a * b) = a * a + b * b := by
  rcases Nat.le_total b a with h | h
  · obtain ⟨k, rfl⟩ := Nat.exists_eq_add_of_le h
    have : sqd (b + k) b = k * k := by unfold sqd; rw [show b + k - b = k by omega, show b - (b + k) = 0 by omega]; simp
    rw [this]; simp only [Nat.add_mul, Nat.mul_add, Nat.mul_comm k b]; omega
  · obtain ⟨k, rfl⟩ := Nat.exists_eq_add_of_le h
    have : sqd a (a + k) = k * k := by unfold sqd; rw [show a - (a + k) = 0 by omega, show a + k - a = k by omega]; simp
    rw [this]; simp only [Nat.add_mul, Nat.mul_add, Nat.mul_comm k a]; omega
def s1 : Nat → Nat
  | 0 => 0
  | n + 1 => s1 n + n
def s2 : Nat → Nat
  | 0 => 0
  | n + 1 => s2 n + n * n
theorem s1_2 : ∀ n : Nat, 2 * s1 (n + 1) = (n + 1) * n
  | 0 => rfl
  | n + 1 => by
    have := s1_2 n
    show 2 * (s1 (n + 1) + (n + 1)) = _
    rw [Nat.mul_add, this]
    simp only [Nat.add_mul, Nat.mul_add]; omega
theorem sq_line (D X : Nat) : ∀ n : Nat, sumN (fun x => sqd (x * D) X) n + 2 * (D * X * s1 n) = D * D * s2 n + n * (X * X)
  | 0 => by simp [sumN, s1, s2]
  | n + 1 => by
    have ih := sq_line D X n
    have e := sqd_2 (n * D) X
    simp only [sumN, s1, s2]
    have e1 : 2 * (D * X * (s1 n + n)) = 2 * (D * X * s1 n) + 2 * (n * D * X) := by
      rw [Nat.mul_add, Nat.mul_add, Nat.mul_comm (D * X) n, Nat.mul_assoc n D X]
    have e2 : D * D * (s2 n + n * n) = D * D * s2 n + n * D * (n * D) := by
      rw [Nat.mul_add, Nat.mul_mul_mul_comm, Nat.mul_comm D n]
    have e3 : (n + 1) * (X * X) = n * (X * X) + X * X := Nat.succ_mul _ _
    omega
theorem s2_20 : ∀ n : Nat, n ≤ 20 → s2 n ≤ 2470 := by decide
theorem sq_line_le {D X w : Nat} (hw : 1 ≤ w) (hw2 : w ≤ 20) (hX : X ≤ (w - 1) * D) : sumN (fun x => sqd (x * D) X) w ≤ D * D * 2470 := by
  have h := sq_line D X w
  have h1 : w * (X * X) ≤ 2 * (D * X * s1 w) := by
    obtain ⟨n, rfl⟩ : ∃ n, w = n + 1 := ⟨w - 1, by omega⟩
    have e : 2 * (D * X * s1 (n + 1)) = (n + 1) * (n * D * X) := by
      rw [Nat.mul_left_comm, s1_2, Nat.mul_comm (D * X), Nat.mul_assoc, Nat.mul_assoc n D X]
    rw [e]
    exact Nat.mul_le_mul_left _ (Nat.mul_le_mul_right _ hX)
  have h2 : D * D * s2 w ≤ D * D * 2470 := Nat.mul_le_mul_left _ (s2_20 w hw2)
  omega
/-- a sum over the cells, row by row -/
theorem sumN_app (F : Nat → Nat) (a : Nat) : ∀ b : Nat, sumN F (a + b) = sumN F a + sumN (fun i => F (a + i)) b
  | 0 => rfl
  | b + 1 => by
    show sumN F (a + b) + F (a + b) = _
    rw [sumN_app F a b]; simp only [sumN]; omega
theorem sumN_grid {w : Nat} (hw : 1 ≤ w) (f g : Nat → Nat) : ∀ n : Nat, sumN (fun c => f (c % w) + g (c / w)) (w * n) = n * sumN f w + w * sumN g n
  | 0 => by simp [sumN]
  | n + 1 => by
    rw [Nat.mul_succ, sumN_app, sumN_grid hw f g n]
    have : sumN (fun i => f ((w * n + i) % w) + g ((w * n + i) / w)) w = sumN f w + w * g n := by
      rw [sumN_congr (g := fun i => f i + g n) (fun i hi => by rw [Nat.mul_add_mod, Nat.mod_eq_of_lt hi, Nat.mul_add_div hw, Nat.div_eq_of_lt hi]; rfl), sumN_add]
      have : ∀ m : Nat, sumN (fun _ => g n) m = m * g n := by
        intro m
        induction m with
        | zero => simp [sumN]
        | succ m ih => simp only [sumN]; rw [ih, Nat.succ_mul]
      rw [this]
    rw [this]
    simp only [sumN]
    rw [Nat.succ_mul, Nat.mul_add]; omega
theorem grid_le {w h D X Y : Nat} (hw : 1 ≤ w) (hw2 : w ≤ 20) (hh : 1 ≤ h) (hh2 : h ≤ 20) (hX : X ≤ (w - 1) * D) (hY : Y ≤ (h - 1) * D) : sumN (fun c => sqd (c % w * D) X + sqd (c / w * D) Y) (w * h) ≤ D * D * 98800 := by
  rw [sumN_grid hw (fun x => sqd (x * D) X) (fun y => sqd (y * D) Y)]
  have a := Nat.mul_le_mul hh2 (sq_line_le hw hw2 hX)
  have b := Nat.mul_le_mul hw2 (sq_line_le hh hh2 hY)
  have e1 : 20 * (D * D * 2470) = D * D * 49400 := by rw [Nat.mul_left_comm]
  omega
/-- what all cells would cost by one dot alone -/
theorem one_le {ρ : Pic} (g : Good ρ) {X Y D : Nat} (hD : 1 ≤ D) (hX : X ≤ (pcw ρ - 1) * D) (hY : Y ≤ (pch ρ - 1) * D) : sumN (fun c => 1000 * pcW ρ c * (sqd (c % pcw ρ * D) X + sqd (c / pcw ρ * D) Y) / (D * D)) (pcc ρ) ≤ 889200000 := by
  have gn := g.n
  have hp : 0 < D * D := Nat.mul_pos hD hD
  have h1 := grid_le (w := pcw ρ) (h := pch ρ) gn.1 gn.2.1 gn.2.2.1 gn.2.2.2.1 hX hY
  have h2 : ∀ n, n ≤ pcc ρ → sumN (fun c => 1000 * pcW ρ c * (sqd (c % pcw ρ * D) X + sqd (c / pcw ρ * D) Y) / (D * D)) n * (D * D) ≤ 9000 * sumN (fun c => sqd (c % pcw ρ * D) X + sqd (c / pcw ρ * D) Y) n := by
    intro n
    induction n with
    | zero => intro _; simp [sumN]
    | succ n ih =>
      intro hn
      simp only [sumN]
      rw [Nat.add_mul, Nat.mul_add 9000]
      refine Nat.add_le_add (ih (by omega)) (Nat.le_trans (Nat.div_mul_le_self _ _) (Nat.mul_le_mul_right _ ?_))
      have := pcW_le g (show n < pcc ρ by omega); omega
  have h3 := h2 _ (Nat.le_refl _)
  have h4 : 9000 * sumN (fun c => sqd (c % pcw ρ * D) X + sqd (c / pcw ρ * D) Y) (pcc ρ) ≤ 889200000 * (D * D) := by
    have := Nat.mul_le_mul_left 9000 h1
    have e : 9000 * (D * D * 98800) = 889200000 * (D * D) := by rw [Nat.mul_comm (D * D), ← Nat.mul_assoc]
    rw [e] at this
    exact this
  exact Nat.le_of_mul_le_mul_right (Nat.le_trans h3 h4) hp
theorem oneD_le {ρ : Pic} (g : Good ρ) {d : Nat} (hd : d < pcn ρ) : sumN (fun c => cst ρ c d) (pcc ρ) ≤ 889200000 := by
  obtain ⟨h1, h2, h3, h4, -⟩ := g.2.2.1 d hd
  exact one_le g h1 h3 h4
/-- a nearer dot costs no more -/
theorem cst_mono {ρ : Pic} (g : Good ρ) {c d e : Nat} (hd : d < pcn ρ) (he : e < pcn ρ) (h : gap ρ c d * spn ρ e ≤ gap ρ c e * spn ρ d) : cst ρ c d ≤ cst ρ c e := by
  have sd := (spn_pos g hd).1
  have se := (spn_pos g he).1
  unfold cst
  rw [Nat.le_div_iff_mul_le se]
  have h1 := Nat.div_mul_le_self (1000 * pcW ρ c * gap ρ c d) (spn ρ d)
  refine Nat.le_of_mul_le_mul_right ?_ sd
  calc 1000 * pcW ρ c * gap ρ c d / spn ρ d * spn ρ e * spn ρ d = 1000 * pcW ρ c * gap ρ c d / spn ρ d * spn ρ d * spn ρ e := by rw [Nat.mul_right_comm]
    _ ≤ 1000 * pcW ρ c * gap ρ c d * spn ρ e := Nat.mul_le_mul_right _ h1
    _ = 1000 * pcW ρ c * (gap ρ c d * spn ρ e) := by rw [Nat.mul_assoc]
    _ ≤ 1000 * pcW ρ c * (gap ρ c e * spn ρ d) := Nat.mul_le_mul_left _ h
    _ = 1000 * pcW ρ c * gap ρ c e * spn ρ d := (Nat.mul_assoc _ _ _).symm
theorem spn_all {ρ : Pic} (g : Good ρ) : ∀ d, d < pcn ρ → 0 < spn ρ d := fun d hd => (spn_pos g hd).1
theorem ow_cst {ρ : Pic} (g : Good ρ) {S : Nat → Prop} {c e : Nat} (he : e < pcn ρ) (se : S e) : cstO ρ c (ow ρ S c (pcn ρ)) ≤ cst ρ c e := by
  rcases ow_is (S := S) (c := c) (spn_all g) with ⟨q, h⟩ | ⟨b, q, hb, sb, h⟩
  · exact absurd se (h e he)
  · rw [q]; exact cst_mono g hb he (h e he se).1
theorem ow_tot {ρ : Pic} (g : Good ρ) (S : Nat → Prop) : sumN (fun c => cstO ρ c (ow ρ S c (pcn ρ))) (pcc ρ) ≤ 889200000 := by
  by_cases q : ∃ e, e < pcn ρ ∧ S e
  · obtain ⟨e, he, se⟩ := q
    exact Nat.le_trans (sumN_mono fun c _ => ow_cst g he se) (oneD_le g he)
  · rw [sumN_zero]
    · exact Nat.zero_le _
    · intro c _
      rcases ow_is (S := S) (c := c) (spn_all g) with ⟨z, h⟩ | ⟨b, z, hb, sb, h⟩
      · rw [z]; rfl
      · exact absurd ⟨b, hb, sb⟩ q
theorem tot_le {ρ : Pic} (g : Good ρ) : tot ρ ≤ 889200000 := ow_tot g _
theorem costX_le {ρ : Pic} (g : Good ρ) (d : Nat) : costX ρ d ≤ 889200000 := ow_tot g _
theorem tot_X {ρ : Pic} (g : Good ρ) {d : Nat} (hn : 1 < pcn ρ) : tot ρ ≤ costX ρ d := by
  refine sumN_mono fun c _ => ?_
  cases e : owB ρ d c with
  | none =>
    exfalso
    by_cases q : d = 0
    · obtain ⟨b, hb⟩ := ow_some (ρ := ρ) (S := fun e => ¬ e = d) (c := c) (d := 1) hn (by omega)
      unfold owB at e; rw [hb] at e; cases e
    · obtain ⟨b, hb⟩ := ow_some (ρ := ρ) (S := fun e => ¬ e = d) (c := c) (d := 0) (n := pcn ρ) (by omega) (fun z => q z.symm)
      unfold owB at e; rw [hb] at e; cases e
  | some b => exact ow_cst g (ow_lt e).1 trivial
theorem bill_le {ρ : Pic} (g : Good ρ) (d : Nat) : bill ρ d ≤ 889200000 := by
  refine Nat.le_trans (sumN_mono fun c _ => ?_) (tot_le g)
  by_cases q : own ρ c = some d
  · rw [wN_T q, q]; exact Nat.le_refl _
  · rw [wN_F q]; exact Nat.zero_le _
theorem lossI_eq {ρ : Pic} (g : Good ρ) {d : Nat} (hn : 1 < pcn ρ) : lossI ρ d = nI (costX ρ d - tot ρ) := pk_sub (tot_X g hn)
noncomputable def aLoads (ρ : Pic) (w : Int32) : Int32 := cif (0 < pcn ρ) (sel w [nI (load ρ (argx (load ρ) (pcn ρ))), nI (load ρ (argm (load ρ) (pcn ρ))), nI (argx (load ρ) (pcn ρ)), nI (argx (bill ρ) (pcn ρ))]) (-1)
/-- how far two dots are apart, squared, a thousand times, cut -/
def apt (x y d x2 y2 d2 : Nat) : Nat := (sqd (x * d2) (x2 * d) + sqd (y * d2) (y2 * d)) / (d * d2 * d * d2) * 1000 + (sqd (x * d2) (x2 * d) + sqd (y * d2) (y2 * d)) % (d * d2 * d * d2) * 1000 / (d * d2 * d * d2)
def aptD (ρ π : Pic) (a b : Nat) : Nat := apt (pcX ρ a) (pcY ρ a) (pcD ρ a) (pcX π b) (pcY π b) (pcD π b)
theorem apt_bd {x y d x2 y2 d2 : Nat} (h1 : 1 ≤ d) (h2 : d ≤ 3600) (h3 : 1 ≤ d2) (h4 : d2 ≤ 3600) (hx : x ≤ 19 * d) (hy : y ≤ 19 * d) (hx2 : x2 ≤ 19 * d2) (hy2 : y2 ≤ 19 * d2) : sqd (x * d2) (x2 * d) + sqd (y * d2) (y2 * d) ≤ 722 * (d * d2 * d * d2) ∧ 1 ≤ d * d2 * d * d2 ∧ d * d2 * d * d2 ≤ 167961600000000 := by
  have e : (19 * (d * d2)) * (19 * (d * d2)) = 361 * (d * d2 * d * d2) := by rw [Nat.mul_mul_mul_comm, Nat.mul_assoc (d * d2) d d2]
  have a : sqd (x * d2) (x2 * d) ≤ (19 * (d * d2)) * (19 * (d * d2)) := sqd_le (by rw [← Nat.mul_assoc]; exact Nat.mul_le_mul_right _ hx) (by rw [Nat.mul_comm d d2, ← Nat.mul_assoc]; exact Nat.mul_le_mul_right _ hx2)
  have b : sqd (y * d2) (y2 * d) ≤ (19 * (d * d2)) * (19 * (d * d2)) := sqd_le (by rw [← Nat.mul_assoc]; exact Nat.mul_le_mul_right _ hy) (by rw [Nat.mul_comm d d2, ← Nat.mul_assoc]; exact Nat.mul_le_mul_right _ hy2)
  rw [e] at a b
  refine ⟨by omega, ?_, ?_⟩
  · exact Nat.mul_le_mul (Nat.mul_le_mul (Nat.mul_le_mul h1 h3) h1) h3
  · exact Nat.mul_le_mul (Nat.mul_le_mul (Nat.mul_le_mul h2 h4) h2) h4
theorem apt_le {x y d x2 y2 d2 : Nat} (h1 : 1 ≤ d) (h2 : d ≤ 3600) (h3 : 1 ≤ d2) (h4 : d2 ≤ 3600) (hx : x ≤ 19 * d) (hy : y ≤ 19 * d) (hx2 : x2 ≤ 19 * d2) (hy2 : y2 ≤ 19 * d2) : apt x y d x2 y2 d2 ≤ 723000 := by
  obtain ⟨a, b, c⟩ := apt_bd h1 h2 h3 h4 hx hy hx2 hy2
  unfold apt
  have e1 : (sqd (x * d2) (x2 * d) + sqd (y * d2) (y2 * d)) / (d * d2 * d * d2) ≤ 722 := Nat.div_le_of_le_mul (Nat.le_trans a (Nat.le_of_eq (Nat.mul_comm _ _)))
  have e2 : (sqd (x * d2) (x2 * d) + sqd (y * d2) (y2 * d)) % (d * d2 * d * d2) * 1000 / (d * d2 * d * d2) ≤ 1000 := by
    refine Nat.div_le_of_le_mul ?_
    have := Nat.mod_lt (sqd (x * d2) (x2 * d) + sqd (y * d2) (y2 * d)) (show 0 < d * d2 * d * d2 by omega)
    exact Nat.mul_le_mul_right _ (by omega)
  omega
theorem Good.d19 {ρ : Pic} (g : Good ρ) {d : Nat} (hd : d < pcn ρ) : 1 ≤ pcD ρ d ∧ pcD ρ d ≤ 3600 ∧ pcX ρ d ≤ 19 * pcD ρ d ∧ pcY ρ d ≤ 19 * pcD ρ d := by
  obtain ⟨h1, h2, h3, h4, -⟩ := g.2.2.1 d hd
  have := g.n
  exact ⟨h1, h2, Nat.le_trans h3 (Nat.mul_le_mul_right _ (by omega)), Nat.le_trans h4 (Nat.mul_le_mul_right _ (by omega))⟩
/-- the two that are least apart: scanned with a fixed lesser number, then by it -/
noncomputable def clI (ρ : Pic) (a : Nat) (s : Option (Nat × Nat × Nat)) : Nat → Option (Nat × Nat × Nat)
  | 0 => s
  | k + 1 => if a < k then (match clI ρ a s k with
      | none => some (aptD ρ ρ a k, a, k)
      | some q => if aptD ρ ρ a k < q.1 then some (aptD ρ ρ a k, a, k) else some q) else clI ρ a s k
noncomputable def clO (ρ : Pic) : Nat → Option (Nat × Nat × Nat)
  | 0 => none
  | a + 1 => clI ρ a (clO ρ a) (pcn ρ)
noncomputable def aClosest (ρ : Pic) (w : Int32) : Int32 := match clO ρ (pcn ρ) with
  | none => -1
  | some q => sel w [nI q.1, nI q.2.1, nI q.2.2]
