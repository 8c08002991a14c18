/-! ===== numbers, pictures, owners ===== -/
theorem nl0 : (0 : Int32) = nI 0 := rfl
theorem nl1 : (1 : Int32) = nI 1 := rfl
theorem nl2 : (2 : Int32) = nI 2 := rfl
theorem nl3 : (3 : Int32) = nI 3 := rfl
theorem nl4 : (4 : Int32) = nI 4 := rfl
theorem nl8 : (8 : Int32) = nI 8 := rfl
theorem nl9 : (9 : Int32) = nI 9 := rfl
theorem nl10 : (10 : Int32) = nI 10 := rfl
theorem nl12 : (12 : Int32) = nI 12 := rfl
theorem nl20 : (20 : Int32) = nI 20 := rfl
theorem nl24 : (24 : Int32) = nI 24 := rfl
theorem nl30 : (30 : Int32) = nI 30 := rfl
theorem nl32 : (32 : Int32) = nI 32 := rfl
theorem nl40 : (40 : Int32) = nI 40 := rfl
theorem nl48 : (48 : Int32) = nI 48 := rfl
theorem nl100 : (100 : Int32) = nI 100 := rfl
theorem nl120 : (120 : Int32) = nI 120 := rfl
theorem nl200 : (200 : Int32) = nI 200 := rfl
theorem nl255 : (255 : Int32) = nI 255 := rfl
theorem nl400 : (400 : Int32) = nI 400 := rfl
theorem nl404 : (404 : Int32) = nI 404 := rfl
theorem nl524 : (524 : Int32) = nI 524 := rfl
theorem nl900 : (900 : Int32) = nI 900 := rfl
theorem nl1000 : (1000 : Int32) = nI 1000 := rfl
theorem nl9999 : (9999 : Int32) = nI 9999 := rfl
theorem nl16 : (16 : Int32) = nI 16 := rfl
theorem nl65536 : (65536 : Int32) = nI 65536 := rfl
theorem ll0 : Int64.ofNat 0 = lN 0 := rfl
theorem ll1 : Int64.ofNat 1 = lN 1 := rfl
theorem ll2 : Int64.ofNat 2 = lN 2 := rfl
theorem ll3 : Int64.ofNat 3 = lN 3 := rfl
theorem ll9 : Int64.ofNat 9 = lN 9 := rfl
theorem ll20 : Int64.ofNat 20 = lN 20 := rfl
theorem ll30 : Int64.ofNat 30 = lN 30 := rfl
theorem ll40 : Int64.ofNat 40 = lN 40 := rfl
theorem ll100 : Int64.ofNat 100 = lN 100 := rfl
theorem ll1000 : Int64.ofNat 1000 = lN 1000 := rfl
theorem ll9999 : Int64.ofNat 9999 = lN 9999 := rfl
theorem rzT {K : Option AV → AH → Prop} {h : AH} {p : Prop} (hp : p) (hK : K (some (vI (bI p))) h) : ((1 : Int32) = 0 ∨ (1 : Int32) = 1) ∧ K (some (vI 1)) h := ⟨Or.inr rfl, rtT (K := K) hp hK⟩
theorem rzF {K : Option AV → AH → Prop} {h : AH} {p : Prop} (hp : ¬ p) (hK : K (some (vI (bI p))) h) : ((0 : Int32) = 0 ∨ (0 : Int32) = 1) ∧ K (some (vI 0)) h := ⟨Or.inl rfl, rtF (K := K) hp hK⟩
theorem rzB {K : Option AV → AH → Prop} {h : AH} {p : Prop} (hK : K (some (vI (bI p))) h) : (bI p = 0 ∨ bI p = 1) ∧ K (some (vI (bI p))) h := ⟨bI_01 p, hK⟩
theorem upto {P : Nat → Prop} (n : Nat) (hs : ∀ k, k ≤ n → (k < n → P (k + 1)) → P k) : ∀ k, k ≤ n → P k := by
  intro k hk
  obtain ⟨d, hd⟩ : ∃ d, k + d = n := ⟨n - k, by omega⟩
  clear hk
  induction d generalizing k with
  | zero => exact hs k (by omega) (fun q => by omega)
  | succ d ih => exact hs k (by omega) (fun _ => ih (k + 1) (by omega))
/-- an Int32 among 0 .. n - 1 -/
def inN (x : Int32) (n : Nat) : Prop := ∃ j, j < n ∧ x = nI j
theorem inN_iff {x : Int32} {n : Nat} (hn : n < 2 ^ 31) : inN x n ↔ (0 ≤ x ∧ x < nI n) := by
  constructor
  · rintro ⟨j, hj, rfl⟩
    exact ⟨nI_pos' (by omega), nI_lt hj hn⟩
  · rintro ⟨h0, h1⟩
    rcases pk_ix x hn with q | q | ⟨j, hj, e⟩
    · exact absurd q (Int32.not_lt.mpr h0)
    · exact absurd h1 (Int32.not_lt.mpr q)
    · exact ⟨j, hj, e⟩
theorem inN_nI {j n : Nat} (hj : j < 2 ^ 31) (hn : n ≤ 2 ^ 31) : inN (nI j) n ↔ j < n := by
  constructor
  · rintro ⟨i, hi, e⟩
    rw [(nI_eq hj (by omega)).mp e]; exact hi
  · intro q; exact ⟨j, q, rfl⟩
def oI (o : Option Nat) : Int32 := match o with
  | none => -1
  | some d => nI d
theorem nI_m1 {k : Nat} (h : k < 2 ^ 31) : ¬ nI k = -1 := fun q => absurd (nI_pos' h) (by rw [q]; decide)
theorem Good.n {ρ : Pic} (g : Good ρ) : 1 ≤ pcw ρ ∧ pcw ρ ≤ 20 ∧ 1 ≤ pch ρ ∧ pch ρ ≤ 20 ∧ pcs ρ < 2 ^ 31 ∧ pcn ρ ≤ 40 := g.1
theorem Good.c {ρ : Pic} (g : Good ρ) : pcc ρ ≤ 400 ∧ 1 ≤ pcc ρ := by
  obtain ⟨h1, h2, h3, h4, -⟩ := g.1
  unfold pcc
  exact ⟨Nat.le_trans (Nat.mul_le_mul h2 h4) (by decide), Nat.le_trans (by decide) (Nat.mul_le_mul h1 h3)⟩
theorem Good.xy {ρ : Pic} (g : Good ρ) {c : Nat} (hc : c < pcc ρ) : c % pcw ρ < pcw ρ ∧ c / pcw ρ < pch ρ := by
  obtain ⟨h1, h2, h3, h4, -⟩ := g.1
  refine ⟨Nat.mod_lt _ h1, ?_⟩
  rw [Nat.div_lt_iff_lt_mul h1]
  unfold pcc at hc
  rw [Nat.mul_comm]; exact hc
theorem Good.d {ρ : Pic} (g : Good ρ) {d : Nat} (hd : d < pcn ρ) : 1 ≤ pcD ρ d ∧ pcD ρ d ≤ 3600 ∧ pcX ρ d ≤ 68400 ∧ pcY ρ d ≤ 68400 := by
  obtain ⟨h1, h2, h3, h4, h5⟩ := g.2.2.1 d hd
  obtain ⟨w1, w2, w3, w4, -⟩ := g.1
  refine ⟨h1, h2, Nat.le_trans h3 ?_, Nat.le_trans h4 ?_⟩
  · exact Nat.le_trans (Nat.mul_le_mul (show pcw ρ - 1 ≤ 19 by omega) h2) (by decide)
  · exact Nat.le_trans (Nat.mul_le_mul (show pch ρ - 1 ≤ 19 by omega) h2) (by decide)
theorem sqd_le {a b m : Nat} (ha : a ≤ m) (hb : b ≤ m) : sqd a b ≤ m * m := by
  unfold sqd
  rcases Nat.le_total b a with q | q
  · rw [show b - a = 0 by omega, Nat.mul_zero, Nat.add_zero]
    exact Nat.mul_le_mul (by omega) (by omega)
  · rw [show a - b = 0 by omega, Nat.mul_zero, Nat.zero_add]
    exact Nat.mul_le_mul (by omega) (by omega)
theorem spn_pos {ρ : Pic} (g : Good ρ) {d : Nat} (hd : d < pcn ρ) : 1 ≤ spn ρ d ∧ spn ρ d ≤ 12960000 := by
  obtain ⟨h1, h2, -⟩ := g.d hd
  exact ⟨Nat.mul_le_mul h1 h1, Nat.mul_le_mul h2 h2⟩
theorem gap_le {ρ : Pic} (g : Good ρ) {c d : Nat} (hc : c < pcc ρ) (hd : d < pcn ρ) : gap ρ c d ≤ 9357120000 := by
  obtain ⟨h1, h2, h3, h4⟩ := g.d hd
  obtain ⟨w1, w2, w3, w4, -⟩ := g.1
  obtain ⟨x1, x2⟩ := g.xy hc
  unfold gap
  have a := sqd_le (m := 68400) (Nat.le_trans (Nat.mul_le_mul (show c % pcw ρ ≤ 19 by omega) h2) (by decide)) h3
  have b := sqd_le (m := 68400) (Nat.le_trans (Nat.mul_le_mul (show c / pcw ρ ≤ 19 by omega) h2) (by decide)) h4
  omega
theorem gs_lt {ρ : Pic} (g : Good ρ) {c d e : Nat} (hc : c < pcc ρ) (hd : d < pcn ρ) (he : e < pcn ρ) : gap ρ c d * spn ρ e < 2 ^ 60 := by
  exact Nat.lt_of_le_of_lt (Nat.mul_le_mul (gap_le g hc hd) (spn_pos g he).2) (by decide)
/-- the nearest of the first n dots of a kind, of like ones the first -/
noncomputable def ow (ρ : Pic) (S : Nat → Prop) (c : Nat) : Nat → Option Nat
  | 0 => none
  | n + 1 => match ow ρ S c n with
    | none => @ite _ (S n) (Classical.propDecidable _) (some n) none
    | some b => @ite _ (S n ∧ nearer ρ c n b) (Classical.propDecidable _) (some n) (some b)
section Ow
variable {ρ : Pic} {S : Nat → Prop} {c n b : Nat}
theorem ow_skip (h : ¬ S n) : ow ρ S c (n + 1) = ow ρ S c n := by
  simp only [ow]
  cases ow ρ S c n with
  | none => simp only; rw [if_neg h]
  | some b => simp only; rw [if_neg (fun q => h q.1)]
theorem ow_new (e : ow ρ S c n = none) (h : S n) : ow ρ S c (n + 1) = some n := by
  simp only [ow, e]; rw [if_pos h]
theorem ow_near (e : ow ρ S c n = some b) (h : S n) (q : nearer ρ c n b) : ow ρ S c (n + 1) = some n := by
  simp only [ow, e]; rw [if_pos ⟨h, q⟩]
theorem ow_stay (e : ow ρ S c n = some b) (q : ¬ nearer ρ c n b) : ow ρ S c (n + 1) = some b := by
  simp only [ow, e]; rw [if_neg (fun z => q z.2)]
theorem ow_lt : ∀ {n b : Nat}, ow ρ S c n = some b → b < n ∧ S b
  | 0, b, h => by simp [ow] at h
  | n + 1, b, h => by
    cases e : ow ρ S c n with
    | none =>
      by_cases hs : S n
      · rw [ow_new e hs] at h; injection h with h; subst h; exact ⟨by omega, hs⟩
      · rw [ow_skip hs, e] at h; cases h
    | some a =>
      have ih := ow_lt e
      by_cases hs : S n
      · by_cases q : nearer ρ c n a
        · rw [ow_near e hs q] at h; injection h with h; subst h; exact ⟨by omega, hs⟩
        · rw [ow_stay e q] at h; injection h with h; subst h; exact ⟨by omega, ih.2⟩
      · rw [ow_skip hs, e] at h; injection h with h; subst h; exact ⟨by omega, ih.2⟩
end Ow
/-! ===== frames ===== -/
/-- only the ints and longs of the cells in L have changed -/
def Fr (L : List Nat) (h h' : AH) : Prop := hN h' = hN h ∧ hS h' = hS h ∧ hR h' = hR h ∧ ∀ k, k ∉ L → hI h' k = hI h k ∧ hL h' k = hL h k
theorem Fr.rf {L : List Nat} {h : AH} : Fr L h h := ⟨rfl, rfl, rfl, fun _ _ => ⟨rfl, rfl⟩⟩
theorem Fr.i {L : List Nat} {h h' : AH} (f : Fr L h h') {k : Nat} (hk : L.contains k = false) : hI h' k = hI h k := (f.2.2.2 k (by simpa using hk)).1
theorem Fr.l {L : List Nat} {h h' : AH} (f : Fr L h h') {k : Nat} (hk : L.contains k = false) : hL h' k = hL h k := (f.2.2.2 k (by simpa using hk)).2
theorem Fr.setI {L : List Nat} {h h' : AH} (f : Fr L h h') {k j : Nat} {v : Int32} (hk : L.contains k = true) : Fr L h (setI h' k j v) := by
  refine ⟨f.1, f.2.1, f.2.2.1, fun q hq => ⟨?_, (f.2.2.2 q hq).2⟩⟩
  rw [← (f.2.2.2 q hq).1]
  funext i
  show up2 (hI h') k j v q i = hI h' q i
  unfold up2
  rw [if_neg (fun z => hq (by rw [z.1]; simpa using hk))]
theorem Fr.setL {L : List Nat} {h h' : AH} (f : Fr L h h') {k j : Nat} {v : Int64} (hk : L.contains k = true) : Fr L h (setL h' k j v) := by
  refine ⟨f.1, f.2.1, f.2.2.1, fun q hq => ⟨(f.2.2.2 q hq).1, ?_⟩⟩
  rw [← (f.2.2.2 q hq).2]
  funext i
  show up2 (hL h') k j v q i = hL h' q i
  unfold up2
  rw [if_neg (fun z => hq (by rw [z.1]; simpa using hk))]
theorem Fr.tr {L M N : List Nat} {h h1 h2 : AH} (f : Fr L h h1) (g : Fr M h1 h2) (hL : L.all N.contains = true) (hM : M.all N.contains = true) : Fr N h h2 := by
  refine ⟨g.1.trans f.1, g.2.1.trans f.2.1, g.2.2.1.trans f.2.2.1, fun k hk => ?_⟩
  have a : k ∉ L := fun z => hk (by simpa using List.all_eq_true.mp hL k z)
  have b : k ∉ M := fun z => hk (by simpa using List.all_eq_true.mp hM k z)
  exact ⟨(g.2.2.2 k b).1.trans (f.2.2.2 k a).1, (g.2.2.2 k b).2.trans (f.2.2.2 k a).2⟩
theorem si_eq {h : AH} {k j : Nat} {v : Int32} : hI (setI h k j v) k j = v := by
  show up2 (hI h) k j v k j = v; exact up2_same _ _ _ _
theorem si_ne {h : AH} {k j j' : Nat} {v : Int32} (hj : j' ≠ j) : hI (setI h k j v) k j' = hI h k j' := by
  show up2 (hI h) k j v k j' = hI h k j'
  unfold up2; rw [if_neg (fun z => hj z.2)]
theorem si_nk {h : AH} {k k' j : Nat} {v : Int32} (hk : Nat.beq k' k = false) : hI (setI h k j v) k' = hI h k' := by
  funext i
  show up2 (hI h) k j v k' i = hI h k' i
  unfold up2; rw [if_neg (fun z => by rw [z.1] at hk; exact absurd hk (by rw [Nat.beq_refl]; decide))]
theorem sl_eq {h : AH} {k j : Nat} {v : Int64} : hL (setL h k j v) k j = v := by
  show up2 (hL h) k j v k j = v; exact up2_same _ _ _ _
theorem sl_ne {h : AH} {k j j' : Nat} {v : Int64} (hj : j' ≠ j) : hL (setL h k j v) k j' = hL h k j' := by
  show up2 (hL h) k j v k j' = hL h k j'
  unfold up2; rw [if_neg (fun z => hj z.2)]
theorem sl_nk {h : AH} {k k' j : Nat} {v : Int64} (hk : Nat.beq k' k = false) : hL (setL h k j v) k' = hL h k' := by
  funext i
  show up2 (hL h) k j v k' i = hL h k' i
  unfold up2; rw [if_neg (fun z => by rw [z.1] at hk; exact absurd hk (by rw [Nat.beq_refl]; decide))]
theorem MS.fr {L : List Nat} {h h' : AH} (m : MS h) (f : Fr L h h') : MS h' := ⟨f.1.trans m.1, f.2.1.trans m.2.1, fun j => by rw [f.2.2.1]; exact m.2.2 j⟩
/-- the model's own picture -/
def MP (h : AH) (ρ : Pic) : Prop := MS h ∧ hI h 137 = nR ρ ∧ Good ρ
theorem MP.fr {L : List Nat} {h h' : AH} {ρ : Pic} (m : MP h ρ) (f : Fr L h h') (hk : L.contains 137 = false) : MP h' ρ := ⟨m.1.fr f, (f.i hk).trans m.2.1, m.2.2⟩
