/-! ===== pictures changed ===== -/
def pu (ρ : Pic) (j v : Nat) : Pic := fun i => if i = j then v else ρ i
theorem pu_eq {ρ : Pic} {j v : Nat} : pu ρ j v j = v := by unfold pu; rw [if_pos rfl]
theorem pu_ne {ρ : Pic} {i j v : Nat} (h : i ≠ j) : pu ρ j v i = ρ i := by unfold pu; rw [if_neg h]
theorem nR_set {h : AH} {k j v : Nat} {ρ : Pic} (e : hI h k = nR ρ) : hI (setI h k j (nI v)) k = nR (pu ρ j v) := by
  funext i
  by_cases q : i = j
  · subst q; rw [si_eq]; unfold nR; rw [pu_eq]
  · rw [si_ne q, e]; unfold nR; rw [pu_ne q]
/-- a dot put at x / q, y / q, cut short -/
def setD (ρ : Pic) (d x y q : Nat) : Pic := pu (pu (pu ρ (404 + 3 * d) x) (404 + 3 * d + 1) y) (404 + 3 * d + 2) q
def gcd3 (x y q : Nat) : Nat := Nat.gcd (Nat.gcd x y) q
def lay (ρ : Pic) (d x y q : Nat) : Pic := setD ρ d (x / gcd3 x y q) (y / gcd3 x y q) (q / gcd3 x y q)
theorem setD_lo {ρ : Pic} {d x y q j : Nat} (h : j < 404) : setD ρ d x y q j = ρ j := by
  unfold setD; rw [pu_ne (by omega), pu_ne (by omega), pu_ne (by omega)]
theorem setD_X {ρ : Pic} {d x y q : Nat} : pcX (setD ρ d x y q) d = x := by
  unfold setD pcX; rw [pu_ne (by omega), pu_ne (by omega), pu_eq]
theorem setD_Y {ρ : Pic} {d x y q : Nat} : pcY (setD ρ d x y q) d = y := by
  unfold setD pcY; rw [pu_ne (by omega), pu_eq]
theorem setD_D {ρ : Pic} {d x y q : Nat} : pcD (setD ρ d x y q) d = q := by
  unfold setD pcD; rw [pu_eq]
theorem setD_Xn {ρ : Pic} {d e x y q : Nat} (h : e ≠ d) : pcX (setD ρ d x y q) e = pcX ρ e := by
  unfold setD pcX; rw [pu_ne (by omega), pu_ne (by omega), pu_ne (by omega)]
theorem setD_Yn {ρ : Pic} {d e x y q : Nat} (h : e ≠ d) : pcY (setD ρ d x y q) e = pcY ρ e := by
  unfold setD pcY; rw [pu_ne (by omega), pu_ne (by omega), pu_ne (by omega)]
theorem setD_Dn {ρ : Pic} {d e x y q : Nat} (h : e ≠ d) : pcD (setD ρ d x y q) e = pcD ρ e := by
  unfold setD pcD; rw [pu_ne (by omega), pu_ne (by omega), pu_ne (by omega)]
theorem setD_h {ρ : Pic} {d x y q : Nat} : pcw (setD ρ d x y q) = pcw ρ ∧ pch (setD ρ d x y q) = pch ρ ∧ pcs (setD ρ d x y q) = pcs ρ ∧ pcn (setD ρ d x y q) = pcn ρ := ⟨setD_lo (by decide), setD_lo (by decide), setD_lo (by decide), setD_lo (by decide)⟩
theorem setD_W {ρ : Pic} {d x y q c : Nat} (h : c < 400) : pcW (setD ρ d x y q) c = pcW ρ c := setD_lo (by omega)
theorem setD_z {ρ : Pic} {d x y q j : Nat} (hd : d < 40) (h : 524 ≤ j) : setD ρ d x y q j = ρ j := by
  unfold setD; rw [pu_ne (by omega), pu_ne (by omega), pu_ne (by omega)]
/-- the dots d' in place of d, all else the same -/
theorem good_setD {ρ : Pic} (g : Good ρ) {d x y q : Nat} (hd : d < pcn ρ) (ok : DotOK (pcw ρ) (pch ρ) x y q) : Good (setD ρ d x y q) := by
  obtain ⟨e1, e2, e3, e4⟩ := @setD_h ρ d x y q
  have g1 := g.n
  refine ⟨?_, fun c hc => ?_, fun e he => ?_, fun k hk => ?_⟩
  · rw [e1, e2, e3, e4]; exact g.1
  · rw [setD_W hc]; exact g.2.1 c hc
  · rw [e1, e2]
    rw [e4] at he
    by_cases q : e = d
    · subst q; rw [setD_X, setD_Y, setD_D]; exact ok
    · rw [setD_Xn q, setD_Yn q, setD_Dn q]; exact g.2.2.1 e he
  · rw [setD_z (by omega) hk]; exact g.2.2.2 k hk
theorem gcd3_pos {x y q : Nat} (h : 1 ≤ q) : 1 ≤ gcd3 x y q := Nat.gcd_pos_of_pos_right _ h
theorem gcd3_dvd {x y q : Nat} : gcd3 x y q ∣ x ∧ gcd3 x y q ∣ y ∧ gcd3 x y q ∣ q := ⟨Nat.dvd_trans (Nat.gcd_dvd_left _ _) (Nat.gcd_dvd_left _ _), Nat.dvd_trans (Nat.gcd_dvd_left _ _) (Nat.gcd_dvd_right _ _), Nat.gcd_dvd_right _ _⟩
theorem gcd3_red {x y q : Nat} (h : 1 ≤ q) : gcd3 (x / gcd3 x y q) (y / gcd3 x y q) (q / gcd3 x y q) = 1 := by
  have hp := gcd3_pos (x := x) (y := y) h
  obtain ⟨a, b, c⟩ := @gcd3_dvd x y q
  have e : gcd3 x y q * gcd3 (x / gcd3 x y q) (y / gcd3 x y q) (q / gcd3 x y q) = gcd3 x y q := by
    show gcd3 x y q * Nat.gcd (Nat.gcd _ _) _ = gcd3 x y q
    rw [← Nat.gcd_mul_left, ← Nat.gcd_mul_left, Nat.mul_div_cancel' a, Nat.mul_div_cancel' b, Nat.mul_div_cancel' c]
    rfl
  exact Nat.eq_of_mul_eq_mul_left hp (e.trans (Nat.mul_one _).symm)
theorem dotOK_lay {w h x y q : Nat} (hq : 1 ≤ q) (hq2 : q ≤ 3600) (hx : x ≤ (w - 1) * q) (hy : y ≤ (h - 1) * q) : DotOK w h (x / gcd3 x y q) (y / gcd3 x y q) (q / gcd3 x y q) := by
  have hp := gcd3_pos (x := x) (y := y) hq
  obtain ⟨a, b, c⟩ := @gcd3_dvd x y q
  have key : ∀ z m : Nat, gcd3 x y q ∣ z → z ≤ m * q → z / gcd3 x y q ≤ m * (q / gcd3 x y q) := by
    intro z m hz hm
    rw [Nat.div_le_iff_le_mul_add_pred hp, ← Nat.mul_assoc, Nat.mul_comm _ m, Nat.mul_assoc, Nat.mul_div_cancel' c]
    omega
  refine ⟨?_, Nat.le_trans (Nat.div_le_self _ _) hq2, key x _ a hx, key y _ b hy, gcd3_red hq⟩
  exact (Nat.one_le_div_iff hp).mpr (Nat.le_of_dvd hq c)
theorem good_lay {ρ : Pic} (g : Good ρ) {d x y q : Nat} (hd : d < pcn ρ) (hq : 1 ≤ q) (hq2 : q ≤ 3600) (hx : x ≤ (pcw ρ - 1) * q) (hy : y ≤ (pch ρ - 1) * q) : Good (lay ρ d x y q) := good_setD g hd (dotOK_lay hq hq2 hx hy)
theorem gcd3_1 {x y : Nat} : gcd3 x y 1 = 1 := Nat.gcd_one_right _
theorem lay_1 {ρ : Pic} {d x y : Nat} : lay ρ d x y 1 = setD ρ d x y 1 := by unfold lay; rw [gcd3_1]; simp
/-- a dot more, behind all -/
def addD (ρ : Pic) (x y : Nat) : Pic := pu (setD ρ (pcn ρ) x y 1) 3 (pcn ρ + 1)
theorem addD_n {ρ : Pic} {x y : Nat} : pcn (addD ρ x y) = pcn ρ + 1 := by unfold addD; show pu _ 3 _ 3 = _; rw [pu_eq]
theorem good_addD {ρ : Pic} (g : Good ρ) {x y : Nat} (hn : pcn ρ < 40) (hx : x < pcw ρ) (hy : y < pch ρ) : Good (addD ρ x y) := by
  have g1 := g.n
  have e : ∀ j, j ≠ 3 → j < 404 → addD ρ x y j = ρ j := fun j h1 h2 => by unfold addD; rw [pu_ne h1]; exact setD_lo h2
  have en : pcn (addD ρ x y) = pcn ρ + 1 := addD_n
  have ew : pcw (addD ρ x y) = pcw ρ := e 0 (by decide) (by decide)
  have eh : pch (addD ρ x y) = pch ρ := e 1 (by decide) (by decide)
  have es : pcs (addD ρ x y) = pcs ρ := e 2 (by decide) (by decide)
  refine ⟨by rw [en, ew, eh, es]; omega, fun c hc => ?_, fun d hd => ?_, fun k hk => ?_⟩
  · show addD ρ x y (4 + c) ≤ 9
    rw [e _ (by omega) (by omega)]; exact g.2.1 c hc
  · rw [ew, eh]
    have eX : pcX (addD ρ x y) d = pcX (setD ρ (pcn ρ) x y 1) d := pu_ne (by omega)
    have eY : pcY (addD ρ x y) d = pcY (setD ρ (pcn ρ) x y 1) d := pu_ne (by omega)
    have eD : pcD (addD ρ x y) d = pcD (setD ρ (pcn ρ) x y 1) d := pu_ne (by omega)
    rw [eX, eY, eD]
    by_cases q : d = pcn ρ
    · subst q; rw [setD_X, setD_Y, setD_D]
      exact ⟨by decide, by decide, by omega, by omega, Nat.gcd_one_right _⟩
    · rw [setD_Xn q, setD_Yn q, setD_Dn q]; exact g.2.2.1 d (by omega)
  · show addD ρ x y k = 0
    unfold addD
    rw [pu_ne (by omega), setD_z hn hk]; exact g.2.2.2 k hk
/-- a dot less; those behind it come forward -/
def delD (ρ : Pic) (d : Nat) : Pic := fun j => if j = 3 then pcn ρ - 1 else if j < 404 + 3 * d then ρ j else if j < 404 + 3 * (pcn ρ - 1) then ρ (j + 3) else if j < 404 + 3 * pcn ρ then 0 else ρ j
theorem delD_lo {ρ : Pic} {d j : Nat} (h : j < 404) (h3 : j ≠ 3) : delD ρ d j = ρ j := by
  unfold delD; rw [if_neg h3, if_pos (by omega)]
theorem delD_n {ρ : Pic} {d : Nat} : pcn (delD ρ d) = pcn ρ - 1 := by show delD ρ d 3 = _; unfold delD; rw [if_pos rfl]
theorem delD_lt {ρ : Pic} {d e i : Nat} (h : e < d) (hi : i < 3) : delD ρ d (404 + 3 * e + i) = ρ (404 + 3 * e + i) := by
  unfold delD; rw [if_neg (by omega), if_pos (by omega)]
theorem delD_ge {ρ : Pic} {d e i : Nat} (h : d ≤ e) (he : e + 1 < pcn ρ) (hi : i < 3) : delD ρ d (404 + 3 * e + i) = ρ (404 + 3 * (e + 1) + i) := by
  unfold delD; rw [if_neg (by omega), if_neg (by omega), if_pos (by omega)]
  exact congrArg ρ (by omega)
theorem good_delD {ρ : Pic} (g : Good ρ) {d : Nat} (hd : d < pcn ρ) : Good (delD ρ d) := by
  have g1 := g.n
  have ew : pcw (delD ρ d) = pcw ρ := delD_lo (by decide) (by decide)
  have eh : pch (delD ρ d) = pch ρ := delD_lo (by decide) (by decide)
  have es : pcs (delD ρ d) = pcs ρ := delD_lo (by decide) (by decide)
  refine ⟨by rw [delD_n, ew, eh, es]; omega, fun c hc => ?_, fun e he => ?_, fun k hk => ?_⟩
  · show delD ρ d (4 + c) ≤ 9
    rw [delD_lo (by omega) (by omega)]; exact g.2.1 c hc
  · rw [ew, eh]
    rw [delD_n] at he
    unfold pcX pcY pcD
    by_cases q : e < d
    · have e0 := @delD_lt ρ d e 0 q (by decide)
      rw [Nat.add_zero] at e0
      rw [e0, delD_lt q (by decide), delD_lt q (by decide)]; exact g.2.2.1 e (by omega)
    · have e0 := @delD_ge ρ d e 0 (by omega) (by omega) (by decide)
      rw [Nat.add_zero, Nat.add_zero] at e0
      rw [e0, delD_ge (by omega) (by omega) (by decide), delD_ge (by omega) (by omega) (by decide)]; exact g.2.2.1 (e + 1) (by omega)
  · show delD ρ d k = 0
    unfold delD
    rw [if_neg (by omega), if_neg (by omega), if_neg (by omega), if_neg (by omega)]; exact g.2.2.2 k hk
/-- what is kept of pictures: an act -/
def pushP (pa : Nat → Pic) (an : Nat) (ρ : Pic) : Nat → Pic := fun i => if an = 12 then (if i = 11 then ρ else pa (i + 1)) else (if i = an then ρ else pa i)
def pushA (an : Nat) : Nat := if an = 12 then 12 else an + 1
def swp (pa : Nat → Pic) (i : Nat) (ρ : Pic) : Nat → Pic := fun j => if j = i then ρ else pa j
/-! ===== the model's state ===== -/
def MT (h : AH) (tp : Nat → Nat) (tn : Nat) (ft fp : Int32) : Prop := (∀ i, i < tn → hI h 138 i = nI (tp i)) ∧ hI h 136 2 = nI tn ∧ tn ≤ 900 ∧ hI h 136 11 = ft ∧ hI h 136 12 = fp
def MA (h : AH) (pa : Nat → Pic) (an un : Nat) : Prop := (∀ i, i < an + un → (∀ k, k < 524 → hI h 140 (524 * i + k) = nI (pa i k)) ∧ Good (pa i)) ∧ hI h 136 17 = nI an ∧ hI h 136 18 = nI un ∧ an + un ≤ 12
def MK (h : AH) (sm sc : Nat → Int32) (sn : Nat) : Prop := (∀ i, i < sn → hI h 146 i = sm i ∧ hI h 147 i = sc i) ∧ hI h 136 27 = nI sn ∧ sn ≤ 20
def MB (h : AH) (bx : Nat → Pic) (bk : Nat → Prop) : Prop := ∀ b, b < 2 → hI h 159 b = bI (bk b) ∧ (bk b → Good (bx b) ∧ ∀ k, k < 524 → hI h 157 (524 * b + k) = nI (bx b k))
/-- nothing outside the model has changed -/
def FM (h h' : AH) : Prop := hN h' = hN h ∧ hS h' = hS h ∧ ∀ k, k < 136 → hI h' k = hI h k ∧ hL h' k = hL h k ∧ hR h' k = hR h k
theorem FM.rf {h : AH} : FM h h := ⟨rfl, rfl, fun _ _ => ⟨rfl, rfl, rfl⟩⟩
theorem FM.tr {h h1 h2 : AH} (f : FM h h1) (g : FM h1 h2) : FM h h2 := ⟨g.1.trans f.1, g.2.1.trans f.2.1, fun k hk => ⟨(g.2.2 k hk).1.trans (f.2.2 k hk).1, (g.2.2 k hk).2.1.trans (f.2.2 k hk).2.1, (g.2.2 k hk).2.2.trans (f.2.2 k hk).2.2⟩⟩
theorem Fr.m {L : List Nat} {h h' : AH} (f : Fr L h h') (hL : L.all (Nat.ble 136) = true) : FM h h' := by
  refine ⟨f.1, f.2.1, fun k hk => ?_⟩
  have := f.2.2.2 k (fun z => by have := Nat.le_of_ble_eq_true (List.all_eq_true.mp hL k z); omega)
  exact ⟨this.1, this.2, by rw [f.2.2.1]⟩
/-- the model's own scalars but some -/
def Sc1 (L : List Nat) (h h' : AH) : Prop := ∀ j, L.contains j = false → hI h' 136 j = hI h 136 j
theorem Sc1.rf {L : List Nat} {h : AH} : Sc1 L h h := fun _ _ => rfl
theorem Sc1.of {L M : List Nat} {h h' : AH} (f : Fr L h h') (hk : L.contains 136 = false) : Sc1 M h h' := fun j _ => by rw [f.i hk]
theorem Sc1.tr {L M N : List Nat} {h h1 h2 : AH} (f : Sc1 L h h1) (g : Sc1 M h1 h2) (hL : L.all N.contains = true) (hM : M.all N.contains = true) : Sc1 N h h2 := by
  intro j hj
  have a : L.contains j = false := by
    cases e : L.contains j with
    | false => rfl
    | true => exact absurd (List.all_eq_true.mp hL j (by simpa using e)) (by rw [hj]; decide)
  have b : M.contains j = false := by
    cases e : M.contains j with
    | false => rfl
    | true => exact absurd (List.all_eq_true.mp hM j (by simpa using e)) (by rw [hj]; decide)
  exact (g j b).trans (f j a)
theorem Sc1.set {L : List Nat} {h h' : AH} (f : Sc1 L h h') {j : Nat} {v : Int32} (hj : L.contains j = true) : Sc1 L h (setI h' 136 j v) := by
  intro i hi
  rw [si_ne (fun z => by subst z; rw [hi] at hj; cases hj)]; exact f i hi
theorem Sc1.oth {L : List Nat} {h h' : AH} (f : Sc1 L h h') {k j : Nat} {v : Int32} (hk : Nat.beq 136 k = false) : Sc1 L h (setI h' k j v) := by
  intro i hi
  rw [si_nk hk]; exact f i hi
theorem MT.fr {L M : List Nat} {h h' : AH} {tp : Nat → Nat} {tn : Nat} {ft fp : Int32} (t : MT h tp tn ft fp) (f : Fr L h h') (s : Sc1 M h h') (h1 : L.contains 138 = false) (h2 : (M.contains 2 || M.contains 11 || M.contains 12) = false) : MT h' tp tn ft fp := by
  simp only [Bool.or_eq_false_iff] at h2
  refine ⟨fun i hi => by rw [f.i h1]; exact t.1 i hi, (s 2 h2.1.1).trans t.2.1, t.2.2.1, (s 11 h2.1.2).trans t.2.2.2.1, (s 12 h2.2).trans t.2.2.2.2⟩
theorem MA.fr {L M : List Nat} {h h' : AH} {pa : Nat → Pic} {an un : Nat} (t : MA h pa an un) (f : Fr L h h') (s : Sc1 M h h') (h1 : L.contains 140 = false) (h2 : (M.contains 17 || M.contains 18) = false) : MA h' pa an un := by
  simp only [Bool.or_eq_false_iff] at h2
  refine ⟨fun i hi => ⟨fun k hk => by rw [f.i h1]; exact (t.1 i hi).1 k hk, (t.1 i hi).2⟩, (s 17 h2.1).trans t.2.1, (s 18 h2.2).trans t.2.2.1, t.2.2.2⟩
theorem MK.fr {L M : List Nat} {h h' : AH} {sm sc : Nat → Int32} {sn : Nat} (t : MK h sm sc sn) (f : Fr L h h') (s : Sc1 M h h') (h1 : (L.contains 146 || L.contains 147) = false) (h2 : M.contains 27 = false) : MK h' sm sc sn := by
  simp only [Bool.or_eq_false_iff] at h1
  refine ⟨fun i hi => by rw [f.i h1.1, f.i h1.2]; exact t.1 i hi, (s 27 h2).trans t.2.1, t.2.2⟩
theorem MB.fr {L : List Nat} {h h' : AH} {bx : Nat → Pic} {bk : Nat → Prop} (t : MB h bx bk) (f : Fr L h h') (h1 : (L.contains 157 || L.contains 159) = false) : MB h' bx bk := by
  simp only [Bool.or_eq_false_iff] at h1
  intro b hb
  rw [f.i h1.1, f.i h1.2]; exact t b hb
/-- all of it -/
def MR (h : AH) (tp : Nat → Nat) (tn : Nat) (ft fp : Int32) (ρ : Pic) (pa : Nat → Pic) (an un : Nat) (sm sc : Nat → Int32) (sn : Nat) (bx : Nat → Pic) (bk : Nat → Prop) : Prop := MP h ρ ∧ MT h tp tn ft fp ∧ MA h pa an un ∧ MK h sm sc sn ∧ MB h bx bk
