/-! ===== the class: its cells ===== -/
def grl : List Nat := [0, 1, 2, 2, 2, 2, 2, 7, 7, 7, 7, 7, 7, 7, 7, 7, 7, 17, 17, 19, 19, 19, 19, 19, 24, 24, 26, 26, 26, 26, 26, 31, 31, 31, 31, 31, 36, 36, 36, 36, 36, 41, 41, 41, 41, 41, 46, 46, 46, 46, 46, 51, 51, 51, 51, 51, 56, 56, 56, 56, 56, 61, 61, 61, 61, 61, 66, 66, 66, 66, 66, 71, 71, 71, 71, 71, 76, 76, 76, 76, 76, 81, 81, 81, 81, 81, 86, 86, 86, 89, 90, 90, 90, 90, 90, 95, 95, 95, 95, 95, 100, 100, 100, 100, 100, 100, 100, 100, 100, 100, 110, 110, 112, 112, 112, 112, 112, 112, 118, 119, 120, 121, 122, 123, 123, 123, 123, 123, 122, 129, 130, 130, 130, 130, 130, 129]
/-- the object that a cell belongs to; 136 for all of the model -/
def grp (k : Nat) : Nat := grl.getD k 136
def PL : List Nat := [2, 19, 26, 31, 36, 41, 46, 51, 56, 61, 66, 71, 76, 81]
def SL : List Nat := PL ++ [90, 95, 123, 130]
theorem grp_hi {k : Nat} (h : 136 ≤ k) : grp k = 136 := by
  unfold grp
  have : grl.length = 136 := by decide +kernel
  rw [List.getD_eq_getElem?_getD, List.getElem?_eq_none (by omega)]; rfl
theorem grp_lo : (List.range 136).all (fun k => Nat.blt (grp k) 136) = true := by decide +kernel
/-- references that stay -/
def crf (k j : Nat) : Nat := if SL.contains k then ([0, 0, 0, 0, k + 1, k + 2, k + 3, k + 4] : List Nat).getD j 0 else if k = 7 ∨ k = 100 then (if j < 9 then k + 1 + j else 0) else
  match k with
  | 1 => ([0, 7, 0, 17, 24, 86, 89, 110, 112, 118, 119, 120, 121] : List Nat).getD j 0
  | 17 => ([0, 0, 0, 18] : List Nat).getD j 0
  | 24 => ([25] : List Nat).getD j 0
  | 86 => ([87, 88] : List Nat).getD j 0
  | 89 => ([90, 0, 0, 0, 95, 100] : List Nat).getD j 0
  | 110 => ([111] : List Nat).getD j 0
  | 112 => ([113, 114, 115, 116, 117] : List Nat).getD j 0
  | 118 => ([122, 129] : List Nat).getD j 0
  | 122 => ([0, 123, 128] : List Nat).getD j 0
  | 129 => ([0, 130, 135] : List Nat).getD j 0
  | _ => 0
def CS (h : AH) : Prop := hN h = 159 ∧ hS h = shp ∧ ∀ k j, crf k j ≠ 0 → hR h k j = crf k j
theorem CS.rf {h : AH} (c : CS h) {k j v : Nat} (e : crf k j = v) (hv : Nat.beq v 0 = false) : hR h k j = v := by
  rw [c.2.2 k j (fun z => by rw [e] at z; rw [z] at hv; cases hv), e]
theorem CS.ob {h : AH} (c : CS h) {k ci : Nat} (e : shp k = .inl ci) (h0 : Nat.blt 0 k = true) (h1 : Nat.ble k 159 = true) : Ob h k ci := ⟨Nat.le_of_ble_eq_true h0, by rw [c.1]; exact Nat.le_of_ble_eq_true h1, by rw [c.2.1]; exact e⟩
theorem CS.ar {h : AH} (c : CS h) {k t n : Nat} (e : shp k = .inr (t, n)) (h0 : Nat.blt 0 k = true) (h1 : Nat.ble k 159 = true) : Ar h k t n := ⟨Nat.le_of_ble_eq_true h0, by rw [c.1]; exact Nat.le_of_ble_eq_true h1, by rw [c.2.1]; exact e⟩
theorem CS.inA {h : AH} (c : CS h) {k t n : Nat} {i : Int32} {j : Nat} (e : shp k = .inr (t, n)) (h0 : Nat.blt 0 k = true) (h1 : Nat.ble k 159 = true) (hi : i = nI j) (hj : j < n) (hn : Nat.ble n 10000 = true) : InA h k t i := ⟨n, c.ar e h0 h1, by subst hi; exact vp_in_nI hj (Nat.lt_of_le_of_lt (Nat.le_of_ble_eq_true hn) (by decide))⟩
/-- a scene's number -/
def SH (s : Nat) : Prop := SL.contains s = true
def shOK (s : Nat) : Bool := decide (shp s = .inl 7) && decide (shp (s + 1) = .inr (0, 400)) && decide (shp (s + 2) = .inr (0, 40)) && decide (shp (s + 3) = .inr (0, 40)) && decide (shp (s + 4) = .inr (0, 40)) && Nat.blt 0 s && Nat.ble (s + 4) 159 && Nat.beq (grp s) s && Nat.beq (grp (s + 1)) s && Nat.beq (grp (s + 2)) s && Nat.beq (grp (s + 3)) s && Nat.beq (grp (s + 4)) s && Nat.blt s 136
theorem sh_ok : SL.all shOK = true := by decide +kernel
theorem SH.a {s : Nat} (h : SH s) : (shp s = .inl 7 ∧ shp (s + 1) = .inr (0, 400) ∧ shp (s + 2) = .inr (0, 40) ∧ shp (s + 3) = .inr (0, 40) ∧ shp (s + 4) = .inr (0, 40)) ∧ (0 < s ∧ s + 4 ≤ 159 ∧ s < 136) ∧ (grp s = s ∧ grp (s + 1) = s ∧ grp (s + 2) = s ∧ grp (s + 3) = s ∧ grp (s + 4) = s) := by
  have := List.all_eq_true.mp sh_ok s (by simpa [SH] using h)
  unfold shOK at this
  simp only [Bool.and_eq_true, decide_eq_true_eq] at this
  obtain ⟨⟨⟨⟨⟨⟨⟨⟨⟨⟨⟨⟨a1, a2⟩, a3⟩, a4⟩, a5⟩, a6⟩, a7⟩, a8⟩, a9⟩, b1⟩, b2⟩, b3⟩, b4⟩ := this
  exact ⟨⟨a1, a2, a3, a4, a5⟩, ⟨Nat.le_of_ble_eq_true a6, Nat.le_of_ble_eq_true a7, Nat.le_of_ble_eq_true b4⟩, ⟨Nat.eq_of_beq_eq_true a8, Nat.eq_of_beq_eq_true a9, Nat.eq_of_beq_eq_true b1, Nat.eq_of_beq_eq_true b2, Nat.eq_of_beq_eq_true b3⟩⟩
theorem SH.rf {s : Nat} (h : SH s) : crf s 4 = s + 1 ∧ crf s 5 = s + 2 ∧ crf s 6 = s + 3 ∧ crf s 7 = s + 4 := by
  unfold SH at h
  unfold crf; rw [if_pos h, if_pos h, if_pos h, if_pos h]; exact ⟨rfl, rfl, rfl, rfl⟩
theorem pl_sl {s : Nat} (h : PL.contains s = true) : SH s := by
  unfold SH SL; simp only [List.contains_eq_mem, decide_eq_true_eq] at h ⊢; exact List.mem_append_left _ h
/-- scene s holds the picture -/
def SP (h : AH) (s : Nat) (ρ : Pic) : Prop := (hI h s 0 = nI (pcw ρ) ∧ hI h s 1 = nI (pch ρ) ∧ hI h s 2 = nI (pcn ρ) ∧ hI h s 3 = nI (pcs ρ)) ∧ (∀ c, c < pcc ρ → hI h (s + 1) c = nI (pcW ρ c)) ∧ (∀ d, d < pcn ρ → hI h (s + 2) d = nI (pcX ρ d) ∧ hI h (s + 3) d = nI (pcY ρ d) ∧ hI h (s + 4) d = nI (pcD ρ d))
def SC (h : AH) (s : Nat) (ρ : Pic) : Prop := CS h ∧ SH s ∧ SP h s ρ ∧ Good ρ
/-- only group s (999: none) and the groups in L have changed -/
def FX (s : Nat) (L : List Nat) (h h' : AH) : Prop := hN h' = hN h ∧ hS h' = hS h ∧ hR h' = hR h ∧ ∀ k, grp k ≠ s → L.contains (grp k) = false → hI h' k = hI h k ∧ hL h' k = hL h k
/-- nothing of the model has changed -/
def FC (h h' : AH) : Prop := hN h' = hN h ∧ hS h' = hS h ∧ ∀ k, 136 ≤ k → hI h' k = hI h k ∧ hL h' k = hL h k ∧ hR h' k = hR h k
theorem FX.rf {s : Nat} {L : List Nat} {h : AH} : FX s L h h := ⟨rfl, rfl, rfl, fun _ _ _ => ⟨rfl, rfl⟩⟩
theorem FX.i {s : Nat} {L : List Nat} {h h' : AH} (f : FX s L h h') {k : Nat} (h1 : grp k ≠ s) (h2 : L.contains (grp k) = false) : hI h' k = hI h k := (f.2.2.2 k h1 h2).1
theorem FX.l {s : Nat} {L : List Nat} {h h' : AH} (f : FX s L h h') {k : Nat} (h1 : grp k ≠ s) (h2 : L.contains (grp k) = false) : hL h' k = hL h k := (f.2.2.2 k h1 h2).2
theorem FX.tr {s : Nat} {L M N : List Nat} {h h1 h2 : AH} (f : FX s L h h1) (g : FX s M h1 h2) (hL : L.all N.contains = true) (hM : M.all N.contains = true) : FX s N h h2 := by
  refine ⟨g.1.trans f.1, g.2.1.trans f.2.1, g.2.2.1.trans f.2.2.1, fun k a b => ?_⟩
  have out : ∀ {X : List Nat}, X.all N.contains = true → X.contains (grp k) = false := fun {X} hX => by
    cases e : X.contains (grp k) with
    | false => rfl
    | true => exact absurd (List.all_eq_true.mp hX (grp k) (by simpa using e)) (by rw [b]; decide)
  have x := f.2.2.2 k a (out hL)
  have y := g.2.2.2 k a (out hM)
  exact ⟨y.1.trans x.1, y.2.trans x.2⟩
theorem grp_le (k : Nat) : grp k ≤ 136 := by
  by_cases hk : k < 136
  · have := Nat.le_of_ble_eq_true (List.all_eq_true.mp grp_lo k (List.mem_range.mpr hk))
    omega
  · rw [grp_hi (by omega)]; exact Nat.le_refl _
/-- 999: no group -/
theorem FX.of {s : Nat} {L : List Nat} {h h' : AH} (f : FX 999 L h h') : FX s L h h' :=
  ⟨f.1, f.2.1, f.2.2.1, fun k _ b => f.2.2.2 k (fun z => by have := grp_le k; omega) b⟩
theorem FX.setI {s : Nat} {L : List Nat} {h h' : AH} (f : FX s L h h') {k j : Nat} {v : Int32} (hk : grp k = s ∨ L.contains (grp k) = true) : FX s L h (setI h' k j v) := by
  refine ⟨f.1, f.2.1, f.2.2.1, fun q a b => ?_⟩
  have x := f.2.2.2 q a b
  have ne : q ≠ k := fun z => by subst z; exact hk.elim a (fun y => by rw [b] at y; cases y)
  refine ⟨?_, x.2⟩
  funext i
  show up2 (hI h') k j v q i = _
  unfold up2; rw [if_neg (fun z => ne z.1)]; exact congrFun x.1 i
theorem FX.setL {s : Nat} {L : List Nat} {h h' : AH} (f : FX s L h h') {k j : Nat} {v : Int64} (hk : grp k = s ∨ L.contains (grp k) = true) : FX s L h (setL h' k j v) := by
  refine ⟨f.1, f.2.1, f.2.2.1, fun q a b => ?_⟩
  have x := f.2.2.2 q a b
  have ne : q ≠ k := fun z => by subst z; exact hk.elim a (fun y => by rw [b] at y; cases y)
  refine ⟨x.1, ?_⟩
  funext i
  show up2 (hL h') k j v q i = _
  unfold up2; rw [if_neg (fun z => ne z.1)]; exact congrFun x.2 i
theorem FX.cs {s : Nat} {L : List Nat} {h h' : AH} (f : FX s L h h') (c : CS h) : CS h' := ⟨f.1.trans c.1, f.2.1.trans c.2.1, fun k j z => by rw [f.2.2.1]; exact c.2.2 k j z⟩
theorem FX.m {s : Nat} {L : List Nat} {h h' : AH} (f : FX s L h h') (hs : s < 136) (hL : L.contains 136 = false) : FC h h' := by
  refine ⟨f.1, f.2.1, fun k hk => ?_⟩
  have := f.2.2.2 k (by rw [grp_hi hk]; omega) (by rw [grp_hi hk]; exact hL)
  exact ⟨this.1, this.2, by rw [f.2.2.1]⟩
/-- a scene that is not touched -/
theorem FX.sp {s : Nat} {L : List Nat} {h h' : AH} (f : FX s L h h') {u : Nat} {ρ : Pic} (p : SP h u ρ) (hu : SH u) (h1 : u ≠ s) (h2 : L.contains u = false) : SP h' u ρ := by
  obtain ⟨g0, g1, g2, g3, g4⟩ := hu.a.2.2
  unfold SP
  rw [f.i (k := u) (by rw [g0]; exact h1) (by rw [g0]; exact h2), f.i (k := u + 1) (by rw [g1]; exact h1) (by rw [g1]; exact h2), f.i (k := u + 2) (by rw [g2]; exact h1) (by rw [g2]; exact h2), f.i (k := u + 3) (by rw [g3]; exact h1) (by rw [g3]; exact h2), f.i (k := u + 4) (by rw [g4]; exact h1) (by rw [g4]; exact h2)]
  exact p
theorem FX.sc {s : Nat} {L : List Nat} {h h' : AH} (f : FX s L h h') {u : Nat} {ρ : Pic} (p : SC h u ρ) (h1 : u ≠ s) (h2 : L.contains u = false) : SC h' u ρ := ⟨f.cs p.1, p.2.1, f.sp p.2.2.1 p.2.1 h1 h2, p.2.2.2⟩
theorem FC.tr {h h1 h2 : AH} (f : FC h h1) (g : FC h1 h2) : FC h h2 := ⟨g.1.trans f.1, g.2.1.trans f.2.1, fun k hk => ⟨(g.2.2 k hk).1.trans (f.2.2 k hk).1, (g.2.2 k hk).2.1.trans (f.2.2 k hk).2.1, (g.2.2 k hk).2.2.trans (f.2.2 k hk).2.2⟩⟩
theorem FC.mr {h h' : AH} {tp : Nat → Nat} {tn : Nat} {ft fp : Int32} {ρ : Pic} {pa : Nat → Pic} {an un : Nat} {sm sc : Nat → Int32} {sn : Nat} {bx : Nat → Pic} {bk : Nat → Prop} (f : FC h h') (r : MR h tp tn ft fp ρ pa an un sm sc sn bx bk) : MR h' tp tn ft fp ρ pa an un sm sc sn bx bk := by
  have i : ∀ k, Nat.ble 136 k = true → hI h' k = hI h k := fun k hk => (f.2.2 k (Nat.le_of_ble_eq_true hk)).1
  have mr : MS h → MS h' := fun m => ⟨f.1.trans m.1, f.2.1.trans m.2.1, fun j => by rw [(f.2.2 136 (Nat.le_refl _)).2.2]; exact m.2.2 j⟩
  obtain ⟨p, t, a, k, b⟩ := r
  refine ⟨⟨mr p.1, (i 137 rfl).trans p.2.1, p.2.2⟩, ?_, ?_, ?_, ?_⟩
  · unfold MT; rw [i 138 rfl, i 136 rfl]; exact t
  · unfold MA; rw [i 140 rfl, i 136 rfl]; exact a
  · unfold MK; rw [i 146 rfl, i 147 rfl, i 136 rfl]; exact k
  · unfold MB; rw [i 159 rfl, i 157 rfl]; exact b
section SCm
variable {h : AH} {s : Nat} {ρ : Pic}
theorem SC.ob (x : SC h s ρ) : Ob h s 7 := ⟨x.2.1.a.2.1.1, by rw [x.1.1]; have := x.2.1.a.2.1; omega, by rw [x.1.2.1]; exact x.2.1.a.1.1⟩
theorem SC.r4 (x : SC h s ρ) : hR h s 4 = s + 1 := x.1.rf x.2.1.rf.1 rfl
theorem SC.r5 (x : SC h s ρ) : hR h s 5 = s + 2 := x.1.rf x.2.1.rf.2.1 rfl
theorem SC.r6 (x : SC h s ρ) : hR h s 6 = s + 3 := x.1.rf x.2.1.rf.2.2.1 rfl
theorem SC.r7 (x : SC h s ρ) : hR h s 7 = s + 4 := x.1.rf x.2.1.rf.2.2.2 rfl
theorem SC.inW (x : SC h s ρ) {i : Int32} {j : Nat} (hi : i = nI j) (hj : j < 400) : InA h (s + 1) 0 i := by
  have a := x.2.1.a.2.1
  exact ⟨400, ⟨by omega, by rw [x.1.1]; omega, by rw [x.1.2.1]; exact x.2.1.a.1.2.1⟩, by subst hi; exact vp_in_nI hj (by decide)⟩
theorem SC.inX (x : SC h s ρ) {i : Int32} {j : Nat} (hi : i = nI j) (hj : j < 40) : InA h (s + 2) 0 i := by
  have a := x.2.1.a.2.1
  exact ⟨40, ⟨by omega, by rw [x.1.1]; omega, by rw [x.1.2.1]; exact x.2.1.a.1.2.2.1⟩, by subst hi; exact vp_in_nI hj (by decide)⟩
theorem SC.inY (x : SC h s ρ) {i : Int32} {j : Nat} (hi : i = nI j) (hj : j < 40) : InA h (s + 3) 0 i := by
  have a := x.2.1.a.2.1
  exact ⟨40, ⟨by omega, by rw [x.1.1]; omega, by rw [x.1.2.1]; exact x.2.1.a.1.2.2.2.1⟩, by subst hi; exact vp_in_nI hj (by decide)⟩
theorem SC.inD (x : SC h s ρ) {i : Int32} {j : Nat} (hi : i = nI j) (hj : j < 40) : InA h (s + 4) 0 i := by
  have a := x.2.1.a.2.1
  exact ⟨40, ⟨by omega, by rw [x.1.1]; omega, by rw [x.1.2.1]; exact x.2.1.a.1.2.2.2.2⟩, by subst hi; exact vp_in_nI hj (by decide)⟩
theorem SC.W (x : SC h s ρ) {i : Int32} {c : Nat} (hi : i = nI c) (hc : c < pcc ρ) : hI h (s + 1) (ix i) = nI (pcW ρ c) := by
  rw [ix_of hi (by have := x.2.2.2.c; omega)]; exact x.2.2.1.2.1 c hc
theorem SC.X (x : SC h s ρ) {i : Int32} {d : Nat} (hi : i = nI d) (hd : d < pcn ρ) : hI h (s + 2) (ix i) = nI (pcX ρ d) := by
  rw [ix_of hi (by have := x.2.2.2.n; omega)]; exact (x.2.2.1.2.2 d hd).1
theorem SC.Y (x : SC h s ρ) {i : Int32} {d : Nat} (hi : i = nI d) (hd : d < pcn ρ) : hI h (s + 3) (ix i) = nI (pcY ρ d) := by
  rw [ix_of hi (by have := x.2.2.2.n; omega)]; exact (x.2.2.1.2.2 d hd).2.1
theorem SC.D (x : SC h s ρ) {i : Int32} {d : Nat} (hi : i = nI d) (hd : d < pcn ρ) : hI h (s + 4) (ix i) = nI (pcD ρ d) := by
  rw [ix_of hi (by have := x.2.2.2.n; omega)]; exact (x.2.2.1.2.2 d hd).2.2
end SCm
