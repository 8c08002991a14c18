/-! ===== what a tape's bytes say ===== -/
theorem tok_eq {t : Nat → Nat} {L a : Nat} : tok t L a = tokAt t L (run blB t L a) := rfl
theorem tokAt_num {t : Nat → Nat} {L s : Nat} (h : (tokAt t L s).1 = 2) : ∀ i, (tokAt t L s).2.1 ≤ i → i < (tokAt t L s).2.2 → dgB (t i) = true := by
  unfold tokAt at h ⊢
  by_cases h0 : L ≤ s
  · rw [if_pos h0] at h; cases h
  · rw [if_neg h0] at h ⊢
    by_cases h1 : ltB (t s) = true
    · rw [if_pos h1] at h
      have h : (if 8 < run ltB t L s - s then 4 else 1) = 2 := h
      split at h <;> cases h
    · rw [if_neg h1] at h ⊢
      by_cases h2 : dgB (t s) = true
      · rw [if_pos h2]
        exact (run_sp (P := dgB) (t := t) (L := L) (L - s) s (by omega)).2.2.1
      · rw [if_neg h2] at h
        have h : (if t s = 59 then 3 else 4) = 2 := h
        split at h <;> cases h
theorem tokAt_word {t : Nat → Nat} {L s : Nat} (h : (tokAt t L s).1 = 1) : (tokAt t L s).2.2 - (tokAt t L s).2.1 ≤ 8 ∧ ∀ i, (tokAt t L s).2.1 ≤ i → i < (tokAt t L s).2.2 → ltB (t i) = true := by
  unfold tokAt at h ⊢
  by_cases h0 : L ≤ s
  · rw [if_pos h0] at h; cases h
  · rw [if_neg h0] at h ⊢
    by_cases h1 : ltB (t s) = true
    · rw [if_pos h1] at h ⊢
      refine ⟨?_, (run_sp (P := ltB) (t := t) (L := L) (L - s) s (by omega)).2.2.1⟩
      have h : (if 8 < run ltB t L s - s then 4 else 1) = 1 := h
      split at h
      · cases h
      · show run ltB t L s - s ≤ 8
        omega
    · rw [if_neg h1] at h
      by_cases h2 : dgB (t s) = true
      · rw [if_pos h2] at h
        have h : (if 20 < run dgB t L s - s ∨ (run dgB t L s < L ∧ ltB (t (run dgB t L s)) = true) then 4 else 2) = 1 := h
        split at h <;> cases h
      · rw [if_neg h2] at h
        have h : (if t s = 59 then 3 else 4) = 1 := h
        split at h <;> cases h
abbrev Ou (α : Type) : Type := Sum (Nat × Nat) α
def bd {α β : Type} : Ou α → (α → Ou β) → Ou β
  | .inl p, _ => .inl p
  | .inr a, f => f a
theorem bd_r {α β : Type} {x : Ou α} {f : α → Ou β} {b : β} (h : bd x f = .inr b) : ∃ a, x = .inr a ∧ f a = .inr b := by
  cases x with
  | inl p => cases h
  | inr a => exact ⟨a, rfl, h⟩
def fau (T : TK) (k : Nat) : Nat × Nat := (if T.1 = 4 then 1 else k, T.2.1)
def num (t : Nat → Nat) (L e lo hi : Nat) : Ou (Nat × Nat) := if (tok t L e).1 = 2 then (if (tok t L e).2.2 - (tok t L e).2.1 ≤ 4 ∧ lo ≤ vdg t (tok t L e).2.1 ((tok t L e).2.2 - (tok t L e).2.1) ∧ vdg t (tok t L e).2.1 ((tok t L e).2.2 - (tok t L e).2.1) ≤ hi then .inr (vdg t (tok t L e).2.1 ((tok t L e).2.2 - (tok t L e).2.1), (tok t L e).2.2) else .inl (fau (tok t L e) 4)) else .inl (fau (tok t L e) 2)
def sgn (t : Nat → Nat) (L e : Nat) : Ou Nat := if (tok t L e).1 = 3 then .inr (tok t L e).2.2 else .inl (fau (tok t L e) 2)
def rowP (t : Nat → Nat) (π : Pic) (w s n : Nat) : Pic := fun j => if 4 + pcw π * w ≤ j ∧ j < 4 + pcw π * w + n then t (s + (j - (4 + pcw π * w))) - 48 else π j
def rowR (t : Nat → Nat) (L e : Nat) (π : Pic) (w : Nat) : Ou (Nat × Pic × Nat) := if w = pch π then .inl (fau (tok t L e) 3) else
  if (tok t L (tok t L e).2.2).1 = 2 then (if (tok t L (tok t L e).2.2).2.2 - (tok t L (tok t L e).2.2).2.1 ≤ pcw π then .inr ((tok t L (tok t L e).2.2).2.2, rowP t π w (tok t L (tok t L e).2.2).2.1 ((tok t L (tok t L e).2.2).2.2 - (tok t L (tok t L e).2.2).2.1), w + 1) else .inl (fau (tok t L (tok t L e).2.2) 4)) else .inl (fau (tok t L (tok t L e).2.2) 2)
def dotR (t : Nat → Nat) (L e : Nat) (π : Pic) (w : Nat) : Ou (Nat × Pic × Nat) := if pcn π = 40 then .inl (fau (tok t L e) 3) else
  bd (num t L (tok t L e).2.2 0 (pcw π - 1)) fun a => bd (num t L a.2 0 (pch π - 1)) fun b => .inr (b.2, addD π a.1 b.1, w)
abbrev wdT (t : Nat → Nat) (T : TK) (c : Nat) : Prop := T.1 = 1 ∧ wcd t T.2.1 (T.2.2 - T.2.1) = c
def line (t : Nat → Nat) (L e : Nat) (π : Pic) (w : Nat) : Ou (Nat × Pic × Nat) := bd (if wdT t (tok t L e) 0x726f77 then rowR t L e π w else if wdT t (tok t L e) 0x646f74 then dotR t L e π w else .inl (fau (tok t L e) 2)) fun a => bd (sgn t L a.1) fun b => .inr (b, a.2)
def lns (t : Nat → Nat) (L : Nat) : Nat → Nat → Pic → Nat → Ou Pic
  | 0, _, π, _ => .inr π
  | n + 1, e, π, w => if (tok t L e).1 = 0 then .inr π else bd (line t L e π w) fun a => lns t L n a.1 a.2.1 a.2.2
def pic0 : Pic := pu (pu (fun _ => 0) 0 8) 1 8
def size (t : Nat → Nat) (L : Nat) : Ou (Nat × Pic) := if wdT t (tok t L 0) 0x73697a65 then bd (num t L (tok t L 0).2.2 1 20) fun a => bd (num t L a.2 1 20) fun b => bd (sgn t L b.2) fun c => .inr (c, pu (pu pic0 0 a.1) 1 b.1) else .inr (0, pic0)
def pict (t : Nat → Nat) (L : Nat) : Ou Pic := bd (size t L) fun a => lns t L (L + 1) a.1 a.2 0
theorem num_sp {t : Nat → Nat} {L e lo hi : Nat} {x : Nat × Nat} (he : e ≤ L) (h : num t L e lo hi = .inr x) : e < x.2 ∧ x.2 ≤ L ∧ lo ≤ x.1 ∧ x.1 ≤ hi := by
  unfold num at h
  split at h
  · rename_i k
    split at h
    · rename_i q
      injection h with h; subst h
      have := tok_sp (t := t) he
      have := this.2.2.2.2 (by omega)
      exact ⟨by show e < (tok t L e).2.2; omega, by show (tok t L e).2.2 ≤ L; omega, q.2.1, q.2.2⟩
    · cases h
  · cases h
theorem sgn_sp {t : Nat → Nat} {L e x : Nat} (he : e ≤ L) (h : sgn t L e = .inr x) : e < x ∧ x ≤ L := by
  unfold sgn at h
  split at h
  · injection h with h; subst h
    have := tok_sp (t := t) he
    have := this.2.2.2.2 (by omega)
    omega
  · cases h
theorem good_rowP {t : Nat → Nat} {π : Pic} {w s n : Nat} (g : Good π) (hw : w < pch π) (hn : n ≤ pcw π) (hd : ∀ i, s ≤ i → i < s + n → dgB (t i) = true) : Good (rowP t π w s n) ∧ pcw (rowP t π w s n) = pcw π ∧ pch (rowP t π w s n) = pch π ∧ pcn (rowP t π w s n) = pcn π := by
  have g1 := g.n
  have hm : pcw π * w + pcw π ≤ 400 := by
    have a : pcw π * (w + 1) ≤ 20 * 20 := Nat.mul_le_mul (by omega) (by omega)
    rw [Nat.mul_succ] at a; exact a
  have lo : ∀ j, j < 4 → rowP t π w s n j = π j := fun j hj => if_neg (by omega)
  have up : ∀ j, 404 ≤ j → rowP t π w s n j = π j := fun j hj => if_neg (by omega)
  have e0 : pcw (rowP t π w s n) = pcw π := lo 0 (by decide)
  have e1 : pch (rowP t π w s n) = pch π := lo 1 (by decide)
  have e2 : pcs (rowP t π w s n) = pcs π := lo 2 (by decide)
  have e3 : pcn (rowP t π w s n) = pcn π := lo 3 (by decide)
  refine ⟨⟨by rw [e0, e1, e2, e3]; exact g1, fun c hc => ?_, fun d hd => ?_, fun k hk => ?_⟩, e0, e1, e3⟩
  · show rowP t π w s n (4 + c) ≤ 9
    unfold rowP
    split
    · rename_i q
      have := dgB_iff.mp (hd (s + (4 + c - (4 + pcw π * w))) (by omega) (by omega))
      omega
    · exact g.2.1 c hc
  · rw [e3] at hd
    have x1 : pcX (rowP t π w s n) d = pcX π d := up _ (by omega)
    have x2 : pcY (rowP t π w s n) d = pcY π d := up _ (by omega)
    have x3 : pcD (rowP t π w s n) d = pcD π d := up _ (by omega)
    rw [e0, e1, x1, x2, x3]; exact g.2.2.1 d hd
  · rw [up k (by omega)]; exact g.2.2.2 k hk
/-- what holds between lines -/
def LnOK (L e : Nat) (π : Pic) (w : Nat) : Prop := e ≤ L ∧ Good π ∧ w ≤ pch π
theorem rowR_sp {t : Nat → Nat} {L e w : Nat} {π : Pic} {x : Nat × Pic × Nat} (o : LnOK L e π w) (h : rowR t L e π w = .inr x) : e < x.1 ∧ LnOK L x.1 x.2.1 x.2.2 := by
  unfold rowR at h
  have a := tok_sp (t := t) o.1
  have b := tok_sp (t := t) a.2.2.1
  split at h
  · cases h
  · rename_i q
    split at h
    · rename_i k
      split at h
      · rename_i m
        injection h with h; subst h
        have c := b.2.2.2.2 (by omega)
        have gr := good_rowP (t := t) (s := (tok t L (tok t L e).2.2).2.1) o.2.1 (Nat.lt_of_le_of_ne o.2.2 q) m (fun i h1 h2 => tokAt_num k i h1 (show i < (tok t L (tok t L e).2.2).2.2 by omega))
        exact ⟨by show e < (tok t L (tok t L e).2.2).2.2; omega, b.2.2.1, gr.1, by show w + 1 ≤ pch (rowP _ _ _ _ _); rw [gr.2.2.1]; have := o.2.2; omega⟩
      · cases h
    · cases h
theorem dotR_sp {t : Nat → Nat} {L e w : Nat} {π : Pic} {x : Nat × Pic × Nat} (o : LnOK L e π w) (h : dotR t L e π w = .inr x) : e < x.1 ∧ LnOK L x.1 x.2.1 x.2.2 := by
  unfold dotR at h
  have a := tok_sp (t := t) o.1
  have g1 := o.2.1.n
  split at h
  · cases h
  · rename_i q
    obtain ⟨b, hb, h⟩ := bd_r h
    obtain ⟨c, hc, h⟩ := bd_r h
    injection h with h; subst h
    have b1 := num_sp a.2.2.1 hb
    have c1 := num_sp b1.2.1 hc
    refine ⟨by show e < c.2; omega, c1.2.1, good_addD o.2.1 (by omega) (by omega) (by omega), ?_⟩
    show w ≤ pch (addD π b.1 c.1)
    rw [addD_h.2.1]; exact o.2.2
theorem line_sp {t : Nat → Nat} {L e w : Nat} {π : Pic} {x : Nat × Pic × Nat} (o : LnOK L e π w) (h : line t L e π w = .inr x) : e < x.1 ∧ LnOK L x.1 x.2.1 x.2.2 := by
  unfold line at h
  obtain ⟨a, ha, h⟩ := bd_r h
  obtain ⟨b, hb, h⟩ := bd_r h
  injection h with h; subst h
  have s : e < a.1 ∧ LnOK L a.1 a.2.1 a.2.2 := by
    split at ha
    · exact rowR_sp o ha
    · split at ha
      · exact dotR_sp o ha
      · cases ha
  have c := sgn_sp s.2.1 hb
  exact ⟨by show e < b; omega, c.2, s.2.2⟩
theorem good_pic0 : Good pic0 := by
  refine ⟨⟨by decide, by decide, by decide, by decide, by decide, by decide⟩, fun c hc => ?_, fun d hd => absurd hd (Nat.not_lt_zero d), fun k hk => ?_⟩
  · show pic0 (4 + c) ≤ 9
    unfold pic0; rw [pu_ne (by omega), pu_ne (by omega)]; exact Nat.zero_le _
  · unfold pic0; rw [pu_ne (by omega), pu_ne (by omega)]
theorem good_size {w h : Nat} (hw : 1 ≤ w ∧ w ≤ 20) (hh : 1 ≤ h ∧ h ≤ 20) : Good (pu (pu pic0 0 w) 1 h) := by
  have e : ∀ j, 2 ≤ j → pu (pu pic0 0 w) 1 h j = 0 := fun j hj => by unfold pic0; rw [pu_ne (by omega), pu_ne (by omega), pu_ne (by omega), pu_ne (by omega)]
  have e0 : pcw (pu (pu pic0 0 w) 1 h) = w := by show pu _ 1 _ 0 = w; rw [pu_ne (by decide), pu_eq]
  have e1 : pch (pu (pu pic0 0 w) 1 h) = h := pu_eq
  have e2 : pcs (pu (pu pic0 0 w) 1 h) = 0 := e 2 (by decide)
  have e3 : pcn (pu (pu pic0 0 w) 1 h) = 0 := e 3 (by decide)
  refine ⟨by rw [e0, e1, e2, e3]; exact ⟨hw.1, hw.2, hh.1, hh.2, by decide, by decide⟩, fun c hc => ?_, fun d hd => by rw [e3] at hd; exact absurd hd (Nat.not_lt_zero d), fun k hk => e k (by omega)⟩
  show pu (pu pic0 0 w) 1 h (4 + c) ≤ 9
  rw [e _ (by omega)]; exact Nat.zero_le _
theorem size_sp {t : Nat → Nat} {L : Nat} {x : Nat × Pic} (h : size t L = .inr x) : LnOK L x.1 x.2 0 := by
  unfold size at h
  split at h
  · obtain ⟨a, ha, h⟩ := bd_r h
    obtain ⟨b, hb, h⟩ := bd_r h
    obtain ⟨c, hc, h⟩ := bd_r h
    injection h with h; subst h
    have a1 := num_sp (tok_sp (t := t) (Nat.zero_le L)).2.2.1 ha
    have b1 := num_sp a1.2.1 hb
    have c1 := sgn_sp b1.2.1 hc
    exact ⟨c1.2, good_size a1.2.2 b1.2.2, Nat.zero_le _⟩
  · injection h with h; subst h
    exact ⟨Nat.zero_le _, good_pic0, Nat.zero_le _⟩
theorem lns_sp {t : Nat → Nat} {L : Nat} : ∀ {n e w : Nat} {π : Pic} {x : Pic}, LnOK L e π w → lns t L n e π w = .inr x → Good x
  | 0, e, w, π, x, o, h => by injection h with h; subst h; exact o.2.1
  | n + 1, e, w, π, x, o, h => by
    simp only [lns] at h
    split at h
    · injection h with h; subst h; exact o.2.1
    · obtain ⟨a, ha, h⟩ := bd_r h
      exact lns_sp (line_sp o ha).2 h
theorem pict_sp {t : Nat → Nat} {L : Nat} {x : Pic} (h : pict t L = .inr x) : Good x := by
  unfold pict at h
  obtain ⟨a, ha, h⟩ := bd_r h
  exact lns_sp (size_sp ha) h
