/-! ===== the heap's rows ===== -/
theorem up2_same {α : Type} (f : Nat → Nat → α) (k j : Nat) (v : α) : up2 f k j v k j = v := by simp [up2]
theorem wl_upd {G : GP} {ad : Nat → Nat} {h h' : AH} {k : Nat} (hn : hN h' = hN h) (h0 : 0 < k) (h1 : k ≤ hN h) (ho : ∀ k', k' ≠ k → ent G ad h' k' = ent G ad h k') : (wl G ad h).set (k - 1) (ad k, ent G ad h' k) = wl G ad h' := by
  apply List.ext_getElem?
  intro i
  rw [wl_get, List.getElem?_set, wl_len, wl_get]
  by_cases hi : k - 1 = i
  · subst hi
    have e : k - 1 + 1 = k := by omega
    rw [if_pos rfl, if_pos (by omega), if_pos (by omega), e]
  · rw [if_neg hi, hn]
    by_cases hl : i < hN h
    · rw [if_pos hl, if_pos hl, ho (i + 1) (by omega)]
    · rw [if_neg hl, if_neg hl]
/-- a world with one cell changed -/
theorem Wd.upd {G : GP} {ad : Nat → Nat} {h h' : AH} {A : Nat → Prop} {s : State} {H H1 : Heap} {k : Nat} (hw : Wd G ad h A s H) (hn : hN h' = hN h) (h0 : 0 < k) (h1 : k ≤ hN h) (ho : ∀ k', k' ≠ k → ent G ad h' k' = ent G ad h k') {e : va_E} (he : ent G ad h' k = e) (hrf : RF h')
    (hP : va_P (gD G) vwCl ((wl G ad h).set (k - 1) (ad k, e)) H1) (hD : va_D A ((wl G ad h).set (k - 1) (ad k, e))) : Wd G ad h' A s H1 := by
  subst he
  rw [wl_upd hn h0 h1 ho] at hP hD
  exact ⟨hP, hw.2.1, hD, by rw [hn]; exact hw.2.2.2.1, hw.2.2.2.2.1, hrf⟩
theorem Wd.ob {G : GP} {ad : Nat → Nat} {h : AH} {A : Nat → Prop} {s : State} {H : Heap} {k ci : Nat} (ho : Ob h k ci) : (wl G ad h)[k - 1]? = some (ad k, .inr (ci, (List.range (nfl ci)).map (fvl ad h k ci))) := by
  rw [wl_at G ad h ho.1 ho.2.1]
  simp [ent, ho.2.2]
theorem Wd.ar {G : GP} {ad : Nat → Nat} {h : AH} {k t n : Nat} (ho : Ar h k t n) : (wl G ad h)[k - 1]? = some (ad k, .inl (gA G t, n, if t = 1 then .inr (.inl (hL h k)) else if t < 3 then .inl (hI h k) else .inr (.inr (.inr (.inr (fun j => hd ad (hR h k j))))))) := by
  rw [wl_at G ad h ho.1 ho.2.1]
  simp [ent, ho.2.2]
/-- what a class' rows of the tables say, checked by program -/
def CO (ci : Nat) : Prop := ∀ q : vw_C, vwCl[ci]? = some q → (∀ w ∈ u_ws q.1 q.2.1 q.2.2, w ∈ lw_ok) ∧ (∀ k, k < q.2.2 → parseFieldDescriptor (q.2.1 k).2.2.1 = some ((parseFieldDescriptor (q.2.1 k).2.2.1).getD .int)) ∧ (∀ a, a < q.2.2 → ∀ b, b < q.2.2 → a ≠ b → (q.2.1 a).2.1 ≠ (q.2.1 b).2.1)
theorem CO.of {ci : Nat} {C : String} {T : u_T} {N : Nat} {ty : Nat → FieldType} (hc : vwCl[ci]? = some (C, T, N)) (h1 : ∀ w ∈ u_ws C T N, w ∈ lw_ok) (h2 : ∀ k, k < N → parseFieldDescriptor (T k).2.2.1 = some (ty k)) (h3 : ∀ a, a < N → ∀ b, b < N → a ≠ b → (T a).2.1 ≠ (T b).2.1) : CO ci := by
  intro q hq
  rw [hc] at hq
  cases hq
  exact ⟨h1, fun k hk => by rw [h2 k hk]; rfl, h3⟩
theorem inT (C : String) (T : u_T) (N : Nat) (h : (u_ws C T N).all (fun w => decide (w ∈ lw_tbl) && goodWord w) = true) : ∀ w ∈ u_ws C T N, w ∈ lw_ok := fun w hw => by
  have h1 := List.all_eq_true.mp h w hw
  simp only [Bool.and_eq_true, decide_eq_true_eq] at h1
  exact lw_ok_in h1.1 h1.2
theorem co0 : CO 0 := CO.of rfl (inT _ _ _ (by decide +kernel)) tyX0_ok nmX0
theorem co1 : CO 1 := CO.of rfl (inT _ _ _ (by decide +kernel)) tyX1_ok nmX1
theorem co2 : CO 2 := CO.of rfl (inT _ _ _ (by decide +kernel)) tyX2_ok nmX2
theorem co3 : CO 3 := CO.of rfl (inT _ _ _ (by decide +kernel)) tyX3_ok nmX3
theorem co4 : CO 4 := CO.of rfl (inT _ _ _ (by decide +kernel)) tyX4_ok nmX4
theorem co5 : CO 5 := CO.of rfl (inT _ _ _ (by decide +kernel)) tyX5_ok nmX5
theorem co6 : CO 6 := CO.of rfl (inT _ _ _ (by decide +kernel)) tyX6_ok nmX6
theorem co7 : CO 7 := CO.of rfl (inT _ _ _ (by decide +kernel)) tyX7_ok nmX7
theorem co8 : CO 8 := CO.of rfl (inT _ _ _ (by decide +kernel)) tyX8_ok nmX8
theorem co9 : CO 9 := CO.of rfl (inT _ _ _ (by decide +kernel)) tyX9_ok nmX9
theorem co10 : CO 10 := CO.of rfl (inT _ _ _ (by decide +kernel)) tyX10_ok nmX10
theorem coAll (ci : Nat) : CO ci := by
  match ci with
  | 0 => exact co0
  | 1 => exact co1
  | 2 => exact co2
  | 3 => exact co3
  | 4 => exact co4
  | 5 => exact co5
  | 6 => exact co6
  | 7 => exact co7
  | 8 => exact co8
  | 9 => exact co9
  | 10 => exact co10
  | n + 11 => intro q hq; simp [vwCl] at hq
theorem nfl_of {ci : Nat} {q : vw_C} (h : vwCl[ci]? = some q) : nfl ci = q.2.2 := by simp [nfl, h]
theorem fs_get {ad : Nat → Nat} {h : AH} {k ci j : Nat} (hj : j < nfl ci) : ((List.range (nfl ci)).map (fvl ad h k ci))[j]? = some (fvl ad h k ci j) := by
  simp [List.getElem?_map, List.getElem?_range hj]
theorem ent_setI {G : GP} {ad : Nat → Nat} {h : AH} {k j k' : Nat} {v : Int32} (hk : k' ≠ k) : ent G ad (setI h k j v) k' = ent G ad h k' := by
  have e : hI (setI h k j v) k' = hI h k' := by funext z; simp [hI, setI, up2, hk]
  unfold ent fvl
  simp only [e]
  rfl
theorem ent_setL {G : GP} {ad : Nat → Nat} {h : AH} {k j k' : Nat} {v : Int64} (hk : k' ≠ k) : ent G ad (setL h k j v) k' = ent G ad h k' := by
  have e : hL (setL h k j v) k' = hL h k' := by funext z; simp [hL, setL, up2, hk]
  unfold ent fvl
  simp only [e]
  rfl
theorem ent_setR {G : GP} {ad : Nat → Nat} {h : AH} {k j k' v : Nat} (hk : k' ≠ k) : ent G ad (setR h k j v) k' = ent G ad h k' := by
  have e : hR (setR h k j v) k' = hR h k' := by funext z; simp [hR, setR, up2, hk]
  unfold ent fvl
  simp only [e]
  rfl
theorem map_set {α : Type} {n j : Nat} {f g : Nat → α} (hj : j < n) (ho : ∀ i, i ≠ j → g i = f i) : (List.range n).map g = ((List.range n).map f).set j (g j) := by
  apply List.ext_getElem?
  intro i
  rw [List.getElem?_set]
  by_cases hi : j = i
  · subst hi
    simp [hj]
  · rw [if_neg hi]
    by_cases hl : i < n
    · simp [List.getElem?_map, List.getElem?_range hl, ho i (fun q => hi q.symm)]
    · rw [List.getElem?_eq_none (by simp; omega), List.getElem?_eq_none (by simp; omega)]
theorem fv_setI {ad : Nat → Nat} {h : AH} {k ci j : Nat} {v : Int32} (h1 : kd ci j ≠ 1) (h2 : kd ci j ≠ 2) (hj : j < nfl ci) : (List.range (nfl ci)).map (fvl ad (setI h k j v) k ci) = ((List.range (nfl ci)).map (fvl ad h k ci)).set j (.int v) := by
  rw [map_set (f := fvl ad h k ci) hj]
  · have : fvl ad (setI h k j v) k ci j = .int v := by simp [fvl, h1, h2, hI, setI, up2]
    rw [this]
  · intro i hi
    have e : hI (setI h k j v) k i = hI h k i := by simp [hI, setI, up2, hi]
    unfold fvl
    rw [e]
    rfl
theorem fv_setL {ad : Nat → Nat} {h : AH} {k ci j : Nat} {v : Int64} (h1 : kd ci j = 1) (hj : j < nfl ci) : (List.range (nfl ci)).map (fvl ad (setL h k j v) k ci) = ((List.range (nfl ci)).map (fvl ad h k ci)).set j (.long v) := by
  rw [map_set (f := fvl ad h k ci) hj]
  · have : fvl ad (setL h k j v) k ci j = .long v := by simp [fvl, h1, hL, setL, up2]
    rw [this]
  · intro i hi
    have e : hL (setL h k j v) k i = hL h k i := by simp [hL, setL, up2, hi]
    unfold fvl
    rw [e]
    rfl
theorem fv_setR {ad : Nat → Nat} {h : AH} {k ci j v : Nat} (h1 : kd ci j = 2) (hj : j < nfl ci) : (List.range (nfl ci)).map (fvl ad (setR h k j v) k ci) = ((List.range (nfl ci)).map (fvl ad h k ci)).set j (va_rf (hd ad v)) := by
  rw [map_set (f := fvl ad h k ci) hj]
  · have : fvl ad (setR h k j v) k ci j = va_rf (hd ad v) := by simp [fvl, h1, hR, setR, up2]
    rw [this]
  · intro i hi
    have e : hR (setR h k j v) k i = hR h k i := by simp [hR, setR, up2, hi]
    unfold fvl
    rw [e]
    rfl
