/-! ===== fields, rows, answers ===== -/
def fav (h : AH) (k ci j : Nat) : AV := if kd ci j = 1 then vL (hL h k j) else if kd ci j = 2 then vR (hR h k j) else vI (hI h k j)
theorem cv_fav (ad : Nat → Nat) (h : AH) (k ci j : Nat) : cv ad (fav h k ci j) = fvl ad h k ci j := by
  unfold fav fvl
  by_cases h1 : kd ci j = 1
  · simp [h1, cv]
  · by_cases h2 : kd ci j = 2
    · simp [h2, cv]
    · simp [h1, h2, cv]
theorem vp_boo {x : Int32} (h : x = 0 ∨ x = 1) : vp_nar .boolean x = x := by rcases h with rfl | rfl <;> decide
theorem RF.setR {h : AH} {k j x : Nat} (hr : RF h) (hx : x ≤ hN h) : RF (setR h k j x) := by
  intro k' j' hk
  show up2 (hR h) k j x k' j' ≤ hN h
  unfold up2
  by_cases z : k' = k ∧ j' = j
  · rw [if_pos z]; exact hx
  · rw [if_neg z]; exact hr k' j' hk
section HeapRows
variable {G : GP} {l : Launch} {M : MD} {pc : Nat} {ls : List (Option AV)} {st : List AV} {h : AH} {uc us : Nat} {K : Option AV → AH → Prop}
theorem Go.getf {i k ci j : Nat} {q : vw_C} (hdg : decode (mdB M) pc = .ok (.getfield i, 3)) (hq : vwCl[ci]? = some q) (hj : j < q.2.2) (hlk : Cond.fieldLink (mdN M).cls i (q.2.1 j).1 (q.2.1 j).2.1 (q.2.1 j).2.2.1 ∈ lw_ok) (ho : Ob h k ci) (kk : Go G l M (pc + 3) ls (fav h k ci j :: st) h uc us K) : Go G l M pc ls (vR k :: st) h uc us K := by
  intro p e s m args below meth c ad A H locs la E hA hw hx hS hl
  simp only [List.map_cons, cv_ref ho.1]
  obtain ⟨C, T, N⟩ := q
  have k1 := kk p e s m args below meth c ad A H locs la E hA hw hx hS hl
  simp only [List.map_cons, cv_fav] at k1
  exact va_get (C := C) (T := T) (N := N) (ci := ci) (ref := (T j).1) E.1 E.2.1 E.2.2.2.2.2.1 (coAll ci _ hq).1 E.2.2.2.2.1 hw.2.1 hw.1 (k - 1) (Wd.ob (A := A) (s := s) (H := H) ho) hq j hj (E.2.2.2.2.2.1 _ hlk) (fun _ z => z) (fs_get (by rw [nfl_of hq]; exact hj)) hdg k1
/-- a store to a field: to one that is final in a constructor alone -/
theorem Go.putf {i k ci j : Nat} {q : vw_C} {a : AV} {h' : AH} (hdg : decode (mdB M) pc = .ok (.putfield i, 3)) (hq : vwCl[ci]? = some q) (hj : j < q.2.2) (hlk : Cond.fieldLink (mdN M).cls i (q.2.1 j).1 (q.2.1 j).2.1 (q.2.1 j).2.2.1 ∈ lw_ok) (hfin : (q.2.1 j).2.2.2 = false ∨ ((q.2.1 j).2.2.2 = true ∧ (mdN M).name = "<init>" ∧ (q.2.1 j).1 = (mdN M).cls)) (ho : Ob h k ci)
    (hn : ∀ ad ty, parseFieldDescriptor (q.2.1 j).2.2.1 = some ty → narrow ty (cv ad a) = cv ad a ∧ fits ty (cv ad a) = true) (hN' : hN h' = hN h) (hrf : RF h → RF h') (he : ∀ G ad k', k' ≠ k → ent G ad h' k' = ent G ad h k') (hs : hS h' k = hS h k) (hf : ∀ ad, (List.range (nfl ci)).map (fvl ad h' k ci) = ((List.range (nfl ci)).map (fvl ad h k ci)).set j (cv ad a))
    (kk : Go G l M (pc + 3) ls st h' uc us K) : Go G l M pc ls (a :: vR k :: st) h uc us K := by
  intro p e s m args below meth c ad A H locs la E hA hw hx hS hl
  simp only [List.map_cons, cv_ref ho.1]
  obtain ⟨C, T, N⟩ := q
  have hty := (coAll ci _ hq).2.1 j hj
  obtain ⟨n1, n2⟩ := hn ad _ hty
  have hent : ent G ad h' k = .inr (ci, ((List.range (nfl ci)).map (fvl ad h k ci)).set j (cv ad a)) := by
    rw [← hf ad]
    simp [ent, hs, ho.2.2]
  have k1 : ∀ (H1 : Heap) (locs1 : List Loc), va_P (gD G) vwCl ((wl G ad h).set (k - 1) (ad k, .inr (ci, ((List.range (nfl ci)).map (fvl ad h k ci)).set j (cv ad a)))) H1 → va_D A ((wl G ad h).set (k - 1) (ad k, .inr (ci, ((List.range (nfl ci)).map (fvl ad h k ci)).set j (cv ad a)))) → va_S A s.heap H1 locs1 → W p l e (mdR M) s m args below meth c H1 locs1 uc us (MQ below (Qs G ((mdR M).cells - uc) ad h A K) args s (mdR M).cells (mdR M).slots A) (F0 m (pc + 3) la (st.map (cv ad))) := by
    intro H1 locs1 hP1 hD1 hS1
    have := kk p e s m args below meth c ad A H1 locs1 la E hA (hw.upd hN' ho.1 ho.2.1 (fun k' z => he G ad k' z) hent (hrf hw.2.2.2.2.2) hP1 hD1) hx hS1 hl
    unfold Qs at this ⊢
    rw [hN'] at this
    exact this
  rcases hfin with hfin | ⟨hfin, hin, hdc⟩
  · exact va_put (C := C) (T := T) (N := N) (ci := ci) (ref := (T j).1) E.1 E.2.1 E.2.2.2.2.2.1 (coAll ci _ hq).1 _ (coAll ci _ hq).2.1 (coAll ci _ hq).2.2 E.2.2.2.2.1 hw.2.1 hw.1 hw.2.2.1 hS (k - 1) (Wd.ob (A := A) (s := s) (H := H) ho) hq j hj (E.2.2.2.2.2.1 _ hlk) (fun _ z => z) hfin hty n1 n2 (by simp; rw [nfl_of hq]; exact hj) hdg k1
  · exact va_putF (C := C) (T := T) (N := N) (ci := ci) (ref := (T j).1) E.1 E.2.1 E.2.2.2.2.2.1 (coAll ci _ hq).1 _ (coAll ci _ hq).2.1 (coAll ci _ hq).2.2 E.2.2.2.2.1 hw.2.1 hw.1 hw.2.2.1 hS (k - 1) (Wd.ob (A := A) (s := s) (H := H) ho) hq j hj (E.2.2.2.2.2.1 _ hlk) (fun _ z => z) hfin (E.2.2.2.2.2.2.2.trans hin) hdc hty n1 n2 (by simp; rw [nfl_of hq]; exact hj) hdg k1
theorem fk_int {d : String} (h : fk d = 0) : d = "I" := by
  unfold fk at h
  by_cases h0 : d = "I"
  · exact h0
  · by_cases h1 : d = "J"
    · simp [h1] at h
    · by_cases h2 : d = "Z" <;> simp [h0, h1, h2] at h
theorem fk_boo {d : String} (h : fk d = 3) : d = "Z" := by
  unfold fk at h
  by_cases h0 : d = "I"
  · simp [h0] at h
  · by_cases h1 : d = "J"
    · simp [h1] at h
    · by_cases h2 : d = "Z"
      · exact h2
      · simp [h0, h1, h2] at h
theorem fk_long {d : String} (h : fk d = 1) : d = "J" := by
  unfold fk at h
  by_cases h0 : d = "I"
  · simp [h0] at h
  · by_cases h1 : d = "J"
    · exact h1
    · by_cases h2 : d = "Z" <;> simp [h0, h1, h2] at h
theorem kd_of {ci j : Nat} {q : vw_C} (h : vwCl[ci]? = some q) : kd ci j = fk (q.2.1 j).2.2.1 := by simp [kd, h]
theorem Go.putI {i k ci j : Nat} {q : vw_C} {x : Int32} (hdg : decode (mdB M) pc = .ok (.putfield i, 3)) (hq : vwCl[ci]? = some q) (hj : j < q.2.2) (hk : kd ci j = 0) (hlk : Cond.fieldLink (mdN M).cls i (q.2.1 j).1 (q.2.1 j).2.1 (q.2.1 j).2.2.1 ∈ lw_ok) (hfin : (q.2.1 j).2.2.2 = false ∨ ((q.2.1 j).2.2.2 = true ∧ (mdN M).name = "<init>" ∧ (q.2.1 j).1 = (mdN M).cls)) (ho : Ob h k ci) (kk : Go G l M (pc + 3) ls st (setI h k j x) uc us K) : Go G l M pc ls (vI x :: vR k :: st) h uc us K := by
  refine Go.putf (h' := setI h k j x) hdg hq hj hlk hfin ho (fun ad ty hty => ?_) rfl (fun z => z) (fun G ad k' hk' => ent_setI hk') rfl (fun ad => fv_setI (by omega) (by omega) (by rw [nfl_of hq]; exact hj)) kk
  rw [kd_of hq] at hk
  rw [fk_int hk] at hty
  have : ty = .int := Option.some.inj (hty.symm.trans (by decide))
  subst this
  exact ⟨rfl, rfl⟩
theorem Go.putZ {i k ci j : Nat} {q : vw_C} {x : Int32} (hdg : decode (mdB M) pc = .ok (.putfield i, 3)) (hq : vwCl[ci]? = some q) (hj : j < q.2.2) (hk : kd ci j = 3) (hx01 : x = 0 ∨ x = 1) (hlk : Cond.fieldLink (mdN M).cls i (q.2.1 j).1 (q.2.1 j).2.1 (q.2.1 j).2.2.1 ∈ lw_ok) (hfin : (q.2.1 j).2.2.2 = false ∨ ((q.2.1 j).2.2.2 = true ∧ (mdN M).name = "<init>" ∧ (q.2.1 j).1 = (mdN M).cls)) (ho : Ob h k ci) (kk : Go G l M (pc + 3) ls st (setI h k j x) uc us K) : Go G l M pc ls (vI x :: vR k :: st) h uc us K := by
  refine Go.putf (h' := setI h k j x) hdg hq hj hlk hfin ho (fun ad ty hty => ?_) rfl (fun z => z) (fun G ad k' hk' => ent_setI hk') rfl (fun ad => fv_setI (by omega) (by omega) (by rw [nfl_of hq]; exact hj)) kk
  rw [kd_of hq] at hk
  rw [fk_boo hk] at hty
  have : ty = .boolean := Option.some.inj (hty.symm.trans (by decide))
  subst this
  rcases hx01 with rfl | rfl
  · exact ⟨rfl, rfl⟩
  · exact ⟨rfl, rfl⟩
theorem Go.putL {i k ci j : Nat} {q : vw_C} {x : Int64} (hdg : decode (mdB M) pc = .ok (.putfield i, 3)) (hq : vwCl[ci]? = some q) (hj : j < q.2.2) (hk : kd ci j = 1) (hlk : Cond.fieldLink (mdN M).cls i (q.2.1 j).1 (q.2.1 j).2.1 (q.2.1 j).2.2.1 ∈ lw_ok) (hfin : (q.2.1 j).2.2.2 = false ∨ ((q.2.1 j).2.2.2 = true ∧ (mdN M).name = "<init>" ∧ (q.2.1 j).1 = (mdN M).cls)) (ho : Ob h k ci) (kk : Go G l M (pc + 3) ls st (setL h k j x) uc us K) : Go G l M pc ls (vL x :: vR k :: st) h uc us K := by
  refine Go.putf (h' := setL h k j x) hdg hq hj hlk hfin ho (fun ad ty hty => ?_) rfl (fun z => z) (fun G ad k' hk' => ent_setL hk') rfl (fun ad => fv_setL hk (by rw [nfl_of hq]; exact hj)) kk
  rw [kd_of hq] at hk
  rw [fk_long hk] at hty
  have : ty = .long := Option.some.inj (hty.symm.trans (by decide))
  subst this
  exact ⟨rfl, rfl⟩
theorem Go.putR {i k ci j x : Nat} {q : vw_C} (hdg : decode (mdB M) pc = .ok (.putfield i, 3)) (hq : vwCl[ci]? = some q) (hj : j < q.2.2) (hk : kd ci j = 2) (hr : rfT (q.2.1 j).2.2.1 = true) (h0 : 0 < x) (hxn : x ≤ hN h) (hlk : Cond.fieldLink (mdN M).cls i (q.2.1 j).1 (q.2.1 j).2.1 (q.2.1 j).2.2.1 ∈ lw_ok) (hfin : (q.2.1 j).2.2.2 = false ∨ ((q.2.1 j).2.2.2 = true ∧ (mdN M).name = "<init>" ∧ (q.2.1 j).1 = (mdN M).cls)) (ho : Ob h k ci) (kk : Go G l M (pc + 3) ls st (setR h k j x) uc us K) : Go G l M pc ls (vR x :: vR k :: st) h uc us K := by
  refine Go.putf (h' := setR h k j x) hdg hq hj hlk hfin ho (fun ad ty hty => ?_) rfl (fun z => z.setR hxn) (fun G ad k' hk' => ent_setR hk') rfl (fun ad => fv_setR hk (by rw [nfl_of hq]; exact hj)) kk
  rw [cv_ref h0]
  unfold rfT at hr
  rw [hty] at hr
  cases ty with
  | object C => exact ⟨rfl, rfl⟩
  | array t => exact ⟨rfl, rfl⟩
  | _ => simp at hr
end HeapRows
