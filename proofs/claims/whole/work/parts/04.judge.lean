/-! ===== methods, contracts, the walk inside a method ===== -/
/-- name, bytes, locals, answer, room -/
abbrev MD : Type := MethodName × ByteArray × Nat × Option FieldType × Room
def mdN (M : MD) : MethodName := M.1
def mdB (M : MD) : ByteArray := M.2.1
def mdL (M : MD) : Nat := M.2.2.1
def mdT (M : MD) : Option FieldType := M.2.2.2.1
def mdR (M : MD) : Room := M.2.2.2.2
def wsM (M : MD) : List Cond := .code (mdN M) (mdB M) (mdL M) (mdT M) :: lw_ok
def Qs (G : GP) (d : Nat) (ad : Nat → Nat) (h : AH) (A : Nat → Prop) (K : Option AV → AH → Prop) : Array Value → State → Outcome → State → Prop := fun _ st oc t =>
  (∃ (r : Option AV) (h' : AH) (ad' : Nat → Nat), oc = .returned (r.map (cv ad')) ∧ K r h' ∧ hN h ≤ hN h' ∧ hN h' ≤ hN h + d ∧ adE (hN h) (hN h') ad ad' ∧ Wd G ad' h' A t t.heap) ∧ va_F A st t
def Spec (G : GP) (l : Launch) (M : MD) (args : List AV) (h : AH) (K : Option AV → AH → Prop) : Prop := ∀ (ad : Nat → Nat) (sz : Nat),
  Met l (mdN M) (wsM M) (mdR M) (va_Pc (args.map (cv ad)) (fun U => U.heap.size = sz ∧ Wd G ad h (va_A (wl G ad h) sz) U U.heap ∧ XT G (va_A (wl G ad h) sz) U U.heap)) (Qs G (mdR M).cells ad h (va_A (wl G ad h) sz) K) (mdR M).cells (mdR M).slots (va_A (wl G ad h) sz)
theorem MQ.mono {below : List Frame} {Qc Qc' : Array Value → State → Outcome → State → Prop} {a : Array Value} {s : State} {mc ms : Nat} {free : Addr → Prop} (h : ∀ o t, Qc a s o t → Qc' a s o t) {t : State} (q : MQ below Qc a s mc ms free t) : MQ below Qc' a s mc ms free t := by
  obtain ⟨o, h1, h2, h3, h4⟩ := q
  exact ⟨o, h1, h2, h _ _ h3, h4⟩
theorem W.mono {p : Program} {l : Launch} {e : Env} {R : Room} {s : State} {m : MethodId} {args : Array Value} {below : List Frame} {meth : Method} {c : Code} {H : Heap} {locs : List Loc} {cells slots : Nat} {Q Q' : State → Prop} {g : JFrame} (hq : ∀ t, Q t → Q' t) (h : W p l e R s m args below meth c H locs cells slots Q g) : W p l e R s m args below meth c H locs cells slots Q' g := by
  intro T hT X
  obtain ⟨t, a, b⟩ := h T hT X
  exact ⟨t, a, hq t b⟩
theorem Met.mono {l : Launch} {y : MethodName} {ws : List Cond} {rm : Room} {Pc : Array Value → State → Prop} {Qc Qc' : Array Value → State → Outcome → State → Prop} {mc ms : Nat} {free : Addr → Prop} (h : Met l y ws rm Pc Qc mc ms free) (hq : ∀ a s o t, Qc a s o t → Qc' a s o t) : Met l y ws rm Pc Qc' mc ms free := by
  intro p e ha hc hk s m args below hf happ hP hk2
  obtain ⟨k, o, h1, h2, h3, h4, h5⟩ := h p e ha hc hk s m args below hf happ hP hk2
  exact ⟨k, o, h1, h2, h3, hq _ _ _ _ h4, h5⟩
theorem Qs.mono {G : GP} {d : Nat} {ad : Nat → Nat} {h : AH} {A : Nat → Prop} {K K' : Option AV → AH → Prop} (hk : ∀ r h', K r h' → K' r h') {a : Array Value} {s : State} {o : Outcome} {t : State} (q : Qs G d ad h A K a s o t) : Qs G d ad h A K' a s o t := by
  obtain ⟨⟨r, h', ad', h1, h2, h3⟩, h4⟩ := q
  exact ⟨⟨r, h', ad', h1, hk _ _ h2, h3⟩, h4⟩
theorem Spec.mono {G : GP} {l : Launch} {M : MD} {args : List AV} {h : AH} {K K' : Option AV → AH → Prop} (q : Spec G l M args h K) (hk : ∀ r h', K r h' → K' r h') : Spec G l M args h K' := fun ad sz => (q ad sz).mono (fun _ _ _ _ z => z.mono hk)
/-- the locals that are known -/
def LV (ad : Nat → Nat) (la : Array Slot) (n : Nat) (ls : List (Option AV)) : Prop := la.size = n ∧ lv_wf la ∧ ∀ (i : Nat) (a : AV), ls[i]? = some (some a) → la[i]? = some (.val (cv ad a))
def lvl (ad : Nat → Nat) (ls : List (Option AV)) : List (Nat × Value) := (List.range ls.length).filterMap (fun i => (ls[i]?.join).map (fun a => (i, cv ad a)))
theorem lvl_mem {ad : Nat → Nat} {ls : List (Option AV)} {i : Nat} {a : AV} (h : ls[i]? = some (some a)) : (i, cv ad a) ∈ lvl ad ls := by
  have hi : i < ls.length := (List.getElem?_eq_some_iff.mp h).1
  exact List.mem_filterMap.mpr ⟨i, List.mem_range.mpr hi, by simp [h]⟩
theorem lvl_of {ad : Nat → Nat} {ls : List (Option AV)} {q : Nat × Value} (h : q ∈ lvl ad ls) : ∃ a, ls[q.1]? = some (some a) ∧ q.2 = cv ad a := by
  obtain ⟨i, -, hi⟩ := List.mem_filterMap.mp h
  cases hc : ls[i]? with
  | none => simp [hc] at hi
  | some o =>
    cases o with
    | none => simp [hc] at hi
    | some a =>
      simp [hc] at hi
      subst hi
      exact ⟨a, hc, rfl⟩
theorem LV.has {ad : Nat → Nat} {la : Array Slot} {n : Nat} {ls : List (Option AV)} (h : LV ad la n ls) : lv_has la n (lvl ad ls) := by
  refine ⟨h.1, h.2.1, fun q hq => ?_⟩
  obtain ⟨a, h1, h2⟩ := lvl_of hq
  rw [h2]
  exact h.2.2 _ _ h1
def isL : AV → Bool
  | .inr (.inl _) => true
  | _ => false
def offL (o : Option (Option AV)) : Bool := match o with
  | some (some a) => isL a
  | _ => false
/-- ahead of a store at i: a long that ends there is gone -/
def cutL (ls : List (Option AV)) (i : Nat) : List (Option AV) := match i with
  | 0 => ls
  | j + 1 => if offL ls[j]? then ls.set j none else ls
def sto (ls : List (Option AV)) (i : Nat) (a : AV) : List (Option AV) := if isL a then ((cutL ls i).set i (some a)).set (i + 1) none else (cutL ls i).set i (some a)
theorem cat_cv (ad : Nat → Nat) (a : AV) : (cv ad a).category = if isL a then 2 else 1 := by
  rcases a with x | x | k
  · rfl
  · rfl
  · simp only [cv, isL, va_rf, hd]
    by_cases h : k = 0 <;> simp [h, Value.category]
theorem cutL_get {ls : List (Option AV)} {i j : Nat} {a : AV} (h : (cutL ls i)[j]? = some (some a)) : ls[j]? = some (some a) ∧ ¬ (j + 1 = i ∧ isL a = true) := by
  cases i with
  | zero => exact ⟨h, fun q => by omega⟩
  | succ i =>
    simp only [cutL] at h
    by_cases ho : offL ls[i]? = true
    · rw [if_pos ho] at h
      by_cases hj : i = j
      · subst hj
        rw [List.getElem?_set] at h
        simp at h
      · rw [List.getElem?_set_ne hj] at h
        exact ⟨h, fun q => by omega⟩
    · rw [if_neg ho] at h
      refine ⟨h, fun q => ?_⟩
      have : j = i := by omega
      subst this
      rw [h] at ho
      exact ho (by simp [offL]; exact q.2)
theorem sto_get {ls : List (Option AV)} {i j : Nat} {a b : AV} (h : (sto ls i a)[j]? = some (some b)) : (j = i ∧ b = a) ∨ (j ≠ i ∧ ls[j]? = some (some b) ∧ ¬ (j + 1 = i ∧ isL b = true) ∧ ¬ (isL a = true ∧ j = i + 1)) := by
  unfold sto at h
  by_cases ha : isL a = true
  · rw [if_pos ha] at h
    by_cases hj1 : i + 1 = j
    · subst hj1
      rw [List.getElem?_set] at h
      simp at h
    · rw [List.getElem?_set_ne hj1] at h
      by_cases hj : i = j
      · subst hj
        rw [List.getElem?_set] at h
        simp at h
        exact Or.inl ⟨rfl, h.2.symm⟩
      · rw [List.getElem?_set_ne hj] at h
        obtain ⟨h1, h2⟩ := cutL_get h
        exact Or.inr ⟨fun q => hj q.symm, h1, h2, fun q => hj1 q.2.symm⟩
  · rw [if_neg ha] at h
    by_cases hj : i = j
    · subst hj
      rw [List.getElem?_set] at h
      simp at h
      exact Or.inl ⟨rfl, h.2.symm⟩
    · rw [List.getElem?_set_ne hj] at h
      obtain ⟨h1, h2⟩ := cutL_get h
      exact Or.inr ⟨fun q => hj q.symm, h1, h2, fun q => ha q.1⟩
theorem LV.sto1 {ad : Nat → Nat} {la : Array Slot} {n i : Nat} {ls : List (Option AV)} {a : AV} (ha : isL a = false) (h : lv_has la n ((i, cv ad a) :: (lvl ad ls).filter (fun q => !(q.1 == i) && !(q.1 + 1 == i && q.2.category == 2)))) : LV ad la n (sto ls i a) := by
  refine ⟨h.1, h.2.1, fun j b hb => ?_⟩
  rcases sto_get hb with ⟨rfl, rfl⟩ | ⟨h1, h2, h3, -⟩
  · exact h.2.2 (j, cv ad b) List.mem_cons_self
  · refine h.2.2 (j, cv ad b) (List.mem_cons_of_mem _ (List.mem_filter.mpr ⟨lvl_mem h2, ?_⟩))
    simp only [cat_cv]
    by_cases hl : isL b = true
    · have : ¬ j + 1 = i := fun q => h3 ⟨q, hl⟩
      simp [h1, this]
    · simp [h1, hl]
theorem LV.sto2 {ad : Nat → Nat} {la : Array Slot} {n i : Nat} {ls : List (Option AV)} {a : AV} (ha : isL a = true) (h : lv_has la n ((i, cv ad a) :: (lvl ad ls).filter (fun q => !(q.1 == i) && (!(q.1 == i + 1) && !(q.1 + 1 == i && q.2.category == 2))))) : LV ad la n (sto ls i a) := by
  refine ⟨h.1, h.2.1, fun j b hb => ?_⟩
  rcases sto_get hb with ⟨rfl, rfl⟩ | ⟨h1, h2, h3, h4⟩
  · exact h.2.2 (j, cv ad b) List.mem_cons_self
  · refine h.2.2 (j, cv ad b) (List.mem_cons_of_mem _ (List.mem_filter.mpr ⟨lvl_mem h2, ?_⟩))
    simp only [cat_cv]
    have h5 : ¬ j = i + 1 := fun q => h4 ⟨ha, q⟩
    by_cases hl : isL b = true
    · have : ¬ j + 1 = i := fun q => h3 ⟨q, hl⟩
      simp [h1, this, h5]
    · simp [h1, hl, h5]
/-- the locals at a method's entry -/
def enL : List AV → List (Option AV)
  | [] => []
  | a :: as => if isL a then some a :: none :: enL as else some a :: enL as
theorem enL_at {ad : Nat → Nat} : ∀ (as : List AV) (o i : Nat) (a : AV), (enL as)[i]? = some (some a) → (o + i, cv ad a) ∈ lv_args o (as.map (cv ad))
  | [], o, i, a, h => by simp [enL] at h
  | b :: as, o, i, a, h => by
    simp only [List.map_cons, lv_args, cat_cv]
    by_cases hb : isL b = true
    · simp only [enL, hb, if_true] at h ⊢
      match i, h with
      | 0, h => simp at h; subst h; exact List.mem_cons_self
      | 1, h => simp at h
      | i + 2, h =>
        have h' : (enL as)[i]? = some (some a) := by simpa using h
        have := enL_at (ad := ad) as (o + 2) i a h'
        rw [show o + (i + 2) = o + 2 + i by omega]
        exact List.mem_cons_of_mem _ this
    · have hb' : isL b = false := by simpa using hb
      simp only [enL, hb'] at h ⊢
      match i, h with
      | 0, h => simp at h; subst h; exact List.mem_cons_self
      | i + 1, h =>
        have h' : (enL as)[i]? = some (some a) := by simpa using h
        have := enL_at (ad := ad) as (o + 1) i a h'
        rw [show o + (i + 1) = o + 1 + i by omega]
        exact List.mem_cons_of_mem _ this
theorem enL_len {ad : Nat → Nat} : ∀ as : List AV, (lg_sl (as.map (cv ad))).length = (enL as).length
  | [] => rfl
  | b :: as => by
    have ih := enL_len (ad := ad) as
    unfold lg_sl at ih ⊢
    simp only [List.map_cons, List.flatMap_cons, List.length_append, cat_cv]
    by_cases hb : isL b = true
    · simp only [enL, hb, if_true]
      simp only [List.length_cons, List.length_nil]
      omega
    · have hb' : isL b = false := by simpa using hb
      simp only [enL, hb']
      simp
      simp at ih
      omega
/-- entry, with the rest of the locals unset -/
def entL (as : List AV) (n : Nat) : List (Option AV) := enL as ++ List.replicate (n - (enL as).length) none
theorem LV.entry {ad : Nat → Nat} {as : List AV} {n : Nat} (hn : (enL as).length ≤ n) : LV ad ((lg_sl (as.map (cv ad)) ++ List.replicate (n - (lg_sl (as.map (cv ad))).length) Slot.unset).toArray) n (entL as n) := by
  have h := lv_entry (as.map (cv ad)) (n := n) (by rw [enL_len]; exact hn)
  refine ⟨h.1, h.2.1, fun i a hi => ?_⟩
  have hl : (enL as)[i]? = some (some a) := by
    unfold entL at hi
    by_cases q : i < (enL as).length
    · rwa [List.getElem?_append_left q] at hi
    · rw [List.getElem?_append_right (by omega)] at hi
      have := List.mem_of_getElem? hi
      simp at this
  have := h.2.2 _ (enL_at (ad := ad) as 0 i a hl)
  simpa using this
