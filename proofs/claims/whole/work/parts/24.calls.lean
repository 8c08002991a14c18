/-! ===== calls ===== -/
theorem okAll : lw_ok.all goodWord = true := List.all_eq_true.mpr fun w hw => (List.mem_filter.mp hw).2
/-- a method of the tables, with n parameters -/
def MOK (N : MD) (n : Nat) : Prop := Cond.code (mdN N) (mdB N) (mdL N) (mdT N) ∈ lw_ok ∧ Cond.initialized (mdN N).cls ∈ lw_ok ∧ (mdN N).cls ≠ "java/lang/invoke/MethodHandle" ∧ (mdN N).cls ≠ "java/lang/invoke/VarHandle" ∧ (parseMethodDescriptor (mdN N).desc).map (fun d => d.parameters.length) = some n
def MOKv (N : MD) : Prop := Cond.instanceMethod (mdN N) ∈ lw_ok ∧ Cond.selects (mdN N).cls (mdN N) (mdN N) ∈ lw_ok
theorem MOK.good {N : MD} {n : Nat} (h : MOK N n) : GoodIn lw_ok (wsM N) := by
  intro w hw
  rcases List.mem_cons.mp hw with rfl | hw
  · exact ⟨h.1, good_of_word (List.all_eq_true.mp okAll _ h.1)⟩
  · exact ⟨hw, good_of_word (List.all_eq_true.mp okAll _ hw)⟩
theorem MOK.callB {N : MD} {n i : Nat} {R : Room} {s : State} {args : Array Value} {own : String} (h : MOK N n) (ht : ∀ w ∈ lw_ok, w.before args s = true) (hl : (Cond.methodLink own i (mdN N)).before args s = true) (hR : (mdR N).frames + 1 ≤ R.frames ∧ 8 + (mdL N + 11) + (mdR N).locals ≤ R.locals) : CallB R s args own i (mdN N) (mdB N) (mdL N) (mdT N) (wsM N) (mdR N) (mdR N).cells (mdR N).slots n :=
  callB_of n ht h.good rfl rfl rfl (ht _ h.2.1) hl ⟨h.2.2.1, h.2.2.2.1, h.2.2.2.2⟩ hR
theorem MOK.callN {N : MD} {n i : Nat} {R : Room} {s : State} {args : Array Value} {own host : String} (h : MOK N n) (ht : ∀ w ∈ lw_ok, w.before args s = true) (hl : va_Nw (.methodLinkNest own i (mdN N) host) s) (hR : (mdR N).frames + 1 ≤ R.frames ∧ 8 + (mdL N + 11) + (mdR N).locals ≤ R.locals) : va_CN R s args own i (mdN N) host (mdB N) (mdL N) (mdT N) (wsM N) (mdR N) (mdR N).cells (mdR N).slots n :=
  va_cnB n ht h.good rfl rfl rfl hl (ht _ h.2.1) ⟨h.2.2.1, h.2.2.2.1, h.2.2.2.2⟩ hR
/-- the handles that a row of values names lie below n -/
def okV (n : Nat) : List AV → Prop
  | [] => True
  | .inr (.inr k) :: as => k ≤ n ∧ okV n as
  | _ :: as => okV n as
def okO (n : Nat) : List (Option AV) → Prop
  | [] => True
  | some (.inr (.inr k)) :: as => k ≤ n ∧ okO n as
  | _ :: as => okO n as
theorem okV.eq {n n' : Nat} {ad ad' : Nat → Nat} (he : adE n n' ad ad') : ∀ {as : List AV}, okV n as → as.map (cv ad') = as.map (cv ad)
  | [], _ => rfl
  | .inl x :: as, h => by simp only [List.map_cons]; rw [okV.eq he (as := as) h]; rfl
  | .inr (.inl x) :: as, h => by simp only [List.map_cons]; rw [okV.eq he (as := as) h]; rfl
  | .inr (.inr k) :: as, h => by
    simp only [List.map_cons]
    rw [okV.eq he (as := as) h.2]
    congr 1
    simp only [cv, hd]
    rw [he k (Or.inl h.1)]
theorem okO.eq {n n' : Nat} {ad ad' : Nat → Nat} (he : adE n n' ad ad') : ∀ {ls : List (Option AV)} (i : Nat) (a : AV), okO n ls → ls[i]? = some (some a) → cv ad' a = cv ad a
  | [], i, a, _, h => by simp at h
  | o :: ls, 0, a, ho, h => by
    simp at h
    subst h
    rcases a with x | x | k
    · rfl
    · rfl
    · simp only [cv, hd]
      rw [he k (Or.inl ho.1)]
  | o :: ls, i + 1, a, ho, h => by
    have h' : ls[i]? = some (some a) := by simpa using h
    refine okO.eq he (ls := ls) i a ?_ h'
    match o, ho with
    | none, ho => exact ho
    | some (.inl _), ho => exact ho
    | some (.inr (.inl _)), ho => exact ho
    | some (.inr (.inr _)), ho => exact ho.2
def okLS (n : Nat) (c : Nat) (ls : List (Option AV)) (st : List AV) : Prop := c = 0 ∨ (okO n ls ∧ okV n st)
section CallRows
variable {G : GP} {l : Launch} {M : MD} {pc : Nat} {ls : List (Option AV)} {st : List AV} {h : AH} {uc us : Nat} {K : Option AV → AH → Prop}
theorem Pc_blind {av : List Value} {G : GP} {ad : Nat → Nat} {h : AH} {A : Nat → Prop} {sz : Nat} : FrameBlind (va_Pc av (fun U => U.heap.size = sz ∧ Wd G ad h A U U.heap ∧ XT G A U U.heap)) := by
  intro a U g mk q
  obtain ⟨q0, q1, qW, qX⟩ := q
  exact ⟨q0, q1, ⟨qW.1, va_K.moved (u := U) (U := U.calling g mk a) (Vm.Alike.refl U.vm) qW.2.1, qW.2.2⟩, XT.same (s := U) (U := U.calling g mk a) rfl qX⟩
theorem Wd.free {ad : Nat → Nat} {A : Nat → Prop} {s : State} {H : Heap} {locs : List Loc} (hw : Wd G ad h A s H) (hA : ∀ q, s.heap.size ≤ q → A q) (hS : va_S A s.heap H locs) : ∀ q, va_A (wl G ad h) H.size q → A q := by
  intro q hq
  rcases hq with ⟨k, e, hk⟩ | hq
  · exact hw.2.2.1.2 k _ hk
  · exact hA q (Nat.le_trans hS.1 hq)
theorem Wd.pre {ad : Nat → Nat} {A : Nat → Prop} {s U : State} {H : Heap} {locs : List Loc} (hw : Wd G ad h A s H) (hx : XT G A s s.heap) (hA : ∀ q, s.heap.size ≤ q → A q) (hS : va_S A s.heap H locs) (hU : U.heap = H) (hW : s.WarmedH U.vm) : U.heap.size = H.size ∧ Wd G ad h (va_A (wl G ad h) H.size) U U.heap ∧ XT G (va_A (wl G ad h) H.size) U U.heap := by
  rw [hU]
  refine ⟨rfl, ⟨hw.1, va_K.moved hW.alike hw.2.1, hw.2.2.1.self, hw.2.2.2⟩, ?_⟩
  exact ((hx.kept hS.1 hS.2.1).narrow (hw.free hA hS)).warm hW
/-- behind a call -/
theorem Go.behind {N : MD} {p : Program} {e : Env} {s : State} {m : MethodId} {args : Array Value} {below : List Frame} {meth : Method} {c : Code} {ad : Nat → Nat} {A : Nat → Prop} {H : Heap} {locs : List Loc} {la : Array Slot} {st0 : List Value} {av : Array Value}
    (hr : va_Run p l e (mdR M) s m args below meth c H locs uc us (mdR N).cells (mdR N).slots (F0 m pc la st0) (st.map (cv ad)) (Qs G (mdR N).cells ad h (va_A (wl G ad h) H.size) (fun r h' => Go G l M (pc + 3) ls (r.toList ++ st) h' (uc + (mdR N).cells) (us + (mdR N).slots) K) av) (va_A (wl G ad h) H.size))
    (E : EV M p s m args meth c) (hA : ∀ q, s.heap.size ≤ q → A q) (hw : Wd G ad h A s H) (hx : XT G A s s.heap) (hS : va_S A s.heap H locs) (hl : LV ad la (mdL M) ls) (hok : okLS (hN h) (mdR N).cells ls st) (hc : uc + (mdR N).cells ≤ (mdR M).cells) :
    W p l e (mdR M) s m args below meth c H locs uc us (MQ below (Qs G ((mdR M).cells - uc) ad h A K) args s (mdR M).cells (mdR M).slots A) (F0 m pc la st0) := by
  intro T hT X
  obtain ⟨v, st₀, t, T', L, h0, X', hL, e1, e2, ⟨⟨r, h', ad', hv, hk, hn1, hn2, hae, hW⟩, hF⟩, stp⟩ := hr T hT X
  have hv' : v = r.map (cv ad') := by injection hv
  subst hv'
  have hfree := hw.free hA hS
  rw [va_F, h0] at hF
  have hvm : s.vm.Alike t.vm := by rw [← e2]; exact X'.warmed.alike
  have hadE : (mdR N).cells = 0 → ad' = ad := fun z => adE.eq (n := hN h) (by have : hN h' = hN h := by omega
                                                                              rw [this] at hae; exact hae)
  have hst : st.map (cv ad') = st.map (cv ad) := by
    rcases hok with z | ⟨-, z⟩
    · rw [hadE z]
    · exact okV.eq hae z
  have hl' : LV ad' la (mdL M) ls := by
    refine ⟨hl.1, hl.2.1, fun i a hi => ?_⟩
    rcases hok with z | ⟨z, -⟩
    · rw [hadE z]; exact hl.2.2 i a hi
    · rw [okO.eq hae i a z hi]; exact hl.2.2 i a hi
  have hS' : va_S A s.heap t.heap (locs ++ L) := by
    refine ⟨Nat.le_trans hS.1 hF.1, fun q g1 g2 => ?_, fun q hq => ?_⟩
    · rw [hF.2 q (Nat.lt_of_lt_of_le g1 hS.1) (fun z => g2 (hfree q z))]
      exact hS.2.1 q g1 g2
    · rcases List.mem_append.mp hq with z | z
      · exact hS.2.2 q z
      · exact hfree _ (hL q z)
  have hW' : Wd G ad' h' A s t.heap := ⟨hW.1, va_K.moved hvm.symm hW.2.1, hW.2.2.1.weaken (fun _ q _ z => hfree q.1 z), hW.2.2.2⟩
  have k1 := hk p e s m args below meth c ad' A t.heap (locs ++ L) la E hA hW' hx hS' hl' T' e1 X'
  obtain ⟨t2, a1, b1⟩ := k1
  refine ⟨t2, ?_, ?_⟩
  · refine stp t2 ?_
    have : (Option.map (cv ad') r).toList ++ st.map (cv ad) = (r.toList ++ st).map (cv ad') := by
      rw [List.map_append, hst]
      cases r <;> rfl
    show Steps _ _ _ (T'.setTop { F0 m pc la st0 with pc := pc + 3, stack := (Option.map (cv ad') r).toList ++ st.map (cv ad) }) t2
    rw [this]
    exact a1
  · refine MQ.mono (fun o t' q => ?_) b1
    obtain ⟨⟨r2, h2, ad2, q1, q2, q3, q4, q5, q6⟩, q7⟩ := q
    exact ⟨⟨r2, h2, ad2, q1, q2, Nat.le_trans hn1 q3, by omega, hae.tr q5 hn1 q3, q6⟩, q7⟩
theorem rest8 {ad : Nat → Nat} {st : List AV} (h : (st.map (fun a => if isL a then 2 else 1)).sum ≤ 8) : ((st.map (cv ad)).map fun v => v.category).sum ≤ 8 := by
  rw [List.map_map]
  have : ((fun v : Value => v.category) ∘ cv ad) = fun a => if isL a then 2 else 1 := funext fun a => cat_cv ad a
  rw [this]
  exact h
/-- what a call asks of the caller's room -/
def rmOK (N M : MD) (uc us : Nat) (st : List AV) : Prop := ((mdR N).frames + 1 ≤ (mdR M).frames ∧ 8 + (mdL N + 11) + (mdR N).locals ≤ (mdR M).locals) ∧ uc + (mdR N).cells ≤ (mdR M).cells ∧ us + (mdR N).slots ≤ (mdR M).slots ∧ (st.map (fun a => if isL a then 2 else 1)).sum ≤ 8
theorem Go.callV {N : MD} {n i b ci : Nat} {q : vw_C} {as : List AV} (hdg : decode (mdB M) pc = .ok (.invokevirtual i, 3)) (hm : MOK N n) (hv : MOKv N) (hlk : Cond.methodLink (mdN M).cls i (mdN N) ∈ lw_ok) (hn : as.length = n) (hq : vwCl[ci]? = some q) (hcl : q.1 = (mdN N).cls) (ho : Ob h b ci) (hr : rmOK N M uc us st) (hok : okLS (hN h) (mdR N).cells ls st)
    (hs : Spec G l N (vR b :: as) h (fun r h' => Go G l M (pc + 3) ls (r.toList ++ st) h' (uc + (mdR N).cells) (us + (mdR N).slots) K)) : Go G l M pc ls (as.reverse ++ vR b :: st) h uc us K := by
  intro p e s m args below meth c ad A H locs la E hA hw hx hS hl
  have hts := E.2.2.2.2.2.1
  have hcv : (vR b :: as).map (cv ad) = Value.ref (ad b) :: as.map (cv ad) := by rw [List.map_cons, cv_ref ho.1]
  have hM := hs ad H.size
  rw [hcv] at hM
  have hR := va_recv hw.2.1 hw.1 hq (Wd.ob (A := A) (s := s) (H := H) ho)
  rw [hcl] at hR
  have run := va_runV (p := p) (e := e) (below := below) (meth := meth) (locs := locs) (cells := uc) (slots := us) (As := as.map (cv ad)) (rest := st.map (cv ad)) (g := F0 m pc la (((as.reverse ++ vR b :: st)).map (cv ad))) (C := (mdN N).cls) (b := ad b) (H := H) (R := mdR M) ⟨E.1, E.2.1, E.2.2.2.1, E.2.2.2.2.1, hts⟩ hM ⟨hm.callB hts (hts _ hlk) hr.1, hts _ hv.1, hts _ hv.2⟩ ⟨Pc_blind, hR, fun U hU hW => ⟨rfl, hw.pre hx hA hS hU hW⟩⟩ rfl (by simp [hn]) hl.1 (by simp [cv_ref ho.1]) (lv_room (rest8 hr.2.2.2)) hdg ⟨hr.2.1, hr.2.2.1⟩
  exact Go.behind run E hA hw hx hS hl hok hr.2.1
theorem Go.callS {N : MD} {n i : Nat} {as : List AV} (hdg : decode (mdB M) pc = .ok (.invokestatic i, 3)) (hm : MOK N n) (hv : Cond.static (mdN N) ∈ lw_ok) (hlk : Cond.methodLink (mdN M).cls i (mdN N) ∈ lw_ok) (hn : as.length = n) (hr : rmOK N M uc us st) (hok : okLS (hN h) (mdR N).cells ls st)
    (hs : Spec G l N as h (fun r h' => Go G l M (pc + 3) ls (r.toList ++ st) h' (uc + (mdR N).cells) (us + (mdR N).slots) K)) : Go G l M pc ls (as.reverse ++ st) h uc us K := by
  intro p e s m args below meth c ad A H locs la E hA hw hx hS hl
  have hts := E.2.2.2.2.2.1
  have hM := hs ad H.size
  have run := va_runS (p := p) (e := e) (below := below) (meth := meth) (locs := locs) (cells := uc) (slots := us) (As := as.map (cv ad)) (rest := st.map (cv ad)) (g := F0 m pc la (((as.reverse ++ st)).map (cv ad))) (H := H) (R := mdR M) ⟨E.1, E.2.1, E.2.2.2.1, E.2.2.2.2.1, hts⟩ hM ⟨hm.callB hts (hts _ hlk) hr.1, hts _ hv⟩ ⟨Pc_blind, fun U hU hW => ⟨rfl, hw.pre hx hA hS hU hW⟩⟩ rfl (by simp [hn]) hl.1 (by simp) (lv_room (rest8 hr.2.2.2)) hdg ⟨hr.2.1, hr.2.2.1⟩
  exact Go.behind run E hA hw hx hS hl hok hr.2.1
theorem Go.callSN {N : MD} {n i : Nat} {as : List AV} {host : String} (hdg : decode (mdB M) pc = .ok (.invokestatic i, 3)) (hm : MOK N n) (hv : Cond.static (mdN N) ∈ lw_ok) (hlk : Cond.methodLinkNest (mdN M).cls i (mdN N) host ∈ lw_tbl) (hn : as.length = n) (hr : rmOK N M uc us st) (hok : okLS (hN h) (mdR N).cells ls st)
    (hs : Spec G l N as h (fun r h' => Go G l M (pc + 3) ls (r.toList ++ st) h' (uc + (mdR N).cells) (us + (mdR N).slots) K)) : Go G l M pc ls (as.reverse ++ st) h uc us K := by
  intro p e s m args below meth c ad A H locs la E hA hw hx hS hl
  have hts := E.2.2.2.2.2.1
  have hM := hs ad H.size
  have run := va_runSN (p := p) (e := e) (below := below) (meth := meth) (locs := locs) (cells := uc) (slots := us) (As := as.map (cv ad)) (rest := st.map (cv ad)) (g := F0 m pc la (((as.reverse ++ st)).map (cv ad))) (H := H) (R := mdR M) ⟨E.1, E.2.1, E.2.2.2.1, E.2.2.2.2.1, hts⟩ hM ⟨hm.callN hts (hx.2.2.2.2.2.2.2.2.2.1 _ hlk rfl) hr.1, hts _ hv, trivial⟩ ⟨Pc_blind, fun U hU hW => ⟨rfl, hw.pre hx hA hS hU hW⟩⟩ rfl (by simp [hn]) hl.1 (by simp) (lv_room (rest8 hr.2.2.2)) hdg ⟨hr.2.1, hr.2.2.1⟩
  exact Go.behind run E hA hw hx hS hl hok hr.2.1
theorem Go.callI {N : MD} {n i b ci : Nat} {as : List AV} (hdg : decode (mdB M) pc = .ok (.invokespecial i, 3)) (hm : MOK N n) (hT : mdT N = none) (hv : Cond.instanceMethod (mdN N) ∈ lw_ok) (hnm : (mdN N).name = "<init>") (hlk : Cond.methodLink (mdN M).cls i (mdN N) ∈ lw_ok) (hn : as.length = n) (ho : Ob h b ci) (hr : rmOK N M uc us st) (hok : okLS (hN h) (mdR N).cells ls st)
    (hs : Spec G l N (vR b :: as) h (fun r h' => Go G l M (pc + 3) ls (r.toList ++ st) h' (uc + (mdR N).cells) (us + (mdR N).slots) K)) : Go G l M pc ls (as.reverse ++ vR b :: st) h uc us K := by
  intro p e s m args below meth c ad A H locs la E hA hw hx hS hl
  have hts := E.2.2.2.2.2.1
  have hcv : (vR b :: as).map (cv ad) = Value.ref (ad b) :: as.map (cv ad) := by rw [List.map_cons, cv_ref ho.1]
  have hM := hs ad H.size
  rw [hcv] at hM
  have hB := hm.callB (R := mdR M) (i := i) hts (hts _ hlk) hr.1
  rw [hT] at hB
  have run := va_runI (p := p) (e := e) (below := below) (meth := meth) (locs := locs) (cells := uc) (slots := us) (As := as.map (cv ad)) (rest := st.map (cv ad)) (g := F0 m pc la (((as.reverse ++ vR b :: st)).map (cv ad))) (b := ad b) (H := H) (R := mdR M) ⟨E.1, E.2.1, E.2.2.2.1, E.2.2.2.2.1, hts⟩ hM ⟨hB, hnm, hts _ hv⟩ ⟨Pc_blind, fun U hU hW => ⟨rfl, hw.pre hx hA hS hU hW⟩⟩ rfl (by simp [hn]) hl.1 (by simp [cv_ref ho.1]) (lv_room (rest8 hr.2.2.2)) hdg ⟨hr.2.1, hr.2.2.1⟩
  exact Go.behind run E hA hw hx hS hl hok hr.2.1
theorem Go.callIN {N : MD} {n i b ci : Nat} {as : List AV} {host : String} (hdg : decode (mdB M) pc = .ok (.invokespecial i, 3)) (hm : MOK N n) (hT : mdT N = none) (hv : Cond.instanceMethod (mdN N) ∈ lw_ok) (hnm : (mdN N).name = "<init>") (hlk : Cond.methodLinkNest (mdN M).cls i (mdN N) host ∈ lw_tbl) (hn : as.length = n) (ho : Ob h b ci) (hr : rmOK N M uc us st) (hok : okLS (hN h) (mdR N).cells ls st)
    (hs : Spec G l N (vR b :: as) h (fun r h' => Go G l M (pc + 3) ls (r.toList ++ st) h' (uc + (mdR N).cells) (us + (mdR N).slots) K)) : Go G l M pc ls (as.reverse ++ vR b :: st) h uc us K := by
  intro p e s m args below meth c ad A H locs la E hA hw hx hS hl
  have hts := E.2.2.2.2.2.1
  have hcv : (vR b :: as).map (cv ad) = Value.ref (ad b) :: as.map (cv ad) := by rw [List.map_cons, cv_ref ho.1]
  have hM := hs ad H.size
  rw [hcv] at hM
  have hB := hm.callN (R := mdR M) (i := i) hts (hx.2.2.2.2.2.2.2.2.2.1 _ hlk rfl) hr.1
  rw [hT] at hB
  have run := va_runIN (p := p) (e := e) (below := below) (meth := meth) (locs := locs) (cells := uc) (slots := us) (As := as.map (cv ad)) (rest := st.map (cv ad)) (g := F0 m pc la (((as.reverse ++ vR b :: st)).map (cv ad))) (b := ad b) (H := H) (R := mdR M) ⟨E.1, E.2.1, E.2.2.2.1, E.2.2.2.2.1, hts⟩ hM ⟨hB, hnm, hts _ hv⟩ ⟨Pc_blind, fun U hU hW => ⟨rfl, hw.pre hx hA hS hU hW⟩⟩ rfl (by simp [hn]) hl.1 (by simp [cv_ref ho.1]) (lv_room (rest8 hr.2.2.2)) hdg ⟨hr.2.1, hr.2.2.1⟩
  exact Go.behind run E hA hw hx hS hl hok hr.2.1
theorem Met.ofWF {y : MethodName} {ws ws' : List Cond} {rm : Room} {Pc : Array Value → State → Prop} {Qc : Array Value → State → Outcome → State → Prop} {mc ms : Nat} {free : Addr → Prop} {cc : ByteArray} {maxL : Nat} {ret : Option FieldType}
    (hy : plainFor y = true) (hw : ws = Cond.code y cc maxL ret :: ws')
    (body : ∀ p e s m args below meth c s₁, BodyLoose p l y (headSpec ws rm) cc maxL ret e s m args below meth c s₁ → c.maxLocals = maxL → Pc args s →
      W p l e (headSpec ws rm).room s m args below meth c s.heap [] 0 0 (MQ below Qc args s mc ms free) (entryFrame m args maxL)) : Met l y ws rm Pc Qc mc ms free := by
  refine MetFree.of_bodySF (code := cc) (maxLocals := maxL) (ret := ret) hy ?_ ?_
  · intro args s m h hn
    obtain ⟨meth, c, h1, h2, h3, h4, h5, h6, -, -⟩ := Cond.code_spec hn (atoms_spec (ws := ws) h _ (by rw [hw]; exact List.mem_cons_self))
    exact ⟨meth, c, h1, h2, h3, h4, h5, h6⟩
  · intro p e s m args below meth c s₁ B hml hP _
    have hh0 : s₁.heap = s.heap := by rw [B.state]; rfl
    obtain ⟨t, a1, o, b1, b2, b3⟩ := body p e s m args below meth c s₁ B hml hP s₁ hh0 (Stand.of_body B)
    exact ⟨t, o, a1, b1, b2, ⟨b3.1, b3.2⟩⟩
/-- the contract out of the walk from the entry -/
theorem Spec.of {n : Nat} {as : List AV} (hm : MOK M n) (hp : plainFor (mdN M) = true) (hn : (enL as).length ≤ mdL M) (k : Go G l M 0 (entL as (mdL M)) [] h 0 0 K) : Spec G l M as h K := by
  intro ad sz
  refine Met.ofWF (cc := mdB M) (maxL := mdL M) (ret := mdT M) hp rfl ?_
  intro p e s m args below meth c s₁ B hml hv
  obtain ⟨rfl, hsz, hw, hx⟩ := hv
  have hts0 := atoms_spec (ws := wsM M) B.pre
  have hown : s.vm.findClass (mdN M).cls = some m.cls := findClass_of_methodNamed B.named
  have E : EV M p s m ((as.map (cv ad)).toArray) meth c := ⟨B.exec, B.bytes, B.returns, hml, hown, fun w hw => hts0 w (List.mem_cons_of_mem _ hw), B.notSynchronized, (name_of_methodNamed B.named B.method).1⟩
  rw [lg_entry_eq]
  subst hsz
  exact k p e s m _ below meth c ad _ s.heap [] _ E (fun q z => Or.inr z) hw hx va_S.rf (LV.entry hn)
end CallRows
