/-! ===== rows that make cells, beside handles of what lies outside ===== -/
def okVX (n : Nat) : List AV → Prop
  | [] => True
  | .inr (.inr k) :: as => (k ≤ n ∨ xh ≤ k) ∧ okVX n as
  | _ :: as => okVX n as
def okOX (n : Nat) : List (Option AV) → Prop
  | [] => True
  | some (.inr (.inr k)) :: as => (k ≤ n ∨ xh ≤ k) ∧ okOX n as
  | _ :: as => okOX n as
theorem okVX.eq {n n' : Nat} {ad ad' : Nat → Nat} (he : adE n n' ad ad') (hx : n' < xh) : ∀ {as : List AV}, okVX n as → as.map (cv ad') = as.map (cv ad)
  | [], _ => rfl
  | .inl x :: as, h => by simp only [List.map_cons]; rw [okVX.eq he hx (as := as) h]; rfl
  | .inr (.inl x) :: as, h => by simp only [List.map_cons]; rw [okVX.eq he hx (as := as) h]; rfl
  | .inr (.inr k) :: as, h => by
    simp only [List.map_cons]
    rw [okVX.eq he hx (as := as) h.2]
    congr 1
    simp only [cv, hd]
    rw [he k (h.1.imp id (fun z => Nat.lt_of_lt_of_le hx z))]
theorem okOX.eq {n n' : Nat} {ad ad' : Nat → Nat} (he : adE n n' ad ad') (hx : n' < xh) : ∀ {ls : List (Option AV)} (i : Nat) (a : AV), okOX n ls → ls[i]? = some (some a) → cv ad' a = cv ad a
  | [], i, a, _, h => by simp at h
  | o :: ls, 0, a, ho, h => by
    simp at h
    subst h
    rcases a with x | x | k
    · rfl
    · rfl
    · simp only [cv, hd]
      rw [he k (ho.1.imp id (fun z => Nat.lt_of_lt_of_le hx z))]
  | o :: ls, i + 1, a, ho, h => by
    have h' : ls[i]? = some (some a) := by simpa using h
    refine okOX.eq he hx (ls := ls) i a ?_ h'
    match o, ho with
    | none, ho => exact ho
    | some (.inl _), ho => exact ho
    | some (.inr (.inl _)), ho => exact ho
    | some (.inr (.inr _)), ho => exact ho.2
def okLSX (n : Nat) (c : Nat) (ls : List (Option AV)) (st : List AV) : Prop := c = 0 ∨ (okOX n ls ∧ okVX n st)
section MakeX
variable {G : GP} {l : Launch} {M : MD} {pc : Nat} {ls : List (Option AV)} {st : List AV} {h : AH} {uc us : Nat} {K : Option AV → AH → Prop}
theorem Go.behindX {N : MD} {p : Program} {e : Env} {s : State} {m : MethodId} {args : Array Value} {below : List Frame} {meth : Method} {c : Code} {ad : Nat → Nat} {A : Nat → Prop} {H : Heap} {locs : List Loc} {la : Array Slot} {st0 : List Value} {av : Array Value}
    (hr : va_Run p l e (mdR M) s m args below meth c H locs uc us (mdR N).cells (mdR N).slots (F0 m pc la st0) (st.map (cv ad)) (Qs G (mdR N).cells ad h (va_A (wl G ad h) H.size) (fun r h' => Go G l M (pc + 3) ls (r.toList ++ st) h' (uc + (mdR N).cells) (us + (mdR N).slots) K) av) (va_A (wl G ad h) H.size))
    (E : EV M p s m args meth c) (hA : ∀ q, s.heap.size ≤ q → A q) (hw : Wd G ad h A s H) (hx : XT G A s s.heap) (hS : va_S A s.heap H locs) (hl : LV ad la (mdL M) ls) (hok : okLSX (hN h) (mdR N).cells ls st) (hc : uc + (mdR N).cells ≤ (mdR M).cells) :
    W p l e (mdR M) s m args below meth c H locs uc us (MQ below (Qs G ((mdR M).cells - uc) ad h A K) args s (mdR M).cells (mdR M).slots A) (F0 m pc la st0) := by
  intro T hT X
  obtain ⟨v, st₀, t, T', L, h0, X', hL, e1, e2, ⟨⟨r, h', ad', hv, hk, hn1, hn2, hae, hW⟩, hF⟩, stp⟩ := hr T hT X
  have hv' : v = r.map (cv ad') := by injection hv
  subst hv'
  have hfree := hw.free hA hS
  rw [va_F, h0] at hF
  have hvm : s.vm.Alike t.vm := by rw [← e2]; exact X'.warmed.alike
  have hadE : (mdR N).cells = 0 → ad' = ad := fun z => adE.eq (n := hN h) (by have : hN h' = hN h := by omega
                                                                              rw [this] at hae; exact hae)
  have hst : st.map (cv ad') = st.map (cv ad) := by
    rcases hok with z | ⟨-, z⟩
    · rw [hadE z]
    · exact okVX.eq hae hW.2.2.2.1 z
  have hl' : LV ad' la (mdL M) ls := by
    refine ⟨hl.1, hl.2.1, fun i a hi => ?_⟩
    rcases hok with z | ⟨z, -⟩
    · rw [hadE z]; exact hl.2.2 i a hi
    · rw [okOX.eq hae hW.2.2.2.1 i a z hi]; exact hl.2.2 i a hi
  have hS' : va_S A s.heap t.heap (locs ++ L) := by
    refine ⟨Nat.le_trans hS.1 hF.1, fun q g1 g2 => ?_, fun q hq => ?_⟩
    · rw [hF.2 q (Nat.lt_of_lt_of_le g1 hS.1) (fun z => g2 (hfree q z))]
      exact hS.2.1 q g1 g2
    · rcases List.mem_append.mp hq with z | z
      · exact hS.2.2 q z
      · exact hfree _ (hL q z)
  have hW' : Wd G ad' h' A s t.heap := ⟨hW.1, va_K.moved hvm.symm hW.2.1, hW.2.2.1.weaken (fun _ q _ z => hfree q.1 z), hW.2.2.2⟩
  have k1 := hk p e s m args below meth c ad' A t.heap (locs ++ L) la E hA hW' hx hS' hl' T' e1 X'
  obtain ⟨t2, a1, b1⟩ := k1
  refine ⟨t2, ?_, ?_⟩
  · refine stp t2 ?_
    have : (Option.map (cv ad') r).toList ++ st.map (cv ad) = (r.toList ++ st).map (cv ad') := by
      rw [List.map_append, hst]
      cases r <;> rfl
    show Steps _ _ _ (T'.setTop { F0 m pc la st0 with pc := pc + 3, stack := (Option.map (cv ad') r).toList ++ st.map (cv ad) }) t2
    rw [this]
    exact a1
  · refine MQ.mono (fun o t' q => ?_) b1
    obtain ⟨⟨r2, h2, ad2, q1, q2, q3, q4, q5, q6⟩, q7⟩ := q
    exact ⟨⟨r2, h2, ad2, q1, q2, Nat.le_trans hn1 q3, by omega, hae.tr q5 hn1 q3, q6⟩, q7⟩
theorem Go.callIX {N : MD} {n i b ci : Nat} {as : List AV} (hdg : decode (mdB M) pc = .ok (.invokespecial i, 3)) (hm : MOK N n) (hT : mdT N = none) (hv : Cond.instanceMethod (mdN N) ∈ lw_ok) (hnm : (mdN N).name = "<init>") (hlk : Cond.methodLink (mdN M).cls i (mdN N) ∈ lw_ok) (hn : as.length = n) (ho : Ob h b ci) (hr : rmOK N M uc us st) (hok : okLSX (hN h) (mdR N).cells ls st)
    (hs : Spec G l N (vR b :: as) h (fun r h' => Go G l M (pc + 3) ls (r.toList ++ st) h' (uc + (mdR N).cells) (us + (mdR N).slots) K)) : Go G l M pc ls (as.reverse ++ vR b :: st) h uc us K := by
  intro p e s m args below meth c ad A H locs la E hA hw hx hS hl
  have hts := E.2.2.2.2.2.1
  have hcv : (vR b :: as).map (cv ad) = Value.ref (ad b) :: as.map (cv ad) := by rw [List.map_cons, cv_ref ho.1]
  have hM := hs ad H.size
  rw [hcv] at hM
  have hB := hm.callB (R := mdR M) (i := i) hts (hts _ hlk) hr.1
  rw [hT] at hB
  have run := va_runI (p := p) (e := e) (below := below) (meth := meth) (locs := locs) (cells := uc) (slots := us) (As := as.map (cv ad)) (rest := st.map (cv ad)) (g := F0 m pc la (((as.reverse ++ vR b :: st)).map (cv ad))) (b := ad b) (H := H) (R := mdR M) ⟨E.1, E.2.1, E.2.2.2.1, E.2.2.2.2.1, hts⟩ hM ⟨hB, hnm, hts _ hv⟩ ⟨Pc_blind, fun U hU hW => ⟨rfl, hw.pre hx hA hS hU hW⟩⟩ rfl (by simp [hn]) hl.1 (by simp [cv_ref ho.1]) (lv_room (rest8 hr.2.2.2)) hdg ⟨hr.2.1, hr.2.2.1⟩
  exact Go.behindX run E hA hw hx hS hl hok hr.2.1
theorem Go.callINX {N : MD} {n i b ci : Nat} {as : List AV} {host : String} (hdg : decode (mdB M) pc = .ok (.invokespecial i, 3)) (hm : MOK N n) (hT : mdT N = none) (hv : Cond.instanceMethod (mdN N) ∈ lw_ok) (hnm : (mdN N).name = "<init>") (hlk : Cond.methodLinkNest (mdN M).cls i (mdN N) host ∈ lw_tbl) (hn : as.length = n) (ho : Ob h b ci) (hr : rmOK N M uc us st) (hok : okLSX (hN h) (mdR N).cells ls st)
    (hs : Spec G l N (vR b :: as) h (fun r h' => Go G l M (pc + 3) ls (r.toList ++ st) h' (uc + (mdR N).cells) (us + (mdR N).slots) K)) : Go G l M pc ls (as.reverse ++ vR b :: st) h uc us K := by
  intro p e s m args below meth c ad A H locs la E hA hw hx hS hl
  have hts := E.2.2.2.2.2.1
  have hcv : (vR b :: as).map (cv ad) = Value.ref (ad b) :: as.map (cv ad) := by rw [List.map_cons, cv_ref ho.1]
  have hM := hs ad H.size
  rw [hcv] at hM
  have hB := hm.callN (R := mdR M) (i := i) hts (hx.2.2.2.2.2.2.2.2.2.1 _ hlk rfl) hr.1
  rw [hT] at hB
  have run := va_runIN (p := p) (e := e) (below := below) (meth := meth) (locs := locs) (cells := uc) (slots := us) (As := as.map (cv ad)) (rest := st.map (cv ad)) (g := F0 m pc la (((as.reverse ++ vR b :: st)).map (cv ad))) (b := ad b) (H := H) (R := mdR M) ⟨E.1, E.2.1, E.2.2.2.1, E.2.2.2.2.1, hts⟩ hM ⟨hB, hnm, hts _ hv⟩ ⟨Pc_blind, fun U hU hW => ⟨rfl, hw.pre hx hA hS hU hW⟩⟩ rfl (by simp [hn]) hl.1 (by simp [cv_ref ho.1]) (lv_room (rest8 hr.2.2.2)) hdg ⟨hr.2.1, hr.2.2.1⟩
  exact Go.behindX run E hA hw hx hS hl hok hr.2.1
theorem Go.madeX {p : Program} {e : Env} {s : State} {m : MethodId} {args : Array Value} {below : List Frame} {meth : Method} {c : Code} {ad : Nat → Nat} {A : Nat → Prop} {locs : List Loc} {la : Array Slot} {pc' n : Nat} {sp : Nat ⊕ (Nat × Nat)} {q : Nat} {H1 : Heap} (E : EV M p s m args meth c) (hA : ∀ q, s.heap.size ≤ q → A q) (hx : XT G A s s.heap) (hl : LV ad la (mdL M) ls) (hok : okOX (hN h) ls ∧ okVX (hN h) st) (hc : uc + 1 ≤ (mdR M).cells)
    (hw1 : Wd G (adN ad (hN h) q) (newC h sp) A s H1) (hS1 : va_S A s.heap H1 locs) (kk : Go G l M pc' ls (vR (hN h + 1) :: st) (newC h sp) (uc + 1) (us + n) K) : W p l e (mdR M) s m args below meth c H1 locs (uc + 1) (us + n) (MQ below (Qs G ((mdR M).cells - uc) ad h A K) args s (mdR M).cells (mdR M).slots A) (F0 m pc' la (.ref q :: st.map (cv ad))) := by
  have hl' : LV (adN ad (hN h) q) la (mdL M) ls := ⟨hl.1, hl.2.1, fun i a hi => by rw [okOX.eq (n := hN h) (n' := hN h + 1) adN_E hw1.2.2.2.1 i a hok.1 hi]; exact hl.2.2 i a hi⟩
  have k1 := kk p e s m args below meth c (adN ad (hN h) q) A H1 locs la E hA hw1 hx hS1 hl'
  have e1 : (vR (hN h + 1) :: st).map (cv (adN ad (hN h) q)) = .ref q :: st.map (cv ad) := by
    rw [List.map_cons, okVX.eq (n := hN h) (n' := hN h + 1) adN_E hw1.2.2.2.1 hok.2, cv_ref (by omega)]
    simp [adN]
  rw [e1] at k1
  refine W.mono (fun t z => MQ.mono (fun o t' y => ?_) z) k1
  obtain ⟨⟨r2, h2, ad2, q1, q2, q3, q4, q5, q6⟩, q7⟩ := y
  have hn : hN (newC h sp) = hN h + 1 := rfl
  rw [hn] at q3 q4 q5
  exact ⟨⟨r2, h2, ad2, q1, q2, by omega, by omega, adN_E.tr q5 (by omega) q3, q6⟩, q7⟩
theorem Go.newX {i ci : Nat} {q : vw_C} (hdg : decode (mdB M) pc = .ok (.new i, 3)) (hq : vwCl[ci]? = some q) (hcl : Cond.classLink (mdN M).cls i q.1 ∈ lw_ok) (hin : Cond.instantiable q.1 q.2.2 ∈ lw_ok) (hini : Cond.initialized q.1 ∈ lw_ok) (hdf : dfOK ci = true) (hc : uc + 1 ≤ (mdR M).cells) (hs : us + q.2.2 ≤ (mdR M).slots) (hxn : hN h + 1 < xh) (hok : okOX (hN h) ls ∧ okVX (hN h) st)
    (kk : Go G l M (pc + 3) ls (vR (hN h + 1) :: st) (newC h (.inl ci)) (uc + 1) (us + q.2.2) K) : Go G l M pc ls st h uc us K := by
  intro p e s m args below meth c ad A H locs la E hA hw hx hS hl
  have hts := E.2.2.2.2.2.1
  obtain ⟨C, T, N⟩ := q
  refine va_new (C := C) (T := T) (N := N) (ci := ci) (fs := (List.range (nfl ci)).map (fun j => dfl (kd ci j))) E.1 E.2.1 hts (coAll ci _ hq).1 _ (coAll ci _ hq).2.1 E.2.2.2.2.1 (hts _ hcl) (hts _ hin) (hts _ hini) hw.2.1 hw.1 hw.2.2.1 hS hA hq ?_ hc hs hdg (fun q0 H1 hP1 hD1 hS1 => ?_)
  · intro j hj
    unfold dfOK at hdf
    rw [hq] at hdf
    have := of_decide_eq_true (List.all_eq_true.mp hdf j (List.mem_range.mpr hj))
    rw [this]
    have hj' : j < nfl ci := by rw [nfl_of hq]; exact hj
    simp [vp_V, List.getD_eq_getElem?_getD, List.getElem?_map, List.getElem?_range hj']
  · refine Go.madeX E hA hx hl hok hc (hw.newC hxn ?_ hP1 hD1) hS1 kk
    simp only [ent, sh_newC]
    congr 2
    apply List.map_congr_left
    intro j _
    exact fv_newC
theorem Go.newarrayX {t n : Nat} (ht : t < 3) (hdg : decode (mdB M) pc = .ok (.newarray (atyp t), 2)) (hcl : Cond.arrayClass (ftyp t) ∈ lw_ok) (hn : n ≤ 65536) (hc : uc + 1 ≤ (mdR M).cells) (hs : us + n ≤ (mdR M).slots) (hxn : hN h + 1 < xh) (hok : okOX (hN h) ls ∧ okVX (hN h) st)
    (kk : Go G l M (pc + 2) ls (vR (hN h + 1) :: st) (newC h (.inr (t, n))) (uc + 1) (us + n) K) : Go G l M pc ls (vI (nI n) :: st) h uc us K := by
  intro p e s m args below meth c ad A H locs la E hA hw hx hS hl
  have hts := E.2.2.2.2.2.1
  have hsn := sh_newC (h := h) (sp := .inr (t, n))
  have e1 : hI (newC h (.inr (t, n))) (hN h + 1) = fun _ => 0 := by funext j; simp [hI, newC, hN]
  have e2 : hL (newC h (.inr (t, n))) (hN h + 1) = fun _ => 0 := by funext j; simp [hL, newC, hN]
  have h0 : ¬ nI n < 0 := nI_pos (by omega)
  have h1 : (nI n).toNatClampNeg = n := nI_clamp (by omega)
  have key : ∀ (ty : FieldType), (gT G)[t]? = some (gA G t, ty) → (∀ U c1 c2, va_RA U c1 ty → va_RA U c2 ty → c1 = c2) → ∀ (q : Nat) (cA : ClassId) (H1 : Heap) (a0 : vp_A), (ent G (adN ad (hN h) q) (newC h (.inr (t, n))) (hN h + 1) = .inl (gA G t, a0)) → va_K (gD G) vwCl (gT G ++ [(cA, ty)]) s → va_P (gD G) vwCl (wl G ad h ++ [(q, .inl (cA, a0))]) H1 → va_D A (wl G ad h ++ [(q, .inl (cA, a0))]) → va_S A s.heap H1 locs → W p l e (mdR M) s m args below meth c H1 locs (uc + 1) (us + n) (MQ below (Qs G ((mdR M).cells - uc) ad h A K) args s (mdR M).cells (mdR M).slots A) (F0 m (pc + 2) la (.ref q :: st.map (cv ad))) := by
    intro ty hty huniq q cA H1 a0 hent hK1 hP1 hD1 hS1
    have r1 := (hK1.2 (gT G).length (cA, ty) (by simp)).2
    have r2 := (hw.2.1.2 t (gA G t, ty) hty).2
    have : cA = gA G t := huniq s _ _ r1 r2
    subst this
    exact Go.madeX E hA hx hl hok hc (hw.newC hxn hent hP1 hD1) hS1 kk
  rcases (show t = 0 ∨ t = 1 ∨ t = 2 by omega) with rfl | rfl | rfl
  · refine va_newa (atype := .int) (ty := .int) (a0 := (n, .inl (fun _ => 0))) E.1 E.2.1 (hts _ hcl) rfl hw.2.1 hw.1 hw.2.2.1 hS hA (fun cA => rfl) h0 h1 (by simp [componentBytes]; omega) hc hs hdg (fun q cA H1 hK1 hP1 hD1 hS1 => ?_)
    exact key .int rfl (fun U c1 c2 a b => Option.some.inj (a.symm.trans b)) q cA H1 _ (by rw [ent_ar hsn, e1]; rfl) hK1 hP1 hD1 hS1
  · refine va_newa (atype := .long) (ty := .long) (a0 := (n, .inr (.inl (fun _ => 0)))) E.1 E.2.1 (hts _ hcl) rfl hw.2.1 hw.1 hw.2.2.1 hS hA (fun cA => rfl) h0 h1 (by simp [componentBytes]; omega) hc hs hdg (fun q cA H1 hK1 hP1 hD1 hS1 => ?_)
    exact key .long rfl (fun U c1 c2 a b => Option.some.inj (a.symm.trans b)) q cA H1 _ (by rw [ent_ar hsn, e2]; rfl) hK1 hP1 hD1 hS1
  · refine va_newa (atype := .boolean) (ty := .boolean) (a0 := (n, .inl (fun _ => 0))) E.1 E.2.1 (hts _ hcl) rfl hw.2.1 hw.1 hw.2.2.1 hS hA (fun cA => rfl) h0 h1 (by simp [componentBytes]; omega) hc hs hdg (fun q cA H1 hK1 hP1 hD1 hS1 => ?_)
    exact key .boolean rfl (fun U c1 c2 a b => Option.some.inj (a.symm.trans b)) q cA H1 _ (by rw [ent_ar hsn, e1]; rfl) hK1 hP1 hD1 hS1
theorem Go.anewarrayX {i t n : Nat} (ht : t = 3 ∨ t = 4) (hdg : decode (mdB M) pc = .ok (.anewarray i, 3)) (hcl : Cond.classLink (mdN M).cls i (rtyp t) ∈ lw_ok) (hn : n ≤ 65536) (hc : uc + 1 ≤ (mdR M).cells) (hs : us + n ≤ (mdR M).slots) (hxn : hN h + 1 < xh) (hok : okOX (hN h) ls ∧ okVX (hN h) st)
    (kk : Go G l M (pc + 3) ls (vR (hN h + 1) :: st) (newC h (.inr (t, n))) (uc + 1) (us + n) K) : Go G l M pc ls (vI (nI n) :: st) h uc us K := by
  intro p e s m args below meth c ad A H locs la E hA hw hx hS hl
  have hts := E.2.2.2.2.2.1
  have hsn := sh_newC (h := h) (sp := .inr (t, n))
  have e3 : hR (newC h (.inr (t, n))) (hN h + 1) = fun _ => 0 := by funext j; simp [hR, newC, hN]
  have h0 : ¬ nI n < 0 := nI_pos (by omega)
  have h1 : (nI n).toNatClampNeg = n := nI_clamp (by omega)
  have hover : va_AO (rtyp t) s := by
    rcases ht with rfl | rfl
    · exact hx.2.2.2.2.2.2.2.2.2.2.1
    · exact hx.2.2.2.2.2.2.2.2.2.2.2
  have hty : (gT G)[t]? = some (gA G t, .object (rtyp t)) := by rcases ht with rfl | rfl <;> rfl
  refine va_newq E.1 E.2.1 E.2.2.2.2.1 (hts _ hcl) hover hw.2.1 hw.1 hw.2.2.1 hS hA h0 h1 (by omega) hc hs hdg (fun q cA H1 hK1 hP1 hD1 hS1 => ?_)
  have r1 := (hK1.2 (gT G).length (cA, .object (rtyp t)) (by simp)).2
  have r2 := (hw.2.1.2 t (gA G t, .object (rtyp t)) hty).2
  have : cA = gA G t := by
    obtain ⟨_, _, _, _, _, a⟩ := r1
    obtain ⟨_, _, _, _, _, b⟩ := r2
    exact Option.some.inj (a.symm.trans b)
  subst this
  refine Go.madeX E hA hx hl hok hc (hw.newC hxn ?_ hP1 hD1) hS1 kk
  rw [ent_ar hsn, e3]
  have t1 : ¬ t = 1 := by omega
  have t2 : ¬ t < 3 := by omega
  simp [t1, t2, hd]
end MakeX
