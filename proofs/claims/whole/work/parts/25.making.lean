/-! ===== cells that are made; rows copied; the constants and the script ===== -/
def adN (ad : Nat → Nat) (n q : Nat) : Nat → Nat := fun k => if k = n + 1 then q else ad k
theorem adN_E {ad : Nat → Nat} {n q : Nat} : adE n (n + 1) ad (adN ad n q) := by
  intro k hk
  have : k ≠ n + 1 := by omega
  simp [adN, this]
theorem ent_newC {G : GP} {ad : Nat → Nat} {h : AH} {sp : Nat ⊕ (Nat × Nat)} {q k : Nat} (hr : RF h) (hk : k ≤ hN h) : ent G (adN ad (hN h) q) (newC h sp) k = ent G ad h k := by
  have hk1 : ¬ k = h.1 + 1 := by unfold hN at hk; omega
  have e0 : hS (newC h sp) k = hS h k := by simp [hS, newC, hk1]
  have e1 : hI (newC h sp) k = hI h k := by simp [hI, newC, hk1]
  have e2 : hL (newC h sp) k = hL h k := by simp [hL, newC, hk1]
  have e3 : hR (newC h sp) k = hR h k := by simp [hR, newC, hk1]
  have e4 : ∀ j, hd (adN ad (hN h) q) (hR h k j) = hd ad (hR h k j) := by
    intro j
    have := hr k j hk
    simp only [hd, adN]
    rw [if_neg (show ¬ hR h k j = hN h + 1 by omega)]
  unfold ent fvl
  simp only [e0, e1, e2, e3, e4]
theorem wl_newC {G : GP} {ad : Nat → Nat} {h : AH} {sp : Nat ⊕ (Nat × Nat)} {q : Nat} (hr : RF h) : wl G (adN ad (hN h) q) (newC h sp) = wl G ad h ++ [(q, ent G (adN ad (hN h) q) (newC h sp) (hN h + 1))] := by
  have hn : hN (newC h sp) = hN h + 1 := rfl
  unfold wl
  rw [hn, List.range_succ, List.map_append]
  congr 1
  · apply List.map_congr_left
    intro k hk
    have hk := List.mem_range.mp hk
    rw [ent_newC hr (by omega)]
    simp only [adN]
    rw [if_neg (show ¬ k + 1 = hN h + 1 by omega)]
  · simp [adN]
theorem RF.newC {h : AH} {sp : Nat ⊕ (Nat × Nat)} (hr : RF h) : RF (newC h sp) := by
  intro k j hk
  show (if k = h.1 + 1 then (fun _ => 0) else h.2.2.2.2 k) j ≤ h.1 + 1
  by_cases z : k = h.1 + 1
  · simp [z]
  · rw [if_neg z]
    have hk' : k ≤ h.1 + 1 := hk
    have := hr k j (by unfold hN; omega)
    unfold hN hR at this
    omega
theorem Wd.newC {G : GP} {ad : Nat → Nat} {h : AH} {A : Nat → Prop} {s : State} {H H1 : Heap} {sp : Nat ⊕ (Nat × Nat)} {q : Nat} {e : va_E} (hw : Wd G ad h A s H) (hx : hN h + 1 < xh) (he : ent G (adN ad (hN h) q) (newC h sp) (hN h + 1) = e) (hP : va_P (gD G) vwCl (wl G ad h ++ [(q, e)]) H1) (hD : va_D A (wl G ad h ++ [(q, e)])) : Wd G (adN ad (hN h) q) (newC h sp) A s H1 := by
  have hr := hw.2.2.2.2.2
  subst he
  rw [← wl_newC hr] at hP hD
  refine ⟨hP, hw.2.1, hD, hx, ?_, hr.newC⟩
  have z : ∀ i, adN ad (hN h) q (xh + i) = ad (xh + i) := fun i => by
    simp only [adN]
    rw [if_neg (by omega)]
  have a := hw.2.2.2.2.1
  exact ⟨(z 0).trans a.1, (z 1).trans a.2.1, (z 2).trans a.2.2.1, (z 9).trans a.2.2.2⟩
/-- the first value of a field, by its kind -/
def dfl (t : Nat) : Value := if t = 1 then .long 0 else if t = 2 then .null else .int 0
theorem sh_newC {h : AH} {sp : Nat ⊕ (Nat × Nat)} : hS (newC h sp) (hN h + 1) = sp := by simp [hS, newC, hN]
theorem fv_newC {ad : Nat → Nat} {h : AH} {sp : Nat ⊕ (Nat × Nat)} {ci j : Nat} : fvl ad (newC h sp) (hN h + 1) ci j = dfl (kd ci j) := by
  have e1 : hI (newC h sp) (hN h + 1) j = 0 := by simp [hI, newC, hN]
  have e2 : hL (newC h sp) (hN h + 1) j = 0 := by simp [hL, newC, hN]
  have e3 : hR (newC h sp) (hN h + 1) j = 0 := by simp [hR, newC, hN]
  unfold fvl dfl
  rw [e1, e2, e3]
  rfl
def dfOK (ci : Nat) : Bool := match vwCl[ci]? with
  | some q => (List.range q.2.2).all (fun j => decide (defaultValue ((parseFieldDescriptor (q.2.1 j).2.2.1).getD .int) = dfl (kd ci j)))
  | none => false
section MakeRows
variable {G : GP} {l : Launch} {M : MD} {pc : Nat} {ls : List (Option AV)} {st : List AV} {h : AH} {uc us : Nat} {K : Option AV → AH → Prop}
/-- behind a cell that was made -/
theorem Go.made {p : Program} {e : Env} {s : State} {m : MethodId} {args : Array Value} {below : List Frame} {meth : Method} {c : Code} {ad : Nat → Nat} {A : Nat → Prop} {locs : List Loc} {la : Array Slot} {pc' n : Nat} {sp : Nat ⊕ (Nat × Nat)} {q : Nat} {H1 : Heap} (E : EV M p s m args meth c) (hA : ∀ q, s.heap.size ≤ q → A q) (hx : XT G A s s.heap) (hl : LV ad la (mdL M) ls) (hok : okO (hN h) ls ∧ okV (hN h) st) (hc : uc + 1 ≤ (mdR M).cells)
    (hw1 : Wd G (adN ad (hN h) q) (newC h sp) A s H1) (hS1 : va_S A s.heap H1 locs) (kk : Go G l M pc' ls (vR (hN h + 1) :: st) (newC h sp) (uc + 1) (us + n) K) : W p l e (mdR M) s m args below meth c H1 locs (uc + 1) (us + n) (MQ below (Qs G ((mdR M).cells - uc) ad h A K) args s (mdR M).cells (mdR M).slots A) (F0 m pc' la (.ref q :: st.map (cv ad))) := by
  have hl' : LV (adN ad (hN h) q) la (mdL M) ls := ⟨hl.1, hl.2.1, fun i a hi => by rw [okO.eq adN_E i a hok.1 hi]; exact hl.2.2 i a hi⟩
  have k1 := kk p e s m args below meth c (adN ad (hN h) q) A H1 locs la E hA hw1 hx hS1 hl'
  have e1 : (vR (hN h + 1) :: st).map (cv (adN ad (hN h) q)) = .ref q :: st.map (cv ad) := by
    rw [List.map_cons, okV.eq adN_E hok.2, cv_ref (by omega)]
    simp [adN]
  rw [e1] at k1
  refine W.mono (fun t z => MQ.mono (fun o t' y => ?_) z) k1
  obtain ⟨⟨r2, h2, ad2, q1, q2, q3, q4, q5, q6⟩, q7⟩ := y
  have hn : hN (newC h sp) = hN h + 1 := rfl
  rw [hn] at q3 q4 q5
  exact ⟨⟨r2, h2, ad2, q1, q2, by omega, by omega, adN_E.tr q5 (by omega) q3, q6⟩, q7⟩
theorem Go.new {i ci : Nat} {q : vw_C} (hdg : decode (mdB M) pc = .ok (.new i, 3)) (hq : vwCl[ci]? = some q) (hcl : Cond.classLink (mdN M).cls i q.1 ∈ lw_ok) (hin : Cond.instantiable q.1 q.2.2 ∈ lw_ok) (hini : Cond.initialized q.1 ∈ lw_ok) (hdf : dfOK ci = true) (hc : uc + 1 ≤ (mdR M).cells) (hs : us + q.2.2 ≤ (mdR M).slots) (hxn : hN h + 1 < xh) (hok : okO (hN h) ls ∧ okV (hN h) st)
    (kk : Go G l M (pc + 3) ls (vR (hN h + 1) :: st) (newC h (.inl ci)) (uc + 1) (us + q.2.2) K) : Go G l M pc ls st h uc us K := by
  intro p e s m args below meth c ad A H locs la E hA hw hx hS hl
  have hts := E.2.2.2.2.2.1
  obtain ⟨C, T, N⟩ := q
  refine va_new (C := C) (T := T) (N := N) (ci := ci) (fs := (List.range (nfl ci)).map (fun j => dfl (kd ci j))) E.1 E.2.1 hts (coAll ci _ hq).1 _ (coAll ci _ hq).2.1 E.2.2.2.2.1 (hts _ hcl) (hts _ hin) (hts _ hini) hw.2.1 hw.1 hw.2.2.1 hS hA hq ?_ hc hs hdg (fun q0 H1 hP1 hD1 hS1 => ?_)
  · intro j hj
    unfold dfOK at hdf
    rw [hq] at hdf
    have := of_decide_eq_true (List.all_eq_true.mp hdf j (List.mem_range.mpr hj))
    rw [this]
    have hj' : j < nfl ci := by rw [nfl_of hq]; exact hj
    simp [vp_V, List.getD_eq_getElem?_getD, List.getElem?_map, List.getElem?_range hj']
  · refine Go.made E hA hx hl hok hc (hw.newC hxn ?_ hP1 hD1) hS1 kk
    simp only [ent, sh_newC]
    congr 2
    apply List.map_congr_left
    intro j _
    exact fv_newC
/-- rows of numbers: int 0, long 1, boolean 2 -/
def atyp (t : Nat) : ArrayType := if t = 0 then .int else if t = 1 then .long else .boolean
def ftyp (t : Nat) : FieldType := if t = 0 then .int else if t = 1 then .long else .boolean
theorem Go.newarray {t n : Nat} (ht : t < 3) (hdg : decode (mdB M) pc = .ok (.newarray (atyp t), 2)) (hcl : Cond.arrayClass (ftyp t) ∈ lw_ok) (hn : n ≤ 65536) (hc : uc + 1 ≤ (mdR M).cells) (hs : us + n ≤ (mdR M).slots) (hxn : hN h + 1 < xh) (hok : okO (hN h) ls ∧ okV (hN h) st)
    (kk : Go G l M (pc + 2) ls (vR (hN h + 1) :: st) (newC h (.inr (t, n))) (uc + 1) (us + n) K) : Go G l M pc ls (vI (nI n) :: st) h uc us K := by
  intro p e s m args below meth c ad A H locs la E hA hw hx hS hl
  have hts := E.2.2.2.2.2.1
  have hsn := sh_newC (h := h) (sp := .inr (t, n))
  have e1 : hI (newC h (.inr (t, n))) (hN h + 1) = fun _ => 0 := by funext j; simp [hI, newC, hN]
  have e2 : hL (newC h (.inr (t, n))) (hN h + 1) = fun _ => 0 := by funext j; simp [hL, newC, hN]
  have h0 : ¬ nI n < 0 := nI_pos (by omega)
  have h1 : (nI n).toNatClampNeg = n := nI_clamp (by omega)
  have key : ∀ (ty : FieldType), (gT G)[t]? = some (gA G t, ty) → (∀ U c1 c2, va_RA U c1 ty → va_RA U c2 ty → c1 = c2) → ∀ (q : Nat) (cA : ClassId) (H1 : Heap) (a0 : vp_A), (ent G (adN ad (hN h) q) (newC h (.inr (t, n))) (hN h + 1) = .inl (gA G t, a0)) → va_K (gD G) vwCl (gT G ++ [(cA, ty)]) s → va_P (gD G) vwCl (wl G ad h ++ [(q, .inl (cA, a0))]) H1 → va_D A (wl G ad h ++ [(q, .inl (cA, a0))]) → va_S A s.heap H1 locs → W p l e (mdR M) s m args below meth c H1 locs (uc + 1) (us + n) (MQ below (Qs G ((mdR M).cells - uc) ad h A K) args s (mdR M).cells (mdR M).slots A) (F0 m (pc + 2) la (.ref q :: st.map (cv ad))) := by
    intro ty hty huniq q cA H1 a0 hent hK1 hP1 hD1 hS1
    have r1 := (hK1.2 (gT G).length (cA, ty) (by simp)).2
    have r2 := (hw.2.1.2 t (gA G t, ty) hty).2
    have : cA = gA G t := huniq s _ _ r1 r2
    subst this
    exact Go.made E hA hx hl hok hc (hw.newC hxn hent hP1 hD1) hS1 kk
  rcases (show t = 0 ∨ t = 1 ∨ t = 2 by omega) with rfl | rfl | rfl
  · refine va_newa (atype := .int) (ty := .int) (a0 := (n, .inl (fun _ => 0))) E.1 E.2.1 (hts _ hcl) rfl hw.2.1 hw.1 hw.2.2.1 hS hA (fun cA => rfl) h0 h1 (by simp [componentBytes]; omega) hc hs hdg (fun q cA H1 hK1 hP1 hD1 hS1 => ?_)
    exact key .int rfl (fun U c1 c2 a b => Option.some.inj (a.symm.trans b)) q cA H1 _ (by rw [ent_ar hsn, e1]; rfl) hK1 hP1 hD1 hS1
  · refine va_newa (atype := .long) (ty := .long) (a0 := (n, .inr (.inl (fun _ => 0)))) E.1 E.2.1 (hts _ hcl) rfl hw.2.1 hw.1 hw.2.2.1 hS hA (fun cA => rfl) h0 h1 (by simp [componentBytes]; omega) hc hs hdg (fun q cA H1 hK1 hP1 hD1 hS1 => ?_)
    exact key .long rfl (fun U c1 c2 a b => Option.some.inj (a.symm.trans b)) q cA H1 _ (by rw [ent_ar hsn, e2]; rfl) hK1 hP1 hD1 hS1
  · refine va_newa (atype := .boolean) (ty := .boolean) (a0 := (n, .inl (fun _ => 0))) E.1 E.2.1 (hts _ hcl) rfl hw.2.1 hw.1 hw.2.2.1 hS hA (fun cA => rfl) h0 h1 (by simp [componentBytes]; omega) hc hs hdg (fun q cA H1 hK1 hP1 hD1 hS1 => ?_)
    exact key .boolean rfl (fun U c1 c2 a b => Option.some.inj (a.symm.trans b)) q cA H1 _ (by rw [ent_ar hsn, e1]; rfl) hK1 hP1 hD1 hS1
/-- rows of references: scenes 3, boxes 4 -/
def rtyp (t : Nat) : String := if t = 3 then "SettledDots$Scene" else "SettledDots$Box"
theorem Go.anewarray {i t n : Nat} (ht : t = 3 ∨ t = 4) (hdg : decode (mdB M) pc = .ok (.anewarray i, 3)) (hcl : Cond.classLink (mdN M).cls i (rtyp t) ∈ lw_ok) (hn : n ≤ 65536) (hc : uc + 1 ≤ (mdR M).cells) (hs : us + n ≤ (mdR M).slots) (hxn : hN h + 1 < xh) (hok : okO (hN h) ls ∧ okV (hN h) st)
    (kk : Go G l M (pc + 3) ls (vR (hN h + 1) :: st) (newC h (.inr (t, n))) (uc + 1) (us + n) K) : Go G l M pc ls (vI (nI n) :: st) h uc us K := by
  intro p e s m args below meth c ad A H locs la E hA hw hx hS hl
  have hts := E.2.2.2.2.2.1
  have hsn := sh_newC (h := h) (sp := .inr (t, n))
  have e3 : hR (newC h (.inr (t, n))) (hN h + 1) = fun _ => 0 := by funext j; simp [hR, newC, hN]
  have h0 : ¬ nI n < 0 := nI_pos (by omega)
  have h1 : (nI n).toNatClampNeg = n := nI_clamp (by omega)
  have hover : va_AO (rtyp t) s := by
    rcases ht with rfl | rfl
    · exact hx.2.2.2.2.2.2.2.2.2.2.1
    · exact hx.2.2.2.2.2.2.2.2.2.2.2
  have hty : (gT G)[t]? = some (gA G t, .object (rtyp t)) := by rcases ht with rfl | rfl <;> rfl
  refine va_newq E.1 E.2.1 E.2.2.2.2.1 (hts _ hcl) hover hw.2.1 hw.1 hw.2.2.1 hS hA h0 h1 (by omega) hc hs hdg (fun q cA H1 hK1 hP1 hD1 hS1 => ?_)
  have r1 := (hK1.2 (gT G).length (cA, .object (rtyp t)) (by simp)).2
  have r2 := (hw.2.1.2 t (gA G t, .object (rtyp t)) hty).2
  have : cA = gA G t := by
    obtain ⟨_, _, _, _, _, a⟩ := r1
    obtain ⟨_, _, _, _, _, b⟩ := r2
    exact Option.some.inj (a.symm.trans b)
  subst this
  refine Go.made E hA hx hl hok hc (hw.newC hxn ?_ hP1 hD1) hS1 kk
  rw [ent_ar hsn, e3]
  have t1 : ¬ t = 1 := by omega
  have t2 : ¬ t < 3 := by omega
  simp [t1, t2, hd]
theorem Go.objInit {i b : Nat} (hdg : decode (mdB M) pc = .ok (.invokespecial i, 3)) (h0 : 0 < b) (hlk : Cond.methodLink (mdN M).cls i Lib.objectInit ∈ lw_ok) (hin : Cond.instanceMethod Lib.objectInit ∈ lw_ok) (hco : Cond.code Lib.objectInit ⟨#[0xb1]⟩ 1 none ∈ lw_ok) (hf : 1 ≤ (mdR M).frames) (hlo : (st.map (fun a => if isL a then 2 else 1)).sum + 12 ≤ (mdR M).locals) (kk : Go G l M (pc + 3) ls st h uc us K) : Go G l M pc ls (vR b :: st) h uc us K := by
  intro p e s m args below meth c ad A H locs la E hA hw hx hS hl
  have hts := E.2.2.2.2.2.1
  simp only [List.map_cons, cv_ref h0]
  refine W.objInit E.1 E.2.1 E.2.2.2.2.1 (hts _ hlk) (hts _ hin) (hts _ hco) rfl (hl.1.trans E.2.2.2.1.symm) rfl hdg hf ?_ (kk p e s m args below meth c ad A H locs la E hA hw hx hS hl)
  rw [List.map_map]
  have : ((fun v : Value => v.category) ∘ cv ad) = fun a => if isL a then 2 else 1 := funext fun a => cat_cv ad a
  rw [this]
  show 2 * 0 + _ + 12 ≤ _
  omega
/-- a row copied: places sp .. of one to dp .. of another -/
theorem Go.arraycopy {i a b na nb : Nat} {sp dp n : Int32} (hdg : decode (mdB M) pc = .ok (.invokestatic i, 3)) (hlk : Cond.methodLink (mdN M).cls i arraycopyName ∈ lw_ok) (hnat : Cond.native arraycopyName ∈ lw_ok) (hst : Cond.static arraycopyName ∈ lw_ok) (hini : Cond.initialized "java/lang/System" ∈ lw_ok) (hf : 1 ≤ (mdR M).frames) (hlo : (st.map (fun a => if isL a then 2 else 1)).sum + (nativeFrameWords "java/lang/System" "arraycopy" 5 + 11) ≤ (mdR M).locals)
    (ha : Ar h a 0 na) (hb : Ar h b 0 nb) (h1 : ¬ sp < 0) (h2 : ¬ dp < 0) (h3 : ¬ n < 0) (h4 : ix sp + ix n ≤ na) (h5 : ix dp + ix n ≤ nb)
    (kk : Go G l M (pc + 3) ls st (rowI h b (va_cpy (hI h a) (hI h b) (ix sp) (ix dp) (ix n))) uc us K) : Go G l M pc ls (vI n :: vI dp :: vR b :: vI sp :: vR a :: st) h uc us K := by
  intro p e s m args below meth c ad A H locs la E hA hw hx hS hl
  have hts := E.2.2.2.2.2.1
  simp only [List.map_cons, cv_ref ha.1, cv_ref hb.1]
  refine va_copyi (ty := .int) E.1 E.2.1 (E.2.2.2.1.trans hl.1.symm) E.2.2.2.2.1 (hts _ hlk) (hts _ hnat) (hts _ hst) (hts _ hini) hw.2.1 hw.1 hw.2.2.1 hS (a - 1) (b - 1) 0 0 (Wd.ar ha) (Wd.ar hb) (gT_at G).1 (gT_at G).1 rfl h1 h2 h3 h4 h5 (fun _ _ => rfl) hf ?_ hdg (fun H1 locs1 hP1 hD1 hS1 => ?_)
  · rw [List.map_map]
    have : ((fun v : Value => v.category) ∘ cv ad) = fun a => if isL a then 2 else 1 := funext fun a => cat_cv ad a
    rw [this]
    exact hlo
  · refine kk p e s m args below meth c ad A H1 locs1 la E hA (hw.upd (k := b) rfl hb.1 hb.2.1 (fun k' z => ?_) ?_ hw.2.2.2.2.2 hP1 hD1) hx hS1 hl
    · have e : hI (rowI h b (va_cpy (hI h a) (hI h b) (ix sp) (ix dp) (ix n))) k' = hI h k' := by simp [hI, rowI, z]
      unfold ent fvl
      simp only [e]
      rfl
    · rw [ent_ar (h := rowI h b (va_cpy (hI h a) (hI h b) (ix sp) (ix dp) (ix n))) (t := 0) (n := nb) hb.2.2]
      have e : hI (rowI h b (va_cpy (hI h a) (hI h b) (ix sp) (ix dp) (ix n))) b = va_cpy (hI h a) (hI h b) (ix sp) (ix dp) (ix n) := by simp [hI, rowI]
      simp only [e]
      rfl
theorem Go.sload {i : Int32} (hdg : decode (mdB M) pc = .ok (.iaload, 1)) (hi : vp_in i G.2.2.2.2.2.2.1) (kk : Go G l M (pc + 1) ls (vI (G.2.2.2.2.2.2.2 (ix i)) :: st) h uc us K) : Go G l M pc ls (vI i :: vR (xh + 9) :: st) h uc us K := by
  intro p e s m args below meth c ad A H locs la E hA hw hx hS hl
  simp only [List.map_cons, cv_ref (show 0 < xh + 9 by omega), hw.2.2.2.2.1.2.2.2]
  exact va_sld E.1 E.2.1 hx.2.2.2.2.2.2.1 hx.2.2.2.2.2.2.2.1 hx.2.2.2.2.2.2.2.2.1 hS hi hdg (kk p e s m args below meth c ad A H locs la E hA hw hx hS hl)
theorem Go.slen (hdg : decode (mdB M) pc = .ok (.arraylength, 1)) (kk : Go G l M (pc + 1) ls (vI (nI G.2.2.2.2.2.2.1) :: st) h uc us K) : Go G l M pc ls (vR (xh + 9) :: st) h uc us K := by
  intro p e s m args below meth c ad A H locs la E hA hw hx hS hl
  simp only [List.map_cons, cv_ref (show 0 < xh + 9 by omega), hw.2.2.2.2.1.2.2.2]
  exact va_slen E.1 E.2.1 hx.2.2.2.2.2.2.1 hx.2.2.2.2.2.2.2.1 hx.2.2.2.2.2.2.2.2.1 hS hdg (kk p e s m args below meth c ad A H locs la E hA hw hx hS hl)
theorem Go.ldcS {i j : Nat} (hcl : (mdN M).cls = "SettledDots$Reader") (hdg : decode (mdB M) pc = .ok (.ldc i, 2)) (hj : (i = 50 ∧ j = 0) ∨ (i = 75 ∧ j = 1) ∨ (i = 80 ∧ j = 2)) (kk : Go G l M (pc + 2) ls (vR (xh + j) :: st) h uc us K) : Go G l M pc ls st h uc us K := by
  intro p e s m args below meth c ad A H locs la E hA hw hx hS hl
  have k1 := kk p e s m args below meth c ad A H locs la E hA hw hx hS hl
  rw [List.map_cons, cv_ref (show 0 < xh + j by unfold xh; omega)] at k1
  have hown := E.2.2.2.2.1
  rw [hcl] at hown
  rcases hj with ⟨rfl, rfl⟩ | ⟨rfl, rfl⟩ | ⟨rfl, rfl⟩
  · rw [show ad (xh + 0) = G.2.2.2.1 0 from hw.2.2.2.2.1.1] at k1
    exact va_ldcS E.1 E.2.1 hown hx.2.1 hdg k1
  · rw [hw.2.2.2.2.1.2.1] at k1
    exact va_ldcS E.1 E.2.1 hown hx.2.2.1 hdg k1
  · rw [hw.2.2.2.2.1.2.2.1] at k1
    exact va_ldcS E.1 E.2.1 hown hx.2.2.2.1 hdg k1
end MakeRows
