/-! ===== rows of numbers and references, answers ===== -/
theorem gT_at (G : GP) : (gT G)[0]? = some (gA G 0, .int) ∧ (gT G)[1]? = some (gA G 1, .long) ∧ (gT G)[2]? = some (gA G 2, .boolean) ∧ (gT G)[3]? = some (gA G 3, .object "SettledDots$Scene") ∧ (gT G)[4]? = some (gA G 4, .object "SettledDots$Box") := ⟨rfl, rfl, rfl, rfl, rfl⟩
theorem ent_ar {G : GP} {ad : Nat → Nat} {h : AH} {k t n : Nat} (hs : hS h k = .inr (t, n)) : ent G ad h k = .inl (gA G t, n, if t = 1 then .inr (.inl (hL h k)) else if t < 3 then .inl (hI h k) else .inr (.inr (.inr (.inr (fun j => hd ad (hR h k j)))))) := by simp [ent, hs]
section ArrRows
variable {G : GP} {l : Launch} {M : MD} {pc : Nat} {ls : List (Option AV)} {st : List AV} {h : AH} {uc us : Nat} {K : Option AV → AH → Prop}
theorem Go.iaload {k : Nat} {i : Int32} (hdg : decode (mdB M) pc = .ok (.iaload, 1)) (ho : InA h k 0 i) (kk : Go G l M (pc + 1) ls (vI (hI h k (ix i)) :: st) h uc us K) : Go G l M pc ls (vI i :: vR k :: st) h uc us K := by
  intro p e s m args below meth c ad A H locs la E hA hw hx hS hl
  obtain ⟨n, ho, hi⟩ := ho
  simp only [List.map_cons, cv_ref ho.1]
  exact va_iald E.1 E.2.1 hw.2.1 hw.1 (k - 1) 0 (Wd.ar ho) (gT_at G).1 hi hdg (kk p e s m args below meth c ad A H locs la E hA hw hx hS hl)
theorem Go.baload {k : Nat} {i : Int32} (hdg : decode (mdB M) pc = .ok (.baload, 1)) (ho : InA h k 2 i) (kk : Go G l M (pc + 1) ls (vI (hI h k (ix i)) :: st) h uc us K) : Go G l M pc ls (vI i :: vR k :: st) h uc us K := by
  intro p e s m args below meth c ad A H locs la E hA hw hx hS hl
  obtain ⟨n, ho, hi⟩ := ho
  simp only [List.map_cons, cv_ref ho.1]
  exact va_zald E.1 E.2.1 hw.2.1 hw.1 (k - 1) 2 (Wd.ar ho) (gT_at G).2.2.1 hi hdg (kk p e s m args below meth c ad A H locs la E hA hw hx hS hl)
theorem Go.laload {k : Nat} {i : Int32} (hdg : decode (mdB M) pc = .ok (.laload, 1)) (ho : InA h k 1 i) (kk : Go G l M (pc + 1) ls (vL (hL h k (ix i)) :: st) h uc us K) : Go G l M pc ls (vI i :: vR k :: st) h uc us K := by
  intro p e s m args below meth c ad A H locs la E hA hw hx hS hl
  obtain ⟨n, ho, hi⟩ := ho
  simp only [List.map_cons, cv_ref ho.1]
  exact va_lald E.1 E.2.1 hw.2.1 hw.1 (k - 1) 1 (Wd.ar ho) (gT_at G).2.1 hi hdg (kk p e s m args below meth c ad A H locs la E hA hw hx hS hl)
theorem Go.aaload {k t : Nat} {i : Int32} (hdg : decode (mdB M) pc = .ok (.aaload, 1)) (ht : t = 3 ∨ t = 4) (ho : InA h k t i) (kk : Go G l M (pc + 1) ls (vR (hR h k (ix i)) :: st) h uc us K) : Go G l M pc ls (vI i :: vR k :: st) h uc us K := by
  intro p e s m args below meth c ad A H locs la E hA hw hx hS hl
  obtain ⟨n, ho, hi⟩ := ho
  simp only [List.map_cons, cv_ref ho.1]
  rcases ht with rfl | rfl
  · exact va_aldq E.1 E.2.1 hw.2.1 hw.1 (k - 1) 3 (Wd.ar ho) (gT_at G).2.2.2.1 hi hdg (kk p e s m args below meth c ad A H locs la E hA hw hx hS hl)
  · exact va_aldq E.1 E.2.1 hw.2.1 hw.1 (k - 1) 4 (Wd.ar ho) (gT_at G).2.2.2.2 hi hdg (kk p e s m args below meth c ad A H locs la E hA hw hx hS hl)
theorem Go.iastore {k : Nat} {i x : Int32} (hdg : decode (mdB M) pc = .ok (.iastore, 1)) (ho : InA h k 0 i) (kk : Go G l M (pc + 1) ls st (setI h k (ix i) x) uc us K) : Go G l M pc ls (vI x :: vI i :: vR k :: st) h uc us K := by
  intro p e s m args below meth c ad A H locs la E hA hw hx hS hl
  obtain ⟨n, ho, hi⟩ := ho
  simp only [List.map_cons, cv_ref ho.1]
  refine va_iast E.1 E.2.1 hw.2.1 hw.1 hw.2.2.1 hS (k - 1) 0 (Wd.ar ho) (gT_at G).1 hi hdg (fun H1 locs1 hP1 hD1 hS1 => ?_)
  refine kk p e s m args below meth c ad A H1 locs1 la E hA (hw.upd rfl ho.1 ho.2.1 (fun k' z => ent_setI z) ?_ hw.2.2.2.2.2 hP1 hD1) hx hS1 hl
  rw [ent_ar (h := setI h k (ix i) x) (t := 0) (n := n) ho.2.2]
  have : hI (setI h k (ix i) x) k = upd (hI h k) i.toNatClampNeg x := by funext z; simp [hI, setI, up2, upd, ix]
  simp [this]
theorem Go.bastore {k : Nat} {i x : Int32} (hdg : decode (mdB M) pc = .ok (.bastore, 1)) (ho : InA h k 2 i) (hx01 : x = 0 ∨ x = 1) (kk : Go G l M (pc + 1) ls st (setI h k (ix i) x) uc us K) : Go G l M pc ls (vI x :: vI i :: vR k :: st) h uc us K := by
  intro p e s m args below meth c ad A H locs la E hA hw hx hS hl
  obtain ⟨n, ho, hi⟩ := ho
  simp only [List.map_cons, cv_ref ho.1]
  refine va_zast E.1 E.2.1 hw.2.1 hw.1 hw.2.2.1 hS (k - 1) 2 (Wd.ar ho) (gT_at G).2.2.1 hi hdg (fun H1 locs1 hP1 hD1 hS1 => ?_)
  rw [vp_boo hx01] at hP1 hD1
  refine kk p e s m args below meth c ad A H1 locs1 la E hA (hw.upd rfl ho.1 ho.2.1 (fun k' z => ent_setI z) ?_ hw.2.2.2.2.2 hP1 hD1) hx hS1 hl
  rw [ent_ar (h := setI h k (ix i) x) (t := 2) (n := n) ho.2.2]
  have : hI (setI h k (ix i) x) k = upd (hI h k) i.toNatClampNeg x := by funext z; simp [hI, setI, up2, upd, ix]
  simp [this]
theorem Go.lastore {k : Nat} {i : Int32} {x : Int64} (hdg : decode (mdB M) pc = .ok (.lastore, 1)) (ho : InA h k 1 i) (kk : Go G l M (pc + 1) ls st (setL h k (ix i) x) uc us K) : Go G l M pc ls (vL x :: vI i :: vR k :: st) h uc us K := by
  intro p e s m args below meth c ad A H locs la E hA hw hx hS hl
  obtain ⟨n, ho, hi⟩ := ho
  simp only [List.map_cons, cv_ref ho.1]
  refine va_last E.1 E.2.1 hw.2.1 hw.1 hw.2.2.1 hS (k - 1) 1 (Wd.ar ho) (gT_at G).2.1 hi hdg (fun H1 locs1 hP1 hD1 hS1 => ?_)
  refine kk p e s m args below meth c ad A H1 locs1 la E hA (hw.upd rfl ho.1 ho.2.1 (fun k' z => ent_setL z) ?_ hw.2.2.2.2.2 hP1 hD1) hx hS1 hl
  rw [ent_ar (h := setL h k (ix i) x) (t := 1) (n := n) ho.2.2]
  have : hL (setL h k (ix i) x) k = vp_updL (hL h k) i.toNatClampNeg x := by funext z; simp [hL, setL, up2, vp_updL, ix]
  simp [this]
/-- the classes whose objects the rows of type 3 and 4 hold -/
theorem Go.aastore {k t ci x : Nat} {i : Int32} (hdg : decode (mdB M) pc = .ok (.aastore, 1)) (ht : (t = 3 ∧ ci = 7) ∨ (t = 4 ∧ ci = 1)) (ho : InA h k t i) (hv : Ob h x ci) (kk : Go G l M (pc + 1) ls st (setR h k (ix i) x) uc us K) : Go G l M pc ls (vR x :: vI i :: vR k :: st) h uc us K := by
  intro p e s m args below meth c ad A H locs la E hA hw hx hS hl
  obtain ⟨n, ho, hi⟩ := ho
  simp only [List.map_cons, cv_ref ho.1, cv_ref hv.1]
  have hx0 : ¬ x = 0 := by have := hv.1; omega
  have e1 : (fun j => hd ad (hR (setR h k (ix i) x) k j)) = va_up (fun j => hd ad (hR h k j)) i.toNatClampNeg (some (ad x)) := by
    funext z
    by_cases hz : z = i.toNatClampNeg
    · subst hz; simp [hR, setR, up2, ix, va_up, hd, hx0]
    · simp [hR, setR, up2, ix, va_up, hz]
  rcases ht with ⟨rfl, rfl⟩ | ⟨rfl, rfl⟩
  · refine va_astq (r := (RX7, TX7, 8)) E.1 E.2.1 hw.2.1 hw.1 hw.2.2.1 hS (k - 1) 3 (x - 1) 7 (Wd.ar ho) (gT_at G).2.2.2.1 (Wd.ob (A := A) (s := s) (H := H) hv) rfl hi hdg (fun H1 locs1 hP1 hD1 hS1 => ?_)
    refine kk p e s m args below meth c ad A H1 locs1 la E hA (hw.upd rfl ho.1 ho.2.1 (fun k' z => ent_setR z) ?_ (hw.2.2.2.2.2.setR hv.2.1) hP1 hD1) hx hS1 hl
    rw [ent_ar (h := setR h k (ix i) x) (t := 3) (n := n) ho.2.2, e1]
    rfl
  · refine va_astq (r := (RX1, TX1, 3)) E.1 E.2.1 hw.2.1 hw.1 hw.2.2.1 hS (k - 1) 4 (x - 1) 1 (Wd.ar ho) (gT_at G).2.2.2.2 (Wd.ob (A := A) (s := s) (H := H) hv) rfl hi hdg (fun H1 locs1 hP1 hD1 hS1 => ?_)
    refine kk p e s m args below meth c ad A H1 locs1 la E hA (hw.upd rfl ho.1 ho.2.1 (fun k' z => ent_setR z) ?_ (hw.2.2.2.2.2.setR hv.2.1) hP1 hD1) hx hS1 hl
    rw [ent_ar (h := setR h k (ix i) x) (t := 4) (n := n) ho.2.2, e1]
    rfl
theorem Go.alen {k t n : Nat} (hdg : decode (mdB M) pc = .ok (.arraylength, 1)) (ht : t < 5) (ho : Ar h k t n) (kk : Go G l M (pc + 1) ls (vI (nI n) :: st) h uc us K) : Go G l M pc ls (vR k :: st) h uc us K := by
  intro p e s m args below meth c ad A H locs la E hA hw hx hS hl
  simp only [List.map_cons, cv_ref ho.1]
  have ht' : (gT G)[t]? = some (gA G t, ((gT G)[t]?.map (fun q => q.2)).getD .int) := by
    match t, ht with
    | 0, _ => rfl
    | 1, _ => rfl
    | 2, _ => rfl
    | 3, _ => rfl
    | 4, _ => rfl
  exact va_alen E.1 E.2.1 hw.2.1 hw.1 (k - 1) t (Wd.ar ho) ht' rfl hdg (kk p e s m args below meth c ad A H locs la E hA hw hx hS hl)
/-! answers -/
theorem Go.fin {r : Option AV} {s t : State} {ad : Nat → Nat} {A : Nat → Prop} {H : Heap} {locs : List Loc} {args : Array Value} {d : Nat} (hw : Wd G ad h A s H) (hS : va_S A s.heap H locs) (hk : K r h) (ht : t.heap = H) (hW : s.WarmedH t.vm) : Qs G d ad h A K args s (.returned (r.map (cv ad))) t := by
  refine ⟨⟨r, h, ad, rfl, hk, Nat.le_refl _, by omega, adE.rf, ?_⟩, hS.F ht⟩
  rw [ht]
  exact ⟨hw.1, va_K.moved hW.alike hw.2.1, hw.2.2⟩
theorem Go.ireturn {x : Int32} (hdg : decode (mdB M) pc = .ok (.ireturn, 1)) (hr : mdT M = some .int) (hc : uc ≤ (mdR M).cells) (hs : us ≤ (mdR M).slots) (hk : K (some (vI x)) h) : Go G l M pc ls [vI x] h uc us K := by
  intro p e s m args below meth c ad A H locs la E hA hw hx hS hl
  refine W.widen hc hs ?_
  exact W.iret E.1 E.2.1 (E.2.2.1.trans hr) (fun t ht hW => Go.fin (r := some (vI x)) hw hS hk ht hW) hS.2.2 hdg E.2.2.2.2.2.2.1
theorem Go.zreturn {x : Int32} (hdg : decode (mdB M) pc = .ok (.ireturn, 1)) (hr : mdT M = some .boolean) (hx01 : x = 0 ∨ x = 1) (hc : uc ≤ (mdR M).cells) (hs : us ≤ (mdR M).slots) (hk : K (some (vI x)) h) : Go G l M pc ls [vI x] h uc us K := by
  intro p e s m args below meth c ad A H locs la E hA hw hx hS hl
  refine W.widen hc hs ?_
  exact W.zret E.1 E.2.1 (E.2.2.1.trans hr) (by rcases hx01 with rfl | rfl <;> rfl) (fun t ht hW => Go.fin (r := some (vI x)) hw hS hk ht hW) hS.2.2 hdg E.2.2.2.2.2.2.1
theorem Go.lreturn {x : Int64} (hdg : decode (mdB M) pc = .ok (.lreturn, 1)) (hr : mdT M = some .long) (hc : uc ≤ (mdR M).cells) (hs : us ≤ (mdR M).slots) (hk : K (some (vL x)) h) : Go G l M pc ls [vL x] h uc us K := by
  intro p e s m args below meth c ad A H locs la E hA hw hx hS hl
  refine W.widen hc hs ?_
  exact W.lret E.1 E.2.1 (E.2.2.1.trans hr) (fun t ht hW => Go.fin (r := some (vL x)) hw hS hk ht hW) hS.2.2 hdg E.2.2.2.2.2.2.1
theorem Go.areturn {x : Nat} (hdg : decode (mdB M) pc = .ok (.areturn, 1)) {C : String} (hr : mdT M = some (.object C)) (hc : uc ≤ (mdR M).cells) (hs : us ≤ (mdR M).slots) (hk : K (some (vR x)) h) : Go G l M pc ls [vR x] h uc us K := by
  intro p e s m args below meth c ad A H locs la E hA hw hx hS hl
  refine W.widen hc hs ?_
  exact W.aret E.1 E.2.1 (E.2.2.1.trans hr) (Or.inl ⟨_, rfl⟩) (by
    by_cases e0 : x = 0
    · subst e0; exact Or.inl rfl
    · exact Or.inr ⟨ad x, cv_ref (by omega)⟩) (fun t ht hW => Go.fin (r := some (vR x)) hw hS hk ht hW) hS.2.2 hdg E.2.2.2.2.2.2.1
theorem Go.vreturn (hdg : decode (mdB M) pc = .ok (.return_, 1)) (hr : mdT M = none) (hc : uc ≤ (mdR M).cells) (hs : us ≤ (mdR M).slots) (hk : K none h) : Go G l M pc ls [] h uc us K := by
  intro p e s m args below meth c ad A H locs la E hA hw hx hS hl
  refine W.widen hc hs ?_
  exact W.vret E.1 E.2.1 (E.2.2.1.trans hr) (fun t ht hW => Go.fin (r := none) hw hS hk ht hW) hS.2.2 hdg E.2.2.2.2.2.2.1
end ArrRows
