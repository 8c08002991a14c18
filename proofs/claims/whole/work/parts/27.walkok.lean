/-! ===== the walk's formula is right ===== -/
theorem pI.of {st : List AV} {f : Int32 → List AV → Prop} (h : pI st f) : ∃ x r, st = vI x :: r ∧ f x r := by
  unfold pI at h; split at h
  · exact ⟨_, _, rfl, h⟩
  · exact h.elim
theorem pL.of {st : List AV} {f : Int64 → List AV → Prop} (h : pL st f) : ∃ x r, st = vL x :: r ∧ f x r := by
  unfold pL at h; split at h
  · exact ⟨_, _, rfl, h⟩
  · exact h.elim
theorem pR.of {st : List AV} {f : Nat → List AV → Prop} (h : pR st f) : ∃ x r, st = vR x :: r ∧ f x r := by
  unfold pR at h; split at h
  · exact ⟨_, _, rfl, h⟩
  · exact h.elim
theorem pII.of {st : List AV} {f : Int32 → Int32 → List AV → Prop} (h : pII st f) : ∃ x y r, st = vI y :: vI x :: r ∧ f x y r := by
  unfold pII at h; split at h
  · exact ⟨_, _, _, rfl, h⟩
  · exact h.elim
theorem pLL.of {st : List AV} {f : Int64 → Int64 → List AV → Prop} (h : pLL st f) : ∃ x y r, st = vL y :: vL x :: r ∧ f x y r := by
  unfold pLL at h; split at h
  · exact ⟨_, _, _, rfl, h⟩
  · exact h.elim
theorem pA.of {st : List AV} {f : AV → List AV → Prop} (h : pA st f) : ∃ x r, st = x :: r ∧ isL x = false ∧ f x r := by
  unfold pA at h; split at h
  · split at h
    · rename_i e; exact ⟨_, _, rfl, e, h⟩
    · exact h.elim
  · exact h.elim
theorem lI.of {o : Option AV} {f : Int32 → Prop} (h : lI o f) : ∃ x, o = some (vI x) ∧ f x := by
  unfold lI at h; split at h
  · exact ⟨_, rfl, h⟩
  · exact h.elim
theorem lL.of {o : Option AV} {f : Int64 → Prop} (h : lL o f) : ∃ x, o = some (vL x) ∧ f x := by
  unfold lL at h; split at h
  · exact ⟨_, rfl, h⟩
  · exact h.elim
theorem lR.of {o : Option AV} {f : Nat → Prop} (h : lR o f) : ∃ x, o = some (vR x) ∧ f x := by
  unfold lR at h; split at h
  · exact ⟨_, rfl, h⟩
  · exact h.elim
theorem dec_of {m pc len : Nat} {ins : Instr} {b : Bool} (h : ((match decode (mdB (mt m)) pc with
    | .ok (i, n) => decide (i = ins) && Nat.beq n len
    | _ => false) && b) = true) : decode (mdB (mt m)) pc = .ok (ins, len) ∧ b = true := by
  rw [Bool.and_eq_true] at h
  refine ⟨?_, h.2⟩
  have h1 := h.1
  split at h1
  · rename_i i n e
    rw [Bool.and_eq_true, decide_eq_true_eq] at h1
    rw [e, h1.1, Nat.eq_of_beq_eq_true h1.2]
  · cases h1
theorem mcl_of {m : Nat} (h : m < 292) : (mdN (mt m)).cls = cnm (mcn m) := of_decide_eq_true (List.all_eq_true.mp mclok m (List.mem_range.mpr h))
theorem fl_of {pl : Nat} {q : Nat × Nat × Nat × Nat × Nat × Nat × Nat} (h : flt[pl]? = some q) : flOK q = true := List.all_eq_true.mp flok q (List.mem_of_getElem? h)
theorem ml_of {pl : Nat} {q : Nat × Nat × Nat × Nat × Nat} (h : mlt[pl]? = some q) : mlOK q = true := List.all_eq_true.mp mlok q (List.mem_of_getElem? h)
theorem fl_link {pl o i a b t : Nat} (h : (flt[pl]?).map (fun q => (q.1, q.2.1, q.2.2.1, q.2.2.2.1, q.2.2.2.2.1)) = some (o, i, a, b, t)) : ∃ q : vw_C, vwCl[a]? = some q ∧ b < q.2.2 ∧ kd a b = t ∧ Cond.fieldLink (cnm o) i (q.2.1 b).1 (q.2.1 b).2.1 (q.2.1 b).2.2.1 ∈ lw_ok ∧ (t = 2 → rfT (q.2.1 b).2.2.1 = true) := by
  cases e : flt[pl]? with
  | none => rw [e] at h; simp at h
  | some q =>
    rw [e] at h
    obtain ⟨q1, q2, q3, q4, q5, q6, q7⟩ := q
    simp only [Option.map_some, Option.some.injEq, Prod.mk.injEq] at h
    obtain ⟨rfl, rfl, rfl, rfl, rfl⟩ := h
    have h1 := fl_of e
    unfold flOK at h1
    dsimp only at h1
    cases e2 : vwCl[q3]? with
    | none => rw [e2] at h1; simp at h1
    | some r =>
      rw [e2] at h1
      simp only [Bool.and_eq_true, decide_eq_true_eq] at h1
      obtain ⟨g1, g2, g3, g4, g5⟩ := h1
      refine ⟨r, rfl, g1, ?_, wIs.mem g3, fun z => ?_⟩
      · rw [kd_of e2]; exact g2
      · subst z
        simpa using g5
theorem fl_fin {pl o i a b t : Nat} (h : (flt[pl]?).map (fun q => (q.1, q.2.1, q.2.2.1, q.2.2.2.1, q.2.2.2.2.1, q.2.2.2.2.2.2)) = some (o, i, a, b, t, 0)) : (flt[pl]?).map (fun q => (q.1, q.2.1, q.2.2.1, q.2.2.2.1, q.2.2.2.2.1)) = some (o, i, a, b, t) ∧ ∀ q : vw_C, vwCl[a]? = some q → (q.2.1 b).2.2.2 = false := by
  cases e : flt[pl]? with
  | none => rw [e] at h; simp at h
  | some q =>
    rw [e] at h
    obtain ⟨q1, q2, q3, q4, q5, q6, q7⟩ := q
    simp only [Option.map_some, Option.some.injEq, Prod.mk.injEq] at h
    obtain ⟨rfl, rfl, rfl, rfl, rfl, rfl⟩ := h
    refine ⟨rfl, fun r hr => ?_⟩
    have h1 := fl_of e
    unfold flOK at h1
    dsimp only at h1
    rw [hr] at h1
    simp only [Bool.and_eq_true, decide_eq_true_eq] at h1
    exact h1.2.2.2.1
theorem ml_link {pl o i a n : Nat} (h : (mlt[pl]?).map (fun q => (q.1, q.2.1, q.2.2.1, q.2.2.2.1)) = some (o, i, a, n)) : (n = 0 → Cond.methodLink (cnm o) i (mdN (mt a)) ∈ lw_ok) ∧ (¬ n = 0 → Cond.methodLinkNest (cnm o) i (mdN (mt a)) "SettledDots" ∈ lw_tbl) := by
  cases e : mlt[pl]? with
  | none => rw [e] at h; simp at h
  | some q =>
    rw [e] at h
    obtain ⟨q1, q2, q3, q4, q5⟩ := q
    simp only [Option.map_some, Option.some.injEq, Prod.mk.injEq] at h
    obtain ⟨rfl, rfl, rfl, rfl⟩ := h
    have h1 := ml_of e
    unfold mlOK at h1
    dsimp only at h1
    refine ⟨fun z => ?_, fun z => ?_⟩
    · rw [if_pos z] at h1; exact wIs.mem h1
    · rw [if_neg z] at h1; exact wIn.mem h1
theorem cl_link {pl o i : Nat} {v : Int32} (h : (clt[pl]?).map (fun q => (q.1, q.2.1, q.2.2.1)) = some (o, i, v)) : Cond.constant (cnm o) i v ∈ lw_ok := by
  cases e : clt[pl]? with
  | none => rw [e] at h; simp at h
  | some q =>
    rw [e] at h
    obtain ⟨q1, q2, q3, q4⟩ := q
    simp only [Option.map_some, Option.some.injEq, Prod.mk.injEq] at h
    obtain ⟨rfl, rfl, rfl⟩ := h
    exact wIs.mem (List.all_eq_true.mp clok _ (List.mem_of_getElem? e))
theorem dl_link {pl o i a : Nat} (h : (dlt[pl]?).map (fun q => (q.1, q.2.1, q.2.2.1)) = some (o, i, a)) : Cond.constantLong (cnm o) i (Int64.ofNat a) ∈ lw_ok := by
  cases e : dlt[pl]? with
  | none => rw [e] at h; simp at h
  | some q =>
    rw [e] at h
    obtain ⟨q1, q2, q3, q4⟩ := q
    simp only [Option.map_some, Option.some.injEq, Prod.mk.injEq] at h
    obtain ⟨rfl, rfl, rfl⟩ := h
    exact wIs.mem (List.all_eq_true.mp dlok _ (List.mem_of_getElem? e))
theorem ac_link {pl o i : Nat} (h : (act[pl]?).map (fun q => (q.1, q.2.1)) = some (o, i)) : Cond.methodLink (cnm o) i arraycopyName ∈ lw_ok := by
  cases e : act[pl]? with
  | none => rw [e] at h; simp at h
  | some q =>
    rw [e] at h
    obtain ⟨q1, q2, q3⟩ := q
    simp only [Option.map_some, Option.some.injEq, Prod.mk.injEq] at h
    obtain ⟨rfl, rfl⟩ := h
    exact wIs.mem (List.all_eq_true.mp acok _ (List.mem_of_getElem? e))
theorem mt_ok {a : Nat} (h : a < 292) (hk : (mtK a).1 < 9) : mOK (mt a) (mtK a) = true := by
  have key : ∀ (n o : Nat), ((List.range n).map (· + o)).all (fun a => mtK a == (9, 0, 0, 0, 0, 0) || mOK (mt a) (mtK a)) = true → o ≤ a → a < o + n → mOK (mt a) (mtK a) = true := by
    intro n o hall h1 h2
    have := List.all_eq_true.mp hall a (List.mem_map.mpr ⟨a - o, List.mem_range.mpr (by omega), by omega⟩)
    rw [Bool.or_eq_true] at this
    rcases this with z | z
    · rw [eq_of_beq z] at hk; simp at hk
    · exact z
  by_cases q0 : a < 8
  · exact key 8 0 mtok_0 (by omega) (by omega)
  by_cases q8 : a < 16
  · exact key 8 8 mtok_8 (by omega) (by omega)
  by_cases q16 : a < 24
  · exact key 8 16 mtok_16 (by omega) (by omega)
  by_cases q24 : a < 32
  · exact key 8 24 mtok_24 (by omega) (by omega)
  by_cases q32 : a < 40
  · exact key 8 32 mtok_32 (by omega) (by omega)
  by_cases q40 : a < 48
  · exact key 8 40 mtok_40 (by omega) (by omega)
  by_cases q48 : a < 56
  · exact key 8 48 mtok_48 (by omega) (by omega)
  by_cases q56 : a < 64
  · exact key 8 56 mtok_56 (by omega) (by omega)
  by_cases q64 : a < 72
  · exact key 8 64 mtok_64 (by omega) (by omega)
  by_cases q72 : a < 80
  · exact key 8 72 mtok_72 (by omega) (by omega)
  by_cases q80 : a < 88
  · exact key 8 80 mtok_80 (by omega) (by omega)
  by_cases q88 : a < 96
  · exact key 8 88 mtok_88 (by omega) (by omega)
  by_cases q96 : a < 104
  · exact key 8 96 mtok_96 (by omega) (by omega)
  by_cases q104 : a < 112
  · exact key 8 104 mtok_104 (by omega) (by omega)
  by_cases q112 : a < 120
  · exact key 8 112 mtok_112 (by omega) (by omega)
  by_cases q120 : a < 128
  · exact key 8 120 mtok_120 (by omega) (by omega)
  by_cases q128 : a < 136
  · exact key 8 128 mtok_128 (by omega) (by omega)
  by_cases q136 : a < 144
  · exact key 8 136 mtok_136 (by omega) (by omega)
  by_cases q144 : a < 152
  · exact key 8 144 mtok_144 (by omega) (by omega)
  by_cases q152 : a < 160
  · exact key 8 152 mtok_152 (by omega) (by omega)
  by_cases q160 : a < 168
  · exact key 8 160 mtok_160 (by omega) (by omega)
  by_cases q168 : a < 176
  · exact key 8 168 mtok_168 (by omega) (by omega)
  by_cases q176 : a < 184
  · exact key 8 176 mtok_176 (by omega) (by omega)
  by_cases q184 : a < 192
  · exact key 8 184 mtok_184 (by omega) (by omega)
  by_cases q192 : a < 200
  · exact key 8 192 mtok_192 (by omega) (by omega)
  by_cases q200 : a < 208
  · exact key 8 200 mtok_200 (by omega) (by omega)
  by_cases q208 : a < 216
  · exact key 8 208 mtok_208 (by omega) (by omega)
  by_cases q216 : a < 224
  · exact key 8 216 mtok_216 (by omega) (by omega)
  by_cases q224 : a < 232
  · exact key 8 224 mtok_224 (by omega) (by omega)
  by_cases q232 : a < 240
  · exact key 8 232 mtok_232 (by omega) (by omega)
  by_cases q240 : a < 248
  · exact key 8 240 mtok_240 (by omega) (by omega)
  by_cases q248 : a < 256
  · exact key 8 248 mtok_248 (by omega) (by omega)
  by_cases q256 : a < 264
  · exact key 8 256 mtok_256 (by omega) (by omega)
  by_cases q264 : a < 272
  · exact key 8 264 mtok_264 (by omega) (by omega)
  by_cases q272 : a < 280
  · exact key 8 272 mtok_272 (by omega) (by omega)
  by_cases q280 : a < 288
  · exact key 8 280 mtok_280 (by omega) (by omega)
  exact key 4 288 mtok_288 (by omega) (by omega)
theorem mt_MOK {a : Nat} (h : a < 292) (hk : (mtK a).1 < 9) : MOK (mt a) (mtK a).2.1 ∧ plainFor (mdN (mt a)) = true := by
  have h1 := mt_ok h hk
  unfold mOK at h1
  simp only [Bool.and_eq_true, decide_eq_true_eq] at h1
  obtain ⟨g1, g2, g3, g4, g5, g6, -⟩ := h1
  exact ⟨⟨wIs.mem g1, wIs.mem g2, g3, g4, g5⟩, g6⟩
theorem mt_V {a : Nat} (h : a < 292) (hk : (mtK a).1 = 0) : MOKv (mt a) := by
  have h1 := mt_ok h (by omega)
  unfold mOK at h1
  simp only [Bool.and_eq_true, decide_eq_true_eq, hk, if_true] at h1
  obtain ⟨-, -, -, -, -, -, g7, g8⟩ := h1
  exact ⟨wIs.mem g7, wIs.mem g8⟩
theorem mt_S {a : Nat} (h : a < 292) (hk : (mtK a).1 = 1) : Cond.static (mdN (mt a)) ∈ lw_ok := by
  have h1 := mt_ok h (by omega)
  unfold mOK at h1
  simp only [Bool.and_eq_true, decide_eq_true_eq, hk] at h1
  obtain ⟨-, -, -, -, -, -, g7⟩ := h1
  exact wIs.mem (by simpa using g7)
theorem rmB_of {N M : MD} (h : rmB N M = true) {st : List AV} (h8 : szS st ≤ 8) : rmOK N M 0 0 st ∧ (mdR N).cells = 0 ∧ (mdR N).slots = 0 := by
  unfold rmB at h
  simp only [Bool.and_eq_true] at h
  obtain ⟨g1, g2, g3, g4⟩ := h
  have g3 := Nat.eq_of_beq_eq_true g3
  have g4 := Nat.eq_of_beq_eq_true g4
  exact ⟨⟨⟨Nat.le_of_ble_eq_true g1, Nat.le_of_ble_eq_true g2⟩, by omega, by omega, by rw [szS_eq]; exact h8⟩, g3, g4⟩
theorem Go.zero {G : GP} {l : Launch} {M : MD} {pc : Nat} {ls : List (Option AV)} {st : List AV} {h : AH} {K : Option AV → AH → Prop} {a b : Nat} (ha : a = 0) (hb : b = 0) (q : Go G l M pc ls st h 0 0 K) : Go G l M pc ls st h (0 + a) (0 + b) K := by subst ha; subst hb; exact q
theorem Go.sF {G : GP} {l : Launch} {M : MD} {pc i : Nat} {a : AV} {ls : List (Option AV)} {st : List AV} {h : AH} {K : Option AV → AH → Prop} (q : Go G l M pc (sF ls i a) st h 0 0 K) : Go G l M pc (sto ls i a) st h 0 0 K := q.forget (fun j b z => sF_get ls i j a b z)
theorem fvt_fav {h : AH} {k ci j t : Nat} (hk : kd ci j = t) : fvt t h k j = fav h k ci j := by
  unfold fav fvt
  rw [hk]
  split <;> simp_all
theorem ts_sel {pc : Nat} {x : Int32} : ∀ (i : Nat) (offs : List Int) (tb : List (Int32 × Nat)) (d : Nat), tsOK pc i offs tb = true → i + tb.length < 2000 → ((x.toInt < i ∨ (i : Int) + tb.length ≤ x.toInt) ∧ selT x tb d = d) ∨ (∃ j off, j < tb.length ∧ x.toInt = (i : Int) + j ∧ offs[j]? = some off ∧ (pc : Int) + off = (selT x tb d : Int))
  | i, [], [], d, _, _ => by
    left
    refine ⟨?_, rfl⟩
    simp only [List.length_nil]
    omega
  | i, [], _ :: _, d, h, _ => by simp [tsOK] at h
  | i, _ :: _, [], d, h, _ => by simp [tsOK] at h
  | i, off :: offs, (v, t) :: tb, d, h, hb => by
    simp only [tsOK, Bool.and_eq_true, decide_eq_true_eq] at h
    obtain ⟨h1, h2, h3⟩ := h
    have hb' : i + 1 + tb.length < 2000 := by simp only [List.length_cons] at hb; omega
    have hi : (nI i).toInt = (i : Int) := nI_toInt (by omega)
    simp only [selT, List.length_cons]
    subst h1
    by_cases hx : x = nI i
    · right
      rw [if_pos hx]
      exact ⟨0, off, by omega, by rw [hx, hi]; omega, rfl, h2⟩
    · rw [if_neg hx]
      have hne : x.toInt ≠ i := fun z => hx (Int32.toInt_inj.mp (z.trans hi.symm))
      rcases ts_sel (x := x) (i + 1) offs tb d h3 hb' with ⟨g1, g2⟩ | ⟨j, off', g1, g2, g3, g4⟩
      · left
        refine ⟨?_, g2⟩
        rcases g1 with g | g
        · left; omega
        · right; omega
      · right
        exact ⟨j + 1, off', by omega, by rw [g2]; omega, by simpa using g3, g4⟩
theorem ls_sel {pc : Nat} {x : Int32} {dd : Int} : ∀ (ps : List (Int × Int)) (tb : List (Int32 × Nat)) (d : Nat), lsOK pc ps tb = true → (pc : Int) + dd = (d : Int) → (pc : Int) + Op.lookupswitch.offset ps dd x.toInt = (selT x tb d : Int)
  | [], [], d, _, hd => by simpa [selT, Op.lookupswitch.offset] using hd
  | [], _ :: _, d, h, _ => by simp [lsOK] at h
  | _ :: _, [], d, h, _ => by simp [lsOK] at h
  | (p1, p2) :: ps, (v, t) :: tb, d, h, hd => by
    simp only [lsOK, Bool.and_eq_true, decide_eq_true_eq] at h
    obtain ⟨h1, h2, h3⟩ := h
    simp only [selT]
    by_cases hx : x = v
    · rw [if_pos hx, Op.lookupswitch.offset_cons, if_pos (by rw [hx, h1])]
      exact h2
    · rw [if_neg hx, lv_osw hx h1]
      exact ls_sel ps tb d h3 hd
section StpOk
variable {G : GP} {l : Launch} {m : Nat} {ls : List (Option AV)} {st : List AV} {h : AH} {k : Nat → List (Option AV) → List AV → AH → Prop} {K : Option AV → AH → Prop}
theorem Go.tswitch {M : MD} {pc a len : Nat} {d : Int} {lo hi : Int} {offs : Array Int} {tb : List (Int32 × Nat)} {x : Int32} (hdg : decode (mdB M) pc = .ok (.tableswitch d lo hi offs, len)) (hlo : lo = 0) (hhi : hi + 1 = (tb.length : Int)) (hlen : tb.length < 1000) (hd : (pc : Int) + d = (a : Int)) (ht : tsOK pc 0 offs.toList tb = true) (kk : Go G l M (selT x tb a) ls st h 0 0 K) : Go G l M pc ls (vI x :: st) h 0 0 K := by
  intro p e s mm args below meth c ad A H locs la E hA hw hx hS hl
  have k1 := kk p e s mm args below meth c ad A H locs la E hA hw hx hS hl
  subst hlo
  rcases ts_sel (x := x) 0 offs.toList tb a ht (by omega) with ⟨g1, g2⟩ | ⟨j, off, g1, g2, g3, g4⟩
  · rw [g2] at k1
    exact lv_tableOut E.1 E.2.1 hdg (by rcases g1 with g | g <;> omega) hd k1
  · refine lv_tableIn E.1 E.2.1 hdg (by omega) (by omega) (off := off) ?_ g4 k1
    have : (x.toInt - 0).toNat = j := by omega
    rw [this]
    simpa using g3
theorem Go.lswitch {M : MD} {pc a len : Nat} {d : Int} {ps : Array (Int × Int)} {tb : List (Int32 × Nat)} {x : Int32} (hdg : decode (mdB M) pc = .ok (.lookupswitch d ps, len)) (hs : (ps.toList.zip (ps.toList.drop 1)).all (fun (a, next) => a.1 < next.1) = true) (hd : (pc : Int) + d = (a : Int)) (ht : lsOK pc ps.toList tb = true) (kk : Go G l M (selT x tb a) ls st h 0 0 K) : Go G l M pc ls (vI x :: st) h 0 0 K := by
  intro p e s mm args below meth c ad A H locs la E hA hw hx hS hl
  exact lv_lookup E.1 E.2.1 hdg hs rfl (ls_sel ps.toList tb a ht hd) (kk p e s mm args below meth c ad A H locs la E hA hw hx hS hl)
theorem rmX_of {M : MD} (h : rmX M = true) : 1 ≤ (mdR M).frames ∧ 26 ≤ (mdR M).locals := by
  unfold rmX at h
  simp only [Bool.and_eq_true] at h
  exact ⟨Nat.le_of_ble_eq_true h.1, Nat.le_of_ble_eq_true h.2⟩
theorem rmY_of {M : MD} (h : rmY M = true) : 1 ≤ (mdR M).frames ∧ 21 ≤ (mdR M).locals := by
  unfold rmY at h
  simp only [Bool.and_eq_true] at h
  exact ⟨Nat.le_of_ble_eq_true h.1, Nat.le_of_ble_eq_true h.2⟩
end StpOk
