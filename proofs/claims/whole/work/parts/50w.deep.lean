/-! ===== a call over a deeper stack: twelve words below it ===== -/
section Deep
variable {p : Program} {l : Launch} {e : Env} {R : Room} {s : State} {m : MethodId} {args : Array Value} {below : List Frame} {meth : Method} {c : Code} {H : Heap} {locs : List Loc} {cells slots : Nat}
variable {y : MethodName} {bytes cc : ByteArray} {maxL nL mc ms n index : Nat} {ret : Option FieldType} {ws : List Cond} {rm : Room} {Pc : Array Value → State → Prop} {Qc : Array Value → State → Outcome → State → Prop} {free : Addr → Prop} {Ts : List Cond} {own C : String} {b : Addr} {As rest : List Value} {g : JFrame}
theorem run12 (S : CallFix p m c cc nL s args Ts own) (hM : Met l y ws rm Pc Qc mc ms free) (cw : CallW R s args own C index y bytes maxL ret ws rm mc ms n) (h12 : 12 + (maxL + 11) + rm.locals ≤ R.locals) (hp : PreV s H C b Pc As)
    (hg : g.method = m) (hn : As.length = n) (hsize : g.locals.size = nL) (hstack : g.stack = As.reverse ++ .ref b :: rest) (hW : 2 * g.monitorRoom + (rest.map fun v => v.category).sum ≤ 12) (hdg : decode cc g.pc = .ok (.invokevirtual index, 3)) (hf : cells + mc ≤ R.cells ∧ slots + ms ≤ R.slots) :
    va_Run p l e R s m args below meth c H locs cells slots mc ms g rest (Qc (Value.ref b :: As).toArray) (free) := by
  obtain ⟨⟨hrc, hrs, hfr, -, hws, hcw, hcode, hini, hy, hlen, hl⟩, hin, hse⟩ := cw
  have hK : Back l R p e below s args y 3 12 (PreOf R mc ms Pc) (PostOf Qc mc ms free) := back_of (bytes := bytes) (maxL := maxL) (ret := ret) hM hp.1 hrc hrs hfr h12 hws hcw (fun a' U hW => word_at hW (Or.inl (by first | rfl | simp [Cond.onTables, Cond.keeps, Cond.steady])) hini)
  intro T hT X
  obtain ⟨v, vm1, ⟨U', l2, c2, s2⟩, -, X', ⟨g', mk, t, L, e1, e2, hq, h1, hL, h2, h3⟩, st⟩ := callV X S.1 (C := C) (bytes := bytes) (maxL := maxL) (ret := ret) S.2.2.2.1 hl hin hse hcode hy hK (by rw [hT]; exact hp.2.1.choose_spec.1) hp.2.1.choose_spec.2.1 hp.2.1.choose_spec.2.2 hg (hsize.trans S.2.2.1.symm) (argsL := As) (rest := rest) (fun sig h => hn.trans (hlen sig h)) hstack hW (by rw [S.2.1]; exact hdg) (fun vm1 w => ⟨hf.1, hf.2, hp.2.2 (T.setVm vm1) hT w⟩)
  dsimp only [Pt.U, Pt.locs, Pt.cells, Pt.slots] at X' e1 e2 h1 h2 h3 st
  subst h1; subst h2; subst h3
  exact ⟨v, (T.setVm vm1).calling g' mk (Value.ref b :: As).toArray, t, U', L, hT, X', hL, e1, e2, hq, st⟩
end Deep
theorem rest12 {ad : Nat → Nat} {st : List AV} (h : szS st ≤ 12) : ((st.map (cv ad)).map fun v => v.category).sum ≤ 12 := by
  rw [← szS_eq] at h
  rw [List.map_map, show (((fun v => v.category) : Value → Nat) ∘ cv ad) = (fun a => if isL a then 2 else 1) from funext fun a => cat_cv ad a]
  exact h
theorem Go.deep {G : GP} {l : Launch} {M : MD} {pc : Nat} {ls : List (Option AV)} {st : List AV} {h : AH} {K : Option AV → AH → Prop} {N : MD} {n i b ci : Nat} {q : vw_C} {as : List AV} (hdg : decode (mdB M) pc = .ok (.invokevirtual i, 3)) (hm : MOK N n) (hv : MOKv N) (hlk : Cond.methodLink (mdN M).cls i (mdN N) ∈ lw_ok) (hn : as.length = n) (hq : vwCl[ci]? = some q) (hcl : q.1 = (mdN N).cls) (ho : Ob h b ci) (hr : rmB N M = true) (h12 : Nat.ble (12 + (mdL N + 11) + (mdR N).locals) (mdR M).locals = true) (hst : szS st ≤ 12)
    (hs : Spec G l N (vR b :: as) h (fun r h' => Go G l M (pc + 3) ls (r.toList ++ st) h' 0 0 K)) : Go G l M pc ls (as.reverse ++ vR b :: st) h 0 0 K := by
  obtain ⟨hr1, g2, g3⟩ := rmB_of hr (st := []) (by show 0 ≤ 8; decide)
  intro p e s m args below meth c ad A H locs la E hA hw hx hS hl
  have hts := E.2.2.2.2.2.1
  have hcv : (vR b :: as).map (cv ad) = Value.ref (ad b) :: as.map (cv ad) := by rw [List.map_cons, cv_ref ho.1]
  have hs : Spec G l N (vR b :: as) h (fun r h' => Go G l M (pc + 3) ls (r.toList ++ st) h' (0 + (mdR N).cells) (0 + (mdR N).slots) K) := hs.mono (fun r' h' z => Go.zero g2 g3 z)
  have hM := hs ad H.size
  rw [hcv] at hM
  have hR := va_recv hw.2.1 hw.1 hq (Wd.ob (A := A) (s := s) (H := H) ho)
  rw [hcl] at hR
  have hroom : 2 * (F0 m pc la (((as.reverse ++ vR b :: st)).map (cv ad))).monitorRoom + ((st.map (cv ad)).map fun v => v.category).sum ≤ 12 := by
    show 2 * 0 + _ ≤ 12
    have := rest12 (ad := ad) hst
    omega
  have run := run12 (p := p) (e := e) (below := below) (meth := meth) (locs := locs) (cells := 0) (slots := 0) (As := as.map (cv ad)) (rest := st.map (cv ad)) (g := F0 m pc la (((as.reverse ++ vR b :: st)).map (cv ad))) (C := (mdN N).cls) (b := ad b) (H := H) (R := mdR M) ⟨E.1, E.2.1, E.2.2.2.1, E.2.2.2.2.1, hts⟩ hM ⟨hm.callB hts (hts _ hlk) hr1.1, hts _ hv.1, hts _ hv.2⟩ (Nat.le_of_ble_eq_true h12) ⟨Pc_blind, hR, fun U hU hW => ⟨rfl, hw.pre hx hA hS hU hW⟩⟩ rfl (by simp [hn]) hl.1 (by simp [cv_ref ho.1]) hroom hdg ⟨hr1.2.1, hr1.2.2.1⟩
  exact Go.behind run E hA hw hx hS hl (Or.inl g2) hr1.2.1
theorem Go.deepR {G : GP} {l : Launch} {m A pc i pl b : Nat} {tb : List (Int32 × Nat)} {ls : List (Option AV)} {st : List AV} {h : AH} {K : Option AV → AH → Prop} {a : Int32} (hm : m < 292) (hrow : rowOK m (pc, 3, .invokevirtual i, A, 1, 10, pl, 0, tb) = true) (hq : (vwCl[10]?).map (fun q => q.1) = some (mdN (mt A)).cls) (h12 : Nat.ble (12 + (mdL (mt A) + 11) + (mdR (mt A)).locals) (mdR (mt m)).locals = true) (ho : Ob h b 10) (hst : szS st ≤ 12) (hs : Spec G l (mt A) [vR b, vI a] h (fun r h' => Go G l (mt m) (pc + 3) ls (r.toList ++ st) h' 0 0 K)) : Go G l (mt m) pc ls (vI a :: vR b :: st) h 0 0 K := by
  have hc := mcl_of hm
  unfold rowOK at hrow
  obtain ⟨hd, hrow⟩ := dec_of hrow
  simp only [Bool.and_eq_true, decide_eq_true_eq] at hrow
  obtain ⟨-, h1, h2, h3, h4, h5, h6⟩ := hrow
  have ha : A < 292 := Nat.le_of_ble_eq_true h2
  have hk0 := Nat.eq_of_beq_eq_true h3
  have hn := Nat.eq_of_beq_eq_true h4
  cases e : vwCl[10]? with
  | none => rw [e] at hq; cases hq
  | some q =>
    rw [e] at hq
    exact Go.deep (as := [vI a]) hd (mt_MOK ha (by omega)).1 (mt_V ha hk0) (by rw [hc]; exact (ml_link h1).1 rfl) hn.symm e (Option.some.inj hq) ho h6 h12 hst hs
/-- the one place: closest, at 93 -/
theorem go93 {G : GP} {l : Launch} {ls : List (Option AV)} {st : List AV} {h : AH} {K : Option AV → AH → Prop} {a : Int32} (ho : Ob h 136 10) (hst : szS st ≤ 12) (hs : Spec G l (mt mM_under) [vR 136, vI a] h (fun r h' => Go G l (mt mM_closest) 96 ls (r.toList ++ st) h' 0 0 K)) : Go G l (mt mM_closest) 93 ls (vI a :: vR 136 :: st) h 0 0 K :=
  Go.deepR (i := 204) (pl := 184) (tb := [(0, 2)]) (by decide) (by decide +kernel) (by decide +kernel) (by decide +kernel) ho hst hs
