/-! ===== String constants: length and charAt, over plain values ===== -/
def SpecV (G : GP) (l : Launch) (M : MD) (vs : List Value) (h : AH) (K : Option AV → AH → Prop) : Prop := ∀ (ad : Nat → Nat) (sz : Nat),
  Met l (mdN M) (wsM M) (mdR M) (va_Pc vs (fun U => U.heap.size = sz ∧ Wd G ad h (va_A (wl G ad h) sz) U U.heap ∧ XT G (va_A (wl G ad h) sz) U U.heap)) (Qs G (mdR M).cells ad h (va_A (wl G ad h) sz) K) (mdR M).cells (mdR M).slots (va_A (wl G ad h) sz)
def GoW (G : GP) (l : Launch) (M : MD) (pc : Nat) (la : Array Slot) (st : List Value) (h : AH) (K : Option AV → AH → Prop) : Prop :=
  ∀ (p : Program) (e : Env) (s : State) (m : MethodId) (args : Array Value) (below : List Frame) (meth : Method) (c : Code) (ad : Nat → Nat) (A : Nat → Prop) (H : Heap) (locs : List Loc),
    EV M p s m args meth c → (∀ q, s.heap.size ≤ q → A q) → Wd G ad h A s H → XT G A s s.heap → va_S A s.heap H locs →
    W p l e (mdR M) s m args below meth c H locs 0 0 (MQ below (Qs G ((mdR M).cells - 0) ad h A K) args s (mdR M).cells (mdR M).slots A) (F0 m pc la st)
theorem Met.pre {l : Launch} {y : MethodName} {ws : List Cond} {rm : Room} {Pc Pc' : Array Value → State → Prop} {Qc : Array Value → State → Outcome → State → Prop} {mc ms : Nat} {free : Addr → Prop} (hi : ∀ a s, Pc' a s → Pc a s) (h : Met l y ws rm Pc Qc mc ms free) : Met l y ws rm Pc' Qc mc ms free := by
  intro p e ha hc hk s m args below hf happ hP hk2
  exact h p e ha hc hk s m args below hf happ (hi _ _ hP) hk2
theorem Spec.ofV {G : GP} {l : Launch} {M : MD} {as : List AV} {vs : List Value} {h : AH} {K : Option AV → AH → Prop} (e : ∀ ad, adX G ad → as.map (cv ad) = vs) (q : SpecV G l M vs h K) : Spec G l M as h K := by
  intro ad sz
  refine Met.pre (fun a s z => ?_) (q ad sz)
  exact ⟨by rw [z.1, e ad z.2.2.1.2.2.2.2.1], z.2⟩
section JW
variable {G : GP} {l : Launch} {M : MD} {pc : Nat} {la : Array Slot} {st : List Value} {h : AH} {K : Option AV → AH → Prop}
theorem SpecV.of {n L : Nat} {vs : List Value} (hm : MOK M n) (hp : plainFor (mdN M) = true) (hL : mdL M = L) (hla : (lg_sl vs ++ List.replicate (L - (lg_sl vs).length) Slot.unset).toArray = la) (k : GoW G l M 0 la [] h K) : SpecV G l M vs h K := by
  subst hL
  subst hla
  intro ad sz
  refine Met.ofWF (cc := mdB M) (maxL := mdL M) (ret := mdT M) hp rfl ?_
  intro p e s m args below meth c s₁ B hml hv
  obtain ⟨rfl, hsz, hw, hx⟩ := hv
  have hts0 := atoms_spec (ws := wsM M) B.pre
  have hown : s.vm.findClass (mdN M).cls = some m.cls := findClass_of_methodNamed B.named
  have E : EV M p s m (vs.toArray) meth c := ⟨B.exec, B.bytes, B.returns, hml, hown, fun w hw => hts0 w (List.mem_cons_of_mem _ hw), B.notSynchronized, (name_of_methodNamed B.named B.method).1⟩
  rw [lg_entry_eq]
  subst hsz
  exact k p e s m _ below meth c ad _ s.heap [] E (fun q z => Or.inr z) hw hx va_S.rf
theorem GoW.iload {n : Fin 4} {x : Int32} (hd : decode (mdB M) pc = .ok (.iload_n n, 1)) (hi : la[(n : Nat)]? = some (.val (.int x))) (k : GoW G l M (pc + 1) la (.int x :: st) h K) : GoW G l M pc la st h K := by
  intro p e s m args below meth c ad A H locs E hA hw hx hS
  exact lv_iload_n E.1 E.2.1 hd rfl hi (k p e s m args below meth c ad A H locs E hA hw hx hS)
theorem GoW.aload {n : Fin 4} {x : Nat} (hd : decode (mdB M) pc = .ok (.aload_n n, 1)) (hi : la[(n : Nat)]? = some (.val (.ref x))) (k : GoW G l M (pc + 1) la (.ref x :: st) h K) : GoW G l M pc la st h K := by
  intro p e s m args below meth c ad A H locs E hA hw hx hS
  exact lv_aload_n E.1 E.2.1 hd rfl hi (k p e s m args below meth c ad A H locs E hA hw hx hS)
theorem GoW.iconst {n : Int} {v : Int32} (hd : decode (mdB M) pc = .ok (.iconst n, 1)) (hv : Int32.ofInt n = v) (k : GoW G l M (pc + 1) la (.int v :: st) h K) : GoW G l M pc la st h K := by
  intro p e s m args below meth c ad A H locs E hA hw hx hS
  exact lv_iconst E.1 E.2.1 hd hv (k p e s m args below meth c ad A H locs E hA hw hx hS)
theorem GoW.sipush {n : Int} {v : Int32} (hd : decode (mdB M) pc = .ok (.sipush n, 3)) (hv : (Int16.ofInt n).toInt32 = v) (k : GoW G l M (pc + 3) la (.int v :: st) h K) : GoW G l M pc la st h K := by
  intro p e s m args below meth c ad A H locs E hA hw hx hS
  exact lv_sipush E.1 E.2.1 hd hv (k p e s m args below meth c ad A H locs E hA hw hx hS)
theorem GoW.iand {x y : Int32} (hd : decode (mdB M) pc = .ok (.iand, 1)) (k : GoW G l M (pc + 1) la (.int (x &&& y) :: st) h K) : GoW G l M pc la (.int y :: .int x :: st) h K := by
  intro p e s m args below meth c ad A H locs E hA hw hx hS
  exact lv_iand E.1 E.2.1 hd (k p e s m args below meth c ad A H locs E hA hw hx hS)
theorem GoW.ishr {x y : Int32} (hd : decode (mdB M) pc = .ok (.ishr, 1)) (k : GoW G l M (pc + 1) la (.int (x >>> (y &&& 31)) :: st) h K) : GoW G l M pc la (.int y :: .int x :: st) h K := by
  intro p e s m args below meth c ad A H locs E hA hw hx hS
  exact lv_ishr E.1 E.2.1 hd (k p e s m args below meth c ad A H locs E hA hw hx hS)
theorem GoW.i2c {x v : Int32} (hd : decode (mdB M) pc = .ok (.i2c, 1)) (hv : (x.toUInt32 % 65536).toInt32 = v) (k : GoW G l M (pc + 1) la (.int v :: st) h K) : GoW G l M pc la (.int x :: st) h K := by
  intro p e s m args below meth c ad A H locs E hA hw hx hS
  exact lv_i2c E.1 E.2.1 hd hv (k p e s m args below meth c ad A H locs E hA hw hx hS)
theorem GoW.goto {off : Int} {t : Nat} (hd : decode (mdB M) pc = .ok (.goto off, 3)) (ht : (pc : Int) + off = (t : Int)) (k : GoW G l M t la st h K) : GoW G l M pc la st h K := by
  intro p e s m args below meth c ad A H locs E hA hw hx hS
  exact lv_goto E.1 E.2.1 hd ht (k p e s m args below meth c ad A H locs E hA hw hx hS)
theorem GoW.pop {v : Value} (hd : decode (mdB M) pc = .ok (.pop, 1)) (hv : v.category = 1) (k : GoW G l M (pc + 1) la st h K) : GoW G l M pc la (v :: st) h K := by
  intro p e s m args below meth c ad A H locs E hA hw hx hS
  exact lv_pop E.1 E.2.1 hd hv (k p e s m args below meth c ad A H locs E hA hw hx hS)
theorem GoW.if_eq {x : Int32} {off : Int} {t : Nat} (hd : decode (mdB M) pc = .ok (.ifCond .eq off, 3)) (ht : (pc : Int) + off = (t : Int)) (hx0 : ¬ x = 0) (k : GoW G l M (pc + 3) la st h K) : GoW G l M pc la (.int x :: st) h K := by
  intro p e s m args below meth c ad A H locs E hA hw hx hS
  exact lv_if_eq E.1 E.2.1 hd ht (fun q => absurd q hx0) (fun _ => k p e s m args below meth c ad A H locs E hA hw hx hS)
theorem GoW.if_ne {x : Int32} {off : Int} {t : Nat} (hd : decode (mdB M) pc = .ok (.ifCond .ne off, 3)) (ht : (pc : Int) + off = (t : Int)) (hx0 : x = 0) (k : GoW G l M (pc + 3) la st h K) : GoW G l M pc la (.int x :: st) h K := by
  intro p e s m args below meth c ad A H locs E hA hw hx hS
  exact lv_if_ne E.1 E.2.1 hd ht (fun q => absurd hx0 q) (fun _ => k p e s m args below meth c ad A H locs E hA hw hx hS)
theorem GoW.if_lt {x : Int32} {off : Int} {t : Nat} (hd : decode (mdB M) pc = .ok (.ifCond .lt off, 3)) (ht : (pc : Int) + off = (t : Int)) (hx0 : ¬ x < 0) (k : GoW G l M (pc + 3) la st h K) : GoW G l M pc la (.int x :: st) h K := by
  intro p e s m args below meth c ad A H locs E hA hw hx hS
  exact lv_if_lt E.1 E.2.1 hd ht (fun q => absurd q hx0) (fun _ => k p e s m args below meth c ad A H locs E hA hw hx hS)
theorem GoW.icmp_lt {x y : Int32} {off : Int} {t : Nat} (hd : decode (mdB M) pc = .ok (.if_icmp .lt off, 3)) (ht : (pc : Int) + off = (t : Int)) (hxy : x < y) (k : GoW G l M t la st h K) : GoW G l M pc la (.int y :: .int x :: st) h K := by
  intro p e s m args below meth c ad A H locs E hA hw hx hS
  exact lv_icmp_lt E.1 E.2.1 hd ht (fun _ => k p e s m args below meth c ad A H locs E hA hw hx hS) (fun q => absurd hxy q)
theorem GoW.iret {x : Int32} {ty : FieldType} (hd : decode (mdB M) pc = .ok (.ireturn, 1)) (hr : mdT M = some ty) (hn : narrow ty (.int x) = .int x) (hk : K (some (vI x)) h) : GoW G l M pc la [.int x] h K := by
  intro p e s m args below meth c ad A H locs E hA hw hx hS
  refine W.widen (Nat.zero_le (mdR M).cells) (Nat.zero_le (mdR M).slots) ?_
  exact W.zret E.1 E.2.1 (E.2.2.1.trans hr) hn (fun t ht hW => Go.fin (r := some (vI x)) hw hS hk ht hW) hS.2.2 hd E.2.2.2.2.2.2.1
theorem GoW.vret (hd : decode (mdB M) pc = .ok (.return_, 1)) (hr : mdT M = none) (hk : K none h) : GoW G l M pc la [] h K := by
  intro p e s m args below meth c ad A H locs E hA hw hx hS
  refine W.widen (Nat.zero_le (mdR M).cells) (Nat.zero_le (mdR M).slots) ?_
  exact W.vret E.1 E.2.1 (E.2.2.1.trans hr) (fun t ht hW => Go.fin (r := none) hw hS hk ht hW) hS.2.2 hd E.2.2.2.2.2.2.1
theorem jw_cs : Cond.fieldLink "java/lang/String" 38 "java/lang/String" "COMPACT_STRINGS" "Z" ∈ lw_ok := wIs.mem (i := 8175) (by decide +kernel)
theorem jw_sf : Cond.fieldLink "java/lang/String" 1053 "jdk/internal/util/Preconditions" "SIOOBE_FORMATTER" "Ljava/util/function/BiFunction;" ∈ lw_ok := wIs.mem (i := 8191) (by decide +kernel)
theorem jw_va : Cond.fieldLink "java/lang/String" 9 "java/lang/String" "value" "[B" ∈ lw_ok := wIs.mem (i := 14002) (by decide +kernel)
theorem jw_co : Cond.fieldLink "java/lang/String" 15 "java/lang/String" "coder" "B" ∈ lw_ok := wIs.mem (i := 14003) (by decide +kernel)
theorem GoW.compact (hcl : (mdN M).cls = "java/lang/String") (hd : decode (mdB M) pc = .ok (.getstatic 38, 3)) (k : GoW G l M (pc + 3) la (.int 1 :: st) h K) : GoW G l M pc la st h K := by
  intro p e s m args below meth c ad A H locs E hA hw hx hS
  have hown := E.2.2.2.2.1
  rw [hcl] at hown
  exact va_gets E.1 E.2.1 hx.2.2.2.2.1 hS hown (E.2.2.2.2.2.1 _ jw_cs) (fun _ z => z) hd (k p e s m args below meth c ad A H locs E hA hw hx hS)
theorem GoW.fmt (hcl : (mdN M).cls = "java/lang/String") (hd : decode (mdB M) pc = .ok (.getstatic 1053, 3)) (k : ∀ v : Value, (v = .null ∨ ∃ t, v = .ref t) → GoW G l M (pc + 3) la (v :: st) h K) : GoW G l M pc la st h K := by
  intro p e s m args below meth c ad A H locs E hA hw hx hS
  have hown := E.2.2.2.2.1
  rw [hcl] at hown
  rcases hx.2.2.2.2.2.1 with z | ⟨t, z⟩
  · exact va_gets E.1 E.2.1 z hS hown (E.2.2.2.2.2.1 _ jw_sf) (fun _ z => z) hd (k _ (Or.inl rfl) p e s m args below meth c ad A H locs E hA hw hx hS)
  · exact va_gets E.1 E.2.1 z hS hown (E.2.2.2.2.2.1 _ jw_sf) (fun _ z => z) hd (k _ (Or.inr ⟨t, rfl⟩) p e s m args below meth c ad A H locs E hA hw hx hS)
theorem GoW.coder {i : Nat} (hi : i < 3) (hcl : (mdN M).cls = "java/lang/String") (hd : decode (mdB M) pc = .ok (.getfield 15, 3)) (k : GoW G l M (pc + 3) la (.int 0 :: st) h K) : GoW G l M pc la (.ref (G.2.2.2.1 i) :: st) h K := by
  intro p e s m args below meth c ad A H locs E hA hw hx hS
  have hown := E.2.2.2.2.1
  rw [hcl] at hown
  exact vk_getf E.1 E.2.1 (hx.1.1 i hi).2.1 hS hown (E.2.2.2.2.2.1 _ jw_co) (fun _ z => z) hd (k p e s m args below meth c ad A H locs E hA hw hx hS)
theorem GoW.value {i : Nat} (hi : i < 3) (hcl : (mdN M).cls = "java/lang/String") (hd : decode (mdB M) pc = .ok (.getfield 9, 3)) (k : GoW G l M (pc + 3) la (.ref (G.2.2.2.2.1 i) :: st) h K) : GoW G l M pc la (.ref (G.2.2.2.1 i) :: st) h K := by
  intro p e s m args below meth c ad A H locs E hA hw hx hS
  have hown := E.2.2.2.2.1
  rw [hcl] at hown
  exact vk_getf E.1 E.2.1 (hx.1.1 i hi).2.2.1 hS hown (E.2.2.2.2.2.1 _ jw_va) (fun _ z => z) hd (k p e s m args below meth c ad A H locs E hA hw hx hS)
def sLen (i : Nat) : Nat := ([4, 3, 3] : List Nat).getD i 0
def sBy (i k : Nat) : Int32 := (([[115, 105, 122, 101], [114, 111, 119], [100, 111, 116]] : List (List Int32)).getD i []).getD k 0
theorem GoW.blen {i : Nat} (hi : i < 3) (hd : decode (mdB M) pc = .ok (.arraylength, 1)) (k : GoW G l M (pc + 1) la (.int (nI (sLen i)) :: st) h K) : GoW G l M pc la (.ref (G.2.2.2.2.1 i) :: st) h K := by
  intro p e s m args below meth c ad A H locs E hA hw hx hS
  exact va_tlen E.1 E.2.1 (hx.1.1 i hi).2.2.2 hS rfl hd (k p e s m args below meth c ad A H locs E hA hw hx hS)
theorem GoW.bload {i j : Nat} (hi : i < 3) (hj : j < sLen i) (hd : decode (mdB M) pc = .ok (.baload, 1)) (k : GoW G l M (pc + 1) la (.int (sBy i j) :: st) h K) : GoW G l M pc la (.int (nI j) :: .ref (G.2.2.2.2.1 i) :: st) h K := by
  intro p e s m args below meth c ad A H locs E hA hw hx hS
  have l4 : sLen i ≤ 4 := by have : i = 0 ∨ i = 1 ∨ i = 2 := by omega
                             rcases this with rfl | rfl | rfl <;> decide
  refine va_tb E.1 E.2.1 (hx.1.1 i hi).2.2.2 hS (show vp_in (nI j) (sLen i) from vp_in_nI hj (by omega)) (v := .int (sBy i j)) ?_ hd (k p e s m args below meth c ad A H locs E hA hw hx hS)
  rw [nI_clamp (by omega)]; rfl
/-- what is asked of a call's answer: nothing has changed -/
def rW (G : GP) (l : Launch) (M : MD) (pc : Nat) (la : Array Slot) (st : List Value) (h : AH) (K : Option AV → AH → Prop) : Option AV → AH → Prop := fun r h' => h' = h ∧ ((r = none ∧ GoW G l M (pc + 3) la st h K) ∨ ∃ x, r = some (vI x) ∧ GoW G l M (pc + 3) la (.int x :: st) h K)
theorem GoW.behind {N : MD} {p : Program} {e : Env} {s : State} {m : MethodId} {args : Array Value} {below : List Frame} {meth : Method} {c : Code} {ad : Nat → Nat} {A : Nat → Prop} {H : Heap} {locs : List Loc} {st0 : List Value} {av : Array Value}
    (hr : va_Run p l e (mdR M) s m args below meth c H locs 0 0 (mdR N).cells (mdR N).slots (F0 m pc la st0) st (Qs G (mdR N).cells ad h (va_A (wl G ad h) H.size) (rW G l M pc la st h K) av) (va_A (wl G ad h) H.size))
    (hc0 : (mdR N).cells = 0) (hs0 : (mdR N).slots = 0) (E : EV M p s m args meth c) (hA : ∀ q, s.heap.size ≤ q → A q) (hw : Wd G ad h A s H) (hx : XT G A s s.heap) (hS : va_S A s.heap H locs) :
    W p l e (mdR M) s m args below meth c H locs 0 0 (MQ below (Qs G ((mdR M).cells - 0) ad h A K) args s (mdR M).cells (mdR M).slots A) (F0 m pc la st0) := by
  intro T hT X
  obtain ⟨v, st₀, t, T', L, h0, X', hL, e1, e2, ⟨⟨r, h', ad', hv, hk, hn1, hn2, hae, hW⟩, hF⟩, stp⟩ := hr T hT X
  rw [hc0, hs0] at X'
  have hv' : v = r.map (cv ad') := by injection hv
  subst hv'
  obtain ⟨eh, hk⟩ := hk
  subst eh
  have ea : ad' = ad := hae.eq
  subst ea
  have hfree := hw.free hA hS
  rw [va_F, h0] at hF
  have hvm : s.vm.Alike t.vm := by rw [← e2]; exact X'.warmed.alike
  have hS' : va_S A s.heap t.heap (locs ++ L) := by
    refine ⟨Nat.le_trans hS.1 hF.1, fun q g1 g2 => ?_, fun q hq => ?_⟩
    · rw [hF.2 q (Nat.lt_of_lt_of_le g1 hS.1) (fun z => g2 (hfree q z))]
      exact hS.2.1 q g1 g2
    · rcases List.mem_append.mp hq with z | z
      · exact hS.2.2 q z
      · exact hfree _ (hL q z)
  have hW' : Wd G ad' h' A s t.heap := ⟨hW.1, va_K.moved hvm.symm hW.2.1, hW.2.2.1.weaken (fun _ q _ z => hfree q.1 z), hW.2.2.2⟩
  rcases hk with ⟨rfl, hk⟩ | ⟨x, rfl, hk⟩
  · obtain ⟨t2, a1, b1⟩ := hk p e s m args below meth c ad' A t.heap (locs ++ L) E hA hW' hx hS' T' e1 X'
    exact ⟨t2, stp t2 a1, b1⟩
  · obtain ⟨t2, a1, b1⟩ := hk p e s m args below meth c ad' A t.heap (locs ++ L) E hA hW' hx hS' T' e1 X'
    exact ⟨t2, stp t2 a1, b1⟩
theorem GoW.callS {N : MD} {n i : Nat} {vs : List Value} (hdg : decode (mdB M) pc = .ok (.invokestatic i, 3)) (hm : MOK N n) (hv : Cond.static (mdN N) ∈ lw_ok) (hlk : Cond.methodLink (mdN M).cls i (mdN N) ∈ lw_ok) (hn : vs.length = n) (hr : (mdR N).frames + 1 ≤ (mdR M).frames ∧ 8 + (mdL N + 11) + (mdR N).locals ≤ (mdR M).locals) (hc0 : (mdR N).cells = 0) (hs0 : (mdR N).slots = 0) (hsz : la.size = mdL M) (hst : (st.map fun v => v.category).sum ≤ 8)
    (hs : SpecV G l N vs h (rW G l M pc la st h K)) : GoW G l M pc la (vs.reverse ++ st) h K := by
  intro p e s m args below meth c ad A H locs E hA hw hx hS
  have hts := E.2.2.2.2.2.1
  have run := va_runS (p := p) (e := e) (below := below) (meth := meth) (locs := locs) (cells := 0) (slots := 0) (As := vs) (rest := st) (g := F0 m pc la (vs.reverse ++ st)) (H := H) (R := mdR M) ⟨E.1, E.2.1, E.2.2.2.1, E.2.2.2.2.1, hts⟩ (hs ad H.size) ⟨hm.callB hts (hts _ hlk) hr, hts _ hv⟩ ⟨Pc_blind, fun U hU hW => ⟨rfl, hw.pre hx hA hS hU hW⟩⟩ rfl hn hsz rfl (lv_room hst) hdg ⟨by omega, by omega⟩
  exact GoW.behind run hc0 hs0 E hA hw hx hS
theorem GoW.callV {N : MD} {n i j : Nat} {vs : List Value} (hdg : decode (mdB M) pc = .ok (.invokevirtual i, 3)) (hm : MOK N n) (hv : MOKv N) (hlk : Cond.methodLink (mdN M).cls i (mdN N) ∈ lw_ok) (hn : vs.length = n) (hcl : (mdN N).cls = "java/lang/String") (hj : j < 3) (hr : (mdR N).frames + 1 ≤ (mdR M).frames ∧ 8 + (mdL N + 11) + (mdR N).locals ≤ (mdR M).locals) (hc0 : (mdR N).cells = 0) (hs0 : (mdR N).slots = 0) (hsz : la.size = mdL M) (hst : (st.map fun v => v.category).sum ≤ 8)
    (hs : SpecV G l N (.ref (G.2.2.2.1 j) :: vs) h (rW G l M pc la st h K)) : GoW G l M pc la (vs.reverse ++ .ref (G.2.2.2.1 j) :: st) h K := by
  intro p e s m args below meth c ad A H locs E hA hw hx hS
  have hts := E.2.2.2.2.2.1
  have hR : ∃ cell : Cell, H[G.2.2.2.1 j]? = some cell ∧ cell.vm.isStatics = false ∧ s.vm.findClass (mdN N).cls = some cell.cls := by
    rw [hcl]; exact vk_recv hx.1 hj hS
  have run := va_runV (p := p) (e := e) (below := below) (meth := meth) (locs := locs) (cells := 0) (slots := 0) (As := vs) (rest := st) (g := F0 m pc la (vs.reverse ++ .ref (G.2.2.2.1 j) :: st)) (C := (mdN N).cls) (b := G.2.2.2.1 j) (H := H) (R := mdR M) ⟨E.1, E.2.1, E.2.2.2.1, E.2.2.2.2.1, hts⟩ (hs ad H.size) ⟨hm.callB hts (hts _ hlk) hr, hts _ hv.1, hts _ hv.2⟩ ⟨Pc_blind, hR, fun U hU hW => ⟨rfl, hw.pre hx hA hS hU hW⟩⟩ rfl hn hsz rfl (lv_room hst) hdg ⟨by omega, by omega⟩
  exact GoW.behind run hc0 hs0 E hA hw hx hS
end JW
theorem jL : mdL (mt mJs_length) = 1 ∧ mdL (mt mJs_charAt) = 2 ∧ mdL (mt mJs_coder) = 1 ∧ mdL (mt mJs_isLatin1) = 1 ∧ mdL (mt mJs_checkIndex) = 2 ∧ mdL (mt mJ1_charAt) = 2 ∧ mdL (mt mJp_checkIndex) = 3 := by decide +kernel
theorem jT : mdT (mt mJs_length) = some .int ∧ mdT (mt mJs_charAt) = some .char ∧ mdT (mt mJs_coder) = some .byte ∧ mdT (mt mJs_isLatin1) = some .boolean ∧ mdT (mt mJs_checkIndex) = none ∧ mdT (mt mJ1_charAt) = some .char ∧ mdT (mt mJp_checkIndex) = some .int := by decide +kernel
theorem jC : (mdN (mt mJs_length)).cls = "java/lang/String" ∧ (mdN (mt mJs_charAt)).cls = "java/lang/String" ∧ (mdN (mt mJs_coder)).cls = "java/lang/String" ∧ (mdN (mt mJs_isLatin1)).cls = "java/lang/String" ∧ (mdN (mt mJs_checkIndex)).cls = "java/lang/String" ∧ (mdN (mt mJ1_charAt)).cls = "java/lang/StringLatin1" := by decide +kernel
def jM (a n : Nat) : Prop := MOK (mt a) n ∧ plainFor (mdN (mt a)) = true
theorem jM_of {a n : Nat} (h : Nat.blt a 292 = true) (hk : Nat.blt (mtK a).1 9 = true) (hn : Nat.beq (mtK a).2.1 n = true) : jM a n := by
  have := mt_MOK (Nat.le_of_ble_eq_true h) (Nat.le_of_ble_eq_true hk)
  rw [Nat.eq_of_beq_eq_true hn] at this
  exact this
theorem jM_1 : jM mJs_length 0 := jM_of rfl (by decide +kernel) (by decide +kernel)
theorem jM_2 : jM mJs_charAt 1 := jM_of rfl (by decide +kernel) (by decide +kernel)
theorem jM_3 : jM mJs_coder 0 := jM_of rfl (by decide +kernel) (by decide +kernel)
theorem jM_4 : jM mJs_isLatin1 0 := jM_of rfl (by decide +kernel) (by decide +kernel)
theorem jM_5 : jM mJs_checkIndex 2 := jM_of rfl (by decide +kernel) (by decide +kernel)
theorem jM_6 : jM mJ1_charAt 2 := jM_of rfl (by decide +kernel) (by decide +kernel)
theorem jM_7 : jM mJp_checkIndex 3 := jM_of rfl (by decide +kernel) (by decide +kernel)
theorem jl_coder : Cond.methodLink (mdN (mt mJs_length)).cls 335 (mdN (mt mJs_coder)) ∈ lw_ok := wIs.mem (i := 8171) (by decide +kernel)
theorem jl_latin : Cond.methodLink (mdN (mt mJs_charAt)).cls 492 (mdN (mt mJs_isLatin1)) ∈ lw_ok := wIs.mem (i := 8181) (by decide +kernel)
theorem jl_ch1 : Cond.methodLink (mdN (mt mJs_charAt)).cls 495 (mdN (mt mJ1_charAt)) ∈ lw_ok := wIs.mem (i := 8185) (by decide +kernel)
theorem jl_chk : Cond.methodLink (mdN (mt mJ1_charAt)).cls 9 (mdN (mt mJs_checkIndex)) ∈ lw_ok := wIs.mem (i := 8188) (by decide +kernel)
theorem jl_pre : Cond.methodLink (mdN (mt mJs_checkIndex)).cls 1059 (mdN (mt mJp_checkIndex)) ∈ lw_ok := wIs.mem (i := 8193) (by decide +kernel)
section JM
variable {G : GP} {l : Launch} {h : AH} {K : Option AV → AH → Prop}
theorem vJ_pre {k n : Nat} {v : Value} (hv : v = .null ∨ ∃ t, v = .ref t) (hk : k < n) (hn : n < 2 ^ 31) (hK : K (some (vI (nI k))) h) : SpecV G l (mt mJp_checkIndex) [.int (nI k), .int (nI n), v] h K := by
  refine SpecV.of (la := #[.val (.int (nI k)), .val (.int (nI n)), .val v]) jM_7.1 jM_7.2 jL.2.2.2.2.2.2 (by rcases hv with rfl | ⟨t, rfl⟩ <;> rfl) ?_
  refine GoW.iload (n := 0) (by decide +kernel) rfl ?_
  refine GoW.if_lt (off := 8) (t := 9) (by decide +kernel) rfl (fun z => absurd z (nI_pos (by omega))) ?_
  refine GoW.iload (n := 0) (by decide +kernel) rfl ?_
  refine GoW.iload (n := 1) (by decide +kernel) rfl ?_
  refine GoW.icmp_lt (off := 10) (t := 16) (by decide +kernel) rfl ((nI_ltI (by omega) hn).mpr hk) ?_
  refine GoW.iload (n := 0) (by decide +kernel) rfl ?_
  exact GoW.iret (by decide +kernel) jT.2.2.2.2.2.2 rfl hK
theorem vJ_chk {k n : Nat} (hk : k < n) (hn : n < 2 ^ 31) (hK : K none h) : SpecV G l (mt mJs_checkIndex) [.int (nI k), .int (nI n)] h K := by
  refine SpecV.of (la := #[.val (.int (nI k)), .val (.int (nI n))]) jM_5.1 jM_5.2 jL.2.2.2.2.1 rfl ?_
  refine GoW.iload (n := 0) (by decide +kernel) rfl ?_
  refine GoW.iload (n := 1) (by decide +kernel) rfl ?_
  refine GoW.fmt jC.2.2.2.2.1 (by decide +kernel) fun v hv => ?_
  refine GoW.callS (N := mt mJp_checkIndex) (n := 3) (i := 1059) (vs := [.int (nI k), .int (nI n), v]) (st := []) (by decide +kernel) jM_7.1 (mt_S (by decide) (by decide +kernel)) jl_pre rfl (by decide +kernel) (by decide +kernel) (by decide +kernel) jL.2.2.2.2.1.symm (by decide) ?_
  refine vJ_pre hv hk hn ⟨rfl, Or.inr ⟨_, rfl, ?_⟩⟩
  refine GoW.pop (by decide +kernel) rfl ?_
  exact GoW.vret (by decide +kernel) jT.2.2.2.2.1 hK
theorem sBy_ok : ∀ i : Fin 3, ∀ j : Fin 4, j.val < sLen i.val → ((sBy i.val j.val &&& 255).toUInt32 % 65536).toInt32 = sBy i.val j.val ∧ narrow .char (.int (sBy i.val j.val)) = .int (sBy i.val j.val) := by decide +kernel
theorem sLen_le {i : Nat} (hi : i < 3) : sLen i ≤ 4 := by
  have : i = 0 ∨ i = 1 ∨ i = 2 := by omega
  rcases this with rfl | rfl | rfl <;> decide
theorem vJ_ch1 {i j : Nat} (hi : i < 3) (hj : j < sLen i) (hK : K (some (vI (sBy i j))) h) : SpecV G l (mt mJ1_charAt) [.ref (G.2.2.2.2.1 i), .int (nI j)] h K := by
  have l4 := sLen_le hi
  have ok := sBy_ok ⟨i, hi⟩ ⟨j, by omega⟩ hj
  refine SpecV.of (la := #[.val (.ref (G.2.2.2.2.1 i)), .val (.int (nI j))]) jM_6.1 jM_6.2 jL.2.2.2.2.2.1 rfl ?_
  refine GoW.iload (n := 1) (by decide +kernel) rfl ?_
  refine GoW.aload (n := 0) (by decide +kernel) rfl ?_
  refine GoW.blen hi (by decide +kernel) ?_
  refine GoW.callS (N := mt mJs_checkIndex) (n := 2) (i := 9) (vs := [.int (nI j), .int (nI (sLen i))]) (st := []) (by decide +kernel) jM_5.1 (mt_S (by decide) (by decide +kernel)) jl_chk rfl (by decide +kernel) (by decide +kernel) (by decide +kernel) jL.2.2.2.2.2.1.symm (by decide) ?_
  refine vJ_chk hj (by omega) ⟨rfl, Or.inl ⟨rfl, ?_⟩⟩
  refine GoW.aload (n := 0) (by decide +kernel) rfl ?_
  refine GoW.iload (n := 1) (by decide +kernel) rfl ?_
  refine GoW.bload hi hj (by decide +kernel) ?_
  refine GoW.sipush (n := 255) (by decide +kernel) rfl ?_
  refine GoW.iand (by decide +kernel) ?_
  refine GoW.i2c (by decide +kernel) ok.1 ?_
  exact GoW.iret (by decide +kernel) jT.2.2.2.2.2.1 ok.2 hK
theorem vJ_lat {i : Nat} (hi : i < 3) (hK : K (some (vI 1)) h) : SpecV G l (mt mJs_isLatin1) [.ref (G.2.2.2.1 i)] h K := by
  refine SpecV.of (la := #[.val (.ref (G.2.2.2.1 i))]) jM_4.1 jM_4.2 jL.2.2.2.1 rfl ?_
  refine GoW.compact jC.2.2.2.1 (by decide +kernel) ?_
  refine GoW.if_eq (off := 14) (t := 17) (by decide +kernel) rfl (by decide) ?_
  refine GoW.aload (n := 0) (by decide +kernel) rfl ?_
  refine GoW.coder hi jC.2.2.2.1 (by decide +kernel) ?_
  refine GoW.if_ne (off := 7) (t := 17) (by decide +kernel) rfl rfl ?_
  refine GoW.iconst (n := 1) (by decide +kernel) rfl ?_
  refine GoW.goto (off := 4) (t := 18) (by decide +kernel) rfl ?_
  exact GoW.iret (by decide +kernel) jT.2.2.2.1 rfl hK
theorem vJ_cod {i : Nat} (hi : i < 3) (hK : K (some (vI 0)) h) : SpecV G l (mt mJs_coder) [.ref (G.2.2.2.1 i)] h K := by
  refine SpecV.of (la := #[.val (.ref (G.2.2.2.1 i))]) jM_3.1 jM_3.2 jL.2.2.1 rfl ?_
  refine GoW.compact jC.2.2.1 (by decide +kernel) ?_
  refine GoW.if_eq (off := 10) (t := 13) (by decide +kernel) rfl (by decide) ?_
  refine GoW.aload (n := 0) (by decide +kernel) rfl ?_
  refine GoW.coder hi jC.2.2.1 (by decide +kernel) ?_
  refine GoW.goto (off := 4) (t := 14) (by decide +kernel) rfl ?_
  exact GoW.iret (by decide +kernel) jT.2.2.1 rfl hK
theorem vJ_len {i : Nat} (hi : i < 3) (hK : K (some (vI (nI (sLen i)))) h) : SpecV G l (mt mJs_length) [.ref (G.2.2.2.1 i)] h K := by
  have ok : nI (sLen i) >>> ((0 : Int32) &&& 31) = nI (sLen i) := by
    have : i = 0 ∨ i = 1 ∨ i = 2 := by omega
    rcases this with rfl | rfl | rfl <;> decide
  refine SpecV.of (la := #[.val (.ref (G.2.2.2.1 i))]) jM_1.1 jM_1.2 jL.1 rfl ?_
  refine GoW.aload (n := 0) (by decide +kernel) rfl ?_
  refine GoW.value hi jC.1 (by decide +kernel) ?_
  refine GoW.blen hi (by decide +kernel) ?_
  refine GoW.aload (n := 0) (by decide +kernel) rfl ?_
  refine GoW.callV (N := mt mJs_coder) (n := 0) (i := 335) (j := i) (vs := []) (st := [.int (nI (sLen i))]) (by decide +kernel) jM_3.1 (mt_V (by decide) (by decide +kernel)) jl_coder rfl jC.2.2.1 hi (by decide +kernel) (by decide +kernel) (by decide +kernel) jL.1.symm (by simp [Value.category]) ?_
  refine vJ_cod hi ⟨rfl, Or.inr ⟨_, rfl, ?_⟩⟩
  refine GoW.ishr (by decide +kernel) ?_
  rw [ok]
  exact GoW.iret (by decide +kernel) jT.1 rfl hK
theorem vJ_cha {i j : Nat} (hi : i < 3) (hj : j < sLen i) (hK : K (some (vI (sBy i j))) h) : SpecV G l (mt mJs_charAt) [.ref (G.2.2.2.1 i), .int (nI j)] h K := by
  have l4 := sLen_le hi
  have ok := sBy_ok ⟨i, hi⟩ ⟨j, by omega⟩ hj
  refine SpecV.of (la := #[.val (.ref (G.2.2.2.1 i)), .val (.int (nI j))]) jM_2.1 jM_2.2 jL.2.1 rfl ?_
  refine GoW.aload (n := 0) (by decide +kernel) rfl ?_
  refine GoW.callV (N := mt mJs_isLatin1) (n := 0) (i := 492) (j := i) (vs := []) (st := []) (by decide +kernel) jM_4.1 (mt_V (by decide) (by decide +kernel)) jl_latin rfl jC.2.2.2.1 hi (by decide +kernel) (by decide +kernel) (by decide +kernel) jL.2.1.symm (by decide) ?_
  refine vJ_lat hi ⟨rfl, Or.inr ⟨_, rfl, ?_⟩⟩
  refine GoW.if_eq (off := 12) (t := 16) (by decide +kernel) rfl (by decide) ?_
  refine GoW.aload (n := 0) (by decide +kernel) rfl ?_
  refine GoW.value hi jC.2.1 (by decide +kernel) ?_
  refine GoW.iload (n := 1) (by decide +kernel) rfl ?_
  refine GoW.callS (N := mt mJ1_charAt) (n := 2) (i := 495) (vs := [.ref (G.2.2.2.2.1 i), .int (nI j)]) (st := []) (by decide +kernel) jM_6.1 (mt_S (by decide) (by decide +kernel)) jl_ch1 rfl (by decide +kernel) (by decide +kernel) (by decide +kernel) jL.2.1.symm (by decide) ?_
  refine vJ_ch1 hi hj ⟨rfl, Or.inr ⟨_, rfl, ?_⟩⟩
  exact GoW.iret (by decide +kernel) jT.2.1 ok.2 hK
theorem ad_s {ad : Nat → Nat} (a : adX G ad) {i : Nat} (hi : i < 3) : cv ad (vR (xh + i)) = .ref (G.2.2.2.1 i) := by
  rw [cv_ref (by unfold xh; omega)]
  have : i = 0 ∨ i = 1 ∨ i = 2 := by omega
  rcases this with rfl | rfl | rfl
  · exact congrArg _ a.1
  · rw [a.2.1]
  · rw [a.2.2.1]
theorem sJ_length {i : Nat} (hi : i < 3) (hK : K (some (vI (nI (sLen i)))) h) : Spec G l (mt mJs_length) [vR (xh + i)] h K :=
  Spec.ofV (fun ad a => by rw [List.map_cons, ad_s a hi]; rfl) (vJ_len hi hK)
theorem sJ_charAt {i j : Nat} {x : Int32} (hi : i < 3) (hx : x = nI j) (hj : j < sLen i) (hK : K (some (vI (sBy i j))) h) : Spec G l (mt mJs_charAt) [vR (xh + i), vI x] h K := by
  subst hx
  exact Spec.ofV (fun ad a => by rw [List.map_cons, ad_s a hi]; rfl) (vJ_cha hi hj hK)
end JM
