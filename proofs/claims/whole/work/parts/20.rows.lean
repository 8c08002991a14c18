/-! ===== the walk inside a method, an instruction a row ===== -/
/-- the machine at a method's entry -/
def EV (M : MD) (p : Program) (s : State) (m : MethodId) (args : Array Value) (meth : Method) (c : Code) : Prop := p.tables.exec = Jvm.exec ∧ c.code = mdB M ∧ meth.sig.returnType = mdT M ∧ c.maxLocals = mdL M ∧ s.vm.findClass (mdN M).cls = some m.cls ∧ (∀ w ∈ lw_ok, w.before args s = true) ∧ meth.locks = false ∧ meth.name = (mdN M).name
/-- from here the method comes to its end, with K of its answer and of the heap then -/
def Go (G : GP) (l : Launch) (M : MD) (pc : Nat) (ls : List (Option AV)) (st : List AV) (h : AH) (uc us : Nat) (K : Option AV → AH → Prop) : Prop :=
  ∀ (p : Program) (e : Env) (s : State) (m : MethodId) (args : Array Value) (below : List Frame) (meth : Method) (c : Code) (ad : Nat → Nat) (A : Nat → Prop) (H : Heap) (locs : List Loc) (la : Array Slot),
    EV M p s m args meth c → (∀ q, s.heap.size ≤ q → A q) → Wd G ad h A s H → XT G A s s.heap → va_S A s.heap H locs → LV ad la (mdL M) ls →
    W p l e (mdR M) s m args below meth c H locs uc us (MQ below (Qs G ((mdR M).cells - uc) ad h A K) args s (mdR M).cells (mdR M).slots A) (F0 m pc la (st.map (cv ad)))
theorem cv_ref {ad : Nat → Nat} {x : Nat} (h0 : 0 < x) : cv ad (vR x) = .ref (ad x) := by
  have e0 : ¬ x = 0 := by omega
  simp [cv, hd, e0, va_rf]
section GoRows
variable {G : GP} {l : Launch} {M : MD} {pc : Nat} {ls : List (Option AV)} {st : List AV} {h : AH} {uc us : Nat} {K : Option AV → AH → Prop}
theorem Go.mono {K' : Option AV → AH → Prop} (q : Go G l M pc ls st h uc us K) (hk : ∀ r h', K r h' → K' r h') : Go G l M pc ls st h uc us K' := by
  intro p e s m args below meth c ad A H locs la E hA hw hx hS hl
  exact W.mono (fun t z => MQ.mono (fun _ _ y => Qs.mono hk y) z) (q p e s m args below meth c ad A H locs la E hA hw hx hS hl)
theorem LV.weaken {ad : Nat → Nat} {la : Array Slot} {n : Nat} {ls ls' : List (Option AV)} (h : LV ad la n ls) (hs : ∀ (i : Nat) (a : AV), ls'[i]? = some (some a) → ls[i]? = some (some a)) : LV ad la n ls' := ⟨h.1, h.2.1, fun i a q => h.2.2 i a (hs i a q)⟩
theorem Go.forget {ls' : List (Option AV)} (q : Go G l M pc ls' st h uc us K) (hs : ∀ (i : Nat) (a : AV), ls'[i]? = some (some a) → ls[i]? = some (some a)) : Go G l M pc ls st h uc us K :=
  fun p e s m args below meth c ad A H locs la E hA hw hx hS hl => q p e s m args below meth c ad A H locs la E hA hw hx hS (hl.weaken hs)
theorem Go.iadd {x y : Int32} (hd : decode (mdB M) pc = .ok (.iadd, 1)) (k : Go G l M (pc + 1) ls (vI (x + y) :: st) h uc us K) : Go G l M pc ls (vI y :: vI x :: st) h uc us K := by
  intro p e s m args below meth c ad A H locs la E hA hw hx hS hl
  exact lv_iadd E.1 E.2.1 hd (k p e s m args below meth c ad A H locs la E hA hw hx hS hl)
theorem Go.isub {x y : Int32} (hd : decode (mdB M) pc = .ok (.isub, 1)) (k : Go G l M (pc + 1) ls (vI (x - y) :: st) h uc us K) : Go G l M pc ls (vI y :: vI x :: st) h uc us K := by
  intro p e s m args below meth c ad A H locs la E hA hw hx hS hl
  exact lv_isub E.1 E.2.1 hd (k p e s m args below meth c ad A H locs la E hA hw hx hS hl)
theorem Go.imul {x y : Int32} (hd : decode (mdB M) pc = .ok (.imul, 1)) (k : Go G l M (pc + 1) ls (vI (x * y) :: st) h uc us K) : Go G l M pc ls (vI y :: vI x :: st) h uc us K := by
  intro p e s m args below meth c ad A H locs la E hA hw hx hS hl
  exact lv_imul E.1 E.2.1 hd (k p e s m args below meth c ad A H locs la E hA hw hx hS hl)
theorem Go.iand {x y : Int32} (hd : decode (mdB M) pc = .ok (.iand, 1)) (k : Go G l M (pc + 1) ls (vI (x &&& y) :: st) h uc us K) : Go G l M pc ls (vI y :: vI x :: st) h uc us K := by
  intro p e s m args below meth c ad A H locs la E hA hw hx hS hl
  exact lv_iand E.1 E.2.1 hd (k p e s m args below meth c ad A H locs la E hA hw hx hS hl)
theorem Go.ior {x y : Int32} (hd : decode (mdB M) pc = .ok (.ior, 1)) (k : Go G l M (pc + 1) ls (vI (x ||| y) :: st) h uc us K) : Go G l M pc ls (vI y :: vI x :: st) h uc us K := by
  intro p e s m args below meth c ad A H locs la E hA hw hx hS hl
  exact lv_ior E.1 E.2.1 hd (k p e s m args below meth c ad A H locs la E hA hw hx hS hl)
theorem Go.ixor {x y : Int32} (hd : decode (mdB M) pc = .ok (.ixor, 1)) (k : Go G l M (pc + 1) ls (vI (x ^^^ y) :: st) h uc us K) : Go G l M pc ls (vI y :: vI x :: st) h uc us K := by
  intro p e s m args below meth c ad A H locs la E hA hw hx hS hl
  exact lv_ixor E.1 E.2.1 hd (k p e s m args below meth c ad A H locs la E hA hw hx hS hl)
theorem Go.ishl {x y : Int32} (hd : decode (mdB M) pc = .ok (.ishl, 1)) (k : Go G l M (pc + 1) ls (vI (x <<< (y &&& 31)) :: st) h uc us K) : Go G l M pc ls (vI y :: vI x :: st) h uc us K := by
  intro p e s m args below meth c ad A H locs la E hA hw hx hS hl
  exact lv_ishl E.1 E.2.1 hd (k p e s m args below meth c ad A H locs la E hA hw hx hS hl)
theorem Go.ishr {x y : Int32} (hd : decode (mdB M) pc = .ok (.ishr, 1)) (k : Go G l M (pc + 1) ls (vI (x >>> (y &&& 31)) :: st) h uc us K) : Go G l M pc ls (vI y :: vI x :: st) h uc us K := by
  intro p e s m args below meth c ad A H locs la E hA hw hx hS hl
  exact lv_ishr E.1 E.2.1 hd (k p e s m args below meth c ad A H locs la E hA hw hx hS hl)
theorem Go.idiv {x y : Int32} (hd : decode (mdB M) pc = .ok (.idiv, 1)) (hne : ¬ y = 0) (k : Go G l M (pc + 1) ls (vI (x / y) :: st) h uc us K) : Go G l M pc ls (vI y :: vI x :: st) h uc us K := by
  intro p e s m args below meth c ad A H locs la E hA hw hx hS hl
  exact lv_idiv E.1 E.2.1 hd hne (k p e s m args below meth c ad A H locs la E hA hw hx hS hl)
theorem Go.irem {x y : Int32} (hd : decode (mdB M) pc = .ok (.irem, 1)) (hne : ¬ y = 0) (k : Go G l M (pc + 1) ls (vI (x - x / y * y) :: st) h uc us K) : Go G l M pc ls (vI y :: vI x :: st) h uc us K := by
  intro p e s m args below meth c ad A H locs la E hA hw hx hS hl
  exact lv_irem E.1 E.2.1 hd hne (k p e s m args below meth c ad A H locs la E hA hw hx hS hl)
theorem Go.ladd {x y : Int64} (hd : decode (mdB M) pc = .ok (.ladd, 1)) (k : Go G l M (pc + 1) ls (vL (x + y) :: st) h uc us K) : Go G l M pc ls (vL y :: vL x :: st) h uc us K := by
  intro p e s m args below meth c ad A H locs la E hA hw hx hS hl
  exact lv_ladd E.1 E.2.1 hd (k p e s m args below meth c ad A H locs la E hA hw hx hS hl)
theorem Go.lsub {x y : Int64} (hd : decode (mdB M) pc = .ok (.lsub, 1)) (k : Go G l M (pc + 1) ls (vL (x - y) :: st) h uc us K) : Go G l M pc ls (vL y :: vL x :: st) h uc us K := by
  intro p e s m args below meth c ad A H locs la E hA hw hx hS hl
  exact lv_lsub E.1 E.2.1 hd (k p e s m args below meth c ad A H locs la E hA hw hx hS hl)
theorem Go.lmul {x y : Int64} (hd : decode (mdB M) pc = .ok (.lmul, 1)) (k : Go G l M (pc + 1) ls (vL (x * y) :: st) h uc us K) : Go G l M pc ls (vL y :: vL x :: st) h uc us K := by
  intro p e s m args below meth c ad A H locs la E hA hw hx hS hl
  exact lv_lmul E.1 E.2.1 hd (k p e s m args below meth c ad A H locs la E hA hw hx hS hl)
theorem Go.land {x y : Int64} (hd : decode (mdB M) pc = .ok (.land, 1)) (k : Go G l M (pc + 1) ls (vL (x &&& y) :: st) h uc us K) : Go G l M pc ls (vL y :: vL x :: st) h uc us K := by
  intro p e s m args below meth c ad A H locs la E hA hw hx hS hl
  exact lv_land E.1 E.2.1 hd (k p e s m args below meth c ad A H locs la E hA hw hx hS hl)
theorem Go.lor {x y : Int64} (hd : decode (mdB M) pc = .ok (.lor, 1)) (k : Go G l M (pc + 1) ls (vL (x ||| y) :: st) h uc us K) : Go G l M pc ls (vL y :: vL x :: st) h uc us K := by
  intro p e s m args below meth c ad A H locs la E hA hw hx hS hl
  exact lv_lor E.1 E.2.1 hd (k p e s m args below meth c ad A H locs la E hA hw hx hS hl)
theorem Go.ldiv {x y : Int64} (hd : decode (mdB M) pc = .ok (.ldiv, 1)) (hne : ¬ y = 0) (k : Go G l M (pc + 1) ls (vL (x / y) :: st) h uc us K) : Go G l M pc ls (vL y :: vL x :: st) h uc us K := by
  intro p e s m args below meth c ad A H locs la E hA hw hx hS hl
  exact lv_ldiv E.1 E.2.1 hd hne (k p e s m args below meth c ad A H locs la E hA hw hx hS hl)
theorem Go.lrem {x y : Int64} (hd : decode (mdB M) pc = .ok (.lrem, 1)) (hne : ¬ y = 0) (k : Go G l M (pc + 1) ls (vL (x - x / y * y) :: st) h uc us K) : Go G l M pc ls (vL y :: vL x :: st) h uc us K := by
  intro p e s m args below meth c ad A H locs la E hA hw hx hS hl
  exact lv_lrem E.1 E.2.1 hd hne (k p e s m args below meth c ad A H locs la E hA hw hx hS hl)
theorem Go.ineg {x : Int32} (hd : decode (mdB M) pc = .ok (.ineg, 1)) (k : Go G l M (pc + 1) ls (vI (-x) :: st) h uc us K) : Go G l M pc ls (vI x :: st) h uc us K := by
  intro p e s m args below meth c ad A H locs la E hA hw hx hS hl
  exact lv_ineg E.1 E.2.1 hd (k p e s m args below meth c ad A H locs la E hA hw hx hS hl)
theorem Go.i2l {x : Int32} (hd : decode (mdB M) pc = .ok (.i2l, 1)) (k : Go G l M (pc + 1) ls (vL x.toInt64 :: st) h uc us K) : Go G l M pc ls (vI x :: st) h uc us K := by
  intro p e s m args below meth c ad A H locs la E hA hw hx hS hl
  exact lv_i2l E.1 E.2.1 hd rfl (k p e s m args below meth c ad A H locs la E hA hw hx hS hl)
theorem Go.l2i {x : Int64} (hd : decode (mdB M) pc = .ok (.l2i, 1)) (k : Go G l M (pc + 1) ls (vI x.toInt32 :: st) h uc us K) : Go G l M pc ls (vL x :: st) h uc us K := by
  intro p e s m args below meth c ad A H locs la E hA hw hx hS hl
  exact lv_l2i E.1 E.2.1 hd rfl (k p e s m args below meth c ad A H locs la E hA hw hx hS hl)
theorem Go.lshl {x : Int64} {y : Int32} (hd : decode (mdB M) pc = .ok (.lshl, 1)) (k : Go G l M (pc + 1) ls (vL (x <<< (y.toInt64 &&& 63)) :: st) h uc us K) : Go G l M pc ls (vI y :: vL x :: st) h uc us K := by
  intro p e s m args below meth c ad A H locs la E hA hw hx hS hl
  exact lv_lshl E.1 E.2.1 hd rfl (k p e s m args below meth c ad A H locs la E hA hw hx hS hl)
theorem Go.lcmp {x y : Int64} (hd : decode (mdB M) pc = .ok (.lcmp, 1)) (k : Go G l M (pc + 1) ls (vI (lg_cmp x y) :: st) h uc us K) : Go G l M pc ls (vL y :: vL x :: st) h uc us K := by
  intro p e s m args below meth c ad A H locs la E hA hw hx hS hl
  exact W.lcmp E.1 E.2.1 hd (k p e s m args below meth c ad A H locs la E hA hw hx hS hl)
theorem Go.iconst {n : Int} {v : Int32} (hd : decode (mdB M) pc = .ok (.iconst n, 1)) (hv : Int32.ofInt n = v) (k : Go G l M (pc + 1) ls (vI v :: st) h uc us K) : Go G l M pc ls st h uc us K := by
  intro p e s m args below meth c ad A H locs la E hA hw hx hS hl
  exact lv_iconst E.1 E.2.1 hd hv (k p e s m args below meth c ad A H locs la E hA hw hx hS hl)
theorem Go.bipush {n : Int} {v : Int32} (hd : decode (mdB M) pc = .ok (.bipush n, 2)) (hv : (Int8.ofInt n).toInt32 = v) (k : Go G l M (pc + 2) ls (vI v :: st) h uc us K) : Go G l M pc ls st h uc us K := by
  intro p e s m args below meth c ad A H locs la E hA hw hx hS hl
  exact lv_bipush E.1 E.2.1 hd hv (k p e s m args below meth c ad A H locs la E hA hw hx hS hl)
theorem Go.sipush {n : Int} {v : Int32} (hd : decode (mdB M) pc = .ok (.sipush n, 3)) (hv : (Int16.ofInt n).toInt32 = v) (k : Go G l M (pc + 3) ls (vI v :: st) h uc us K) : Go G l M pc ls st h uc us K := by
  intro p e s m args below meth c ad A H locs la E hA hw hx hS hl
  exact lv_sipush E.1 E.2.1 hd hv (k p e s m args below meth c ad A H locs la E hA hw hx hS hl)
theorem Go.lconst {n : Fin 2} {v : Int64} (hd : decode (mdB M) pc = .ok (.lconst n, 1)) (hv : Int64.ofNat (n : Nat) = v) (k : Go G l M (pc + 1) ls (vL v :: st) h uc us K) : Go G l M pc ls st h uc us K := by
  intro p e s m args below meth c ad A H locs la E hA hw hx hS hl
  exact lv_lconst E.1 E.2.1 hd hv (k p e s m args below meth c ad A H locs la E hA hw hx hS hl)
theorem Go.ldc {i : Nat} {v : Int32} (hd : decode (mdB M) pc = .ok (.ldc i, 2)) (hv : Cond.constant (mdN M).cls i v ∈ lw_ok) (k : Go G l M (pc + 2) ls (vI v :: st) h uc us K) : Go G l M pc ls st h uc us K := by
  intro p e s m args below meth c ad A H locs la E hA hw hx hS hl
  exact lv_ldc E.1 E.2.1 E.2.2.2.2.1 (E.2.2.2.2.2.1 _ hv) hd (k p e s m args below meth c ad A H locs la E hA hw hx hS hl)
theorem Go.ldcw {i : Nat} {v : Int32} (hd : decode (mdB M) pc = .ok (.ldc_w i, 3)) (hv : Cond.constant (mdN M).cls i v ∈ lw_ok) (k : Go G l M (pc + 3) ls (vI v :: st) h uc us K) : Go G l M pc ls st h uc us K := by
  intro p e s m args below meth c ad A H locs la E hA hw hx hS hl
  exact lv_ldcw E.1 E.2.1 E.2.2.2.2.1 (E.2.2.2.2.2.1 _ hv) hd (k p e s m args below meth c ad A H locs la E hA hw hx hS hl)
theorem Go.ldc2 {i : Nat} {v : Int64} (hd : decode (mdB M) pc = .ok (.ldc2_w i, 3)) (hv : Cond.constantLong (mdN M).cls i v ∈ lw_ok) (k : Go G l M (pc + 3) ls (vL v :: st) h uc us K) : Go G l M pc ls st h uc us K := by
  intro p e s m args below meth c ad A H locs la E hA hw hx hS hl
  exact lv_ldc2 E.1 E.2.1 E.2.2.2.2.1 (E.2.2.2.2.2.1 _ hv) hd (k p e s m args below meth c ad A H locs la E hA hw hx hS hl)
theorem Go.goto {off : Int} {t : Nat} (hd : decode (mdB M) pc = .ok (.goto off, 3)) (ht : (pc : Int) + off = (t : Int)) (k : Go G l M t ls st h uc us K) : Go G l M pc ls st h uc us K := by
  intro p e s m args below meth c ad A H locs la E hA hw hx hS hl
  exact lv_goto E.1 E.2.1 hd ht (k p e s m args below meth c ad A H locs la E hA hw hx hS hl)
theorem Go.dup {a : AV} (hd : decode (mdB M) pc = .ok (.dup, 1)) (ha : isL a = false) (k : Go G l M (pc + 1) ls (a :: a :: st) h uc us K) : Go G l M pc ls (a :: st) h uc us K := by
  intro p e s m args below meth c ad A H locs la E hA hw hx hS hl
  exact lv_dup E.1 E.2.1 hd (by rw [cat_cv, ha]; rfl) (k p e s m args below meth c ad A H locs la E hA hw hx hS hl)
theorem Go.pop {a : AV} (hd : decode (mdB M) pc = .ok (.pop, 1)) (ha : isL a = false) (k : Go G l M (pc + 1) ls st h uc us K) : Go G l M pc ls (a :: st) h uc us K := by
  intro p e s m args below meth c ad A H locs la E hA hw hx hS hl
  exact lv_pop E.1 E.2.1 hd (by rw [cat_cv, ha]; rfl) (k p e s m args below meth c ad A H locs la E hA hw hx hS hl)
theorem Go.dup2 {a b : AV} (hd : decode (mdB M) pc = .ok (.dup2, 1)) (ha : isL a = false) (hb : isL b = false) (k : Go G l M (pc + 1) ls (a :: b :: a :: b :: st) h uc us K) : Go G l M pc ls (a :: b :: st) h uc us K := by
  intro p e s m args below meth c ad A H locs la E hA hw hx hS hl
  exact lv_dup2_11 E.1 E.2.1 hd (by rw [cat_cv, ha]; rfl) (by rw [cat_cv, hb]; rfl) (k p e s m args below meth c ad A H locs la E hA hw hx hS hl)
theorem Go.if_eq {x : Int32} {off : Int} {t : Nat} (hd : decode (mdB M) pc = .ok (.ifCond .eq off, 3)) (ht : (pc : Int) + off = (t : Int)) (kt : x = 0 → Go G l M t ls st h uc us K) (kf : ¬ x = 0 → Go G l M (pc + 3) ls st h uc us K) : Go G l M pc ls (vI x :: st) h uc us K := by
  intro p e s m args below meth c ad A H locs la E hA hw hx hS hl
  exact lv_if_eq E.1 E.2.1 hd ht (fun q => kt q p e s m args below meth c ad A H locs la E hA hw hx hS hl) (fun q => kf q p e s m args below meth c ad A H locs la E hA hw hx hS hl)
theorem Go.icmp_eq {x y : Int32} {off : Int} {t : Nat} (hd : decode (mdB M) pc = .ok (.if_icmp .eq off, 3)) (ht : (pc : Int) + off = (t : Int)) (kt : x = y → Go G l M t ls st h uc us K) (kf : ¬ x = y → Go G l M (pc + 3) ls st h uc us K) : Go G l M pc ls (vI y :: vI x :: st) h uc us K := by
  intro p e s m args below meth c ad A H locs la E hA hw hx hS hl
  exact lv_icmp_eq E.1 E.2.1 hd ht (fun q => kt q p e s m args below meth c ad A H locs la E hA hw hx hS hl) (fun q => kf q p e s m args below meth c ad A H locs la E hA hw hx hS hl)
theorem Go.if_ne {x : Int32} {off : Int} {t : Nat} (hd : decode (mdB M) pc = .ok (.ifCond .ne off, 3)) (ht : (pc : Int) + off = (t : Int)) (kt : ¬ x = 0 → Go G l M t ls st h uc us K) (kf : x = 0 → Go G l M (pc + 3) ls st h uc us K) : Go G l M pc ls (vI x :: st) h uc us K := by
  intro p e s m args below meth c ad A H locs la E hA hw hx hS hl
  exact lv_if_ne E.1 E.2.1 hd ht (fun q => kt q p e s m args below meth c ad A H locs la E hA hw hx hS hl) (fun q => kf q p e s m args below meth c ad A H locs la E hA hw hx hS hl)
theorem Go.icmp_ne {x y : Int32} {off : Int} {t : Nat} (hd : decode (mdB M) pc = .ok (.if_icmp .ne off, 3)) (ht : (pc : Int) + off = (t : Int)) (kt : ¬ x = y → Go G l M t ls st h uc us K) (kf : x = y → Go G l M (pc + 3) ls st h uc us K) : Go G l M pc ls (vI y :: vI x :: st) h uc us K := by
  intro p e s m args below meth c ad A H locs la E hA hw hx hS hl
  exact lv_icmp_ne E.1 E.2.1 hd ht (fun q => kt q p e s m args below meth c ad A H locs la E hA hw hx hS hl) (fun q => kf q p e s m args below meth c ad A H locs la E hA hw hx hS hl)
theorem Go.if_lt {x : Int32} {off : Int} {t : Nat} (hd : decode (mdB M) pc = .ok (.ifCond .lt off, 3)) (ht : (pc : Int) + off = (t : Int)) (kt : x < 0 → Go G l M t ls st h uc us K) (kf : ¬ x < 0 → Go G l M (pc + 3) ls st h uc us K) : Go G l M pc ls (vI x :: st) h uc us K := by
  intro p e s m args below meth c ad A H locs la E hA hw hx hS hl
  exact lv_if_lt E.1 E.2.1 hd ht (fun q => kt q p e s m args below meth c ad A H locs la E hA hw hx hS hl) (fun q => kf q p e s m args below meth c ad A H locs la E hA hw hx hS hl)
theorem Go.icmp_lt {x y : Int32} {off : Int} {t : Nat} (hd : decode (mdB M) pc = .ok (.if_icmp .lt off, 3)) (ht : (pc : Int) + off = (t : Int)) (kt : x < y → Go G l M t ls st h uc us K) (kf : ¬ x < y → Go G l M (pc + 3) ls st h uc us K) : Go G l M pc ls (vI y :: vI x :: st) h uc us K := by
  intro p e s m args below meth c ad A H locs la E hA hw hx hS hl
  exact lv_icmp_lt E.1 E.2.1 hd ht (fun q => kt q p e s m args below meth c ad A H locs la E hA hw hx hS hl) (fun q => kf q p e s m args below meth c ad A H locs la E hA hw hx hS hl)
theorem Go.if_ge {x : Int32} {off : Int} {t : Nat} (hd : decode (mdB M) pc = .ok (.ifCond .ge off, 3)) (ht : (pc : Int) + off = (t : Int)) (kt : 0 ≤ x → Go G l M t ls st h uc us K) (kf : ¬ 0 ≤ x → Go G l M (pc + 3) ls st h uc us K) : Go G l M pc ls (vI x :: st) h uc us K := by
  intro p e s m args below meth c ad A H locs la E hA hw hx hS hl
  exact lv_if_ge E.1 E.2.1 hd ht (fun q => kt q p e s m args below meth c ad A H locs la E hA hw hx hS hl) (fun q => kf q p e s m args below meth c ad A H locs la E hA hw hx hS hl)
theorem Go.icmp_ge {x y : Int32} {off : Int} {t : Nat} (hd : decode (mdB M) pc = .ok (.if_icmp .ge off, 3)) (ht : (pc : Int) + off = (t : Int)) (kt : y ≤ x → Go G l M t ls st h uc us K) (kf : ¬ y ≤ x → Go G l M (pc + 3) ls st h uc us K) : Go G l M pc ls (vI y :: vI x :: st) h uc us K := by
  intro p e s m args below meth c ad A H locs la E hA hw hx hS hl
  exact lv_icmp_ge E.1 E.2.1 hd ht (fun q => kt q p e s m args below meth c ad A H locs la E hA hw hx hS hl) (fun q => kf q p e s m args below meth c ad A H locs la E hA hw hx hS hl)
theorem Go.if_gt {x : Int32} {off : Int} {t : Nat} (hd : decode (mdB M) pc = .ok (.ifCond .gt off, 3)) (ht : (pc : Int) + off = (t : Int)) (kt : 0 < x → Go G l M t ls st h uc us K) (kf : ¬ 0 < x → Go G l M (pc + 3) ls st h uc us K) : Go G l M pc ls (vI x :: st) h uc us K := by
  intro p e s m args below meth c ad A H locs la E hA hw hx hS hl
  exact lv_if_gt E.1 E.2.1 hd ht (fun q => kt q p e s m args below meth c ad A H locs la E hA hw hx hS hl) (fun q => kf q p e s m args below meth c ad A H locs la E hA hw hx hS hl)
theorem Go.icmp_gt {x y : Int32} {off : Int} {t : Nat} (hd : decode (mdB M) pc = .ok (.if_icmp .gt off, 3)) (ht : (pc : Int) + off = (t : Int)) (kt : y < x → Go G l M t ls st h uc us K) (kf : ¬ y < x → Go G l M (pc + 3) ls st h uc us K) : Go G l M pc ls (vI y :: vI x :: st) h uc us K := by
  intro p e s m args below meth c ad A H locs la E hA hw hx hS hl
  exact lv_icmp_gt E.1 E.2.1 hd ht (fun q => kt q p e s m args below meth c ad A H locs la E hA hw hx hS hl) (fun q => kf q p e s m args below meth c ad A H locs la E hA hw hx hS hl)
theorem Go.if_le {x : Int32} {off : Int} {t : Nat} (hd : decode (mdB M) pc = .ok (.ifCond .le off, 3)) (ht : (pc : Int) + off = (t : Int)) (kt : x ≤ 0 → Go G l M t ls st h uc us K) (kf : ¬ x ≤ 0 → Go G l M (pc + 3) ls st h uc us K) : Go G l M pc ls (vI x :: st) h uc us K := by
  intro p e s m args below meth c ad A H locs la E hA hw hx hS hl
  exact lv_if_le E.1 E.2.1 hd ht (fun q => kt q p e s m args below meth c ad A H locs la E hA hw hx hS hl) (fun q => kf q p e s m args below meth c ad A H locs la E hA hw hx hS hl)
theorem Go.icmp_le {x y : Int32} {off : Int} {t : Nat} (hd : decode (mdB M) pc = .ok (.if_icmp .le off, 3)) (ht : (pc : Int) + off = (t : Int)) (kt : x ≤ y → Go G l M t ls st h uc us K) (kf : ¬ x ≤ y → Go G l M (pc + 3) ls st h uc us K) : Go G l M pc ls (vI y :: vI x :: st) h uc us K := by
  intro p e s m args below meth c ad A H locs la E hA hw hx hS hl
  exact lv_icmp_le E.1 E.2.1 hd ht (fun q => kt q p e s m args below meth c ad A H locs la E hA hw hx hS hl) (fun q => kf q p e s m args below meth c ad A H locs la E hA hw hx hS hl)
theorem Go.iload {i : Nat} {x : Int32} (hd : decode (mdB M) pc = .ok (.iload i, 2)) (hi : ls[i]? = some (some (vI x))) (k : Go G l M (pc + 2) ls (vI x :: st) h uc us K) : Go G l M pc ls st h uc us K := by
  intro p e s m args below meth c ad A H locs la E hA hw hx hS hl
  exact lv_iload E.1 E.2.1 hd (hl.2.2 _ _ hi) (k p e s m args below meth c ad A H locs la E hA hw hx hS hl)
theorem Go.iload_n {n : Fin 4} {x : Int32} (hd : decode (mdB M) pc = .ok (.iload_n n, 1)) (hi : ls[(n : Nat)]? = some (some (vI x))) (k : Go G l M (pc + 1) ls (vI x :: st) h uc us K) : Go G l M pc ls st h uc us K := by
  intro p e s m args below meth c ad A H locs la E hA hw hx hS hl
  exact lv_iload_n E.1 E.2.1 hd rfl (hl.2.2 _ _ hi) (k p e s m args below meth c ad A H locs la E hA hw hx hS hl)
theorem Go.lload {i : Nat} {x : Int64} (hd : decode (mdB M) pc = .ok (.lload i, 2)) (hi : ls[i]? = some (some (vL x))) (k : Go G l M (pc + 2) ls (vL x :: st) h uc us K) : Go G l M pc ls st h uc us K := by
  intro p e s m args below meth c ad A H locs la E hA hw hx hS hl
  exact lv_lload E.1 E.2.1 hd (hl.2.2 _ _ hi) (k p e s m args below meth c ad A H locs la E hA hw hx hS hl)
theorem Go.lload_n {n : Fin 4} {x : Int64} (hd : decode (mdB M) pc = .ok (.lload_n n, 1)) (hi : ls[(n : Nat)]? = some (some (vL x))) (k : Go G l M (pc + 1) ls (vL x :: st) h uc us K) : Go G l M pc ls st h uc us K := by
  intro p e s m args below meth c ad A H locs la E hA hw hx hS hl
  exact lv_lload_n E.1 E.2.1 hd rfl (hl.2.2 _ _ hi) (k p e s m args below meth c ad A H locs la E hA hw hx hS hl)
theorem Go.aload {i x : Nat} (hdg : decode (mdB M) pc = .ok (.aload i, 2)) (hi : ls[i]? = some (some (vR x))) (k : Go G l M (pc + 2) ls (vR x :: st) h uc us K) : Go G l M pc ls st h uc us K := by
  intro p e s m args below meth c ad A H locs la E hA hw hx hS hl
  have hr := hl.2.2 _ _ hi
  have kk := k p e s m args below meth c ad A H locs la E hA hw hx hS hl
  by_cases e0 : x = 0
  · subst e0
    exact lv_aloadN E.1 E.2.1 hdg hr kk
  · simp only [List.map_cons, cv_ref (show 0 < x by omega)] at hr kk
    exact lv_aload E.1 E.2.1 hdg hr kk
theorem Go.aload_n {n : Fin 4} {x : Nat} (hdg : decode (mdB M) pc = .ok (.aload_n n, 1)) (hi : ls[(n : Nat)]? = some (some (vR x))) (k : Go G l M (pc + 1) ls (vR x :: st) h uc us K) : Go G l M pc ls st h uc us K := by
  intro p e s m args below meth c ad A H locs la E hA hw hx hS hl
  have hr := hl.2.2 _ _ hi
  have kk := k p e s m args below meth c ad A H locs la E hA hw hx hS hl
  by_cases e0 : x = 0
  · subst e0
    exact lv_aload_nN E.1 E.2.1 hdg rfl hr kk
  · simp only [List.map_cons, cv_ref (show 0 < x by omega)] at hr kk
    exact lv_aload_n E.1 E.2.1 hdg rfl hr kk
theorem Go.istore {i : Nat} {x : Int32} (hd : decode (mdB M) pc = .ok (.istore i, 2)) (hn : i < mdL M) (k : Go G l M (pc + 2) (sto ls i (vI x)) st h uc us K) : Go G l M pc ls (vI x :: st) h uc us K := by
  intro p e s m args below meth c ad A H locs la E hA hw hx hS hl
  exact lv_istore E.1 E.2.1 hd hl.has hn rfl (fun la2 h2 => k p e s m args below meth c ad A H locs la2 E hA hw hx hS (LV.sto1 rfl h2))
theorem Go.istore_n {n : Fin 4} {i : Nat} {x : Int32} (hd : decode (mdB M) pc = .ok (.istore_n n, 1)) (hi : (n : Nat) = i) (hn : i < mdL M) (k : Go G l M (pc + 1) (sto ls i (vI x)) st h uc us K) : Go G l M pc ls (vI x :: st) h uc us K := by
  intro p e s m args below meth c ad A H locs la E hA hw hx hS hl
  exact lv_istore_n E.1 E.2.1 hd hi hl.has hn rfl (fun la2 h2 => k p e s m args below meth c ad A H locs la2 E hA hw hx hS (LV.sto1 rfl h2))
theorem Go.lstore {i : Nat} {x : Int64} (hd : decode (mdB M) pc = .ok (.lstore i, 2)) (hn : i + 1 < mdL M) (k : Go G l M (pc + 2) (sto ls i (vL x)) st h uc us K) : Go G l M pc ls (vL x :: st) h uc us K := by
  intro p e s m args below meth c ad A H locs la E hA hw hx hS hl
  exact lv_lstore E.1 E.2.1 hd hl.has hn rfl (fun la2 h2 => k p e s m args below meth c ad A H locs la2 E hA hw hx hS (LV.sto2 rfl h2))
theorem Go.lstore_n {n : Fin 4} {i : Nat} {x : Int64} (hd : decode (mdB M) pc = .ok (.lstore_n n, 1)) (hi : (n : Nat) = i) (hn : i + 1 < mdL M) (k : Go G l M (pc + 1) (sto ls i (vL x)) st h uc us K) : Go G l M pc ls (vL x :: st) h uc us K := by
  intro p e s m args below meth c ad A H locs la E hA hw hx hS hl
  exact lv_lstore_n E.1 E.2.1 hd hi hl.has hn rfl (fun la2 h2 => k p e s m args below meth c ad A H locs la2 E hA hw hx hS (LV.sto2 rfl h2))
theorem Go.astore {i x : Nat} (hdg : decode (mdB M) pc = .ok (.astore i, 2)) (hn : i < mdL M) (k : Go G l M (pc + 2) (sto ls i (vR x)) st h uc us K) : Go G l M pc ls (vR x :: st) h uc us K := by
  intro p e s m args below meth c ad A H locs la E hA hw hx hS hl
  by_cases e0 : x = 0
  · subst e0
    exact lv_astoreN E.1 E.2.1 hdg hl.has hn rfl (fun la2 h2 => k p e s m args below meth c ad A H locs la2 E hA hw hx hS (LV.sto1 rfl h2))
  · simp only [List.map_cons, cv_ref (show 0 < x by omega)]
    exact lv_astore E.1 E.2.1 hdg hl.has hn rfl (fun la2 h2 => k p e s m args below meth c ad A H locs la2 E hA hw hx hS (LV.sto1 rfl (by rw [cv_ref (show 0 < x by omega)]; exact h2)))
theorem Go.astore_n {n : Fin 4} {i x : Nat} (hdg : decode (mdB M) pc = .ok (.astore_n n, 1)) (hi : (n : Nat) = i) (hn : i < mdL M) (k : Go G l M (pc + 1) (sto ls i (vR x)) st h uc us K) : Go G l M pc ls (vR x :: st) h uc us K := by
  intro p e s m args below meth c ad A H locs la E hA hw hx hS hl
  by_cases e0 : x = 0
  · subst e0
    exact lv_astore_nN E.1 E.2.1 hdg hi hl.has hn rfl (fun la2 h2 => k p e s m args below meth c ad A H locs la2 E hA hw hx hS (LV.sto1 rfl h2))
  · simp only [List.map_cons, cv_ref (show 0 < x by omega)]
    exact lv_astore_n E.1 E.2.1 hdg hi hl.has hn rfl (fun la2 h2 => k p e s m args below meth c ad A H locs la2 E hA hw hx hS (LV.sto1 rfl (by rw [cv_ref (show 0 < x by omega)]; exact h2)))
theorem Go.iinc {i : Nat} {n : Int} {x v : Int32} (hd : decode (mdB M) pc = .ok (.iinc i n, 3)) (hi : ls[i]? = some (some (vI x))) (hv : x + Int32.ofInt n = v) (hn : i < mdL M) (k : Go G l M (pc + 3) (sto ls i (vI v)) st h uc us K) : Go G l M pc ls st h uc us K := by
  intro p e s m args below meth c ad A H locs la E hA hw hx hS hl
  obtain ⟨j, hj⟩ := List.getElem?_of_mem (lvl_mem (ad := ad) hi)
  exact lv_iinc E.1 E.2.1 hd hl.has hj hv hn rfl (fun la2 h2 => k p e s m args below meth c ad A H locs la2 E hA hw hx hS (LV.sto1 rfl h2))
end GoRows
