/-! ===== making cells, by program: the heap as a list of cells ===== -/
/-- a cell: its shape, the ints and the references written to it, the latest first -/
abbrev CL : Type := (Nat ⊕ (Nat × Nat)) × List (Nat × Int32) × List (Nat × Nat)
def lkI : List (Nat × Int32) → Nat → Int32
  | [], _ => 0
  | q :: r, j => match Nat.beq j q.1 with
    | true => q.2
    | false => lkI r j
def lkR : List (Nat × Nat) → Nat → Nat
  | [], _ => 0
  | q :: r, j => match Nat.beq j q.1 with
    | true => q.2
    | false => lkR r j
def isCl (h : AH) (k : Nat) (c : CL) : Prop := hS h k = c.1 ∧ (∀ j, hI h k j = lkI c.2.1 j) ∧ ∀ j, hR h k j = lkR c.2.2 j
def HD (L : List CL) (h : AH) : Prop := hN h = L.length ∧ ∀ k c, L[k]? = some c → isCl h (k + 1) c
theorem lkI_cons {r : List (Nat × Int32)} {i j : Nat} {v : Int32} : lkI ((i, v) :: r) j = if j = i then v else lkI r j := by
  unfold lkI
  split
  · rename_i e; rw [if_pos (Nat.eq_of_beq_eq_true e)]
  · rename_i e; rw [if_neg (fun z => by rw [z, Nat.beq_refl] at e; cases e)]
    cases r <;> rfl
theorem lkR_cons {r : List (Nat × Nat)} {i j v : Nat} : lkR ((i, v) :: r) j = if j = i then v else lkR r j := by
  unfold lkR
  split
  · rename_i e; rw [if_pos (Nat.eq_of_beq_eq_true e)]
  · rename_i e; rw [if_neg (fun z => by rw [z, Nat.beq_refl] at e; cases e)]
    cases r <;> rfl
theorem HD.new {L : List CL} {h : AH} {sp : Nat ⊕ (Nat × Nat)} (q : HD L h) : HD (L ++ [(sp, [], [])]) (newC h sp) := by
  have e0 : h.1 = L.length := q.1
  refine ⟨by rw [List.length_append, ← q.1]; rfl, fun k c hk => ?_⟩
  by_cases z : k < L.length
  · rw [List.getElem?_append_left z] at hk
    obtain ⟨g1, g2, g3⟩ := q.2 k c hk
    have hn : ¬ k + 1 = h.1 + 1 := by rw [e0]; omega
    refine ⟨?_, fun j => ?_, fun j => ?_⟩
    · rw [← g1]; simp only [hS, newC, hn, if_false]
    · rw [← g2]; simp only [hI, newC, hn, if_false]
    · rw [← g3]; simp only [hR, newC, hn, if_false]
  · have hk2 := (List.getElem?_eq_some_iff.mp hk).1
    rw [List.length_append] at hk2
    have : k = L.length := by simp at hk2; omega
    subst this
    simp at hk
    subst hk
    have hn : L.length + 1 = h.1 + 1 := by rw [e0]
    refine ⟨?_, fun j => ?_, fun j => ?_⟩
    · simp only [hS, newC, hn, if_true]
    · simp only [hI, newC, hn, if_true]; rfl
    · simp only [hR, newC, hn, if_true]; rfl
theorem HD.setI {L : List CL} {h : AH} {k j : Nat} {x : Int32} {c : CL} (q : HD L h) (h0 : 0 < k) (hc : L[k - 1]? = some c) : HD (L.set (k - 1) (c.1, (j, x) :: c.2.1, c.2.2)) (setI h k j x) := by
  refine ⟨by rw [List.length_set]; exact q.1, fun k' c' hk => ?_⟩
  have ek : k - 1 + 1 = k := by omega
  by_cases z : k - 1 = k'
  · subst z
    have hl := (List.getElem?_eq_some_iff.mp hc).1
    rw [List.getElem?_set_self hl] at hk
    cases hk
    obtain ⟨g1, g2, g3⟩ := q.2 _ c hc
    rw [ek] at g1 g2 g3 ⊢
    refine ⟨g1, fun j' => ?_, g3⟩
    rw [lkI_cons, ← g2]
    show up2 (hI h) k j x k j' = _
    unfold up2
    by_cases e : j' = j
    · rw [if_pos ⟨rfl, e⟩, if_pos e]
    · rw [if_neg (fun z => e z.2), if_neg e]
  · rw [List.getElem?_set_ne z] at hk
    obtain ⟨g1, g2, g3⟩ := q.2 k' c' hk
    refine ⟨g1, fun j' => ?_, g3⟩
    rw [← g2]
    show up2 (hI h) k j x (k' + 1) j' = _
    unfold up2
    rw [if_neg (fun e => by omega)]
theorem HD.setR {L : List CL} {h : AH} {k j x : Nat} {c : CL} (q : HD L h) (h0 : 0 < k) (hc : L[k - 1]? = some c) : HD (L.set (k - 1) (c.1, c.2.1, (j, x) :: c.2.2)) (setR h k j x) := by
  refine ⟨by rw [List.length_set]; exact q.1, fun k' c' hk => ?_⟩
  have ek : k - 1 + 1 = k := by omega
  by_cases z : k - 1 = k'
  · subst z
    have hl := (List.getElem?_eq_some_iff.mp hc).1
    rw [List.getElem?_set_self hl] at hk
    cases hk
    obtain ⟨g1, g2, g3⟩ := q.2 _ c hc
    rw [ek] at g1 g2 g3 ⊢
    refine ⟨g1, g2, fun j' => ?_⟩
    rw [lkR_cons, ← g3]
    show up2 (hR h) k j x k j' = _
    unfold up2
    by_cases e : j' = j
    · rw [if_pos ⟨rfl, e⟩, if_pos e]
    · rw [if_neg (fun z => e z.2), if_neg e]
  · rw [List.getElem?_set_ne z] at hk
    obtain ⟨g1, g2, g3⟩ := q.2 k' c' hk
    refine ⟨g1, g2, fun j' => ?_⟩
    rw [← g3]
    show up2 (hR h) k j x (k' + 1) j' = _
    unfold up2
    rw [if_neg (fun e => by omega)]
theorem HD.is {L : List CL} {h : AH} {k : Nat} {c : CL} (q : HD L h) (h0 : 0 < k) (hc : L[k - 1]? = some c) : k ≤ hN h ∧ isCl h k c := by
  have hl := (List.getElem?_eq_some_iff.mp hc).1
  have g := q.2 _ c hc
  rw [show k - 1 + 1 = k by omega] at g
  exact ⟨by rw [q.1]; omega, g⟩
def gd {α : Type} (b : Bool) (x : Option α) : Option α := match b with
  | true => x
  | false => none
theorem gd.of {α : Type} {b : Bool} {x : Option α} {y : α} (h : gd b x = some y) : b = true ∧ x = some y := by
  cases b
  · cases h
  · exact ⟨rfl, h⟩
/-- the cell of a handle -/
def cel {α : Type} (L : List CL) (k : Nat) (f : CL → Option α) : Option α := match Nat.blt 0 k with
  | true => match L[k - 1]? with
    | some c => f c
    | none => none
  | false => none
theorem cel.of {α : Type} {L : List CL} {k : Nat} {f : CL → Option α} {y : α} (h : cel L k f = some y) : 0 < k ∧ ∃ c, L[k - 1]? = some c ∧ f c = some y := by
  unfold cel at h
  split at h
  · rename_i e
    refine ⟨Nat.le_of_ble_eq_true e, ?_⟩
    split at h
    · rename_i c e2; exact ⟨c, e2, h⟩
    · cases h
  · cases h
def oh (n : Nat) : AV → Bool
  | .inr (.inr k) => Nat.ble k n || Nat.ble xh k
  | _ => true
def okb (n : Nat) (ls : List (Option AV)) (st : List AV) : Bool := ls.all (fun o => match o with
  | some a => oh n a
  | none => true) && st.all (oh n)
theorem oh.of {n k : Nat} (h : oh n (vR k) = true) : k ≤ n ∨ xh ≤ k := by
  rcases Bool.or_eq_true_iff.mp (show (Nat.ble k n || Nat.ble xh k) = true from h) with z | z
  · exact Or.inl (Nat.le_of_ble_eq_true z)
  · exact Or.inr (Nat.le_of_ble_eq_true z)
theorem okVX.of {n : Nat} : ∀ {st : List AV}, st.all (oh n) = true → okVX n st
  | [], _ => trivial
  | .inl _ :: st, h => okVX.of (st := st) (by simp only [List.all_cons, Bool.and_eq_true] at h; exact h.2)
  | .inr (.inl _) :: st, h => okVX.of (st := st) (by simp only [List.all_cons, Bool.and_eq_true] at h; exact h.2)
  | .inr (.inr k) :: st, h => by simp only [List.all_cons, Bool.and_eq_true] at h; exact ⟨oh.of h.1, okVX.of h.2⟩
theorem okOX.of {n : Nat} : ∀ {ls : List (Option AV)}, ls.all (fun o => match o with
  | some a => oh n a
  | none => true) = true → okOX n ls
  | [], _ => trivial
  | none :: ls, h => okOX.of (ls := ls) (by simp only [List.all_cons, Bool.and_eq_true] at h; exact h.2)
  | some (.inl _) :: ls, h => okOX.of (ls := ls) (by simp only [List.all_cons, Bool.and_eq_true] at h; exact h.2)
  | some (.inr (.inl _)) :: ls, h => okOX.of (ls := ls) (by simp only [List.all_cons, Bool.and_eq_true] at h; exact h.2)
  | some (.inr (.inr k)) :: ls, h => by simp only [List.all_cons, Bool.and_eq_true] at h; exact ⟨oh.of h.1, okOX.of h.2⟩
theorem okb.of {n : Nat} {ls : List (Option AV)} {st : List AV} (h : okb n ls st = true) : okOX n ls ∧ okVX n st := by
  unfold okb at h
  rw [Bool.and_eq_true] at h
  exact ⟨okOX.of h.1, okVX.of h.2⟩
/-- rows of a constructor, held against bytes and tables -/
def rowM (m : Nat) (r : Row) : Bool := match r with
  | (pc, len, ins, a, b, t, pl, v, tb) => match ins with
    | .new i => (match decode (mdB (mt m)) pc with
      | .ok (i', n) => decide (i' = Instr.new i) && Nat.beq n 3
      | _ => false) && (match vwCl[a]? with
      | some q => wIs b (.classLink (cnm (mcn m)) i q.1) && (wIs t (.instantiable q.1 q.2.2) && (wIs pl (.initialized q.1) && dfOK a))
      | none => false)
    | .newarray ty => (match decode (mdB (mt m)) pc with
      | .ok (i', n) => decide (i' = Instr.newarray ty) && Nat.beq n 2
      | _ => false) && (Nat.blt a 3 && (decide (ty = atyp a) && wIs pl (.arrayClass (ftyp a))))
    | .anewarray i => (match decode (mdB (mt m)) pc with
      | .ok (i', n) => decide (i' = Instr.anewarray i) && Nat.beq n 3
      | _ => false) && ((Nat.beq a 3 || Nat.beq a 4) && wIs pl (.classLink (cnm (mcn m)) i (rtyp a)))
    | .invokespecial i => (match decode (mdB (mt m)) pc with
      | .ok (i', n) => decide (i' = Instr.invokespecial i) && Nat.beq n 3
      | _ => false) && (match t with
      | 0 => wIs pl (.methodLink (cnm (mcn m)) i Lib.objectInit) && (Nat.ble 1 (mdR (mt m)).frames && Nat.ble 20 (mdR (mt m)).locals)
      | _ => decide ((mlt[pl]?).map (fun q => (q.1, q.2.1, q.2.2.1, q.2.2.2.1)) = some (mcn m, i, a, b)) && (Nat.blt a 292 && (Nat.beq (mtK a).1 2 && (Nat.beq (mtK a).2.1 0 && (Nat.ble ((mdR (mt a)).frames + 1) (mdR (mt m)).frames && Nat.ble (8 + (mdL (mt a) + 11) + (mdR (mt a)).locals) (mdR (mt m)).locals)))))
    | .putfield i => (match decode (mdB (mt m)) pc with
      | .ok (i', n) => decide (i' = Instr.putfield i) && Nat.beq n 3
      | _ => false) && (decide ((flt[pl]?).map (fun q => (q.1, q.2.1, q.2.2.1, q.2.2.2.1, q.2.2.2.2.1)) = some (mcn m, i, a, b, t)) && (match vwCl[a]? with
      | some q => !(q.2.1 b).2.2.2 || (decide ((mdN (mt m)).name = "<init>") && decide ((q.2.1 b).1 = (mdN (mt m)).cls))
      | none => false))
    | _ => rowOK m r
/-- one instruction, on the list -/
def stR (m : Nat) (r : Row) (ls : List (Option AV)) (st : List AV) (L : List CL) (uc us : Nat) (kk : Nat → List (Option AV) → List AV → List CL → Nat → Nat → Option (List CL)) (call : Nat → List AV → List CL → Option (List CL)) : Option (List CL) := match r with
  | (pc, _, ins, a, b, t, _, v, _) => match ins with
    | .aload_n i => match ls[i.val]? with
      | some (some (.inr (.inr x))) => kk (pc + 1) ls (vR x :: st) L uc us
      | _ => none
    | .iload_n i => match ls[i.val]? with
      | some (some (.inl x)) => kk (pc + 1) ls (vI x :: st) L uc us
      | _ => none
    | .iconst _ => kk (pc + 1) ls (vI v :: st) L uc us
    | .bipush _ => kk (pc + 2) ls (vI v :: st) L uc us
    | .sipush _ => kk (pc + 3) ls (vI v :: st) L uc us
    | .dup => match st with
      | .inr (.inr x) :: st => kk (pc + 1) ls (vR x :: vR x :: st) L uc us
      | _ => none
    | .istore_n i => match st with
      | .inl x :: st => kk (pc + 1) (sto ls i.val (vI x)) st L uc us
      | _ => none
    | .iinc i _ => match ls[i]? with
      | some (some (.inl x)) => kk (pc + 3) (sto ls i (vI (x + v))) st L uc us
      | _ => none
    | .goto _ => kk a ls st L uc us
    | .if_icmp .ge _ => match st with
      | .inl y :: .inl x :: st => if y ≤ x then kk a ls st L uc us else kk (pc + 3) ls st L uc us
      | _ => none
    | .getfield _ => match st with
      | .inr (.inr k) :: st => cel L k (fun c => gd (decide (c.1 = .inl a) && Nat.beq t 2) (kk (pc + 3) ls (vR (lkR c.2.2 b) :: st) L uc us))
      | _ => none
    | .putfield _ => match st with
      | .inr (.inr x) :: .inr (.inr k) :: st => cel L k (fun c => gd (decide (c.1 = .inl a) && (Nat.beq t 2 && (Nat.blt 0 x && Nat.ble x L.length))) (kk (pc + 3) ls st (L.set (k - 1) (c.1, c.2.1, (b, x) :: c.2.2)) uc us))
      | .inl x :: .inr (.inr k) :: st => cel L k (fun c => gd (decide (c.1 = .inl a) && (Nat.beq t 0 || (Nat.beq t 3 && (decide (x = 0) || decide (x = 1))))) (kk (pc + 3) ls st (L.set (k - 1) (c.1, (b, x) :: c.2.1, c.2.2)) uc us))
      | _ => none
    | .new _ => match vwCl[a]? with
      | some q => gd (Nat.ble (uc + 1) (mdR (mt m)).cells && (Nat.ble (us + q.2.2) (mdR (mt m)).slots && (Nat.blt (L.length + 1) xh && okb L.length ls st))) (kk (pc + 3) ls (vR (L.length + 1) :: st) (L ++ [(.inl a, [], [])]) (uc + 1) (us + q.2.2))
      | none => none
    | .newarray _ => match st with
      | .inl x :: st => gd (decide (x = nI (ix x)) && (Nat.ble (ix x) 65536 && (Nat.ble (uc + 1) (mdR (mt m)).cells && (Nat.ble (us + ix x) (mdR (mt m)).slots && (Nat.blt (L.length + 1) xh && okb L.length ls st))))) (kk (pc + 2) ls (vR (L.length + 1) :: st) (L ++ [(.inr (a, ix x), [], [])]) (uc + 1) (us + ix x))
      | _ => none
    | .anewarray _ => match st with
      | .inl x :: st => gd (decide (x = nI (ix x)) && (Nat.ble (ix x) 65536 && (Nat.ble (uc + 1) (mdR (mt m)).cells && (Nat.ble (us + ix x) (mdR (mt m)).slots && (Nat.blt (L.length + 1) xh && okb L.length ls st))))) (kk (pc + 3) ls (vR (L.length + 1) :: st) (L ++ [(.inr (a, ix x), [], [])]) (uc + 1) (us + ix x))
      | _ => none
    | .invokespecial _ => match st with
      | .inr (.inr k) :: st => match t with
        | 0 => gd (Nat.blt 0 k && Nat.ble (szS st) 8) (kk (pc + 3) ls st L uc us)
        | _ => cel L k (fun c => match c.1 with
          | .inl _ => gd (Nat.ble (szS st) 8 && (Nat.ble (uc + (mdR (mt a)).cells) (mdR (mt m)).cells && (Nat.ble (us + (mdR (mt a)).slots) (mdR (mt m)).slots && okb L.length ls st))) (match call a [vR k] L with
            | some L' => kk (pc + 3) ls st L' (uc + (mdR (mt a)).cells) (us + (mdR (mt a)).slots)
            | none => none)
          | .inr _ => none)
      | _ => none
    | .aastore => match st with
      | .inr (.inr x) :: .inl i :: .inr (.inr k) :: st => cel L k (fun c => cel L x (fun d => match c.1 with
        | .inr (ty, n) => gd (Nat.beq ty t && (decide (i = nI (ix i)) && (Nat.blt (ix i) n && (Nat.ble n 10000 && decide (d.1 = .inl a))))) (kk (pc + 1) ls st (L.set (k - 1) (c.1, c.2.1, (ix i, x) :: c.2.2)) uc us)
        | .inl _ => none))
      | _ => none
    | .iastore => match st with
      | .inl x :: .inl i :: .inr (.inr k) :: st => cel L k (fun c => match c.1 with
        | .inr (ty, n) => gd (Nat.beq ty 0 && (decide (i = nI (ix i)) && (Nat.blt (ix i) n && Nat.ble n 10000))) (kk (pc + 1) ls st (L.set (k - 1) (c.1, (ix i, x) :: c.2.1, c.2.2)) uc us)
        | .inl _ => none)
      | _ => none
    | .return_ => match st with
      | [] => gd (Nat.ble uc (mdR (mt m)).cells && Nat.ble us (mdR (mt m)).slots) (some L)
      | _ => none
    | _ => none
