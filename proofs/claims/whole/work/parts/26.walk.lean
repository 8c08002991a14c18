/-! ===== the walk as a formula ===== -/
def pI (st : List AV) (f : Int32 → List AV → Prop) : Prop := match st with
  | .inl x :: r => f x r
  | _ => False
def pL (st : List AV) (f : Int64 → List AV → Prop) : Prop := match st with
  | .inr (.inl x) :: r => f x r
  | _ => False
def pR (st : List AV) (f : Nat → List AV → Prop) : Prop := match st with
  | .inr (.inr x) :: r => f x r
  | _ => False
def pII (st : List AV) (f : Int32 → Int32 → List AV → Prop) : Prop := match st with
  | .inl y :: .inl x :: r => f x y r
  | _ => False
def pLL (st : List AV) (f : Int64 → Int64 → List AV → Prop) : Prop := match st with
  | .inr (.inl y) :: .inr (.inl x) :: r => f x y r
  | _ => False
def pA (st : List AV) (f : AV → List AV → Prop) : Prop := match st with
  | a :: r => match isL a with
    | false => f a r
    | true => False
  | _ => False
def gl : List (Option AV) → Nat → Option AV
  | [], _ => none
  | a :: _, 0 => a
  | _ :: l, n + 1 => gl l n
theorem gl_at : ∀ {ls : List (Option AV)} {i : Nat} {a : AV}, gl ls i = some a → ls[i]? = some (some a)
  | [], i, a, h => by simp [gl] at h
  | b :: ls, 0, a, h => by simp only [gl] at h; subst h; rfl
  | b :: ls, i + 1, a, h => by simp only [gl] at h; simpa using gl_at h
def lI (o : Option AV) (f : Int32 → Prop) : Prop := match o with
  | some (.inl x) => f x
  | _ => False
def lL (o : Option AV) (f : Int64 → Prop) : Prop := match o with
  | some (.inr (.inl x)) => f x
  | _ => False
def lR (o : Option AV) (f : Nat → Prop) : Prop := match o with
  | some (.inr (.inr x)) => f x
  | _ => False
/-- a store, by its place -/
def unL (o : Option AV) : Option AV := match o with
  | some (.inr (.inl _)) => none
  | o => o
def nx (l : List (Option AV)) : List (Option AV) := match l with
  | [] => []
  | _ :: l => none :: l
def sF : List (Option AV) → Nat → AV → List (Option AV)
  | [], _, _ => []
  | _ :: l, 0, .inr (.inl x) => some (.inr (.inl x)) :: nx l
  | _ :: l, 0, a => some a :: l
  | o :: l, 1, a => unL o :: sF l 0 a
  | o :: l, n + 2, a => o :: sF l (n + 1) a
theorem nx_get {l : List (Option AV)} {j : Nat} {b : AV} (h : (nx l)[j]? = some (some b)) : l[j]? = some (some b) ∧ j ≠ 0 := by
  cases l with
  | nil => simp [nx] at h
  | cons o l =>
    cases j with
    | zero => simp [nx] at h
    | succ j => simp only [nx, List.getElem?_cons_succ] at h ⊢; exact ⟨h, by omega⟩
theorem sF_get : ∀ (ls : List (Option AV)) (i j : Nat) (a b : AV), (sF ls i a)[j]? = some (some b) → (sto ls i a)[j]? = some (some b)
  | [], i, j, a, b, h => by simp [sF] at h
  | o :: l, 0, j, a, b, h => by
    rcases a with x | x | x
    · simpa [sF, sto, isL, cutL] using h
    · simp only [sF] at h
      simp only [sto, isL, cutL, if_true, List.set_cons_zero, List.set_cons_succ]
      cases j with
      | zero => simpa using h
      | succ j =>
        simp only [List.getElem?_cons_succ] at h ⊢
        obtain ⟨h1, h2⟩ := nx_get h
        rw [List.getElem?_set_ne (by omega)]
        exact h1
    · simpa [sF, sto, isL, cutL] using h
  | o :: l, 1, j, a, b, h => by
    simp only [sF] at h
    cases j with
    | zero =>
      simp only [List.getElem?_cons_zero] at h
      have h1 : unL o = some b := Option.some.inj h
      have h2 : o = some b ∧ isL b = false := by
        rcases o with _ | x | x | x
        · simp [unL] at h1
        · simp only [unL] at h1; injection h1 with h1; subst h1; exact ⟨rfl, rfl⟩
        · simp [unL] at h1
        · simp only [unL] at h1; injection h1 with h1; subst h1; exact ⟨rfl, rfl⟩
      obtain ⟨rfl, hb⟩ := h2
      have : cutL (some b :: l) 1 = some b :: l := by simp [cutL, offL, hb]
      unfold sto
      rw [this]
      split <;> simp
    | succ j =>
      simp only [List.getElem?_cons_succ] at h
      have := sF_get l 0 j a b h
      unfold sto at this ⊢
      simp only [cutL] at this ⊢
      have e : ∃ o', (if offL (o :: l)[0]? = true then (o :: l).set 0 none else o :: l) = o' :: l := by
        split
        · exact ⟨none, by simp⟩
        · exact ⟨o, rfl⟩
      obtain ⟨o', e⟩ := e
      rw [e]
      split at this
      · rename_i ha; simp only [ha, if_true, List.set_cons_succ, List.getElem?_cons_succ]; simpa using this
      · rename_i ha; simp only [ha, List.set_cons_succ, List.getElem?_cons_succ]; simpa using this
  | o :: l, n + 2, j, a, b, h => by
    simp only [sF] at h
    have e : cutL (o :: l) (n + 2) = o :: cutL l (n + 1) := by
      simp only [cutL, List.getElem?_cons_succ]
      split <;> simp
    cases j with
    | zero =>
      simp only [List.getElem?_cons_zero] at h
      unfold sto
      rw [e]
      split <;> simpa using h
    | succ j =>
      simp only [List.getElem?_cons_succ] at h
      have := sF_get l (n + 1) j a b h
      unfold sto at this ⊢
      rw [e]
      split at this
      · rename_i ha; simp only [ha, if_true, List.set_cons_succ, List.getElem?_cons_succ]; simpa using this
      · rename_i ha; simp only [ha, List.set_cons_succ, List.getElem?_cons_succ]; simpa using this
/-- words of the operand stack below a call -/
def szS : List AV → Nat
  | [] => 0
  | .inr (.inl _) :: r => szS r + 2
  | _ :: r => szS r + 1
theorem szS_eq : ∀ st : List AV, (st.map (fun a => if isL a then 2 else 1)).sum = szS st
  | [] => rfl
  | .inl x :: r => by rw [List.map_cons, List.sum_cons, szS_eq r]; show 1 + szS r = szS r + 1; omega
  | .inr (.inl x) :: r => by rw [List.map_cons, List.sum_cons, szS_eq r]; show 2 + szS r = szS r + 2; omega
  | .inr (.inr x) :: r => by rw [List.map_cons, List.sum_cons, szS_eq r]; show 1 + szS r = szS r + 1; omega
/-- the n arguments on top, the first one first -/
def pAs : Nat → List AV → List AV → (List AV → List AV → Prop) → Prop
  | 0, as, st, f => f as st
  | n + 1, as, a :: st, f => pAs n (a :: as) st f
  | _ + 1, _, [], _ => False
theorem pAs_of : ∀ (n : Nat) (as st : List AV) (f : List AV → List AV → Prop), pAs n as st f → ∃ bs r, st = bs.reverse ++ r ∧ bs.length = n ∧ f (bs ++ as) r
  | 0, as, st, f, h => ⟨[], st, rfl, rfl, h⟩
  | n + 1, as, [], f, h => h.elim
  | n + 1, as, a :: st, f, h => by
    obtain ⟨bs, r, h1, h2, h3⟩ := pAs_of n (a :: as) st f h
    refine ⟨bs ++ [a], r, ?_, by simp [h2], by simpa using h3⟩
    rw [h1]; simp
def swt (x : Int32) : List (Int32 × Nat) → Nat → (Nat → Prop) → Prop
  | [], d, f => f d
  | (v, t) :: r, d, f => (x = v → f t) ∧ (¬ x = v → swt x r d f)
def selT (x : Int32) : List (Int32 × Nat) → Nat → Nat
  | [], d => d
  | (v, t) :: r, d => if x = v then t else selT x r d
theorem swt_sel {x : Int32} : ∀ {tb : List (Int32 × Nat)} {d : Nat} {f : Nat → Prop}, swt x tb d f → f (selT x tb d)
  | [], d, f, h => h
  | (v, t) :: r, d, f, h => by
    simp only [selT]
    by_cases hx : x = v
    · rw [if_pos hx]; exact h.1 hx
    · rw [if_neg hx]; exact swt_sel (h.2 hx)
def b8 (n : Nat) (p : Prop) : Prop := match Nat.ble n 8 with
  | true => p
  | false => False
theorem b8.of {n : Nat} {p : Prop} (h : b8 n p) : n ≤ 8 ∧ p := by
  unfold b8 at h
  split at h
  · rename_i e; exact ⟨Nat.le_of_ble_eq_true e, h⟩
  · exact h.elim
/-- the answer of a call, by its kind -/
def rV (f : AH → Prop) : Option AV → AH → Prop := fun r h => match r with
  | none => f h
  | _ => False
def rI (f : Int32 → AH → Prop) : Option AV → AH → Prop := fun r h => match r with
  | some (.inl x) => f x h
  | _ => False
def rL (f : Int64 → AH → Prop) : Option AV → AH → Prop := fun r h => match r with
  | some (.inr (.inl x)) => f x h
  | _ => False
def rR (f : Nat → AH → Prop) : Option AV → AH → Prop := fun r h => match r with
  | some (.inr (.inr x)) => f x h
  | _ => False
def rk (tb : List (Int32 × Nat)) : Nat := match tb with
  | q :: _ => q.2
  | [] => 0
def rC (t : Nat) (f : List AV → AH → Prop) : Option AV → AH → Prop := match t with
  | 0 => rV (fun h => f [] h)
  | 1 => rI (fun x h => f [vI x] h)
  | 2 => rL (fun x h => f [vL x] h)
  | _ => rR (fun x h => f [vR x] h)
theorem rC_of {t : Nat} {f : List AV → AH → Prop} {r : Option AV} {h : AH} (q : rC t f r h) : f r.toList h := by
  unfold rC at q
  split at q
  · unfold rV at q; split at q
    · exact q
    · exact q.elim
  · unfold rI at q; split at q
    · exact q
    · exact q.elim
  · unfold rL at q; split at q
    · exact q
    · exact q.elim
  · unfold rR at q; split at q
    · exact q
    · exact q.elim
def fvt (t : Nat) (h : AH) (k j : Nat) : AV := match t with
  | 1 => vL (hL h k j)
  | 2 => vR (hR h k j)
  | _ => vI (hI h k j)
def mdf (x y : Int32) : Int32 := if (x ^^^ y) < 0 ∧ ¬ x - x / y * y = 0 then x - x / y * y + y else x - x / y * y
/-- a load, its value chosen -/
def gft (t : Nat) (h : AH) (k j : Nat) (f : AV → Prop) : Prop := match t with
  | 1 => ∃ v, hL h k j = v ∧ f (vL v)
  | 2 => ∃ v, hR h k j = v ∧ f (vR v)
  | _ => ∃ v, hI h k j = v ∧ f (vI v)
theorem gft_of {t : Nat} {h : AH} {k j : Nat} {f : AV → Prop} (q : gft t h k j f) : f (fvt t h k j) := by
  unfold gft at q
  unfold fvt
  split at q <;> obtain ⟨v, rfl, q⟩ := q <;> exact q
/-- one instruction: k is asked of what comes next, K of the answer -/
def stp (G : GP) (S : Nat → List AV → AH → (Option AV → AH → Prop) → Prop) (r : Row) (ls : List (Option AV)) (st : List AV) (h : AH) (k : Nat → List (Option AV) → List AV → AH → Prop) (K : Option AV → AH → Prop) : Prop := match r with
  | (pc, _, ins, a, b, t, _, v, tb) => match ins with
    | .iadd => pII st (fun x y st => k (pc + 1) ls (vI (x + y) :: st) h)
    | .isub => pII st (fun x y st => k (pc + 1) ls (vI (x - y) :: st) h)
    | .imul => pII st (fun x y st => k (pc + 1) ls (vI (x * y) :: st) h)
    | .iand => pII st (fun x y st => k (pc + 1) ls (vI (x &&& y) :: st) h)
    | .ior => pII st (fun x y st => k (pc + 1) ls (vI (x ||| y) :: st) h)
    | .ixor => pII st (fun x y st => k (pc + 1) ls (vI (x ^^^ y) :: st) h)
    | .ishl => pII st (fun x y st => k (pc + 1) ls (vI (x <<< (y &&& 31)) :: st) h)
    | .ishr => pII st (fun x y st => k (pc + 1) ls (vI (x >>> (y &&& 31)) :: st) h)
    | .idiv => pII st (fun x y st => ¬ y = 0 ∧ k (pc + 1) ls (vI (x / y) :: st) h)
    | .irem => pII st (fun x y st => ¬ y = 0 ∧ k (pc + 1) ls (vI (x - x / y * y) :: st) h)
    | .ladd => pLL st (fun x y st => k (pc + 1) ls (vL (x + y) :: st) h)
    | .lsub => pLL st (fun x y st => k (pc + 1) ls (vL (x - y) :: st) h)
    | .lmul => pLL st (fun x y st => k (pc + 1) ls (vL (x * y) :: st) h)
    | .land => pLL st (fun x y st => k (pc + 1) ls (vL (x &&& y) :: st) h)
    | .lor => pLL st (fun x y st => k (pc + 1) ls (vL (x ||| y) :: st) h)
    | .ldiv => pLL st (fun x y st => ¬ y = 0 ∧ k (pc + 1) ls (vL (x / y) :: st) h)
    | .lrem => pLL st (fun x y st => ¬ y = 0 ∧ k (pc + 1) ls (vL (x - x / y * y) :: st) h)
    | .ineg => pI st (fun x st => k (pc + 1) ls (vI (-x) :: st) h)
    | .i2l => pI st (fun x st => k (pc + 1) ls (vL x.toInt64 :: st) h)
    | .l2i => pL st (fun x st => k (pc + 1) ls (vI x.toInt32 :: st) h)
    | .lshl => pI st (fun y st => pL st (fun x st => k (pc + 1) ls (vL (x <<< (y.toInt64 &&& 63)) :: st) h))
    | .lcmp => pLL st (fun x y st => k (pc + 1) ls (vI (lg_cmp x y) :: st) h)
    | .iconst _ => k (pc + 1) ls (vI v :: st) h
    | .bipush _ => k (pc + 2) ls (vI v :: st) h
    | .sipush _ => k (pc + 3) ls (vI v :: st) h
    | .lconst _ => k (pc + 1) ls (vL (Int64.ofNat a) :: st) h
    | .ldc2_w _ => k (pc + 3) ls (vL (Int64.ofNat a) :: st) h
    | .ldc _ => match t with
      | 0 => k (pc + 2) ls (vI v :: st) h
      | _ => k (pc + 2) ls (vR (xh + b) :: st) h
    | .ldc_w _ => k (pc + 3) ls (vI v :: st) h
    | .goto _ => k a ls st h
    | .dup => pA st (fun x st => k (pc + 1) ls (x :: x :: st) h)
    | .pop => pA st (fun _ st => k (pc + 1) ls st h)
    | .dup2 => pA st (fun x st => pA st (fun y st => k (pc + 1) ls (x :: y :: x :: y :: st) h))
    | .iload i => lI (gl ls i) (fun x => k (pc + 2) ls (vI x :: st) h)
    | .iload_n n => lI (gl ls n.val) (fun x => k (pc + 1) ls (vI x :: st) h)
    | .lload i => lL (gl ls i) (fun x => k (pc + 2) ls (vL x :: st) h)
    | .lload_n n => lL (gl ls n.val) (fun x => k (pc + 1) ls (vL x :: st) h)
    | .aload i => lR (gl ls i) (fun x => k (pc + 2) ls (vR x :: st) h)
    | .aload_n n => lR (gl ls n.val) (fun x => k (pc + 1) ls (vR x :: st) h)
    | .istore i => pI st (fun x st => k (pc + 2) (sF ls i (vI x)) st h)
    | .istore_n n => pI st (fun x st => k (pc + 1) (sF ls n.val (vI x)) st h)
    | .lstore i => pL st (fun x st => k (pc + 2) (sF ls i (vL x)) st h)
    | .lstore_n n => pL st (fun x st => k (pc + 1) (sF ls n.val (vL x)) st h)
    | .astore i => pR st (fun x st => k (pc + 2) (sF ls i (vR x)) st h)
    | .astore_n n => pR st (fun x st => k (pc + 1) (sF ls n.val (vR x)) st h)
    | .iinc i _ => lI (gl ls i) (fun x => k (pc + 3) (sF ls i (vI (x + v))) st h)
    | .getfield _ => pR st (fun o st => Ob h o a ∧ gft t h o b (fun v => k (pc + 3) ls (v :: st) h))
    | .putfield _ => match t with
      | 0 => pI st (fun x st => pR st (fun o st => Ob h o a ∧ ∃ v, x = v ∧ k (pc + 3) ls st (setI h o b v)))
      | 1 => pL st (fun x st => pR st (fun o st => Ob h o a ∧ ∃ v, x = v ∧ k (pc + 3) ls st (setL h o b v)))
      | 2 => pR st (fun x st => pR st (fun o st => (Ob h o a ∧ 0 < x ∧ x ≤ hN h) ∧ k (pc + 3) ls st (setR h o b x)))
      | _ => pI st (fun x st => pR st (fun o st => (Ob h o a ∧ (x = 0 ∨ x = 1)) ∧ ∃ v, x = v ∧ k (pc + 3) ls st (setI h o b v)))
    | .iaload => match t with
      | 0 => pI st (fun i st => pR st (fun o st => InA h o 0 i ∧ ∃ v, hI h o (ix i) = v ∧ k (pc + 1) ls (vI v :: st) h))
      | _ => pI st (fun i st => pR st (fun o st => (o = xh + 9 ∧ vp_in i G.2.2.2.2.2.2.1) ∧ ∃ v, G.2.2.2.2.2.2.2 (ix i) = v ∧ k (pc + 1) ls (vI v :: st) h))
    | .baload => pI st (fun i st => pR st (fun o st => InA h o 2 i ∧ ∃ v, hI h o (ix i) = v ∧ k (pc + 1) ls (vI v :: st) h))
    | .laload => pI st (fun i st => pR st (fun o st => InA h o 1 i ∧ ∃ v, hL h o (ix i) = v ∧ k (pc + 1) ls (vL v :: st) h))
    | .aaload => pI st (fun i st => pR st (fun o st => InA h o t i ∧ ∃ v, hR h o (ix i) = v ∧ k (pc + 1) ls (vR v :: st) h))
    | .iastore => pI st (fun x st => pI st (fun i st => pR st (fun o st => InA h o 0 i ∧ ∃ j v, ix i = j ∧ x = v ∧ k (pc + 1) ls st (setI h o j v))))
    | .bastore => pI st (fun x st => pI st (fun i st => pR st (fun o st => (InA h o 2 i ∧ (x = 0 ∨ x = 1)) ∧ ∃ j v, ix i = j ∧ x = v ∧ k (pc + 1) ls st (setI h o j v))))
    | .lastore => pL st (fun x st => pI st (fun i st => pR st (fun o st => InA h o 1 i ∧ ∃ j v, ix i = j ∧ x = v ∧ k (pc + 1) ls st (setL h o j v))))
    | .aastore => pR st (fun x st => pI st (fun i st => pR st (fun o st => (InA h o t i ∧ Ob h x a) ∧ ∃ j, ix i = j ∧ k (pc + 1) ls st (setR h o j x))))
    | .arraylength => match t with
      | 0 => pR st (fun o st => ∃ ty n, ty < 5 ∧ Ar h o ty n ∧ k (pc + 1) ls (vI (nI n) :: st) h)
      | _ => pR st (fun o st => o = xh + 9 ∧ k (pc + 1) ls (vI (nI G.2.2.2.2.2.2.1) :: st) h)
    | .tableswitch _ _ _ _ => pI st (fun x st => swt x tb a (fun tgt => k tgt ls st h))
    | .lookupswitch _ _ => pI st (fun x st => swt x tb a (fun tgt => k tgt ls st h))
    | .invokevirtual _ => match Nat.blt t 50 with
      | true => pAs b [] st (fun as st => pR st (fun o st => b8 (szS st) (Ob h o t ∧ S a (vR o :: as) h (rC (rk tb) (fun r h => k (pc + 3) ls (r ++ st) h)))))
      | false => pAs b [] st (fun as st => pR st (fun o st => b8 (szS st) ((o = xh ∨ o = xh + 1 ∨ o = xh + 2) ∧ S a (vR o :: as) h (rC (rk tb) (fun r h => k (pc + 3) ls (r ++ st) h)))))
    | .invokestatic _ => match t with
      | 2 => pI st (fun n st => pI st (fun dp st => pR st (fun d st => pI st (fun sp st => pR st (fun s st => b8 (szS st) (∃ na nb, Ar h s 0 na ∧ Ar h d 0 nb ∧ ¬ sp < 0 ∧ ¬ dp < 0 ∧ ¬ n < 0 ∧ ix sp + ix n ≤ na ∧ ix dp + ix n ≤ nb ∧ k (pc + 3) ls st (rowI h d (va_cpy (hI h s) (hI h d) (ix sp) (ix dp) (ix n)))))))))
      | 3 => pII st (fun x y st => b8 (szS st) (k (pc + 3) ls (vI (if y < x then y else x) :: st) h))
      | 4 => pII st (fun x y st => b8 (szS st) (k (pc + 3) ls (vI (if x < y then y else x) :: st) h))
      | 5 => pI st (fun x st => b8 (szS st) (k (pc + 3) ls (vI (if 0 ≤ x then x else 0 - x) :: st) h))
      | _ => pAs b [] st (fun as st => b8 (szS st) (S a as h (rC (rk tb) (fun r h => k (pc + 3) ls (r ++ st) h))))
    | .ireturn => match t with
      | 0 => match st with
        | [.inl x] => K (some (vI x)) h
        | _ => False
      | _ => match st with
        | [.inl x] => (x = 0 ∨ x = 1) ∧ K (some (vI x)) h
        | _ => False
    | .lreturn => match st with
      | [.inr (.inl x)] => K (some (vL x)) h
      | _ => False
    | .areturn => match st with
      | [.inr (.inr x)] => K (some (vR x)) h
      | _ => False
    | .return_ => match st with
      | [] => K none h
      | _ => False
    | .ifCond .eq _ => pI st (fun x st => (x = 0 → k a ls st h) ∧ (¬ x = 0 → k (pc + 3) ls st h))
    | .if_icmp .eq _ => pII st (fun x y st => (x = y → k a ls st h) ∧ (¬ x = y → k (pc + 3) ls st h))
    | .ifCond .ne _ => pI st (fun x st => (¬ x = 0 → k a ls st h) ∧ (x = 0 → k (pc + 3) ls st h))
    | .if_icmp .ne _ => pII st (fun x y st => (¬ x = y → k a ls st h) ∧ (x = y → k (pc + 3) ls st h))
    | .ifCond .lt _ => pI st (fun x st => (x < 0 → k a ls st h) ∧ (¬ x < 0 → k (pc + 3) ls st h))
    | .if_icmp .lt _ => pII st (fun x y st => (x < y → k a ls st h) ∧ (¬ x < y → k (pc + 3) ls st h))
    | .ifCond .ge _ => pI st (fun x st => (0 ≤ x → k a ls st h) ∧ (¬ 0 ≤ x → k (pc + 3) ls st h))
    | .if_icmp .ge _ => pII st (fun x y st => (y ≤ x → k a ls st h) ∧ (¬ y ≤ x → k (pc + 3) ls st h))
    | .ifCond .gt _ => pI st (fun x st => (0 < x → k a ls st h) ∧ (¬ 0 < x → k (pc + 3) ls st h))
    | .if_icmp .gt _ => pII st (fun x y st => (y < x → k a ls st h) ∧ (¬ y < x → k (pc + 3) ls st h))
    | .ifCond .le _ => pI st (fun x st => (x ≤ 0 → k a ls st h) ∧ (¬ x ≤ 0 → k (pc + 3) ls st h))
    | .if_icmp .le _ => pII st (fun x y st => (x ≤ y → k a ls st h) ∧ (¬ x ≤ y → k (pc + 3) ls st h))
    | _ => False
def rpc (r : Row) : Nat := r.1
def seek (t : Nat) : List Row → List Row
  | [] => []
  | r :: rs => match Nat.beq r.1 t with
    | true => r :: rs
    | false => seek t rs
def hdp (rs : List Row) (t : Nat) : Bool := match rs with
  | r :: _ => Nat.beq r.1 t
  | [] => false
def isCut : List (Nat × Nat) → Nat → Option Nat
  | [], _ => none
  | c :: cs, t => match Nat.beq c.1 t with
    | true => some c.2
    | false => isCut cs t
/-- the first n locals alone -/
def cutN : List (Option AV) → Nat → List (Option AV)
  | [], _ => []
  | _ :: l, 0 => none :: cutN l 0
  | a :: l, n + 1 => a :: cutN l n
theorem cutN_get : ∀ (ls : List (Option AV)) (n i : Nat) (a : AV), (cutN ls n)[i]? = some (some a) → ls[i]? = some (some a)
  | [], n, i, a, h => by simp [cutN] at h
  | o :: l, 0, 0, a, h => by simp [cutN] at h
  | o :: l, 0, i + 1, a, h => by
    simp only [cutN, List.getElem?_cons_succ] at h ⊢
    exact cutN_get l 0 i a h
  | o :: l, n + 1, 0, a, h => by simpa [cutN] using h
  | o :: l, n + 1, i + 1, a, h => by
    simp only [cutN, List.getElem?_cons_succ] at h ⊢
    exact cutN_get l n i a h
/-- at most n instructions from the first of the rows; at a cut, Cu -/
def wp (G : GP) (S : Nat → List AV → AH → (Option AV → AH → Prop) → Prop) (Cu : Nat → List (Option AV) → List AV → AH → Prop) (C : List Row) (cuts : List (Nat × Nat)) (K : Option AV → AH → Prop) : Nat → List Row → List (Option AV) → List AV → AH → Prop
  | n + 1, r :: rest, ls, st, h => stp G S r ls st h (fun t ls st h => match isCut cuts t with
      | some c => Cu t (cutN ls c) st h
      | none => match hdp rest t with
        | true => wp G S Cu C cuts K n rest ls st h
        | false => wp G S Cu C cuts K n (seek t C) ls st h) K
  | _, _, _, _, _ => False
