/-- the words that go along with every call -/
def lw_ok : List Cond := lw_tbl.filter goodWord
theorem lw_ok_in {w : Cond} (h : w ∈ lw_tbl) (g : goodWord w = true) : w ∈ lw_ok := List.mem_filter.mpr ⟨h, g⟩
def isNest : Cond → Bool
  | .methodLinkNest .. => true
  | _ => false
def NL (U : State) : Prop := ∀ w ∈ lw_tbl, isNest w = true → va_Nw w U
theorem NL.warm {s U : State} (hW : s.WarmedH U.vm) (h : NL s) : NL U := by
  intro w hw hn
  have h1 := h w hw hn
  cases w <;> first | (exact va_Nw.warmM hW h1) | (simp [isNest] at hn)
theorem NL.same {s U : State} (hv : U.vm = s.vm) (h : NL s) : NL U := by
  intro w hw hn
  have h1 := h w hw hn
  cases w <;> first | (exact va_Nw.same rfl hv.symm h1) | (simp [isNest] at hn)
/-! ===== abstract values, heaps, worlds; the judgements Spec and Go ===== -/
abbrev AV : Type := Int32 ⊕ (Int64 ⊕ Nat)
abbrev vI (x : Int32) : AV := .inl x
abbrev vL (x : Int64) : AV := .inr (.inl x)
abbrev vR (k : Nat) : AV := .inr (.inr k)
/-- how many cells (their handles are 1 .. n), the shape of each (an object of a class; an array of a type, its length), ints, longs, references -/
abbrev AH : Type := Nat × (Nat → Nat ⊕ (Nat × Nat)) × (Nat → Nat → Int32) × (Nat → Nat → Int64) × (Nat → Nat → Nat)
def hN (h : AH) : Nat := h.1
def hS (h : AH) : Nat → Nat ⊕ (Nat × Nat) := h.2.1
def hI (h : AH) : Nat → Nat → Int32 := h.2.2.1
def hL (h : AH) : Nat → Nat → Int64 := h.2.2.2.1
def hR (h : AH) : Nat → Nat → Nat := h.2.2.2.2
def up2 {α : Type} (f : Nat → Nat → α) (k j : Nat) (v : α) : Nat → Nat → α := fun k' j' => if k' = k ∧ j' = j then v else f k' j'
def setI (h : AH) (k j : Nat) (v : Int32) : AH := (h.1, h.2.1, up2 h.2.2.1 k j v, h.2.2.2.1, h.2.2.2.2)
def setL (h : AH) (k j : Nat) (v : Int64) : AH := (h.1, h.2.1, h.2.2.1, up2 h.2.2.2.1 k j v, h.2.2.2.2)
def setR (h : AH) (k j : Nat) (v : Nat) : AH := (h.1, h.2.1, h.2.2.1, h.2.2.2.1, up2 h.2.2.2.2 k j v)
/-- a whole row of ints, of longs -/
def rowI (h : AH) (k : Nat) (f : Nat → Int32) : AH := (h.1, h.2.1, (fun k' => if k' = k then f else h.2.2.1 k'), h.2.2.2.1, h.2.2.2.2)
def rowL (h : AH) (k : Nat) (f : Nat → Int64) : AH := (h.1, h.2.1, h.2.2.1, (fun k' => if k' = k then f else h.2.2.2.1 k'), h.2.2.2.2)
/-- a cell more, all zero -/
def newC (h : AH) (s : Nat ⊕ (Nat × Nat)) : AH := (h.1 + 1, (fun k => if k = h.1 + 1 then s else h.2.1 k), (fun k => if k = h.1 + 1 then (fun _ => 0) else h.2.2.1 k), (fun k => if k = h.1 + 1 then (fun _ => 0) else h.2.2.2.1 k), (fun k => if k = h.1 + 1 then (fun _ => 0) else h.2.2.2.2 k))
/-- an object of class ci; a row of type t with the place i in it -/
def Ob (h : AH) (k ci : Nat) : Prop := 0 < k ∧ k ≤ hN h ∧ hS h k = .inl ci
def Ar (h : AH) (k t n : Nat) : Prop := 0 < k ∧ k ≤ hN h ∧ hS h k = .inr (t, n)
def InA (h : AH) (k t : Nat) (i : Int32) : Prop := ∃ n, Ar h k t n ∧ vp_in i n
def ix (i : Int32) : Nat := i.toNatClampNeg
/-- the launch's own numbers: class ids, slots, array classes, the String constants' addresses, the script -/
abbrev GP : Type := (Nat → ClassId) × (Nat → Nat → Nat) × (Nat → ClassId) × (Nat → Nat) × (Nat → Nat) × Nat × Nat × (Nat → Int32)
def gD (G : GP) : va_G := (G.1, G.2.1)
def gA (G : GP) : Nat → ClassId := G.2.2.1
def gT (G : GP) : List (ClassId × FieldType) := [(gA G 0, .int), (gA G 1, .long), (gA G 2, .boolean), (gA G 3, .object "SettledDots$Scene"), (gA G 4, .object "SettledDots$Box")]
/-- handles of what lies outside: String constants 0 .. 2, the script 9 -/
def xh : Nat := 1048576
def hd (ad : Nat → Nat) (k : Nat) : Option Nat := if k = 0 then none else some (ad k)
def cv (ad : Nat → Nat) : AV → Value
  | .inl x => .int x
  | .inr (.inl x) => .long x
  | .inr (.inr k) => va_rf (hd ad k)
def fk (d : String) : Nat := if d = "I" then 0 else if d = "J" then 1 else if d = "Z" then 3 else 2
def kd (ci j : Nat) : Nat := match vwCl[ci]? with
  | some q => fk (q.2.1 j).2.2.1
  | none => 9
def nfl (ci : Nat) : Nat := match vwCl[ci]? with
  | some q => q.2.2
  | none => 0
def fvl (ad : Nat → Nat) (h : AH) (k ci j : Nat) : Value := if kd ci j = 1 then .long (hL h k j) else if kd ci j = 2 then va_rf (hd ad (hR h k j)) else .int (hI h k j)
def ent (G : GP) (ad : Nat → Nat) (h : AH) (k : Nat) : va_E := match hS h k with
  | .inl ci => .inr (ci, (List.range (nfl ci)).map (fvl ad h k ci))
  | .inr q => .inl (gA G q.1, q.2, if q.1 = 1 then .inr (.inl (hL h k)) else if q.1 < 3 then .inl (hI h k) else .inr (.inr (.inr (.inr (fun j => hd ad (hR h k j))))))
def wl (G : GP) (ad : Nat → Nat) (h : AH) : va_W := (List.range (hN h)).map (fun k => (ad (k + 1), ent G ad h (k + 1)))
theorem wl_len (G : GP) (ad : Nat → Nat) (h : AH) : (wl G ad h).length = hN h := by simp [wl]
theorem wl_at (G : GP) (ad : Nat → Nat) (h : AH) {k : Nat} (h0 : 0 < k) (h1 : k ≤ hN h) : (wl G ad h)[k - 1]? = some (ad k, ent G ad h k) := by
  have e : k - 1 + 1 = k := by omega
  simp [wl, List.getElem?_map, List.getElem?_range (show k - 1 < hN h by omega), e]
theorem wl_get (G : GP) (ad : Nat → Nat) (h : AH) (i : Nat) : (wl G ad h)[i]? = if i < hN h then some (ad (i + 1), ent G ad h (i + 1)) else none := by
  by_cases hi : i < hN h
  · rw [if_pos hi]; simp [wl, List.getElem?_map, List.getElem?_range hi]
  · rw [if_neg hi]; simp [wl]; omega
/-- what lies outside the world, and never changes -/
def XT (G : GP) (A : Nat → Prop) (U : State) (H : Heap) : Prop :=
  vk_S 3 [4, 3, 3] [[115, 105, 122, 101], [114, 111, 119], [100, 111, 116]] G.2.2.2.1 G.2.2.2.2.1 A U H ∧ vk_R "SettledDots$Reader" 50 "size" (G.2.2.2.1 0) U ∧ vk_R "SettledDots$Reader" 75 "row" (G.2.2.2.1 1) U ∧ vk_R "SettledDots$Reader" 80 "dot" (G.2.2.2.1 2) U ∧
  va_Z "java/lang/String" "COMPACT_STRINGS" "Z" (.int 1) A U H ∧ va_Zq "jdk/internal/util/Preconditions" "SIOOBE_FORMATTER" "Ljava/util/function/BiFunction;" A U H ∧ va_X G.2.2.2.2.2.1 G.2.2.2.2.2.2.1 G.2.2.2.2.2.2.2 U H ∧ G.2.2.2.2.2.1 < H.size ∧ ¬ A G.2.2.2.2.2.1 ∧ NL U ∧ va_AO "SettledDots$Scene" U ∧ va_AO "SettledDots$Box" U
theorem XT.kept {G : GP} {A : Nat → Prop} {U : State} {H H1 : Heap} (h : XT G A U H) (hz : H.size ≤ H1.size) (hq : ∀ a : Nat, a < H.size → ¬ A a → H1[a]? = H[a]?) : XT G A U H1 := by
  obtain ⟨h1, h2, h3, h4, h5, h6, h7, h8, h9, h10, h11, h12⟩ := h
  exact ⟨h1.kept hq, h2, h3, h4, h5.kept hq, h6.kept hq, h7.kept (hq _ h8 h9), Nat.lt_of_lt_of_le h8 hz, h9, h10, h11, h12⟩
theorem XT.narrow {G : GP} {A B : Nat → Prop} {U : State} {H : Heap} (h : XT G A U H) (hAB : ∀ q, B q → A q) : XT G B U H := by
  obtain ⟨h1, h2, h3, h4, h5, h6, h7, h8, h9, h10, h11, h12⟩ := h
  exact ⟨h1.narrow hAB, h2, h3, h4, h5.narrow hAB, h6.narrow hAB, h7, h8, fun q => h9 (hAB _ q), h10, h11, h12⟩
theorem XT.warm {G : GP} {A : Nat → Prop} {s U : State} {H : Heap} (hW : s.WarmedH U.vm) (h : XT G A s H) : XT G A U H := by
  obtain ⟨h1, h2, h3, h4, h5, h6, h7, h8, h9, h10, h11, h12⟩ := h
  have e := hW.alike
  exact ⟨h1.moved e, h2.warm hW, h3.warm hW, h4.warm hW, h5.moved e, h6.moved e, h7.moved e, h8, h9, h10.warm hW, h11.moved e, h12.moved e⟩
theorem XT.same {G : GP} {A : Nat → Prop} {s U : State} {H : Heap} (hv : U.vm = s.vm) (h : XT G A s H) : XT G A U H := by
  obtain ⟨h1, h2, h3, h4, h5, h6, h7, h8, h9, h10, h11, h12⟩ := h
  have e : s.vm.Alike U.vm := by rw [hv]; exact Vm.Alike.refl _
  exact ⟨h1.moved e, h2.same hv, h3.same hv, h4.same hv, h5.moved e, h6.moved e, h7.moved e, h8, h9, h10.same hv, h11.moved e, h12.moved e⟩
/-- the addresses of what lies outside -/
def adX (G : GP) (ad : Nat → Nat) : Prop := ad xh = G.2.2.2.1 0 ∧ ad (xh + 1) = G.2.2.2.1 1 ∧ ad (xh + 2) = G.2.2.2.1 2 ∧ ad (xh + 9) = G.2.2.2.2.2.1
/-- every reference names a cell that is there -/
def RF (h : AH) : Prop := ∀ k j, k ≤ hN h → hR h k j ≤ hN h
/-- the heap H of state U holds h at the addresses ad, all in A -/
def Wd (G : GP) (ad : Nat → Nat) (h : AH) (A : Nat → Prop) (U : State) (H : Heap) : Prop :=
  va_P (gD G) vwCl (wl G ad h) H ∧ va_K (gD G) vwCl (gT G) U ∧ va_D A (wl G ad h) ∧ hN h < xh ∧ adX G ad ∧ RF h
/-- a later map of addresses: only the new handles' changed -/
def adE (n n' : Nat) (ad ad' : Nat → Nat) : Prop := ∀ k, k ≤ n ∨ n' < k → ad' k = ad k
theorem adE.rf {n n' : Nat} {ad : Nat → Nat} : adE n n' ad ad := fun _ _ => rfl
theorem adE.tr {n n1 n2 : Nat} {a b c : Nat → Nat} (h1 : adE n n1 a b) (h2 : adE n1 n2 b c) (hn : n ≤ n1) (hn2 : n1 ≤ n2) : adE n n2 a c := fun k hk => (h2 k (hk.imp (fun q => Nat.le_trans q hn) id)).trans (h1 k (hk.imp id (fun q => Nat.lt_of_le_of_lt hn2 q)))
theorem adE.eq {n : Nat} {a b : Nat → Nat} (h : adE n n a b) : b = a := funext fun k => h k (by omega)
