/-! ===== the launch's own numbers, at the law's entry ===== -/
theorem inst_ok : ∀ (k : Nat) (q : vw_C), vwCl[k]? = some q → Cond.instantiable q.1 q.2.2 ∈ lw_tbl := by
  intro k q hq
  match k, hq with
  | 0, hq => cases hq; exact wIn.mem (i := 7221) (by decide +kernel)
  | 1, hq => cases hq; exact wIn.mem (i := 8065) (by decide +kernel)
  | 2, hq => cases hq; exact wIn.mem (i := 7087) (by decide +kernel)
  | 3, hq => cases hq; exact wIn.mem (i := 8038) (by decide +kernel)
  | 4, hq => cases hq; exact wIn.mem (i := 7177) (by decide +kernel)
  | 5, hq => cases hq; exact wIn.mem (i := 8020) (by decide +kernel)
  | 6, hq => cases hq; exact wIn.mem (i := 7138) (by decide +kernel)
  | 7, hq => cases hq; exact wIn.mem (i := 7028) (by decide +kernel)
  | 8, hq => cases hq; exact wIn.mem (i := 7201) (by decide +kernel)
  | 9, hq => cases hq; exact wIn.mem (i := 7020) (by decide +kernel)
  | 10, hq => cases hq; exact wIn.mem (i := 11107) (by decide +kernel)
  | k + 11, hq => simp [vwCl] at hq
theorem lawM : mt mL_law = (yL_law, code, 4, some .boolean, { frames := 11, cells := 600000, slots := 7302250, locals := 382 }) := rfl
def eH : AH := (0, fun _ => .inl 0, fun _ _ => 0, fun _ _ => 0, fun _ _ => 0)
def tm3 (i : Nat) : Term := .string "SettledDots$Reader" (([50, 75, 80] : List Nat).getD i 0)
def ty5 : List FieldType := [.int, .long, .boolean, .object "SettledDots$Scene", .object "SettledDots$Box"]
section CC
variable {s : State} {b : Nat}
theorem arr_prim {ty : FieldType} {A : Array Value} (h : (Cond.arrayClass ty).before A s = true) (hr : ∀ cA, s.vm.findClass ("[" ++ ty.toString) = some cA → va_RA s cA ty) : ∃ cA, ArrOfT s cA ty ∧ va_RA s cA ty := by
  obtain ⟨cA, kA, comp, h1, h2, h3⟩ := Cond.arrayClass_spec h
  exact ⟨cA, fun n z => ⟨fun k h => (by cases h), kA, h2, comp, h3⟩, hr cA h1⟩
theorem arr_obj {C : String} {A : Array Value} (h : (Cond.arrayOver (.object C)).before A s = true) : ∃ cA, ArrOfT s cA (.object C) ∧ va_RA s cA (.object C) := by
  obtain ⟨comp, cA, kA, h1, -, h3, h4, h5⟩ := Cond.arrayOver_spec h
  exact ⟨cA, fun n z => ⟨fun k h => (by cases h), kA, h3, comp, h4⟩, kA, comp, h3, h4, h1, h5⟩
theorem arr5 (d : ClassId) (hts : ∀ w ∈ lw_tbl, w.before #[Value.ref b] s = true) (k : Nat) : ∃ cA, ∀ ty, ty5[k]? = some ty → ArrOfT s cA ty ∧ va_RA s cA ty := by
  match k with
  | 0 =>
    obtain ⟨cA, h⟩ := arr_prim (hts (.arrayClass .int) (wIn.mem (i := 7085) (by decide +kernel))) (fun _ z => z)
    exact ⟨cA, fun ty e => by cases e; exact h⟩
  | 1 =>
    obtain ⟨cA, h⟩ := arr_prim (hts (.arrayClass .long) (wIn.mem (i := 7136) (by decide +kernel))) (fun _ z => z)
    exact ⟨cA, fun ty e => by cases e; exact h⟩
  | 2 =>
    obtain ⟨cA, h⟩ := arr_prim (hts (.arrayClass .boolean) (wIn.mem (i := 8062) (by decide +kernel))) (fun _ z => z)
    exact ⟨cA, fun ty e => by cases e; exact h⟩
  | 3 =>
    obtain ⟨cA, h⟩ := arr_obj (hts (.arrayOver (.object "SettledDots$Scene")) (wIn.mem (i := 7183) (by decide +kernel)))
    exact ⟨cA, fun ty e => by cases e; exact h⟩
  | 4 =>
    obtain ⟨cA, h⟩ := arr_obj (hts (.arrayOver (.object "SettledDots$Box")) (wIn.mem (i := 8064) (by decide +kernel)))
    exact ⟨cA, fun ty e => by cases e; exact h⟩
  | k + 5 => exact ⟨d, fun ty e => by simp [ty5] at e⟩
theorem cls11 (d : ClassId) (hts : ∀ w ∈ lw_tbl, w.before #[Value.ref b] s = true) (k : Nat) : ∃ D : ClassId × (Nat → Nat), ∀ q : vw_C, vwCl[k]? = some q → u_Kn s q.1 q.2.1 q.2.2 D.1 D.2 := by
  cases hq : vwCl[k]? with
  | none => exact ⟨(d, fun _ => 0), fun q e => nomatch e⟩
  | some q =>
    obtain ⟨cC, iS, h⟩ := u_known (C := q.1) (T := q.2.1) (N := q.2.2) (n := q.2.2) hts (fun w hw => (List.mem_filter.mp ((coAll k q hq).1 w hw)).1) (hts _ (inst_ok k q hq))
    exact ⟨(cC, iS), fun q' e => by cases e; exact h⟩
theorem str3 {A : Nat → Prop} (hg : ∀ c ∈ flatC (Jvm.Cond.and given_1 narrow_1), c.before #[Value.ref b] s = true) (hA : ∀ a : Nat, a < s.heap.size → ¬ A a) : ∃ adK adV : Nat → Nat, vk_S 3 [4, 3, 3] [[115, 105, 122, 101], [114, 111, 119], [100, 111, 116]] adK adV A s s.heap ∧ ∀ i : Nat, i < 3 → (tm3 i).eval #[Value.ref b] s none [] s = some (.ref (adK i)) := by
  have i3 : ∀ {i : Nat}, i < 3 → i = 0 ∨ i = 1 ∨ i = 2 := fun h => by omega
  refine vk_Sof (fun i hi => ?_) (fun i hi => ?_) (fun i hi => ?_) (fun i hi => ?_) (fun i hi => ?_) (fun i hi j hj => ?_) (fun i j hi hj hne => ?_) hA
  · rcases i3 hi with rfl | rfl | rfl <;> decide
  · rcases i3 hi with rfl | rfl | rfl <;> exact hg _ (by decide +kernel)
  · rcases i3 hi with rfl | rfl | rfl <;> exact hg _ (by decide +kernel)
  · rcases i3 hi with rfl | rfl | rfl <;> exact hg _ (by decide +kernel)
  · rcases i3 hi with rfl | rfl | rfl <;> exact hg _ (by decide +kernel)
  · rcases i3 hi with rfl | rfl | rfl
    · have hj : j < 4 := hj
      rcases (show j = 0 ∨ j = 1 ∨ j = 2 ∨ j = 3 by omega) with rfl | rfl | rfl | rfl <;> exact hg _ (by decide +kernel)
    · have hj : j < 3 := hj
      rcases i3 hj with rfl | rfl | rfl <;> exact hg _ (by decide +kernel)
    · have hj : j < 3 := hj
      rcases i3 hj with rfl | rfl | rfl <;> exact hg _ (by decide +kernel)
  · rcases i3 hi with rfl | rfl | rfl <;> rcases i3 hj with rfl | rfl | rfl <;> first | exact absurd rfl hne | exact Or.inl (hg _ (by decide +kernel)) | exact Or.inr (hg _ (by decide +kernel))
end CC
