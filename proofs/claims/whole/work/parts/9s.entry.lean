/-! ===== the law from its entry ===== -/
theorem crow_L : ∀ m, m < 292 → (mtK m).1 = 2 → 1 ≤ mdL (mt m) := fun m hm hk => by
  have := List.all_eq_true.mp (show (List.range 292).all (fun m => !Nat.beq (mtK m).1 2 || Nat.ble 1 (mdL (mt m))) = true by decide +kernel) m (List.mem_range.mpr hm)
  rw [Bool.or_eq_true] at this
  rcases this with z | z
  · rw [hk] at z; cases z
  · exact Nat.le_of_ble_eq_true z
theorem made_is : ∃ L1 L2, LC1 = some L1 ∧ L1.length = 135 ∧ LM2 L1 = some L2 ∧ chkL L2 = true := by
  have h := made_ok
  split at h
  · rename_i L1 e1
    rw [Bool.and_eq_true] at h
    obtain ⟨h1, h2⟩ := h
    split at h2
    · rename_i L2 e2; exact ⟨L1, L2, e1, Nat.eq_of_beq_eq_true h1, e2, h2⟩
    · cases h2
  · cases h
theorem lawC : (mdR (mt mL_law)).cells = 600000 ∧ (mdR (mt mL_law)).slots = 7302250 ∧ (mdR (mt mC_init)).cells = 134 ∧ (mdR (mt mC_init)).slots = 18248 ∧ (mdR (mt mM_init)).cells = 23 ∧ (mdR (mt mM_init)).slots = 11840 ∧ (mdN (mt mL_law)).cls = "SettledDotsLaw" ∧ mdL (mt mL_law) = 4 := by decide +kernel
theorem law_rmC : ((mdR (mt mC_init)).frames + 1 ≤ (mdR (mt mL_law)).frames ∧ 8 + (mdL (mt mC_init) + 11) + (mdR (mt mC_init)).locals ≤ (mdR (mt mL_law)).locals) ∧ ((mdR (mt mM_init)).frames + 1 ≤ (mdR (mt mL_law)).frames ∧ 8 + (mdL (mt mM_init) + 11) + (mdR (mt mM_init)).locals ≤ (mdR (mt mL_law)).locals) := by decide +kernel
section CC
variable {G : GP} {l : Launch} {K : Option AV → AH → Prop} {h : AH} {n : Nat}
theorem law_go (q0 : HD [] h) (hn : G.2.2.2.2.2.2.1 = n) (h31 : n < 2 ^ 31) (hK1 : ∀ h', K (some (vI 1)) h') : Go G l (mt mL_law) 0 [some (vR (xh + 9)), none, none, none] [] h 0 0 K := by
  obtain ⟨L1, L2, e1, el, e2, ec⟩ := made_is
  obtain ⟨c1, c2, c3, c4, c5, c6, c7, c8⟩ := lawC
  have hn0 : hN h = 0 := q0.1
  have mC := mt_MOK (a := mC_init) (by decide) (by decide +kernel)
  have mM := mt_MOK (a := mM_init) (by decide) (by decide +kernel)
  have iC := mt_I (a := mC_init) (by decide) (by decide +kernel)
  have iM := mt_I (a := mM_init) (by decide) (by decide +kernel)
  refine Go.newX (ci := 9) (i := 7) (q := (RX9, TX9, 13)) (by decide +kernel) rfl (by rw [c7]; exact wIs.mem (i := 7019) (by decide +kernel)) (wIs.mem (i := 7020) (by decide +kernel)) (wIs.mem (i := 7001) (by decide +kernel)) (by decide +kernel) (by rw [c1]; decide) (by rw [c2]; decide) (by rw [hn0]; decide) ⟨⟨Or.inr (by unfold xh; omega), trivial⟩, trivial⟩ ?_
  rw [hn0]
  have q1 : HD ([] ++ [(.inl 9, [], [])]) (newC h (.inl 9)) := q0.new
  generalize newC h (.inl 9) = h1 at q1 ⊢
  have n1 : hN h1 = 1 := q1.1
  refine Go.dup (by decide +kernel) rfl ?_
  refine Go.callIX (N := mt mC_init) (n := 0) (i := 9) (ci := 9) (b := 1) (as := []) (by decide +kernel) mC.1 iC.2.2 iC.1 iC.2.1 (by rw [c7]; exact wIs.mem (i := 7021) (by decide +kernel)) rfl ⟨by decide, by rw [n1]; decide, (q1.2 0 _ rfl).1⟩ ⟨law_rmC.1, by rw [c1, c3]; decide, by rw [c2, c4]; decide, by decide⟩ (Or.inr ⟨⟨Or.inr (by unfold xh; omega), trivial⟩, ⟨Or.inl (by rw [n1]; exact Nat.le_refl _), trivial⟩⟩) ?_
  refine Spec.of mC.1 mC.2 (by decide +kernel) (runL_ok crow_ok crow_L 250 mC_init 0 _ [] _ 0 0 L1 _ h1 (by decide) e1 q1 (fun h2 q2 => ?_))
  have n2 : hN h2 = 135 := q2.1.trans el
  refine Go.astore_n (n := 1) (i := 1) (by decide +kernel) rfl (by rw [c8]; decide) ?_
  refine Go.newX (ci := 10) (i := 10) (q := (RX10, TX10, 40)) (by decide +kernel) rfl (by rw [c7]; exact wIs.mem (i := 11106) (by decide +kernel)) (wIs.mem (i := 11107) (by decide +kernel)) (wIs.mem (i := 7011) (by decide +kernel)) (by decide +kernel) (by rw [c1, c3]; decide) (by rw [c2, c4]; decide) (by rw [n2]; decide) ⟨⟨Or.inr (by unfold xh; omega), Or.inl (by rw [n2]; decide), trivial⟩, trivial⟩ ?_
  rw [n2]
  have q3 : HD (L1 ++ [(.inl 10, [], [])]) (newC h2 (.inl 10)) := q2.new
  generalize newC h2 (.inl 10) = h3 at q3 ⊢
  have n3 : hN h3 = 136 := q3.1.trans (by rw [List.length_append, el]; rfl)
  refine Go.dup (by decide +kernel) rfl ?_
  refine Go.callIX (N := mt mM_init) (n := 0) (i := 12) (ci := 10) (b := 136) (as := []) (by decide +kernel) mM.1 iM.2.2 iM.1 iM.2.1 (by rw [c7]; exact wIs.mem (i := 11108) (by decide +kernel)) rfl ⟨by decide, by rw [n3]; decide, (q3.2 135 (.inl 10, [], []) (by rw [List.getElem?_append_right (by omega), el]; rfl)).1⟩ ⟨law_rmC.2, by rw [c1, c3, c5]; decide, by rw [c2, c4, c6]; decide, by decide⟩ (Or.inr ⟨⟨Or.inr (by unfold xh; omega), Or.inl (by rw [n3]; decide), trivial⟩, ⟨Or.inl (by rw [n3]; exact Nat.le_refl _), trivial⟩⟩) ?_
  refine Spec.of mM.1 mM.2 (by decide +kernel) (runL_ok crow_ok crow_L 250 mM_init 0 _ [] _ 0 0 L2 _ h3 (by decide) e2 q3 (fun h4 q4 => ?_))
  obtain ⟨⟨s1, s2⟩, s3, s4⟩ := start_ok q4 ec
  refine Go.astore_n (n := 2) (i := 2) (by decide +kernel) rfl (by rw [c8]; decide) ?_
  refine Go.iconst (n := 0) (v := nI 0) (by decide +kernel) rfl ?_
  refine Go.istore_n (n := 3) (i := 3) (by decide +kernel) rfl (by rw [c8]; decide) ?_
  refine Go.swap s1 s2 ?_
  rw [c3, c4, c5, c6]
  exact law_loop hn h31 hK1 n 0 (tdy h4) (by omega) (by omega) (LI.of s3 s4 (fun i hi => absurd hi (Nat.not_lt_zero _)))
end CC
