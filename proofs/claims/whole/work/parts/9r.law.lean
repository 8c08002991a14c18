/-! ===== the law's walk ===== -/
def mdLU : Nat := 30141
theorem lawU : 159 ≤ (mdR (mt mL_law)).cells ∧ mdLU ≤ (mdR (mt mL_law)).slots := by decide +kernel
abbrev lsL (j : Nat) : List (Option AV) := [some (vR (xh + 9)), some (vR 1), some (vR 136), some (vI (nI j))]
section Law
variable {G : GP} {l : Launch} {K : Option AV → AH → Prop} {h : AH} {j n : Nat}
theorem gLU {C : List Row} {t : Nat} {ls : List (Option AV)} {st : List AV} (hC : C.all (rowOK mL_law) = true) (n : Nat) (cuts : List (Nat × Nat)) (hw : ∀ S Cu, SOK G l S → (∀ t ls st h, Go G l (mt mL_law) t ls st h 159 mdLU K → Cu t ls st h) → wp G S Cu C cuts K n (seek t C) ls st h) : Go G l (mt mL_law) t ls st h 159 mdLU K := Go.runU n cuts lawU.1 lawU.2 rfl hC hw
theorem lin {x : Int32} {d : Nat} (hj : j + 6 ≤ n) (hn : G.2.2.2.2.2.2.1 = n) (h31 : n < 2 ^ 31) (e : x = nI d) (hd : d < 6) : vp_in (nI j + x) G.2.2.2.2.2.2.1 := by
  rw [e, nI_add, hn]
  exact vp_in_nI (by omega) h31
theorem lin0 (hj : j + 6 ≤ n) (hn : G.2.2.2.2.2.2.1 = n) (h31 : n < 2 ^ 31) : vp_in (nI j) G.2.2.2.2.2.2.1 := by
  rw [hn]
  exact vp_in_nI (by omega) h31
theorem law_0 (i : LI h) (hj : j + 6 ≤ n) (hn : G.2.2.2.2.2.2.1 = n) (h31 : n < 2 ^ 31) (T : ∀ h', LI h' → Go G l (mt mL_law) 1489 (lsL j) [] h' 159 mdLU K) : Go G l (mt mL_law) 220 (lsL j) [] h 159 mdLU K := by
  refine gLU ckL_0 60 [(1489, 4)] fun S Cu hS hC => ?_
  refine ld _ ⟨rfl, lin hj hn h31 (d := 1) rfl (by decide)⟩ rfl ?_
  refine ld _ ⟨rfl, lin hj hn h31 (d := 2) rfl (by decide)⟩ rfl ?_
  refine ld _ ⟨rfl, lin hj hn h31 (d := 3) rfl (by decide)⟩ rfl ?_
  refine ld _ ⟨rfl, lin hj hn h31 (d := 4) rfl (by decide)⟩ rfl ?_
  refine ld _ ⟨rfl, lin hj hn h31 (d := 5) rfl (by decide)⟩ rfl ?_
  refine And.intro i.ob (hS _ _ _ _ (Spec.mono (pr_feed i) ?_))
  intro r h1 q
  obtain ⟨v, rfl, ob, sp⟩ := q
  refine ld _ ⟨rfl, lin hj hn h31 (d := 1) rfl (by decide)⟩ rfl ?_
  refine ld _ ⟨rfl, lin hj hn h31 (d := 2) rfl (by decide)⟩ rfl ?_
  refine ld _ ⟨rfl, lin hj hn h31 (d := 3) rfl (by decide)⟩ rfl ?_
  refine ld _ ⟨rfl, lin hj hn h31 (d := 4) rfl (by decide)⟩ rfl ?_
  refine ld _ ⟨rfl, lin hj hn h31 (d := 5) rfl (by decide)⟩ rfl ?_
  refine And.intro ob (hS _ _ _ _ (Spec.mono sp ?_))
  intro r h2 q
  obtain ⟨rfl, i2⟩ := q
  exact And.intro (fun _ => hC _ _ _ _ (T _ i2)) (fun q => absurd rfl q)
theorem law_1 (i : LI h) (hj : j + 6 ≤ n) (hn : G.2.2.2.2.2.2.1 = n) (h31 : n < 2 ^ 31) (T : ∀ h', LI h' → Go G l (mt mL_law) 1489 (lsL j) [] h' 159 mdLU K) : Go G l (mt mL_law) 283 (lsL j) [] h 159 mdLU K := by
  refine gLU ckL_1 20 [(1489, 4)] fun S Cu hS hC => ?_
  refine ld _ ⟨rfl, lin hj hn h31 (d := 1) rfl (by decide)⟩ rfl ?_
  refine And.intro i.ob (hS _ _ _ _ (Spec.mono (pr_end i) ?_))
  intro r h1 q
  obtain ⟨v, rfl, ob, sp⟩ := q
  refine ld _ ⟨rfl, lin hj hn h31 (d := 1) rfl (by decide)⟩ rfl ?_
  refine And.intro ob (hS _ _ _ _ (Spec.mono sp ?_))
  intro r h2 q
  obtain ⟨rfl, i2⟩ := q
  exact And.intro (fun _ => hC _ _ _ _ (T _ i2)) (fun q => absurd rfl q)
theorem law_2 (i : LI h) (hj : j + 6 ≤ n) (hn : G.2.2.2.2.2.2.1 = n) (h31 : n < 2 ^ 31) (T : ∀ h', LI h' → Go G l (mt mL_law) 1489 (lsL j) [] h' 159 mdLU K) : Go G l (mt mL_law) 306 (lsL j) [] h 159 mdLU K := by
  refine gLU ckL_2 10 [(1489, 4)] fun S Cu hS hC => ?_
  refine And.intro i.ob (hS _ _ _ _ (Spec.mono (pr_picture i) ?_))
  intro r h1 q
  obtain ⟨v, rfl, ob, sp⟩ := q
  refine And.intro ob (hS _ _ _ _ (Spec.mono sp ?_))
  intro r h2 q
  obtain ⟨rfl, i2⟩ := q
  exact And.intro (fun _ => hC _ _ _ _ (T _ i2)) (fun q => absurd rfl q)
theorem law_3 (i : LI h) (hj : j + 6 ≤ n) (hn : G.2.2.2.2.2.2.1 = n) (h31 : n < 2 ^ 31) (T : ∀ h', LI h' → Go G l (mt mL_law) 1489 (lsL j) [] h' 159 mdLU K) : Go G l (mt mL_law) 319 (lsL j) [] h 159 mdLU K := by
  refine gLU ckL_3 20 [(1489, 4)] fun S Cu hS hC => ?_
  refine ld _ ⟨rfl, lin hj hn h31 (d := 1) rfl (by decide)⟩ rfl ?_
  refine And.intro i.ob (hS _ _ _ _ (Spec.mono (pr_fault i) ?_))
  intro r h1 q
  obtain ⟨v, rfl, ob, sp⟩ := q
  refine ld _ ⟨rfl, lin hj hn h31 (d := 1) rfl (by decide)⟩ rfl ?_
  refine And.intro ob (hS _ _ _ _ (Spec.mono sp ?_))
  intro r h2 q
  obtain ⟨rfl, i2⟩ := q
  exact And.intro (fun _ => hC _ _ _ _ (T _ i2)) (fun q => absurd rfl q)
theorem law_4 (i : LI h) (hj : j + 6 ≤ n) (hn : G.2.2.2.2.2.2.1 = n) (h31 : n < 2 ^ 31) (T : ∀ h', LI h' → Go G l (mt mL_law) 1489 (lsL j) [] h' 159 mdLU K) : Go G l (mt mL_law) 342 (lsL j) [] h 159 mdLU K := by
  refine gLU ckL_4 30 [(1489, 4)] fun S Cu hS hC => ?_
  refine ld _ ⟨rfl, lin hj hn h31 (d := 1) rfl (by decide)⟩ rfl ?_
  refine ld _ ⟨rfl, lin hj hn h31 (d := 2) rfl (by decide)⟩ rfl ?_
  refine And.intro i.ob (hS _ _ _ _ (Spec.mono (pr_put i) ?_))
  intro r h1 q
  obtain ⟨v, rfl, ob, sp⟩ := q
  refine ld _ ⟨rfl, lin hj hn h31 (d := 1) rfl (by decide)⟩ rfl ?_
  refine ld _ ⟨rfl, lin hj hn h31 (d := 2) rfl (by decide)⟩ rfl ?_
  refine And.intro ob (hS _ _ _ _ (Spec.mono sp ?_))
  intro r h2 q
  obtain ⟨rfl, i2⟩ := q
  exact And.intro (fun _ => hC _ _ _ _ (T _ i2)) (fun q => absurd rfl q)
theorem law_5 (i : LI h) (hj : j + 6 ≤ n) (hn : G.2.2.2.2.2.2.1 = n) (h31 : n < 2 ^ 31) (T : ∀ h', LI h' → Go G l (mt mL_law) 1489 (lsL j) [] h' 159 mdLU K) : Go G l (mt mL_law) 375 (lsL j) [] h 159 mdLU K := by
  refine gLU ckL_5 20 [(1489, 4)] fun S Cu hS hC => ?_
  refine ld _ ⟨rfl, lin hj hn h31 (d := 1) rfl (by decide)⟩ rfl ?_
  refine And.intro i.ob (hS _ _ _ _ (Spec.mono (pr_take i) ?_))
  intro r h1 q
  obtain ⟨v, rfl, ob, sp⟩ := q
  refine ld _ ⟨rfl, lin hj hn h31 (d := 1) rfl (by decide)⟩ rfl ?_
  refine And.intro ob (hS _ _ _ _ (Spec.mono sp ?_))
  intro r h2 q
  obtain ⟨rfl, i2⟩ := q
  exact And.intro (fun _ => hC _ _ _ _ (T _ i2)) (fun q => absurd rfl q)
theorem law_6 (i : LI h) (hj : j + 6 ≤ n) (hn : G.2.2.2.2.2.2.1 = n) (h31 : n < 2 ^ 31) (T : ∀ h', LI h' → Go G l (mt mL_law) 1489 (lsL j) [] h' 159 mdLU K) : Go G l (mt mL_law) 398 (lsL j) [] h 159 mdLU K := by
  refine gLU ckL_6 40 [(1489, 4)] fun S Cu hS hC => ?_
  refine ld _ ⟨rfl, lin hj hn h31 (d := 1) rfl (by decide)⟩ rfl ?_
  refine ld _ ⟨rfl, lin hj hn h31 (d := 2) rfl (by decide)⟩ rfl ?_
  refine ld _ ⟨rfl, lin hj hn h31 (d := 3) rfl (by decide)⟩ rfl ?_
  refine And.intro i.ob (hS _ _ _ _ (Spec.mono (pr_move i) ?_))
  intro r h1 q
  obtain ⟨v, rfl, ob, sp⟩ := q
  refine ld _ ⟨rfl, lin hj hn h31 (d := 1) rfl (by decide)⟩ rfl ?_
  refine ld _ ⟨rfl, lin hj hn h31 (d := 2) rfl (by decide)⟩ rfl ?_
  refine ld _ ⟨rfl, lin hj hn h31 (d := 3) rfl (by decide)⟩ rfl ?_
  refine And.intro ob (hS _ _ _ _ (Spec.mono sp ?_))
  intro r h2 q
  obtain ⟨rfl, i2⟩ := q
  exact And.intro (fun _ => hC _ _ _ _ (T _ i2)) (fun q => absurd rfl q)
theorem law_7 (i : LI h) (hj : j + 6 ≤ n) (hn : G.2.2.2.2.2.2.1 = n) (h31 : n < 2 ^ 31) (T : ∀ h', LI h' → Go G l (mt mL_law) 1489 (lsL j) [] h' 159 mdLU K) : Go G l (mt mL_law) 441 (lsL j) [] h 159 mdLU K := by
  refine gLU ckL_7 20 [(1489, 4)] fun S Cu hS hC => ?_
  refine ld _ ⟨rfl, lin hj hn h31 (d := 1) rfl (by decide)⟩ rfl ?_
  refine And.intro i.ob (hS _ _ _ _ (Spec.mono (pr_draw i) ?_))
  intro r h1 q
  obtain ⟨v, rfl, ob, sp⟩ := q
  refine ld _ ⟨rfl, lin hj hn h31 (d := 1) rfl (by decide)⟩ rfl ?_
  refine And.intro ob (hS _ _ _ _ (Spec.mono sp ?_))
  intro r h2 q
  obtain ⟨rfl, i2⟩ := q
  exact And.intro (fun _ => hC _ _ _ _ (T _ i2)) (fun q => absurd rfl q)
theorem law_8 (i : LI h) (hj : j + 6 ≤ n) (hn : G.2.2.2.2.2.2.1 = n) (h31 : n < 2 ^ 31) (T : ∀ h', LI h' → Go G l (mt mL_law) 1489 (lsL j) [] h' 159 mdLU K) : Go G l (mt mL_law) 464 (lsL j) [] h 159 mdLU K := by
  refine gLU ckL_8 20 [(1489, 4)] fun S Cu hS hC => ?_
  refine ld _ ⟨rfl, lin hj hn h31 (d := 1) rfl (by decide)⟩ rfl ?_
  refine And.intro i.ob (hS _ _ _ _ (Spec.mono (pr_seed i) ?_))
  intro r h1 q
  obtain ⟨v, rfl, ob, sp⟩ := q
  refine ld _ ⟨rfl, lin hj hn h31 (d := 1) rfl (by decide)⟩ rfl ?_
  refine And.intro ob (hS _ _ _ _ (Spec.mono sp ?_))
  intro r h2 q
  obtain ⟨rfl, i2⟩ := q
  exact And.intro (fun _ => hC _ _ _ _ (T _ i2)) (fun q => absurd rfl q)
theorem law_9 (i : LI h) (hj : j + 6 ≤ n) (hn : G.2.2.2.2.2.2.1 = n) (h31 : n < 2 ^ 31) (T : ∀ h', LI h' → Go G l (mt mL_law) 1489 (lsL j) [] h' 159 mdLU K) : Go G l (mt mL_law) 487 (lsL j) [] h 159 mdLU K := by
  refine gLU ckL_9 40 [(1489, 4)] fun S Cu hS hC => ?_
  refine ld _ ⟨rfl, lin hj hn h31 (d := 1) rfl (by decide)⟩ rfl ?_
  refine ld _ ⟨rfl, lin hj hn h31 (d := 2) rfl (by decide)⟩ rfl ?_
  refine ld _ ⟨rfl, lin hj hn h31 (d := 3) rfl (by decide)⟩ rfl ?_
  refine And.intro i.ob (hS _ _ _ _ (Spec.mono (pr_paint i) ?_))
  intro r h1 q
  obtain ⟨v, rfl, ob, sp⟩ := q
  refine ld _ ⟨rfl, lin hj hn h31 (d := 1) rfl (by decide)⟩ rfl ?_
  refine ld _ ⟨rfl, lin hj hn h31 (d := 2) rfl (by decide)⟩ rfl ?_
  refine ld _ ⟨rfl, lin hj hn h31 (d := 3) rfl (by decide)⟩ rfl ?_
  refine And.intro ob (hS _ _ _ _ (Spec.mono sp ?_))
  intro r h2 q
  obtain ⟨rfl, i2⟩ := q
  exact And.intro (fun _ => hC _ _ _ _ (T _ i2)) (fun q => absurd rfl q)
theorem law_10 (i : LI h) (hj : j + 6 ≤ n) (hn : G.2.2.2.2.2.2.1 = n) (h31 : n < 2 ^ 31) (T : ∀ h', LI h' → Go G l (mt mL_law) 1489 (lsL j) [] h' 159 mdLU K) : Go G l (mt mL_law) 530 (lsL j) [] h 159 mdLU K := by
  refine gLU ckL_10 20 [(1489, 4)] fun S Cu hS hC => ?_
  refine ld _ ⟨rfl, lin hj hn h31 (d := 1) rfl (by decide)⟩ rfl ?_
  refine And.intro i.ob (hS _ _ _ _ (Spec.mono (pr_rounds i) ?_))
  intro r h1 q
  obtain ⟨v, rfl, ob, sp⟩ := q
  refine ld _ ⟨rfl, lin hj hn h31 (d := 1) rfl (by decide)⟩ rfl ?_
  refine And.intro ob (hS _ _ _ _ (Spec.mono sp ?_))
  intro r h2 q
  obtain ⟨rfl, i2⟩ := q
  exact And.intro (fun _ => hC _ _ _ _ (T _ i2)) (fun q => absurd rfl q)
theorem law_11 (i : LI h) (hj : j + 6 ≤ n) (hn : G.2.2.2.2.2.2.1 = n) (h31 : n < 2 ^ 31) (T : ∀ h', LI h' → Go G l (mt mL_law) 1489 (lsL j) [] h' 159 mdLU K) : Go G l (mt mL_law) 553 (lsL j) [] h 159 mdLU K := by
  refine gLU ckL_11 30 [(1489, 4)] fun S Cu hS hC => ?_
  refine ld _ ⟨rfl, lin hj hn h31 (d := 1) rfl (by decide)⟩ rfl ?_
  refine ld _ ⟨rfl, lin hj hn h31 (d := 2) rfl (by decide)⟩ rfl ?_
  refine And.intro i.ob (hS _ _ _ _ (Spec.mono (pr_adapt i) ?_))
  intro r h1 q
  obtain ⟨v, rfl, ob, sp⟩ := q
  refine ld _ ⟨rfl, lin hj hn h31 (d := 1) rfl (by decide)⟩ rfl ?_
  refine ld _ ⟨rfl, lin hj hn h31 (d := 2) rfl (by decide)⟩ rfl ?_
  refine And.intro ob (hS _ _ _ _ (Spec.mono sp ?_))
  intro r h2 q
  obtain ⟨rfl, i2⟩ := q
  exact And.intro (fun _ => hC _ _ _ _ (T _ i2)) (fun q => absurd rfl q)
theorem law_12 (i : LI h) (hj : j + 6 ≤ n) (hn : G.2.2.2.2.2.2.1 = n) (h31 : n < 2 ^ 31) (T : ∀ h', LI h' → Go G l (mt mL_law) 1489 (lsL j) [] h' 159 mdLU K) : Go G l (mt mL_law) 586 (lsL j) [] h 159 mdLU K := by
  refine gLU ckL_12 10 [(1489, 4)] fun S Cu hS hC => ?_
  refine And.intro i.ob (hS _ _ _ _ (Spec.mono (pr_turn i) ?_))
  intro r h1 q
  obtain ⟨v, rfl, ob, sp⟩ := q
  refine And.intro ob (hS _ _ _ _ (Spec.mono sp ?_))
  intro r h2 q
  obtain ⟨rfl, i2⟩ := q
  exact And.intro (fun _ => hC _ _ _ _ (T _ i2)) (fun q => absurd rfl q)
theorem law_13 (i : LI h) (hj : j + 6 ≤ n) (hn : G.2.2.2.2.2.2.1 = n) (h31 : n < 2 ^ 31) (T : ∀ h', LI h' → Go G l (mt mL_law) 1489 (lsL j) [] h' 159 mdLU K) : Go G l (mt mL_law) 599 (lsL j) [] h 159 mdLU K := by
  refine gLU ckL_13 10 [(1489, 4)] fun S Cu hS hC => ?_
  refine And.intro i.ob (hS _ _ _ _ (Spec.mono (pr_undo i) ?_))
  intro r h1 q
  obtain ⟨v, rfl, ob, sp⟩ := q
  refine And.intro ob (hS _ _ _ _ (Spec.mono sp ?_))
  intro r h2 q
  obtain ⟨rfl, i2⟩ := q
  exact And.intro (fun _ => hC _ _ _ _ (T _ i2)) (fun q => absurd rfl q)
theorem law_14 (i : LI h) (hj : j + 6 ≤ n) (hn : G.2.2.2.2.2.2.1 = n) (h31 : n < 2 ^ 31) (T : ∀ h', LI h' → Go G l (mt mL_law) 1489 (lsL j) [] h' 159 mdLU K) : Go G l (mt mL_law) 612 (lsL j) [] h 159 mdLU K := by
  refine gLU ckL_14 10 [(1489, 4)] fun S Cu hS hC => ?_
  refine And.intro i.ob (hS _ _ _ _ (Spec.mono (pr_redo i) ?_))
  intro r h1 q
  obtain ⟨v, rfl, ob, sp⟩ := q
  refine And.intro ob (hS _ _ _ _ (Spec.mono sp ?_))
  intro r h2 q
  obtain ⟨rfl, i2⟩ := q
  exact And.intro (fun _ => hC _ _ _ _ (T _ i2)) (fun q => absurd rfl q)
theorem law_15 (i : LI h) (hj : j + 6 ≤ n) (hn : G.2.2.2.2.2.2.1 = n) (h31 : n < 2 ^ 31) (T : ∀ h', LI h' → Go G l (mt mL_law) 1489 (lsL j) [] h' 159 mdLU K) : Go G l (mt mL_law) 625 (lsL j) [] h 159 mdLU K := by
  refine gLU ckL_15 30 [(1489, 4)] fun S Cu hS hC => ?_
  refine ld _ ⟨rfl, lin hj hn h31 (d := 1) rfl (by decide)⟩ rfl ?_
  refine ld _ ⟨rfl, lin hj hn h31 (d := 2) rfl (by decide)⟩ rfl ?_
  refine And.intro i.ob (hS _ _ _ _ (Spec.mono (pr_dot i) ?_))
  intro r h1 q
  obtain ⟨v, rfl, ob, sp⟩ := q
  refine ld _ ⟨rfl, lin hj hn h31 (d := 1) rfl (by decide)⟩ rfl ?_
  refine ld _ ⟨rfl, lin hj hn h31 (d := 2) rfl (by decide)⟩ rfl ?_
  refine And.intro ob (hS _ _ _ _ (Spec.mono sp ?_))
  intro r h2 q
  obtain ⟨rfl, i2⟩ := q
  exact And.intro (fun _ => hC _ _ _ _ (T _ i2)) (fun q => absurd rfl q)
theorem law_16 (i : LI h) (hj : j + 6 ≤ n) (hn : G.2.2.2.2.2.2.1 = n) (h31 : n < 2 ^ 31) (T : ∀ h', LI h' → Go G l (mt mL_law) 1489 (lsL j) [] h' 159 mdLU K) : Go G l (mt mL_law) 658 (lsL j) [] h 159 mdLU K := by
  refine gLU ckL_16 40 [(1489, 4)] fun S Cu hS hC => ?_
  refine ld _ ⟨rfl, lin hj hn h31 (d := 1) rfl (by decide)⟩ rfl ?_
  refine ld _ ⟨rfl, lin hj hn h31 (d := 2) rfl (by decide)⟩ rfl ?_
  refine ld _ ⟨rfl, lin hj hn h31 (d := 3) rfl (by decide)⟩ rfl ?_
  refine And.intro i.ob (hS _ _ _ _ (Spec.mono (pr_cell i) ?_))
  intro r h1 q
  obtain ⟨v, rfl, ob, sp⟩ := q
  refine ld _ ⟨rfl, lin hj hn h31 (d := 1) rfl (by decide)⟩ rfl ?_
  refine ld _ ⟨rfl, lin hj hn h31 (d := 2) rfl (by decide)⟩ rfl ?_
  refine ld _ ⟨rfl, lin hj hn h31 (d := 3) rfl (by decide)⟩ rfl ?_
  refine And.intro ob (hS _ _ _ _ (Spec.mono sp ?_))
  intro r h2 q
  obtain ⟨rfl, i2⟩ := q
  exact And.intro (fun _ => hC _ _ _ _ (T _ i2)) (fun q => absurd rfl q)
theorem law_17 (i : LI h) (hj : j + 6 ≤ n) (hn : G.2.2.2.2.2.2.1 = n) (h31 : n < 2 ^ 31) (T : ∀ h', LI h' → Go G l (mt mL_law) 1489 (lsL j) [] h' 159 mdLU K) : Go G l (mt mL_law) 701 (lsL j) [] h 159 mdLU K := by
  refine gLU ckL_17 40 [(1489, 4)] fun S Cu hS hC => ?_
  refine ld _ ⟨rfl, lin hj hn h31 (d := 1) rfl (by decide)⟩ rfl ?_
  refine ld _ ⟨rfl, lin hj hn h31 (d := 2) rfl (by decide)⟩ rfl ?_
  refine ld _ ⟨rfl, lin hj hn h31 (d := 3) rfl (by decide)⟩ rfl ?_
  refine And.intro i.ob (hS _ _ _ _ (Spec.mono (pr_near i) ?_))
  intro r h1 q
  obtain ⟨v, rfl, ob, sp⟩ := q
  refine ld _ ⟨rfl, lin hj hn h31 (d := 1) rfl (by decide)⟩ rfl ?_
  refine ld _ ⟨rfl, lin hj hn h31 (d := 2) rfl (by decide)⟩ rfl ?_
  refine ld _ ⟨rfl, lin hj hn h31 (d := 3) rfl (by decide)⟩ rfl ?_
  refine And.intro ob (hS _ _ _ _ (Spec.mono sp ?_))
  intro r h2 q
  obtain ⟨rfl, i2⟩ := q
  exact And.intro (fun _ => hC _ _ _ _ (T _ i2)) (fun q => absurd rfl q)
theorem law_18 (i : LI h) (hj : j + 6 ≤ n) (hn : G.2.2.2.2.2.2.1 = n) (h31 : n < 2 ^ 31) (T : ∀ h', LI h' → Go G l (mt mL_law) 1489 (lsL j) [] h' 159 mdLU K) : Go G l (mt mL_law) 744 (lsL j) [] h 159 mdLU K := by
  refine gLU ckL_18 50 [(1489, 4)] fun S Cu hS hC => ?_
  refine ld _ ⟨rfl, lin hj hn h31 (d := 1) rfl (by decide)⟩ rfl ?_
  refine ld _ ⟨rfl, lin hj hn h31 (d := 2) rfl (by decide)⟩ rfl ?_
  refine ld _ ⟨rfl, lin hj hn h31 (d := 3) rfl (by decide)⟩ rfl ?_
  refine ld _ ⟨rfl, lin hj hn h31 (d := 4) rfl (by decide)⟩ rfl ?_
  refine And.intro i.ob (hS _ _ _ _ (Spec.mono (pr_far i) ?_))
  intro r h1 q
  obtain ⟨v, rfl, ob, sp⟩ := q
  refine ld _ ⟨rfl, lin hj hn h31 (d := 1) rfl (by decide)⟩ rfl ?_
  refine ld _ ⟨rfl, lin hj hn h31 (d := 2) rfl (by decide)⟩ rfl ?_
  refine ld _ ⟨rfl, lin hj hn h31 (d := 3) rfl (by decide)⟩ rfl ?_
  refine ld _ ⟨rfl, lin hj hn h31 (d := 4) rfl (by decide)⟩ rfl ?_
  refine And.intro ob (hS _ _ _ _ (Spec.mono sp ?_))
  intro r h2 q
  obtain ⟨rfl, i2⟩ := q
  exact And.intro (fun _ => hC _ _ _ _ (T _ i2)) (fun q => absurd rfl q)
theorem law_19 (i : LI h) (hj : j + 6 ≤ n) (hn : G.2.2.2.2.2.2.1 = n) (h31 : n < 2 ^ 31) (T : ∀ h', LI h' → Go G l (mt mL_law) 1489 (lsL j) [] h' 159 mdLU K) : Go G l (mt mL_law) 797 (lsL j) [] h 159 mdLU K := by
  refine gLU ckL_19 40 [(1489, 4)] fun S Cu hS hC => ?_
  refine ld _ ⟨rfl, lin hj hn h31 (d := 1) rfl (by decide)⟩ rfl ?_
  refine ld _ ⟨rfl, lin hj hn h31 (d := 2) rfl (by decide)⟩ rfl ?_
  refine ld _ ⟨rfl, lin hj hn h31 (d := 3) rfl (by decide)⟩ rfl ?_
  refine And.intro i.ob (hS _ _ _ _ (Spec.mono (pr_around i) ?_))
  intro r h1 q
  obtain ⟨v, rfl, ob, sp⟩ := q
  refine ld _ ⟨rfl, lin hj hn h31 (d := 1) rfl (by decide)⟩ rfl ?_
  refine ld _ ⟨rfl, lin hj hn h31 (d := 2) rfl (by decide)⟩ rfl ?_
  refine ld _ ⟨rfl, lin hj hn h31 (d := 3) rfl (by decide)⟩ rfl ?_
  refine And.intro ob (hS _ _ _ _ (Spec.mono sp ?_))
  intro r h2 q
  obtain ⟨rfl, i2⟩ := q
  exact And.intro (fun _ => hC _ _ _ _ (T _ i2)) (fun q => absurd rfl q)
theorem law_20 (i : LI h) (hj : j + 6 ≤ n) (hn : G.2.2.2.2.2.2.1 = n) (h31 : n < 2 ^ 31) (T : ∀ h', LI h' → Go G l (mt mL_law) 1489 (lsL j) [] h' 159 mdLU K) : Go G l (mt mL_law) 840 (lsL j) [] h 159 mdLU K := by
  refine gLU ckL_20 30 [(1489, 4)] fun S Cu hS hC => ?_
  refine ld _ ⟨rfl, lin hj hn h31 (d := 1) rfl (by decide)⟩ rfl ?_
  refine ld _ ⟨rfl, lin hj hn h31 (d := 2) rfl (by decide)⟩ rfl ?_
  refine And.intro i.ob (hS _ _ _ _ (Spec.mono (pr_ring i) ?_))
  intro r h1 q
  obtain ⟨v, rfl, ob, sp⟩ := q
  refine ld _ ⟨rfl, lin hj hn h31 (d := 1) rfl (by decide)⟩ rfl ?_
  refine ld _ ⟨rfl, lin hj hn h31 (d := 2) rfl (by decide)⟩ rfl ?_
  refine And.intro ob (hS _ _ _ _ (Spec.mono sp ?_))
  intro r h2 q
  obtain ⟨rfl, i2⟩ := q
  exact And.intro (fun _ => hC _ _ _ _ (T _ i2)) (fun q => absurd rfl q)
theorem law_21 (i : LI h) (hj : j + 6 ≤ n) (hn : G.2.2.2.2.2.2.1 = n) (h31 : n < 2 ^ 31) (T : ∀ h', LI h' → Go G l (mt mL_law) 1489 (lsL j) [] h' 159 mdLU K) : Go G l (mt mL_law) 873 (lsL j) [] h 159 mdLU K := by
  refine gLU ckL_21 20 [(1489, 4)] fun S Cu hS hC => ?_
  refine ld _ ⟨rfl, lin hj hn h31 (d := 1) rfl (by decide)⟩ rfl ?_
  refine And.intro i.ob (hS _ _ _ _ (Spec.mono (pr_closest i) ?_))
  intro r h1 q
  obtain ⟨v, rfl, ob, sp⟩ := q
  refine ld _ ⟨rfl, lin hj hn h31 (d := 1) rfl (by decide)⟩ rfl ?_
  refine And.intro ob (hS _ _ _ _ (Spec.mono sp ?_))
  intro r h2 q
  obtain ⟨rfl, i2⟩ := q
  exact And.intro (fun _ => hC _ _ _ _ (T _ i2)) (fun q => absurd rfl q)
theorem law_22 (i : LI h) (hj : j + 6 ≤ n) (hn : G.2.2.2.2.2.2.1 = n) (h31 : n < 2 ^ 31) (T : ∀ h', LI h' → Go G l (mt mL_law) 1489 (lsL j) [] h' 159 mdLU K) : Go G l (mt mL_law) 896 (lsL j) [] h 159 mdLU K := by
  refine gLU ckL_22 20 [(1489, 4)] fun S Cu hS hC => ?_
  refine ld _ ⟨rfl, lin hj hn h31 (d := 1) rfl (by decide)⟩ rfl ?_
  refine And.intro i.ob (hS _ _ _ _ (Spec.mono (pr_loads i) ?_))
  intro r h1 q
  obtain ⟨v, rfl, ob, sp⟩ := q
  refine ld _ ⟨rfl, lin hj hn h31 (d := 1) rfl (by decide)⟩ rfl ?_
  refine And.intro ob (hS _ _ _ _ (Spec.mono sp ?_))
  intro r h2 q
  obtain ⟨rfl, i2⟩ := q
  exact And.intro (fun _ => hC _ _ _ _ (T _ i2)) (fun q => absurd rfl q)
theorem law_23 (i : LI h) (hj : j + 6 ≤ n) (hn : G.2.2.2.2.2.2.1 = n) (h31 : n < 2 ^ 31) (T : ∀ h', LI h' → Go G l (mt mL_law) 1489 (lsL j) [] h' 159 mdLU K) : Go G l (mt mL_law) 919 (lsL j) [] h 159 mdLU K := by
  refine gLU ckL_23 30 [(1489, 4)] fun S Cu hS hC => ?_
  refine ld _ ⟨rfl, lin hj hn h31 (d := 1) rfl (by decide)⟩ rfl ?_
  refine ld _ ⟨rfl, lin hj hn h31 (d := 2) rfl (by decide)⟩ rfl ?_
  refine And.intro i.ob (hS _ _ _ _ (Spec.mono (pr_ties i) ?_))
  intro r h1 q
  obtain ⟨v, rfl, ob, sp⟩ := q
  refine ld _ ⟨rfl, lin hj hn h31 (d := 1) rfl (by decide)⟩ rfl ?_
  refine ld _ ⟨rfl, lin hj hn h31 (d := 2) rfl (by decide)⟩ rfl ?_
  refine And.intro ob (hS _ _ _ _ (Spec.mono sp ?_))
  intro r h2 q
  obtain ⟨rfl, i2⟩ := q
  exact And.intro (fun _ => hC _ _ _ _ (T _ i2)) (fun q => absurd rfl q)
theorem law_24 (i : LI h) (hj : j + 6 ≤ n) (hn : G.2.2.2.2.2.2.1 = n) (h31 : n < 2 ^ 31) (T : ∀ h', LI h' → Go G l (mt mL_law) 1489 (lsL j) [] h' 159 mdLU K) : Go G l (mt mL_law) 952 (lsL j) [] h 159 mdLU K := by
  refine gLU ckL_24 20 [(1489, 4)] fun S Cu hS hC => ?_
  refine ld _ ⟨rfl, lin hj hn h31 (d := 1) rfl (by decide)⟩ rfl ?_
  refine And.intro i.ob (hS _ _ _ _ (Spec.mono (pr_due i) ?_))
  intro r h1 q
  obtain ⟨v, rfl, ob, sp⟩ := q
  refine ld _ ⟨rfl, lin hj hn h31 (d := 1) rfl (by decide)⟩ rfl ?_
  refine And.intro ob (hS _ _ _ _ (Spec.mono sp ?_))
  intro r h2 q
  obtain ⟨rfl, i2⟩ := q
  exact And.intro (fun _ => hC _ _ _ _ (T _ i2)) (fun q => absurd rfl q)
theorem law_25 (i : LI h) (hj : j + 6 ≤ n) (hn : G.2.2.2.2.2.2.1 = n) (h31 : n < 2 ^ 31) (T : ∀ h', LI h' → Go G l (mt mL_law) 1489 (lsL j) [] h' 159 mdLU K) : Go G l (mt mL_law) 975 (lsL j) [] h 159 mdLU K := by
  refine gLU ckL_25 30 [(1489, 4)] fun S Cu hS hC => ?_
  refine ld _ ⟨rfl, lin hj hn h31 (d := 1) rfl (by decide)⟩ rfl ?_
  refine ld _ ⟨rfl, lin hj hn h31 (d := 2) rfl (by decide)⟩ rfl ?_
  refine And.intro i.ob (hS _ _ _ _ (Spec.mono (pr_best i) ?_))
  intro r h1 q
  obtain ⟨v, rfl, ob, sp⟩ := q
  refine ld _ ⟨rfl, lin hj hn h31 (d := 1) rfl (by decide)⟩ rfl ?_
  refine ld _ ⟨rfl, lin hj hn h31 (d := 2) rfl (by decide)⟩ rfl ?_
  refine And.intro ob (hS _ _ _ _ (Spec.mono sp ?_))
  intro r h2 q
  obtain ⟨rfl, i2⟩ := q
  exact And.intro (fun _ => hC _ _ _ _ (T _ i2)) (fun q => absurd rfl q)
theorem law_26 (i : LI h) (hj : j + 6 ≤ n) (hn : G.2.2.2.2.2.2.1 = n) (h31 : n < 2 ^ 31) (T : ∀ h', LI h' → Go G l (mt mL_law) 1489 (lsL j) [] h' 159 mdLU K) : Go G l (mt mL_law) 1008 (lsL j) [] h 159 mdLU K := by
  refine gLU ckL_26 30 [(1489, 4)] fun S Cu hS hC => ?_
  refine ld _ ⟨rfl, lin hj hn h31 (d := 1) rfl (by decide)⟩ rfl ?_
  refine ld _ ⟨rfl, lin hj hn h31 (d := 2) rfl (by decide)⟩ rfl ?_
  refine And.intro i.ob (hS _ _ _ _ (Spec.mono (pr_edge i) ?_))
  intro r h1 q
  obtain ⟨v, rfl, ob, sp⟩ := q
  refine ld _ ⟨rfl, lin hj hn h31 (d := 1) rfl (by decide)⟩ rfl ?_
  refine ld _ ⟨rfl, lin hj hn h31 (d := 2) rfl (by decide)⟩ rfl ?_
  refine And.intro ob (hS _ _ _ _ (Spec.mono sp ?_))
  intro r h2 q
  obtain ⟨rfl, i2⟩ := q
  exact And.intro (fun _ => hC _ _ _ _ (T _ i2)) (fun q => absurd rfl q)
theorem law_27 (i : LI h) (hj : j + 6 ≤ n) (hn : G.2.2.2.2.2.2.1 = n) (h31 : n < 2 ^ 31) (T : ∀ h', LI h' → Go G l (mt mL_law) 1489 (lsL j) [] h' 159 mdLU K) : Go G l (mt mL_law) 1041 (lsL j) [] h 159 mdLU K := by
  refine gLU ckL_27 30 [(1489, 4)] fun S Cu hS hC => ?_
  refine ld _ ⟨rfl, lin hj hn h31 (d := 1) rfl (by decide)⟩ rfl ?_
  refine ld _ ⟨rfl, lin hj hn h31 (d := 2) rfl (by decide)⟩ rfl ?_
  refine And.intro i.ob (hS _ _ _ _ (Spec.mono (pr_touch i) ?_))
  intro r h1 q
  obtain ⟨v, rfl, ob, sp⟩ := q
  refine ld _ ⟨rfl, lin hj hn h31 (d := 1) rfl (by decide)⟩ rfl ?_
  refine ld _ ⟨rfl, lin hj hn h31 (d := 2) rfl (by decide)⟩ rfl ?_
  refine And.intro ob (hS _ _ _ _ (Spec.mono sp ?_))
  intro r h2 q
  obtain ⟨rfl, i2⟩ := q
  exact And.intro (fun _ => hC _ _ _ _ (T _ i2)) (fun q => absurd rfl q)
theorem law_28 (i : LI h) (hj : j + 6 ≤ n) (hn : G.2.2.2.2.2.2.1 = n) (h31 : n < 2 ^ 31) (T : ∀ h', LI h' → Go G l (mt mL_law) 1489 (lsL j) [] h' 159 mdLU K) : Go G l (mt mL_law) 1074 (lsL j) [] h 159 mdLU K := by
  refine gLU ckL_28 30 [(1489, 4)] fun S Cu hS hC => ?_
  refine ld _ ⟨rfl, lin hj hn h31 (d := 1) rfl (by decide)⟩ rfl ?_
  refine ld _ ⟨rfl, lin hj hn h31 (d := 2) rfl (by decide)⟩ rfl ?_
  refine And.intro i.ob (hS _ _ _ _ (Spec.mono (pr_way i) ?_))
  intro r h1 q
  obtain ⟨v, rfl, ob, sp⟩ := q
  refine ld _ ⟨rfl, lin hj hn h31 (d := 1) rfl (by decide)⟩ rfl ?_
  refine ld _ ⟨rfl, lin hj hn h31 (d := 2) rfl (by decide)⟩ rfl ?_
  refine And.intro ob (hS _ _ _ _ (Spec.mono sp ?_))
  intro r h2 q
  obtain ⟨rfl, i2⟩ := q
  exact And.intro (fun _ => hC _ _ _ _ (T _ i2)) (fun q => absurd rfl q)
theorem law_29 (i : LI h) (hj : j + 6 ≤ n) (hn : G.2.2.2.2.2.2.1 = n) (h31 : n < 2 ^ 31) (T : ∀ h', LI h' → Go G l (mt mL_law) 1489 (lsL j) [] h' 159 mdLU K) : Go G l (mt mL_law) 1107 (lsL j) [] h 159 mdLU K := by
  refine gLU ckL_29 30 [(1489, 4)] fun S Cu hS hC => ?_
  refine ld _ ⟨rfl, lin hj hn h31 (d := 1) rfl (by decide)⟩ rfl ?_
  refine ld _ ⟨rfl, lin hj hn h31 (d := 2) rfl (by decide)⟩ rfl ?_
  refine And.intro i.ob (hS _ _ _ _ (Spec.mono (pr_shade i) ?_))
  intro r h1 q
  obtain ⟨v, rfl, ob, sp⟩ := q
  refine ld _ ⟨rfl, lin hj hn h31 (d := 1) rfl (by decide)⟩ rfl ?_
  refine ld _ ⟨rfl, lin hj hn h31 (d := 2) rfl (by decide)⟩ rfl ?_
  refine And.intro ob (hS _ _ _ _ (Spec.mono sp ?_))
  intro r h2 q
  obtain ⟨rfl, i2⟩ := q
  exact And.intro (fun _ => hC _ _ _ _ (T _ i2)) (fun q => absurd rfl q)
theorem law_30 (i : LI h) (hj : j + 6 ≤ n) (hn : G.2.2.2.2.2.2.1 = n) (h31 : n < 2 ^ 31) (T : ∀ h', LI h' → Go G l (mt mL_law) 1489 (lsL j) [] h' 159 mdLU K) : Go G l (mt mL_law) 1140 (lsL j) [] h 159 mdLU K := by
  refine gLU ckL_30 20 [(1489, 4)] fun S Cu hS hC => ?_
  refine ld _ ⟨rfl, lin hj hn h31 (d := 1) rfl (by decide)⟩ rfl ?_
  refine And.intro i.ob (hS _ _ _ _ (Spec.mono (pr_step i) ?_))
  intro r h1 q
  obtain ⟨v, rfl, ob, sp⟩ := q
  refine ld _ ⟨rfl, lin hj hn h31 (d := 1) rfl (by decide)⟩ rfl ?_
  refine And.intro ob (hS _ _ _ _ (Spec.mono sp ?_))
  intro r h2 q
  obtain ⟨rfl, i2⟩ := q
  exact And.intro (fun _ => hC _ _ _ _ (T _ i2)) (fun q => absurd rfl q)
theorem law_31 (i : LI h) (hj : j + 6 ≤ n) (hn : G.2.2.2.2.2.2.1 = n) (h31 : n < 2 ^ 31) (T : ∀ h', LI h' → Go G l (mt mL_law) 1489 (lsL j) [] h' 159 mdLU K) : Go G l (mt mL_law) 1163 (lsL j) [] h 159 mdLU K := by
  refine gLU ckL_31 10 [(1489, 4)] fun S Cu hS hC => ?_
  refine And.intro i.ob (hS _ _ _ _ (Spec.mono (pr_moves i) ?_))
  intro r h1 q
  obtain ⟨v, rfl, ob, sp⟩ := q
  refine And.intro ob (hS _ _ _ _ (Spec.mono sp ?_))
  intro r h2 q
  obtain ⟨rfl, i2⟩ := q
  exact And.intro (fun _ => hC _ _ _ _ (T _ i2)) (fun q => absurd rfl q)
theorem law_32 (i : LI h) (hj : j + 6 ≤ n) (hn : G.2.2.2.2.2.2.1 = n) (h31 : n < 2 ^ 31) (T : ∀ h', LI h' → Go G l (mt mL_law) 1489 (lsL j) [] h' 159 mdLU K) : Go G l (mt mL_law) 1176 (lsL j) [] h 159 mdLU K := by
  refine gLU ckL_32 20 [(1489, 4)] fun S Cu hS hC => ?_
  refine ld _ ⟨rfl, lin hj hn h31 (d := 1) rfl (by decide)⟩ rfl ?_
  refine And.intro i.ob (hS _ _ _ _ (Spec.mono (pr_till i) ?_))
  intro r h1 q
  obtain ⟨v, rfl, ob, sp⟩ := q
  refine ld _ ⟨rfl, lin hj hn h31 (d := 1) rfl (by decide)⟩ rfl ?_
  refine And.intro ob (hS _ _ _ _ (Spec.mono sp ?_))
  intro r h2 q
  obtain ⟨rfl, i2⟩ := q
  exact And.intro (fun _ => hC _ _ _ _ (T _ i2)) (fun q => absurd rfl q)
theorem law_33 (i : LI h) (hj : j + 6 ≤ n) (hn : G.2.2.2.2.2.2.1 = n) (h31 : n < 2 ^ 31) (T : ∀ h', LI h' → Go G l (mt mL_law) 1489 (lsL j) [] h' 159 mdLU K) : Go G l (mt mL_law) 1199 (lsL j) [] h 159 mdLU K := by
  refine gLU ckL_33 30 [(1489, 4)] fun S Cu hS hC => ?_
  refine ld _ ⟨rfl, lin hj hn h31 (d := 1) rfl (by decide)⟩ rfl ?_
  refine ld _ ⟨rfl, lin hj hn h31 (d := 2) rfl (by decide)⟩ rfl ?_
  refine And.intro i.ob (hS _ _ _ _ (Spec.mono (pr_steps i) ?_))
  intro r h1 q
  obtain ⟨v, rfl, ob, sp⟩ := q
  refine ld _ ⟨rfl, lin hj hn h31 (d := 1) rfl (by decide)⟩ rfl ?_
  refine ld _ ⟨rfl, lin hj hn h31 (d := 2) rfl (by decide)⟩ rfl ?_
  refine And.intro ob (hS _ _ _ _ (Spec.mono sp ?_))
  intro r h2 q
  obtain ⟨rfl, i2⟩ := q
  exact And.intro (fun _ => hC _ _ _ _ (T _ i2)) (fun q => absurd rfl q)
theorem law_34 (i : LI h) (hj : j + 6 ≤ n) (hn : G.2.2.2.2.2.2.1 = n) (h31 : n < 2 ^ 31) (T : ∀ h', LI h' → Go G l (mt mL_law) 1489 (lsL j) [] h' 159 mdLU K) : Go G l (mt mL_law) 1232 (lsL j) [] h 159 mdLU K := by
  refine gLU ckL_34 20 [(1489, 4)] fun S Cu hS hC => ?_
  refine ld _ ⟨rfl, lin hj hn h31 (d := 1) rfl (by decide)⟩ rfl ?_
  refine And.intro i.ob (hS _ _ _ _ (Spec.mono (pr_loss i) ?_))
  intro r h1 q
  obtain ⟨v, rfl, ob, sp⟩ := q
  refine ld _ ⟨rfl, lin hj hn h31 (d := 1) rfl (by decide)⟩ rfl ?_
  refine And.intro ob (hS _ _ _ _ (Spec.mono sp ?_))
  intro r h2 q
  obtain ⟨rfl, i2⟩ := q
  exact And.intro (fun _ => hC _ _ _ _ (T _ i2)) (fun q => absurd rfl q)
theorem law_35 (i : LI h) (hj : j + 6 ≤ n) (hn : G.2.2.2.2.2.2.1 = n) (h31 : n < 2 ^ 31) (T : ∀ h', LI h' → Go G l (mt mL_law) 1489 (lsL j) [] h' 159 mdLU K) : Go G l (mt mL_law) 1255 (lsL j) [] h 159 mdLU K := by
  refine gLU ckL_35 10 [(1489, 4)] fun S Cu hS hC => ?_
  refine And.intro i.ob (hS _ _ _ _ (Spec.mono (pr_idle i) ?_))
  intro r h1 q
  obtain ⟨v, rfl, ob, sp⟩ := q
  refine And.intro ob (hS _ _ _ _ (Spec.mono sp ?_))
  intro r h2 q
  obtain ⟨rfl, i2⟩ := q
  exact And.intro (fun _ => hC _ _ _ _ (T _ i2)) (fun q => absurd rfl q)
theorem law_36 (i : LI h) (hj : j + 6 ≤ n) (hn : G.2.2.2.2.2.2.1 = n) (h31 : n < 2 ^ 31) (T : ∀ h', LI h' → Go G l (mt mL_law) 1489 (lsL j) [] h' 159 mdLU K) : Go G l (mt mL_law) 1268 (lsL j) [] h 159 mdLU K := by
  refine gLU ckL_36 20 [(1489, 4)] fun S Cu hS hC => ?_
  refine ld _ ⟨rfl, lin hj hn h31 (d := 1) rfl (by decide)⟩ rfl ?_
  refine And.intro i.ob (hS _ _ _ _ (Spec.mono (pr_more i) ?_))
  intro r h1 q
  obtain ⟨v, rfl, ob, sp⟩ := q
  refine ld _ ⟨rfl, lin hj hn h31 (d := 1) rfl (by decide)⟩ rfl ?_
  refine And.intro ob (hS _ _ _ _ (Spec.mono sp ?_))
  intro r h2 q
  obtain ⟨rfl, i2⟩ := q
  exact And.intro (fun _ => hC _ _ _ _ (T _ i2)) (fun q => absurd rfl q)
theorem law_37 (i : LI h) (hj : j + 6 ≤ n) (hn : G.2.2.2.2.2.2.1 = n) (h31 : n < 2 ^ 31) (T : ∀ h', LI h' → Go G l (mt mL_law) 1489 (lsL j) [] h' 159 mdLU K) : Go G l (mt mL_law) 1291 (lsL j) [] h 159 mdLU K := by
  refine gLU ckL_37 60 [(1489, 4)] fun S Cu hS hC => ?_
  refine ld _ ⟨rfl, lin hj hn h31 (d := 1) rfl (by decide)⟩ rfl ?_
  refine ld _ ⟨rfl, lin hj hn h31 (d := 2) rfl (by decide)⟩ rfl ?_
  refine ld _ ⟨rfl, lin hj hn h31 (d := 3) rfl (by decide)⟩ rfl ?_
  refine ld _ ⟨rfl, lin hj hn h31 (d := 4) rfl (by decide)⟩ rfl ?_
  refine ld _ ⟨rfl, lin hj hn h31 (d := 5) rfl (by decide)⟩ rfl ?_
  refine And.intro i.ob (hS _ _ _ _ (Spec.mono (pr_tone i) ?_))
  intro r h1 q
  obtain ⟨v, rfl, ob, sp⟩ := q
  refine ld _ ⟨rfl, lin hj hn h31 (d := 1) rfl (by decide)⟩ rfl ?_
  refine ld _ ⟨rfl, lin hj hn h31 (d := 2) rfl (by decide)⟩ rfl ?_
  refine ld _ ⟨rfl, lin hj hn h31 (d := 3) rfl (by decide)⟩ rfl ?_
  refine ld _ ⟨rfl, lin hj hn h31 (d := 4) rfl (by decide)⟩ rfl ?_
  refine ld _ ⟨rfl, lin hj hn h31 (d := 5) rfl (by decide)⟩ rfl ?_
  refine And.intro ob (hS _ _ _ _ (Spec.mono sp ?_))
  intro r h2 q
  obtain ⟨rfl, i2⟩ := q
  exact And.intro (fun _ => hC _ _ _ _ (T _ i2)) (fun q => absurd rfl q)
theorem law_38 (i : LI h) (hj : j + 6 ≤ n) (hn : G.2.2.2.2.2.2.1 = n) (h31 : n < 2 ^ 31) (T : ∀ h', LI h' → Go G l (mt mL_law) 1489 (lsL j) [] h' 159 mdLU K) : Go G l (mt mL_law) 1354 (lsL j) [] h 159 mdLU K := by
  refine gLU ckL_38 30 [(1489, 4)] fun S Cu hS hC => ?_
  refine ld _ ⟨rfl, lin hj hn h31 (d := 1) rfl (by decide)⟩ rfl ?_
  refine ld _ ⟨rfl, lin hj hn h31 (d := 2) rfl (by decide)⟩ rfl ?_
  refine And.intro i.ob (hS _ _ _ _ (Spec.mono (pr_uneven i) ?_))
  intro r h1 q
  obtain ⟨v, rfl, ob, sp⟩ := q
  refine ld _ ⟨rfl, lin hj hn h31 (d := 1) rfl (by decide)⟩ rfl ?_
  refine ld _ ⟨rfl, lin hj hn h31 (d := 2) rfl (by decide)⟩ rfl ?_
  refine And.intro ob (hS _ _ _ _ (Spec.mono sp ?_))
  intro r h2 q
  obtain ⟨rfl, i2⟩ := q
  exact And.intro (fun _ => hC _ _ _ _ (T _ i2)) (fun q => absurd rfl q)
theorem law_39 (i : LI h) (hj : j + 6 ≤ n) (hn : G.2.2.2.2.2.2.1 = n) (h31 : n < 2 ^ 31) (T : ∀ h', LI h' → Go G l (mt mL_law) 1489 (lsL j) [] h' 159 mdLU K) : Go G l (mt mL_law) 1387 (lsL j) [] h 159 mdLU K := by
  refine gLU ckL_39 30 [(1489, 4)] fun S Cu hS hC => ?_
  refine ld _ ⟨rfl, lin hj hn h31 (d := 1) rfl (by decide)⟩ rfl ?_
  refine ld _ ⟨rfl, lin hj hn h31 (d := 2) rfl (by decide)⟩ rfl ?_
  refine And.intro i.ob (hS _ _ _ _ (Spec.mono (pr_against i) ?_))
  intro r h1 q
  obtain ⟨v, rfl, ob, sp⟩ := q
  refine ld _ ⟨rfl, lin hj hn h31 (d := 1) rfl (by decide)⟩ rfl ?_
  refine ld _ ⟨rfl, lin hj hn h31 (d := 2) rfl (by decide)⟩ rfl ?_
  refine And.intro ob (hS _ _ _ _ (Spec.mono sp ?_))
  intro r h2 q
  obtain ⟨rfl, i2⟩ := q
  exact And.intro (fun _ => hC _ _ _ _ (T _ i2)) (fun q => absurd rfl q)
theorem law_40 (i : LI h) (hj : j + 6 ≤ n) (hn : G.2.2.2.2.2.2.1 = n) (h31 : n < 2 ^ 31) (T : ∀ h', LI h' → Go G l (mt mL_law) 1489 (lsL j) [] h' 159 mdLU K) : Go G l (mt mL_law) 1420 (lsL j) [] h 159 mdLU K := by
  refine gLU ckL_40 20 [(1489, 4)] fun S Cu hS hC => ?_
  refine ld _ ⟨rfl, lin hj hn h31 (d := 1) rfl (by decide)⟩ rfl ?_
  refine And.intro i.ob (hS _ _ _ _ (Spec.mono (pr_image i) ?_))
  intro r h1 q
  obtain ⟨v, rfl, ob, sp⟩ := q
  refine ld _ ⟨rfl, lin hj hn h31 (d := 1) rfl (by decide)⟩ rfl ?_
  refine And.intro ob (hS _ _ _ _ (Spec.mono sp ?_))
  intro r h2 q
  obtain ⟨rfl, i2⟩ := q
  exact And.intro (fun _ => hC _ _ _ _ (T _ i2)) (fun q => absurd rfl q)
theorem law_41 (i : LI h) (hj : j + 6 ≤ n) (hn : G.2.2.2.2.2.2.1 = n) (h31 : n < 2 ^ 31) (T : ∀ h', LI h' → Go G l (mt mL_law) 1489 (lsL j) [] h' 159 mdLU K) : Go G l (mt mL_law) 1443 (lsL j) [] h 159 mdLU K := by
  refine gLU ckL_41 20 [(1489, 4)] fun S Cu hS hC => ?_
  refine ld _ ⟨rfl, lin hj hn h31 (d := 1) rfl (by decide)⟩ rfl ?_
  refine And.intro i.ob (hS _ _ _ _ (Spec.mono (pr_back i) ?_))
  intro r h1 q
  obtain ⟨v, rfl, ob, sp⟩ := q
  refine ld _ ⟨rfl, lin hj hn h31 (d := 1) rfl (by decide)⟩ rfl ?_
  refine And.intro ob (hS _ _ _ _ (Spec.mono sp ?_))
  intro r h2 q
  obtain ⟨rfl, i2⟩ := q
  exact And.intro (fun _ => hC _ _ _ _ (T _ i2)) (fun q => absurd rfl q)
theorem law_42 (i : LI h) (hj : j + 6 ≤ n) (hn : G.2.2.2.2.2.2.1 = n) (h31 : n < 2 ^ 31) (T : ∀ h', LI h' → Go G l (mt mL_law) 1489 (lsL j) [] h' 159 mdLU K) : Go G l (mt mL_law) 1466 (lsL j) [] h 159 mdLU K := by
  refine gLU ckL_42 20 [(1489, 4)] fun S Cu hS hC => ?_
  refine ld _ ⟨rfl, lin hj hn h31 (d := 1) rfl (by decide)⟩ rfl ?_
  refine And.intro i.ob (hS _ _ _ _ (Spec.mono (pr_about i) ?_))
  intro r h1 q
  obtain ⟨v, rfl, ob, sp⟩ := q
  refine ld _ ⟨rfl, lin hj hn h31 (d := 1) rfl (by decide)⟩ rfl ?_
  refine And.intro ob (hS _ _ _ _ (Spec.mono sp ?_))
  intro r h2 q
  obtain ⟨rfl, i2⟩ := q
  exact And.intro (fun _ => hC _ _ _ _ (T _ i2)) (fun q => absurd rfl q)
theorem law_t (N : Go G l (mt mL_law) 18 (lsL (j + 6)) [] h 159 mdLU K) : Go G l (mt mL_law) 1489 (lsL j) [] h 159 mdLU K := by
  have e : nI (j + 6) = nI j + 6 := (nI_add j 6).symm
  have N2 : Go G l (mt mL_law) 18 [some (vR (xh + 9)), some (vR 1), some (vR 136), some (vI (nI j + 6))] [] h 159 mdLU K := by rw [← e]; exact N
  refine gLU ckL_t 5 [(18, 4)] fun S Cu hS hC => ?_
  exact hC _ _ _ _ N2
theorem swt_all {x : Int32} {f : Nat → Prop} {d : Nat} (hd : f d) : ∀ {tb : List (Int32 × Nat)}, (∀ q ∈ tb, f q.2) → swt x tb d f
  | [], _ => hd
  | (v, t) :: tb, h => ⟨fun _ => h (v, t) List.mem_cons_self, fun _ => swt_all hd (fun q hq => h q (List.mem_cons_of_mem _ hq))⟩
theorem fmC {P : Int32 × Nat → Prop} {a : Int32 × Nat} {l : List (Int32 × Nat)} (h : P a) (hl : ∀ q ∈ l, P q) : ∀ q ∈ a :: l, P q := fun q hq => by
  rcases List.mem_cons.mp hq with rfl | z
  · exact h
  · exact hl q z
theorem law_sw {x : Int32} (i : LI h) (hj : j + 6 ≤ n) (hn : G.2.2.2.2.2.2.1 = n) (h31 : n < 2 ^ 31) (T : ∀ h', LI h' → Go G l (mt mL_law) 1489 (lsL j) [] h' 159 mdLU K) : Go G l (mt mL_law) 33 (lsL j) [vI x] h 159 mdLU K := by
  refine stp_okU (S := fun _ _ _ _ => False) (r := rwL_33) (k := fun t ls st h => Go G l (mt mL_law) t ls st h 159 mdLU K) (fun _ _ _ _ z => z.elim) lawU.1 lawU.2 (by decide) rkL_33 ?_ (fun _ _ _ _ z => z)
  refine swt_all (f := fun t => Go G l (mt mL_law) t (lsL j) [] h 159 mdLU K) (T h i) ?_
  exact (fmC (law_0 i hj hn h31 T) (fmC (law_1 i hj hn h31 T) (fmC (law_2 i hj hn h31 T) (fmC (law_3 i hj hn h31 T) (fmC (law_4 i hj hn h31 T) (fmC (law_5 i hj hn h31 T) (fmC (law_6 i hj hn h31 T) (fmC (law_7 i hj hn h31 T) (fmC (law_8 i hj hn h31 T) (fmC (law_9 i hj hn h31 T) (fmC (law_10 i hj hn h31 T) (fmC (law_11 i hj hn h31 T) (fmC (law_12 i hj hn h31 T) (fmC (law_13 i hj hn h31 T) (fmC (law_14 i hj hn h31 T) (fmC (law_15 i hj hn h31 T) (fmC (law_16 i hj hn h31 T) (fmC (law_17 i hj hn h31 T) (fmC (law_18 i hj hn h31 T) (fmC (law_19 i hj hn h31 T) (fmC (law_20 i hj hn h31 T) (fmC (law_21 i hj hn h31 T) (fmC (law_22 i hj hn h31 T) (fmC (law_23 i hj hn h31 T) (fmC (law_24 i hj hn h31 T) (fmC (law_25 i hj hn h31 T) (fmC (law_26 i hj hn h31 T) (fmC (law_27 i hj hn h31 T) (fmC (law_28 i hj hn h31 T) (fmC (law_29 i hj hn h31 T) (fmC (law_30 i hj hn h31 T) (fmC (law_31 i hj hn h31 T) (fmC (law_32 i hj hn h31 T) (fmC (law_33 i hj hn h31 T) (fmC (law_34 i hj hn h31 T) (fmC (law_35 i hj hn h31 T) (fmC (law_36 i hj hn h31 T) (fmC (law_37 i hj hn h31 T) (fmC (law_38 i hj hn h31 T) (fmC (law_39 i hj hn h31 T) (fmC (law_40 i hj hn h31 T) (fmC (law_41 i hj hn h31 T) (fmC (law_42 i hj hn h31 T) (fun _ z => nomatch z))))))))))))))))))))))))))))))))))))))))))))
theorem law_step (i : LI h) (hj : j ≤ n) (hn : G.2.2.2.2.2.2.1 = n) (h31 : n < 2 ^ 31) (hK1 : ∀ h', K (some (vI 1)) h') (N : j + 6 ≤ n → ∀ h', LI h' → Go G l (mt mL_law) 18 (lsL (j + 6)) [] h' 159 mdLU K) : Go G l (mt mL_law) 18 (lsL j) [] h 159 mdLU K := by
  refine gLU ckL_h 30 [(33, 4)] fun S Cu hS hC => ?_
  refine And.intro rfl ?_
  refine And.intro (fun q => ?_) (fun q => ?_)
  · exact ⟨Or.inr rfl, hK1 _⟩
  · have hj6 : j + 6 ≤ n := by
      rw [hn] at q
      by_cases h6 : 6 ≤ n
      · rw [show (6 : Int32) = nI 6 from rfl, pk_sub h6] at q
        exact Classical.byContradiction fun z => q (nI_lt (by omega) (by omega))
      · exfalso
        apply q
        have e : n = 0 ∨ n = 1 ∨ n = 2 ∨ n = 3 ∨ n = 4 ∨ n = 5 := by omega
        have p0 : ¬ nI j < 0 := nI_pos (by omega)
        have p0 : 0 ≤ nI j := Int32.not_lt.mp p0
        refine Int32.lt_of_lt_of_le ?_ p0
        rcases e with rfl | rfl | rfl | rfl | rfl | rfl <;> decide
    refine ld _ ⟨rfl, lin0 hj6 hn h31⟩ rfl ?_
    exact hC _ _ _ _ (law_sw i hj6 hn h31 (fun h' z => law_t (N hj6 h' z)))
theorem law_loop (hn : G.2.2.2.2.2.2.1 = n) (h31 : n < 2 ^ 31) (hK1 : ∀ h', K (some (vI 1)) h') : ∀ (m j : Nat) (h : AH), n ≤ j + m → j ≤ n → LI h → Go G l (mt mL_law) 18 (lsL j) [] h 159 mdLU K
  | 0, j, h, hm, hj, i => law_step i hj hn h31 hK1 (fun z => absurd z (by omega))
  | m + 1, j, h, hm, hj, i => law_step i hj hn h31 hK1 (fun z h' i' => law_loop hn h31 hK1 m (j + 6) h' (by omega) z i')
end Law
