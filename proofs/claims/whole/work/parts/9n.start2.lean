/-! ===== what the two objects hold when they are made ===== -/
theorem gD0 {l : List Nat} {j : Nat} (h : l.length ≤ j) : l.getD j 0 = 0 := by
  rw [List.getD_eq_getElem?_getD, List.getElem?_eq_none h]; rfl
theorem crf_13 {k j : Nat} (hj : 13 ≤ j) : crf k j = 0 := by
  unfold crf
  split
  · exact gD0 (Nat.le_trans (show 8 ≤ 13 by decide) hj)
  · split
    · rw [if_neg (by omega)]
    · split
      · exact gD0 (Nat.le_trans (by decide) hj)
      · exact gD0 (Nat.le_trans (by decide) hj)
      · exact gD0 (Nat.le_trans (by decide) hj)
      · exact gD0 (Nat.le_trans (by decide) hj)
      · exact gD0 (Nat.le_trans (by decide) hj)
      · exact gD0 (Nat.le_trans (by decide) hj)
      · exact gD0 (Nat.le_trans (by decide) hj)
      · exact gD0 (Nat.le_trans (by decide) hj)
      · exact gD0 (Nat.le_trans (by decide) hj)
      · exact gD0 (Nat.le_trans (by decide) hj)
      · rfl
theorem lkR_out {n : Nat} : ∀ {r : List (Nat × Nat)} {j : Nat}, r.all (fun q => Nat.blt q.1 n) = true → n ≤ j → lkR r j = 0
  | [], _, _, _ => rfl
  | (i, v) :: r, j, h, hj => by
    simp only [List.all_cons, Bool.and_eq_true] at h
    have : i < n := Nat.le_of_ble_eq_true h.1
    rw [lkR_cons, if_neg (by omega)]
    exact lkR_out h.2 hj
/-- the same heap, its shapes and references told beyond the last cell -/
def tdy (h : AH) : AH := (h.1, shp, h.2.2.1, h.2.2.2.1, fun k j => if 159 < k then crf k j else h.2.2.2.2 k j)
theorem Go.swap {G : GP} {l : Launch} {M : MD} {pc : Nat} {ls : List (Option AV)} {st : List AV} {h : AH} {uc us : Nat} {K : Option AV → AH → Prop} (hn : hN h = 159) (hs : ∀ k, 0 < k → k ≤ 159 → hS h k = shp k) (q : Go G l M pc ls st (tdy h) uc us K) : Go G l M pc ls st h uc us K := by
  intro p e s m args below meth c ad A H locs la E hA hw hx hS' hl
  have he : ∀ k, 0 < k → k ≤ 159 → ent G ad (tdy h) k = ent G ad h k := fun k h0 h1 => by
    have e1 : hR (tdy h) k = hR h k := by
      funext j
      show (if 159 < k then crf k j else h.2.2.2.2 k j) = _
      rw [if_neg (by omega)]; rfl
    have e2 : hS (tdy h) k = hS h k := by rw [hs k h0 h1]; rfl
    have e3 : hI (tdy h) k = hI h k := rfl
    have e4 : hL (tdy h) k = hL h k := rfl
    unfold ent fvl
    simp only [e1, e2, e3, e4]
  have ew : wl G ad (tdy h) = wl G ad h := by
    unfold wl
    show List.map _ (List.range (hN h)) = _
    apply List.map_congr_left
    intro k hk
    have := List.mem_range.mp hk
    rw [he (k + 1) (by omega) (by omega)]
  have hrf : RF (tdy h) := by
    intro k j hk
    have hk' : k ≤ hN h := hk
    show (if 159 < k then crf k j else h.2.2.2.2 k j) ≤ hN h
    rw [if_neg (by omega)]
    exact hw.2.2.2.2.2 k j hk'
  have k1 := q p e s m args below meth c ad A H locs la E hA ⟨by rw [ew]; exact hw.1, hw.2.1, by rw [ew]; exact hw.2.2.1, hw.2.2.2.1, hw.2.2.2.2.1, hrf⟩ hx hS' hl
  exact k1
def sl0 (i : Nat) : Nat := if i = 0 then 2 else if i = 1 then 19 else 26 + 5 * (i - 2)
section CC
variable {L : List CL} {h : AH}
theorem HD.cI (q : HD L h) {k j : Nat} (h0 : 0 < k) (h1 : k ≤ L.length) : hI h k j = ccI L k j := by
  obtain ⟨c, e⟩ : ∃ c, L[k - 1]? = some c := ⟨_, List.getElem?_eq_getElem (by omega)⟩
  have := (q.is h0 e).2.2.1 j
  unfold ccI
  rw [e]; exact this
theorem HD.cR (q : HD L h) {k j : Nat} (h0 : 0 < k) (h1 : k ≤ L.length) : hR h k j = ccR L k j := by
  obtain ⟨c, e⟩ : ∃ c, L[k - 1]? = some c := ⟨_, List.getElem?_eq_getElem (by omega)⟩
  have := (q.is h0 e).2.2.2 j
  unfold ccR
  rw [e]; exact this
theorem HD.cS (q : HD L h) {k : Nat} (h0 : 0 < k) (h1 : k ≤ L.length) : hS h k = ccS L k := by
  obtain ⟨c, e⟩ : ∃ c, L[k - 1]? = some c := ⟨_, List.getElem?_eq_getElem (by omega)⟩
  have := (q.is h0 e).2.1
  unfold ccS
  rw [e]; exact this
theorem start_ok (q : HD L h) (hc : chkL L = true) : (hN h = 159 ∧ ∀ k, 0 < k → k ≤ 159 → hS h k = shp k) ∧ MR (tdy h) (fun _ => 0) 0 0 (-1) pic0 (fun _ => pic0) 0 0 (fun _ => 0) (fun _ => 0) 0 (fun _ => pic0) (fun _ => False) ∧ CR (tdy h) (fun _ => 0) 0 0 (-1) pic0 (fun _ => pic0) 0 0 (fun _ => 0) (fun _ => 0) 0 (fun _ => pic0) (fun _ => False) := by
  unfold chkL at hc
  simp only [Bool.and_eq_true, decide_eq_true_eq] at hc
  obtain ⟨c1, c2, c3, c4, c5, c6, c7, c8, c9, c10, c11, c12, c13, c14, c15⟩ := hc
  have c1 := Nat.eq_of_beq_eq_true c1
  have hn : hN h = 159 := q.1.trans c1
  have hs : ∀ k, 0 < k → k ≤ 159 → hS h k = shp k := fun k h0 h1 => by
    have := of_decide_eq_true (List.all_eq_true.mp c2 (k - 1) (List.mem_range.mpr (by omega)))
    rw [show k - 1 + 1 = k by omega] at this
    rw [q.cS h0 (by omega), this]
  have hz : ∀ k j, zI.contains (k, j) = true → 0 < k → k ≤ 159 → hI h k j = 0 := fun k j hm h0 h1 => by
    have hm : (k, j) ∈ zI := by simpa using hm
    have := of_decide_eq_true (List.all_eq_true.mp c6 _ hm)
    rw [q.cI h0 (by omega)]; exact this
  have e137 : hI h 137 = nR pic0 := by
    funext j
    cases e : L[136]? with
    | none => rw [e] at c11; cases c11
    | some c =>
      rw [e] at c11
      have c11 : c.2.1 = [(1, 8), (0, 8)] := by simpa using c11
      have := (q.is (k := 137) (by decide) e).2.2.1 j
      rw [this, c11, lkI_cons, lkI_cons]
      show _ = nI (pic0 j)
      unfold pic0 pu
      by_cases j1 : j = 1
      · rw [if_pos j1, if_pos j1]; rfl
      · rw [if_neg j1, if_neg j1]
        by_cases j0 : j = 0
        · rw [if_pos j0, if_pos j0]; rfl
        · rw [if_neg j0, if_neg j0]; rfl
  have e3 : ∀ j, hI h 3 j = 0 := fun j => by
    cases e : L[2]? with
    | none => rw [e] at c12; cases c12
    | some c =>
      rw [e] at c12
      have c12 : c.2.1 = [] := by simpa using c12
      have := (q.is (k := 3) (by decide) e).2.2.1 j
      rw [this, c12]; rfl
  have e136 : ∀ j, hR h 136 j = mrf j := fun j => by
    by_cases hj : j < 40
    · rw [q.cR (by decide) (by omega)]
      exact Nat.eq_of_beq_eq_true (List.all_eq_true.mp c4 j (List.mem_range.mpr hj))
    · cases e : L[135]? with
      | none => rw [e] at c5; cases c5
      | some c =>
        rw [e] at c5
        rw [(q.is (k := 136) (by decide) e).2.2.2 j, lkR_out c5 (by omega)]
        exact (gD0 (show _ ≤ j from Nat.le_trans (by decide) (Nat.le_of_not_lt hj))).symm
  have r0 : ∀ k j, k ≤ 159 → hR (tdy h) k j = hR h k j := fun k j hk => by
    show (if 159 < k then crf k j else h.2.2.2.2 k j) = _
    rw [if_neg (by omega)]; rfl
  have ms : MS (tdy h) := ⟨hn, rfl, fun j => (r0 136 j (by decide)).trans (e136 j)⟩
  have cs : CS (tdy h) := by
    refine ⟨hn, rfl, fun k j hkj => ?_⟩
    by_cases hk : 159 < k
    · show (if 159 < k then crf k j else h.2.2.2.2 k j) = _
      rw [if_pos hk]
    · rw [r0 k j (by omega)]
      by_cases k0 : k = 0
      · subst k0; exact absurd (show crf 0 j = 0 from rfl) hkj
      · have hj : j < 13 := Classical.byContradiction fun z => hkj (crf_13 (by omega))
        have := List.all_eq_true.mp (List.all_eq_true.mp c3 (k - 1) (List.mem_range.mpr (by omega))) j (List.mem_range.mpr hj)
        rw [show k - 1 + 1 = k by omega, Bool.or_eq_true] at this
        rw [q.cR (by omega) (by omega)]
        rcases this with z | z
        · exact absurd (Nat.eq_of_beq_eq_true z) hkj
        · exact Nat.eq_of_beq_eq_true z
  have bF : bI False = 0 := bI_F (fun z => z)
  refine ⟨⟨hn, hs⟩, ⟨⟨ms, e137, good_pic0⟩, ⟨fun i hi => absurd hi (by omega), hz 136 2 rfl (by decide) (by decide), by decide, hz 136 11 rfl (by decide) (by decide), (q.cI (by decide) (by omega)).trans c10⟩, ⟨fun i hi => absurd hi (by omega), hz 136 17 rfl (by decide) (by decide), hz 136 18 rfl (by decide) (by decide), by decide⟩, ⟨fun i hi => absurd hi (by omega), hz 136 27 rfl (by decide) (by decide), by decide⟩, fun b hb => ⟨?_, fun z => z.elim⟩⟩, ⟨sl0, CRz.o ⟨⟨⟨⟨fun i hi => ?_, fun i j hi hj e => ?_, ?_, ?_, fun i hi => ?_⟩, cs, rfl, ⟨⟨?_, ?_, ?_, ?_⟩, fun c hc => ?_, fun d hd => absurd hd (Nat.not_lt_zero _)⟩, good_pic0⟩, ⟨fun i hi => absurd hi (by omega), hz 17 0 rfl (by decide) (by decide), by decide, hz 17 1 rfl (by decide) (by decide), (q.cI (by decide) (by omega)).trans c9⟩, ⟨0, by decide, hz 24 1 rfl (by decide) (by decide), hz 24 2 rfl (by decide) (by decide), hz 24 3 rfl (by decide) (by decide), by decide, fun i hi => absurd hi (by omega)⟩, ⟨0, by decide, hz 86 2 rfl (by decide) (by decide), hz 86 3 rfl (by decide) (by decide), by decide, fun i hi => absurd hi (by omega)⟩, fun b hb => ⟨?_, fun z => z.elim⟩⟩, hz 1 2 rfl (by decide) (by decide), hz 89 6 rfl (by decide) (by decide)⟩⟩⟩
  · rw [bF]
    rcases (show b = 0 ∨ b = 1 by omega) with rfl | rfl
    · exact hz 159 0 rfl (by decide) (by decide)
    · exact hz 159 1 rfl (by decide) (by decide)
  · exact List.all_eq_true.mp (show (List.range 14).all (fun i => PL.contains (sl0 i)) = true by decide +kernel) i (List.mem_range.mpr hi)
  · unfold sl0 at e
    split at e <;> split at e <;> (try split at e) <;> (try split at e) <;> omega
  · exact (r0 1 0 (by decide)).trans ((q.cR (by decide) (by omega)).trans (Nat.eq_of_beq_eq_true c13))
  · exact (r0 17 4 (by decide)).trans ((q.cR (by decide) (by omega)).trans (Nat.eq_of_beq_eq_true c14))
  · refine (r0 25 i (by decide)).trans ((q.cR (by decide) (by omega)).trans ((Nat.eq_of_beq_eq_true (List.all_eq_true.mp c15 i (List.mem_range.mpr hi))).trans ?_))
    unfold sl0
    rw [if_neg (by omega), if_neg (by omega)]
    omega
  · exact (q.cI (k := 2) (by decide) (by omega)).trans c7
  · exact (q.cI (k := 2) (by decide) (by omega)).trans c8
  · exact hz 2 2 rfl (by decide) (by decide)
  · exact hz 2 3 rfl (by decide) (by decide)
  · refine (e3 c).trans ?_
    have : pcW pic0 c = 0 := by
      show pic0 (4 + c) = 0
      unfold pic0; rw [pu_ne (by omega), pu_ne (by omega)]
    rw [this]; rfl
  · rw [bF]
    rcases (show b = 0 ∨ b = 1 by omega) with rfl | rfl
    · exact hz 122 0 rfl (by decide) (by decide)
    · exact hz 129 0 rfl (by decide) (by decide)
end CC
