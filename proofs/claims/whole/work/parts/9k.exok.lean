/-! ===== the list's run is the machine's ===== -/
theorem dec3 {m pc len : Nat} {ins : Instr} {b : Bool} (h : ((match decode (mdB (mt m)) pc with
      | .ok (i', n) => decide (i' = ins) && Nat.beq n len
      | _ => false) && b) = true) : decode (mdB (mt m)) pc = .ok (ins, len) ∧ b = true := by
  rw [Bool.and_eq_true] at h
  refine ⟨?_, h.2⟩
  have h1 := h.1
  split at h1
  · rename_i i' n e
    rw [Bool.and_eq_true, decide_eq_true_eq] at h1
    rw [e, h1.1, Nat.eq_of_beq_eq_true h1.2]
  · cases h1
theorem mt_I {a : Nat} (h : a < 292) (hk : (mtK a).1 = 2) : Cond.instanceMethod (mdN (mt a)) ∈ lw_ok ∧ (mdN (mt a)).name = "<init>" ∧ mdT (mt a) = none := by
  have h1 := mt_ok h (by omega)
  unfold mOK at h1
  simp only [Bool.and_eq_true, decide_eq_true_eq, hk] at h1
  obtain ⟨-, -, -, -, -, -, g7⟩ := h1
  simp only [show ¬ (2 = 0) by omega, show ¬ (2 = 1) by omega, if_false, Bool.and_eq_true, decide_eq_true_eq] at g7
  exact ⟨wIs.mem g7.1, g7.2.1, g7.2.2⟩
theorem w_oi : Cond.instanceMethod Lib.objectInit ∈ lw_ok ∧ Cond.code Lib.objectInit ⟨#[0xb1]⟩ 1 none ∈ lw_ok := ⟨wIs.mem (i := 7025) (by decide +kernel), wIs.mem (i := 7026) (by decide +kernel)⟩
set_option maxHeartbeats 4000000 in
theorem stR_ok {G : GP} {l : Launch} {m : Nat} {r : Row} {ls : List (Option AV)} {st : List AV} {L L' : List CL} {uc us : Nat} {kk : Nat → List (Option AV) → List AV → List CL → Nat → Nat → Option (List CL)} {call : Nat → List AV → List CL → Option (List CL)} {K : Option AV → AH → Prop} {h : AH} (hm : m < 292) (hr : rowM m r = true) (hs : stR m r ls st L uc us kk call = some L') (q : HD L h) (hk : ∀ pc ls st L uc us h, kk pc ls st L uc us = some L' → HD L h → Go G l (mt m) pc ls st h uc us K)
    (hcall : ∀ a k L L1 h K, (mtK a).1 = 2 → a < 292 → call a [vR k] L = some L1 → HD L h → (∀ h', HD L1 h' → K none h') → Spec G l (mt a) [vR k] h K) (hK : ∀ h', HD L' h' → K none h') : Go G l (mt m) r.1 ls st h uc us K := by
  obtain ⟨pc, len, ins, a, b, t, pl, v, tb⟩ := r
  have hc := mcl_of hm
  show Go G l (mt m) pc ls st h uc us K
  cases ins with
  | aload_n i =>
    have hr2 : rowOK m (pc, len, .aload_n i, a, b, t, pl, v, tb) = true := hr
    unfold rowOK at hr2
    obtain ⟨hd, hr⟩ := dec_of hr2
    obtain rfl := Nat.eq_of_beq_eq_true hr
    simp only [stR] at hs
    split at hs
    · rename_i x e; exact Go.aload_n hd e (hk _ _ _ _ _ _ _ hs q)
    · cases hs
  | iload_n i =>
    have hr2 : rowOK m (pc, len, .iload_n i, a, b, t, pl, v, tb) = true := hr
    unfold rowOK at hr2
    obtain ⟨hd, hr⟩ := dec_of hr2
    obtain rfl := Nat.eq_of_beq_eq_true hr
    simp only [stR] at hs
    split at hs
    · rename_i x e; exact Go.iload_n hd e (hk _ _ _ _ _ _ _ hs q)
    · cases hs
  | iconst n =>
    have hr2 : rowOK m (pc, len, .iconst n, a, b, t, pl, v, tb) = true := hr
    unfold rowOK at hr2
    obtain ⟨hd, hr⟩ := dec_of hr2
    simp only [Bool.and_eq_true, decide_eq_true_eq] at hr
    obtain ⟨hv, hr⟩ := hr
    obtain rfl := Nat.eq_of_beq_eq_true hr
    exact Go.iconst hd hv (hk _ _ _ _ _ _ _ hs q)
  | bipush n =>
    have hr2 : rowOK m (pc, len, .bipush n, a, b, t, pl, v, tb) = true := hr
    unfold rowOK at hr2
    obtain ⟨hd, hr⟩ := dec_of hr2
    simp only [Bool.and_eq_true, decide_eq_true_eq] at hr
    obtain ⟨hv, hr⟩ := hr
    obtain rfl := Nat.eq_of_beq_eq_true hr
    exact Go.bipush hd hv (hk _ _ _ _ _ _ _ hs q)
  | sipush n =>
    have hr2 : rowOK m (pc, len, .sipush n, a, b, t, pl, v, tb) = true := hr
    unfold rowOK at hr2
    obtain ⟨hd, hr⟩ := dec_of hr2
    simp only [Bool.and_eq_true, decide_eq_true_eq] at hr
    obtain ⟨hv, hr⟩ := hr
    obtain rfl := Nat.eq_of_beq_eq_true hr
    exact Go.sipush hd hv (hk _ _ _ _ _ _ _ hs q)
  | dup =>
    have hr2 : rowOK m (pc, len, .dup, a, b, t, pl, v, tb) = true := hr
    unfold rowOK at hr2
    obtain ⟨hd, hr⟩ := dec_of hr2
    obtain rfl := Nat.eq_of_beq_eq_true hr
    simp only [stR] at hs
    split at hs
    · exact Go.dup hd rfl (hk _ _ _ _ _ _ _ hs q)
    · cases hs
  | istore_n i =>
    have hr2 : rowOK m (pc, len, .istore_n i, a, b, t, pl, v, tb) = true := hr
    unfold rowOK at hr2
    obtain ⟨hd, hr⟩ := dec_of hr2
    simp only [Bool.and_eq_true] at hr
    obtain ⟨hv, hr⟩ := hr
    obtain rfl := Nat.eq_of_beq_eq_true hr
    simp only [stR] at hs
    split at hs
    · exact Go.istore_n hd rfl (Nat.le_of_ble_eq_true hv) (hk _ _ _ _ _ _ _ hs q)
    · cases hs
  | iinc i n =>
    have hr2 : rowOK m (pc, len, .iinc i n, a, b, t, pl, v, tb) = true := hr
    unfold rowOK at hr2
    obtain ⟨hd, hr⟩ := dec_of hr2
    simp only [Bool.and_eq_true, decide_eq_true_eq] at hr
    obtain ⟨hv, hv2, hr⟩ := hr
    obtain rfl := Nat.eq_of_beq_eq_true hr
    simp only [stR] at hs
    split at hs
    · rename_i x e; exact Go.iinc hd e (by rw [hv2]) (Nat.le_of_ble_eq_true hv) (hk _ _ _ _ _ _ _ hs q)
    · cases hs
  | goto off =>
    have hr2 : rowOK m (pc, len, .goto off, a, b, t, pl, v, tb) = true := hr
    unfold rowOK at hr2
    obtain ⟨hd, hr⟩ := dec_of hr2
    simp only [Bool.and_eq_true, decide_eq_true_eq] at hr
    obtain ⟨hv, hr⟩ := hr
    obtain rfl := Nat.eq_of_beq_eq_true hr
    exact Go.goto hd hv (hk _ _ _ _ _ _ _ hs q)
  | if_icmp cc off =>
    cases cc with
    | ge =>
      have hr2 : rowOK m (pc, len, .if_icmp .ge off, a, b, t, pl, v, tb) = true := hr
      unfold rowOK at hr2
      obtain ⟨hd, hr⟩ := dec_of hr2
      simp only [Bool.and_eq_true, decide_eq_true_eq] at hr
      obtain ⟨hv, hr⟩ := hr
      obtain rfl := Nat.eq_of_beq_eq_true hr
      simp only [stR] at hs
      split at hs
      · rename_i y x st'
        refine Go.icmp_ge hd hv (fun z => ?_) (fun z => ?_)
        · rw [if_pos z] at hs; exact hk _ _ _ _ _ _ _ hs q
        · rw [if_neg z] at hs; exact hk _ _ _ _ _ _ _ hs q
      · cases hs
    | _ => exact nomatch (show (none : Option (List CL)) = some L' from hs)
  | getfield i =>
    have hr2 : rowOK m (pc, len, .getfield i, a, b, t, pl, v, tb) = true := hr
    unfold rowOK at hr2
    obtain ⟨hd, hr⟩ := dec_of hr2
    simp only [Bool.and_eq_true, decide_eq_true_eq] at hr
    obtain ⟨hr, hv⟩ := hr
    obtain rfl := Nat.eq_of_beq_eq_true hr
    simp only [stR] at hs
    split at hs
    · rename_i k st'
      obtain ⟨h0, c, e1, hs2⟩ := cel.of hs
      clear hs
      have hs := hs2
      clear hs2
      obtain ⟨g, hs2⟩ := gd.of hs
      clear hs
      have hs := hs2
      clear hs2
      simp only [Bool.and_eq_true, decide_eq_true_eq] at g
      obtain ⟨g1, g2⟩ := g
      obtain rfl := Nat.eq_of_beq_eq_true g2
      obtain ⟨g3, g4⟩ := q.is h0 e1
      obtain ⟨q', f1, f2, f3, f4, f5⟩ := fl_link hv
      refine Go.getf hd f1 f2 (by rw [hc]; exact f4) ⟨h0, g3, g4.1.trans g1⟩ ?_
      have e : fav h k a b = vR (lkR c.2.2 b) := by
        rw [← fvt_fav f3]
        exact congrArg vR (g4.2.2 b)
      rw [e]
      exact hk _ _ _ _ _ _ _ hs q
    · cases hs
  | putfield i =>
    obtain ⟨hd, hr⟩ := dec3 hr
    simp only [Bool.and_eq_true, decide_eq_true_eq] at hr
    obtain ⟨hv, hf⟩ := hr
    obtain ⟨q', f1, f2, f3, f4, f5⟩ := fl_link hv
    rw [f1] at hf
    have hfin : (q'.2.1 b).2.2.2 = false ∨ ((q'.2.1 b).2.2.2 = true ∧ (mdN (mt m)).name = "<init>" ∧ (q'.2.1 b).1 = (mdN (mt m)).cls) := by
      simp only [Bool.or_eq_true, Bool.not_eq_true', Bool.and_eq_true, decide_eq_true_eq] at hf
      cases e : (q'.2.1 b).2.2.2 with
      | false => exact Or.inl rfl
      | true =>
        rw [e] at hf
        exact Or.inr ⟨rfl, hf.resolve_left (by simp)⟩
    have hlk : Cond.fieldLink (mdN (mt m)).cls i (q'.2.1 b).1 (q'.2.1 b).2.1 (q'.2.1 b).2.2.1 ∈ lw_ok := by rw [hc]; exact f4
    simp only [stR] at hs
    split at hs
    · obtain ⟨h0, c, e1, hs2⟩ := cel.of hs
      clear hs
      have hs := hs2
      clear hs2
      obtain ⟨g, hs2⟩ := gd.of hs
      clear hs
      have hs := hs2
      clear hs2
      simp only [Bool.and_eq_true, decide_eq_true_eq] at g
      obtain ⟨g1, g2, g5, g6⟩ := g
      obtain rfl := Nat.eq_of_beq_eq_true g2
      obtain ⟨g3, g4⟩ := q.is h0 e1
      exact Go.putR hd f1 f2 f3 (f5 rfl) (Nat.le_of_ble_eq_true g5) (by rw [q.1]; exact Nat.le_of_ble_eq_true g6) hlk hfin ⟨h0, g3, g4.1.trans g1⟩ (hk _ _ _ _ _ _ _ hs (q.setR h0 e1))
    · obtain ⟨h0, c, e1, hs2⟩ := cel.of hs
      clear hs
      have hs := hs2
      clear hs2
      obtain ⟨g, hs2⟩ := gd.of hs
      clear hs
      have hs := hs2
      clear hs2
      simp only [Bool.and_eq_true, Bool.or_eq_true, decide_eq_true_eq] at g
      obtain ⟨g1, g2⟩ := g
      obtain ⟨g3, g4⟩ := q.is h0 e1
      rcases g2 with g2 | ⟨g2, g5⟩
      · obtain rfl := Nat.eq_of_beq_eq_true g2
        exact Go.putI hd f1 f2 f3 hlk hfin ⟨h0, g3, g4.1.trans g1⟩ (hk _ _ _ _ _ _ _ hs (q.setI h0 e1))
      · obtain rfl := Nat.eq_of_beq_eq_true g2
        exact Go.putZ hd f1 f2 f3 g5 hlk hfin ⟨h0, g3, g4.1.trans g1⟩ (hk _ _ _ _ _ _ _ hs (q.setI h0 e1))
    · cases hs
  | new i =>
    obtain ⟨hd, hr⟩ := dec3 hr
    simp only [stR] at hs
    split at hs
    · rename_i q' f1
      rw [f1] at hr
      simp only [Bool.and_eq_true] at hr
      obtain ⟨r1, r2, r3, r4⟩ := hr
      obtain ⟨g, hs2⟩ := gd.of hs
      clear hs
      have hs := hs2
      clear hs2
      simp only [Bool.and_eq_true] at g
      obtain ⟨g1, g2, g3, g4⟩ := g
      have hn := q.1
      refine Go.newX hd f1 (by rw [hc]; exact wIs.mem r1) (wIs.mem r2) (wIs.mem r3) r4 (Nat.le_of_ble_eq_true g1) (Nat.le_of_ble_eq_true g2) (by rw [hn]; exact Nat.le_of_ble_eq_true g3) (by rw [hn]; exact okb.of g4) ?_
      rw [hn]
      exact hk _ _ _ _ _ _ _ hs q.new
    · cases hs
  | newarray ty =>
    obtain ⟨hd, hr⟩ := dec3 hr
    simp only [Bool.and_eq_true, decide_eq_true_eq] at hr
    obtain ⟨r1, r2, r3⟩ := hr
    subst r2
    simp only [stR] at hs
    split at hs
    · rename_i x st'
      obtain ⟨g, hs2⟩ := gd.of hs
      clear hs
      have hs := hs2
      clear hs2
      simp only [Bool.and_eq_true, decide_eq_true_eq] at g
      obtain ⟨g0, g1, g2, g3, g4, g5⟩ := g
      have hn := q.1
      rw [g0]
      refine Go.newarrayX (Nat.le_of_ble_eq_true r1) hd (wIs.mem r3) (Nat.le_of_ble_eq_true g1) (Nat.le_of_ble_eq_true g2) (Nat.le_of_ble_eq_true g3) (by rw [hn]; exact Nat.le_of_ble_eq_true g4) (by rw [hn]; exact okb.of g5) ?_
      rw [hn]
      exact hk _ _ _ _ _ _ _ hs q.new
    · cases hs
  | anewarray i =>
    obtain ⟨hd, hr⟩ := dec3 hr
    simp only [Bool.and_eq_true, Bool.or_eq_true] at hr
    obtain ⟨r1, r3⟩ := hr
    simp only [stR] at hs
    split at hs
    · rename_i x st'
      obtain ⟨g, hs2⟩ := gd.of hs
      clear hs
      have hs := hs2
      clear hs2
      simp only [Bool.and_eq_true, decide_eq_true_eq] at g
      obtain ⟨g0, g1, g2, g3, g4, g5⟩ := g
      have hn := q.1
      rw [g0]
      refine Go.anewarrayX (r1.imp Nat.eq_of_beq_eq_true Nat.eq_of_beq_eq_true) hd (by rw [hc]; exact wIs.mem r3) (Nat.le_of_ble_eq_true g1) (Nat.le_of_ble_eq_true g2) (Nat.le_of_ble_eq_true g3) (by rw [hn]; exact Nat.le_of_ble_eq_true g4) (by rw [hn]; exact okb.of g5) ?_
      rw [hn]
      exact hk _ _ _ _ _ _ _ hs q.new
    · cases hs
  | invokespecial i =>
    obtain ⟨hd, hr⟩ := dec3 hr
    simp only [stR] at hs
    split at hs
    · rename_i k st'
      match t, hr, hs with
      | 0, hr, hs =>
        simp only [Bool.and_eq_true] at hr
        obtain ⟨r1, r2, r3⟩ := hr
        obtain ⟨g, hs2⟩ := gd.of hs
        clear hs
        have hs := hs2
        clear hs2
        simp only [Bool.and_eq_true] at g
        have r3 := Nat.le_of_ble_eq_true r3
        have g2 := Nat.le_of_ble_eq_true g.2
        exact Go.objInit hd (Nat.le_of_ble_eq_true g.1) (by rw [hc]; exact wIs.mem r1) w_oi.1 w_oi.2 (Nat.le_of_ble_eq_true r2) (by rw [szS_eq]; omega) (hk _ _ _ _ _ _ _ hs q)
      | t + 1, hr, hs =>
        simp only [Bool.and_eq_true, decide_eq_true_eq] at hr
        obtain ⟨r1, r2, r3, r4, r5, r6⟩ := hr
        have ha : a < 292 := Nat.le_of_ble_eq_true r2
        have hk2 := Nat.eq_of_beq_eq_true r3
        have hn0 := Nat.eq_of_beq_eq_true r4
        obtain ⟨h0, c, e1, hs2⟩ := cel.of hs
        clear hs
        have hs := hs2
        clear hs2
        obtain ⟨g3, g4⟩ := q.is h0 e1
        split at hs
        · rename_i cj ec
          obtain ⟨g, hs2⟩ := gd.of hs
          clear hs
          have hs := hs2
          clear hs2
          simp only [Bool.and_eq_true] at g
          obtain ⟨d1, d2, d3, d4⟩ := g
          split at hs
          · rename_i L1 ecall
            obtain ⟨i1, i2, i3⟩ := mt_I ha hk2
            have hmk := (mt_MOK ha (by omega)).1
            have ho : Ob h k cj := ⟨h0, g3, g4.1.trans ec⟩
            have hrm : rmOK (mt a) (mt m) uc us st' := ⟨⟨Nat.le_of_ble_eq_true r5, Nat.le_of_ble_eq_true r6⟩, Nat.le_of_ble_eq_true d2, Nat.le_of_ble_eq_true d3, by rw [szS_eq]; exact Nat.le_of_ble_eq_true d1⟩
            have hokl : okLSX (hN h) (mdR (mt a)).cells ls st' := Or.inr (by rw [q.1]; exact okb.of d4)
            have hsp : ∀ K' : Option AV → AH → Prop, (∀ h', HD L1 h' → K' none h') → Spec G l (mt a) [vR k] h K' := fun K' z => hcall a k L L1 h K' hk2 ha ecall q z
            by_cases hb : b = 0
            · exact Go.callIX (as := []) hd hmk i3 i1 i2 (by rw [hc]; exact (ml_link r1).1 hb) hn0.symm ho hrm hokl (hsp _ (fun h' z => hk _ _ _ _ _ _ _ hs z))
            · exact Go.callINX (as := []) hd hmk i3 i1 i2 (by rw [hc]; exact (ml_link r1).2 hb) hn0.symm ho hrm hokl (hsp _ (fun h' z => hk _ _ _ _ _ _ _ hs z))
          · cases hs
        · cases hs
    · cases hs
  | aastore =>
    have hr2 : rowOK m (pc, len, .aastore, a, b, t, pl, v, tb) = true := hr
    unfold rowOK at hr2
    obtain ⟨hd, hr⟩ := dec_of hr2
    simp only [Bool.and_eq_true, Bool.or_eq_true] at hr
    obtain ⟨ht, hr⟩ := hr
    obtain rfl := Nat.eq_of_beq_eq_true hr
    simp only [stR] at hs
    split at hs
    · rename_i x i k st'
      obtain ⟨h0, c, e1, hs2⟩ := cel.of hs
      clear hs
      have hs := hs2
      clear hs2
      obtain ⟨x0, d, e2, hs2⟩ := cel.of hs
      clear hs
      have hs := hs2
      clear hs2
      obtain ⟨g3, g4⟩ := q.is h0 e1
      obtain ⟨g5, g6⟩ := q.is x0 e2
      split at hs
      · rename_i ty n ec
        obtain ⟨g, hs2⟩ := gd.of hs
        clear hs
        have hs := hs2
        clear hs2
        simp only [Bool.and_eq_true, decide_eq_true_eq] at g
        obtain ⟨d1, d2, d3, d4, d5⟩ := g
        obtain rfl := Nat.eq_of_beq_eq_true d1
        have d3 : ix i < n := Nat.le_of_ble_eq_true d3
        have d4 := Nat.le_of_ble_eq_true d4
        refine Go.aastore hd (ht.imp (fun z => ⟨Nat.eq_of_beq_eq_true z.1, Nat.eq_of_beq_eq_true z.2⟩) (fun z => ⟨Nat.eq_of_beq_eq_true z.1, Nat.eq_of_beq_eq_true z.2⟩)) ⟨n, ⟨h0, g3, g4.1.trans ec⟩, ?_⟩ ⟨x0, g5, g6.1.trans d5⟩ (hk _ _ _ _ _ _ _ hs (q.setR h0 e1))
        rw [d2]
        exact vp_in_nI d3 (by omega)
      · cases hs
    · cases hs
  | iastore =>
    have hr2 : rowOK m (pc, len, .iastore, a, b, t, pl, v, tb) = true := hr
    unfold rowOK at hr2
    obtain ⟨hd, hr⟩ := dec_of hr2
    obtain rfl := Nat.eq_of_beq_eq_true hr
    simp only [stR] at hs
    split at hs
    · rename_i x i k st'
      obtain ⟨h0, c, e1, hs2⟩ := cel.of hs
      clear hs
      have hs := hs2
      clear hs2
      obtain ⟨g3, g4⟩ := q.is h0 e1
      split at hs
      · rename_i ty n ec
        obtain ⟨g, hs2⟩ := gd.of hs
        clear hs
        have hs := hs2
        clear hs2
        simp only [Bool.and_eq_true, decide_eq_true_eq] at g
        obtain ⟨d1, d2, d3, d4⟩ := g
        obtain rfl := Nat.eq_of_beq_eq_true d1
        have d3 : ix i < n := Nat.le_of_ble_eq_true d3
        have d4 := Nat.le_of_ble_eq_true d4
        refine Go.iastore hd ⟨n, ⟨h0, g3, g4.1.trans ec⟩, ?_⟩ (hk _ _ _ _ _ _ _ hs (q.setI h0 e1))
        rw [d2]
        exact vp_in_nI d3 (by omega)
      · cases hs
    · cases hs
  | return_ =>
    have hr2 : rowOK m (pc, len, .return_, a, b, t, pl, v, tb) = true := hr
    unfold rowOK at hr2
    obtain ⟨hd, hr⟩ := dec_of hr2
    rw [Bool.and_eq_true, decide_eq_true_eq] at hr
    obtain ⟨hv, hr⟩ := hr
    obtain rfl := Nat.eq_of_beq_eq_true hr
    simp only [stR] at hs
    split at hs
    · obtain ⟨g, hs2⟩ := gd.of hs
      clear hs
      have hs := hs2
      clear hs2
      simp only [Bool.and_eq_true] at g
      cases hs
      exact Go.vreturn hd hv (Nat.le_of_ble_eq_true g.1) (Nat.le_of_ble_eq_true g.2) (hK _ q)
    · cases hs
  | _ => exact nomatch (show (none : Option (List CL)) = some L' from hs)
/-- a constructor's rows, its runL on a list -/
def runL (crow : Nat → List Row) : Nat → Nat → Nat → List (Option AV) → List AV → List CL → Nat → Nat → Option (List CL)
  | 0, _, _, _, _, _, _, _ => none
  | n + 1, m, pc, ls, st, L, uc, us => match seek pc (crow m) with
    | r :: _ => stR m r ls st L uc us (runL crow n m) (fun a as L => runL crow n a 0 (entL as (mdL (mt a))) [] L 0 0)
    | [] => none
theorem runL_ok {G : GP} {l : Launch} {crow : Nat → List Row} (hC : ∀ m, (crow m).all (rowM m) = true) (hL : ∀ m, m < 292 → (mtK m).1 = 2 → 1 ≤ mdL (mt m)) : ∀ (n m pc : Nat) (ls : List (Option AV)) (st : List AV) (L : List CL) (uc us : Nat) (L' : List CL) (K : Option AV → AH → Prop) (h : AH), m < 292 → runL crow n m pc ls st L uc us = some L' → HD L h → (∀ h', HD L' h' → K none h') → Go G l (mt m) pc ls st h uc us K
  | 0, m, pc, ls, st, L, uc, us, L', K, h, _, hs, _, _ => by cases hs
  | n + 1, m, pc, ls, st, L, uc, us, L', K, h, hm, hs, q, hK => by
    simp only [runL] at hs
    split at hs
    · rename_i r rest e
      obtain ⟨g1, g2⟩ := seek_sub e
      rw [← g1]
      refine stR_ok hm (List.all_eq_true.mp (hC m) r (g2 r List.mem_cons_self)) hs q (fun pc ls st L uc us h z q => runL_ok hC hL n m pc ls st L uc us L' K h hm z q hK) (fun a k L L1 h K k1 ha z q hK => ?_) hK
      exact Spec.of (mt_MOK ha (by omega)).1 (mt_MOK ha (by omega)).2 (hL a ha k1) (runL_ok hC hL n a 0 _ [] L 0 0 L1 K h ha z q hK)
    · cases hs
