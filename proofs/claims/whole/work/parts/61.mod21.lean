/-! ===== the model's reader: tokens ===== -/
theorem Spec.go0 {G : GP} {l : Launch} {m : Nat} {K : Option AV → AH → Prop} {as : List AV} {h : AH} (hm : Nat.blt m 292 = true) (hk : Nat.blt (mtK m).1 9 = true) {L : Nat} {ls : List (Option AV)} (hL : Nat.beq (mdL (mt m)) L = true) (hls : entL as L = ls) (hn : Nat.ble (enL as).length L = true) (k : Go G l (mt m) 0 ls [] h 0 0 K) : Spec G l (mt m) as h K := by
  have hL := Nat.eq_of_beq_eq_true hL
  subst hL
  subst hls
  exact Spec.of (mt_MOK (Nat.le_of_ble_eq_true hm) (Nat.le_of_ble_eq_true hk)).1 (mt_MOK (Nat.le_of_ble_eq_true hm) (Nat.le_of_ble_eq_true hk)).2 (Nat.le_of_ble_eq_true hn) k
def hv (t : Nat → Nat) (L i : Nat) : Int32 := if i < L then nI (t i) else -1
theorem hv_in {t : Nat → Nat} {L i : Nat} (h : i < L) : hv t L i = nI (t i) := if_pos h
theorem hv_out {t : Nat → Nat} {L i : Nat} (h : ¬ i < L) : hv t L i = -1 := if_neg h
/-- the bytes that are read -/
def RB (h : AH) (t : Nat → Nat) (L : Nat) : Prop := MS h ∧ (∀ i, i < L → hI h 138 i = nI (t i)) ∧ hI h 136 3 = nI L ∧ L ≤ 900 ∧ ∀ i, i < L → t i < 256
def RT (h : AH) (t : Nat → Nat) (T : TK) : Prop := hI h 136 6 = nI T.1 ∧ hI h 136 5 = nI T.2.1 ∧ hI h 136 7 = nI (T.2.2 - T.2.1) ∧ hI h 136 4 = nI T.2.2 ∧ (T.1 = 1 → hL h 136 13 = lN (wcd t T.2.1 (T.2.2 - T.2.1))) ∧ (T.1 = 2 → T.2.2 - T.2.1 ≤ 4 → hI h 136 8 = nI (vdg t T.2.1 (T.2.2 - T.2.1)))
theorem RB.fr {h h' : AH} {t : Nat → Nat} {L : Nat} {F M : List Nat} (r : RB h t L) (f : Fr F h h') (s : Sc1 M h h') (h1 : F.contains 138 = false) (h2 : M.contains 3 = false) : RB h' t L := by
  refine ⟨r.1.fr f, fun i hi => ?_, (s 3 h2).trans r.2.2.1, r.2.2.2⟩
  rw [f.i h1]; exact r.2.1 i hi
section MM
variable {G : GP} {l : Launch} {K : Option AV → AH → Prop} {h : AH} {ρ : Pic}
variable {t : Nat → Nat} {L a : Nat}
theorem sM_here {x : Int32} {j : Nat} (r : RB h t L) (e4 : hI h 136 4 = nI a) (hx : x = nI j) (ha : a + j ≤ 9000) (hK : K (some (vI (hv t L (a + j)))) h) : Spec G l (mt mM_here) [vR 136, vI x] h K := by
  subst hx
  have lL := r.2.2.2.1
  refine eM_here 39 [] fun S Cu hS hC => ?_
  refine ld (nI a) r.1.ob e4 ?_
  refine ld (nI L) r.1.ob r.2.2.1 ?_
  refine pk_le L (a + j) (fun q => ?_) (fun q => ?_) rfl (by first | with_reducible rfl | (try simp (disch := omega) only [pk_rem]) <;> simp (disch := omega) only [nl0, nl1, nl2, nl3, nl4, nl8, nl9, nl10, nl12, nl20, nl24, nl30, nl32, nl40, nl48, nl100, nl120, nl200, nl255, nl400, nl404, nl524, nl900, nl1000, nl9999, nl16, nl65536, nI_add, pk_mul, pk_sub, pk_div, pk_rem, Nat.add_zero, Nat.zero_add, Nat.mul_one, Nat.add_sub_cancel_left, Nat.add_sub_cancel])
  · exact rtI (K := K) (hv_out (by omega)).symm hK
  · refine ld 138 r.1.ob (r.1.2.2 1) ?_
    refine ld (nI a) r.1.ob e4 ?_
    refine ld (nI (t (a + j))) (r.1.inA (j := a + j) rfl rfl rfl (by first | with_reducible rfl | (try simp (disch := omega) only [pk_rem]) <;> simp (disch := omega) only [nl0, nl1, nl2, nl3, nl4, nl8, nl9, nl10, nl12, nl20, nl24, nl30, nl32, nl40, nl48, nl100, nl120, nl200, nl255, nl400, nl404, nl524, nl900, nl1000, nl9999, nl16, nl65536, nI_add, pk_mul, pk_sub, pk_div, pk_rem, Nat.add_zero, Nat.zero_add, Nat.mul_one, Nat.add_sub_cancel_left, Nat.add_sub_cancel]) (by omega) rfl) (by rw [ix_of (k := a + j) (by first | with_reducible rfl | (try simp (disch := omega) only [pk_rem]) <;> simp (disch := omega) only [nl0, nl1, nl2, nl3, nl4, nl8, nl9, nl10, nl12, nl20, nl24, nl30, nl32, nl40, nl48, nl100, nl120, nl200, nl255, nl400, nl404, nl524, nl900, nl1000, nl9999, nl16, nl65536, nI_add, pk_mul, pk_sub, pk_div, pk_rem, Nat.add_zero, Nat.zero_add, Nat.mul_one, Nat.add_sub_cancel_left, Nat.add_sub_cancel]) (by omega)]; exact r.2.1 _ q) ?_
    exact rtI (K := K) (hv_in q).symm hK
theorem sM_hereV {v : Int32} (r : RB h t L) (e4 : hI h 136 4 = nI a) (ha : a ≤ 9000) (e : hv t L a = v) (hK : K (some (vI v)) h) : Spec G l (mt mM_here) [vR 136, vI 0] h K := by
  subst e
  exact sM_here (j := 0) r e4 rfl ha hK
theorem sM_isLetter {x : Int32} {i : Nat} (hb : ∀ i, i < L → t i < 256) (hx : x = hv t L i) (hK : K (some (vI (bI (i < L ∧ ltB (t i) = true)))) h) : Spec G l (mt mM_isLetter) [vI x] h K := by
  subst hx
  refine eM_isLetter 39 [] fun S Cu hS hC => ?_
  by_cases q : i < L
  · have := hb i q
    rw [hv_in q]
    refine pk_lt (t i) 97 (fun q1 => ?_) (fun q1 => ?_)
    · exact rzF (fun z => by have := ltB_iff.mp z.2; omega) hK
    · refine pk_lt 122 (t i) (fun q2 => ?_) (fun q2 => ?_)
      · exact rzF (fun z => by have := ltB_iff.mp z.2; omega) hK
      · exact rzT ⟨q, ltB_iff.mpr ⟨q1, q2⟩⟩ hK
  · rw [hv_out q]
    exact And.intro (fun _ => rzF (fun z => q z.1) hK) (fun z => absurd (by decide) z)
theorem sM_isDigit {x : Int32} {i : Nat} (hb : ∀ i, i < L → t i < 256) (hx : x = hv t L i) (hK : K (some (vI (bI (i < L ∧ dgB (t i) = true)))) h) : Spec G l (mt mM_isDigit) [vI x] h K := by
  subst hx
  refine eM_isDigit 39 [] fun S Cu hS hC => ?_
  by_cases q : i < L
  · have := hb i q
    rw [hv_in q]
    refine pk_lt (t i) 48 (fun q1 => ?_) (fun q1 => ?_)
    · exact rzF (fun z => by have := dgB_iff.mp z.2; omega) hK
    · refine pk_lt 57 (t i) (fun q2 => ?_) (fun q2 => ?_)
      · exact rzF (fun z => by have := dgB_iff.mp z.2; omega) hK
      · exact rzT ⟨q, dgB_iff.mpr ⟨q1, q2⟩⟩ hK
  · rw [hv_out q]
    exact And.intro (fun _ => rzF (fun z => q z.1) hK) (fun z => absurd (by decide) z)
theorem sM_goOn (r : RB h t L) (e4 : hI h 136 4 = nI a) (ha : a ≤ L) (hK : ∀ h', Fr [136] h h' → Sc1 [4, 5, 6, 7, 8] h h' → RT h' t (tok t L a) → K none h') : Spec G l (mt mM_goOn) [vR 136] h K := by
  have lL := r.2.2.2.1
  have hb := r.2.2.2.2
  have r0 := r
  obtain ⟨r1, r2, r3, r4⟩ := run_sp (P := blB) (t := t) (L - a) a (show a + (L - a) = L by omega)
  obtain ⟨s, hs⟩ : ∃ s, s = run blB t L a := ⟨_, rfl⟩
  rw [← hs] at r1 r2 r3 r4
  have hK : ∀ h', Fr [136] h h' → Sc1 [4, 5, 6, 7, 8] h h' → RT h' t (tokAt t L s) → K none h' := fun h' f g q => hK h' f g (by unfold tok; rw [← hs]; exact q)
  -- the tail
  have tl : ∀ k n h', Fr [136] h h' → Sc1 [4, 5, 6, 7, 8] h h' → s + n ≤ L → tokAt t L s = (k, s, s + n) → hI h' 136 6 = nI k → hI h' 136 5 = nI s → hI h' 136 7 = nI n → hI h' 136 4 = nI s → (k = 1 → hL h' 136 13 = lN (wcd t s n)) → (k = 2 → n ≤ 4 → hI h' 136 8 = nI (vdg t s n)) → Go G l (mt mM_goOn) 287 [some (vR 136)] [] h' 0 0 K := by
    intro k n h' f g hn et e6 e5 e7 e4 ew ev
    have r := r.fr f g rfl rfl
    refine gM_goOn 99 [] fun S Cu hS hC => ?_
    refine ld (nI s) r.1.ob e4 ?_
    refine ld (nI n) r.1.ob e7 ?_
    refine ld (nI (s + n)) r.1.ob (by first | with_reducible rfl | (try simp (disch := omega) only [pk_rem]) <;> simp (disch := omega) only [nl0, nl1, nl2, nl3, nl4, nl8, nl9, nl10, nl12, nl20, nl24, nl30, nl32, nl40, nl48, nl100, nl120, nl200, nl255, nl400, nl404, nl524, nl900, nl1000, nl9999, nl16, nl65536, nI_add, pk_mul, pk_sub, pk_div, pk_rem, Nat.add_zero, Nat.zero_add, Nat.mul_one, Nat.add_sub_cancel_left, Nat.add_sub_cancel]) ?_
    refine hK _ (f.setI rfl) (g.set rfl) ?_
    rw [et]
    refine ⟨by rw [si_ne (by decide)]; exact e6, by rw [si_ne (by decide)]; exact e5, by rw [si_ne (by decide), e7]; show nI n = nI (s + n - s); rw [Nat.add_sub_cancel_left], si_eq, fun z => ?_, fun z z' => ?_⟩
    · show hL (setI h' 136 4 _) 136 13 = lN (wcd t s (s + n - s))
      rw [Nat.add_sub_cancel_left]; exact ew z
    · show hI (setI h' 136 4 _) 136 8 = nI (vdg t s (s + n - s))
      have z' : s + n - s ≤ 4 := z'
      rw [Nat.add_sub_cancel_left] at z' ⊢
      rw [si_ne (by decide)]; exact ev z z'
  -- the letters of a word
  have lw : s < L → ltB (t s) = true → ∀ k, k ≤ run ltB t L s - s → ∀ h', Fr [136] h h' → Sc1 [4, 5, 6, 7, 8] h h' → hI h' 136 5 = nI s → hI h' 136 7 = nI k → hI h' 136 4 = nI s → (k ≤ 8 → hL h' 136 13 = lN (wcd t s k)) → Go G l (mt mM_goOn) 81 [some (vR 136)] [] h' 0 0 K := by
    intro hsL hs0
    obtain ⟨a1, a2, a3, a4⟩ := run_sp (P := ltB) (t := t) (L - s) s (show s + (L - s) = L by omega)
    have et : tokAt t L s = (if 8 < run ltB t L s - s then 4 else 1, s, run ltB t L s) := by
      unfold tokAt; rw [if_neg (by omega), if_pos hs0]
    generalize he : run ltB t L s = e at a1 a2 a3 a4 et
    refine upto _ ?_
    intro k hk ih h' f g e5 e7 e4 ew
    have r := r.fr f g rfl rfl
    refine gM_goOn 199 [(81, 1), (287, 1)] fun S Cu hS hC => ?_
    refine ld (nI k) r.1.ob e7 ?_
    refine And.intro r.1.ob (hS _ _ _ _ (sM_here r e4 rfl (by omega) ?_))
    refine hS _ _ _ _ (sM_isLetter (L := L) (t := t) hb rfl ?_)
    refine brE (fun q => ?_) (fun q => ?_)
    · obtain rfl : k = e - s := by
        refine Classical.byContradiction fun z => q ⟨by omega, a3 (s + k) (by omega) (by omega)⟩
      refine ld (nI (e - s)) r.1.ob e7 ?_
      refine pk_le (e - s) 8 (fun q => ?_) (fun q => ?_)
      · refine ld (nI 1) r.1.ob rfl ?_
        refine hC _ _ _ _ (tl 1 (e - s) _ (f.setI rfl) (g.set rfl) (by omega) ?_ si_eq ?_ ?_ ?_ (fun _ => ew q) (fun z => absurd z (by decide)))
        · rw [et, if_neg (by omega), Nat.add_sub_cancel' a1]
        · rw [si_ne (by decide)]; exact e5
        · rw [si_ne (by decide)]; exact e7
        · rw [si_ne (by decide)]; exact e4
      · refine ld (nI 4) r.1.ob rfl ?_
        refine hC _ _ _ _ (tl 4 (e - s) _ (f.setI rfl) (g.set rfl) (by omega) ?_ si_eq ?_ ?_ ?_ (fun z => absurd z (by decide)) (fun z => absurd z (by decide)))
        · rw [et, if_pos (by omega), Nat.add_sub_cancel' a1]
        · rw [si_ne (by decide)]; exact e5
        · rw [si_ne (by decide)]; exact e7
        · rw [si_ne (by decide)]; exact e4
    · have hk' : k < e - s := by
        refine Classical.byContradiction fun z => ?_
        have : k = e - s := by omega
        have x : s + k = e := by omega
        rw [x] at q
        exact a4 q.1 q.2
      refine ld (nI k) r.1.ob e7 ?_
      refine pk_le 8 k (fun q8 => ?_) (fun q8 => ?_)
      · refine ld (nI k) r.1.ob e7 ?_
        refine ld (nI (k + 1)) r.1.ob (nI_1 k) ?_
        refine hC _ _ _ _ (ih hk' _ (f.setI rfl) (g.set rfl) ?_ si_eq ?_ (fun z => by omega))
        · rw [si_ne (by decide)]; exact e5
        · rw [si_ne (by decide)]; exact e4
      · have wl : wcd t s k < 256 ^ k := wcd_lt (fun i h1 h2 => hb i (by omega))
        have wl : wcd t s k < 2 ^ 56 := Nat.lt_of_lt_of_le wl (Nat.le_trans (Nat.pow_le_pow_right (by decide) (show k ≤ 7 by omega)) (by decide))
        refine ld (lN (wcd t s k)) r.1.ob (ew (by omega)) ?_
        refine ld (nI k) r.1.ob e7 ?_
        refine And.intro r.1.ob (hS _ _ _ _ (sM_here r e4 rfl (by omega) ?_))
        refine ld (lN (wcd t s (k + 1))) r.1.ob ?_ ?_
        · rw [hv_in q.1, nI_l (by have := hb _ q.1; omega)]
          exact lN_sh8 wl (hb _ q.1)
        · refine ld (nI k) r.1.ob e7 ?_
          refine ld (nI (k + 1)) r.1.ob (nI_1 k) ?_
          refine hC _ _ _ _ (ih hk' _ ((f.setL rfl).setI rfl) ?_ ?_ si_eq ?_ (fun z => ?_))
          · exact Sc1.set g rfl
          · rw [si_ne (by decide)]; exact e5
          · rw [si_ne (by decide)]; exact e4
          · exact sl_eq
  -- the digits of a number
  have ln : s < L → dgB (t s) = true → ∀ k, k ≤ run dgB t L s - s → ∀ h', Fr [136] h h' → Sc1 [4, 5, 6, 7, 8] h h' → hI h' 136 5 = nI s → hI h' 136 7 = nI k → hI h' 136 4 = nI s → (k ≤ 4 → hI h' 136 8 = nI (vdg t s k)) → Go G l (mt mM_goOn) 170 [some (vR 136)] [] h' 0 0 K := by
    intro hsL hs0
    obtain ⟨a1, a2, a3, a4⟩ := run_sp (P := dgB) (t := t) (L - s) s (show s + (L - s) = L by omega)
    have et : tokAt t L s = (if 20 < run dgB t L s - s ∨ (run dgB t L s < L ∧ ltB (t (run dgB t L s)) = true) then 4 else 2, s, run dgB t L s) := by
      have := dgB_iff.mp hs0
      unfold tokAt; rw [if_neg (by omega), if_neg (fun z => by have := ltB_iff.mp z; omega), if_pos hs0]
    generalize he : run dgB t L s = e at a1 a2 a3 a4 et
    refine upto _ ?_
    intro k hk ih h' f g e5 e7 e4 ew
    have r := r.fr f g rfl rfl
    refine gM_goOn 199 [(170, 1), (287, 1)] fun S Cu hS hC => ?_
    refine ld (nI k) r.1.ob e7 ?_
    refine And.intro r.1.ob (hS _ _ _ _ (sM_here r e4 rfl (by omega) ?_))
    refine hS _ _ _ _ (sM_isDigit (L := L) (t := t) hb rfl ?_)
    refine brE (fun q => ?_) (fun q => ?_)
    · obtain rfl : k = e - s := by
        refine Classical.byContradiction fun z => q ⟨by omega, a3 (s + k) (by omega) (by omega)⟩
      have two : ∀ n, tokAt t L s = (n, s, s + (e - s)) → (n = 2 ∨ n = 4) → Go G l (mt mM_goOn) 287 [some (vR 136)] [] (setI h' 136 6 (nI n)) 0 0 K := by
        intro n en hn
        refine tl n (e - s) _ (f.setI rfl) (g.set rfl) (by omega) en si_eq ?_ ?_ ?_ (fun z => by omega) (fun _ z => ?_)
        · rw [si_ne (by decide)]; exact e5
        · rw [si_ne (by decide)]; exact e7
        · rw [si_ne (by decide)]; exact e4
        · rw [si_ne (by decide)]; exact ew z
      refine ld (nI (e - s)) r.1.ob e7 ?_
      refine pk_lt 20 (e - s) (fun q => ?_) (fun q => ?_)
      · refine ld (nI 4) r.1.ob rfl ?_
        exact hC _ _ _ _ (two 4 (by rw [et, if_pos (Or.inl q), Nat.add_sub_cancel' a1]) (Or.inr rfl))
      · refine ld (nI (e - s)) r.1.ob e7 ?_
        refine And.intro r.1.ob (hS _ _ _ _ (sM_here r e4 rfl (by omega) ?_))
        refine hS _ _ _ _ (sM_isLetter (L := L) (t := t) hb rfl ?_)
        rw [Nat.add_sub_cancel' a1] at *
        refine brE (fun q => ?_) (fun q => ?_)
        · refine ld (nI 2) r.1.ob rfl ?_
          exact hC _ _ _ _ (two 2 (by rw [et, if_neg (fun z => z.elim (by omega) q)]) (Or.inl rfl))
        · refine ld (nI 4) r.1.ob rfl ?_
          exact hC _ _ _ _ (two 4 (by rw [et, if_pos (Or.inr q)]) (Or.inr rfl))
    · have hk' : k < e - s := by
        refine Classical.byContradiction fun z => ?_
        have : k = e - s := by omega
        have x : s + k = e := by omega
        rw [x] at q
        exact a4 q.1 q.2
      refine ld (nI k) r.1.ob e7 ?_
      refine pk_le 4 k (fun q8 => ?_) (fun q8 => ?_)
      · refine ld (nI k) r.1.ob e7 ?_
        refine ld (nI (k + 1)) r.1.ob (nI_1 k) ?_
        refine hC _ _ _ _ (ih hk' _ (f.setI rfl) (g.set rfl) ?_ si_eq ?_ (fun z => by omega))
        · rw [si_ne (by decide)]; exact e5
        · rw [si_ne (by decide)]; exact e4
      · have wl : vdg t s k < 10 ^ k := vdg_lt (fun i h1 h2 => a3 i h1 (by omega))
        have wl : vdg t s k < 1000 := Nat.lt_of_lt_of_le wl (Nat.le_trans (Nat.pow_le_pow_right (by decide) (show k ≤ 3 by omega)) (by decide))
        have dg := dgB_iff.mp q.2
        refine ld (nI (vdg t s k)) r.1.ob (ew (by omega)) ?_
        refine ld (nI k) r.1.ob e7 ?_
        refine And.intro r.1.ob (hS _ _ _ _ (sM_here r e4 rfl (by omega) ?_))
        refine ld (nI (vdg t s (k + 1))) r.1.ob ?_ ?_
        · rw [hv_in q.1]
          simp only [vdg]
          rw [show 10 * vdg t s k + (t (s + k) - 48) = 10 * vdg t s k + t (s + k) - 48 by omega]
          first | with_reducible rfl | (try simp (disch := omega) only [pk_rem]) <;> simp (disch := omega) only [nl0, nl1, nl2, nl3, nl4, nl8, nl9, nl10, nl12, nl20, nl24, nl30, nl32, nl40, nl48, nl100, nl120, nl200, nl255, nl400, nl404, nl524, nl900, nl1000, nl9999, nl16, nl65536, nI_add, pk_mul, pk_sub, pk_div, pk_rem, Nat.add_zero, Nat.zero_add, Nat.mul_one, Nat.add_sub_cancel_left, Nat.add_sub_cancel]
        · refine ld (nI k) r.1.ob (by rw [si_ne (by decide)]; exact e7) ?_
          refine ld (nI (k + 1)) r.1.ob (nI_1 k) ?_
          refine hC _ _ _ _ (ih hk' _ ((f.setI rfl).setI rfl) ((g.set rfl).set rfl) ?_ si_eq ?_ (fun z => ?_))
          · rw [si_ne (by decide), si_ne (by decide)]; exact e5
          · rw [si_ne (by decide), si_ne (by decide)]; exact e4
          · rw [si_ne (by decide), si_eq]
  -- behind the blanks
  have l3 : ∀ h', Fr [136] h h' → Sc1 [4, 5, 6, 7, 8] h h' → hI h' 136 4 = nI s → Go G l (mt mM_goOn) 33 [some (vR 136)] [] h' 0 0 K := by
    intro h' f g e4
    have r := r.fr f g rfl rfl
    refine gM_goOn 299 [(81, 1), (170, 1), (287, 1)] fun S Cu hS hC => ?_
    refine ld (nI s) r.1.ob e4 ?_
    refine ld (nI s) r.1.ob rfl ?_
    refine ld (nI 0) r.1.ob rfl ?_
    refine ld (lN 0) r.1.ob rfl ?_
    refine ld (nI 0) r.1.ob rfl ?_
    have f : Fr [136] h (setI (setL (setI (setI h' 136 5 (nI s)) 136 7 (nI 0)) 136 13 (lN 0)) 136 8 (nI 0)) := (((f.setI rfl).setI rfl).setL rfl).setI rfl
    have g : Sc1 [4, 5, 6, 7, 8] h (setI (setL (setI (setI h' 136 5 (nI s)) 136 7 (nI 0)) 136 13 (lN 0)) 136 8 (nI 0)) := Sc1.set (h' := setL (setI (setI h' 136 5 (nI s)) 136 7 (nI 0)) 136 13 (lN 0)) (fun j hj => ((g.set (j := 5) (v := nI s) rfl).set (j := 7) (v := nI 0) rfl) j hj) rfl
    have e5 : hI (setI (setL (setI (setI h' 136 5 (nI s)) 136 7 (nI 0)) 136 13 (lN 0)) 136 8 (nI 0)) 136 5 = nI s := by
      rw [si_ne (by decide)]; show hI (setI (setI h' 136 5 (nI s)) 136 7 (nI 0)) 136 5 = nI s
      rw [si_ne (by decide), si_eq]
    have e7 : hI (setI (setL (setI (setI h' 136 5 (nI s)) 136 7 (nI 0)) 136 13 (lN 0)) 136 8 (nI 0)) 136 7 = nI 0 := by
      rw [si_ne (by decide)]; show hI (setI (setI h' 136 5 (nI s)) 136 7 (nI 0)) 136 7 = nI 0
      rw [si_eq]
    have e4 : hI (setI (setL (setI (setI h' 136 5 (nI s)) 136 7 (nI 0)) 136 13 (lN 0)) 136 8 (nI 0)) 136 4 = nI s := by
      rw [si_ne (by decide)]; show hI (setI (setI h' 136 5 (nI s)) 136 7 (nI 0)) 136 4 = nI s
      rw [si_ne (by decide), si_ne (by decide)]; exact e4
    have ew : hL (setI (setL (setI (setI h' 136 5 (nI s)) 136 7 (nI 0)) 136 13 (lN 0)) 136 8 (nI 0)) 136 13 = lN 0 := sl_eq
    have e8 : hI (setI (setL (setI (setI h' 136 5 (nI s)) 136 7 (nI 0)) 136 13 (lN 0)) 136 8 (nI 0)) 136 8 = nI 0 := si_eq
    generalize setI (setL (setI (setI h' 136 5 (nI s)) 136 7 (nI 0)) 136 13 (lN 0)) 136 8 (nI 0) = h2 at f g e4 e5 e7 ew e8 ⊢
    have r : RB h2 t L := (show RB h t L from r0).fr f g rfl rfl
    by_cases hsL : s < L
    · have hbs := hb s hsL
      refine And.intro r.1.ob (hS _ _ _ _ (sM_hereV r e4 (by omega) (hv_in hsL) ?_))
      refine pk_le 0 (t s) (fun _ => ?_) (fun q => by omega)
      refine And.intro r.1.ob (hS _ _ _ _ (sM_hereV r e4 (by omega) (rfl) ?_))
      refine hS _ _ _ _ (sM_isLetter (L := L) (t := t) hb rfl ?_)
      refine brE (fun q => ?_) (fun q => ?_)
      · refine And.intro r.1.ob (hS _ _ _ _ (sM_hereV r e4 (by omega) (rfl) ?_))
        refine hS _ _ _ _ (sM_isDigit (L := L) (t := t) hb rfl ?_)
        refine brE (fun q2 => ?_) (fun q2 => ?_)
        · have et : tokAt t L s = (if t s = 59 then 3 else 4, s, s + 1) := by
            unfold tokAt; rw [if_neg (by omega), if_neg (fun z => q ⟨hsL, z⟩), if_neg (fun z => q2 ⟨hsL, z⟩)]
          have two : ∀ n, tokAt t L s = (n, s, s + 1) → (n = 3 ∨ n = 4) → Go G l (mt mM_goOn) 287 [some (vR 136)] [] (setI (setI h2 136 6 (nI n)) 136 7 (nI 1)) 0 0 K := by
            intro n en hn
            refine tl n 1 _ ((f.setI rfl).setI rfl) ((g.set rfl).set rfl) (by omega) en ?_ ?_ si_eq ?_ (fun z => by omega) (fun z => by omega)
            · rw [si_ne (by decide), si_eq]
            · rw [si_ne (by decide), si_ne (by decide)]; exact e5
            · rw [si_ne (by decide), si_ne (by decide)]; exact e4
          by_cases q3 : t s = 59
          · refine And.intro r.1.ob (hS _ _ _ _ (sM_hereV r e4 (by omega) ((hv_in hsL).trans (congrArg nI q3)) ?_))
            refine And.intro (fun z => absurd rfl z) (fun _ => ?_)
            refine ld (nI 3) r.1.ob rfl ?_
            refine ld (nI 1) r.1.ob rfl ?_
            exact hC _ _ _ _ (two 3 (by rw [et, if_pos q3]) (Or.inl rfl))
          · refine And.intro r.1.ob (hS _ _ _ _ (sM_hereV r e4 (by omega) (hv_in hsL) ?_))
            refine And.intro (fun _ => ?_) (fun z => absurd z (fun z => q3 ?_))
            · refine ld (nI 4) r.1.ob rfl ?_
              refine ld (nI 1) r.1.ob rfl ?_
              exact hC _ _ _ _ (two 4 (by rw [et, if_neg q3]) (Or.inr rfl))
            · have := congrArg ix z
              rw [ix_nI (by omega)] at this
              exact this
        · exact hC _ _ _ _ (ln hsL q2.2 0 (Nat.zero_le _) h2 f g e5 e7 e4 (fun _ => e8))
      · exact hC _ _ _ _ (lw hsL q.2 0 (Nat.zero_le _) h2 f g e5 e7 e4 (fun _ => ew))
    · refine And.intro r.1.ob (hS _ _ _ _ (sM_hereV r e4 (by omega) (hv_out hsL) ?_))
      refine And.intro (fun z => absurd z (by decide)) (fun _ => ?_)
      refine ld (nI 0) r.1.ob rfl ?_
      refine hK _ (f.setI rfl) (g.set rfl) ?_
      rw [show tokAt t L s = (0, s, s) by unfold tokAt; rw [if_pos (by omega)]]
      refine ⟨si_eq, by rw [si_ne (by decide)]; exact e5, by rw [si_ne (by decide), e7]; show nI 0 = nI (s - s); rw [Nat.sub_self], by rw [si_ne (by decide)]; exact e4, fun z => absurd (show 0 = 1 from z) (by decide), fun z => absurd (show 0 = 2 from z) (by decide)⟩
  -- the blanks
  have l0 : ∀ k, k ≤ s - a → ∀ h', Fr [136] h h' → Sc1 [4, 5, 6, 7, 8] h h' → hI h' 136 4 = nI (a + k) → Go G l (mt mM_goOn) 0 [some (vR 136)] [] h' 0 0 K := by
    refine upto _ ?_
    intro k hk ih h' f g e4
    have r := r.fr f g rfl rfl
    refine gM_goOn 99 [(0, 1), (33, 1)] fun S Cu hS hC => ?_
    by_cases q : k < s - a
    · rcases blB_iff.mp (r3 (a + k) (by omega) (by omega)) with e | e
      · refine And.intro r.1.ob (hS _ _ _ _ (sM_hereV r e4 (by omega) ((hv_in (by omega)).trans (congrArg nI e)) ?_))
        refine And.intro (fun _ => ?_) (fun z => absurd rfl z)
        refine ld (nI (a + k)) r.1.ob e4 ?_
        refine ld (nI (a + (k + 1))) r.1.ob (nI_1 (a + k)) ?_
        exact hC _ _ _ _ (ih q _ (f.setI rfl) (g.set rfl) si_eq)
      · refine And.intro r.1.ob (hS _ _ _ _ (sM_hereV r e4 (by omega) ((hv_in (by omega)).trans (congrArg nI e)) ?_))
        refine And.intro (fun z => absurd z (by decide)) (fun _ => ?_)
        refine And.intro r.1.ob (hS _ _ _ _ (sM_hereV r e4 (by omega) ((hv_in (by omega)).trans (congrArg nI e)) ?_))
        refine And.intro (fun z => absurd rfl z) (fun _ => ?_)
        refine ld (nI (a + k)) r.1.ob e4 ?_
        refine ld (nI (a + (k + 1))) r.1.ob (nI_1 (a + k)) ?_
        exact hC _ _ _ _ (ih q _ (f.setI rfl) (g.set rfl) si_eq)
    · have ek : a + k = s := by omega
      rw [ek] at e4
      have nb : ¬ hv t L s = 32 ∧ ¬ hv t L s = 10 := by
        by_cases hsL : s < L
        · have hbs := hb s hsL
          rw [hv_in hsL]
          have := r4 hsL
          refine ⟨fun z => this (blB_iff.mpr (Or.inl ?_)), fun z => this (blB_iff.mpr (Or.inr ?_))⟩
          · have := congrArg ix z
            rw [ix_nI (by omega)] at this
            exact this
          · have := congrArg ix z
            rw [ix_nI (by omega)] at this
            exact this
        · rw [hv_out hsL]; decide
      refine And.intro r.1.ob (hS _ _ _ _ (sM_hereV r e4 (by omega) (rfl) ?_))
      refine And.intro (fun z => absurd z nb.1) (fun _ => ?_)
      refine And.intro r.1.ob (hS _ _ _ _ (sM_hereV r e4 (by omega) (rfl) ?_))
      refine And.intro (fun _ => ?_) (fun z => absurd z nb.2)
      exact hC _ _ _ _ (l3 _ f g e4)
  refine Spec.go0 rfl (by decide +kernel) (L := 1) (by decide +kernel) rfl rfl (l0 0 (by omega) h Fr.rf Sc1.rf e4)
end MM
