/-! ===== the class: words, numbers, signs of a tape ===== -/
def sCode (i : Nat) : Nat := ([0x73697a65, 0x726f77, 0x646f74] : List Nat).getD i 0
def sCh (i j : Nat) : Nat := (([[115, 105, 122, 101], [114, 111, 119], [100, 111, 116]] : List (List Nat)).getD i []).getD j 0
theorem sCh_ok : ∀ i : Fin 3, ∀ j : Fin 4, sBy i.val j.val = nI (sCh i.val j.val) ∧ sCh i.val j.val < 256 := by decide +kernel
theorem wd_iff {t : Nat → Nat} {L e i : Nat} (he : e ≤ L) (hi : i < 3) : wdT t (tok t L e) (sCode i) ↔ ((tok t L e).1 = 1 ∧ (tok t L e).2.2 - (tok t L e).2.1 = sLen i ∧ ∀ j, j < sLen i → t ((tok t L e).2.1 + j) = sCh i j) := by
  have sp := tok_sp (t := t) he
  refine and_congr_right fun k1 => ?_
  have tw := tokAt_word (t := t) (L := L) (s := run blB t L e) k1
  rw [← tok_eq] at tw
  generalize tok t L e = T at *
  have n1 := sp.2.2.2.2 (by omega)
  have ww := wcd_word (t := t) (s := T.2.1) (n := T.2.2 - T.2.1) (fun i a b => tw.2 i a (by omega)) (by omega) tw.1
  have i3 : i = 0 ∨ i = 1 ∨ i = 2 := by omega
  rcases i3 with rfl | rfl | rfl
  · refine ww.1.trans ⟨fun ⟨a, b0, b1, b2, b3⟩ => ⟨a, fun j hj => ?_⟩, fun ⟨a, b⟩ => ⟨a, b 0 (by decide), b 1 (by decide), b 2 (by decide), b 3 (by decide)⟩⟩
    have hj : j < 4 := hj
    have : j = 0 ∨ j = 1 ∨ j = 2 ∨ j = 3 := by omega
    rcases this with rfl | rfl | rfl | rfl
    · exact b0
    · exact b1
    · exact b2
    · exact b3
  · refine ww.2.1.trans ⟨fun ⟨a, b0, b1, b2⟩ => ⟨a, fun j hj => ?_⟩, fun ⟨a, b⟩ => ⟨a, b 0 (by decide), b 1 (by decide), b 2 (by decide)⟩⟩
    have hj : j < 3 := hj
    have : j = 0 ∨ j = 1 ∨ j = 2 := by omega
    rcases this with rfl | rfl | rfl
    · exact b0
    · exact b1
    · exact b2
  · refine ww.2.2.trans ⟨fun ⟨a, b0, b1, b2⟩ => ⟨a, fun j hj => ?_⟩, fun ⟨a, b⟩ => ⟨a, b 0 (by decide), b 1 (by decide), b 2 (by decide)⟩⟩
    have hj : j < 3 := hj
    have : j = 0 ∨ j = 1 ∨ j = 2 := by omega
    rcases this with rfl | rfl | rfl
    · exact b0
    · exact b1
    · exact b2
def NF (h : AH) : Prop := hI h 17 1 = nI 0 ∧ hI h 17 2 = -1
def FLt (h : AH) (q : Nat × Nat) : Prop := hI h 17 1 = nI q.1 ∧ hI h 17 2 = nI q.2 ∧ 1 ≤ q.1 ∧ q.1 ≤ 4
theorem NF.n {h h' : AH} {M : List Nat} (n : NF h) (f : N17 M h h') (hM : (M.contains 1 || M.contains 2) = false) : NF h' := by
  simp only [Bool.or_eq_false_iff] at hM
  exact ⟨(f.2 1 hM.1).trans n.1, (f.2 2 hM.2).trans n.2⟩
theorem RK.n {h h' : AH} {T : TK} {M : List Nat} (k : RK h T) (f : N17 M h h') (hM : (M.contains 6 || M.contains 7 || M.contains 8) = false) : RK h' T := by
  simp only [Bool.or_eq_false_iff] at hM
  exact ⟨(f.2 8 hM.2).trans k.1, (f.2 7 hM.1.2).trans k.2.1, (f.2 6 hM.1.1).trans k.2.2⟩
theorem kk_eq {a b : Nat} (ha : a ≤ 4) (hb : b ≤ 4) : nI (kk a) = nI (kk b) ↔ a = b := by
  unfold kk
  rw [nI_eq (by omega) (by omega)]; omega
theorem kk_0 {a : Nat} (ha : a ≤ 4) : nI (kk a) = 0 ↔ a = 4 := kk_eq (b := 4) ha (by decide)
section CC
variable {G : GP} {l : Launch} {K : Option AV → AH → Prop} {h : AH} {ρ : Pic}
variable {t : Nat → Nat} {L u e : Nat}
theorem sR_isWord {i : Nat} (r : RR h t L u) (k : RK h (tok t L e)) (he : e ≤ L) (hi : i < 3) (hK : K (some (vI (bI (wdT t (tok t L e) (sCode i))))) h) : Spec G l (mt mR_isWord) [vR 17, vR (xh + i)] h K := by
  have L9 := r.2.2.2.2.1
  have sp := tok_sp (t := t) he
  rw [bI_eq (wd_iff he hi)] at hK
  have l4 := sLen_le hi
  have hxi : (xh + i = xh ∨ xh + i = xh + 1 ∨ xh + i = xh + 2) := by omega
  generalize tok t L e = T at *
  have out : ¬ (T.1 = 1 ∧ T.2.2 - T.2.1 = sLen i ∧ ∀ j, j < sLen i → t (T.2.1 + j) = sCh i j) → ∀ z2, Go G l (mt mR_isWord) 24 [some (vR 17), some (vR (xh + i)), z2] [] h 0 0 K := by
    intro q z2
    refine gR_isWord 9 [] fun S Cu hS hC => ?_
    exact rzF q hK
  have lp : T.1 = 1 → T.2.2 - T.2.1 = sLen i → ∀ j, j ≤ sLen i → (∀ m, m < j → t (T.2.1 + m) = sCh i m) → ∀ v, v = nI j → Go G l (mt mR_isWord) 28 [some (vR 17), some (vR (xh + i)), some (vI v)] [] h 0 0 K := by
    intro k1 kn
    refine upto _ ?_
    intro j hj ih al v hv
    subst hv
    refine gR_isWord 39 [(28, 3)] fun S Cu hS hC => ?_
    refine And.intro hxi (hS _ _ _ _ (sJ_length hi ?_))
    refine pk_le (sLen i) j (fun q => ?_) (fun q => ?_)
    · obtain rfl : j = sLen i := by omega
      exact rzT ⟨k1, kn, al⟩ hK
    refine ld _ r.ob r.r3 ?_
    refine ld _ r.ob k.2.1 ?_
    refine ld _ (r.inA (nI_add _ _) (by omega)) (r.by (nI_add _ _) (by omega)) ?_
    have ok : sBy i j = nI (sCh i j) ∧ sCh i j < 256 := sCh_ok ⟨i, hi⟩ ⟨j, by omega⟩
    have tl := r.2.2.2.2.2.2 (T.2.1 + j) (by omega)
    refine And.intro hxi (hS _ _ _ _ (sJ_charAt hi rfl q ?_))
    refine And.intro (fun z => ?_) (fun z => ?_)
    · refine hC _ _ _ _ (ih q (fun m hm => ?_) _ (nI_1 j))
      by_cases em : m = j
      · subst em
        have z : nI (t (T.2.1 + m)) = sBy i m := z
        rw [ok.1] at z
        exact (nI_eq (by omega) (by have := ok.2; omega)).mp z
      · exact al m (by omega)
    · refine rzF (fun y => z ?_) hK
      show nI (t (T.2.1 + j)) = sBy i j
      rw [ok.1, y.2.2 j q]
  refine eR_isWord 39 [(24, 2), (28, 3)] fun S Cu hS hC => ?_
  refine ld _ r.ob k.1 ?_
  refine And.intro (fun q => ?_) (fun q => ?_)
  · exact hC _ _ _ _ (out (fun y => q (by rw [y.1]; rfl)) _)
  have k1 : T.1 = 1 := (kk_eq (b := 1) sp.2.2.2.1 (by decide)).mp q
  refine ld _ r.ob k.2.2 ?_
  refine ld _ r.ob k.2.1 ?_
  refine And.intro hxi (hS _ _ _ _ (sJ_length hi ?_))
  refine pk_eq (T.2.2 - T.2.1) (sLen i) (fun z => ?_) (fun z => ?_) (pk_sub sp.2.1) rfl
  · exact hC _ _ _ _ (lp k1 z 0 (Nat.zero_le _) (fun m hm => absurd hm (Nat.not_lt_zero m)) _ rfl)
  · exact hC _ _ _ _ (out (fun y => z y.2.1) _)
theorem sR_fail {x : Int32} {k s : Nat} (r : RR h t L u) (hx : x = nI k) (e7 : hI h 17 7 = nI s) (hK : ∀ h', N17 [1, 2] h h' → hI h' 17 1 = nI k → hI h' 17 2 = nI s → K none h') : Spec G l (mt mR_fail) [vR 17, vI x] h K := by
  subst hx
  refine eR_fail 39 [] fun S Cu hS hC => ?_
  refine ld _ r.ob rfl ?_
  refine ld (nI s) r.ob (by rw [si_ne (by decide)]; exact e7) ?_
  refine ld _ r.ob rfl ?_
  refine hK _ ((N17.rf.setI rfl).setI rfl) ?_ si_eq
  rw [si_ne (by decide), si_eq]
theorem sR_expect {x : Int32} {k : Nat} {T : TK} (r : RR h t L u) (rk : RK h T) (hT : T.1 ≤ 4) (hx : x = nI (kk k)) (hk : k ≤ 4) (h1 : T.1 = k → K (some (vI 1)) h) (h0 : ¬ T.1 = k → ∀ h', N17 [1, 2] h h' → FLt h' (fau T 2) → K (some (vI 0)) h') : Spec G l (mt mR_expect) [vR 17, vI x] h K := by
  subst hx
  have fl : ¬ T.1 = k → ∀ v, v = nI (fau T 2).1 → Go G l (mt mR_expect) 23 [some (vR 17), none] [vI v, vR 17] h 0 0 K := by
    intro q v hv
    refine gR_expect 39 [] fun S Cu hS hC => ?_
    refine And.intro r.ob (hS _ _ _ _ (sR_fail r hv rk.2.1 fun h' f a b => ?_))
    exact And.intro (Or.inl rfl) (h0 q h' f ⟨a, b, fau_ok (by decide)⟩)
  refine eR_expect 39 [(23, 1)] fun S Cu hS hC => ?_
  refine ld _ r.ob rk.1 ?_
  refine And.intro (fun q => ?_) (fun q => ?_)
  · have q : ¬ T.1 = k := fun z => q (by rw [z])
    refine ld _ r.ob rk.1 ?_
    refine And.intro (fun z => ?_) (fun z => ?_)
    · refine hC _ _ _ _ (fl q _ ?_)
      show _ = nI (if T.1 = 4 then 1 else 2)
      rw [if_neg (fun y => z ((kk_0 hT).mpr y))]; rfl
    · refine hC _ _ _ _ (fl q _ ?_)
      show _ = nI (if T.1 = 4 then 1 else 2)
      rw [if_pos ((kk_0 hT).mp z)]; rfl
  · exact And.intro (Or.inr rfl) (h1 ((kk_eq hT hk).mp q))
theorem sR_valueOfDigits {s e : Nat} (r : RR h t L u) (e7 : hI h 17 7 = nI s) (e6 : hI h 17 6 = nI e) (se : s ≤ e) (eL : e ≤ L) (hd : ∀ i, s ≤ i → i < e → dgB (t i) = true) (hK : K (some (vI (nI (vdg t s (e - s))))) h) : Spec G l (mt mR_valueOfDigits) [vR 17] h K := by
  have L9 := r.2.2.2.2.1
  have lp : ∀ k, k ≤ e - s → ∀ v i, v = nI (vdg t s k) → i = nI (s + k) → Go G l (mt mR_valueOfDigits) 7 [some (vR 17), some (vI v), some (vI i)] [] h 0 0 K := by
    refine upto _ ?_
    intro k hk ih v i hv hi
    subst hv; subst hi
    refine gR_valueOfDigits 39 [(7, 3)] fun S Cu hS hC => ?_
    refine ld _ r.ob e6 ?_
    refine pk_le e (s + k) (fun q => ?_) (fun q => ?_)
    · obtain rfl : k = e - s := by omega
      exact hK
    refine ld _ r.ob r.r3 ?_
    refine ld _ (r.inA rfl (by omega)) (r.by rfl (by omega)) ?_
    have dg := dgB_iff.mp (hd (s + k) (by omega) (by omega))
    refine hC _ _ _ _ (ih (by omega) _ _ ?_ (nI_1 _))
    rw [show (10 : Int32) = nI 10 from rfl, show (48 : Int32) = nI 48 from rfl, pk_mul, nI_add, pk_sub (by omega)]
    show _ = nI (10 * vdg t s k + (t (s + k) - 48))
    exact congrArg nI (by omega)
  refine eR_valueOfDigits 39 [(7, 3)] fun S Cu hS hC => ?_
  refine ld _ r.ob e7 ?_
  exact hC _ _ _ _ (lp 0 (Nat.zero_le _) _ _ rfl rfl)
theorem sR_readNumberB {a b : Int32} {q : Nat × Nat} (r : RR h t L u) (fl : FLt h q) (hK : K (some (vI a)) h) : Spec G l (mt mR_readNumber) [vR 17, vI a, vI b] h K := by
  refine eR_readNumber 39 [] fun S Cu hS hC => ?_
  refine ld _ r.ob fl.1 ?_
  exact And.intro (fun z => absurd z (nI_ne0 (by have := fl.2.2; omega) (by have := fl.2.2; omega))) (fun _ => hK)
theorem sR_readNumber {a b : Int32} {lo hi : Nat} (r : RR h t L u) (nf : NF h) (ea : hI h 17 6 = nI e) (he : e ≤ L) (ha : a = nI lo) (hb : b = nI hi) (hl : lo ≤ 20) (hh : hi ≤ 20) (h0 : ∀ q, num t L e lo hi = .inl q → ∀ h', N17 [1, 2, 6, 7, 8] h h' → FLt h' q → K (some (vI (nI lo))) h') (h1 : ∀ x, num t L e lo hi = .inr x → ∀ h', N17 [6, 7, 8] h h' → hI h' 17 6 = nI x.2 → K (some (vI (nI x.1))) h') : Spec G l (mt mR_readNumber) [vR 17, vI a, vI b] h K := by
  subst ha; subst hb
  have L9 := r.2.2.2.2.1
  have sp := tok_sp (t := t) he
  have tn := tokAt_num (t := t) (L := L) (s := run blB t L e)
  rw [← tok_eq] at tn
  unfold num at h0 h1
  have nxt : ∀ {K : Option AV → AH → Prop}, (∀ h', N17 [6, 7, 8] h h' → RK h' (tok t L e) → K none h') → Spec G l (mt mR_next) [vR 17] h K := fun hk => sR_next r ea he hk
  generalize tok t L e = T at *
  refine eR_readNumber 99 [(44, 3)] fun S Cu hS hC => ?_
  refine ld _ r.ob nf.1 ?_
  refine And.intro (fun _ => ?_) (fun z => absurd rfl z)
  refine And.intro r.ob (hS _ _ _ _ (nxt fun h2 f2 k2 => ?_))
  have r2 := r.n f2 rfl
  refine And.intro r2.ob (hS _ _ _ _ (sR_expect (k := 2) r2 k2 sp.2.2.2.1 rfl (by decide) (fun k1 => ?_) (fun k1 h3 f3 fl => ?_)))
  · refine And.intro (fun _ => ?_) (fun z => absurd z (by decide))
    rw [if_pos k1] at h0 h1
    have dg := tn k1
    have fau4 : fau T 4 = (4, T.2.1) := by unfold fau; rw [if_neg (by omega)]
    have bad : ¬ (T.2.2 - T.2.1 ≤ 4 ∧ lo ≤ vdg t T.2.1 (T.2.2 - T.2.1) ∧ vdg t T.2.1 (T.2.2 - T.2.1) ≤ hi) → ∀ z3, Go G l (mt mR_readNumber) 55 [some (vR 17), some (vI (nI lo)), some (vI (nI hi)), z3] [] h2 0 0 K := by
      intro nb z3
      rw [if_neg nb] at h0
      refine gR_readNumber 39 [] fun S Cu hS hC => ?_
      refine And.intro r2.ob (hS _ _ _ _ (sR_fail (k := 4) r2 rfl k2.2.1 fun h3 f3 a b => ?_))
      refine h0 _ rfl h3 (f2.tr f3 rfl rfl) ?_
      rw [fau4]; exact ⟨a, b, show 1 ≤ 4 by decide, show 4 ≤ 4 by decide⟩
    have good : T.2.2 - T.2.1 ≤ 4 → ∀ v, v = nI (vdg t T.2.1 (T.2.2 - T.2.1)) → Go G l (mt mR_readNumber) 44 [some (vR 17), some (vI (nI lo)), some (vI (nI hi)), none] [vI v] h2 0 0 K := by
      intro l4 v hv
      subst hv
      have vl := vdg_lt (t := t) (s := T.2.1) (n := T.2.2 - T.2.1) (fun i a b => dg i a (by omega))
      have v5 : vdg t T.2.1 (T.2.2 - T.2.1) < 10 ^ 4 := Nat.lt_of_lt_of_le vl (Nat.pow_le_pow_right (by decide) l4)
      refine gR_readNumber 39 [(55, 4)] fun S Cu hS hC => ?_
      refine pk_lt (vdg t T.2.1 (T.2.2 - T.2.1)) lo (fun z => ?_) (fun z => ?_)
      · exact hC _ _ _ _ (bad (fun y => by omega) _)
      refine pk_le (vdg t T.2.1 (T.2.2 - T.2.1)) hi (fun z2 => ?_) (fun z2 => ?_)
      · rw [if_pos ⟨l4, z, z2⟩] at h1
        exact h1 _ rfl h2 f2 k2.2.2
      · exact hC _ _ _ _ (bad (fun y => by omega) _)
    refine ld _ r2.ob k2.2.2 ?_
    refine ld _ r2.ob k2.2.1 ?_
    refine pk_le (T.2.2 - T.2.1) 4 (fun z => ?_) (fun z => ?_) (pk_sub sp.2.1) rfl
    · refine And.intro r2.ob (hS _ _ _ _ (sR_valueOfDigits r2 k2.2.1 k2.2.2 sp.2.1 sp.2.2.1 dg ?_))
      exact hC _ _ _ _ (good z _ rfl)
    · have lng : Go G l (mt mR_readNumber) 44 [some (vR 17), some (vI (nI lo)), some (vI (nI hi)), none] [vI (-1)] h2 0 0 K := by
        refine gR_readNumber 39 [(55, 4)] fun S Cu hS hC => ?_
        refine And.intro (fun _ => ?_) (fun y => absurd (Int32.lt_of_lt_of_le (show (-1 : Int32) < 0 by decide) (Int32.not_lt.mp (nI_pos (by omega)))) y)
        exact hC _ _ _ _ (bad (fun y => by omega) _)
      exact hC _ _ _ _ lng
  · refine And.intro (fun z => absurd rfl z) (fun _ => ?_)
    rw [if_neg k1] at h0
    exact h0 _ rfl h3 (f2.tr f3 rfl rfl) fl
theorem sR_readSignB {q : Nat × Nat} (r : RR h t L u) (fl : FLt h q) (hK : K none h) : Spec G l (mt mR_readSign) [vR 17] h K := by
  refine eR_readSign 39 [] fun S Cu hS hC => ?_
  refine ld _ r.ob fl.1 ?_
  exact And.intro (fun z => absurd z (nI_ne0 (by have := fl.2.2; omega) (by have := fl.2.2; omega))) (fun _ => hK)
theorem sR_readSign (r : RR h t L u) (nf : NF h) (ea : hI h 17 6 = nI e) (he : e ≤ L) (h0 : ∀ q, sgn t L e = .inl q → ∀ h', N17 [1, 2, 6, 7, 8] h h' → FLt h' q → K none h') (h1 : ∀ x, sgn t L e = .inr x → x ≤ L → ∀ h', N17 [6, 7, 8] h h' → RK h' (tok t L x) → K none h') : Spec G l (mt mR_readSign) [vR 17] h K := by
  have sp := tok_sp (t := t) he
  unfold sgn at h0 h1
  refine eR_readSign 39 [] fun S Cu hS hC => ?_
  refine ld _ r.ob nf.1 ?_
  refine And.intro (fun _ => ?_) (fun z => absurd rfl z)
  refine And.intro r.ob (hS _ _ _ _ (sR_next r ea he fun h2 f2 k2 => ?_))
  have r2 := r.n f2 rfl
  refine And.intro r2.ob (hS _ _ _ _ (sR_expect (k := 3) r2 k2 sp.2.2.2.1 rfl (by decide) (fun k1 => ?_) (fun k1 h3 f3 fl => ?_)))
  · refine And.intro (fun z => absurd z (by decide)) (fun _ => ?_)
    rw [if_pos k1] at h1
    refine And.intro r2.ob (hS _ _ _ _ (sR_next r2 k2.2.2 sp.2.2.1 fun h3 f3 k3 => ?_))
    exact h1 _ rfl sp.2.2.1 h3 (f2.tr f3 rfl rfl) k3
  · refine And.intro (fun _ => ?_) (fun z => absurd rfl z)
    rw [if_neg k1] at h0
    exact h0 _ rfl h3 (f2.tr f3 rfl rfl) fl
end CC
