/-! ===== the class: price, apart, divisor, place ===== -/
theorem si_n {h : AH} {k k' j : Nat} {v : Int32} (hk : k' ≠ k) : hI (setI h k j v) k' = hI h k' := by
  funext i
  show up2 (hI h) k j v k' i = hI h k' i
  unfold up2; rw [if_neg (fun z => hk z.1)]
/-- of the ints only cell k has changed -/
def F1 (k : Nat) (h h' : AH) : Prop := hN h' = hN h ∧ hS h' = hS h ∧ hR h' = hR h ∧ hL h' = hL h ∧ ∀ q, q ≠ k → hI h' q = hI h q
theorem F1.rf {k : Nat} {h : AH} : F1 k h h := ⟨rfl, rfl, rfl, rfl, fun _ _ => rfl⟩
theorem F1.setI {k : Nat} {h h' : AH} (f : F1 k h h') {j : Nat} {v : Int32} : F1 k h (setI h' k j v) := ⟨f.1, f.2.1, f.2.2.1, f.2.2.2.1, fun q hq => by rw [si_n hq]; exact f.2.2.2.2 q hq⟩
theorem F1.x {k s : Nat} {L : List Nat} {h h' : AH} (f : F1 k h h') (hk : grp k = s ∨ L.contains (grp k) = true) : FX s L h h' := by
  refine ⟨f.1, f.2.1, f.2.2.1, fun q a b => ⟨f.2.2.2.2 q (fun z => ?_), by rw [f.2.2.2.1]⟩⟩
  subst z; exact hk.elim a (fun y => by rw [b] at y; cases y)
theorem ri_eq {h : AH} {k : Nat} {f : Nat → Int32} : hI (rowI h k f) k = f := by simp [hI, rowI]
theorem ri_n {h : AH} {k q : Nat} {f : Nat → Int32} (hq : q ≠ k) : hI (rowI h k f) q = hI h q := by simp [hI, rowI, hq]
theorem F1.row {k : Nat} {h h' : AH} (g : F1 k h h') {f : Nat → Int32} : F1 k h (rowI h' k f) := ⟨g.1, g.2.1, g.2.2.1, g.2.2.2.1, fun q hq => by rw [ri_n hq]; exact g.2.2.2.2 q hq⟩
/-- a dot laid anew into a scene's rows -/
def plH (h : AH) (s d x y q : Nat) : AH := setI (setI (setI h (s + 2) d (nI x)) (s + 3) d (nI y)) (s + 4) d (nI q)
theorem plH_fx {h : AH} {s d x y q : Nat} (hs : SH s) : FX s [] h (plH h s d x y q) := by
  obtain ⟨g0, g1, g2, g3, g4⟩ := hs.a.2.2
  exact ((FX.rf.setI (Or.inl g2)).setI (Or.inl g3)).setI (Or.inl g4)
theorem plH_2 {h : AH} {s d x y q : Nat} : hI (plH h s d x y q) (s + 2) d = nI x := by unfold plH; rw [si_n (by omega), si_n (by omega), si_eq]
theorem plH_3 {h : AH} {s d x y q : Nat} : hI (plH h s d x y q) (s + 3) d = nI y := by unfold plH; rw [si_n (by omega), si_eq]
theorem plH_4 {h : AH} {s d x y q : Nat} : hI (plH h s d x y q) (s + 4) d = nI q := by unfold plH; rw [si_eq]
theorem plH_2n {h : AH} {s d e x y q : Nat} (he : e ≠ d) : hI (plH h s d x y q) (s + 2) e = hI h (s + 2) e := by unfold plH; rw [si_n (by omega), si_n (by omega), si_ne he]
theorem plH_3n {h : AH} {s d e x y q : Nat} (he : e ≠ d) : hI (plH h s d x y q) (s + 3) e = hI h (s + 3) e := by unfold plH; rw [si_n (by omega), si_ne he, si_n (by omega)]
theorem plH_4n {h : AH} {s d e x y q : Nat} (he : e ≠ d) : hI (plH h s d x y q) (s + 4) e = hI h (s + 4) e := by unfold plH; rw [si_ne he, si_n (by omega), si_n (by omega)]
theorem plH_0 {h : AH} {s d x y q : Nat} : hI (plH h s d x y q) s = hI h s ∧ hI (plH h s d x y q) (s + 1) = hI h (s + 1) := by unfold plH; exact ⟨by rw [si_n (by omega), si_n (by omega), si_n (by omega)], by rw [si_n (by omega), si_n (by omega), si_n (by omega)]⟩
theorem SP.pl {h : AH} {s d x y q : Nat} {ρ : Pic} (p : SP h s ρ) (c4 : pcc ρ ≤ 400) : SP (plH h s d x y q) s (setD ρ d x y q) := by
  obtain ⟨e0, e1, e2, e3⟩ := setD_h (ρ := ρ) (d := d) (x := x) (y := y) (q := q)
  have z := plH_0 (h := h) (s := s) (d := d) (x := x) (y := y) (q := q)
  refine ⟨?_, fun c hc => ?_, fun e he => ?_⟩
  · rw [z.1, e0, e1, e2, e3]; exact p.1
  · have ec : pcc (setD ρ d x y q) = pcc ρ := by unfold pcc; rw [e0, e1]
    rw [ec] at hc
    rw [z.2, setD_W (by omega)]
    exact p.2.1 c hc
  · rw [e3] at he
    by_cases k : e = d
    · subst k; rw [plH_2, plH_3, plH_4, setD_X, setD_Y, setD_D]; exact ⟨rfl, rfl, rfl⟩
    · rw [plH_2n k, plH_3n k, plH_4n k, setD_Xn k, setD_Yn k, setD_Dn k]; exact p.2.2 e he
section CC
variable {G : GP} {l : Launch} {K : Option AV → AH → Prop} {h : AH} {ρ : Pic}
variable {s : Nat}
theorem sC_price {a : Int32} {b c : Int64} {w g q : Nat} (ha : a = nI w) (hb : b = lN g) (hc : c = lN q) (hw : w ≤ 9) (hg : g < 2 ^ 40) (h0 : 0 < q) (hq : q < 2 ^ 63) (hK : K (some (vI (nI (1000 * w * g / q)))) h) : Spec G l (mt mC_price) [vI a, vL b, vL c] h K := by
  subst ha; subst hb; subst hc
  have p : lN 0 < lN q := (pk_lLT (by decide) hq).mpr h0
  have bd : 1000 * w * g < 2 ^ 63 := Nat.lt_of_le_of_lt (Nat.mul_le_mul (show 1000 * w ≤ 9000 by omega) (Nat.le_of_lt hg)) (by decide)
  refine eC_price 39 [] fun S Cu hS hC => ?_
  refine And.intro (fun z => absurd (ig_gt.mpr p) (Int32.not_lt.mpr z)) (fun _ => ?_)
  refine And.intro (fun z => by rw [show (0 : Int64) = lN 0 from rfl, pk_lEQ (by omega) (by omega)] at z; omega) ?_
  refine rtI (K := K) ?_ hK
  rw [nI_l (by omega), show Int64.ofNat 1000 = lN 1000 from rfl, lN_mul, lN_mul, Nat.mul_comm w 1000, pk_lDiv bd (by omega) (by omega), lN_i]
theorem sS_apart {u d e : Nat} {a b : Int32} {π : Pic} (x : SC h s ρ) (y : SC h u π) (ha : a = nI d) (hb : b = nI e) (hd : d < pcn ρ) (he : e < pcn π) (hK : K (some (vL (lN (aptD ρ π d e)))) h) : Spec G l (mt mS_apart) [vR s, vI a, vR u, vI b] h K := by
  subst ha; subst hb
  have g := x.2.2.2.n
  have g2 := x.2.2.2.d hd
  have g3 := y.2.2.2.d he
  have gy := y.2.2.2.n
  have q1 := x.2.2.2.2.2.1 d hd
  have q2 := y.2.2.2.2.2.1 e he
  have m1 : (pcw ρ - 1) * pcD ρ d ≤ 19 * pcD ρ d := Nat.mul_le_mul_right _ (by omega)
  have m2 : (pch ρ - 1) * pcD ρ d ≤ 19 * pcD ρ d := Nat.mul_le_mul_right _ (by omega)
  have m3 : (pcw π - 1) * pcD π e ≤ 19 * pcD π e := Nat.mul_le_mul_right _ (by omega)
  have m4 : (pch π - 1) * pcD π e ≤ 19 * pcD π e := Nat.mul_le_mul_right _ (by omega)
  obtain ⟨b1, b2, b3⟩ := apt_bd q1.1 q1.2.1 q2.1 q2.2.1 (Nat.le_trans q1.2.2.1 m1) (Nat.le_trans q1.2.2.2.1 m2) (Nat.le_trans q2.2.2.1 m3) (Nat.le_trans q2.2.2.2.1 m4)
  refine eS_apart 99 [] fun S Cu hS hC => ?_
  refine ld _ x.ob x.r5 ?_
  refine ld _ (x.inX rfl (by omega)) (x.X rfl hd) ?_
  refine ld _ y.ob y.r7 ?_
  refine ld _ (y.inD rfl (by omega)) (y.D rfl he) ?_
  refine ld _ y.ob y.r5 ?_
  refine ld _ (y.inX rfl (by omega)) (y.X rfl he) ?_
  refine ld _ x.ob x.r7 ?_
  refine ld _ (x.inD rfl (by omega)) (x.D rfl hd) ?_
  refine ld _ x.ob x.r6 ?_
  refine ld _ (x.inY rfl (by omega)) (x.Y rfl hd) ?_
  refine ld _ y.ob y.r7 ?_
  refine ld _ (y.inD rfl (by omega)) (y.D rfl he) ?_
  refine ld _ y.ob y.r6 ?_
  refine ld _ (y.inY rfl (by omega)) (y.Y rfl he) ?_
  refine ld _ x.ob x.r7 ?_
  refine ld _ (x.inD rfl (by omega)) (x.D rfl hd) ?_
  refine And.intro (x.ob) (hS _ _ _ _ (sS_span x rfl hd ?_))
  refine And.intro (y.ob) (hS _ _ _ _ (sS_span y rfl he ?_))
  have eu : ((nI (pcX ρ d)).toInt64 * (nI (pcD π e)).toInt64 - (nI (pcX π e)).toInt64 * (nI (pcD ρ d)).toInt64) * ((nI (pcX ρ d)).toInt64 * (nI (pcD π e)).toInt64 - (nI (pcX π e)).toInt64 * (nI (pcD ρ d)).toInt64) + ((nI (pcY ρ d)).toInt64 * (nI (pcD π e)).toInt64 - (nI (pcY π e)).toInt64 * (nI (pcD ρ d)).toInt64) * ((nI (pcY ρ d)).toInt64 * (nI (pcD π e)).toInt64 - (nI (pcY π e)).toInt64 * (nI (pcD ρ d)).toInt64) = lN (sqd (pcX ρ d * pcD π e) (pcX π e * pcD ρ d) + sqd (pcY ρ d * pcD π e) (pcY π e * pcD ρ d)) := by
    rw [nI_l (by omega), nI_l (by omega), nI_l (by omega), nI_l (by omega), nI_l (by omega), nI_l (by omega), lN_mul, lN_mul, lN_mul, lN_mul, lN_sqd, lN_sqd, lN_add]
  have ew : lN (spn ρ d) * lN (spn π e) = lN (pcD ρ d * pcD π e * pcD ρ d * pcD π e) := by
    rw [lN_mul]; unfold spn; rw [Nat.mul_mul_mul_comm, Nat.mul_assoc (pcD ρ d * pcD π e)]
  unfold aptD apt at hK
  generalize sqd (pcX ρ d * pcD π e) (pcX π e * pcD ρ d) + sqd (pcY ρ d * pcD π e) (pcY π e * pcD ρ d) = A at *
  generalize pcD ρ d * pcD π e * pcD ρ d * pcD π e = B at *
  have ml := Nat.mod_lt A (show 0 < B by omega)
  refine hS _ _ _ _ (sC_divide eu ew (by omega) (by omega) (by omega) ?_)
  refine hS _ _ _ _ (sC_divide (x := A % B * 1000) ?_ ew (by omega) (by omega) (by omega) ?_)
  · rw [eu, ew, ← pk_lDiv (by omega) (by omega) (by omega), pk_lRem (by omega) (by omega) (by omega), show Int64.ofNat 1000 = lN 1000 from rfl, lN_mul]
  · refine rtL (K := K) ?_ hK
    rw [show Int64.ofNat 1000 = lN 1000 from rfl, lN_mul, lN_add]
theorem sS_commonDivisor {x y : Nat} {a b : Int32} (ha : a = nI x) (hb : b = nI y) (hx : x < 2 ^ 20) (hy : y < 2 ^ 20) (hK : K (some (vI (nI (Nat.gcd x y)))) h) : Spec G l (mt mS_commonDivisor) [vI a, vI b] h K := by
  subst ha; subst hb
  have lp : ∀ n i u v : Nat, v ≤ n → i ≤ 64 → u < 2 ^ 20 → v < 2 ^ 20 → (1 ≤ i → v < u ∧ u * v * 2 ^ (i - 1) < 2 ^ 40) → Nat.gcd u v = Nat.gcd x y → ∀ a b c z5, a = nI u → b = nI v → c = nI i → Go G l (mt mS_commonDivisor) 7 [some (vI (nI x)), some (vI (nI y)), some (vI a), some (vI b), some (vI c), z5] [] h 0 0 K := by
    intro n
    induction n with
    | zero =>
      intro i u v hv hi hu hv2 hb e a b c z5 ha hb' hc
      obtain rfl : v = 0 := by omega
      subst ha; subst hb'; subst hc
      have : nI u = nI (Nat.gcd x y) := by rw [← e, Nat.gcd_zero_right]
      refine gS_commonDivisor 99 [(7, 5)] fun S Cu hS hC => ?_
      refine pk_le 64 i (fun _ => ?_) (fun _ => ?_)
      · exact rtI (K := K) this hK
      · exact And.intro (fun _ => rtI (K := K) this hK) (fun z => absurd rfl z)
    | succ n ih =>
      intro i u v hv hi hu hv2 hb e a b c z5 ha hb' hc
      subst ha; subst hb'; subst hc
      refine gS_commonDivisor 99 [(7, 5)] fun S Cu hS hC => ?_
      refine pk_le 64 i (fun q => ?_) (fun q => ?_)
      · obtain rfl : i = 64 := by omega
        obtain ⟨q1, q2⟩ := hb (by decide)
        have v0 : v = 0 := by
          refine Classical.byContradiction fun z => ?_
          have : 1 * 2 ^ 63 ≤ u * v * 2 ^ (64 - 1) := Nat.mul_le_mul_right _ (Nat.mul_pos (by omega) (by omega))
          omega
        refine rtI (K := K) ?_ hK
        rw [← e, v0, Nat.gcd_zero_right]
      · refine pk_eq v 0 (fun q0 => ?_) (fun q0 => ?_)
        · refine rtI (K := K) ?_ hK
          rw [← e, q0, Nat.gcd_zero_right]
        · refine And.intro (nI_ne0 (by omega) (by omega)) ?_
          have ml := Nat.mod_lt u (show 0 < v by omega)
          refine hC _ _ _ _ (ih (i + 1) v (u % v) (by omega) (by omega) hv2 (by omega) (fun _ => ⟨ml, ?_⟩) ?_ _ _ _ _ rfl (pk_rem (by omega) (by omega) (by omega)) (nI_1 i))
          · rw [Nat.add_sub_cancel]
            by_cases i0 : i = 0
            · subst i0
              rw [Nat.pow_zero, Nat.mul_one]
              exact Nat.lt_of_lt_of_le (Nat.mul_lt_mul_of_lt_of_le hv2 (by omega) (by omega)) (show 2 ^ 20 * 2 ^ 20 ≤ 2 ^ 40 by decide)
            · obtain ⟨q1, q2⟩ := hb (by omega)
              obtain ⟨m, rfl⟩ : ∃ m, i = m + 1 := ⟨i - 1, by omega⟩
              rw [Nat.add_sub_cancel] at q2
              have half : 2 * (u % v) ≤ u := by
                have d1 : 1 ≤ u / v := (Nat.one_le_div_iff (by omega)).mpr (by omega)
                have d2 := Nat.div_add_mod u v
                have d3 : v * 1 ≤ v * (u / v) := Nat.mul_le_mul_left _ d1
                omega
              refine Nat.lt_of_le_of_lt ?_ q2
              rw [Nat.pow_succ, show v * (u % v) * (2 ^ m * 2) = v * (2 * (u % v)) * 2 ^ m by rw [Nat.mul_comm (2 ^ m) 2, ← Nat.mul_assoc, Nat.mul_assoc v, Nat.mul_comm (u % v) 2], Nat.mul_comm u v]
              exact Nat.mul_le_mul_right _ (Nat.mul_le_mul_left _ half)
          · rw [← e, Nat.gcd_comm u v, Nat.gcd_rec v u, Nat.gcd_comm]
  refine eS_commonDivisor 19 [(7, 5)] fun S Cu hS hC => ?_
  exact hC _ _ _ _ (lp y 0 x y (Nat.le_refl _) (by decide) hx hy (fun z => by omega) rfl _ _ _ _ rfl rfl rfl)
theorem sS_place {d x y q : Nat} {a b c e : Int32} (cs : CS h) (sh : SH s) (ha : a = nI d) (hb : b = nI x) (hc : c = nI y) (he : e = nI q) (hd : d < 40) (hx : x < 2 ^ 20) (hy : y < 2 ^ 20) (hq : q < 2 ^ 20) (hq1 : 1 ≤ q) (hK : K (some (vI (bI (¬ (hI h (s + 2) d = nI (x / gcd3 x y q) ∧ hI h (s + 3) d = nI (y / gcd3 x y q) ∧ hI h (s + 4) d = nI (q / gcd3 x y q)))))) (plH h s d (x / gcd3 x y q) (y / gcd3 x y q) (q / gcd3 x y q))) : Spec G l (mt mS_place) [vR s, vI a, vI b, vI c, vI e] h K := by
  subst ha; subst hb; subst hc; subst he
  have gp : 0 < gcd3 x y q := gcd3_pos hq1
  have gl : gcd3 x y q < 2 ^ 20 := Nat.lt_of_le_of_lt (Nat.le_of_dvd hq1 gcd3_dvd.2.2) hq
  have gl2 : Nat.gcd x y < 2 ^ 20 := by
    rcases Nat.eq_zero_or_pos x with z | z
    · subst z; rw [Nat.gcd_zero_left]; exact hy
    · exact Nat.lt_of_le_of_lt (Nat.le_of_dvd z (Nat.gcd_dvd_left _ _)) hx
  have g31 : gcd3 x y q < 2 ^ 31 := by omega
  have A := sh.a
  have ob : Ob h s 7 := ⟨A.2.1.1, by rw [cs.1]; omega, by rw [cs.2.1]; exact A.1.1⟩
  have r5 : hR h s 5 = s + 2 := cs.rf sh.rf.2.1 rfl
  have r6 : hR h s 6 = s + 3 := cs.rf sh.rf.2.2.1 rfl
  have r7 : hR h s 7 = s + 4 := cs.rf sh.rf.2.2.2 rfl
  have iX : InA h (s + 2) 0 (nI d) := ⟨40, ⟨by omega, by rw [cs.1]; omega, by rw [cs.2.1]; exact A.1.2.2.1⟩, vp_in_nI hd (by decide)⟩
  have iY : InA h (s + 3) 0 (nI d) := ⟨40, ⟨by omega, by rw [cs.1]; omega, by rw [cs.2.1]; exact A.1.2.2.2.1⟩, vp_in_nI hd (by decide)⟩
  have iD : InA h (s + 4) 0 (nI d) := ⟨40, ⟨by omega, by rw [cs.1]; omega, by rw [cs.2.1]; exact A.1.2.2.2.2⟩, vp_in_nI hd (by decide)⟩
  have ixd : ix (nI d) = d := ix_nI (by omega)
  have d1 : nI x / nI (gcd3 x y q) = nI (x / gcd3 x y q) := pk_div (by omega) gp (by omega)
  have d2 : nI y / nI (gcd3 x y q) = nI (y / gcd3 x y q) := pk_div (by omega) gp (by omega)
  have d3 : nI q / nI (gcd3 x y q) = nI (q / gcd3 x y q) := pk_div (by omega) gp (by omega)
  have fin : ∀ v : Int32, v = bI (¬ (hI h (s + 2) d = nI (x / gcd3 x y q) ∧ hI h (s + 3) d = nI (y / gcd3 x y q) ∧ hI h (s + 4) d = nI (q / gcd3 x y q))) → ∀ z5 , Go G l (mt mS_place) 77 [some (vR s), some (vI (nI d)), some (vI (nI x)), some (vI (nI y)), some (vI (nI q)), z5, some (vI (nI x / nI (gcd3 x y q))), some (vI (nI y / nI (gcd3 x y q))), some (vI (nI q / nI (gcd3 x y q))), none] [vI v] h 0 0 K := by
    intro v hv z5
    subst hv
    refine gS_place 99 [] fun S Cu hS hC => ?_
    refine ld _ ob r5 ?_
    refine sw d _ iX ixd d1 ?_
    refine ld _ ob r6 ?_
    refine sw d _ iY ixd d2 ?_
    refine ld _ ob r7 ?_
    refine sw d _ iD ixd d3 ?_
    exact And.intro (bI_01 _) hK
  refine eS_place 99 [(77, 9)] fun S Cu hS hC => ?_
  refine hS _ _ _ _ (sS_commonDivisor rfl rfl hx hy ?_)
  refine hS _ _ _ _ (sS_commonDivisor rfl rfl gl2 hq ?_)
  refine pk_le 1 (gcd3 x y q) (fun _ => ?_) (fun z => by omega)
  refine And.intro (nI_ne0 gp g31) ?_
  refine And.intro (nI_ne0 gp g31) ?_
  refine And.intro (nI_ne0 gp g31) ?_
  refine ld _ ob r5 ?_
  refine ld (hI h (s + 2) d) iX (by rw [ixd]) ?_
  refine And.intro (fun q1 => ?_) (fun q1 => ?_)
  · exact hC _ _ _ _ (fin 1 (bI_T (fun z => q1 (z.1.trans d1.symm))).symm _)
  refine ld _ ob r6 ?_
  refine ld (hI h (s + 3) d) iY (by rw [ixd]) ?_
  refine And.intro (fun q2 => ?_) (fun q2 => ?_)
  · exact hC _ _ _ _ (fin 1 (bI_T (fun z => q2 (z.2.1.trans d2.symm))).symm _)
  refine ld _ ob r7 ?_
  refine ld (hI h (s + 4) d) iD (by rw [ixd]) ?_
  refine And.intro (fun q3 => ?_) (fun q3 => ?_)
  · exact hC _ _ _ _ (fin 0 (bI_F (fun z => z ⟨q1.trans d1, q2.trans d2, q3.trans d3⟩)).symm _)
  · exact hC _ _ _ _ (fin 1 (bI_T (fun z => q3 (z.2.2.trans d3.symm))).symm _)
end CC
