/-! ===== the class: shades, busy cells, draws ===== -/
theorem lN_mask {a : Nat} (ha : a < 2 ^ 63) : lN a &&& lN 2147483647 = lN (a % 2147483648) := by
  apply Int64.toBitVec.inj
  rw [Int64.toBitVec_and, lnBv, lnBv, lnBv]
  apply BitVec.eq_of_toNat_eq
  have m := Nat.mod_lt a (show 0 < 2147483648 by decide)
  rw [BitVec.toNat_and, BitVec.toNat_ofNat, BitVec.toNat_ofNat, BitVec.toNat_ofNat, Nat.mod_eq_of_lt (show a < 2 ^ 64 by omega), Nat.mod_eq_of_lt (show 2147483647 < 2 ^ 64 by decide), Nat.mod_eq_of_lt (show a % 2147483648 < 2 ^ 64 by omega)]
  exact Nat.and_two_pow_sub_one_eq_mod a 31
theorem rdX {h : AH} {k j : Nat} {i v : Int32} (hi : i = nI j) (hj : j < 2 ^ 31) (e : hI h k j = v) : hI h k (ix i) = v := by rw [ix_of hi hj]; exact e
theorem niBv (n : Nat) : (nI n).toBitVec = BitVec.ofNat 32 n := rfl
theorem nI_shr16 {x : Nat} (hx : x < 2 ^ 31) : nI x >>> ((16 : Int32) &&& 31) = nI (x / 65536) := by
  apply Int32.toBitVec.inj
  rw [Int32.toBitVec_shiftRight, niBv, niBv]
  have e : (((16 : Int32) &&& 31).toBitVec.smod 32) = 16#32 := by decide
  rw [e]
  have m : (BitVec.ofNat 32 x).msb = false := by
    rw [BitVec.msb_eq_false_iff_two_mul_lt, BitVec.toNat_ofNat, Nat.mod_eq_of_lt (by omega)]; omega
  rw [BitVec.sshiftRight_eq', BitVec.sshiftRight_eq_of_msb_false m]
  apply BitVec.eq_of_toNat_eq
  rw [BitVec.toNat_ushiftRight, BitVec.toNat_ofNat, Nat.mod_eq_of_lt (show x < 2 ^ 32 by omega), BitVec.toNat_ofNat, BitVec.toNat_ofNat, Nat.mod_eq_of_lt (show x / 65536 < 2 ^ 32 by omega), Nat.mod_eq_of_lt (show 16 < 2 ^ 32 by decide), Nat.shiftRight_eq_div_pow]
/-- cells of other groups -/
theorem SH.n {s : Nat} (hs : SH s) {k : Nat} (hk : SL.contains (grp k) = false) {i : Nat} (hi : i ≤ 4) : s + i ≠ k := fun z => by
  rw [← z, hs.gr hi] at hk
  unfold SH at hs; rw [hs] at hk; cases hk
theorem SH.out {s : Nat} (hs : SH s) {L : List Nat} (hL : L.all (fun g => !SL.contains g) = true) : L.contains s = false := by
  cases e : L.contains s with
  | false => rfl
  | true =>
    have := List.all_eq_true.mp hL s (by simpa using e)
    unfold SH at hs; rw [hs] at this; cases this
theorem SH.lt {s : Nat} (hs : SH s) : s < 136 := hs.a.2.1.2.2
/-- a scene untouched by what changed outside all scenes -/
theorem SC.fx {h h' : AH} {s : Nat} {ρ : Pic} {L : List Nat} (x : SC h s ρ) (f : FX 999 L h h') (hL : L.all (fun g => !SL.contains g) = true) : SC h' s ρ := f.sc x (by have := x.2.1.lt; omega) (x.2.1.out hL)
def busyP (h : AH) (ρ : Pic) : Prop := ∀ c, c < pcc ρ → hI h 119 c = bI (¬ bare ρ c)
section CC
variable {G : GP} {l : Launch} {K : Option AV → AH → Prop} {h : AH} {ρ : Pic}
variable {s : Nat}
theorem sS_sumByShade (x : SC h s ρ) (hK : ∀ h', F1 121 h h' → (∀ k, k < 10 → hI h' 121 k = nI (shw ρ k)) → K none h') : Spec G l (mt mS_sumByShade) [vR s, vR 121] h K := by
  have g := x.2.2.2.n
  have gc := x.2.2.2.c
  have lp : ∀ n, n ≤ pcc ρ → ∀ h', F1 121 h h' → (∀ k, k < 10 → hI h' 121 k = nI (sumN (fun c => wN (pcW ρ c = k) k) n)) → ∀ i, i = nI n → Go G l (mt mS_sumByShade) 7 [some (vR s), some (vR 121), some (vI i)] [] h' 0 0 K := by
    refine upto _ ?_
    intro n hn ih h' f hv i hi
    subst hi
    have x : SC h' s ρ := x.fx (L := [121]) (f.x (Or.inr rfl)) rfl
    refine gS_sumByShade 99 [(7, 3)] fun S Cu hS hC => ?_
    refine And.intro (x.ob) (hS _ _ _ _ (sS_size x ?_))
    refine pk_le (pcc ρ) n (fun q => ?_) (fun q => ?_)
    · obtain rfl : n = pcc ρ := by omega
      exact hK h' f hv
    · have w9 := x.2.2.2.2.1 n (by omega)
      refine ld _ x.ob x.r4 ?_
      refine ld _ (x.inW rfl (by omega)) (x.W rfl q) ?_
      refine ld _ (x.1.inA (k := 121) (j := pcW ρ n) rfl rfl rfl rfl (by omega) rfl) (rdX rfl (by omega) (hv _ (by omega))) ?_
      refine ld _ x.ob x.r4 ?_
      refine ld _ (x.inW rfl (by omega)) (x.W rfl q) ?_
      refine sw (pcW ρ n) _ (x.1.inA (k := 121) (j := pcW ρ n) rfl rfl rfl rfl (by omega) rfl) (ix_nI (by omega)) rfl ?_
      refine hC _ _ _ _ (ih q _ f.setI (fun k hk => ?_) _ (nI_1 n))
      have e : sumN (fun c => wN (pcW ρ c = k) k) (n + 1) = sumN (fun c => wN (pcW ρ c = k) k) n + wN (pcW ρ n = k) k := rfl
      rw [e]
      by_cases ek : k = pcW ρ n
      · subst ek; rw [si_eq, nI_add, wN_T rfl]
      · rw [si_ne ek, wN_F (fun z => ek z.symm), Nat.add_zero]; exact hv k hk
  refine eS_sumByShade 39 [(7, 3)] fun S Cu hS hC => ?_
  refine hS _ _ _ _ (sJ_fillI (x.1.ar (k := 121) (t := 0) (n := 10) rfl rfl rfl) (by decide) fun h' f hv => ?_)
  exact hC _ _ _ _ (lp 0 (by omega) h' f (fun k hk => hv k hk) _ rfl)
theorem sS_markBusy (x : SC h s ρ) (hK : ∀ h', F1 119 h h' → busyP h' ρ → K none h') : Spec G l (mt mS_markBusy) [vR s, vR 119] h K := by
  have g := x.2.2.2.n
  have gc := x.2.2.2.c
  have lp2 : ∀ n, n ≤ pcn ρ → ∀ h', F1 119 h h' → (∀ c, c < pcc ρ → hI h' 119 c = bI (∃ d, d < n ∧ lies ρ d (c % pcw ρ) (c / pcw ρ))) → ∀ i, i = nI n → Go G l (mt mS_markBusy) 22 [some (vR s), some (vR 119), some (vI i)] [] h' 0 0 K := by
    refine upto _ ?_
    intro n hn ih h' f hv i hi
    subst hi
    have x : SC h' s ρ := x.fx (L := [119]) (f.x (Or.inr rfl)) rfl
    refine gS_markBusy 99 [(22, 3)] fun S Cu hS hC => ?_
    refine ld _ x.ob x.2.2.1.1.2.2.1 ?_
    refine pk_le (pcn ρ) n (fun q => ?_) (fun q => ?_)
    · obtain rfl : n = pcn ρ := by omega
      refine hK h' f (fun c hc => ?_)
      rw [hv c hc]
      refine bI_eq ?_
      unfold bare
      constructor
      · rintro ⟨d, a, b⟩ z; exact z d a b
      · intro z
        refine Classical.byContradiction fun y => z fun d a b => y ⟨d, a, b⟩
    · have gd := x.2.2.2.2.2.1 n q
      have g2 := x.2.2.2.d q
      refine ld _ x.ob x.r7 ?_
      refine ld _ (x.inD rfl (by omega)) (x.D rfl q) ?_
      by_cases q2 : pcD ρ n = 1
      · refine And.intro (fun z => absurd (congrArg nI q2) z) (fun _ => ?_)
        refine ld _ x.ob x.r5 ?_
        refine ld _ (x.inX rfl (by omega)) (x.X rfl q) ?_
        refine ld _ x.ob x.r6 ?_
        refine ld _ (x.inY rfl (by omega)) (x.Y rfl q) ?_
        refine And.intro (x.ob) (hS _ _ _ _ (sS_numberOf x rfl rfl ?_))
        have hX : pcX ρ n < pcw ρ := by have := gd.2.2.1; rw [q2, Nat.mul_one] at this; omega
        have hY : pcY ρ n < pch ρ := by have := gd.2.2.2.1; rw [q2, Nat.mul_one] at this; omega
        obtain ⟨c1, c2, c3⟩ := cel_lt hX hY
        refine sw (pcw ρ * pcY ρ n + pcX ρ n) (nI 1) ⟨x.1.inA (k := 119) (t := 2) (n := 400) (j := pcw ρ * pcY ρ n + pcX ρ n) rfl rfl rfl rfl (by omega) rfl, Or.inr rfl⟩ (ix_nI (by omega)) rfl ?_
        refine hC _ _ _ _ (ih q _ f.setI (fun c hc => ?_) _ (nI_1 n))
        by_cases e : c = pcw ρ * pcY ρ n + pcX ρ n
        · subst e
          rw [si_eq, bI_T ⟨n, by omega, q2, by rw [c2], by rw [c3]⟩]; rfl
        · rw [si_ne e, hv c hc]
          refine bI_eq ⟨fun ⟨d, a, b⟩ => ⟨d, by omega, b⟩, fun ⟨d, a, b⟩ => ?_⟩
          by_cases dn : d = n
          · subst dn
            exact absurd (by rw [b.2.1, b.2.2, Nat.div_add_mod]) e
          · exact ⟨d, by omega, b⟩
      · refine And.intro (fun _ => ?_) (fun z => absurd ((nI_eq (b := 1) (by omega) (by decide)).mp z) q2)
        refine hC _ _ _ _ (ih q _ f (fun c hc => ?_) _ (nI_1 n))
        rw [hv c hc]
        refine bI_eq ⟨fun ⟨d, a, b⟩ => ⟨d, by omega, b⟩, fun ⟨d, a, b⟩ => ?_⟩
        by_cases dn : d = n
        · subst dn; exact absurd b.1 q2
        · exact ⟨d, by omega, b⟩
  have lp1 : ∀ n, n ≤ pcc ρ → ∀ h', F1 119 h h' → (∀ c, c < n → hI h' 119 c = 0) → ∀ i, i = nI n → Go G l (mt mS_markBusy) 2 [some (vR s), some (vR 119), some (vI i)] [] h' 0 0 K := by
    refine upto _ ?_
    intro n hn ih h' f hv i hi
    subst hi
    have x : SC h' s ρ := x.fx (L := [119]) (f.x (Or.inr rfl)) rfl
    refine gS_markBusy 99 [(2, 3), (22, 3)] fun S Cu hS hC => ?_
    refine And.intro (x.ob) (hS _ _ _ _ (sS_size x ?_))
    refine pk_le (pcc ρ) n (fun q => ?_) (fun q => ?_)
    · obtain rfl : n = pcc ρ := by omega
      refine hC _ _ _ _ (lp2 0 (by omega) h' f (fun c hc => ?_) _ rfl)
      rw [hv c hc, bI_F (fun ⟨d, a, b⟩ => absurd a (Nat.not_lt_zero d))]
    · refine sw n (nI 0) ⟨x.1.inA (k := 119) (t := 2) (n := 400) (j := n) rfl rfl rfl rfl (by omega) rfl, Or.inl rfl⟩ (ix_nI (by omega)) rfl ?_
      refine hC _ _ _ _ (ih q _ f.setI (fun c hc => ?_) _ (nI_1 n))
      by_cases e : c = n
      · subst e; exact si_eq
      · rw [si_ne e]; exact hv c (by omega)
  refine eS_markBusy 39 [(2, 3)] fun S Cu hS hC => ?_
  exact hC _ _ _ _ (lp1 0 (by omega) h F1.rf (fun c hc => absurd hc (Nat.not_lt_zero c)) _ rfl)
theorem sS_freeGreyCells (x : SC h s ρ) (hb : busyP h ρ) (hK : K (some (vI (nI (free ρ)))) h) : Spec G l (mt mS_freeGreyCells) [vR s, vR 119] h K := by
  have g := x.2.2.2.n
  have gc := x.2.2.2.c
  have lp : ∀ n, n ≤ pcc ρ → ∀ i o, i = nI n → o = nI (sumN (fun c => wN (0 < pcW ρ c ∧ bare ρ c) 1) n) → Go G l (mt mS_freeGreyCells) 4 [some (vR s), some (vR 119), some (vI o), some (vI i)] [] h 0 0 K := by
    refine upto _ ?_
    intro n hn ih i o hi ho
    subst hi
    refine gS_freeGreyCells 99 [(4, 4)] fun S Cu hS hC => ?_
    refine And.intro (x.ob) (hS _ _ _ _ (sS_size x ?_))
    refine pk_le (pcc ρ) n (fun q => ?_) (fun q => ?_)
    · obtain rfl : n = pcc ρ := by omega
      subst ho; exact hK
    · have w9 := x.2.2.2.2.1 n (by omega)
      refine ld _ (x.1.inA (k := 119) (t := 2) (n := 400) (j := n) rfl rfl rfl rfl (by omega) rfl) (rdX rfl (by omega) (hb n q)) ?_
      refine brN (fun q1 => ?_) (fun q1 => ?_)
      · exact hC _ _ _ _ (ih q _ _ (nI_1 n) (cntF (P := fun c => 0 < pcW ρ c ∧ bare ρ c) (fun z => q1 z.2) ho))
      · refine ld _ x.ob x.r4 ?_
        refine ld _ (x.inW rfl (by omega)) (x.W rfl q) ?_
        refine pk_le (pcW ρ n) 0 (fun q2 => ?_) (fun q2 => ?_)
        · exact hC _ _ _ _ (ih q _ _ (nI_1 n) (cntF (P := fun c => 0 < pcW ρ c ∧ bare ρ c) (fun z => by omega) ho))
        · exact hC _ _ _ _ (ih q _ _ (nI_1 n) (cntT (P := fun c => 0 < pcW ρ c ∧ bare ρ c) ⟨q2, Classical.byContradiction q1⟩ ho))
  exact eS_freeGreyCells 9 [(4, 4)] fun S Cu hS hC => hC _ _ _ _ (lp 0 (by omega) _ _ rfl rfl)
theorem SP.pu2 {h : AH} {s v : Nat} {ρ : Pic} (p : SP h s ρ) (c4 : pcc ρ ≤ 400) : SP (setI h s 3 (nI v)) s (pu ρ 2 v) := by
  have e0 : pcw (pu ρ 2 v) = pcw ρ := pu_ne (by decide)
  have e1 : pch (pu ρ 2 v) = pch ρ := pu_ne (by decide)
  have e3 : pcn (pu ρ 2 v) = pcn ρ := pu_ne (by decide)
  have e2 : pcs (pu ρ 2 v) = v := pu_eq
  have ec : pcc (pu ρ 2 v) = pcc ρ := by unfold pcc; rw [e0, e1]
  refine ⟨⟨?_, ?_, ?_, ?_⟩, fun c hc => ?_, fun d hd => ?_⟩
  · rw [si_ne (by decide), e0]; exact p.1.1
  · rw [si_ne (by decide), e1]; exact p.1.2.1
  · rw [si_ne (by decide), e3]; exact p.1.2.2.1
  · rw [si_eq, e2]
  · rw [ec] at hc
    have : pcW (pu ρ 2 v) c = pcW ρ c := pu_ne (by omega)
    rw [si_n (by omega), this]; exact p.2.1 c hc
  · rw [e3] at hd
    have x0 : pcX (pu ρ 2 v) d = pcX ρ d := pu_ne (by omega)
    have x1 : pcY (pu ρ 2 v) d = pcY ρ d := pu_ne (by omega)
    have x2 : pcD (pu ρ 2 v) d = pcD ρ d := pu_ne (by omega)
    rw [si_n (by omega), si_n (by omega), si_n (by omega), x0, x1, x2]; exact p.2.2 d hd
theorem sS_drawBelow {a : Int32} {k : Nat} (x : SC h s ρ) (ha : a = nI k) (hk : 1 ≤ k) (hk2 : k < 2 ^ 31) (hK : ∀ h', FX s [] h h' → SP h' s (pu ρ 2 (nxs ρ)) → K (some (vI (nI (nxs ρ / 65536 % k)))) h') : Spec G l (mt mS_drawBelow) [vR s, vI a] h K := by
  subst ha
  have g := x.2.2.2.n
  have gc := x.2.2.2.c
  have nl := nxs_lt ρ
  refine eS_drawBelow 39 [] fun S Cu hS hC => ?_
  refine ld _ x.ob x.2.2.1.1.2.2.2 ?_
  refine ld (nI (nxs ρ)) x.ob ?_ ?_
  · have e : (nI (pcs ρ)).toInt64 * Int64.ofNat 1103515245 + Int64.ofNat 12345 = lN (pcs ρ * 1103515245 + 12345) := by
      rw [nI_l (by omega), show Int64.ofNat 1103515245 = lN 1103515245 from rfl, show Int64.ofNat 12345 = lN 12345 from rfl, lN_mul, lN_add]
    rw [e, show Int64.ofNat 2147483647 = lN 2147483647 from rfl, lN_mask (by omega), lN_i]; rfl
  · refine pk_le k 0 (fun z => by omega) (fun _ => ?_)
    refine ld (nI (nxs ρ)) x.ob si_eq ?_
    refine And.intro (nI_ne0 hk hk2) ?_
    refine rtI (K := K) ?_ (hK _ (FX.rf.setI (Or.inl x.2.1.a.2.2.1)) (x.2.2.1.pu2 gc.1))
    rw [nI_shr16 nl]
    exact pk_rem (by omega) (by omega) (by omega)
end CC
