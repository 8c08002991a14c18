/-! ===== the model: ring, loss, idle, loads, closest ===== -/
theorem ad_lt {a b : Nat} (ha : a < 2 ^ 30) (hb : b < 2 ^ 30) : ad a b < 2 ^ 31 := by unfold ad; omega
theorem neg_sub32 (a b : Int32) : -(a - b) = b - a := by rw [Int32.neg_sub]
section MM
variable {G : GP} {l : Launch} {K : Option AV → AH → Prop} {h : AH} {ρ : Pic}
theorem sM_sizeD {a b : Nat} {x : Int32} (hx : x = nI a - nI b) (ha : a < 2 ^ 30) (hb : b < 2 ^ 30) (hK : K (some (vI (nI (ad a b)))) h) : Spec G l (mt mM_size) [vI x] h K := by
  subst hx
  refine eM_size 9 [] fun S Cu hS hC => ?_
  by_cases q : b ≤ a
  · have e : nI a - nI b = nI (ad a b) := by rw [pk_sub q]; exact congrArg nI (by unfold ad; omega)
    refine And.intro (fun _ => rtI (K := K) e hK) (fun z => absurd (nI_pos' (n := ad a b) (by unfold ad; omega)) (by rw [← e]; exact z))
  · refine And.intro (fun z => absurd (pk_sneg hb (show a < b by omega)) (Int32.not_lt.mpr z)) (fun _ => rtI (K := K) ?_ hK)
    rw [neg_sub32, pk_sub (by omega)]; exact congrArg nI (by unfold ad; omega)
theorem sM_greater {a b : Nat} {x y : Int32} (hx : x = nI a) (hy : y = nI b) (ha : a < 2 ^ 31) (hb : b < 2 ^ 31) (hK : K (some (vI (nI (mx a b)))) h) : Spec G l (mt mM_greater) [vI x, vI y] h K := by
  subst hx; subst hy
  refine eM_greater 9 [] fun S Cu hS hC => ?_
  refine pk_le a b (fun q => ?_) (fun q => ?_) rfl rfl ha hb
  · exact rtI (K := K) (congrArg nI (by unfold mx; rw [if_neg (by omega)])) hK
  · exact rtI (K := K) (congrArg nI (by unfold mx; rw [if_pos q])) hK
theorem sM_ring {x y : Int32} (p : MP h ρ) (hK : K (some (vI (aRing ρ x y))) h) : Spec G l (mt mM_ring) [vR 136, vI x, vI y] h K := by
  have g := p.2.2.n
  have gc := p.2.2.c
  unfold aRing at hK
  refine eM_ring 99 [] fun S Cu hS hC => ?_
  refine And.intro p.1.ob (hS _ _ _ _ (sM_isCell p ?_))
  refine brE (fun q => ?_) (fun q => ?_)
  · exact rtC (K := K) q hK
  rw [cif_T q] at hK
  obtain ⟨i, j, hi, hj, rfl, rfl, ec, hc, em, ed⟩ := isC_c p.2.2 q
  rw [ec] at hK
  refine And.intro p.1.ob (hS _ _ _ _ (sM_dots p ?_))
  refine And.intro (fun q2 => ?_) (fun q2 => ?_)
  · have hn : 0 < pcn ρ := Nat.pos_of_ne_zero (fun z => q2 (by rw [z]; rfl))
    obtain ⟨o, eo⟩ := own_some (ρ := ρ) (c := pcw ρ * j + i) hn
    have ol := own_lt eo
    have gd := p.2.2.d ol
    have g19 := p.2.2.d19 ol
    have dx : pcX ρ o / pcD ρ o ≤ 19 := Nat.div_le_of_le_mul (by rw [Nat.mul_comm]; exact g19.2.2.1)
    have dy : pcY ρ o / pcD ρ o ≤ 19 := Nat.div_le_of_le_mul (by rw [Nat.mul_comm]; exact g19.2.2.2)
    have hne : ¬ lN (pcD ρ o) = 0 := fun z => by rw [show (0 : Int64) = lN 0 from rfl, pk_lEQ (by omega) (by omega)] at z; omega
    rw [eo] at hK
    refine And.intro p.1.ob (hS _ _ _ _ (sM_numberOf p rfl rfl ?_))
    refine And.intro p.1.ob (hS _ _ _ _ (sM_ownerBut p rfl hc ?_))
    have e0 : oI (ow ρ (fun d => ¬ nI d = -1) (pcw ρ * j + i) (pcn ρ)) = nI o := (congrArg oI (owX_m1 p.2.2 _)).trans (congrArg oI eo)
    refine And.intro p.1.ob (hS _ _ _ _ (sM_xOf p e0 (by omega) ?_))
    refine And.intro p.1.ob (hS _ _ _ _ (sM_under p e0 ol ?_))
    refine And.intro hne ?_
    have e1 : ((nI (pcX ρ o)).toInt64 / lN (pcD ρ o)).toInt32 = nI (pcX ρ o / pcD ρ o) := by rw [nI_l (by omega), pk_lDiv (by omega) (by omega) (by omega), lN_i]
    have e2 : ((nI (pcY ρ o)).toInt64 / lN (pcD ρ o)).toInt32 = nI (pcY ρ o / pcD ρ o) := by rw [nI_l (by omega), pk_lDiv (by omega) (by omega) (by omega), lN_i]
    refine hS _ _ _ _ (sM_sizeD (a := pcX ρ o / pcD ρ o) (b := i) (by rw [e1]) (by omega) (by omega) ?_)
    refine And.intro p.1.ob (hS _ _ _ _ (sM_yOf p e0 (by omega) ?_))
    refine And.intro p.1.ob (hS _ _ _ _ (sM_under p e0 ol ?_))
    refine And.intro hne ?_
    refine hS _ _ _ _ (sM_sizeD (a := pcY ρ o / pcD ρ o) (b := j) (by rw [e2]) (by omega) (by omega) ?_)
    refine hS _ _ _ _ (sM_greater rfl rfl (ad_lt (by omega) (by omega)) (ad_lt (by omega) (by omega)) ?_)
    refine rtI (K := K) ?_ hK
    unfold ringO; rw [em, ed]
  · have hn : pcn ρ = 0 := (nI_eq (b := 0) (by omega) (by decide)).mp q2
    rw [own_none hn] at hK
    exact hK
theorem sM_lossOf {d : Nat} {a : Int32} (p : MP h ρ) (ha : a = nI d) (hd : d < pcn ρ) (hK : K (some (vI (lossI ρ d))) h) : Spec G l (mt mM_lossOf) [vR 136, vI a] h K := by
  subst ha
  refine eM_lossOf 19 [] fun S Cu hS hC => ?_
  refine And.intro p.1.ob (hS _ _ _ _ (sM_costBut p ?_))
  refine And.intro p.1.ob (hS _ _ _ _ (sM_costBut p ?_))
  refine rtI (K := K) ?_ hK
  have e1 : sumN (fun c => cstO ρ c (owX ρ (nI d) c)) (pcc ρ) = costX ρ d := sumN_congr fun c _ => by rw [owX_d p.2.2 hd]
  have e2 : sumN (fun c => cstO ρ c (owX ρ (-1) c)) (pcc ρ) = tot ρ := sumN_congr fun c _ => by rw [owX_m1 p.2.2]
  rw [e1, e2, Int64.toInt32_sub, lN_i, lN_i]; rfl
theorem sM_loss {x : Int32} (p : MP h ρ) (hK : K (some (vI (aLoss ρ x))) h) : Spec G l (mt mM_loss) [vR 136, vI x] h K := by
  have g := p.2.2.n
  unfold aLoss at hK
  refine eM_loss 19 [] fun S Cu hS hC => ?_
  refine And.intro p.1.ob (hS _ _ _ _ (sM_isDot p ?_))
  refine brE (fun q => ?_) (fun q => ?_)
  · exact rtC (K := K) (fun z => q z.1) hK
  refine And.intro p.1.ob (hS _ _ _ _ (sM_dots p ?_))
  refine pk_le (pcn ρ) 1 (fun q2 => ?_) (fun q2 => ?_)
  · exact rtC (K := K) (fun z => by omega) hK
  · rw [cif_T ⟨q, q2⟩] at hK
    obtain ⟨d, hd, rfl⟩ := q
    rw [ix_nI (by omega)] at hK
    exact And.intro p.1.ob (hS _ _ _ _ (sM_lossOf p rfl hd hK))
theorem sM_idle (p : MP h ρ) (hK : K (some (vI (aIdle ρ))) h) : Spec G l (mt mM_idle) [vR 136] h K := by
  have g := p.2.2.n
  have tl := tot_le p.2.2
  unfold aIdle at hK
  have lp : 1 < pcn ρ → ∀ k, k ≤ pcn ρ → 1 ≤ k → ∀ b v i, b = nI (argm (costX ρ) k) → v = lossI ρ (argm (costX ρ) k) → i = nI k → ∀ z4, Go G l (mt mM_idle) 20 [some (vR 136), some (vI b), some (vI v), some (vI i), z4] [] h 0 0 K := by
    intro hn
    rw [cif_T hn] at hK
    refine upto _ ?_
    intro k hk ih k1 b v i hb hv hi z4
    subst hi
    refine gM_idle 99 [(20, 5)] fun S Cu hS hC => ?_
    refine And.intro p.1.ob (hS _ _ _ _ (sM_dots p ?_))
    refine pk_le (pcn ρ) k (fun q => ?_) (fun q => ?_)
    · obtain rfl : k = pcn ρ := by omega
      subst hb; exact hK
    · refine And.intro p.1.ob (hS _ _ _ _ (sM_lossOf p rfl q ?_))
      have a1 := costX_le p.2.2 k
      have a2 := costX_le p.2.2 (argm (costX ρ) k)
      have t1 := tot_X p.2.2 (d := k) hn
      have t2 := tot_X p.2.2 (d := argm (costX ρ) k) hn
      refine pk_lt (costX ρ k - tot ρ) (costX ρ (argm (costX ρ) k) - tot ρ) (fun z => ?_) (fun z => ?_) (lossI_eq p.2.2 hn) (hv.trans (lossI_eq p.2.2 hn))
      · have e : argm (costX ρ) (k + 1) = k := by simp only [argm]; rw [if_pos (by omega)]
        exact hC _ _ _ _ (ih q (by omega) _ _ _ (by rw [e]) (by rw [e]) (nI_1 k) _)
      · have e : argm (costX ρ) (k + 1) = argm (costX ρ) k := by simp only [argm]; rw [if_neg (by omega)]
        exact hC _ _ _ _ (ih q (by omega) _ _ _ (by rw [e]; exact hb) (by rw [e]; exact hv) (nI_1 k) _)
  refine eM_idle 19 [(20, 5)] fun S Cu hS hC => ?_
  refine And.intro p.1.ob (hS _ _ _ _ (sM_dots p ?_))
  refine pk_le 2 (pcn ρ) (fun q => ?_) (fun q => ?_)
  · have e : argm (costX ρ) 1 = 0 := by simp [argm]
    refine And.intro p.1.ob (hS _ _ _ _ (sM_lossOf (d := 0) p rfl (by omega) ?_))
    exact hC _ _ _ _ (lp (by omega) 1 (by omega) (by omega) _ _ _ (by rw [e]; rfl) (by rw [e]) rfl _)
  · exact rtC (K := K) (fun z => by omega) hK
theorem sM_costOf {d : Nat} {a : Int32} (p : MP h ρ) (ha : a = nI d) (hd : d < pcn ρ) (ho : ∀ c, c < pcc ρ → hI h 141 c = oI (own ρ c)) (hK : K (some (vI (nI (bill ρ d)))) h) : Spec G l (mt mM_costOf) [vR 136, vI a] h K := by
  subst ha
  have g := p.2.2.n
  have gc := p.2.2.c
  have lp : ∀ k, k ≤ pcc ρ → ∀ i o, i = nI k → o = lN (sumN (fun c => wN (own ρ c = some d) (cst ρ c d)) k) → Go G l (mt mM_costOf) 5 [some (vR 136), some (vI (nI d)), some (vL o), none, some (vI i)] [] h 0 0 K := by
    refine upto _ ?_
    intro k hk ih i o hi ho2
    subst hi
    have fin : k < pcc ρ → ∀ w, w = lN (wN (own ρ k = some d) (cst ρ k d)) → Go G l (mt mM_costOf) 37 [some (vR 136), some (vI (nI d)), some (vL o), none, some (vI (nI k))] [vL w, vL o] h 0 0 K := by
      intro q w hw
      subst hw
      refine gM_costOf 99 [(5, 5)] fun S Cu hS hC => ?_
      refine hC _ _ _ _ (ih q _ _ (nI_1 k) ?_)
      rw [ho2, lN_add]; rfl
    refine gM_costOf 99 [(37, 5)] fun S Cu hS hC => ?_
    refine And.intro p.1.ob (hS _ _ _ _ (sM_cells p ?_))
    refine pk_le (pcc ρ) k (fun q => ?_) (fun q => ?_)
    · obtain rfl : k = pcc ρ := by omega
      subst ho2
      exact rtI (K := K) (lN_i _) hK
    · refine ld 141 p.1.ob (p.1.2.2 19) ?_
      refine ld (oI (own ρ k)) (p.1.inA (j := k) rfl rfl rfl rfl (by omega) rfl) (rdA rfl (by omega) (ho k q)) ?_
      obtain ⟨b, eb⟩ := own_some (ρ := ρ) (c := k) (show 0 < pcn ρ by omega)
      have bl := own_lt eb
      rw [eb]
      refine And.intro (fun z => ?_) (fun z => ?_)
      · refine hC _ _ _ _ (fin q _ ?_)
        rw [wN_F (fun y => z (by rw [eb] at y; injection y with y; rw [y]; rfl))]; rfl
      · have z : b = d := (nI_eq (by omega) (by omega)).mp z
        subst z
        refine And.intro p.1.ob (hS _ _ _ _ (sM_costBy (o := some b) p rfl rfl q (fun d hd => by injection hd with hd; omega) ?_))
        refine hC _ _ _ _ (fin q _ ?_)
        rw [wN_T eb]; rfl
  exact eM_costOf 9 [(5, 5)] fun S Cu hS hC => hC _ _ _ _ (lp 0 (by omega) _ _ rfl rfl)
theorem sM_loads {x : Int32} (p : MP h ρ) (hK : ∀ h', Fr [141, 142] h h' → K (some (vI (aLoads ρ x))) h') : Spec G l (mt mM_loads) [vR 136, vI x] h K := by
  have g := p.2.2.n
  have g0 := p.2.2
  have e3 : (Int64.ofNat 0 ≤ x.toInt64 ∧ x.toInt64 ≤ Int64.ofNat 3) ↔ _ := isIn_lh (x := x) (lo := 0) (hi := 3) (by decide) (by decide)
  unfold aLoads at hK
  refine eM_loads 99 [(35, 6)] fun S Cu hS hC => ?_
  refine And.intro p.1.ob (hS _ _ _ _ (sM_dots p ?_))
  refine And.intro (fun q => ?_) (fun q => ?_)
  · have hn : pcn ρ = 0 := (nI_eq (b := 0) (by omega) (by decide)).mp q
    have := hK h Fr.rf
    rw [cif_F (by omega)] at this; exact this
  have hn : 0 < pcn ρ := Nat.pos_of_ne_zero (fun z => q (by rw [z]; rfl))
  rw [cif_T hn] at hK
  refine hS _ _ _ _ (sM_isIn ?_)
  refine brN (fun q2 => ?_) (fun q2 => ?_)
  · obtain ⟨w, -, hw, rfl⟩ := e3.mp q2
    refine And.intro p.1.ob (hS _ _ _ _ (sM_laysLoads p fun h' f eo el => ?_))
    have hK := hK h' f
    have p' : MP h' ρ := p.fr f rfl
    have ll : ∀ d, load ρ d < 2 ^ 31 := fun d => Nat.lt_of_le_of_lt (load_le g0 d) (by decide)
    have bl : ∀ d, bill ρ d < 2 ^ 31 := fun d => Nat.lt_of_le_of_lt (bill_le g0 d) (by decide)
    have lp : ∀ k, k ≤ pcn ρ → 1 ≤ k → ∀ a b c i, a = nI (argx (load ρ) k) → b = nI (argm (load ρ) k) → c = nI (argx (bill ρ) k) → i = nI k → Go G l (mt mM_loads) 35 [some (vR 136), some (vI (nI w)), some (vI a), some (vI b), some (vI c), some (vI i)] [] h' 0 0 K := by
      refine upto _ ?_
      intro k hk ih k1 a b c i ha hb hc hi
      subst ha; subst hb; subst hc; subst hi
      have xl := argx_lt (f := load ρ) (n := k) (by omega)
      have ml := argm_lt (f := load ρ) (n := k) (by omega)
      have yl := argx_lt (f := bill ρ) (n := k) (by omega)
      have s3 : k < pcn ρ → ∀ a b : Int32, a = nI (argx (load ρ) (k + 1)) → b = nI (argm (load ρ) (k + 1)) → Go G l (mt mM_loads) 90 [some (vR 136), some (vI (nI w)), some (vI a), some (vI b), some (vI (nI (argx (bill ρ) k))), some (vI (nI k))] [] h' 0 0 K := by
        intro q a b ha hb
        refine gM_loads 99 [(35, 6)] fun S Cu hS hC => ?_
        refine And.intro p'.1.ob (hS _ _ _ _ (sM_costOf p' rfl q eo ?_))
        refine And.intro p'.1.ob (hS _ _ _ _ (sM_costOf p' rfl (by omega) eo ?_))
        refine pk_le (bill ρ k) (bill ρ (argx (bill ρ) k)) (fun z => ?_) (fun z => ?_) rfl rfl (bl _) (bl _)
        · exact hC _ _ _ _ (ih q (by omega) _ _ _ _ ha hb (by simp only [argx]; rw [if_neg (by omega)]) (nI_1 k))
        · exact hC _ _ _ _ (ih q (by omega) _ _ _ _ ha hb (by simp only [argx]; rw [if_pos z]) (nI_1 k))
      have s2 : k < pcn ρ → ∀ a : Int32, a = nI (argx (load ρ) (k + 1)) → Go G l (mt mM_loads) 67 [some (vR 136), some (vI (nI w)), some (vI a), some (vI (nI (argm (load ρ) k))), some (vI (nI (argx (bill ρ) k))), some (vI (nI k))] [] h' 0 0 K := by
        intro q a ha
        refine gM_loads 99 [(90, 6)] fun S Cu hS hC => ?_
        refine ld 142 p'.1.ob (p'.1.2.2 20) ?_
        refine ld (nI (load ρ k)) (p'.1.inA (j := k) rfl rfl rfl rfl (by omega) rfl) (rdA rfl (by omega) (el k q)) ?_
        refine ld 142 p'.1.ob (p'.1.2.2 20) ?_
        refine ld (nI (load ρ (argm (load ρ) k))) (p'.1.inA (j := argm (load ρ) k) rfl rfl rfl rfl (by omega) rfl) (rdA rfl (by omega) (el _ (by omega))) ?_
        refine pk_le (load ρ (argm (load ρ) k)) (load ρ k) (fun z => ?_) (fun z => ?_) rfl rfl (ll _) (ll _)
        · exact hC _ _ _ _ (s3 q _ _ ha (by simp only [argm]; rw [if_neg (by omega)]))
        · exact hC _ _ _ _ (s3 q _ _ ha (by simp only [argm]; rw [if_pos z]))
      refine gM_loads 99 [(67, 6)] fun S Cu hS hC => ?_
      refine And.intro p'.1.ob (hS _ _ _ _ (sM_dots p' ?_))
      refine pk_le (pcn ρ) k (fun q => ?_) (fun q => ?_)
      · obtain rfl : k = pcn ρ := by omega
        refine And.intro (fun n0 => ?_) (fun e0 => ?_)
        · refine And.intro (fun n1 => ?_) (fun e1 => ?_)
          · refine And.intro (fun n2 => ?_) (fun e2 => ?_)
            · have : w = 3 := by
                have h0 : w ≠ 0 := fun z => n0 (by rw [z]; rfl)
                have h1 : w ≠ 1 := fun z => n1 (by rw [z]; rfl)
                have h2 : w ≠ 2 := fun z => n2 (by rw [z]; rfl)
                omega
              subst this
              rw [sel_in (i := 3) rfl (by decide) rfl] at hK; exact hK
            · rw [sel_in (i := 2) e2 (by decide) rfl] at hK; exact hK
          · rw [sel_in (i := 1) e1 (by decide) rfl] at hK
            refine ld 142 p'.1.ob (p'.1.2.2 20) ?_
            exact ld _ (p'.1.inA (j := argm (load ρ) (pcn ρ)) rfl rfl rfl rfl (by omega) rfl) (rdA rfl (by omega) (el _ (by omega))) hK
        · rw [sel_in (i := 0) e0 (by decide) rfl] at hK
          refine ld 142 p'.1.ob (p'.1.2.2 20) ?_
          exact ld _ (p'.1.inA (j := argx (load ρ) (pcn ρ)) rfl rfl rfl rfl (by omega) rfl) (rdA rfl (by omega) (el _ (by omega))) hK
      · refine ld 142 p'.1.ob (p'.1.2.2 20) ?_
        refine ld (nI (load ρ k)) (p'.1.inA (j := k) rfl rfl rfl rfl (by omega) rfl) (rdA rfl (by omega) (el k q)) ?_
        refine ld 142 p'.1.ob (p'.1.2.2 20) ?_
        refine ld (nI (load ρ (argx (load ρ) k))) (p'.1.inA (j := argx (load ρ) k) rfl rfl rfl rfl (by omega) rfl) (rdA rfl (by omega) (el _ (by omega))) ?_
        refine pk_le (load ρ k) (load ρ (argx (load ρ) k)) (fun z => ?_) (fun z => ?_) rfl rfl (ll _) (ll _)
        · exact hC _ _ _ _ (s2 q _ (by simp only [argx]; rw [if_neg (by omega)]))
        · exact hC _ _ _ _ (s2 q _ (by simp only [argx]; rw [if_pos z]))
    have e1 : argx (load ρ) 1 = 0 := by simp [argx]
    have e2 : argm (load ρ) 1 = 0 := by simp [argm]
    have e3 : argx (bill ρ) 1 = 0 := by simp [argx]
    exact hC _ _ _ _ (lp 1 (by omega) (by omega) _ _ _ _ (by rw [e1]; rfl) (by rw [e2]; rfl) (by rw [e3]; rfl) rfl)
  · have := hK h Fr.rf
    rw [sel_out (fun i hi z => q2 (e3.mpr ⟨i, by omega, by simp at hi; omega, z⟩))] at this
    exact this
theorem sM_apart {x y d x2 y2 d2 : Nat} {a b c a2 b2 c2 : Int64} (e1 : a = lN x) (e2 : b = lN y) (e3 : c = lN d) (e4 : a2 = lN x2) (e5 : b2 = lN y2) (e6 : c2 = lN d2) (h1 : 1 ≤ d) (h2 : d ≤ 3600) (h3 : 1 ≤ d2) (h4 : d2 ≤ 3600) (hx : x ≤ 19 * d) (hy : y ≤ 19 * d) (hx2 : x2 ≤ 19 * d2) (hy2 : y2 ≤ 19 * d2) (hK : K (some (vI (nI (apt x y d x2 y2 d2)))) h) : Spec G l (mt mM_apart) [vL a, vL b, vL c, vL a2, vL b2, vL c2] h K := by
  subst e1; subst e2; subst e3; subst e4; subst e5; subst e6
  obtain ⟨b1, b2, b3⟩ := apt_bd h1 h2 h3 h4 hx hy hx2 hy2
  have eu : (lN x * lN d2 - lN x2 * lN d) * (lN x * lN d2 - lN x2 * lN d) + (lN y * lN d2 - lN y2 * lN d) * (lN y * lN d2 - lN y2 * lN d) = lN (sqd (x * d2) (x2 * d) + sqd (y * d2) (y2 * d)) := by
    rw [lN_mul, lN_mul, lN_mul, lN_mul, lN_sqd, lN_sqd, lN_add]
  have ew : lN d * lN d2 * lN d * lN d2 = lN (d * d2 * d * d2) := by rw [lN_mul, lN_mul, lN_mul]
  have hne : ¬ lN d * lN d2 * lN d * lN d2 = 0 := fun z => by rw [ew, show (0 : Int64) = lN 0 from rfl, pk_lEQ (by omega) (by omega)] at z; omega
  refine eM_apart 99 [] fun S Cu hS hC => ?_
  refine And.intro hne ?_
  refine And.intro hne ?_
  refine And.intro hne ?_
  refine rtI (K := K) ?_ hK
  have ml := Nat.mod_lt (sqd (x * d2) (x2 * d) + sqd (y * d2) (y2 * d)) (show 0 < d * d2 * d * d2 by omega)
  rw [eu, ew, pk_lRem (by omega) (by omega) (by omega), pk_lDiv (by omega) (by omega) (by omega), show Int64.ofNat 1000 = lN 1000 from rfl, lN_mul, lN_mul, pk_lDiv (by omega) (by omega) (by omega), lN_add, lN_i]; rfl
end MM
