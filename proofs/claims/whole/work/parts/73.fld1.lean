/-! ===== the class: fields, offers ===== -/
def FH (f : Nat) : Prop := f = 7 ∨ f = 100
theorem FH.a {f : Nat} (h : FH f) : shp f = .inl 2 ∧ shp (f + 1) = .inr (0, 400) ∧ shp (f + 2) = .inr (1, 400) ∧ shp (f + 3) = .inr (1, 400) ∧ shp (f + 4) = .inr (0, 400) ∧ shp (f + 5) = .inr (0, 40) ∧ shp (f + 6) = .inr (0, 40) ∧ shp (f + 7) = .inr (0, 40) ∧ shp (f + 8) = .inr (0, 40) ∧ shp (f + 9) = .inr (0, 40) := by
  rcases h with rfl | rfl <;> decide +kernel
theorem FH.b {f : Nat} (h : FH f) : 0 < f ∧ f + 9 < 136 ∧ SL.contains f = false := by
  rcases h with rfl | rfl <;> decide +kernel
theorem FH.gr {f : Nat} (h : FH f) {i : Nat} (hi : i ≤ 9) : grp (f + i) = f := by
  have : i = 0 ∨ i = 1 ∨ i = 2 ∨ i = 3 ∨ i = 4 ∨ i = 5 ∨ i = 6 ∨ i = 7 ∨ i = 8 ∨ i = 9 := by omega
  rcases h with rfl | rfl <;> rcases this with rfl | rfl | rfl | rfl | rfl | rfl | rfl | rfl | rfl | rfl <;> rfl
theorem FH.rf {f : Nat} (h : FH f) {j : Nat} (hj : j < 9) : crf f j = f + 1 + j := by
  unfold crf
  rw [if_neg (by rw [h.b.2.2]; decide), if_pos (by rcases h with rfl | rfl <;> decide), if_pos hj]
theorem SH.nf {s f : Nat} (hs : SH s) (hf : FH f) : s ≠ f := fun z => by
  have := hf.b.2.2
  rw [← z] at this; unfold SH at hs; rw [hs] at this; cases this
theorem SH.nfi {s f : Nat} (hs : SH s) (hf : FH f) {i j : Nat} (hi : i ≤ 4) (hj : j ≤ 9) : s + i ≠ f + j := fun z => by
  have := congrArg grp z
  rw [hs.gr hi, hf.gr hj] at this
  exact hs.nf hf this
theorem CS.fob {h : AH} (c : CS h) {f : Nat} (hf : FH f) : Ob h f 2 := ⟨hf.b.1, by rw [c.1]; have := hf.b; omega, by rw [c.2.1]; exact hf.a.1⟩
theorem CS.fr {h : AH} (c : CS h) {f j : Nat} (hf : FH f) (hj : j < 9) : hR h f j = f + 1 + j := by
  refine c.rf (hf.rf hj) ?_
  rw [show f + 1 + j = f + j + 1 by omega]; rfl
theorem CS.fin {h : AH} (c : CS h) {f i t n : Nat} (hf : FH f) (hi : i ≤ 9) (e : shp (f + i) = .inr (t, n)) {a : Int32} {j : Nat} (ha : a = nI j) (hj : j < n) (hn : n ≤ 10000) : InA h (f + i) t a := by
  have := hf.b
  exact ⟨n, ⟨by omega, by rw [c.1]; omega, by rw [c.2.1]; exact e⟩, by subst ha; exact vp_in_nI hj (by omega)⟩
def gpO (ρ : Pic) (c : Nat) (o : Option Nat) : Nat := match o with
  | none => 1
  | some d => gap ρ c d
def spO (ρ : Pic) (o : Option Nat) : Nat := match o with
  | none => 0
  | some d => spn ρ d
/-- who owns the cells, and how far off -/
def owR (h : AH) (f : Nat) (ρ : Pic) (O : Nat → Option Nat) : Prop := ∀ c, c < pcc ρ → hI h (f + 1) c = oI (O c) ∧ hL h (f + 2) c = lN (gpO ρ c (O c)) ∧ hL h (f + 3) c = lN (spO ρ (O c))
/-- a dot offered to a cell -/
def ofr (ρ : Pic) (d c : Nat) (o : Option Nat) : Option Nat := match o with
  | none => some d
  | some b => if gap ρ c d * spn ρ b < gap ρ c b * spn ρ d ∨ (gap ρ c d * spn ρ b = gap ρ c b * spn ρ d ∧ d < b) then some d else some b
theorem ofr_is {ρ : Pic} {S : Nat → Prop} {c n d : Nat} {o : Option Nat} (hp : ∀ e, e < n → 0 < spn ρ e) (hd : d < n) (h : IsOw ρ S c n o) : IsOw ρ (fun e => S e ∨ e = d) c n (ofr ρ d c o) := by
  rcases h with ⟨rfl, h⟩ | ⟨b, rfl, hb, sb, h⟩
  · refine Or.inr ⟨d, rfl, hd, Or.inr rfl, fun e he se => ?_⟩
    rcases se with se | se
    · exact absurd se (h e he)
    · subst se; exact ⟨Nat.le_refl _, fun z => absurd z (Nat.lt_irrefl _)⟩
  · show IsOw ρ _ c n (if _ then some d else some b)
    by_cases q : gap ρ c d * spn ρ b < gap ρ c b * spn ρ d ∨ (gap ρ c d * spn ρ b = gap ρ c b * spn ρ d ∧ d < b)
    · rw [if_pos q]
      refine Or.inr ⟨d, rfl, hd, Or.inr rfl, fun e he se => ?_⟩
      rcases se with se | se
      · obtain ⟨h1, h2⟩ := h e he se
        rcases q with q | ⟨q, q'⟩
        · have := fr_trans_lt (hp b hb) (hp e he) q h1
          exact ⟨Nat.le_of_lt this, fun _ => this⟩
        · exact ⟨fr_trans (hp b hb) (Nat.le_of_eq q) h1, fun z => fr_trans_lt' (hp b hb) (hp d hd) (Nat.le_of_eq q) (h2 (by omega))⟩
      · subst se; exact ⟨Nat.le_refl _, fun z => absurd z (Nat.lt_irrefl _)⟩
    · rw [if_neg q]
      refine Or.inr ⟨b, rfl, hb, Or.inl sb, fun e he se => ?_⟩
      rcases se with se | se
      · exact h e he se
      · subst se; exact ⟨by omega, fun z => by omega⟩
theorem ofr_y {ρ : Pic} {d c : Nat} {o : Option Nat} (q : gap ρ c d * spO ρ o < gpO ρ c o * spn ρ d ∨ (gap ρ c d * spO ρ o = gpO ρ c o * spn ρ d ∧ ∃ b, o = some b ∧ d < b)) : ofr ρ d c o = some d := by
  cases o with
  | none => rfl
  | some b =>
    refine if_pos ?_
    rcases q with q | ⟨q, b', e, q'⟩
    · exact Or.inl q
    · injection e with e; subst e; exact Or.inr ⟨q, q'⟩
theorem ofr_n {ρ : Pic} {d c : Nat} {o : Option Nat} (hs : 0 < spn ρ d) (q : ¬ (gap ρ c d * spO ρ o < gpO ρ c o * spn ρ d ∨ (gap ρ c d * spO ρ o = gpO ρ c o * spn ρ d ∧ ∃ b, o = some b ∧ d < b))) : ofr ρ d c o = o := by
  cases o with
  | none => exact absurd (Or.inl (by show gap ρ c d * 0 < 1 * spn ρ d; omega)) q
  | some b =>
    refine if_neg (fun z => q ?_)
    rcases z with z | z
    · exact Or.inl z
    · exact Or.inr ⟨z.1, b, rfl, z.2⟩
/-- only owners, gaps and spans have changed -/
def FO (f : Nat) (h h' : AH) : Prop := hN h' = hN h ∧ hS h' = hS h ∧ hR h' = hR h ∧ (∀ k, k ≠ f + 1 → hI h' k = hI h k) ∧ ∀ k, k ≠ f + 2 → k ≠ f + 3 → hL h' k = hL h k
theorem FO.rf {f : Nat} {h : AH} : FO f h h := ⟨rfl, rfl, rfl, fun _ _ => rfl, fun _ _ _ => rfl⟩
theorem FO.tr {f : Nat} {h h1 h2 : AH} (a : FO f h h1) (b : FO f h1 h2) : FO f h h2 := ⟨b.1.trans a.1, b.2.1.trans a.2.1, b.2.2.1.trans a.2.2.1, fun k q => (b.2.2.2.1 k q).trans (a.2.2.2.1 k q), fun k q q2 => (b.2.2.2.2 k q q2).trans (a.2.2.2.2 k q q2)⟩
theorem FO.x {f : Nat} {h h' : AH} (a : FO f h h') (hf : FH f) : FX f [] h h' := ⟨a.1, a.2.1, a.2.2.1, fun k q _ => ⟨a.2.2.2.1 k (fun z => q (by rw [z]; exact hf.gr (by decide))), a.2.2.2.2 k (fun z => q (by rw [z]; exact hf.gr (by decide))) (fun z => q (by rw [z]; exact hf.gr (by decide)))⟩⟩
def ofH (h : AH) (f c d g q : Nat) : AH := setL (setL (setI h (f + 1) c (nI d)) (f + 2) c (lN g)) (f + 3) c (lN q)
theorem ofH_fo {h : AH} {f c d g q : Nat} : FO f h (ofH h f c d g q) := by
  refine ⟨rfl, rfl, rfl, fun k hk => ?_, fun k h1 h2 => ?_⟩
  · exact si_n hk
  · unfold ofH; rw [sl_n h2, sl_n h1]; rfl
theorem neg_l {X : Nat} (hX : X < 2 ^ 31) : (-(nI X)).toInt64 = lN 0 - lN X := by
  rw [← Int64.toInt_inj, Int32.toInt_toInt64, sb_negT hX, Int64.toInt_sub]
  have e0 : (lN 0).toInt = 0 := rfl
  have e1 : (lN X).toInt = (X : Int) := Int64.toInt_ofNat_of_lt (by omega)
  rw [e0, e1, Int.bmod_eq_of_le (by omega) (by omega)]
  omega
section CC
variable {G : GP} {l : Launch} {K : Option AV → AH → Prop} {h : AH} {ρ : Pic}
variable {s f : Nat}
theorem sF_wipeOwners (cs : CS h) (hf : FH f) (gc : pcc ρ ≤ 400) (hK : ∀ h', FO f h h' → owR h' f ρ (fun _ => none) → K none h') : Spec G l (mt mF_wipeOwners) [vR f] h K := by
  have A := hf.a
  have B := hf.b
  have ar : ∀ {h' : AH}, FO f h h' → ∀ {i t n : Nat}, 1 ≤ i → i ≤ 9 → shp (f + i) = .inr (t, n) → Ar h' (f + i) t n := fun {h'} a {i t n} h1 h2 e => ⟨by omega, by rw [a.1, cs.1]; omega, by rw [a.2.1, cs.2.1]; exact e⟩
  refine eF_wipeOwners 39 [] fun S Cu hS hC => ?_
  refine ld _ (cs.fob hf) (cs.fr hf (by decide)) ?_
  refine hS _ _ _ _ (sJ_fillI (n := 400) (ar FO.rf (by decide) (by decide) A.2.1) (by decide) fun h1 f1 v1 => ?_)
  have o1 : FO f h h1 := ⟨f1.1, f1.2.1, f1.2.2.1, fun k hk => f1.2.2.2.2 k hk, fun k _ _ => by rw [f1.2.2.2.1]⟩
  have cs1 := (o1.x hf).cs cs
  refine ld _ (cs1.fob hf) (cs1.fr hf (by decide)) ?_
  refine hS _ _ _ _ (sJ_fillL (n := 400) (ar o1 (by decide) (by decide) A.2.2.1) (by decide) fun h2 f2 v2 => ?_)
  have o2 : FO f h h2 := o1.tr ⟨f2.1, f2.2.1, f2.2.2.1, fun k hk => by rw [f2.2.2.2.1], fun k h1 _ => f2.2.2.2.2 k h1⟩
  have cs2 := (o2.x hf).cs cs
  refine ld _ (cs2.fob hf) (cs2.fr hf (by decide)) ?_
  refine hS _ _ _ _ (sJ_fillL (n := 400) (ar o2 (by decide) (by decide) A.2.2.2.1) (by decide) fun h3 f3 v3 => ?_)
  have o3 : FO f h h3 := o2.tr ⟨f3.1, f3.2.1, f3.2.2.1, fun k hk => by rw [f3.2.2.2.1], fun k _ h2 => f3.2.2.2.2 k h2⟩
  refine hK h3 o3 (fun c hc => ⟨?_, ?_, ?_⟩)
  · rw [f3.2.2.2.1, f2.2.2.2.1]; exact v1 c (by omega)
  · rw [f3.2.2.2.2 (f + 2) (by omega)]; exact v2 c (by omega)
  · exact v3 c (by omega)
theorem sF_offer {a : Int32} {d : Nat} {O : Nat → Option Nat} (x : SC h s ρ) (hf : FH f) (ha : a = nI d) (hd : d < pcn ρ) (ho : owR h f ρ O) (hO : ∀ c b, c < pcc ρ → O c = some b → b < pcn ρ) (hK : ∀ h', FO f h h' → owR h' f ρ (fun c => ofr ρ d c (O c)) → K none h') : Spec G l (mt mF_offer) [vR f, vI a, vR s] h K := by
  subst ha
  have g := x.2.2.2.n
  have gc := x.2.2.2.c
  have g2 := x.2.2.2.d hd
  have sp := spn_pos x.2.2.2 hd
  have A := hf.a
  have hx : ∀ h', FO f h h' → SC h' s ρ := fun h' o => (o.x hf).sc x (x.2.1.nf hf) rfl
  have out : ∀ y, y ≤ pch ρ → ∀ h', FO f h h' → owR h' f ρ (fun c => if c < pcw ρ * y then ofr ρ d c (O c) else O c) → ∀ pt sq n yy z4 z6 z9 z10 z11 z12 z13 z14 z15 z16 z17 z18 z19 z20 z21, pt = lN (pcD ρ d) → sq = lN (spn ρ d) → n = nI (pcw ρ * y) → yy = nI y → Go G l (mt mF_offer) 19 [some (vR f), some (vI (nI d)), some (vR s), some (vL pt), z4, some (vL sq), z6, some (vI n), some (vI yy), z9, z10, z11, z12, z13, z14, z15, z16, z17, z18, z19, z20, z21] [] h' 0 0 K := by
    refine upto _ ?_
    intro y hy ih h' o ow pt sq n yy z4 z6 z9 z10 z11 z12 z13 z14 z15 z16 z17 z18 z19 z20 z21 hpt hsq hn hyy
    subst hn; subst hyy; subst hpt; subst hsq
    have inn : y < pch ρ → ∀ m, m ≤ pcw ρ → ∀ h', FO f h h' → owR h' f ρ (fun c => if c < pcw ρ * y + m then ofr ρ d c (O c) else O c) → ∀ n xx rt dp z4 z6 z9 z10 z12 z14 z16 z17 z18 z19 z20 z21, dp = lN (sqd (y * pcD ρ d) (pcY ρ d)) → n = nI (pcw ρ * y + m) → xx = nI m → rt = lN (m * pcD ρ d) - lN (pcX ρ d) → Go G l (mt mF_offer) 63 [some (vR f), some (vI (nI d)), some (vR s), some (vL (lN (pcD ρ d))), z4, some (vL (lN (spn ρ d))), z6, some (vI n), some (vI (nI y)), z9, z10, some (vL dp), z12, some (vL rt), z14, some (vI xx), z16, z17, z18, z19, z20, z21] [] h' 0 0 K := by
      intro hy2
      refine upto _ ?_
      intro m hm ih2 h' o ow n xx rt dp z4 z6 z9 z10 z12 z14 z16 z17 z18 z19 z20 z21 hdp hn hxx hrt
      subst hn; subst hxx
      have x' := hx h' o
      have cs := x'.1
      have ob := cs.fob hf
      by_cases q : m < pcw ρ
      · obtain ⟨c1, c2, c3⟩ := cel_lt (ρ := ρ) q hy2
        generalize hc : pcw ρ * y + m = c at *
        have gap_e : rt * rt + dp = lN (gap ρ c d) := by
          rw [hrt, hdp, lN_sqd, lN_add]; unfold gap; rw [c2, c3]
        have oc : hI h' (f + 1) c = oI (O c) ∧ hL h' (f + 2) c = lN (gpO ρ c (O c)) ∧ hL h' (f + 3) c = lN (spO ρ (O c)) := by
          have := ow c c1
          dsimp only at this
          rw [if_neg (Nat.lt_irrefl _)] at this
          exact this
        have next : ∀ h2, FO f h' h2 → owR h2 f ρ (fun j => if j < c + 1 then ofr ρ d j (O j) else O j) → Go G l (mt mF_offer) 159 [some (vR f), some (vI (nI d)), some (vR s), some (vL (lN (pcD ρ d))), z4, some (vL (lN (spn ρ d))), z6, some (vI (nI c)), some (vI (nI y)), z9, z10, some (vL dp), z12, some (vL rt), z14, some (vI (nI m)), none, none, none, none, none, none] [] h2 0 0 K := by
          intro h2 o2 ow2
          refine gF_offer 99 [(63, 16)] fun S Cu hS hC => ?_
          refine hC _ _ _ _ (ih2 q h2 (o.tr o2) (by rw [show pcw ρ * y + (m + 1) = c + 1 by omega]; exact ow2) _ _ _ _ _ _ _ _ _ _ _ _ _ _ _ _ hdp ?_ (nI_1 m) ?_)
          · rw [show pcw ρ * y + (m + 1) = c + 1 by omega]; exact nI_1 c
          · rw [hrt, Nat.succ_mul, ← lN_add, Int64.sub_eq_add_neg, Int64.sub_eq_add_neg, Int64.add_assoc, Int64.add_comm (-lN (pcX ρ d)), ← Int64.add_assoc]
        have store : ofr ρ d c (O c) = some d → Go G l (mt mF_offer) 133 [some (vR f), some (vI (nI d)), some (vR s), some (vL (lN (pcD ρ d))), z4, some (vL (lN (spn ρ d))), z6, some (vI (nI c)), some (vI (nI y)), z9, z10, some (vL dp), z12, some (vL rt), z14, some (vI (nI m)), some (vL (rt * rt + dp)), none, none, none, none, none] [] h' 0 0 K := by
          intro hy
          refine gF_offer 99 [(159, 16)] fun S Cu hS hC => ?_
          refine ld (f + 1) ob (cs.fr hf (by decide)) ?_
          refine sw c (nI d) (cs.fin hf (by decide) A.2.1 rfl (by omega) (by decide)) (ix_nI (by omega)) rfl ?_
          refine ld (f + 2) ob (cs.fr hf (by decide)) ?_
          refine sw c (lN (gap ρ c d)) (cs.fin hf (by decide) A.2.2.1 rfl (by omega) (by decide)) (ix_nI (by omega)) gap_e ?_
          refine ld (f + 3) ob (cs.fr hf (by decide)) ?_
          refine sw c (lN (spn ρ d)) (cs.fin hf (by decide) A.2.2.2.1 rfl (by omega) (by decide)) (ix_nI (by omega)) rfl ?_
          refine hC _ _ _ _ (next (ofH h' f c d (gap ρ c d) (spn ρ d)) ofH_fo (fun j hj => ?_))
          dsimp only
          by_cases e : j = c
          · subst e
            rw [if_pos (by omega), hy]
            refine ⟨?_, ?_, sl_eq⟩
            · show hI (setI h' (f + 1) j (nI d)) (f + 1) j = oI (some d)
              rw [si_eq]; rfl
            · unfold ofH; rw [sl_n (by omega), sl_eq]; rfl
          · have := ow j hj
            dsimp only at this
            rw [show (if j < c + 1 then ofr ρ d j (O j) else O j) = (if j < c then ofr ρ d j (O j) else O j) by
              by_cases z : j < c
              · rw [if_pos z, if_pos (by omega)]
              · rw [if_neg z, if_neg (by omega)]]
            refine ⟨?_, ?_, ?_⟩
            · show hI (setI h' (f + 1) c (nI d)) (f + 1) j = _
              rw [si_ne e]; exact this.1
            · unfold ofH; rw [sl_n (by omega), sl_ne e]; exact this.2.1
            · unfold ofH; rw [sl_ne e, sl_n (by omega)]; exact this.2.2
        have stay : ofr ρ d c (O c) = O c → Go G l (mt mF_offer) 159 [some (vR f), some (vI (nI d)), some (vR s), some (vL (lN (pcD ρ d))), z4, some (vL (lN (spn ρ d))), z6, some (vI (nI c)), some (vI (nI y)), z9, z10, some (vL dp), z12, some (vL rt), z14, some (vI (nI m)), none, none, none, none, none, none] [] h' 0 0 K := by
          intro hy
          refine next h' FO.rf (fun j hj => ?_)
          have := ow j hj
          dsimp only at this ⊢
          by_cases e : j = c
          · subst e; rw [if_pos (by omega), hy]; exact oc
          · rw [show (if j < c + 1 then ofr ρ d j (O j) else O j) = (if j < c then ofr ρ d j (O j) else O j) by
              by_cases z : j < c
              · rw [if_pos z, if_pos (by omega)]
              · rw [if_neg z, if_neg (by omega)]]
            exact this
        have b1 : gap ρ c d * spO ρ (O c) < 2 ^ 63 := by
          cases e : O c with
          | none => show gap ρ c d * 0 < 2 ^ 63; omega
          | some b => exact Nat.lt_of_lt_of_le (gs_lt x.2.2.2 c1 hd (hO c b c1 e)) (by decide)
        have b2 : gpO ρ c (O c) * spn ρ d < 2 ^ 63 := by
          cases e : O c with
          | none => show 1 * spn ρ d < 2 ^ 63; omega
          | some b => exact Nat.lt_of_lt_of_le (gs_lt x.2.2.2 c1 (hO c b c1 e) hd) (by decide)
        have e1 : (rt * rt + dp) * lN (spO ρ (O c)) < lN (gpO ρ c (O c)) * lN (spn ρ d) ↔ gap ρ c d * spO ρ (O c) < gpO ρ c (O c) * spn ρ d := by
          rw [gap_e, lN_mul, lN_mul, pk_lLT b1 b2]
        have e2 : (rt * rt + dp) * lN (spO ρ (O c)) = lN (gpO ρ c (O c)) * lN (spn ρ d) ↔ gap ρ c d * spO ρ (O c) = gpO ρ c (O c) * spn ρ d := by
          rw [gap_e, lN_mul, lN_mul, pk_lEQ b1 b2]
        refine gF_offer 99 [(133, 17), (159, 16)] fun S Cu hS hC => ?_
        refine ld _ x'.ob x'.2.2.1.1.1 ?_
        refine pk_le (pcw ρ) m (fun z => by omega) (fun _ => ?_)
        refine ld (f + 3) ob (cs.fr hf (by decide)) ?_
        refine ld (lN (spO ρ (O c))) (cs.fin hf (by decide) A.2.2.2.1 rfl (by omega) (by decide)) (rdL rfl (by omega) oc.2.2) ?_
        refine ld (f + 2) ob (cs.fr hf (by decide)) ?_
        refine ld (lN (gpO ρ c (O c))) (cs.fin hf (by decide) A.2.2.1 rfl (by omega) (by decide)) (rdL rfl (by omega) oc.2.1) ?_
        refine And.intro (fun q1 => ?_) (fun q1 => ?_)
        · exact hC _ _ _ _ (store (ofr_y (Or.inl (e1.mp (ig_lt.mp q1)))))
        have q1 : ¬ gap ρ c d * spO ρ (O c) < gpO ρ c (O c) * spn ρ d := fun z => q1 (ig_lt.mpr (e1.mpr z))
        refine And.intro (fun q2 => ?_) (fun q2 => ?_)
        · refine hC _ _ _ _ (stay (ofr_n (by omega) fun z => z.elim q1 fun y => q2 (ig_eq.mpr (e2.mpr y.1))))
        have q2 := e2.mp (ig_eq.mp q2)
        refine ld (f + 1) ob (cs.fr hf (by decide)) ?_
        refine ld (oI (O c)) (cs.fin hf (by decide) A.2.1 rfl (by omega) (by decide)) (rdX rfl (by omega) oc.1) ?_
        cases eo : O c with
        | none =>
          rw [eo] at q1
          exact absurd (show gap ρ c d * 0 < 1 * spn ρ d by omega) q1
        | some b =>
          have hb := hO c b c1 eo
          refine pk_le b d (fun q3 => ?_) (fun q3 => ?_)
          · exact hC _ _ _ _ (stay (ofr_n (by omega) fun z => z.elim q1 fun ⟨_, b', e, q'⟩ => by rw [eo] at e; injection e with e; omega))
          · exact hC _ _ _ _ (store (ofr_y (Or.inr ⟨q2, b, eo, q3⟩)))
      · refine gF_offer 99 [(19, 9)] fun S Cu hS hC => ?_
        obtain rfl : m = pcw ρ := by omega
        refine ld _ x'.ob x'.2.2.1.1.1 ?_
        refine And.intro (fun _ => ?_) (fun z => absurd (Int32.le_refl _) z)
        refine hC _ _ _ _ (ih hy2 h' o (by rw [Nat.mul_succ]; exact ow) _ _ _ _ _ _ _ _ _ _ _ _ _ _ _ _ _ _ _ rfl rfl (by rw [Nat.mul_succ]) (nI_1 y))
    have x' := hx h' o
    refine gF_offer 99 [(63, 16)] fun S Cu hS hC => ?_
    refine ld _ x'.ob x'.2.2.1.1.2.1 ?_
    refine pk_le (pch ρ) y (fun q => ?_) (fun q => ?_)
    · obtain rfl : y = pch ρ := by omega
      refine hK h' o (fun c hc => ?_)
      have := ow c hc
      dsimp only at this ⊢
      rw [if_pos (show c < pcw ρ * pch ρ from hc)] at this
      exact this
    · refine ld _ x'.ob x'.r6 ?_
      refine ld _ (x'.inY rfl (by omega)) (x'.Y rfl hd) ?_
      refine ld _ x'.ob x'.r5 ?_
      refine ld _ (x'.inX rfl (by omega)) (x'.X rfl hd) ?_
      have ey : ((nI y).toInt64 * lN (pcD ρ d) - (nI (pcY ρ d)).toInt64) * ((nI y).toInt64 * lN (pcD ρ d) - (nI (pcY ρ d)).toInt64) = lN (sqd (y * pcD ρ d) (pcY ρ d)) := by
        rw [nI_l (by omega), nI_l (by omega), lN_mul, lN_sqd]
      exact hC _ _ _ _ (inn q 0 (by omega) h' o ow _ _ _ _ _ _ _ _ _ _ _ _ _ _ _ _ ey rfl rfl (by rw [neg_l (by omega), Nat.zero_mul]))
  refine eF_offer 99 [(19, 9)] fun S Cu hS hC => ?_
  refine ld _ x.ob x.r7 ?_
  refine ld _ (x.inD rfl (by omega)) (x.D rfl hd) ?_
  have e1 : (nI (pcD ρ d)).toInt64 = lN (pcD ρ d) := nI_l (by omega)
  have e2 : lN (pcD ρ d) * lN (pcD ρ d) = lN (spn ρ d) := lN_mul _ _
  refine hC _ _ _ _ (out 0 (by omega) h FO.rf (fun c hc => ?_) _ _ _ _ _ _ _ _ _ _ _ _ _ _ _ _ _ _ _ e1 (by rw [e1, e2]) rfl rfl)
  dsimp only
  rw [if_neg (by omega)]; exact ho c hc
end CC
