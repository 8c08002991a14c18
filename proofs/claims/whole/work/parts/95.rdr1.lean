/-! ===== the class: the reader's tokens ===== -/
/-- only the reader's own numbers in L have changed -/
def N17 (L : List Nat) (h h' : AH) : Prop := F1 17 h h' ∧ ∀ j, L.contains j = false → hI h' 17 j = hI h 17 j
theorem N17.rf {L : List Nat} {h : AH} : N17 L h h := ⟨F1.rf, fun _ _ => rfl⟩
theorem N17.setI {L : List Nat} {h h' : AH} (f : N17 L h h') {j : Nat} {v : Int32} (hj : L.contains j = true) : N17 L h (setI h' 17 j v) := ⟨f.1.setI, fun i hi => by
  rw [si_ne (fun z => by rw [z, hj] at hi; cases hi)]; exact f.2 i hi⟩
theorem N17.tr {L M N : List Nat} {h h1 h2 : AH} (f : N17 L h h1) (g : N17 M h1 h2) (hL : L.all N.contains = true) (hM : M.all N.contains = true) : N17 N h h2 := by
  refine ⟨f.1.tr g.1, fun j hj => ?_⟩
  have out : ∀ {X : List Nat}, X.all N.contains = true → X.contains j = false := fun {X} hX => by
    cases e : X.contains j with
    | false => rfl
    | true => exact absurd (List.all_eq_true.mp hX j (by simpa using e)) (by rw [hj]; decide)
  exact (g.2 j (out hM)).trans (f.2 j (out hL))
theorem N17.x {L : List Nat} {h h' : AH} {s : Nat} (f : N17 L h h') : FX s [17] h h' := f.1.x (Or.inr rfl)
/-- a tape laid, its draft in scene u -/
def RR (h : AH) (t : Nat → Nat) (L u : Nat) : Prop := CS h ∧ PL.contains u = true ∧ hR h 17 4 = u ∧ hI h 17 0 = nI L ∧ L ≤ 900 ∧ (∀ i, i < L → hI h 18 i = nI (t i)) ∧ ∀ i, i < L → t i < 256
theorem RR.n {h h' : AH} {t : Nat → Nat} {L u : Nat} {M : List Nat} (r : RR h t L u) (f : N17 M h h') (hM : M.contains 0 = false) : RR h' t L u :=
  ⟨(f.x (s := 999)).cs r.1, r.2.1, by rw [f.1.2.2.1]; exact r.2.2.1, by rw [f.2 0 hM]; exact r.2.2.2.1, r.2.2.2.2.1, fun i hi => by rw [f.1.2.2.2.2 18 (by decide)]; exact r.2.2.2.2.2.1 i hi, r.2.2.2.2.2.2⟩
theorem RR.ob {h : AH} {t : Nat → Nat} {L u : Nat} (r : RR h t L u) : Ob h 17 6 := r.1.ob (k := 17) (ci := 6) rfl rfl rfl
theorem RR.r3 {h : AH} {t : Nat → Nat} {L u : Nat} (r : RR h t L u) : hR h 17 3 = 18 := r.1.rf (k := 17) (j := 3) rfl rfl
theorem RR.inA {h : AH} {t : Nat → Nat} {L u : Nat} (r : RR h t L u) {i : Int32} {j : Nat} (hi : i = nI j) (hj : j < L) : InA h 18 0 i := r.1.inA (k := 18) (n := 900) rfl rfl rfl hi (by have := r.2.2.2.2.1; omega) rfl
theorem RR.by {h : AH} {t : Nat → Nat} {L u : Nat} (r : RR h t L u) {i : Int32} {j : Nat} (hi : i = nI j) (hj : j < L) : hI h 18 (ix i) = nI (t j) := rdX hi (by have := r.2.2.2.2.1; omega) (r.2.2.2.2.2.1 j hj)
/-- the class's number of a kind of token -/
def kk (n : Nat) : Nat := (n + 1) % 5
def RK (h : AH) (T : TK) : Prop := hI h 17 8 = nI (kk T.1) ∧ hI h 17 7 = nI T.2.1 ∧ hI h 17 6 = nI T.2.2
def kd2 (b : Nat) : Nat := if ltB b = true then 2 else if dgB b = true then 3 else if b = 59 then 4 else 0
theorem kd2_l {b : Nat} : kd2 b = 2 ↔ ltB b = true := by
  unfold kd2
  by_cases h : ltB b = true
  · rw [if_pos h]; exact ⟨fun _ => h, fun _ => rfl⟩
  · rw [if_neg h]
    refine ⟨fun z => ?_, fun z => absurd z h⟩
    by_cases h2 : dgB b = true
    · rw [if_pos h2] at z; cases z
    · rw [if_neg h2] at z
      split at z <;> cases z
theorem kd2_d {b : Nat} : kd2 b = 3 ↔ dgB b = true := by
  unfold kd2
  by_cases h : ltB b = true
  · rw [if_pos h]
    refine ⟨fun z => absurd z (by decide), fun z => ?_⟩
    have := ltB_iff.mp h; have := dgB_iff.mp z; omega
  · rw [if_neg h]
    by_cases h2 : dgB b = true
    · rw [if_pos h2]; exact ⟨fun _ => h2, fun _ => rfl⟩
    · rw [if_neg h2]
      refine ⟨fun z => ?_, fun z => absurd z h2⟩
      split at z <;> cases z
theorem kd2_le {b : Nat} : kd2 b ≤ 4 := by unfold kd2; split; decide; split; decide; split <;> decide
section CC
variable {G : GP} {l : Launch} {K : Option AV → AH → Prop} {h : AH} {ρ : Pic}
variable {t : Nat → Nat} {L u a : Nat}
theorem sR_kindOf {x : Int32} {b : Nat} (hx : x = nI b) (hb : b < 256) (hK : K (some (vI (nI (kd2 b)))) h) : Spec G l (mt mR_kindOf) [vI x] h K := by
  subst hx
  have nl : ¬ ltB b = true → Go G l (mt mR_kindOf) 14 [some (vI (nI b))] [] h 0 0 K := by
    intro q
    have nd : ¬ dgB b = true → Go G l (mt mR_kindOf) 28 [some (vI (nI b))] [] h 0 0 K := by
      intro q2
      refine gR_kindOf 39 [] fun S Cu hS hC => ?_
      unfold kd2 at hK
      rw [if_neg q, if_neg q2] at hK
      refine And.intro (fun z => ?_) (fun z => ?_)
      · rw [if_neg (fun y => z (by rw [y]; rfl))] at hK; exact hK
      · rw [if_pos ((nI_eq (b := 59) (by omega) (by decide)).mp z)] at hK; exact hK
    refine gR_kindOf 39 [(28, 1)] fun S Cu hS hC => ?_
    refine pk_lt b 48 (fun z => ?_) (fun z => ?_)
    · exact hC _ _ _ _ (nd (fun y => by have := dgB_iff.mp y; omega))
    refine pk_lt 57 b (fun z2 => ?_) (fun z2 => ?_)
    · exact hC _ _ _ _ (nd (fun y => by have := dgB_iff.mp y; omega))
    · refine rtI (K := K) (congrArg nI ?_) hK
      exact (kd2_d.mpr (dgB_iff.mpr ⟨by omega, by omega⟩)).symm
  refine eR_kindOf 39 [(14, 1)] fun S Cu hS hC => ?_
  refine pk_lt b 97 (fun z => ?_) (fun z => ?_)
  · exact hC _ _ _ _ (nl (fun y => by have := ltB_iff.mp y; omega))
  refine pk_lt 122 b (fun z2 => ?_) (fun z2 => ?_)
  · exact hC _ _ _ _ (nl (fun y => by have := ltB_iff.mp y; omega))
  · refine rtI (K := K) (congrArg nI ?_) hK
    exact (kd2_l.mpr (ltB_iff.mpr ⟨by omega, by omega⟩)).symm
theorem sR_next (r : RR h t L u) (ea : hI h 17 6 = nI a) (ha : a ≤ L) (hK : ∀ h', N17 [6, 7, 8] h h' → RK h' (tok t L a) → K none h') : Spec G l (mt mR_next) [vR 17] h K := by
  have L9 := r.2.2.2.2.1
  obtain ⟨r1, r2, r3, r4⟩ := run_sp (P := blB) (t := t) (L := L) (L - a) a (by omega)
  rw [tok_eq] at hK
  generalize es : run blB t L a = s at *
  -- the end: a word
  have fin0 : ∀ h1 e T1, N17 [6, 7, 8] h h1 → hI h1 17 7 = nI s → hI h1 17 6 = nI e → tokAt t L s = (T1, s, e) → kk T1 = 0 → Go G l (mt mR_next) 243 [some (vR 17), none] [] h1 0 0 K := by
    intro h1 e T1 f e7 e6 eT ek
    have x1 := r.n f rfl
    refine gR_next 39 [] fun S Cu hS hC => ?_
    refine ld (nI 0) x1.ob rfl ?_
    refine hK _ (f.setI rfl) ?_
    rw [eT]
    refine ⟨?_, ?_, ?_⟩
    · rw [si_eq, ek]
    · rw [si_ne (by decide)]; exact e7
    · rw [si_ne (by decide)]; exact e6
  have finK : ∀ h1 kv e T1, N17 [6, 7, 8] h h1 → hI h1 17 8 = nI kv → hI h1 17 7 = nI s → hI h1 17 6 = nI e → tokAt t L s = (T1, s, e) → kk T1 = kv → K none h1 := by
    intro h1 kv e T1 f e8 e7 e6 eT ek
    refine hK h1 f ?_
    rw [eT]; exact ⟨by rw [e8, ek], e7, e6⟩
  -- the letter behind
  have beh : ∀ h1 e, N17 [6, 7, 8] h h1 → hI h1 17 6 = nI e → e ≤ L → Go G l (mt mR_next) 195 [some (vR 17), some (vI (bI (e < L ∧ ltB (t e) = true)))] [] h1 0 0 K → Go G l (mt mR_next) 162 [some (vR 17), none] [] h1 0 0 K := by
    intro h1 e f e6 eL g
    have x1 := r.n f rfl
    refine gR_next 39 [(195, 2)] fun S Cu hS hC => ?_
    refine ld _ x1.ob e6 ?_
    refine ld _ x1.ob x1.2.2.2.1 ?_
    refine pk_le L e (fun q => ?_) (fun q => ?_)
    · rw [bI_F (fun z => by omega)] at g
      exact hC _ _ _ _ g
    refine ld _ x1.ob x1.r3 ?_
    refine ld _ x1.ob e6 ?_
    refine ld _ (x1.inA rfl q) (x1.by rfl q) ?_
    refine hS _ _ _ _ (sR_kindOf rfl (r.2.2.2.2.2.2 e q) ?_)
    have kl := kd2_le (b := t e)
    refine And.intro (fun z => ?_) (fun z => ?_)
    · rw [bI_F (fun y => z (by rw [kd2_l.mpr y.2]; rfl))] at g
      exact hC _ _ _ _ g
    · rw [bI_T ⟨q, kd2_l.mp ((nI_eq (b := 2) (by omega) (by decide)).mp z)⟩] at g
      exact hC _ _ _ _ g
  have finW : ∀ h1 e, N17 [6, 7, 8] h h1 → hI h1 17 8 = nI 2 → hI h1 17 7 = nI s → hI h1 17 6 = nI e → s ≤ e → e ≤ L → tokAt t L s = (if 8 < e - s then 4 else 1, s, e) → Go G l (mt mR_next) 162 [some (vR 17), none] [] h1 0 0 K := by
    intro h1 e f e8 e7 e6 se eL eT
    have x1 := r.n f rfl
    refine beh h1 e f e6 eL ?_
    refine gR_next 39 [(243, 1)] fun S Cu hS hC => ?_
    refine ld _ x1.ob e8 ?_
    refine And.intro (fun z => absurd rfl z) (fun _ => ?_)
    refine ld _ x1.ob e6 ?_
    refine ld _ x1.ob e7 ?_
    refine pk_lt 8 (e - s) (fun z => ?_) (fun z => ?_) rfl (pk_sub se)
    · rw [if_pos z] at eT
      exact hC _ _ _ _ (fin0 h1 e 4 f e7 e6 eT rfl)
    · rw [if_neg (by omega)] at eT
      refine ld _ x1.ob e8 ?_
      refine And.intro (fun _ => ?_) (fun z => absurd z (by decide))
      exact finK h1 2 e 1 f e8 e7 e6 eT rfl
  have finN : ∀ h1 e, N17 [6, 7, 8] h h1 → hI h1 17 8 = nI 3 → hI h1 17 7 = nI s → hI h1 17 6 = nI e → s ≤ e → e ≤ L → tokAt t L s = (if 20 < e - s ∨ (e < L ∧ ltB (t e) = true) then 4 else 2, s, e) → Go G l (mt mR_next) 162 [some (vR 17), none] [] h1 0 0 K := by
    intro h1 e f e8 e7 e6 se eL eT
    have x1 := r.n f rfl
    refine beh h1 e f e6 eL ?_
    refine gR_next 39 [(243, 1)] fun S Cu hS hC => ?_
    refine ld _ x1.ob e8 ?_
    refine And.intro (fun _ => ?_) (fun z => absurd z (by decide))
    refine ld _ x1.ob e8 ?_
    refine And.intro (fun z => absurd rfl z) (fun _ => ?_)
    refine ld _ x1.ob e6 ?_
    refine ld _ x1.ob e7 ?_
    refine pk_lt 20 (e - s) (fun z => ?_) (fun z => ?_) rfl (pk_sub se)
    · rw [if_pos (Or.inl z)] at eT
      exact hC _ _ _ _ (fin0 h1 e 4 f e7 e6 eT rfl)
    · refine brE (fun z2 => ?_) (fun z2 => ?_)
      · rw [if_neg (fun y => y.elim (fun w => by omega) z2)] at eT
        exact finK h1 3 e 2 f e8 e7 e6 eT rfl
      · rw [if_pos (Or.inr z2)] at eT
        exact hC _ _ _ _ (fin0 h1 e 4 f e7 e6 eT rfl)
  have finS : ∀ h1 kv e, (kv = 0 ∨ kv = 4) → N17 [6, 7, 8] h h1 → hI h1 17 8 = nI kv → hI h1 17 7 = nI s → hI h1 17 6 = nI e → e ≤ L → tokAt t L s = (if kv = 4 then 3 else 4, s, e) → Go G l (mt mR_next) 162 [some (vR 17), none] [] h1 0 0 K := by
    intro h1 kv e hk f e8 e7 e6 eL eT
    have x1 := r.n f rfl
    refine beh h1 e f e6 eL ?_
    refine gR_next 39 [] fun S Cu hS hC => ?_
    refine ld _ x1.ob e8 ?_
    refine And.intro (fun _ => ?_) (fun z => absurd z (by rcases hk with rfl | rfl <;> decide))
    refine ld _ x1.ob e8 ?_
    refine And.intro (fun _ => ?_) (fun z => absurd z (by rcases hk with rfl | rfl <;> decide))
    refine finK h1 kv e _ f e8 e7 e6 eT ?_
    rcases hk with rfl | rfl <;> rfl
  -- letters, digits
  have lpT : ∀ (P : Nat → Bool) kv, (kv = 2 ∨ kv = 3) → (∀ b, kd2 b = kv ↔ P b = true) → (∀ h1, N17 [6, 7, 8] h h1 → hI h1 17 8 = nI kv → hI h1 17 7 = nI s → hI h1 17 6 = nI (run P t L (s + 1)) → Go G l (mt mR_next) 162 [some (vR 17), none] [] h1 0 0 K) → ∀ k, k ≤ L → s + 1 ≤ k → run P t L k = run P t L (s + 1) → ∀ h1, N17 [6, 7, 8] h h1 → hI h1 17 8 = nI kv → hI h1 17 7 = nI s → hI h1 17 6 = nI k → Go G l (mt mR_next) 119 [some (vR 17), none] [] h1 0 0 K := by
    intro P kv hkv hP hend
    refine upto _ ?_
    intro k hk ih sk rk h1 f e8 e7 e6
    have x1 := r.n f rfl
    refine gR_next 39 [(119, 1), (162, 1)] fun S Cu hS hC => ?_
    refine ld _ x1.ob e6 ?_
    refine ld _ x1.ob x1.2.2.2.1 ?_
    refine pk_le L k (fun q => ?_) (fun q => ?_)
    · rw [run_L q] at rk
      exact hC _ _ _ _ (hend h1 f e8 e7 (by rw [← rk]; exact e6))
    refine ld _ x1.ob x1.r3 ?_
    refine ld _ x1.ob e6 ?_
    refine ld _ (x1.inA rfl q) (x1.by rfl q) ?_
    refine hS _ _ _ _ (sR_kindOf rfl (r.2.2.2.2.2.2 k q) ?_)
    refine ld _ x1.ob e8 ?_
    have kl := kd2_le (b := t k)
    refine And.intro (fun z => ?_) (fun z => ?_)
    · have np : ¬ P (t k) = true := fun y => z (by rw [(hP _).mpr y])
      rw [run_F np] at rk
      exact hC _ _ _ _ (hend h1 f e8 e7 (by rw [← rk]; exact e6))
    · have yp : P (t k) = true := (hP _).mp ((nI_eq (by omega) (by omega)).mp z)
      refine ld _ x1.ob e6 ?_
      refine ld (nI (k + 1)) x1.ob (nI_1 k) ?_
      refine hC _ _ _ _ (ih q (by omega) (by rw [← run_T q yp]; exact rk) _ (f.setI rfl) ?_ ?_ si_eq)
      · rw [si_ne (by decide)]; exact e8
      · rw [si_ne (by decide)]; exact e7
  -- the first sign of it
  have mid2 : s < L → ∀ h1, N17 [6, 7, 8] h h1 → hI h1 17 8 = nI (kd2 (t s)) → hI h1 17 7 = nI s → hI h1 17 6 = nI (s + 1) → Go G l (mt mR_next) 103 [some (vR 17), none] [] h1 0 0 K := by
    intro sL h1 f e8 e7 e6
    have x1 := r.n f rfl
    refine gR_next 39 [(119, 1), (162, 1)] fun S Cu hS hC => ?_
    by_cases q : ltB (t s) = true
    · rw [kd2_l.mpr q] at e8
      refine ld _ x1.ob e8 ?_
      refine And.intro (fun _ => ?_) (fun z => absurd rfl z)
      have er := run_T (P := ltB) sL q
      have sp := run_sp (P := ltB) (t := t) (L := L) (L - (s + 1)) (s + 1) (by omega)
      refine hC _ _ _ _ (lpT ltB 2 (Or.inl rfl) (fun b => kd2_l) (fun h2 g2 a8 a7 a6 => finW h2 _ g2 a8 a7 a6 (by omega) sp.2.1 ?_) (s + 1) (by omega) (Nat.le_refl _) rfl h1 f e8 e7 e6)
      unfold tokAt
      rw [if_neg (by omega), if_pos q, er]
    · by_cases q2 : dgB (t s) = true
      · rw [kd2_d.mpr q2] at e8
        refine ld _ x1.ob e8 ?_
        refine And.intro (fun z => absurd z (by decide)) (fun _ => ?_)
        refine ld _ x1.ob e8 ?_
        refine And.intro (fun z => absurd rfl z) (fun _ => ?_)
        have er := run_T (P := dgB) sL q2
        have sp := run_sp (P := dgB) (t := t) (L := L) (L - (s + 1)) (s + 1) (by omega)
        refine hC _ _ _ _ (lpT dgB 3 (Or.inr rfl) (fun b => kd2_d) (fun h2 g2 a8 a7 a6 => finN h2 _ g2 a8 a7 a6 (by omega) sp.2.1 ?_) (s + 1) (by omega) (Nat.le_refl _) rfl h1 f e8 e7 e6)
        unfold tokAt
        rw [if_neg (by omega), if_neg q, if_pos q2, er]
      · have ek : kd2 (t s) = if t s = 59 then 4 else 0 := by unfold kd2; rw [if_neg q, if_neg q2]
        have hk : kd2 (t s) = 0 ∨ kd2 (t s) = 4 := by rw [ek]; split; exact Or.inr rfl; exact Or.inl rfl
        have eT : tokAt t L s = (if kd2 (t s) = 4 then 3 else 4, s, s + 1) := by
          unfold tokAt
          rw [if_neg (by omega), if_neg q, if_neg q2, ek]
          by_cases z : t s = 59
          · rw [if_pos z, if_pos z]; rfl
          · rw [if_neg z, if_neg z]; rfl
        refine ld _ x1.ob e8 ?_
        refine And.intro (fun z => absurd z (by rcases hk with e | e <;> rw [e] <;> decide)) (fun _ => ?_)
        refine ld _ x1.ob e8 ?_
        refine And.intro (fun _ => ?_) (fun z => absurd z (by rcases hk with e | e <;> rw [e] <;> decide))
        exact hC _ _ _ _ (finS h1 _ _ hk f e8 e7 e6 (by omega) eT)
  have mid : ∀ h1, N17 [6, 7, 8] h h1 → hI h1 17 6 = nI s → Go G l (mt mR_next) 52 [some (vR 17), none] [] h1 0 0 K := by
    intro h1 f e6
    have x1 := r.n f rfl
    refine gR_next 39 [(103, 1)] fun S Cu hS hC => ?_
    refine ld _ x1.ob e6 ?_
    refine ld (nI s) x1.ob rfl ?_
    have f2 : N17 [6, 7, 8] h (setI h1 17 7 (nI s)) := f.setI rfl
    have x2 := r.n f2 rfl
    have g6 : hI (setI h1 17 7 (nI s)) 17 6 = nI s := by rw [si_ne (by decide)]; exact e6
    refine ld _ x2.ob g6 ?_
    refine ld _ x2.ob x2.2.2.2.1 ?_
    refine pk_lt s L (fun q => ?_) (fun q => ?_)
    · refine ld _ x2.ob x2.r3 ?_
      refine ld _ x2.ob g6 ?_
      refine ld _ (x2.inA rfl q) (x2.by rfl q) ?_
      refine hS _ _ _ _ (sR_kindOf rfl (r.2.2.2.2.2.2 s q) ?_)
      refine ld _ x2.ob rfl ?_
      refine ld (nI s) x2.ob (by rw [si_ne (by decide)]; exact g6) ?_
      refine ld (nI (s + 1)) x2.ob (nI_1 s) ?_
      refine hC _ _ _ _ (mid2 q _ ((f2.setI rfl).setI rfl) ?_ ?_ si_eq)
      · rw [si_ne (by decide), si_eq]
      · rw [si_ne (by decide), si_ne (by decide), si_eq]
    · refine ld (nI 1) x2.ob rfl ?_
      refine finK _ 1 s 0 (f2.setI rfl) si_eq ?_ ?_ ?_ rfl
      · rw [si_ne (by decide), si_eq]
      · rw [si_ne (by decide)]; exact g6
      · unfold tokAt; rw [if_pos q]
  have lp : ∀ k, k ≤ L → run blB t L k = s → ∀ h1, N17 [6, 7, 8] h h1 → hI h1 17 6 = nI k → Go G l (mt mR_next) 0 [some (vR 17), none] [] h1 0 0 K := by
    refine upto _ ?_
    intro k hk ih rk h1 f e6
    have x1 := r.n f rfl
    have step : k < L → blB (t k) = true → Go G l (mt mR_next) 39 [some (vR 17), none] [] h1 0 0 K := by
      intro q yb
      refine gR_next 39 [(0, 1)] fun S Cu hS hC => ?_
      refine ld _ x1.ob e6 ?_
      refine ld (nI (k + 1)) x1.ob (nI_1 k) ?_
      exact hC _ _ _ _ (ih q (by rw [← run_T q yb]; exact rk) _ (f.setI rfl) si_eq)
    have stop : ¬ blB (t k) = true → Go G l (mt mR_next) 52 [some (vR 17), none] [] h1 0 0 K := by
      intro nb
      rw [run_F nb] at rk
      exact mid h1 f (by rw [← rk]; exact e6)
    refine gR_next 39 [(39, 1), (52, 1)] fun S Cu hS hC => ?_
    refine ld _ x1.ob e6 ?_
    refine ld _ x1.ob x1.2.2.2.1 ?_
    refine pk_le L k (fun q => ?_) (fun q => ?_)
    · rw [run_L q] at rk
      exact hC _ _ _ _ (mid h1 f (by rw [← rk]; exact e6))
    have tl := r.2.2.2.2.2.2 k q
    refine ld _ x1.ob x1.r3 ?_
    refine ld _ x1.ob e6 ?_
    refine ld _ (x1.inA rfl q) (x1.by rfl q) ?_
    refine pk_eq (t k) 32 (fun z => ?_) (fun z => ?_)
    · exact hC _ _ _ _ (step q (blB_iff.mpr (Or.inl z)))
    refine ld _ x1.ob x1.r3 ?_
    refine ld _ x1.ob e6 ?_
    refine ld _ (x1.inA rfl q) (x1.by rfl q) ?_
    refine And.intro (fun z2 => ?_) (fun z2 => ?_)
    · exact hC _ _ _ _ (stop (fun y => (blB_iff.mp y).elim z (fun w => z2 (by rw [w]; rfl))))
    · exact hC _ _ _ _ (step q (blB_iff.mpr (Or.inr ((nI_eq (b := 10) (by omega) (by decide)).mp z2))))
  exact Spec.go0 rfl (by decide +kernel) (L := 2) rfl rfl rfl (lp a ha es h N17.rf ea)
end CC
