/-! ===== the class: the price that others would ask ===== -/
def rsO (ρ : Pic) (c : Nat) (o : Option Nat) : Nat := match o with
  | none => if pcW ρ c = 0 then 0 else 2147483647
  | some e => cst ρ c e
def leaO (ρ : Pic) (c d k L : Nat) : Prop := (∀ e, e < k → ¬ e = d → L ≤ cst ρ c e) ∧ ((L = 2147483647 ∧ ∀ e, e < k → e = d) ∨ ∃ e, e < k ∧ ¬ e = d ∧ L = cst ρ c e)
section CC
variable {G : GP} {l : Launch} {K : Option AV → AH → Prop} {h : AH} {ρ : Pic}
variable {s : Nat}
theorem sQ_priceOfOthers {a b e : Int32} {d i j : Nat} (x : SC h s ρ) (ha : a = nI d) (hb : b = nI i) (he : e = nI j) (hd : d < pcn ρ) (hi : i < pcw ρ) (hj : j < pch ρ) (hK : K (some (vI (nI (rsO ρ (pcw ρ * j + i) (owB ρ d (pcw ρ * j + i)))))) h) : Spec G l (mt mQ_priceOfOthers) [vI a, vI b, vI e, vR s] h K := by
  subst ha; subst hb; subst he
  have g := x.2.2.2.n
  have gc := x.2.2.2.c
  obtain ⟨c1, c2, c3⟩ := cel_lt (ρ := ρ) hi hj
  have w9 := x.2.2.2.2.1 (pcw ρ * j + i) (by omega)
  have lp : ∀ k, k ≤ pcn ρ → ∀ L, leaO ρ (pcw ρ * j + i) d k L → ¬ pcW ρ (pcw ρ * j + i) = 0 → ∀ le u z7, le = nI L → u = nI k → Go G l (mt mQ_priceOfOthers) 22 [some (vI (nI d)), some (vI (nI i)), some (vI (nI j)), some (vR s), some (vI (nI (pcW ρ (pcw ρ * j + i)))), some (vI le), some (vI u), z7] [] h 0 0 K := by
    refine upto _ ?_
    intro k hk ih L lo wn le u z7 hle hu
    subst hu
    refine gQ_priceOfOthers 99 [(22, 7)] fun S Cu hS hC => ?_
    refine ld _ x.ob x.2.2.1.1.2.2.1 ?_
    refine pk_le (pcn ρ) k (fun q => ?_) (fun q => ?_)
    · obtain rfl : k = pcn ρ := by omega
      subst hle
      refine rtI (K := K) (congrArg nI ?_) hK
      cases eo : owB ρ d (pcw ρ * j + i) with
      | none =>
        show L = if _ then 0 else _
        rw [if_neg wn]
        rcases lo.2 with z | ⟨e, h1, h2, h3⟩
        · exact z.1
        · obtain ⟨b, hb⟩ := ow_some (ρ := ρ) (S := fun e => ¬ e = d) (c := pcw ρ * j + i) h1 h2
          unfold owB at eo; rw [eo] at hb; cases hb
      | some b =>
        show L = cst ρ _ b
        have hb := ow_lt eo
        have l1 := lo.1 b hb.1 hb.2
        rcases lo.2 with z | ⟨e, h1, h2, h3⟩
        · exact absurd (z.2 b hb.1) hb.2
        · have := ow_cst x.2.2.2 (S := fun e => ¬ e = d) (c := pcw ρ * j + i) h1 h2
          unfold owB at eo
          rw [eo] at this
          have : cst ρ (pcw ρ * j + i) b ≤ cst ρ (pcw ρ * j + i) e := this
          omega
    · refine pk_eq k d (fun q1 => ?_) (fun q1 => ?_)
      · refine hC _ _ _ _ (ih q L ⟨fun e h1 h2 => lo.1 e (by omega) h2, ?_⟩ wn _ _ _ hle (nI_1 k))
        rcases lo.2 with z | ⟨e, h1, h2, h3⟩
        · refine Or.inl ⟨z.1, fun e he => ?_⟩
          by_cases ek : e = k
          · omega
          · exact z.2 e (by omega)
        · exact Or.inr ⟨e, by omega, h2, h3⟩
      · have gl := gap_le x.2.2.2 c1 q
        have sp := spn_pos x.2.2.2 q
        have cl := cst_le x.2.2.2 c1 q
        refine And.intro (x.ob) (hS _ _ _ _ (sS_gap x rfl rfl rfl q hi hj ?_))
        refine And.intro (x.ob) (hS _ _ _ _ (sS_span x rfl q ?_))
        refine hS _ _ _ _ (sC_price (w := pcW ρ (pcw ρ * j + i)) (g := gap ρ (pcw ρ * j + i) k) (q := spn ρ k) rfl rfl rfl w9 (by omega) (by omega) (by omega) ?_)
        have Ll : L < 2 ^ 31 := by
          rcases lo.2 with z | ⟨e, h1, h2, h3⟩
          · omega
          · have := cst_le x.2.2.2 c1 (show e < pcn ρ by omega); omega
        have ec : 1000 * pcW ρ (pcw ρ * j + i) * gap ρ (pcw ρ * j + i) k / spn ρ k = cst ρ (pcw ρ * j + i) k := rfl
        rw [ec] at *
        refine hC _ _ _ _ (ih q (if cst ρ (pcw ρ * j + i) k < L then cst ρ (pcw ρ * j + i) k else L) ?_ wn _ _ _ ?_ (nI_1 k))
        · by_cases z : cst ρ (pcw ρ * j + i) k < L
          · rw [if_pos z]
            refine ⟨fun e h1 h2 => ?_, Or.inr ⟨k, by omega, q1, rfl⟩⟩
            by_cases ek : e = k
            · subst ek; exact Nat.le_refl _
            · have := lo.1 e (by omega) h2; omega
          · rw [if_neg z]
            refine ⟨fun e h1 h2 => ?_, ?_⟩
            · by_cases ek : e = k
              · subst ek; omega
              · exact lo.1 e (by omega) h2
            · rcases lo.2 with y | ⟨e, h1, h2, h3⟩
              · exact absurd (show cst ρ (pcw ρ * j + i) k < L by omega) z
              · exact Or.inr ⟨e, by omega, h2, h3⟩
        · rw [hle]
          by_cases z : cst ρ (pcw ρ * j + i) k < L
          · rw [if_pos ((nI_ltI (by omega) Ll).mpr z), if_pos z]
          · rw [if_neg (fun y => z ((nI_ltI (by omega) Ll).mp y)), if_neg z]
  refine eQ_priceOfOthers 39 [(22, 7)] fun S Cu hS hC => ?_
  refine And.intro (x.ob) (hS _ _ _ _ (sS_weightAt x rfl rfl c1 ?_))
  refine And.intro (fun q => ?_) (fun q => ?_)
  · have wn : ¬ pcW ρ (pcw ρ * j + i) = 0 := fun z => q (by rw [z]; rfl)
    exact hC _ _ _ _ (lp 0 (Nat.zero_le _) 2147483647 ⟨fun e h1 _ => absurd h1 (Nat.not_lt_zero e), Or.inl ⟨rfl, fun e h1 => absurd h1 (Nat.not_lt_zero e)⟩⟩ wn _ _ _ rfl rfl)
  · have w0 : pcW ρ (pcw ρ * j + i) = 0 := (nI_eq (b := 0) (by omega) (by decide)).mp q
    refine rtI (K := K) ?_ hK
    cases owB ρ d (pcw ρ * j + i) with
    | none => show (0 : Int32) = nI (if _ then 0 else _); rw [if_pos w0]; rfl
    | some b => show (0 : Int32) = nI (cst ρ _ b); unfold cst; rw [w0, Nat.mul_zero, Nat.zero_mul, Nat.zero_div]; rfl
end CC
