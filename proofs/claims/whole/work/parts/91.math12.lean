/-! ===== what the seed leaves as it is ===== -/
section Sd
variable {ρ π : Pic} {s c d : Nat}
theorem w_sd : pcw (pu ρ 2 s) = pcw ρ := pu_ne (by decide)
theorem h_sd : pch (pu ρ 2 s) = pch ρ := pu_ne (by decide)
theorem n_sd : pcn (pu ρ 2 s) = pcn ρ := pu_ne (by decide)
theorem c_sd : pcc (pu ρ 2 s) = pcc ρ := by unfold pcc; rw [w_sd, h_sd]
theorem W_sd : pcW (pu ρ 2 s) c = pcW ρ c := pu_ne (by omega)
theorem X_sd : pcX (pu ρ 2 s) d = pcX ρ d := pu_ne (by omega)
theorem Y_sd : pcY (pu ρ 2 s) d = pcY ρ d := pu_ne (by omega)
theorem D_sd : pcD (pu ρ 2 s) d = pcD ρ d := pu_ne (by omega)
theorem gap_sd : gap (pu ρ 2 s) c d = gap ρ c d := (gap_congr w_sd X_sd Y_sd D_sd).1
theorem spn_sd : spn (pu ρ 2 s) d = spn ρ d := (gap_congr (c := 0) w_sd X_sd Y_sd D_sd).2
theorem ow_sd {S : Nat → Prop} {n : Nat} : ow (pu ρ 2 s) S c n = ow ρ S c n := ow_pos fun _ _ _ => ⟨gap_sd, spn_sd⟩
theorem own_sd : own (pu ρ 2 s) c = own ρ c := by unfold own; rw [n_sd, ow_sd]
theorem load_sd : load (pu ρ 2 s) d = load ρ d := by unfold load; rw [c_sd]; exact sumN_congr fun c _ => by rw [own_sd, W_sd]
theorem smX_sd : smX (pu ρ 2 s) d = smX ρ d := by unfold smX; rw [c_sd]; exact sumN_congr fun c _ => by rw [own_sd, W_sd, w_sd]
theorem smY_sd : smY (pu ρ 2 s) d = smY ρ d := by unfold smY; rw [c_sd]; exact sumN_congr fun c _ => by rw [own_sd, W_sd, w_sd]
theorem cst_sd : cst (pu ρ 2 s) c d = cst ρ c d := by unfold cst; rw [W_sd, gap_sd, spn_sd]
theorem cstO_sd {o : Option Nat} : cstO (pu ρ 2 s) c o = cstO ρ c o := by
  cases o with
  | none => rfl
  | some b => exact cst_sd
theorem tot_sd : tot (pu ρ 2 s) = tot ρ := by unfold tot; rw [c_sd]; exact sumN_congr fun c _ => by rw [own_sd, cstO_sd]
theorem setD_sd {x y q : Nat} : setD (pu ρ 2 s) d x y q = pu (setD ρ d x y q) 2 s := by
  funext j
  unfold setD pu
  by_cases hj : j = 2
  · subst hj
    rw [if_neg (by omega), if_neg (by omega), if_neg (by omega), if_pos rfl, if_pos rfl]
  · rw [if_neg hj, if_neg hj]
theorem lay_sd {x y q : Nat} : lay (pu ρ 2 s) d x y q = pu (lay ρ d x y q) 2 s := setD_sd
theorem mids_sd : ∀ k : Nat, mids (pu ρ 2 s) k = pu (mids ρ k) 2 s
  | 0 => rfl
  | k + 1 => by
    have ih := mids_sd k
    simp only [mids]
    rw [load_sd, smX_sd, smY_sd, ih]
    by_cases z : load ρ k = 0
    · rw [if_pos z, if_pos z]
    · rw [if_neg z, if_neg z, lay_sd]
theorem emO_sd {k : Nat} : emO (pu ρ 2 s) (pu π 2 s) k = emO ρ π k := by
  funext c
  unfold emO
  rw [n_sd, ow_sd]
  exact ow_congr fun e _ => by rw [load_sd]
theorem wst_sd {O : Nat → Option Nat} : ∀ n : Nat, wst (pu ρ 2 s) O n = wst ρ O n
  | 0 => rfl
  | n + 1 => by
    have ih := wst_sd (O := O) n
    simp only [wst, ih, W_sd, gap_sd, spn_sd]
theorem ems_sd : ∀ k : Nat, ems (pu ρ 2 s) k = pu (ems ρ k) 2 s
  | 0 => by simp only [ems]; rw [n_sd, mids_sd]
  | k + 1 => by
    have ih := ems_sd k
    simp only [ems]
    rw [load_sd, ih, emO_sd, wst_sd, c_sd, w_sd]
    by_cases z : load ρ k = 0
    · rw [if_pos z, if_pos z]
      cases (wst (ems ρ k) (emO ρ (ems ρ k) k) (pcc ρ)).1 with
      | none => rfl
      | some c => exact setD_sd
    · rw [if_neg z, if_neg z]
theorem rnd_sd : rnd (pu ρ 2 s) = pu (rnd ρ) 2 s := by unfold rnd; rw [n_sd, ems_sd]
theorem same_sd : same (pu ρ 2 s) (pu π 2 s) d ↔ same ρ π d := by unfold same; rw [X_sd, Y_sd, D_sd, X_sd, Y_sd, D_sd]
theorem mvd_sd : mvd (pu ρ 2 s) = mvd ρ := by
  unfold mvd
  rw [n_sd]
  exact sumN_congr fun d _ => wN_eq (not_congr (by rw [rnd_sd]; exact same_sd))
theorem rndN_sd : ∀ k : Nat, rndN (pu ρ 2 s) k = pu (rndN ρ k) 2 s
  | 0 => rfl
  | k + 1 => by
    simp only [rndN]
    rw [rndN_sd k, rnd_sd]
theorem pu_pu2 {t : Nat} : pu (pu ρ 2 t) 2 s = pu ρ 2 s := by
  funext j; unfold pu; by_cases z : j = 2
  · rw [if_pos z, if_pos z]
  · rw [if_neg z, if_neg z, if_neg z]
theorem pu_same : pu ρ 2 (pcs ρ) = ρ := by
  funext j; unfold pu; by_cases z : j = 2
  · rw [if_pos z, z]; rfl
  · rw [if_neg z]
theorem FDR_sd {h : AH} {f : Nat} (x : FDR h f ρ) : FDR h f (pu ρ 2 s) := by
  refine ⟨fun c hc => ?_, ?_⟩
  · rw [c_sd] at hc
    have := x.1 c hc
    rw [own_sd]
    cases e : own ρ c with
    | none => rw [e] at this; exact this
    | some b =>
      rw [e] at this
      refine ⟨this.1, ?_, ?_⟩
      · show _ = lN (gap _ c b); rw [gap_sd]; exact this.2.1
      · show _ = lN (spn _ b); rw [spn_sd]; exact this.2.2
  · have := x.2
    unfold AU at this ⊢
    simp only [c_sd, own_sd, W_sd, w_sd, cst_sd, cstO_sd]
    exact this
end Sd
theorem sqd_comm (a b : Nat) : sqd a b = sqd b a := by unfold sqd; rw [Nat.add_comm]
theorem apt_comm (x y d x2 y2 d2 : Nat) : apt x y d x2 y2 d2 = apt x2 y2 d2 x y d := by
  unfold apt
  rw [sqd_comm (x * d2), sqd_comm (y * d2), show d * d2 * d * d2 = d2 * d * d2 * d by rw [Nat.mul_comm d d2, Nat.mul_assoc, Nat.mul_comm d d2, ← Nat.mul_assoc]]
