/-! ===== both sides of a call give one answer, and stay alike ===== -/
theorem crf_136 {k j : Nat} (hk : 136 ≤ k) : crf k j = 0 := by
  have h1 : ¬ SL.contains k = true := fun z => by
    have := List.all_eq_true.mp (show SL.all (fun s => Nat.blt s 136) = true by decide +kernel) k (by simpa using z)
    have : k < 136 := Nat.le_of_ble_eq_true this
    omega
  unfold crf
  rw [if_neg h1, if_neg (by omega)]
  split <;> first | rfl | omega
theorem CR.fm {h h' : AH} {tp : Nat → Nat} {tn : Nat} {ft fp : Int32} {ρ : Pic} {pa : Nat → Pic} {an un : Nat} {sm sc : Nat → Int32} {sn : Nat} {bx : Nat → Pic} {bk : Nat → Prop} (f : FM h h') (r : CR h tp tn ft fp ρ pa an un sm sc sn bx bk) : CR h' tp tn ft fp ρ pa an un sm sc sn bx bk := by
  obtain ⟨sl, r⟩ := r
  have fx : FX 999 [136] h ((h'.1, h'.2.1, h'.2.2.1, h'.2.2.2.1, h.2.2.2.2) : AH) := ⟨f.1, f.2.1, rfl, fun k h1 h2 => by
    have hk : k < 136 := Classical.byContradiction fun z => by
      rw [grp_hi (by omega)] at h2
      cases h2
    exact ⟨(f.2.2 k hk).1, (f.2.2 k hk).2.1⟩⟩
  have r2 : CRs ((h'.1, h'.2.1, h'.2.2.1, h'.2.2.2.1, h.2.2.2.2) : AH) sl tp tn ft fp ρ pa an un sm sc sn bx bk := by
    refine ⟨r.1.fx fx rfl, ?_, r.2.2.fx fx ⟨by decide, by decide, by decide, by decide⟩ rfl⟩
    unfold CV
    rw [fx.i (k := 1) (by decide) rfl]
    exact r.2.1.imp id (fun ⟨a, d⟩ => ⟨a, d.fx (Or.inl rfl) fx (by decide) rfl⟩)
  obtain ⟨⟨⟨⟨s1, s2, s3, s4, s5⟩, ⟨c1, c2, c3⟩, c4, c5, c6⟩, t1, t2, t3, t4⟩, t5, t6⟩ := r2
  have e : ∀ k, k < 136 → hR h' k = hR h k := fun k hk => (f.2.2 k hk).2.2
  refine ⟨sl, ⟨⟨⟨s1, s2, ?_, ?_, fun i hi => ?_⟩, ⟨c1, c2, fun k j hk => ?_⟩, c4, c5, c6⟩, t1, t2, t3, t4⟩, t5, t6⟩
  · rw [e 1 (by decide)]; exact s3
  · rw [e 17 (by decide)]; exact s4
  · rw [e 25 (by decide)]; exact s5 i hi
  · have : k < 136 := Classical.byContradiction fun z => hk (crf_136 (by omega))
    rw [e k this]; exact c3 k j hk
/-- the two objects hold the same -/
def LI (h : AH) : Prop := ∃ (tp : Nat → Nat) (tn : Nat) (ft fp : Int32) (ρ : Pic) (pa : Nat → Pic) (an un : Nat) (sm sc : Nat → Int32) (sn : Nat) (bx : Nat → Pic) (bk : Nat → Prop), MR h tp tn ft fp ρ pa an un sm sc sn bx bk ∧ CR h tp tn ft fp ρ pa an un sm sc sn bx bk ∧ ∀ i, i < tn → tp i < 256
theorem LI.of {h : AH} {tp : Nat → Nat} {tn : Nat} {ft fp : Int32} {ρ : Pic} {pa : Nat → Pic} {an un : Nat} {sm sc : Nat → Int32} {sn : Nat} {bx : Nat → Pic} {bk : Nat → Prop} (r : MR h tp tn ft fp ρ pa an un sm sc sn bx bk) (c : CR h tp tn ft fp ρ pa an un sm sc sn bx bk) (hb : ∀ i, i < tn → tp i < 256) : LI h := ⟨tp, tn, ft, fp, ρ, pa, an, un, sm, sc, sn, bx, bk, r, c, hb⟩
theorem LI.ob {h : AH} (i : LI h) : Ob h 1 9 := by
  obtain ⟨tp, tn, ft, fp, ρ, pa, an, un, sm, sc, sn, bx, bk, r, ⟨sl, c⟩, hb⟩ := i
  exact c.ob
/-- a call of the class, then one of the model -/
def J2 (G : GP) (l : Launch) (c m : Nat) (as : List AV) (h : AH) : Prop := Spec G l (mt c) (vR 1 :: as) h (fun r h1 => ∃ v, r = some (vI v) ∧ Ob h1 136 10 ∧ Spec G l (mt m) (vR 136 :: as) h1 (fun r' h2 => r' = some (vI v) ∧ LI h2))
theorem feed5_b {tp : Nat → Nat} {n : Nat} {a b c d e : Int32} (h : ∀ i, i < n → tp i < 256) : ∀ i, i < n + 20 → feed5 tp n a b c d e i < 256 := four_b (four_b (four_b (four_b (four_b h))))
theorem nI_e {a b : Nat} (ha : a < 2 ^ 31) (hb : b < 2 ^ 31) (e : nI a = nI b) : a = b := by rw [← ix_nI ha, ← ix_nI hb, e]
section Pairs
variable {G : GP} {l : Launch} {h : AH}
theorem pr_fault {x1 : Int32} (i : LI h) : J2 G l mC_fault mM_fault [vI x1] h := by
  obtain ⟨tp, tn, ft, fp, ρ, pa, an, un, sm, sc, sn, bx, bk, r, c, hb⟩ := i
  refine sC_fault c ⟨_, rfl, r.1.1.ob, ?_⟩
  exact sM_fault r.1.1 r.2.1 ⟨rfl, LI.of r c hb⟩
theorem pr_dot {x1 x2 : Int32} (i : LI h) : J2 G l mC_dot mM_dot [vI x1, vI x2] h := by
  obtain ⟨tp, tn, ft, fp, ρ, pa, an, un, sm, sc, sn, bx, bk, r, c, hb⟩ := i
  refine sC_dot c (fun h1 f1 c1 => ?_)
  have r1 := f1.mr r
  refine ⟨_, rfl, r1.1.1.ob, ?_⟩
  exact sM_dot r1.1 (fun h2 g => ⟨rfl, LI.of (r1.scr g rfl) (c1.fm (g.m rfl)) hb⟩)
theorem pr_cell {x1 x2 x3 : Int32} (i : LI h) : J2 G l mC_cell mM_cell [vI x1, vI x2, vI x3] h := by
  obtain ⟨tp, tn, ft, fp, ρ, pa, an, un, sm, sc, sn, bx, bk, r, c, hb⟩ := i
  refine sC_cell c (fun h1 f1 c1 => ?_)
  have r1 := f1.mr r
  refine ⟨_, rfl, r1.1.1.ob, ?_⟩
  exact sM_cell r1.1 ⟨rfl, LI.of r1 c1 hb⟩
theorem pr_near {x1 x2 x3 : Int32} (i : LI h) : J2 G l mC_near mM_near [vI x1, vI x2, vI x3] h := by
  obtain ⟨tp, tn, ft, fp, ρ, pa, an, un, sm, sc, sn, bx, bk, r, c, hb⟩ := i
  refine sC_near c ⟨_, rfl, r.1.1.ob, ?_⟩
  exact sM_near r.1 ⟨rfl, LI.of r c hb⟩
theorem pr_far {x1 x2 x3 x4 : Int32} (i : LI h) : J2 G l mC_far mM_far [vI x1, vI x2, vI x3, vI x4] h := by
  obtain ⟨tp, tn, ft, fp, ρ, pa, an, un, sm, sc, sn, bx, bk, r, c, hb⟩ := i
  refine sC_far c ⟨_, rfl, r.1.1.ob, ?_⟩
  exact sM_far r.1 ⟨rfl, LI.of r c hb⟩
theorem pr_around {x1 x2 x3 : Int32} (i : LI h) : J2 G l mC_around mM_around [vI x1, vI x2, vI x3] h := by
  obtain ⟨tp, tn, ft, fp, ρ, pa, an, un, sm, sc, sn, bx, bk, r, c, hb⟩ := i
  refine sC_around c ⟨_, rfl, r.1.1.ob, ?_⟩
  exact sM_around r.1 ⟨rfl, LI.of r c hb⟩
theorem pr_ring {x1 x2 : Int32} (i : LI h) : J2 G l mC_ring mM_ring [vI x1, vI x2] h := by
  obtain ⟨tp, tn, ft, fp, ρ, pa, an, un, sm, sc, sn, bx, bk, r, c, hb⟩ := i
  refine sC_ring c (fun h1 f1 c1 => ?_)
  have r1 := f1.mr r
  refine ⟨_, rfl, r1.1.1.ob, ?_⟩
  exact sM_ring r1.1 ⟨rfl, LI.of r1 c1 hb⟩
theorem pr_closest {x1 : Int32} (i : LI h) : J2 G l mC_closest mM_closest [vI x1] h := by
  obtain ⟨tp, tn, ft, fp, ρ, pa, an, un, sm, sc, sn, bx, bk, r, c, hb⟩ := i
  refine sC_closest c ⟨_, rfl, r.1.1.ob, ?_⟩
  exact sM_closest r.1 ⟨rfl, LI.of r c hb⟩
theorem pr_loads {x1 : Int32} (i : LI h) : J2 G l mC_loads mM_loads [vI x1] h := by
  obtain ⟨tp, tn, ft, fp, ρ, pa, an, un, sm, sc, sn, bx, bk, r, c, hb⟩ := i
  refine sC_loads c (fun h1 f1 c1 => ?_)
  have r1 := f1.mr r
  refine ⟨_, rfl, r1.1.1.ob, ?_⟩
  exact sM_loads r1.1 (fun h2 g => ⟨rfl, LI.of (r1.scr g rfl) (c1.fm (g.m rfl)) hb⟩)
theorem pr_ties {x1 x2 : Int32} (i : LI h) : J2 G l mC_ties mM_ties [vI x1, vI x2] h := by
  obtain ⟨tp, tn, ft, fp, ρ, pa, an, un, sm, sc, sn, bx, bk, r, c, hb⟩ := i
  refine sC_ties c (fun h1 f1 c1 => ?_)
  have r1 := f1.mr r
  refine ⟨_, rfl, r1.1.1.ob, ?_⟩
  exact sM_ties r1.1 ⟨rfl, LI.of r1 c1 hb⟩
theorem pr_due {x1 : Int32} (i : LI h) : J2 G l mC_due mM_due [vI x1] h := by
  obtain ⟨tp, tn, ft, fp, ρ, pa, an, un, sm, sc, sn, bx, bk, r, c, hb⟩ := i
  refine sC_due c (fun h1 f1 c1 => ?_)
  have r1 := f1.mr r
  refine ⟨_, rfl, r1.1.1.ob, ?_⟩
  exact sM_due r1.1 (fun h2 g => ⟨rfl, LI.of (r1.scr g rfl) (c1.fm (g.m rfl)) hb⟩)
theorem pr_best {x1 x2 : Int32} (i : LI h) : J2 G l mC_best mM_best [vI x1, vI x2] h := by
  obtain ⟨tp, tn, ft, fp, ρ, pa, an, un, sm, sc, sn, bx, bk, r, c, hb⟩ := i
  refine sC_best c (fun h1 f1 c1 => ?_)
  have r1 := f1.mr r
  refine ⟨_, rfl, r1.1.1.ob, ?_⟩
  exact sM_best r1.1 (fun h2 g => ⟨rfl, LI.of (r1.scr g rfl) (c1.fm (g.m rfl)) hb⟩)
theorem pr_edge {x1 x2 : Int32} (i : LI h) : J2 G l mC_edge mM_edge [vI x1, vI x2] h := by
  obtain ⟨tp, tn, ft, fp, ρ, pa, an, un, sm, sc, sn, bx, bk, r, c, hb⟩ := i
  refine sC_edge c (fun h1 f1 c1 => ?_)
  have r1 := f1.mr r
  refine ⟨_, rfl, r1.1.1.ob, ?_⟩
  exact sM_edge r1.1 (fun h2 g => ⟨rfl, LI.of (r1.scr g rfl) (c1.fm (g.m rfl)) hb⟩)
theorem pr_touch {x1 x2 : Int32} (i : LI h) : J2 G l mC_touch mM_touch [vI x1, vI x2] h := by
  obtain ⟨tp, tn, ft, fp, ρ, pa, an, un, sm, sc, sn, bx, bk, r, c, hb⟩ := i
  refine sC_touch c (fun h1 f1 c1 => ?_)
  have r1 := f1.mr r
  refine ⟨_, rfl, r1.1.1.ob, ?_⟩
  exact sM_touch r1.1 (fun h2 g => ⟨rfl, LI.of (r1.scr g rfl) (c1.fm (g.m rfl)) hb⟩)
theorem pr_way {x1 x2 : Int32} (i : LI h) : J2 G l mC_way mM_way [vI x1, vI x2] h := by
  obtain ⟨tp, tn, ft, fp, ρ, pa, an, un, sm, sc, sn, bx, bk, r, c, hb⟩ := i
  refine sC_way c (fun h1 f1 c1 => ?_)
  have r1 := f1.mr r
  refine ⟨_, rfl, r1.1.1.ob, ?_⟩
  exact sM_way r1.1 (fun h2 g => ⟨rfl, LI.of (r1.scr g rfl) (c1.fm (g.m rfl)) hb⟩)
theorem pr_shade {x1 x2 : Int32} (i : LI h) : J2 G l mC_shade mM_shade [vI x1, vI x2] h := by
  obtain ⟨tp, tn, ft, fp, ρ, pa, an, un, sm, sc, sn, bx, bk, r, c, hb⟩ := i
  refine sC_shade c (fun h1 f1 c1 => ?_)
  have r1 := f1.mr r
  refine ⟨_, rfl, r1.1.1.ob, ?_⟩
  exact sM_shade r1.1 (fun h2 g => ⟨rfl, LI.of (r1.scr g rfl) (c1.fm (g.m rfl)) hb⟩)
theorem pr_step {x1 : Int32} (i : LI h) : J2 G l mC_step mM_step [vI x1] h := by
  obtain ⟨tp, tn, ft, fp, ρ, pa, an, un, sm, sc, sn, bx, bk, r, c, hb⟩ := i
  refine sC_step c (fun h1 f1 c1 => ?_)
  have r1 := f1.mr r
  refine ⟨_, rfl, r1.1.1.ob, ?_⟩
  exact sM_step r1 (fun h2 g r2 => ⟨rfl, LI.of r2 (c1.fm g) hb⟩)
theorem pr_moves (i : LI h) : J2 G l mC_moves mM_moves [] h := by
  obtain ⟨tp, tn, ft, fp, ρ, pa, an, un, sm, sc, sn, bx, bk, r, c, hb⟩ := i
  refine sC_moves c (fun h1 f1 c1 => ?_)
  have r1 := f1.mr r
  refine ⟨_, rfl, r1.1.1.ob, ?_⟩
  exact sM_moves r1 (fun h2 g r2 => ⟨rfl, LI.of r2 (c1.fm g) hb⟩)
theorem pr_till {x1 : Int32} (i : LI h) : J2 G l mC_till mM_till [vI x1] h := by
  obtain ⟨tp, tn, ft, fp, ρ, pa, an, un, sm, sc, sn, bx, bk, r, c, hb⟩ := i
  refine sC_till c (fun h1 f1 c1 => ?_)
  have r1 := f1.mr r
  refine ⟨_, rfl, r1.1.1.ob, ?_⟩
  exact sM_till r1 (fun h2 g r2 => ⟨rfl, LI.of r2 (c1.fm g) hb⟩)
theorem pr_steps {x1 x2 : Int32} (i : LI h) : J2 G l mC_steps mM_steps [vI x1, vI x2] h := by
  obtain ⟨tp, tn, ft, fp, ρ, pa, an, un, sm, sc, sn, bx, bk, r, c, hb⟩ := i
  refine sC_steps c ⟨_, rfl, r.1.1.ob, ?_⟩
  exact sM_steps r.1.1 r.2.2.2.1 ⟨rfl, LI.of r c hb⟩
theorem pr_loss {x1 : Int32} (i : LI h) : J2 G l mC_loss mM_loss [vI x1] h := by
  obtain ⟨tp, tn, ft, fp, ρ, pa, an, un, sm, sc, sn, bx, bk, r, c, hb⟩ := i
  refine sC_loss c (fun h1 f1 c1 => ?_)
  have r1 := f1.mr r
  refine ⟨_, rfl, r1.1.1.ob, ?_⟩
  exact sM_loss r1.1 ⟨rfl, LI.of r1 c1 hb⟩
theorem pr_idle (i : LI h) : J2 G l mC_idle mM_idle [] h := by
  obtain ⟨tp, tn, ft, fp, ρ, pa, an, un, sm, sc, sn, bx, bk, r, c, hb⟩ := i
  refine sC_idle c (fun h1 f1 c1 => ?_)
  have r1 := f1.mr r
  refine ⟨_, rfl, r1.1.1.ob, ?_⟩
  exact sM_idle r1.1 ⟨rfl, LI.of r1 c1 hb⟩
theorem pr_more {x1 : Int32} (i : LI h) : J2 G l mC_more mM_more [vI x1] h := by
  obtain ⟨tp, tn, ft, fp, ρ, pa, an, un, sm, sc, sn, bx, bk, r, c, hb⟩ := i
  refine sC_more c (fun h1 f1 c1 => ?_)
  have r1 := f1.mr r
  refine ⟨_, rfl, r1.1.1.ob, ?_⟩
  exact sM_more r1.1 (fun h2 g => ⟨rfl, LI.of (r1.scr g rfl) (c1.fm (g.m rfl)) hb⟩)
theorem pr_tone {x1 x2 x3 x4 x5 : Int32} (i : LI h) : J2 G l mC_tone mM_tone [vI x1, vI x2, vI x3, vI x4, vI x5] h := by
  obtain ⟨tp, tn, ft, fp, ρ, pa, an, un, sm, sc, sn, bx, bk, r, c, hb⟩ := i
  refine sC_tone c ⟨_, rfl, r.1.1.ob, ?_⟩
  exact sM_tone r.1 (fun h2 g => ⟨rfl, LI.of (r.scr g rfl) (c.fm (g.m rfl)) hb⟩)
theorem pr_uneven {x1 x2 : Int32} (i : LI h) : J2 G l mC_uneven mM_uneven [vI x1, vI x2] h := by
  obtain ⟨tp, tn, ft, fp, ρ, pa, an, un, sm, sc, sn, bx, bk, r, c, hb⟩ := i
  refine sC_uneven c ⟨_, rfl, r.1.1.ob, ?_⟩
  exact sM_uneven r.1 (fun h2 g => ⟨rfl, LI.of (r.scr g rfl) (c.fm (g.m rfl)) hb⟩)
theorem pr_against {x1 x2 : Int32} (i : LI h) : J2 G l mC_against mM_against [vI x1, vI x2] h := by
  obtain ⟨tp, tn, ft, fp, ρ, pa, an, un, sm, sc, sn, bx, bk, r, c, hb⟩ := i
  refine sC_against c (fun h1 f1 c1 => ?_)
  have r1 := f1.mr r
  refine ⟨_, rfl, r1.1.1.ob, ?_⟩
  exact sM_against r1 (fun h2 g r2 => ⟨rfl, LI.of r2 (c1.fm g) hb⟩)
theorem pr_about {x1 : Int32} (i : LI h) : J2 G l mC_about mM_about [vI x1] h := by
  obtain ⟨tp, tn, ft, fp, ρ, pa, an, un, sm, sc, sn, bx, bk, r, c, hb⟩ := i
  refine sC_about c (fun h1 f1 c1 => ?_)
  have r1 := f1.mr r
  refine ⟨_, rfl, r1.1.1.ob, ?_⟩
  exact sM_about r1 (fun h2 g r2 => ⟨rfl, LI.of r2 (c1.fm g) hb⟩)
theorem pr_feed {x1 x2 x3 x4 x5 : Int32} (i : LI h) : J2 G l mC_feed mM_feed [vI x1, vI x2, vI x3, vI x4, vI x5] h := by
  obtain ⟨tp, tn, ft, fp, ρ, pa, an, un, sm, sc, sn, bx, bk, r, c, hb⟩ := i
  refine sC_feed c (fun q => ⟨_, rfl, r.1.1.ob, sM_feed r (fun _ => ⟨rfl, LI.of r c hb⟩) (fun z => absurd z q)⟩) (fun q h1 f1 c1 => ?_)
  have r1 := f1.mr r
  exact ⟨_, rfl, r1.1.1.ob, sM_feed r1 (fun z => absurd q z) (fun _ h2 g r2 => ⟨rfl, LI.of r2 (c1.fm g) (feed5_b hb)⟩)⟩
theorem pr_end {x1 : Int32} (i : LI h) : J2 G l mC_end mM_end [vI x1] h := by
  obtain ⟨tp, tn, ft, fp, ρ, pa, an, un, sm, sc, sn, bx, bk, r, c, hb⟩ := i
  have tl : tn ≤ 900 := r.2.1.2.2.1
  refine sC_end c (fun q => ⟨_, rfl, r.1.1.ob, sM_end r (fun _ => ⟨rfl, LI.of r c hb⟩) (fun n hn e => absurd ⟨n, by omega, e⟩ q)⟩) (fun n hn e h1 f1 c1 => ?_)
  have r1 := f1.mr r
  refine ⟨_, rfl, r1.1.1.ob, sM_end r1 (fun z => absurd ⟨n, by omega, e⟩ z) (fun n' hn' e' h2 g r2 => ?_)⟩
  have := nI_e (by omega) (by omega) (e.symm.trans e')
  subst this
  exact ⟨rfl, LI.of r2 (c1.fm g) (fun i hi => hb i (by omega))⟩
theorem pr_picture (i : LI h) : J2 G l mC_picture mM_picture [] h := by
  obtain ⟨tp, tn, ft, fp, ρ, pa, an, un, sm, sc, sn, bx, bk, r, c, hb⟩ := i
  refine sC_picture c hb (fun q e h1 f1 c1 => ?_) (fun π e h1 f1 c1 => ?_)
  · have r1 := f1.mr r
    refine ⟨_, rfl, r1.1.1.ob, sM_picture r1 hb (fun q' e' h2 g r2 => ?_) (fun π e' => ?_)⟩
    · have : q = q' := Sum.inl.inj (e.symm.trans e')
      subst this
      exact ⟨rfl, LI.of r2 (c1.fm g) (fun i hi => absurd hi (by omega))⟩
    · exact nomatch (e.symm.trans e')
  · have r1 := f1.mr r
    refine ⟨_, rfl, r1.1.1.ob, sM_picture r1 hb (fun q' e' => ?_) (fun π' e' h2 g r2 => ?_)⟩
    · exact nomatch (e.symm.trans e')
    · have : π = π' := Sum.inr.inj (e.symm.trans e')
      subst this
      exact ⟨rfl, LI.of r2 (c1.fm g) (fun i hi => absurd hi (by omega))⟩
theorem pr_put {x1 x2 : Int32} (i : LI h) : J2 G l mC_put mM_put [vI x1, vI x2] h := by
  obtain ⟨tp, tn, ft, fp, ρ, pa, an, un, sm, sc, sn, bx, bk, r, c, hb⟩ := i
  obtain ⟨g1, g2⟩ := r.1.2.2.1
  refine sC_put c (fun q => ⟨_, rfl, r.1.1.ob, sM_put r (fun _ => ⟨rfl, LI.of r c hb⟩) (fun i j hi hj e1 e2 h4 => absurd ⟨⟨⟨i, hi, e1⟩, ⟨j, hj, e2⟩⟩, h4⟩ q)⟩) (fun i j hi hj e1 e2 h4 h1 f1 c1 => ?_)
  have r1 := f1.mr r
  refine ⟨_, rfl, r1.1.1.ob, sM_put r1 (fun z => absurd ⟨⟨⟨i, hi, e1⟩, ⟨j, hj, e2⟩⟩, h4⟩ z) (fun i' j' hi' hj' e1' e2' _ h2 g r2 => ?_)⟩
  obtain rfl := nI_e (by omega) (by omega) (e1.symm.trans e1')
  obtain rfl := nI_e (by omega) (by omega) (e2.symm.trans e2')
  exact ⟨rfl, LI.of r2 (c1.fm g) hb⟩
theorem pr_take {x1 : Int32} (i : LI h) : J2 G l mC_take mM_take [vI x1] h := by
  obtain ⟨tp, tn, ft, fp, ρ, pa, an, un, sm, sc, sn, bx, bk, r, c, hb⟩ := i
  obtain ⟨g1, g2⟩ := r.1.2.2.1
  refine sC_take c (fun q => ⟨_, rfl, r.1.1.ob, sM_take r (fun _ => ⟨rfl, LI.of r c hb⟩) (fun i hi e => absurd ⟨i, hi, e⟩ q)⟩) (fun i hi e h1 f1 c1 => ?_)
  have r1 := f1.mr r
  refine ⟨_, rfl, r1.1.1.ob, sM_take r1 (fun z => absurd ⟨i, hi, e⟩ z) (fun i' hi' e' h2 g r2 => ?_)⟩
  obtain rfl := nI_e (by omega) (by omega) (e.symm.trans e')
  exact ⟨rfl, LI.of r2 (c1.fm g) hb⟩
theorem pr_move {x1 x2 x3 : Int32} (i : LI h) : J2 G l mC_move mM_move [vI x1, vI x2, vI x3] h := by
  obtain ⟨tp, tn, ft, fp, ρ, pa, an, un, sm, sc, sn, bx, bk, r, c, hb⟩ := i
  obtain ⟨g1, g2⟩ := r.1.2.2.1
  refine sC_move c (fun q => ⟨_, rfl, r.1.1.ob, sM_move r (fun _ => ⟨rfl, LI.of r c hb⟩) (fun d i j a1 a2 a3 a4 a5 a6 a7 => absurd ⟨d, i, j, a1, a2, a3, a4, a5, a6, a7⟩ q)⟩) (fun d i j a1 a2 a3 a4 a5 a6 a7 h1 f1 c1 => ?_)
  have r1 := f1.mr r
  refine ⟨_, rfl, r1.1.1.ob, sM_move r1 (fun z => absurd ⟨d, i, j, a1, a2, a3, a4, a5, a6, a7⟩ z) (fun d' i' j' b1 b2 b3 b4 b5 b6 b7 h2 g r2 => ?_)⟩
  obtain rfl := nI_e (by omega) (by omega) (a4.symm.trans b4)
  obtain rfl := nI_e (by omega) (by omega) (a5.symm.trans b5)
  obtain rfl := nI_e (by omega) (by omega) (a6.symm.trans b6)
  exact ⟨rfl, LI.of r2 (c1.fm g) hb⟩
theorem pr_draw {x1 : Int32} (i : LI h) : J2 G l mC_draw mM_draw [vI x1] h := by
  obtain ⟨tp, tn, ft, fp, ρ, pa, an, un, sm, sc, sn, bx, bk, r, c, hb⟩ := i
  obtain ⟨g1, g2⟩ := r.1.2.2.1
  refine sC_draw c (fun q h1 f1 c1 => ?_) (fun n a1 a2 a3 a4 h1 f1 c1 => ?_)
  · have r1 := f1.mr r
    exact ⟨_, rfl, r1.1.1.ob, sM_draw r1 (fun _ => ⟨rfl, LI.of r1 c1 hb⟩) (fun n a1 a2 a3 a4 => absurd ⟨n, a1, a2, a3, a4⟩ q)⟩
  · have r1 := f1.mr r
    refine ⟨_, rfl, r1.1.1.ob, sM_draw r1 (fun z => absurd ⟨n, a1, a2, a3, a4⟩ z) (fun n' b1 b2 b3 b4 h2 g r2 => ?_)⟩
    obtain rfl := nI_e (by omega) (by omega) (a3.symm.trans b3)
    exact ⟨rfl, LI.of r2 (c1.fm g) hb⟩
theorem pr_seed {x1 : Int32} (i : LI h) : J2 G l mC_seed mM_seed [vI x1] h := by
  obtain ⟨tp, tn, ft, fp, ρ, pa, an, un, sm, sc, sn, bx, bk, r, c, hb⟩ := i
  refine sC_seed c (fun q => ⟨_, rfl, r.1.1.ob, sM_seed r (fun _ => ⟨rfl, LI.of r c hb⟩) (fun s hs e => absurd q (by rw [e]; exact nI_pos hs))⟩) (fun s hs e h1 f1 c1 => ?_)
  have r1 := f1.mr r
  refine ⟨_, rfl, r1.1.1.ob, sM_seed r1 (fun z => absurd z (by rw [e]; exact nI_pos hs)) (fun s' hs' e' h2 g r2 => ?_)⟩
  obtain rfl := nI_e hs hs' (e.symm.trans e')
  exact ⟨rfl, LI.of r2 (c1.fm g) hb⟩
theorem pr_paint {x1 x2 x3 : Int32} (i : LI h) : J2 G l mC_paint mM_paint [vI x1, vI x2, vI x3] h := by
  obtain ⟨tp, tn, ft, fp, ρ, pa, an, un, sm, sc, sn, bx, bk, r, c, hb⟩ := i
  obtain ⟨g1, g2⟩ := r.1.2.2.1
  refine sC_paint c (fun q => ⟨_, rfl, r.1.1.ob, sM_paint r (fun _ => ⟨rfl, LI.of r c hb⟩) (fun d i j a1 a2 a3 a4 a5 a6 a7 => absurd ⟨d, i, j, a1, a2, a3, a4, a5, a6, a7⟩ q)⟩) (fun d i j a1 a2 a3 a4 a5 a6 a7 h1 f1 c1 => ?_)
  have r1 := f1.mr r
  refine ⟨_, rfl, r1.1.1.ob, sM_paint r1 (fun z => absurd ⟨d, i, j, a1, a2, a3, a4, a5, a6, a7⟩ z) (fun d' i' j' b1 b2 b3 b4 b5 b6 b7 h2 g r2 => ?_)⟩
  obtain rfl := nI_e (by omega) (by omega) (a4.symm.trans b4)
  obtain rfl := nI_e (by omega) (by omega) (a5.symm.trans b5)
  obtain rfl := nI_e (by omega) (by omega) (a6.symm.trans b6)
  exact ⟨rfl, LI.of r2 (c1.fm g) hb⟩
theorem pr_rounds {x1 : Int32} (i : LI h) : J2 G l mC_rounds mM_rounds [vI x1] h := by
  obtain ⟨tp, tn, ft, fp, ρ, pa, an, un, sm, sc, sn, bx, bk, r, c, hb⟩ := i
  refine sC_rounds c (fun q => ⟨_, rfl, r.1.1.ob, sM_rounds r (fun _ => ⟨rfl, LI.of r c hb⟩) (fun n a1 a2 a3 a4 => absurd ⟨n, a1, a2, a3, a4⟩ q)⟩) (fun n a1 a2 a3 a4 h1 f1 c1 => ?_)
  have r1 := f1.mr r
  refine ⟨_, rfl, r1.1.1.ob, sM_rounds r1 (fun z => absurd ⟨n, a1, a2, a3, a4⟩ z) (fun n' b1 b2 b3 b4 h2 g r2 => ?_)⟩
  obtain rfl := nI_e (by omega) (by omega) (a3.symm.trans b3)
  exact ⟨rfl, LI.of r2 (c1.fm g) hb⟩
theorem pr_adapt {x1 x2 : Int32} (i : LI h) : J2 G l mC_adapt mM_adapt [vI x1, vI x2] h := by
  obtain ⟨tp, tn, ft, fp, ρ, pa, an, un, sm, sc, sn, bx, bk, r, c, hb⟩ := i
  refine sC_adapt c (fun h1 f1 c1 q => ?_) (fun lo hi a1 a2 a3 a4 a5 h1 f1 c1 => ?_)
  · have r1 := f1.mr r
    exact ⟨_, rfl, r1.1.1.ob, sM_adapt r1 (fun h2 g r2 _ => ⟨rfl, LI.of r2 (c1.fm g) hb⟩) (fun lo hi a1 a2 a3 a4 a5 => absurd ⟨lo, hi, a1, a2, a3, a4, a5⟩ q)⟩
  · have r1 := f1.mr r
    refine ⟨_, rfl, r1.1.1.ob, sM_adapt r1 (fun h2 g r2 z => absurd ⟨lo, hi, a1, a2, a3, a4, a5⟩ z) (fun lo' hi' b1 b2 b3 b4 b5 h2 g r2 => ?_)⟩
    obtain rfl := nI_e (by omega) (by omega) (a3.symm.trans b3)
    obtain rfl := nI_e (by omega) (by omega) (a4.symm.trans b4)
    exact ⟨rfl, LI.of r2 (c1.fm g) hb⟩
theorem pr_turn (i : LI h) : J2 G l mC_turn mM_turn [] h := by
  obtain ⟨tp, tn, ft, fp, ρ, pa, an, un, sm, sc, sn, bx, bk, r, c, hb⟩ := i
  refine sC_turn c (fun h1 f1 c1 => ?_)
  have r1 := f1.mr r
  exact ⟨_, rfl, r1.1.1.ob, sM_turn r1 (fun h2 g r2 => ⟨rfl, LI.of r2 (c1.fm g) hb⟩)⟩
theorem pr_undo (i : LI h) : J2 G l mC_undo mM_undo [] h := by
  obtain ⟨tp, tn, ft, fp, ρ, pa, an, un, sm, sc, sn, bx, bk, r, c, hb⟩ := i
  refine sC_undo c (fun q => ⟨_, rfl, r.1.1.ob, sM_undo r (fun _ => ⟨rfl, LI.of r c hb⟩) (fun z => absurd z (by omega))⟩) (fun q h1 f1 c1 => ?_)
  have r1 := f1.mr r
  exact ⟨_, rfl, r1.1.1.ob, sM_undo r1 (fun z => absurd z (by omega)) (fun _ h2 g r2 => ⟨rfl, LI.of r2 (c1.fm g) hb⟩)⟩
theorem pr_redo (i : LI h) : J2 G l mC_redo mM_redo [] h := by
  obtain ⟨tp, tn, ft, fp, ρ, pa, an, un, sm, sc, sn, bx, bk, r, c, hb⟩ := i
  refine sC_redo c (fun q => ⟨_, rfl, r.1.1.ob, sM_redo r (fun _ => ⟨rfl, LI.of r c hb⟩) (fun z => absurd z (by omega))⟩) (fun q h1 f1 c1 => ?_)
  have r1 := f1.mr r
  exact ⟨_, rfl, r1.1.1.ob, sM_redo r1 (fun z => absurd z (by omega)) (fun _ h2 g r2 => ⟨rfl, LI.of r2 (c1.fm g) hb⟩)⟩
theorem pr_image {x1 : Int32} (i : LI h) : J2 G l mC_image mM_image [vI x1] h := by
  obtain ⟨tp, tn, ft, fp, ρ, pa, an, un, sm, sc, sn, bx, bk, r, c, hb⟩ := i
  refine sC_image c (fun q => ⟨_, rfl, r.1.1.ob, sM_image r (fun _ => ⟨rfl, LI.of r c hb⟩) (fun b h e => absurd ⟨b, h, e⟩ q)⟩) (fun b h e h1 f1 c1 => ?_)
  have r1 := f1.mr r
  refine ⟨_, rfl, r1.1.1.ob, sM_image r1 (fun z => absurd ⟨b, h, e⟩ z) (fun b' h' e' h2 g r2 => ?_)⟩
  obtain rfl := nI_e (by omega) (by omega) (e.symm.trans e')
  exact ⟨rfl, LI.of r2 (c1.fm g) hb⟩
theorem pr_back {x1 : Int32} (i : LI h) : J2 G l mC_back mM_back [vI x1] h := by
  obtain ⟨tp, tn, ft, fp, ρ, pa, an, un, sm, sc, sn, bx, bk, r, c, hb⟩ := i
  refine sC_back c (fun q => ⟨_, rfl, r.1.1.ob, sM_back r (fun _ => ⟨rfl, LI.of r c hb⟩) (fun b h e k => absurd ⟨b, h, e, k⟩ q)⟩) (fun b h e k h1 f1 c1 => ?_)
  have r1 := f1.mr r
  refine ⟨_, rfl, r1.1.1.ob, sM_back r1 (fun z => absurd ⟨b, h, e, k⟩ z) (fun b' h' e' k' h2 g r2 => ?_)⟩
  obtain rfl := nI_e (by omega) (by omega) (e.symm.trans e')
  exact ⟨rfl, LI.of r2 (c1.fm g) hb⟩
end Pairs
