/-! ===== every step is right ===== -/
theorem wa_nat : Cond.native arraycopyName ∈ lw_ok := wIs.mem (i := 9079) (by decide +kernel)
theorem wa_st : Cond.static arraycopyName ∈ lw_ok := wIs.mem (i := 9078) (by decide +kernel)
theorem wa_in : Cond.initialized "java/lang/System" ∈ lw_ok := wIs.mem (i := 7017) (by decide +kernel)
theorem wm_in : Cond.initialized "java/lang/Math" ∈ lw_ok := wIs.mem (i := 7018) (by decide +kernel)
theorem wm_min_s : Cond.static Lib.Math.min.name ∈ lw_ok := wIs.mem (i := 9207) (by decide +kernel)
theorem wm_min_c : Cond.code Lib.Math.min.name Lib.Math.min.code 2 (some .int) ∈ lw_ok := wIs.mem (i := 9208) (by decide +kernel)
theorem wm_min_n : mdN (mt mJm_min) = Lib.Math.min.name := by decide +kernel
theorem wm_max_s : Cond.static Lib.Math.max.name ∈ lw_ok := wIs.mem (i := 10092) (by decide +kernel)
theorem wm_max_c : Cond.code Lib.Math.max.name Lib.Math.max.code 2 (some .int) ∈ lw_ok := wIs.mem (i := 10093) (by decide +kernel)
theorem wm_max_n : mdN (mt mJm_max) = Lib.Math.max.name := by decide +kernel
theorem wm_abs_s : Cond.static Lib.Math.abs.name ∈ lw_ok := wIs.mem (i := 10089) (by decide +kernel)
theorem wm_abs_c : Cond.code Lib.Math.abs.name Lib.Math.abs.code 1 (some .int) ∈ lw_ok := wIs.mem (i := 10090) (by decide +kernel)
theorem wm_abs_n : mdN (mt mJm_abs) = Lib.Math.abs.name := by decide +kernel
section MathRows
variable {G : GP} {l : Launch} {M : MD} {pc : Nat} {ls : List (Option AV)} {st : List AV} {h : AH} {K : Option AV → AH → Prop}
theorem rs8 {ad : Nat → Nat} {st : List AV} (h : szS st ≤ 8) : ((st.map (cv ad)).map fun v => v.category).sum ≤ 8 := rest8 (by rw [szS_eq]; exact h)
theorem Go.mmin {i : Nat} {x y : Int32} (hdg : decode (mdB M) pc = .ok (.invokestatic i, 3)) (hlk : Cond.methodLink (mdN M).cls i Lib.Math.min.name ∈ lw_ok) (hr : 1 ≤ (mdR M).frames ∧ 21 ≤ (mdR M).locals) (h8 : szS st ≤ 8) (kk : Go G l M (pc + 3) ls (vI (if y < x then y else x) :: st) h 0 0 K) : Go G l M pc ls (vI y :: vI x :: st) h 0 0 K := by
  intro p e s mm args below meth c ad A H locs la E hA hw hx hS hl
  have hts := E.2.2.2.2.2.1
  exact va_mmin E.1 E.2.1 (E.2.2.2.1.trans hl.1.symm) E.2.2.2.2.1 (hts _ hlk) (hts _ wm_min_s) (hts _ wm_in) (hts _ wm_min_c) hr.1 (by have := rs8 (ad := ad) h8; omega) (by omega) (by omega) hdg (kk p e s mm args below meth c ad A H locs la E hA hw hx hS hl)
theorem Go.mmax {i : Nat} {x y : Int32} (hdg : decode (mdB M) pc = .ok (.invokestatic i, 3)) (hlk : Cond.methodLink (mdN M).cls i Lib.Math.max.name ∈ lw_ok) (hr : 1 ≤ (mdR M).frames ∧ 21 ≤ (mdR M).locals) (h8 : szS st ≤ 8) (kk : Go G l M (pc + 3) ls (vI (if x < y then y else x) :: st) h 0 0 K) : Go G l M pc ls (vI y :: vI x :: st) h 0 0 K := by
  intro p e s mm args below meth c ad A H locs la E hA hw hx hS hl
  have hts := E.2.2.2.2.2.1
  exact va_mmax E.1 E.2.1 (E.2.2.2.1.trans hl.1.symm) E.2.2.2.2.1 (hts _ hlk) (hts _ wm_max_s) (hts _ wm_in) (hts _ wm_max_c) hr.1 (by have := rs8 (ad := ad) h8; omega) (by omega) (by omega) hdg (kk p e s mm args below meth c ad A H locs la E hA hw hx hS hl)
theorem Go.mabs {i : Nat} {x : Int32} (hdg : decode (mdB M) pc = .ok (.invokestatic i, 3)) (hlk : Cond.methodLink (mdN M).cls i Lib.Math.abs.name ∈ lw_ok) (hr : 1 ≤ (mdR M).frames ∧ 21 ≤ (mdR M).locals) (h8 : szS st ≤ 8) (kk : Go G l M (pc + 3) ls (vI (if 0 ≤ x then x else 0 - x) :: st) h 0 0 K) : Go G l M pc ls (vI x :: st) h 0 0 K := by
  intro p e s mm args below meth c ad A H locs la E hA hw hx hS hl
  have hts := E.2.2.2.2.2.1
  exact va_mabs E.1 E.2.1 (E.2.2.2.1.trans hl.1.symm) E.2.2.2.2.1 (hts _ hlk) (hts _ wm_abs_s) (hts _ wm_in) (hts _ wm_abs_c) hr.1 (by have := rs8 (ad := ad) h8; omega) (by omega) (by omega) hdg (kk p e s mm args below meth c ad A H locs la E hA hw hx hS hl)
/-- a method of a String constant -/
theorem Go.callVS {N : MD} {n i b uc us : Nat} {as : List AV} (hdg : decode (mdB M) pc = .ok (.invokevirtual i, 3)) (hm : MOK N n) (hv : MOKv N) (hlk : Cond.methodLink (mdN M).cls i (mdN N) ∈ lw_ok) (hn : as.length = n) (hcl : (mdN N).cls = "java/lang/String") (ho : b = xh ∨ b = xh + 1 ∨ b = xh + 2) (hr : rmOK N M uc us st) (hok : okLS (hN h) (mdR N).cells ls st)
    (hs : Spec G l N (vR b :: as) h (fun r h' => Go G l M (pc + 3) ls (r.toList ++ st) h' (uc + (mdR N).cells) (us + (mdR N).slots) K)) : Go G l M pc ls (as.reverse ++ vR b :: st) h uc us K := by
  intro p e s m args below meth c ad A H locs la E hA hw hx hS hl
  have hts := E.2.2.2.2.2.1
  have hb0 : 0 < b := by unfold xh at ho; omega
  have hcv : (vR b :: as).map (cv ad) = Value.ref (ad b) :: as.map (cv ad) := by rw [List.map_cons, cv_ref hb0]
  have hM := hs ad H.size
  rw [hcv] at hM
  have hR : ∃ cell : Cell, H[ad b]? = some cell ∧ cell.vm.isStatics = false ∧ s.vm.findClass (mdN N).cls = some cell.cls := by
    rw [hcl]
    have a := hw.2.2.2.2.1
    rcases ho with rfl | rfl | rfl
    · rw [a.1]; exact vk_recv hx.1 (by omega) hS
    · rw [a.2.1]; exact vk_recv hx.1 (by omega) hS
    · rw [a.2.2.1]; exact vk_recv hx.1 (by omega) hS
  have run := va_runV (p := p) (e := e) (below := below) (meth := meth) (locs := locs) (cells := uc) (slots := us) (As := as.map (cv ad)) (rest := st.map (cv ad)) (g := F0 m pc la (((as.reverse ++ vR b :: st)).map (cv ad))) (C := (mdN N).cls) (b := ad b) (H := H) (R := mdR M) ⟨E.1, E.2.1, E.2.2.2.1, E.2.2.2.2.1, hts⟩ hM ⟨hm.callB hts (hts _ hlk) hr.1, hts _ hv.1, hts _ hv.2⟩ ⟨Pc_blind, hR, fun U hU hW => ⟨rfl, hw.pre hx hA hS hU hW⟩⟩ rfl (by simp [hn]) hl.1 (by simp [cv_ref hb0]) (lv_room (rest8 hr.2.2.2)) hdg ⟨hr.2.1, hr.2.2.1⟩
  exact Go.behind run E hA hw hx hS hl hok hr.2.1
end MathRows
set_option maxHeartbeats 4000000 in
theorem stp_ok {G : GP} {l : Launch} {S : Nat → List AV → AH → (Option AV → AH → Prop) → Prop} (hS : ∀ a as h K, S a as h K → Spec G l (mt a) as h K) {m : Nat} {ls : List (Option AV)} {st : List AV} {h : AH} {k : Nat → List (Option AV) → List AV → AH → Prop} {K : Option AV → AH → Prop} (hm : m < 292) {r : Row} (hr : rowOK m r = true) (hs : stp G S r ls st h k K) (hk : ∀ t ls st h, k t ls st h → Go G l (mt m) t ls st h 0 0 K) : Go G l (mt m) r.1 ls st h 0 0 K := by
  obtain ⟨pc, len, ins, a, b, t, pl, v, tb⟩ := r
  have hc := mcl_of hm
  unfold rowOK at hr
  obtain ⟨hd, hr⟩ := dec_of hr
  show Go G l (mt m) pc ls st h 0 0 K
  cases ins with
  | iadd =>
    obtain rfl := Nat.eq_of_beq_eq_true hr
    obtain ⟨x, y, r, rfl, hs⟩ := pII.of hs
    exact Go.iadd hd (hk _ _ _ _ hs)
  | isub =>
    obtain rfl := Nat.eq_of_beq_eq_true hr
    obtain ⟨x, y, r, rfl, hs⟩ := pII.of hs
    exact Go.isub hd (hk _ _ _ _ hs)
  | imul =>
    obtain rfl := Nat.eq_of_beq_eq_true hr
    obtain ⟨x, y, r, rfl, hs⟩ := pII.of hs
    exact Go.imul hd (hk _ _ _ _ hs)
  | iand =>
    obtain rfl := Nat.eq_of_beq_eq_true hr
    obtain ⟨x, y, r, rfl, hs⟩ := pII.of hs
    exact Go.iand hd (hk _ _ _ _ hs)
  | ior =>
    obtain rfl := Nat.eq_of_beq_eq_true hr
    obtain ⟨x, y, r, rfl, hs⟩ := pII.of hs
    exact Go.ior hd (hk _ _ _ _ hs)
  | ixor =>
    obtain rfl := Nat.eq_of_beq_eq_true hr
    obtain ⟨x, y, r, rfl, hs⟩ := pII.of hs
    exact Go.ixor hd (hk _ _ _ _ hs)
  | ishl =>
    obtain rfl := Nat.eq_of_beq_eq_true hr
    obtain ⟨x, y, r, rfl, hs⟩ := pII.of hs
    exact Go.ishl hd (hk _ _ _ _ hs)
  | ishr =>
    obtain rfl := Nat.eq_of_beq_eq_true hr
    obtain ⟨x, y, r, rfl, hs⟩ := pII.of hs
    exact Go.ishr hd (hk _ _ _ _ hs)
  | idiv =>
    obtain rfl := Nat.eq_of_beq_eq_true hr
    obtain ⟨x, y, r, rfl, hne, hs⟩ := pII.of hs
    exact Go.idiv hd hne (hk _ _ _ _ hs)
  | irem =>
    obtain rfl := Nat.eq_of_beq_eq_true hr
    obtain ⟨x, y, r, rfl, hne, hs⟩ := pII.of hs
    exact Go.irem hd hne (hk _ _ _ _ hs)
  | ladd =>
    obtain rfl := Nat.eq_of_beq_eq_true hr
    obtain ⟨x, y, r, rfl, hs⟩ := pLL.of hs
    exact Go.ladd hd (hk _ _ _ _ hs)
  | lsub =>
    obtain rfl := Nat.eq_of_beq_eq_true hr
    obtain ⟨x, y, r, rfl, hs⟩ := pLL.of hs
    exact Go.lsub hd (hk _ _ _ _ hs)
  | lmul =>
    obtain rfl := Nat.eq_of_beq_eq_true hr
    obtain ⟨x, y, r, rfl, hs⟩ := pLL.of hs
    exact Go.lmul hd (hk _ _ _ _ hs)
  | land =>
    obtain rfl := Nat.eq_of_beq_eq_true hr
    obtain ⟨x, y, r, rfl, hs⟩ := pLL.of hs
    exact Go.land hd (hk _ _ _ _ hs)
  | lor =>
    obtain rfl := Nat.eq_of_beq_eq_true hr
    obtain ⟨x, y, r, rfl, hs⟩ := pLL.of hs
    exact Go.lor hd (hk _ _ _ _ hs)
  | lcmp =>
    obtain rfl := Nat.eq_of_beq_eq_true hr
    obtain ⟨x, y, r, rfl, hs⟩ := pLL.of hs
    exact Go.lcmp hd (hk _ _ _ _ hs)
  | ldiv =>
    obtain rfl := Nat.eq_of_beq_eq_true hr
    obtain ⟨x, y, r, rfl, hne, hs⟩ := pLL.of hs
    exact Go.ldiv hd hne (hk _ _ _ _ hs)
  | lrem =>
    obtain rfl := Nat.eq_of_beq_eq_true hr
    obtain ⟨x, y, r, rfl, hne, hs⟩ := pLL.of hs
    exact Go.lrem hd hne (hk _ _ _ _ hs)
  | ineg =>
    obtain rfl := Nat.eq_of_beq_eq_true hr
    obtain ⟨x, r, rfl, hs⟩ := pI.of hs
    exact Go.ineg hd (hk _ _ _ _ hs)
  | i2l =>
    obtain rfl := Nat.eq_of_beq_eq_true hr
    obtain ⟨x, r, rfl, hs⟩ := pI.of hs
    exact Go.i2l hd (hk _ _ _ _ hs)
  | l2i =>
    obtain rfl := Nat.eq_of_beq_eq_true hr
    obtain ⟨x, r, rfl, hs⟩ := pL.of hs
    exact Go.l2i hd (hk _ _ _ _ hs)
  | lshl =>
    obtain rfl := Nat.eq_of_beq_eq_true hr
    obtain ⟨y, r, rfl, hs⟩ := pI.of hs
    obtain ⟨x, r, rfl, hs⟩ := pL.of hs
    exact Go.lshl hd (hk _ _ _ _ hs)
  | iconst n =>
    simp only [Bool.and_eq_true, decide_eq_true_eq] at hr
    obtain ⟨hv, hr⟩ := hr
    obtain rfl := Nat.eq_of_beq_eq_true hr
    exact Go.iconst hd hv (hk _ _ _ _ hs)
  | bipush n =>
    simp only [Bool.and_eq_true, decide_eq_true_eq] at hr
    obtain ⟨hv, hr⟩ := hr
    obtain rfl := Nat.eq_of_beq_eq_true hr
    exact Go.bipush hd hv (hk _ _ _ _ hs)
  | sipush n =>
    simp only [Bool.and_eq_true, decide_eq_true_eq] at hr
    obtain ⟨hv, hr⟩ := hr
    obtain rfl := Nat.eq_of_beq_eq_true hr
    exact Go.sipush hd hv (hk _ _ _ _ hs)
  | lconst n =>
    simp only [Bool.and_eq_true] at hr
    obtain ⟨hv, hr⟩ := hr
    obtain rfl := Nat.eq_of_beq_eq_true hr
    have hv := Nat.eq_of_beq_eq_true hv
    exact Go.lconst hd (by rw [hv]) (hk _ _ _ _ hs)
  | ldc i =>
    simp only [Bool.and_eq_true] at hr
    obtain ⟨hr, hv⟩ := hr
    obtain rfl := Nat.eq_of_beq_eq_true hr
    match t, hv, hs with
    | 0, hv, hs => exact Go.ldc hd (by rw [hc]; exact cl_link (of_decide_eq_true hv)) (hk _ _ _ _ hs)
    | t + 1, hv, hs =>
      simp only [Bool.and_eq_true, decide_eq_true_eq, Bool.or_eq_true] at hv
      refine Go.ldcS (j := b) (hc.trans hv.1) hd ?_ (hk _ _ _ _ hs)
      rcases hv.2 with z | z | z
      · exact Or.inl ⟨Nat.eq_of_beq_eq_true z.1, Nat.eq_of_beq_eq_true z.2⟩
      · exact Or.inr (Or.inl ⟨Nat.eq_of_beq_eq_true z.1, Nat.eq_of_beq_eq_true z.2⟩)
      · exact Or.inr (Or.inr ⟨Nat.eq_of_beq_eq_true z.1, Nat.eq_of_beq_eq_true z.2⟩)
  | ldc_w i =>
    simp only [Bool.and_eq_true, decide_eq_true_eq] at hr
    obtain ⟨hr, hv⟩ := hr
    obtain rfl := Nat.eq_of_beq_eq_true hr
    exact Go.ldcw hd (by rw [hc]; exact cl_link hv) (hk _ _ _ _ hs)
  | ldc2_w i =>
    simp only [Bool.and_eq_true, decide_eq_true_eq] at hr
    obtain ⟨hr, hv⟩ := hr
    obtain rfl := Nat.eq_of_beq_eq_true hr
    exact Go.ldc2 hd (by rw [hc]; exact dl_link hv) (hk _ _ _ _ hs)
  | goto off =>
    simp only [Bool.and_eq_true, decide_eq_true_eq] at hr
    obtain ⟨hv, hr⟩ := hr
    obtain rfl := Nat.eq_of_beq_eq_true hr
    exact Go.goto hd hv (hk _ _ _ _ hs)
  | dup =>
    obtain rfl := Nat.eq_of_beq_eq_true hr
    obtain ⟨x, r, rfl, hx, hs⟩ := pA.of hs
    exact Go.dup hd hx (hk _ _ _ _ hs)
  | pop =>
    obtain rfl := Nat.eq_of_beq_eq_true hr
    obtain ⟨x, r, rfl, hx, hs⟩ := pA.of hs
    exact Go.pop hd hx (hk _ _ _ _ hs)
  | dup2 =>
    obtain rfl := Nat.eq_of_beq_eq_true hr
    obtain ⟨x, r, rfl, hx, hs⟩ := pA.of hs
    obtain ⟨y, r, rfl, hy, hs⟩ := pA.of hs
    exact Go.dup2 hd hx hy (hk _ _ _ _ hs)
  | iload i =>
    obtain rfl := Nat.eq_of_beq_eq_true hr
    obtain ⟨x, e, hs⟩ := lI.of hs
    exact Go.iload hd (gl_at e) (hk _ _ _ _ hs)
  | iload_n i =>
    obtain rfl := Nat.eq_of_beq_eq_true hr
    obtain ⟨x, e, hs⟩ := lI.of hs
    exact Go.iload_n hd (gl_at e) (hk _ _ _ _ hs)
  | lload i =>
    obtain rfl := Nat.eq_of_beq_eq_true hr
    obtain ⟨x, e, hs⟩ := lL.of hs
    exact Go.lload hd (gl_at e) (hk _ _ _ _ hs)
  | lload_n i =>
    obtain rfl := Nat.eq_of_beq_eq_true hr
    obtain ⟨x, e, hs⟩ := lL.of hs
    exact Go.lload_n hd (gl_at e) (hk _ _ _ _ hs)
  | aload i =>
    obtain rfl := Nat.eq_of_beq_eq_true hr
    obtain ⟨x, e, hs⟩ := lR.of hs
    exact Go.aload hd (gl_at e) (hk _ _ _ _ hs)
  | aload_n i =>
    obtain rfl := Nat.eq_of_beq_eq_true hr
    obtain ⟨x, e, hs⟩ := lR.of hs
    exact Go.aload_n hd (gl_at e) (hk _ _ _ _ hs)
  | istore i =>
    simp only [Bool.and_eq_true] at hr
    obtain ⟨hv, hr⟩ := hr
    obtain rfl := Nat.eq_of_beq_eq_true hr
    have hv := Nat.le_of_ble_eq_true hv
    obtain ⟨x, r, rfl, hs⟩ := pI.of hs
    exact Go.istore hd hv (hk _ _ _ _ hs).sF
  | istore_n i =>
    simp only [Bool.and_eq_true] at hr
    obtain ⟨hv, hr⟩ := hr
    obtain rfl := Nat.eq_of_beq_eq_true hr
    have hv := Nat.le_of_ble_eq_true hv
    obtain ⟨x, r, rfl, hs⟩ := pI.of hs
    exact Go.istore_n hd rfl hv (hk _ _ _ _ hs).sF
  | lstore i =>
    simp only [Bool.and_eq_true] at hr
    obtain ⟨hv, hr⟩ := hr
    obtain rfl := Nat.eq_of_beq_eq_true hr
    have hv := Nat.le_of_ble_eq_true hv
    obtain ⟨x, r, rfl, hs⟩ := pL.of hs
    exact Go.lstore hd hv (hk _ _ _ _ hs).sF
  | lstore_n i =>
    simp only [Bool.and_eq_true] at hr
    obtain ⟨hv, hr⟩ := hr
    obtain rfl := Nat.eq_of_beq_eq_true hr
    have hv := Nat.le_of_ble_eq_true hv
    obtain ⟨x, r, rfl, hs⟩ := pL.of hs
    exact Go.lstore_n hd rfl hv (hk _ _ _ _ hs).sF
  | astore i =>
    simp only [Bool.and_eq_true] at hr
    obtain ⟨hv, hr⟩ := hr
    obtain rfl := Nat.eq_of_beq_eq_true hr
    have hv := Nat.le_of_ble_eq_true hv
    obtain ⟨x, r, rfl, hs⟩ := pR.of hs
    exact Go.astore hd hv (hk _ _ _ _ hs).sF
  | astore_n i =>
    simp only [Bool.and_eq_true] at hr
    obtain ⟨hv, hr⟩ := hr
    obtain rfl := Nat.eq_of_beq_eq_true hr
    have hv := Nat.le_of_ble_eq_true hv
    obtain ⟨x, r, rfl, hs⟩ := pR.of hs
    exact Go.astore_n hd rfl hv (hk _ _ _ _ hs).sF
  | iinc i n =>
    simp only [Bool.and_eq_true, decide_eq_true_eq] at hr
    obtain ⟨hv, hn, hr⟩ := hr
    obtain rfl := Nat.eq_of_beq_eq_true hr
    have hv := Nat.le_of_ble_eq_true hv
    obtain ⟨x, e, hs⟩ := lI.of hs
    exact Go.iinc hd (gl_at e) (by rw [hn]) hv (hk _ _ _ _ hs).sF
  | getfield i =>
    simp only [Bool.and_eq_true, decide_eq_true_eq] at hr
    obtain ⟨hr, hv⟩ := hr
    obtain rfl := Nat.eq_of_beq_eq_true hr
    obtain ⟨ob, r, rfl, ho, hs⟩ := pR.of hs
    obtain ⟨q, g1, g2, g3, g4, -⟩ := fl_link hv
    have hs := gft_of hs
    rw [fvt_fav g3] at hs
    exact Go.getf hd g1 g2 (by rw [hc]; exact g4) ho (hk _ _ _ _ hs)
  | putfield i =>
    simp only [Bool.and_eq_true, decide_eq_true_eq] at hr
    obtain ⟨hr, hv⟩ := hr
    obtain rfl := Nat.eq_of_beq_eq_true hr
    obtain ⟨hv, hf⟩ := fl_fin hv
    obtain ⟨q, g1, g2, g3, g4, g5⟩ := fl_link hv
    have hfin := hf q g1
    rw [← hc] at g4
    match t, g3, g5, hs with
    | 0, g3, g5, hs =>
      obtain ⟨x, r, rfl, hs⟩ := pI.of hs
      obtain ⟨ob, r, rfl, ho, v, rfl, hs⟩ := pR.of hs
      exact Go.putI hd g1 g2 g3 g4 (Or.inl hfin) ho (hk _ _ _ _ hs)
    | 1, g3, g5, hs =>
      obtain ⟨x, r, rfl, hs⟩ := pL.of hs
      obtain ⟨ob, r, rfl, ho, v, rfl, hs⟩ := pR.of hs
      exact Go.putL hd g1 g2 g3 g4 (Or.inl hfin) ho (hk _ _ _ _ hs)
    | 2, g3, g5, hs =>
      obtain ⟨x, r, rfl, hs⟩ := pR.of hs
      obtain ⟨ob, r, rfl, ⟨ho, h0, h1⟩, hs⟩ := pR.of hs
      exact Go.putR hd g1 g2 g3 (g5 rfl) h0 h1 g4 (Or.inl hfin) ho (hk _ _ _ _ hs)
    | t + 3, g3, g5, hs =>
      obtain ⟨x, r, rfl, hs⟩ := pI.of hs
      obtain ⟨ob, r, rfl, ⟨ho, h0⟩, v, rfl, hs⟩ := pR.of hs
      have e3 : t + 3 = 3 := by
        rw [kd_of g1] at g3
        unfold fk at g3
        split at g3
        · omega
        · split at g3
          · omega
          · split at g3 <;> omega
      exact Go.putZ hd g1 g2 (g3.trans e3) h0 g4 (Or.inl hfin) ho (hk _ _ _ _ hs)
  | iaload =>
    obtain rfl := Nat.eq_of_beq_eq_true hr
    match t, hs with
    | 0, hs =>
      obtain ⟨i, r, rfl, hs⟩ := pI.of hs
      obtain ⟨ob, r, rfl, ho, v, rfl, hs⟩ := pR.of hs
      exact Go.iaload hd ho (hk _ _ _ _ hs)
    | t + 1, hs =>
      obtain ⟨i, r, rfl, hs⟩ := pI.of hs
      obtain ⟨ob, r, rfl, ⟨rfl, ho⟩, v, rfl, hs⟩ := pR.of hs
      exact Go.sload hd ho (hk _ _ _ _ hs)
  | baload =>
    obtain rfl := Nat.eq_of_beq_eq_true hr
    obtain ⟨i, r, rfl, hs⟩ := pI.of hs
    obtain ⟨ob, r, rfl, ho, v, rfl, hs⟩ := pR.of hs
    exact Go.baload hd ho (hk _ _ _ _ hs)
  | laload =>
    obtain rfl := Nat.eq_of_beq_eq_true hr
    obtain ⟨i, r, rfl, hs⟩ := pI.of hs
    obtain ⟨ob, r, rfl, ho, v, rfl, hs⟩ := pR.of hs
    exact Go.laload hd ho (hk _ _ _ _ hs)
  | aaload =>
    simp only [Bool.and_eq_true, Bool.or_eq_true] at hr
    obtain ⟨ht, hr⟩ := hr
    obtain rfl := Nat.eq_of_beq_eq_true hr
    obtain ⟨i, r, rfl, hs⟩ := pI.of hs
    obtain ⟨ob, r, rfl, ho, v, rfl, hs⟩ := pR.of hs
    exact Go.aaload hd (ht.imp Nat.eq_of_beq_eq_true Nat.eq_of_beq_eq_true) ho (hk _ _ _ _ hs)
  | iastore =>
    obtain rfl := Nat.eq_of_beq_eq_true hr
    obtain ⟨x, r, rfl, hs⟩ := pI.of hs
    obtain ⟨i, r, rfl, hs⟩ := pI.of hs
    obtain ⟨ob, r, rfl, ho, j, v, rfl, rfl, hs⟩ := pR.of hs
    exact Go.iastore hd ho (hk _ _ _ _ hs)
  | bastore =>
    obtain rfl := Nat.eq_of_beq_eq_true hr
    obtain ⟨x, r, rfl, hs⟩ := pI.of hs
    obtain ⟨i, r, rfl, hs⟩ := pI.of hs
    obtain ⟨ob, r, rfl, ⟨ho, h01⟩, j, v, rfl, rfl, hs⟩ := pR.of hs
    exact Go.bastore hd ho h01 (hk _ _ _ _ hs)
  | lastore =>
    obtain rfl := Nat.eq_of_beq_eq_true hr
    obtain ⟨x, r, rfl, hs⟩ := pL.of hs
    obtain ⟨i, r, rfl, hs⟩ := pI.of hs
    obtain ⟨ob, r, rfl, ho, j, v, rfl, rfl, hs⟩ := pR.of hs
    exact Go.lastore hd ho (hk _ _ _ _ hs)
  | aastore =>
    simp only [Bool.and_eq_true, Bool.or_eq_true] at hr
    obtain ⟨ht, hr⟩ := hr
    obtain rfl := Nat.eq_of_beq_eq_true hr
    obtain ⟨x, r, rfl, hs⟩ := pR.of hs
    obtain ⟨i, r, rfl, hs⟩ := pI.of hs
    obtain ⟨ob, r, rfl, ⟨ho, hx⟩, j, rfl, hs⟩ := pR.of hs
    exact Go.aastore hd (ht.imp (fun z => ⟨Nat.eq_of_beq_eq_true z.1, Nat.eq_of_beq_eq_true z.2⟩) (fun z => ⟨Nat.eq_of_beq_eq_true z.1, Nat.eq_of_beq_eq_true z.2⟩)) ho hx (hk _ _ _ _ hs)
  | arraylength =>
    obtain rfl := Nat.eq_of_beq_eq_true hr
    match t, hs with
    | 0, hs =>
      obtain ⟨ob, r, rfl, ty, n, h5, ho, hs⟩ := pR.of hs
      exact Go.alen hd h5 ho (hk _ _ _ _ hs)
    | t + 1, hs =>
      obtain ⟨ob, r, e1, e2, hs2⟩ := pR.of hs
      subst e1
      subst e2
      exact Go.slen hd (hk _ _ _ _ hs2)
  | tableswitch d lo hi offs =>
    simp only [Bool.and_eq_true, decide_eq_true_eq] at hr
    obtain ⟨h1, h2, h3, h4, h5⟩ := hr
    obtain ⟨x, r, rfl, hs⟩ := pI.of hs
    exact Go.tswitch hd h1 h2 h3 h4 h5 (hk _ _ _ _ (swt_sel (f := fun tgt => k tgt ls r h) hs))
  | lookupswitch d ps =>
    simp only [Bool.and_eq_true, decide_eq_true_eq] at hr
    obtain ⟨h1, h2, h3⟩ := hr
    obtain ⟨x, r, rfl, hs⟩ := pI.of hs
    exact Go.lswitch hd h1 h2 h3 (hk _ _ _ _ (swt_sel (f := fun tgt => k tgt ls r h) hs))
  | ifCond cc off =>
    simp only [Bool.and_eq_true, decide_eq_true_eq] at hr
    obtain ⟨hv, hr⟩ := hr
    obtain rfl := Nat.eq_of_beq_eq_true hr
    cases cc
    · obtain ⟨x, r, rfl, h1, h2⟩ := pI.of hs
      first | exact Go.if_eq hd hv (fun z => hk _ _ _ _ (h1 z)) (fun z => hk _ _ _ _ (h2 z)) | exact Go.if_ne hd hv (fun z => hk _ _ _ _ (h1 z)) (fun z => hk _ _ _ _ (h2 z)) | exact Go.if_lt hd hv (fun z => hk _ _ _ _ (h1 z)) (fun z => hk _ _ _ _ (h2 z)) | exact Go.if_ge hd hv (fun z => hk _ _ _ _ (h1 z)) (fun z => hk _ _ _ _ (h2 z)) | exact Go.if_gt hd hv (fun z => hk _ _ _ _ (h1 z)) (fun z => hk _ _ _ _ (h2 z)) | exact Go.if_le hd hv (fun z => hk _ _ _ _ (h1 z)) (fun z => hk _ _ _ _ (h2 z))
    · obtain ⟨x, r, rfl, h1, h2⟩ := pI.of hs
      first | exact Go.if_eq hd hv (fun z => hk _ _ _ _ (h1 z)) (fun z => hk _ _ _ _ (h2 z)) | exact Go.if_ne hd hv (fun z => hk _ _ _ _ (h1 z)) (fun z => hk _ _ _ _ (h2 z)) | exact Go.if_lt hd hv (fun z => hk _ _ _ _ (h1 z)) (fun z => hk _ _ _ _ (h2 z)) | exact Go.if_ge hd hv (fun z => hk _ _ _ _ (h1 z)) (fun z => hk _ _ _ _ (h2 z)) | exact Go.if_gt hd hv (fun z => hk _ _ _ _ (h1 z)) (fun z => hk _ _ _ _ (h2 z)) | exact Go.if_le hd hv (fun z => hk _ _ _ _ (h1 z)) (fun z => hk _ _ _ _ (h2 z))
    · obtain ⟨x, r, rfl, h1, h2⟩ := pI.of hs
      first | exact Go.if_eq hd hv (fun z => hk _ _ _ _ (h1 z)) (fun z => hk _ _ _ _ (h2 z)) | exact Go.if_ne hd hv (fun z => hk _ _ _ _ (h1 z)) (fun z => hk _ _ _ _ (h2 z)) | exact Go.if_lt hd hv (fun z => hk _ _ _ _ (h1 z)) (fun z => hk _ _ _ _ (h2 z)) | exact Go.if_ge hd hv (fun z => hk _ _ _ _ (h1 z)) (fun z => hk _ _ _ _ (h2 z)) | exact Go.if_gt hd hv (fun z => hk _ _ _ _ (h1 z)) (fun z => hk _ _ _ _ (h2 z)) | exact Go.if_le hd hv (fun z => hk _ _ _ _ (h1 z)) (fun z => hk _ _ _ _ (h2 z))
    · obtain ⟨x, r, rfl, h1, h2⟩ := pI.of hs
      first | exact Go.if_eq hd hv (fun z => hk _ _ _ _ (h1 z)) (fun z => hk _ _ _ _ (h2 z)) | exact Go.if_ne hd hv (fun z => hk _ _ _ _ (h1 z)) (fun z => hk _ _ _ _ (h2 z)) | exact Go.if_lt hd hv (fun z => hk _ _ _ _ (h1 z)) (fun z => hk _ _ _ _ (h2 z)) | exact Go.if_ge hd hv (fun z => hk _ _ _ _ (h1 z)) (fun z => hk _ _ _ _ (h2 z)) | exact Go.if_gt hd hv (fun z => hk _ _ _ _ (h1 z)) (fun z => hk _ _ _ _ (h2 z)) | exact Go.if_le hd hv (fun z => hk _ _ _ _ (h1 z)) (fun z => hk _ _ _ _ (h2 z))
    · obtain ⟨x, r, rfl, h1, h2⟩ := pI.of hs
      first | exact Go.if_eq hd hv (fun z => hk _ _ _ _ (h1 z)) (fun z => hk _ _ _ _ (h2 z)) | exact Go.if_ne hd hv (fun z => hk _ _ _ _ (h1 z)) (fun z => hk _ _ _ _ (h2 z)) | exact Go.if_lt hd hv (fun z => hk _ _ _ _ (h1 z)) (fun z => hk _ _ _ _ (h2 z)) | exact Go.if_ge hd hv (fun z => hk _ _ _ _ (h1 z)) (fun z => hk _ _ _ _ (h2 z)) | exact Go.if_gt hd hv (fun z => hk _ _ _ _ (h1 z)) (fun z => hk _ _ _ _ (h2 z)) | exact Go.if_le hd hv (fun z => hk _ _ _ _ (h1 z)) (fun z => hk _ _ _ _ (h2 z))
    · obtain ⟨x, r, rfl, h1, h2⟩ := pI.of hs
      first | exact Go.if_eq hd hv (fun z => hk _ _ _ _ (h1 z)) (fun z => hk _ _ _ _ (h2 z)) | exact Go.if_ne hd hv (fun z => hk _ _ _ _ (h1 z)) (fun z => hk _ _ _ _ (h2 z)) | exact Go.if_lt hd hv (fun z => hk _ _ _ _ (h1 z)) (fun z => hk _ _ _ _ (h2 z)) | exact Go.if_ge hd hv (fun z => hk _ _ _ _ (h1 z)) (fun z => hk _ _ _ _ (h2 z)) | exact Go.if_gt hd hv (fun z => hk _ _ _ _ (h1 z)) (fun z => hk _ _ _ _ (h2 z)) | exact Go.if_le hd hv (fun z => hk _ _ _ _ (h1 z)) (fun z => hk _ _ _ _ (h2 z))
  | if_icmp cc off =>
    simp only [Bool.and_eq_true, decide_eq_true_eq] at hr
    obtain ⟨hv, hr⟩ := hr
    obtain rfl := Nat.eq_of_beq_eq_true hr
    cases cc
    · obtain ⟨x, y, r, rfl, h1, h2⟩ := pII.of hs
      first | exact Go.icmp_eq hd hv (fun z => hk _ _ _ _ (h1 z)) (fun z => hk _ _ _ _ (h2 z)) | exact Go.icmp_ne hd hv (fun z => hk _ _ _ _ (h1 z)) (fun z => hk _ _ _ _ (h2 z)) | exact Go.icmp_lt hd hv (fun z => hk _ _ _ _ (h1 z)) (fun z => hk _ _ _ _ (h2 z)) | exact Go.icmp_ge hd hv (fun z => hk _ _ _ _ (h1 z)) (fun z => hk _ _ _ _ (h2 z)) | exact Go.icmp_gt hd hv (fun z => hk _ _ _ _ (h1 z)) (fun z => hk _ _ _ _ (h2 z)) | exact Go.icmp_le hd hv (fun z => hk _ _ _ _ (h1 z)) (fun z => hk _ _ _ _ (h2 z))
    · obtain ⟨x, y, r, rfl, h1, h2⟩ := pII.of hs
      first | exact Go.icmp_eq hd hv (fun z => hk _ _ _ _ (h1 z)) (fun z => hk _ _ _ _ (h2 z)) | exact Go.icmp_ne hd hv (fun z => hk _ _ _ _ (h1 z)) (fun z => hk _ _ _ _ (h2 z)) | exact Go.icmp_lt hd hv (fun z => hk _ _ _ _ (h1 z)) (fun z => hk _ _ _ _ (h2 z)) | exact Go.icmp_ge hd hv (fun z => hk _ _ _ _ (h1 z)) (fun z => hk _ _ _ _ (h2 z)) | exact Go.icmp_gt hd hv (fun z => hk _ _ _ _ (h1 z)) (fun z => hk _ _ _ _ (h2 z)) | exact Go.icmp_le hd hv (fun z => hk _ _ _ _ (h1 z)) (fun z => hk _ _ _ _ (h2 z))
    · obtain ⟨x, y, r, rfl, h1, h2⟩ := pII.of hs
      first | exact Go.icmp_eq hd hv (fun z => hk _ _ _ _ (h1 z)) (fun z => hk _ _ _ _ (h2 z)) | exact Go.icmp_ne hd hv (fun z => hk _ _ _ _ (h1 z)) (fun z => hk _ _ _ _ (h2 z)) | exact Go.icmp_lt hd hv (fun z => hk _ _ _ _ (h1 z)) (fun z => hk _ _ _ _ (h2 z)) | exact Go.icmp_ge hd hv (fun z => hk _ _ _ _ (h1 z)) (fun z => hk _ _ _ _ (h2 z)) | exact Go.icmp_gt hd hv (fun z => hk _ _ _ _ (h1 z)) (fun z => hk _ _ _ _ (h2 z)) | exact Go.icmp_le hd hv (fun z => hk _ _ _ _ (h1 z)) (fun z => hk _ _ _ _ (h2 z))
    · obtain ⟨x, y, r, rfl, h1, h2⟩ := pII.of hs
      first | exact Go.icmp_eq hd hv (fun z => hk _ _ _ _ (h1 z)) (fun z => hk _ _ _ _ (h2 z)) | exact Go.icmp_ne hd hv (fun z => hk _ _ _ _ (h1 z)) (fun z => hk _ _ _ _ (h2 z)) | exact Go.icmp_lt hd hv (fun z => hk _ _ _ _ (h1 z)) (fun z => hk _ _ _ _ (h2 z)) | exact Go.icmp_ge hd hv (fun z => hk _ _ _ _ (h1 z)) (fun z => hk _ _ _ _ (h2 z)) | exact Go.icmp_gt hd hv (fun z => hk _ _ _ _ (h1 z)) (fun z => hk _ _ _ _ (h2 z)) | exact Go.icmp_le hd hv (fun z => hk _ _ _ _ (h1 z)) (fun z => hk _ _ _ _ (h2 z))
    · obtain ⟨x, y, r, rfl, h1, h2⟩ := pII.of hs
      first | exact Go.icmp_eq hd hv (fun z => hk _ _ _ _ (h1 z)) (fun z => hk _ _ _ _ (h2 z)) | exact Go.icmp_ne hd hv (fun z => hk _ _ _ _ (h1 z)) (fun z => hk _ _ _ _ (h2 z)) | exact Go.icmp_lt hd hv (fun z => hk _ _ _ _ (h1 z)) (fun z => hk _ _ _ _ (h2 z)) | exact Go.icmp_ge hd hv (fun z => hk _ _ _ _ (h1 z)) (fun z => hk _ _ _ _ (h2 z)) | exact Go.icmp_gt hd hv (fun z => hk _ _ _ _ (h1 z)) (fun z => hk _ _ _ _ (h2 z)) | exact Go.icmp_le hd hv (fun z => hk _ _ _ _ (h1 z)) (fun z => hk _ _ _ _ (h2 z))
    · obtain ⟨x, y, r, rfl, h1, h2⟩ := pII.of hs
      first | exact Go.icmp_eq hd hv (fun z => hk _ _ _ _ (h1 z)) (fun z => hk _ _ _ _ (h2 z)) | exact Go.icmp_ne hd hv (fun z => hk _ _ _ _ (h1 z)) (fun z => hk _ _ _ _ (h2 z)) | exact Go.icmp_lt hd hv (fun z => hk _ _ _ _ (h1 z)) (fun z => hk _ _ _ _ (h2 z)) | exact Go.icmp_ge hd hv (fun z => hk _ _ _ _ (h1 z)) (fun z => hk _ _ _ _ (h2 z)) | exact Go.icmp_gt hd hv (fun z => hk _ _ _ _ (h1 z)) (fun z => hk _ _ _ _ (h2 z)) | exact Go.icmp_le hd hv (fun z => hk _ _ _ _ (h1 z)) (fun z => hk _ _ _ _ (h2 z))
  | invokevirtual i =>
    simp only [Bool.and_eq_true, decide_eq_true_eq] at hr
    obtain ⟨hr, h1, h2, h3, h4, h5, h6⟩ := hr
    obtain rfl := Nat.eq_of_beq_eq_true hr
    have ha : a < 292 := Nat.le_of_ble_eq_true h2
    have hk0 := Nat.eq_of_beq_eq_true h3
    have hn := Nat.eq_of_beq_eq_true h4
    have hs : (match Nat.blt t 50 with
      | true => pAs b [] st (fun as st => pR st (fun o st => b8 (szS st) (Ob h o t ∧ S a (vR o :: as) h (rC (rk tb) (fun r h => k (pc + 3) ls (r ++ st) h)))))
      | false => pAs b [] st (fun as st => pR st (fun o st => b8 (szS st) ((o = xh ∨ o = xh + 1 ∨ o = xh + 2) ∧ S a (vR o :: as) h (rC (rk tb) (fun r h => k (pc + 3) ls (r ++ st) h)))))) := hs
    cases hb : Nat.blt t 50 with
    | true =>
      rw [hb] at hs h5
      simp only [decide_eq_true_eq] at h5
      obtain ⟨as, r, rfl, hl, hs⟩ := pAs_of _ _ _ _ hs
      obtain ⟨ob, r, rfl, hs⟩ := pR.of hs
      obtain ⟨h8, ho, hs⟩ := b8.of hs
      obtain ⟨g1, g2, g3⟩ := rmB_of h6 h8
      cases e : vwCl[t]? with
      | none => rw [e] at h5; simp at h5
      | some q =>
        rw [e] at h5
        have h5 : q.1 = cnm (mcn a) := by simpa using h5
        rw [List.append_nil] at hs
        exact Go.callV hd (mt_MOK ha (by omega)).1 (mt_V ha hk0) (by rw [hc]; exact (ml_link h1).1 rfl) (hl.trans hn.symm) e (h5.trans (mcl_of ha).symm) ho g1 (Or.inl g2) ((hS _ _ _ _ hs).mono (fun r' h' z => Go.zero g2 g3 (hk _ _ _ _ (rC_of z))))
    | false =>
      rw [hb] at hs h5
      simp only [decide_eq_true_eq] at h5
      obtain ⟨as, r, rfl, hl, hs⟩ := pAs_of _ _ _ _ hs
      obtain ⟨ob, r, rfl, hs⟩ := pR.of hs
      obtain ⟨h8, ho, hs⟩ := b8.of hs
      obtain ⟨g1, g2, g3⟩ := rmB_of h6 h8
      rw [List.append_nil] at hs
      exact Go.callVS hd (mt_MOK ha (by omega)).1 (mt_V ha hk0) (by rw [hc]; exact (ml_link h1).1 rfl) (hl.trans hn.symm) ((mcl_of ha).trans h5) ho g1 (Or.inl g2) ((hS _ _ _ _ hs).mono (fun r' h' z => Go.zero g2 g3 (hk _ _ _ _ (rC_of z))))
  | invokestatic i =>
    rw [Bool.and_eq_true] at hr
    obtain ⟨hr, hv⟩ := hr
    obtain rfl := Nat.eq_of_beq_eq_true hr
    match t, hv, hs with
    | 0, hv, hs =>
      simp only [Bool.and_eq_true, decide_eq_true_eq] at hv
      obtain ⟨h1, h2, h3, h4, h6⟩ := hv
      obtain ⟨as, r, rfl, hl, hs⟩ := pAs_of _ _ _ _ hs
      obtain ⟨h8, hs⟩ := b8.of hs
      have ha : a < 292 := Nat.le_of_ble_eq_true h2
      have hk0 := Nat.eq_of_beq_eq_true h3
      have hn := Nat.eq_of_beq_eq_true h4
      obtain ⟨g1, g2, g3⟩ := rmB_of h6 h8
      rw [List.append_nil] at hs
      exact Go.callS hd (mt_MOK ha (by omega)).1 (mt_S ha hk0) (by rw [hc]; exact (ml_link h1).1 rfl) (hl.trans hn.symm) g1 (Or.inl g2) ((hS _ _ _ _ hs).mono (fun r' h' z => Go.zero g2 g3 (hk _ _ _ _ (rC_of z))))
    | 1, hv, hs =>
      simp only [Bool.and_eq_true, decide_eq_true_eq] at hv
      obtain ⟨h1, h2, h3, h4, h6⟩ := hv
      obtain ⟨as, r, rfl, hl, hs⟩ := pAs_of _ _ _ _ hs
      obtain ⟨h8, hs⟩ := b8.of hs
      have ha : a < 292 := Nat.le_of_ble_eq_true h2
      have hk0 := Nat.eq_of_beq_eq_true h3
      have hn := Nat.eq_of_beq_eq_true h4
      obtain ⟨g1, g2, g3⟩ := rmB_of h6 h8
      rw [List.append_nil] at hs
      exact Go.callSN hd (mt_MOK ha (by omega)).1 (mt_S ha hk0) (by rw [hc]; exact (ml_link h1).2 (by omega)) (hl.trans hn.symm) g1 (Or.inl g2) ((hS _ _ _ _ hs).mono (fun r' h' z => Go.zero g2 g3 (hk _ _ _ _ (rC_of z))))
    | 2, hv, hs =>
      simp only [Bool.and_eq_true, decide_eq_true_eq] at hv
      obtain ⟨h1, h6⟩ := hv
      have h6 := rmX_of h6
      obtain ⟨n, r, rfl, hs⟩ := pI.of hs
      obtain ⟨dp, r, rfl, hs⟩ := pI.of hs
      obtain ⟨d, r, rfl, hs⟩ := pR.of hs
      obtain ⟨sp, r, rfl, hs⟩ := pI.of hs
      obtain ⟨s, r, rfl, hs⟩ := pR.of hs
      obtain ⟨h8, na, nb, g1, g2, g3, g4, g5, g6, g7, hs⟩ := b8.of hs
      refine Go.arraycopy hd (by rw [hc]; exact ac_link h1) wa_nat wa_st wa_in h6.1 ?_ g1 g2 g3 g4 g5 g6 g7 (hk _ _ _ _ hs)
      rw [szS_eq]
      have : nativeFrameWords "java/lang/System" "arraycopy" 5 = 7 := by decide
      omega
    | 3, hv, hs =>
      simp only [Bool.and_eq_true, decide_eq_true_eq] at hv
      obtain ⟨h1, h6⟩ := hv
      obtain ⟨x, y, r, rfl, hs⟩ := pII.of hs
      obtain ⟨h8, hs⟩ := b8.of hs
      exact Go.mmin hd (by rw [hc, ← wm_min_n]; exact (ml_link h1).1 rfl) (rmY_of h6) h8 (hk _ _ _ _ hs)
    | 4, hv, hs =>
      simp only [Bool.and_eq_true, decide_eq_true_eq] at hv
      obtain ⟨h1, h6⟩ := hv
      obtain ⟨x, y, r, rfl, hs⟩ := pII.of hs
      obtain ⟨h8, hs⟩ := b8.of hs
      exact Go.mmax hd (by rw [hc, ← wm_max_n]; exact (ml_link h1).1 rfl) (rmY_of h6) h8 (hk _ _ _ _ hs)
    | 5, hv, hs =>
      simp only [Bool.and_eq_true, decide_eq_true_eq] at hv
      obtain ⟨h1, h6⟩ := hv
      obtain ⟨x, r, rfl, hs⟩ := pI.of hs
      obtain ⟨h8, hs⟩ := b8.of hs
      exact Go.mabs hd (by rw [hc, ← wm_abs_n]; exact (ml_link h1).1 rfl) (rmY_of h6) h8 (hk _ _ _ _ hs)
    | t + 6, hv, hs => cases hv
  | ireturn =>
    rw [Bool.and_eq_true] at hr
    obtain ⟨hv, hr⟩ := hr
    obtain rfl := Nat.eq_of_beq_eq_true hr
    match t, hv, hs with
    | 0, hv, hs =>
      match st, hs with
      | [.inl x], hs => exact Go.ireturn hd (of_decide_eq_true hv) (by omega) (by omega) hs
    | t + 1, hv, hs =>
      match st, hs with
      | [.inl x], hs => exact Go.zreturn hd (of_decide_eq_true hv) hs.1 (by omega) (by omega) hs.2
  | lreturn =>
    rw [Bool.and_eq_true, decide_eq_true_eq] at hr
    obtain ⟨hv, hr⟩ := hr
    obtain rfl := Nat.eq_of_beq_eq_true hr
    match st, hs with
    | [.inr (.inl x)], hs => exact Go.lreturn hd hv (by omega) (by omega) hs
  | areturn =>
    rw [Bool.and_eq_true] at hr
    obtain ⟨hv, hr⟩ := hr
    obtain rfl := Nat.eq_of_beq_eq_true hr
    split at hv
    · rename_i C e
      match st, hs with
      | [.inr (.inr x)], hs => exact Go.areturn hd e (by omega) (by omega) hs
    · cases hv
  | return_ =>
    rw [Bool.and_eq_true, decide_eq_true_eq] at hr
    obtain ⟨hv, hr⟩ := hr
    obtain rfl := Nat.eq_of_beq_eq_true hr
    match st, hs with
    | [], hs => exact Go.vreturn hd hv (by omega) (by omega) hs
  | _ => exact (show False from hs).elim
theorem seek_sub {t : Nat} : ∀ {C : List Row} {r : Row} {rs : List Row}, seek t C = r :: rs → r.1 = t ∧ ∀ q ∈ r :: rs, q ∈ C
  | [], r, rs, h => by simp [seek] at h
  | a :: C, r, rs, h => by
    simp only [seek] at h
    split at h
    · rename_i e
      injection h with h1 h2
      subst h1; subst h2
      exact ⟨Nat.eq_of_beq_eq_true e, fun q z => z⟩
    · obtain ⟨g1, g2⟩ := seek_sub h
      exact ⟨g1, fun q z => List.mem_cons_of_mem _ (g2 q z)⟩
theorem wp_ok {G : GP} {l : Launch} {m : Nat} {S : Nat → List AV → AH → (Option AV → AH → Prop) → Prop} {Cu : Nat → List (Option AV) → List AV → AH → Prop} {C : List Row} {cuts : List (Nat × Nat)} {K : Option AV → AH → Prop} (hS : ∀ a as h K, S a as h K → Spec G l (mt a) as h K) (hCu : ∀ t ls st h, Cu t ls st h → Go G l (mt m) t ls st h 0 0 K) (hm : m < 292) (hC : C.all (rowOK m) = true) : ∀ (n : Nat) (rs : List Row) (ls : List (Option AV)) (st : List AV) (h : AH), (∀ q ∈ rs, q ∈ C) → wp G S Cu C cuts K n rs ls st h → ∃ r rest, rs = r :: rest ∧ Go G l (mt m) r.1 ls st h 0 0 K
  | 0, rs, ls, st, h, _, hw => by cases rs <;> exact hw.elim
  | n + 1, [], ls, st, h, _, hw => hw.elim
  | n + 1, r :: rest, ls, st, h, hsub, hw => by
    refine ⟨r, rest, rfl, ?_⟩
    refine stp_ok hS hm (List.all_eq_true.mp hC r (hsub r List.mem_cons_self)) hw ?_
    intro t ls st h hk
    split at hk
    · exact (hCu _ _ _ _ hk).forget (fun i a z => cutN_get _ _ i a z)
    · split at hk
      · rename_i e
        obtain ⟨r2, rest2, e2, g⟩ := wp_ok hS hCu hm hC n rest ls st h (fun q z => hsub q (List.mem_cons_of_mem _ z)) hk
        subst e2
        rw [← Nat.eq_of_beq_eq_true (show Nat.beq r2.1 t = true from e)]
        exact g
      · cases e : seek t C with
        | nil => rw [e] at hk; cases n <;> exact hk.elim
        | cons r2 rest2 =>
          obtain ⟨g1, g2⟩ := seek_sub e
          rw [e] at hk
          obtain ⟨r3, rest3, e3, g⟩ := wp_ok hS hCu hm hC n (r2 :: rest2) ls st h g2 hk
          injection e3 with e4 e5
          subst e4
          rw [← g1]
          exact g
/-- from place t of a method's code, n instructions or to the cuts; S stands for calls, Cu for the cuts -/
theorem Go.run {G : GP} {l : Launch} {m t : Nat} {C : List Row} {K : Option AV → AH → Prop} {ls : List (Option AV)} {st : List AV} {h : AH} (n : Nat) (cuts : List (Nat × Nat)) (hm : Nat.blt m 292 = true) (hC : C.all (rowOK m) = true) (hw : ∀ S Cu, (∀ a as h K, Spec G l (mt a) as h K → S a as h K) → (∀ t ls st h, Go G l (mt m) t ls st h 0 0 K → Cu t ls st h) → wp G S Cu C cuts K n (seek t C) ls st h) : Go G l (mt m) t ls st h 0 0 K := by
  have hw := hw (fun a as h K => Spec G l (mt a) as h K) (fun t ls st h => Go G l (mt m) t ls st h 0 0 K) (fun _ _ _ _ z => z) (fun _ _ _ _ z => z)
  have hm : m < 292 := Nat.le_of_ble_eq_true hm
  cases e : seek t C with
  | nil => rw [e] at hw; cases n <;> exact hw.elim
  | cons r2 rest2 =>
    obtain ⟨g1, g2⟩ := seek_sub e
    rw [e] at hw
    obtain ⟨r3, rest3, e3, g⟩ := wp_ok (fun _ _ _ _ z => z) (fun _ _ _ _ z => z) hm hC n (r2 :: rest2) ls st h g2 hw
    injection e3 with e4 e5
    subst e4
    rw [← g1]
    exact g
/-- a method's contract, by its walk -/
theorem Spec.run {G : GP} {l : Launch} {m : Nat} {C : List Row} {K : Option AV → AH → Prop} {as : List AV} {h : AH} (n : Nat) (cuts : List (Nat × Nat)) (hm : Nat.blt m 292 = true) (hk : Nat.blt (mtK m).1 9 = true) (hC : C.all (rowOK m) = true) {L : Nat} {ls : List (Option AV)} (hL : Nat.beq (mdL (mt m)) L = true) (hls : entL as L = ls) (hn : Nat.ble (enL as).length L = true) (hw : ∀ S Cu, (∀ a as h K, Spec G l (mt a) as h K → S a as h K) → (∀ t ls st h, Go G l (mt m) t ls st h 0 0 K → Cu t ls st h) → wp G S Cu C cuts K n (seek 0 C) ls [] h) : Spec G l (mt m) as h K := by
  have hL := Nat.eq_of_beq_eq_true hL
  subst hL
  subst hls
  exact
  Spec.of (mt_MOK (Nat.le_of_ble_eq_true hm) (Nat.le_of_ble_eq_true hk)).1 (mt_MOK (Nat.le_of_ble_eq_true hm) (Nat.le_of_ble_eq_true hk)).2 (Nat.le_of_ble_eq_true hn) (Go.run n cuts hm hC hw)
