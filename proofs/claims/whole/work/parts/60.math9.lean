/-! ===== tokens ===== -/
def ltB (b : Nat) : Bool := Nat.ble 97 b && Nat.ble b 122
def dgB (b : Nat) : Bool := Nat.ble 48 b && Nat.ble b 57
def blB (b : Nat) : Bool := Nat.beq b 32 || Nat.beq b 10
theorem ltB_iff {b : Nat} : ltB b = true ↔ (97 ≤ b ∧ b ≤ 122) := by
  unfold ltB; rw [Bool.and_eq_true]
  exact ⟨fun h => ⟨Nat.le_of_ble_eq_true h.1, Nat.le_of_ble_eq_true h.2⟩, fun h => ⟨Nat.ble_eq_true_of_le h.1, Nat.ble_eq_true_of_le h.2⟩⟩
theorem dgB_iff {b : Nat} : dgB b = true ↔ (48 ≤ b ∧ b ≤ 57) := by
  unfold dgB; rw [Bool.and_eq_true]
  exact ⟨fun h => ⟨Nat.le_of_ble_eq_true h.1, Nat.le_of_ble_eq_true h.2⟩, fun h => ⟨Nat.ble_eq_true_of_le h.1, Nat.ble_eq_true_of_le h.2⟩⟩
theorem blB_iff {b : Nat} : blB b = true ↔ (b = 32 ∨ b = 10) := by
  unfold blB; rw [Bool.or_eq_true]
  exact ⟨fun h => h.imp Nat.eq_of_beq_eq_true Nat.eq_of_beq_eq_true, fun h => h.imp (fun z => by subst z; rfl) (fun z => by subst z; rfl)⟩
def rn (P : Nat → Bool) (t : Nat → Nat) : Nat → Nat → Nat
  | 0, s => s
  | n + 1, s => if P (t s) = true then rn P t n (s + 1) else s
def run (P : Nat → Bool) (t : Nat → Nat) (L s : Nat) : Nat := rn P t (L - s) s
theorem run_T {P : Nat → Bool} {t : Nat → Nat} {L s : Nat} (h : s < L) (hp : P (t s) = true) : run P t L s = run P t L (s + 1) := by
  unfold run
  obtain ⟨n, hn⟩ : ∃ n, L - s = n + 1 := ⟨L - s - 1, by omega⟩
  rw [hn, show L - (s + 1) = n by omega]
  simp only [rn]; rw [if_pos hp]
theorem run_F {P : Nat → Bool} {t : Nat → Nat} {L s : Nat} (hp : ¬ P (t s) = true) : run P t L s = s := by
  unfold run
  cases L - s with
  | zero => rfl
  | succ n => simp only [rn]; rw [if_neg hp]
theorem run_L {P : Nat → Bool} {t : Nat → Nat} {L s : Nat} (h : L ≤ s) : run P t L s = s := by
  unfold run; rw [show L - s = 0 by omega]; rfl
theorem run_sp {P : Nat → Bool} {t : Nat → Nat} {L : Nat} : ∀ (n s : Nat), s + n = L → s ≤ run P t L s ∧ run P t L s ≤ L ∧ (∀ i, s ≤ i → i < run P t L s → P (t i) = true) ∧ (run P t L s < L → ¬ P (t (run P t L s)) = true)
  | 0, s, h => by rw [run_L (by omega)]; exact ⟨Nat.le_refl _, by omega, fun i h1 h2 => by omega, fun z => by omega⟩
  | n + 1, s, h => by
    by_cases q : P (t s) = true
    · rw [run_T (by omega) q]
      obtain ⟨a, b, c, d⟩ := run_sp (P := P) (t := t) (L := L) n (s + 1) (by omega)
      refine ⟨by omega, b, fun i h1 h2 => ?_, d⟩
      by_cases e : i = s
      · subst e; exact q
      · exact c i (by omega) h2
    · rw [run_F q]; exact ⟨Nat.le_refl _, by omega, fun i h1 h2 => by omega, fun _ => q⟩
/-- kind (0 end, 1 word, 2 number, 3 sign, 4 no token), where it begins, where it ends -/
abbrev TK : Type := Nat × Nat × Nat
def tokAt (t : Nat → Nat) (L s : Nat) : TK := if L ≤ s then (0, s, s) else if ltB (t s) = true then (if 8 < run ltB t L s - s then 4 else 1, s, run ltB t L s) else if dgB (t s) = true then (if 20 < run dgB t L s - s ∨ (run dgB t L s < L ∧ ltB (t (run dgB t L s)) = true) then 4 else 2, s, run dgB t L s) else (if t s = 59 then 3 else 4, s, s + 1)
def tok (t : Nat → Nat) (L a : Nat) : TK := tokAt t L (run blB t L a)
theorem tokAt_sp {t : Nat → Nat} {L s : Nat} (hs : s ≤ L) : (tokAt t L s).2.1 = s ∧ s ≤ (tokAt t L s).2.2 ∧ (tokAt t L s).2.2 ≤ L ∧ (tokAt t L s).1 ≤ 4 ∧ ((tokAt t L s).1 = 0 ↔ s = L) ∧ (s < L → s < (tokAt t L s).2.2) := by
  unfold tokAt
  by_cases h0 : L ≤ s
  · rw [if_pos h0]; exact ⟨rfl, Nat.le_refl _, hs, Nat.zero_le _, ⟨fun _ => by omega, fun _ => rfl⟩, fun z => by omega⟩
  · rw [if_neg h0]
    by_cases h1 : ltB (t s) = true
    · rw [if_pos h1]
      obtain ⟨a, b, c, d⟩ := run_sp (P := ltB) (t := t) (L - (s + 1)) (s + 1) (show s + 1 + (L - (s + 1)) = L by omega)
      rw [← run_T (P := ltB) (by omega) h1] at a b
      refine ⟨rfl, by show s ≤ run ltB t L s; omega, b, by show (if _ then 4 else 1) ≤ 4; split <;> decide, ⟨fun z => ?_, fun z => by omega⟩, fun _ => by show s < run ltB t L s; omega⟩
      have z : (if 8 < run ltB t L s - s then 4 else 1) = 0 := z
      split at z <;> cases z
    · rw [if_neg h1]
      by_cases h2 : dgB (t s) = true
      · rw [if_pos h2]
        obtain ⟨a, b, c, d⟩ := run_sp (P := dgB) (t := t) (L - (s + 1)) (s + 1) (show s + 1 + (L - (s + 1)) = L by omega)
        rw [← run_T (P := dgB) (by omega) h2] at a b
        refine ⟨rfl, by show s ≤ run dgB t L s; omega, b, by show (if _ then 4 else 2) ≤ 4; split <;> decide, ⟨fun z => ?_, fun z => by omega⟩, fun _ => by show s < run dgB t L s; omega⟩
        have z : (if 20 < run dgB t L s - s ∨ (run dgB t L s < L ∧ ltB (t (run dgB t L s)) = true) then 4 else 2) = 0 := z
        split at z <;> cases z
      · rw [if_neg h2]
        refine ⟨rfl, by show s ≤ s + 1; omega, by show s + 1 ≤ L; omega, by show (if _ then 3 else 4) ≤ 4; split <;> decide, ⟨fun z => ?_, fun z => by omega⟩, fun _ => Nat.lt_succ_self _⟩
        have z : (if t s = 59 then 3 else 4) = 0 := z
        split at z <;> cases z
theorem tok_sp {t : Nat → Nat} {L a : Nat} (ha : a ≤ L) : a ≤ (tok t L a).2.1 ∧ (tok t L a).2.1 ≤ (tok t L a).2.2 ∧ (tok t L a).2.2 ≤ L ∧ (tok t L a).1 ≤ 4 ∧ ((tok t L a).1 ≠ 0 → (tok t L a).2.1 < (tok t L a).2.2) := by
  obtain ⟨r1, r2, -, -⟩ := run_sp (P := blB) (t := t) (L - a) a (show a + (L - a) = L by omega)
  obtain ⟨b1, b2, b3, b4, b5, b6⟩ := tokAt_sp (t := t) r2
  unfold tok
  refine ⟨by rw [b1]; exact r1, by rw [b1]; exact b2, b3, b4, fun z => ?_⟩
  rw [b1]
  exact b6 (Nat.lt_of_le_of_ne r2 (fun y => z (b5.mpr y)))
/-- a word's letters as one number; a number's value -/
def wcd (t : Nat → Nat) (s : Nat) : Nat → Nat
  | 0 => 0
  | n + 1 => 256 * wcd t s n + t (s + n)
def vdg (t : Nat → Nat) (s : Nat) : Nat → Nat
  | 0 => 0
  | n + 1 => 10 * vdg t s n + (t (s + n) - 48)
theorem wcd_lt {t : Nat → Nat} {s : Nat} : ∀ {n : Nat}, (∀ i, s ≤ i → i < s + n → t i < 256) → wcd t s n < 256 ^ n
  | 0, _ => by show 0 < 256 ^ 0; decide
  | n + 1, h => by
    have ih := wcd_lt (t := t) (s := s) (n := n) (fun i h1 h2 => h i h1 (by omega))
    have := h (s + n) (by omega) (by omega)
    simp only [wcd]
    rw [Nat.pow_succ]
    omega
theorem vdg_lt {t : Nat → Nat} {s : Nat} : ∀ {n : Nat}, (∀ i, s ≤ i → i < s + n → dgB (t i) = true) → vdg t s n < 10 ^ n
  | 0, _ => by show 0 < 10 ^ 0; decide
  | n + 1, h => by
    have ih := vdg_lt (t := t) (s := s) (n := n) (fun i h1 h2 => h i h1 (by omega))
    have := dgB_iff.mp (h (s + n) (by omega) (by omega))
    simp only [vdg]
    rw [Nat.pow_succ]
    omega
/-- a word in the class's own way: by its letters -/
def isW (t : Nat → Nat) (T : TK) (w : List Nat) : Prop := T.1 = 1 ∧ T.2.2 - T.2.1 = w.length ∧ ∀ i, i < w.length → t (T.2.1 + i) = w.getD i 0
theorem wcd_word {t : Nat → Nat} {s n : Nat} (hl : ∀ i, s ≤ i → i < s + n → ltB (t i) = true) (h1 : 1 ≤ n) (h8 : n ≤ 8) :
    (wcd t s n = 0x73697a65 ↔ (n = 4 ∧ t s = 115 ∧ t (s + 1) = 105 ∧ t (s + 2) = 122 ∧ t (s + 3) = 101)) ∧
    (wcd t s n = 0x726f77 ↔ (n = 3 ∧ t s = 114 ∧ t (s + 1) = 111 ∧ t (s + 2) = 119)) ∧
    (wcd t s n = 0x646f74 ↔ (n = 3 ∧ t s = 100 ∧ t (s + 1) = 111 ∧ t (s + 2) = 116)) := by
  have b : ∀ j, j < n → 97 ≤ t (s + j) ∧ t (s + j) ≤ 122 := fun j hj => ltB_iff.mp (hl (s + j) (by omega) (by omega))
  have hn : n = 1 ∨ n = 2 ∨ n = 3 ∨ n = 4 ∨ n = 5 ∨ n = 6 ∨ n = 7 ∨ n = 8 := by omega
  have e0 : wcd t s 1 = t (s + 0) := by simp only [wcd]; omega
  rw [Nat.add_zero] at e0
  have e1 : wcd t s 2 = 256 * wcd t s 1 + t (s + 1) := rfl
  have e2 : wcd t s 3 = 256 * wcd t s 2 + t (s + 2) := rfl
  have e3 : wcd t s 4 = 256 * wcd t s 3 + t (s + 3) := rfl
  have e4 : wcd t s 5 = 256 * wcd t s 4 + t (s + 4) := rfl
  have e5 : wcd t s 6 = 256 * wcd t s 5 + t (s + 5) := rfl
  have e6 : wcd t s 7 = 256 * wcd t s 6 + t (s + 6) := rfl
  have e7 : wcd t s 8 = 256 * wcd t s 7 + t (s + 7) := rfl
  have c0 := b 0 (by omega)
  rw [Nat.add_zero] at c0
  rcases hn with rfl | rfl | rfl | rfl | rfl | rfl | rfl | rfl
  · omega
  · have c1 := b 1 (by omega); omega
  · have c1 := b 1 (by omega); have c2 := b 2 (by omega); omega
  · have c1 := b 1 (by omega); have c2 := b 2 (by omega); have c3 := b 3 (by omega); omega
  · omega
  · omega
  · omega
  · omega
theorem lnBv (n : Nat) : (lN n).toBitVec = BitVec.ofNat 64 n := rfl
theorem lN_sh8 {w b : Nat} (hw : w < 2 ^ 56) (hb : b < 256) : (lN w <<< ((8 : Int32).toInt64 &&& 63)) ||| lN b = lN (256 * w + b) := by
  apply Int64.toBitVec.inj
  rw [Int64.toBitVec_or, Int64.toBitVec_shiftLeft, lnBv, lnBv, lnBv]
  have e : (((8 : Int32).toInt64 &&& 63).toBitVec.smod 64) = 8#64 := by decide
  rw [e]
  apply BitVec.eq_of_toNat_eq
  rw [BitVec.toNat_or, BitVec.shiftLeft_eq', BitVec.toNat_shiftLeft, BitVec.toNat_ofNat, BitVec.toNat_ofNat, BitVec.toNat_ofNat, BitVec.toNat_ofNat]
  rw [Nat.mod_eq_of_lt (show w < 2 ^ 64 by omega), Nat.mod_eq_of_lt (show b < 2 ^ 64 by omega), Nat.mod_eq_of_lt (show 256 * w + b < 2 ^ 64 by omega), Nat.mod_eq_of_lt (show 8 < 2 ^ 64 by decide), Nat.shiftLeft_eq, Nat.mod_eq_of_lt (show w * 2 ^ 8 < 2 ^ 64 by omega), ← Nat.shiftLeft_eq, ← Nat.shiftLeft_add_eq_or_of_lt (show b < 2 ^ 8 by omega), Nat.shiftLeft_eq]
  omega
