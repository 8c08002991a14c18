/-! ===== the two objects as they are made ===== -/
def LC1 : Option (List CL) := runL crow 250 mC_init 0 (entL [vR 1] (mdL (mt mC_init))) [] ([] ++ [(.inl 9, [], [])]) 0 0
def LM2 (L : List CL) : Option (List CL) := runL crow 250 mM_init 0 (entL [vR 136] (mdL (mt mM_init))) [] (L ++ [(.inl 10, [], [])]) 0 0
def ccI (L : List CL) (k j : Nat) : Int32 := match L[k - 1]? with
  | some c => lkI c.2.1 j
  | none => 7
def ccR (L : List CL) (k j : Nat) : Nat := match L[k - 1]? with
  | some c => lkR c.2.2 j
  | none => 7
def ccS (L : List CL) (k : Nat) : Nat ⊕ (Nat × Nat) := match L[k - 1]? with
  | some c => c.1
  | none => .inl 98
def zI : List (Nat × Nat) := [(2, 2), (2, 3), (17, 0), (17, 1), (24, 1), (24, 2), (24, 3), (86, 2), (86, 3), (122, 0), (129, 0), (1, 2), (89, 6), (136, 2), (136, 11), (136, 17), (136, 18), (136, 27), (159, 0), (159, 1)]
def chkL (L : List CL) : Bool := Nat.beq L.length 159 && ((List.range 159).all (fun k => decide (ccS L (k + 1) = shp (k + 1))) && ((List.range 159).all (fun k => (List.range 13).all (fun j => Nat.beq (crf (k + 1) j) 0 || Nat.beq (ccR L (k + 1) j) (crf (k + 1) j))) && ((List.range 40).all (fun j => Nat.beq (ccR L 136 j) (mrf j)) && ((match L[135]? with
  | some c => c.2.2.all (fun q => Nat.blt q.1 40)
  | none => false) && (zI.all (fun q => decide (ccI L q.1 q.2 = 0)) && (decide (ccI L 2 0 = 8) && (decide (ccI L 2 1 = 8) && (decide (ccI L 17 2 = -1) && (decide (ccI L 136 12 = -1) && (decide ((L[136]?).map (fun c => c.2.1) = some [(1, 8), (0, 8)]) && (decide ((L[2]?).map (fun c => c.2.1) = some []) && (Nat.beq (ccR L 1 0) 2 && (Nat.beq (ccR L 17 4) 19 && (List.range 12).all (fun i => Nat.beq (ccR L 25 i) (26 + 5 * i)))))))))))))))
theorem made_ok : (match LC1 with
  | some L1 => Nat.beq L1.length 135 && (match LM2 L1 with
    | some L2 => chkL L2
    | none => false)
  | none => false) = true := by decide +kernel
