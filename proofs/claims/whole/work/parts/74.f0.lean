/-! the text: threes -/
def vT (i : Nat) : Int32 := mkV.getD i 0
def nT (i : Nat) : Int32 := mkN.getD i 0
/-- the class's point of two -/
noncomputable def cR (x y t : Int32) : Option (Int32 × Int32) := runN (f_X3_pointOf_9 stX3 x y t) 10 (0, 0, 1)
noncomputable def cU (x y t : Int32) : Nat := ((cR x y t).getD (0, 0)).1.toNatClampNeg
noncomputable def cW (x y t : Int32) : Nat := ((cR x y t).getD (0, 0)).2.toNatClampNeg
noncomputable def cP (x y t : Int32) : Int32 := if nT (cU x y t) = -1 then nT (cW x y t) else nT (cU x y t)
/-- the reference's -/
noncomputable def rR (x y t : Int32) : Option Int32 := runN (f_X12_sum_6 (fun _ _ _ _ => none) stX3 x y t) 10 (0, 0)
noncomputable def rU (x y t : Int32) : Nat := ((rR x y t).getD 0).toNatClampNeg
noncomputable def rW (x y t : Int32) : Nat := rU (nI (rU x y t)) (nI (rU x y t)) 1
noncomputable def okA (x y t : Int32) : Bool := decide (cR x y t = some (nI (cU x y t), nI (cW x y t))) && (decide (cU x y t < 81) && (decide (cW x y t < 81) && (decide (rR x y t = some (nI (rU x y t))) && (decide (rU x y t < 81) && (decide (rR (nI (rU x y t)) (nI (rU x y t)) 1 = some (nI (rW x y t))) && (decide (rW x y t < 81) && (if f_X12_first (nI (rU x y t)) = some 2 then (decide (f_X12_first (nI (rW x y t)) = some 1) && decide (nT (rW x y t) = cP x y t)) else ((decide (f_X12_first (nI (rU x y t)) = some 1) || decide (f_X12_first (nI (rU x y t)) = some 0)) && decide (nT (rU x y t) = cP x y t)))))))))
noncomputable def jnB (i j : Nat) : Bool := decide (f_X3_areJoined (vT i) (vT j) = some 1)
/-- the two are alike, for all pairs -/
noncomputable def okB (i j : Nat) : Bool := (decide (f_X12_areJoined (vT i) (vT j) = f_X3_areJoined (vT i) (vT j)) && (decide (f_X3_areJoined (vT i) (vT j) = some 1) || decide (f_X3_areJoined (vT i) (vT j) = some 0))) && (!jnB i j || (okA (vT i) (vT j) 1 && (okA (vT i) (vT j) 2 && (decide (cP (vT i) (vT j) 1 = nI (cP (vT i) (vT j) 1).toNatClampNeg) && (decide (cP (vT i) (vT j) 2 = nI (cP (vT i) (vT j) 2).toNatClampNeg) && (decide ((cP (vT i) (vT j) 1).toNatClampNeg < 40) && decide ((cP (vT i) (vT j) 2).toNatClampNeg < 40)))))))
theorem okB_all : ∀ i, i < 40 → ∀ j, j < 40 → i < j → okB i j = true := by decide +kernel
noncomputable def tP (i j : Nat) (t : Int32) : Nat := (cP (vT i) (vT j) t).toNatClampNeg
noncomputable def thC (i j : Nat) : List Int64 := if jnB i j = true then (if tP i j 1 ≤ j then [] else if tP i j 2 ≤ j then [] else [((bit1 i ||| bit1 j) ||| bit1 (tP i j 1)) ||| bit1 (tP i j 2)]) else []
noncomputable def thC1 (i : Nat) : List Int64 := gC (thC i) (i + 1) (39 - i)
noncomputable def thL : List Int64 := gC thC1 0 40
theorem th_len : thL.length = 40 := by decide +kernel
theorem thL_eq : gC thC1 0 40 = thL := by unfold thL; rfl
theorem th_le : ([] : List Int64).length + (gC thC1 0 40).length ≤ 64 := by
  rw [thL_eq, th_len]
  decide
/-- the reference's tables -/
noncomputable def npT (v : Nat) : Nat := cnt (fun u => decide (f_X12_first (nI u) = some 1)) v
noncomputable def fB (v : Nat) : Bool := if f_X12_first (nI v) = some 1 then (decide (nT v = nI (npT v)) && (decide (vT (npT v) = nI v) && decide (npT v < 40))) else (decide (nT v = -1) && (decide (f_X12_first (nI v) = some 0) || decide (f_X12_first (nI v) = some 2)))
theorem fB_all : ∀ v, v < 81 → fB v = true := by decide +kernel
theorem np_81 : npT 81 = 40 := by decide +kernel
