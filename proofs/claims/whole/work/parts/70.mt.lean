/-! the Maker's tables -/
def mkP : List Int32 := [3, 5, 9, 17, 33, 6, 10, 18, 34, 12, 20, 36, 24, 40, 48]
def mkV : List Int32 := [1, 3, 4, 5, 9, 10, 11, 12, 13, 14, 15, 16, 17, 27, 28, 29, 30, 31, 32, 33, 34, 35, 36, 37, 38, 39, 40, 41, 42, 43, 44, 45, 46, 47, 48, 49, 50, 51, 52, 53]
def mkN : List Int32 := [-1, 0, -1, 1, 2, 3, -1, -1, -1, 4, 5, 6, 7, 8, 9, 10, 11, 12, -1, -1, -1, -1, -1, -1, -1, -1, -1, 13, 14, 15, 16, 17, 18, 19, 20, 21, 22, 23, 24, 25, 26, 27, 28, 29, 30, 31, 32, 33, 34, 35, 36, 37, 38, 39, -1, -1, -1, -1, -1, -1, -1, -1, -1, -1, -1, -1, -1, -1, -1, -1, -1, -1, -1, -1, -1, -1, -1, -1, -1, -1, -1]
theorem mk_tabs : mkO.map (fun x => ((List.range 15).map (x.2.2.1 0), (List.range 40).map (x.2.2.1 1), (List.range 81).map (x.2.2.1 2))) = some (mkP, mkV, mkN) := by decide +kernel
theorem mk_all {x : OS} (h : mkO = some x) : (List.range 15).map (x.2.2.1 0) = mkP ∧ (List.range 40).map (x.2.2.1 1) = mkV ∧ (List.range 81).map (x.2.2.1 2) = mkN := by
  have h2 := mk_tabs
  rw [h] at h2
  have h3 := Option.some.inj h2
  exact ⟨congrArg (fun z => z.1) h3, congrArg (fun z => z.2.1) h3, congrArg (fun z => z.2.2) h3⟩
theorem tab_at {f : Nat → Int32} {l : List Int32} {n i : Nat} (h : (List.range n).map f = l) (hi : i < n) : f i = l.getD i 0 := by
  rw [← h, List.getD_eq_getElem?_getD, List.getElem?_map, List.getElem?_range hi]
  rfl
