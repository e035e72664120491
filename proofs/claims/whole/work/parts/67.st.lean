/-! the start: what the new objects hold -/
theorem rr_0 : RR stX12 ((0, []), [], []) (fun _ => 0) 0 0 (-1) (fun _ => none) (fun _ => none) := by
  refine ⟨⟨rfl, rfl, Nat.zero_le _, Nat.zero_le _, fun i hi => absurd hi (Nat.not_lt_zero _)⟩, ⟨rfl, rfl, Nat.zero_le _, ?_, ?_⟩, ⟨rfl, Nat.zero_le _, fun i hi => absurd hi (Nat.not_lt_zero _)⟩, ⟨rfl, rfl⟩, fun j hj => ⟨fun _ => ?_, fun so row h => by cases h⟩, fun j hj => ⟨fun _ => rfl, fun w h => by cases h⟩⟩
  · intro k w h
    cases h
  · intro k w h
    cases h
  · rcases (by omega : j = 0 ∨ j = 1 ∨ j = 2 ∨ j = 3) with rfl | rfl | rfl | rfl <;> rfl
theorem cw_0 : CW stX10 (0, []) := by
  refine ⟨⟨rfl, rfl, Nat.zero_le _, Nat.zero_le _, fun i hi => absurd hi (Nat.not_lt_zero _)⟩, fun p hp => ⟨?_, ?_⟩⟩
  · refine tb_ext (fun i _ => ?_)
    have h1 : tb (nearF [] p) i = false := eq_false_of_ne_true (fun z => by
      obtain ⟨_, j, hj, _⟩ := (tb_near hp).mp z
      exact absurd hj (Nat.not_lt_zero _))
    have h2 : stX10.2.2.2 3 p = 0 := rfl
    rw [show ((0, []) : Wd).2 = [] from rfl, h1, h2, tb_0]
  · rfl
theorem rdr_0 : RDR stX5 (fun _ => 0) 0 0 (-1) := ⟨rfl, Nat.zero_le _, rfl, rfl, fun i hi => absurd hi (Nat.not_lt_zero _)⟩
theorem wfs_0 : WFs ((0, []), [], []) (fun _ => none) := ⟨fun i hi => absurd hi (Nat.not_lt_zero _), fun w hw => absurd hw List.not_mem_nil, fun w hw => absurd hw List.not_mem_nil, fun j w h => absurd h (by simp)⟩
theorem mkr_0 {x : OS} (h : mkO = some x) : MKR x := init_3 h
