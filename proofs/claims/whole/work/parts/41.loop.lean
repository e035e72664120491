/-! the law's loop -/
def AgAll (l : Launch) (G : mG) (J : mM → Prop) (a b ao : Nat) : Prop := Ag_feed l G J a b ao ∧ Ag_world l G J a b ao ∧ Ag_fault l G J a b ao ∧ Ag_line l G J a b ao ∧ Ag_through l G J a b ao ∧ Ag_joined l G J a b ao ∧ Ag_near l G J a b ao ∧ Ag_across l G J a b ao ∧ Ag_spanned l G J a b ao ∧ Ag_hyper l G J a b ao ∧ Ag_regular l G J a b ao ∧ Ag_own l G J a b ao ∧ Ag_law l G J a b ao ∧ Ag_order l G J a b ao ∧ Ag_meets l G J a b ao ∧ Ag_even l G J a b ao ∧ Ag_evens l G J a b ao ∧ Ag_tight l G J a b ao ∧ Ag_ovoid l G J a b ao ∧ Ag_ovoids l G J a b ao ∧ Ag_spread l G J a b ao ∧ Ag_spreads l G J a b ao ∧ Ag_cap l G J a b ao ∧ Ag_triads l G J a b ao ∧ Ag_walks l G J a b ao ∧ Ag_far l G J a b ao ∧ Ag_widest l G J a b ao ∧ Ag_ring l G J a b ao ∧ Ag_parts l G J a b ao ∧ Ag_rank l G J a b ao ∧ Ag_code l G J a b ao ∧ Ag_turnings l G J a b ao ∧ Ag_orbit l G J a b ao ∧ Ag_like l G J a b ao ∧ Ag_add l G J a b ao ∧ Ag_drop l G J a b ao ∧ Ag_dual l G J a b ao ∧ Ag_left l G J a b ao ∧ Ag_undo l G J a b ao ∧ Ag_again l G J a b ao ∧ Ag_perform l G J a b ao ∧ Ag_tray l G J a b ao ∧ Ag_write l G J a b ao ∧ Ag_pour l G J a b ao ∧ Ag_image l G J a b ao ∧ Ag_restore l G J a b ao ∧ Ag_count l G J a b ao
theorem and63 (A : Int32) : ∃ n, n < 64 ∧ A &&& 63 = nI n := by
  refine ⟨(A.toBitVec &&& 63#32).toNat, ?_, ?_⟩
  · rw [BitVec.toNat_and]
    exact Nat.lt_of_le_of_lt Nat.and_le_right (by decide)
  · apply Int32.toBitVec_inj.mp
    rw [Int32.toBitVec_and]
    show A.toBitVec &&& 63#32 = BitVec.ofNat 32 _
    rw [BitVec.ofNat_toNat, BitVec.setWidth_eq]
set_option maxHeartbeats 8000000 in
set_option maxRecDepth 100000 in
theorem law_switch {p : Program} {l : Launch} {e : Env} {s : State} {m : MethodId} {args : Array Value} {below : List Frame} {meth : Method} {c : Code} {G : mG} {L : Nat} {xs : Nat → Int32} {bS a b ao : Nat} (X : mX G p m c code 8 s args RL) (hX : va_X bS L xs s s.heap) (hbl : bS < s.heap.size) (hbA : ¬ mA G bS) {J : mM → Prop} (hJa : ∀ m, J m → ∃ fs, m a = some (.inr (LX11.1, fs))) (hAg : AgAll l G J a b ao) {x4 A0 A1 A2 A3 A4 A5 : Int32} (g1 : vp_in (x4 + 1) L ∧ xs (x4 + 1).toNatClampNeg = A1) (g2 : vp_in (x4 + 2) L ∧ xs (x4 + 2).toNatClampNeg = A2) (g3 : vp_in (x4 + 3) L ∧ xs (x4 + 3).toNatClampNeg = A3) (g4 : vp_in (x4 + 4) L ∧ xs (x4 + 4).toNatClampNeg = A4) (g5 : vp_in (x4 + 5) L ∧ xs (x4 + 5).toNatClampNeg = A5) {mm : mM} {H : Heap} {locs : List Loc} {ls : Array Slot} (hJ : J mm) (hH : mH G mm s.heap H locs) (hl : lv_has ls 8 [(0, .ref bS), (1, .ref a), (2, .ref b), (3, .ref ao), (4, .int x4)]) {cells slots : Nat} (hc : cells + 161 ≤ 601024) (hs : slots + 7887 ≤ 7293034) {Q : State → Prop}
    (kk : ∀ (mm : mM) (H : Heap) (locs : List Loc) (ls : Array Slot), J mm → mH G mm s.heap H locs → lv_has ls 8 [(0, .ref bS), (1, .ref a), (2, .ref b), (3, .ref ao), (4, .int x4)] → W p l e room_1 s m args below meth c H locs (cells + 161) (slots + 7887) Q (F0 m 2497 ls [])) :
    W p l e room_1 s m args below meth c H locs cells slots Q (F0 m 40 ls [.int (A0 &&& 63)]) := by
  obtain ⟨w, hw, ew⟩ := and63 A0
  rw [ew]
  clear ew
  match w, hw with
  | 0, _ => exact lv_tableIn (x := nI 0) (off := 204) (tgt := 244) X.x X.b (dk DL_law_0 24 rfl) (by decide +kernel) (by decide +kernel) rfl (by decide) (lc_feed X hX hbl hbA hJa (hAg.1) g1 g2 g3 g4 g5 hJ hH hl hc hs kk)
  | 1, _ => exact lv_tableIn (x := nI 1) (off := 277) (tgt := 317) X.x X.b (dk DL_law_0 24 rfl) (by decide +kernel) (by decide +kernel) rfl (by decide) (lc_world X hX hbl hbA hJa (hAg.2.1) g1 g2 g3 g4 g5 hJ hH hl hc hs kk)
  | 2, _ => exact lv_tableIn (x := nI 2) (off := 333) (tgt := 373) X.x X.b (dk DL_law_0 24 rfl) (by decide +kernel) (by decide +kernel) rfl (by decide) (lc_fault X hX hbl hbA hJa (hAg.2.2.1) g1 g2 g3 g4 g5 hJ hH hl hc hs kk)
  | 3, _ => exact lv_tableIn (x := nI 3) (off := 358) (tgt := 398) X.x X.b (dk DL_law_0 24 rfl) (by decide +kernel) (by decide +kernel) rfl (by decide) (lc_line X hX hbl hbA hJa (hAg.2.2.2.1) g1 g2 g3 g4 g5 hJ hH hl hc hs kk)
  | 4, _ => exact lv_tableIn (x := nI 4) (off := 413) (tgt := 453) X.x X.b (dk DL_law_0 24 rfl) (by decide +kernel) (by decide +kernel) rfl (by decide) (lc_through X hX hbl hbA hJa (hAg.2.2.2.2.1) g1 g2 g3 g4 g5 hJ hH hl hc hs kk)
  | 5, _ => exact lv_tableIn (x := nI 5) (off := 468) (tgt := 508) X.x X.b (dk DL_law_0 24 rfl) (by decide +kernel) (by decide +kernel) rfl (by decide) (lc_joined X hX hbl hbA hJa (hAg.2.2.2.2.2.1) g1 g2 g3 g4 g5 hJ hH hl hc hs kk)
  | 6, _ => exact lv_tableIn (x := nI 6) (off := 536) (tgt := 576) X.x X.b (dk DL_law_0 24 rfl) (by decide +kernel) (by decide +kernel) rfl (by decide) (lc_near X hX hbl hbA hJa (hAg.2.2.2.2.2.2.1) g1 g2 g3 g4 g5 hJ hH hl hc hs kk)
  | 7, _ => exact lv_tableIn (x := nI 7) (off := 591) (tgt := 631) X.x X.b (dk DL_law_0 24 rfl) (by decide +kernel) (by decide +kernel) rfl (by decide) (lc_across X hX hbl hbA hJa (hAg.2.2.2.2.2.2.2.1) g1 g2 g3 g4 g5 hJ hH hl hc hs kk)
  | 8, _ => exact lv_tableIn (x := nI 8) (off := 678) (tgt := 718) X.x X.b (dk DL_law_0 24 rfl) (by decide +kernel) (by decide +kernel) rfl (by decide) (lc_spanned X hX hbl hbA hJa (hAg.2.2.2.2.2.2.2.2.1) g1 g2 g3 g4 g5 hJ hH hl hc hs kk)
  | 9, _ => exact lv_tableIn (x := nI 9) (off := 765) (tgt := 805) X.x X.b (dk DL_law_0 24 rfl) (by decide +kernel) (by decide +kernel) rfl (by decide) (lc_hyper X hX hbl hbA hJa (hAg.2.2.2.2.2.2.2.2.2.1) g1 g2 g3 g4 g5 hJ hH hl hc hs kk)
  | 10, _ => exact lv_tableIn (x := nI 10) (off := 832) (tgt := 872) X.x X.b (dk DL_law_0 24 rfl) (by decide +kernel) (by decide +kernel) rfl (by decide) (lc_regular X hX hbl hbA hJa (hAg.2.2.2.2.2.2.2.2.2.2.1) g1 g2 g3 g4 g5 hJ hH hl hc hs kk)
  | 11, _ => exact lv_tableIn (x := nI 11) (off := 907) (tgt := 947) X.x X.b (dk DL_law_0 24 rfl) (by decide +kernel) (by decide +kernel) rfl (by decide) (lc_own X hX hbl hbA hJa (hAg.2.2.2.2.2.2.2.2.2.2.2.1) g1 g2 g3 g4 g5 hJ hH hl hc hs kk)
  | 12, _ => exact lv_tableIn (x := nI 12) (off := 991) (tgt := 1031) X.x X.b (dk DL_law_0 24 rfl) (by decide +kernel) (by decide +kernel) rfl (by decide) (lc_law X hX hbl hbA hJa (hAg.2.2.2.2.2.2.2.2.2.2.2.2.1) g1 g2 g3 g4 g5 hJ hH hl hc hs kk)
  | 13, _ => exact lv_tableIn (x := nI 13) (off := 1004) (tgt := 1044) X.x X.b (dk DL_law_0 24 rfl) (by decide +kernel) (by decide +kernel) rfl (by decide) (lc_order X hX hbl hbA hJa (hAg.2.2.2.2.2.2.2.2.2.2.2.2.2.1) g1 g2 g3 g4 g5 hJ hH hl hc hs kk)
  | 14, _ => exact lv_tableIn (x := nI 14) (off := 1045) (tgt := 1085) X.x X.b (dk DL_law_0 24 rfl) (by decide +kernel) (by decide +kernel) rfl (by decide) (lc_meets X hX hbl hbA hJa (hAg.2.2.2.2.2.2.2.2.2.2.2.2.2.2.1) g1 g2 g3 g4 g5 hJ hH hl hc hs kk)
  | 15, _ => exact lv_tableIn (x := nI 15) (off := 1145) (tgt := 1185) X.x X.b (dk DL_law_0 24 rfl) (by decide +kernel) (by decide +kernel) rfl (by decide) (lc_even X hX hbl hbA hJa (hAg.2.2.2.2.2.2.2.2.2.2.2.2.2.2.2.1) g1 g2 g3 g4 g5 hJ hH hl hc hs kk)
  | 16, _ => exact lv_tableIn (x := nI 16) (off := 1233) (tgt := 1273) X.x X.b (dk DL_law_0 24 rfl) (by decide +kernel) (by decide +kernel) rfl (by decide) (lc_evens X hX hbl hbA hJa (hAg.2.2.2.2.2.2.2.2.2.2.2.2.2.2.2.2.1) g1 g2 g3 g4 g5 hJ hH hl hc hs kk)
  | 17, _ => exact lv_tableIn (x := nI 17) (off := 1258) (tgt := 1298) X.x X.b (dk DL_law_0 24 rfl) (by decide +kernel) (by decide +kernel) rfl (by decide) (lc_tight X hX hbl hbA hJa (hAg.2.2.2.2.2.2.2.2.2.2.2.2.2.2.2.2.2.1) g1 g2 g3 g4 g5 hJ hH hl hc hs kk)
  | 18, _ => exact lv_tableIn (x := nI 18) (off := 1346) (tgt := 1386) X.x X.b (dk DL_law_0 24 rfl) (by decide +kernel) (by decide +kernel) rfl (by decide) (lc_ovoid X hX hbl hbA hJa (hAg.2.2.2.2.2.2.2.2.2.2.2.2.2.2.2.2.2.2.1) g1 g2 g3 g4 g5 hJ hH hl hc hs kk)
  | 19, _ => exact lv_tableIn (x := nI 19) (off := 1360) (tgt := 1400) X.x X.b (dk DL_law_0 24 rfl) (by decide +kernel) (by decide +kernel) rfl (by decide) (lc_ovoids X hX hbl hbA hJa (hAg.2.2.2.2.2.2.2.2.2.2.2.2.2.2.2.2.2.2.2.1) g1 g2 g3 g4 g5 hJ hH hl hc hs kk)
  | 20, _ => exact lv_tableIn (x := nI 20) (off := 1373) (tgt := 1413) X.x X.b (dk DL_law_0 24 rfl) (by decide +kernel) (by decide +kernel) rfl (by decide) (lc_spread X hX hbl hbA hJa (hAg.2.2.2.2.2.2.2.2.2.2.2.2.2.2.2.2.2.2.2.2.1) g1 g2 g3 g4 g5 hJ hH hl hc hs kk)
  | 21, _ => exact lv_tableIn (x := nI 21) (off := 1387) (tgt := 1427) X.x X.b (dk DL_law_0 24 rfl) (by decide +kernel) (by decide +kernel) rfl (by decide) (lc_spreads X hX hbl hbA hJa (hAg.2.2.2.2.2.2.2.2.2.2.2.2.2.2.2.2.2.2.2.2.2.1) g1 g2 g3 g4 g5 hJ hH hl hc hs kk)
  | 22, _ => exact lv_tableIn (x := nI 22) (off := 1400) (tgt := 1440) X.x X.b (dk DL_law_0 24 rfl) (by decide +kernel) (by decide +kernel) rfl (by decide) (lc_cap X hX hbl hbA hJa (hAg.2.2.2.2.2.2.2.2.2.2.2.2.2.2.2.2.2.2.2.2.2.2.1) g1 g2 g3 g4 g5 hJ hH hl hc hs kk)
  | 23, _ => exact lv_tableIn (x := nI 23) (off := 1414) (tgt := 1454) X.x X.b (dk DL_law_0 24 rfl) (by decide +kernel) (by decide +kernel) rfl (by decide) (lc_triads X hX hbl hbA hJa (hAg.2.2.2.2.2.2.2.2.2.2.2.2.2.2.2.2.2.2.2.2.2.2.2.1) g1 g2 g3 g4 g5 hJ hH hl hc hs kk)
  | 24, _ => exact lv_tableIn (x := nI 24) (off := 1439) (tgt := 1479) X.x X.b (dk DL_law_0 24 rfl) (by decide +kernel) (by decide +kernel) rfl (by decide) (lc_walks X hX hbl hbA hJa (hAg.2.2.2.2.2.2.2.2.2.2.2.2.2.2.2.2.2.2.2.2.2.2.2.2.1) g1 g2 g3 g4 g5 hJ hH hl hc hs kk)
  | 25, _ => exact lv_tableIn (x := nI 25) (off := 1495) (tgt := 1535) X.x X.b (dk DL_law_0 24 rfl) (by decide +kernel) (by decide +kernel) rfl (by decide) (lc_far X hX hbl hbA hJa (hAg.2.2.2.2.2.2.2.2.2.2.2.2.2.2.2.2.2.2.2.2.2.2.2.2.2.1) g1 g2 g3 g4 g5 hJ hH hl hc hs kk)
  | 26, _ => exact lv_tableIn (x := nI 26) (off := 1563) (tgt := 1603) X.x X.b (dk DL_law_0 24 rfl) (by decide +kernel) (by decide +kernel) rfl (by decide) (lc_widest X hX hbl hbA hJa (hAg.2.2.2.2.2.2.2.2.2.2.2.2.2.2.2.2.2.2.2.2.2.2.2.2.2.2.1) g1 g2 g3 g4 g5 hJ hH hl hc hs kk)
  | 27, _ => exact lv_tableIn (x := nI 27) (off := 1576) (tgt := 1616) X.x X.b (dk DL_law_0 24 rfl) (by decide +kernel) (by decide +kernel) rfl (by decide) (lc_ring X hX hbl hbA hJa (hAg.2.2.2.2.2.2.2.2.2.2.2.2.2.2.2.2.2.2.2.2.2.2.2.2.2.2.2.1) g1 g2 g3 g4 g5 hJ hH hl hc hs kk)
  | 28, _ => exact lv_tableIn (x := nI 28) (off := 1589) (tgt := 1629) X.x X.b (dk DL_law_0 24 rfl) (by decide +kernel) (by decide +kernel) rfl (by decide) (lc_parts X hX hbl hbA hJa (hAg.2.2.2.2.2.2.2.2.2.2.2.2.2.2.2.2.2.2.2.2.2.2.2.2.2.2.2.2.1) g1 g2 g3 g4 g5 hJ hH hl hc hs kk)
  | 29, _ => exact lv_tableIn (x := nI 29) (off := 1602) (tgt := 1642) X.x X.b (dk DL_law_0 24 rfl) (by decide +kernel) (by decide +kernel) rfl (by decide) (lc_rank X hX hbl hbA hJa (hAg.2.2.2.2.2.2.2.2.2.2.2.2.2.2.2.2.2.2.2.2.2.2.2.2.2.2.2.2.2.1) g1 g2 g3 g4 g5 hJ hH hl hc hs kk)
  | 30, _ => exact lv_tableIn (x := nI 30) (off := 1658) (tgt := 1698) X.x X.b (dk DL_law_0 24 rfl) (by decide +kernel) (by decide +kernel) rfl (by decide) (lc_code X hX hbl hbA hJa (hAg.2.2.2.2.2.2.2.2.2.2.2.2.2.2.2.2.2.2.2.2.2.2.2.2.2.2.2.2.2.2.1) g1 g2 g3 g4 g5 hJ hH hl hc hs kk)
  | 31, _ => exact lv_tableIn (x := nI 31) (off := 1714) (tgt := 1754) X.x X.b (dk DL_law_0 24 rfl) (by decide +kernel) (by decide +kernel) rfl (by decide) (lc_turnings X hX hbl hbA hJa (hAg.2.2.2.2.2.2.2.2.2.2.2.2.2.2.2.2.2.2.2.2.2.2.2.2.2.2.2.2.2.2.2.1) g1 g2 g3 g4 g5 hJ hH hl hc hs kk)
  | 32, _ => exact lv_tableIn (x := nI 32) (off := 1728) (tgt := 1768) X.x X.b (dk DL_law_0 24 rfl) (by decide +kernel) (by decide +kernel) rfl (by decide) (lc_orbit X hX hbl hbA hJa (hAg.2.2.2.2.2.2.2.2.2.2.2.2.2.2.2.2.2.2.2.2.2.2.2.2.2.2.2.2.2.2.2.2.1) g1 g2 g3 g4 g5 hJ hH hl hc hs kk)
  | 33, _ => exact lv_tableIn (x := nI 33) (off := 1783) (tgt := 1823) X.x X.b (dk DL_law_0 24 rfl) (by decide +kernel) (by decide +kernel) rfl (by decide) (lc_like X hX hbl hbA hJa (hAg.2.2.2.2.2.2.2.2.2.2.2.2.2.2.2.2.2.2.2.2.2.2.2.2.2.2.2.2.2.2.2.2.2.1) g1 g2 g3 g4 g5 hJ hH hl hc hs kk)
  | 34, _ => exact lv_tableIn (x := nI 34) (off := 1839) (tgt := 1879) X.x X.b (dk DL_law_0 24 rfl) (by decide +kernel) (by decide +kernel) rfl (by decide) (lc_add X hX hbl hbA hJa (hAg.2.2.2.2.2.2.2.2.2.2.2.2.2.2.2.2.2.2.2.2.2.2.2.2.2.2.2.2.2.2.2.2.2.2.1) g1 g2 g3 g4 g5 hJ hH hl hc hs kk)
  | 35, _ => exact lv_tableIn (x := nI 35) (off := 1927) (tgt := 1967) X.x X.b (dk DL_law_0 24 rfl) (by decide +kernel) (by decide +kernel) rfl (by decide) (lc_drop X hX hbl hbA hJa (hAg.2.2.2.2.2.2.2.2.2.2.2.2.2.2.2.2.2.2.2.2.2.2.2.2.2.2.2.2.2.2.2.2.2.2.2.1) g1 g2 g3 g4 g5 hJ hH hl hc hs kk)
  | 36, _ => exact lv_tableIn (x := nI 36) (off := 1982) (tgt := 2022) X.x X.b (dk DL_law_0 24 rfl) (by decide +kernel) (by decide +kernel) rfl (by decide) (lc_dual X hX hbl hbA hJa (hAg.2.2.2.2.2.2.2.2.2.2.2.2.2.2.2.2.2.2.2.2.2.2.2.2.2.2.2.2.2.2.2.2.2.2.2.2.1) g1 g2 g3 g4 g5 hJ hH hl hc hs kk)
  | 37, _ => exact lv_tableIn (x := nI 37) (off := 1995) (tgt := 2035) X.x X.b (dk DL_law_0 24 rfl) (by decide +kernel) (by decide +kernel) rfl (by decide) (lc_left X hX hbl hbA hJa (hAg.2.2.2.2.2.2.2.2.2.2.2.2.2.2.2.2.2.2.2.2.2.2.2.2.2.2.2.2.2.2.2.2.2.2.2.2.2.1) g1 g2 g3 g4 g5 hJ hH hl hc hs kk)
  | 38, _ => exact lv_tableIn (x := nI 38) (off := 2051) (tgt := 2091) X.x X.b (dk DL_law_0 24 rfl) (by decide +kernel) (by decide +kernel) rfl (by decide) (lc_undo X hX hbl hbA hJa (hAg.2.2.2.2.2.2.2.2.2.2.2.2.2.2.2.2.2.2.2.2.2.2.2.2.2.2.2.2.2.2.2.2.2.2.2.2.2.2.1) g1 g2 g3 g4 g5 hJ hH hl hc hs kk)
  | 39, _ => exact lv_tableIn (x := nI 39) (off := 2064) (tgt := 2104) X.x X.b (dk DL_law_0 24 rfl) (by decide +kernel) (by decide +kernel) rfl (by decide) (lc_again X hX hbl hbA hJa (hAg.2.2.2.2.2.2.2.2.2.2.2.2.2.2.2.2.2.2.2.2.2.2.2.2.2.2.2.2.2.2.2.2.2.2.2.2.2.2.2.1) g1 g2 g3 g4 g5 hJ hH hl hc hs kk)
  | 40, _ => exact lv_tableIn (x := nI 40) (off := 2077) (tgt := 2117) X.x X.b (dk DL_law_0 24 rfl) (by decide +kernel) (by decide +kernel) rfl (by decide) (lc_perform X hX hbl hbA hJa (hAg.2.2.2.2.2.2.2.2.2.2.2.2.2.2.2.2.2.2.2.2.2.2.2.2.2.2.2.2.2.2.2.2.2.2.2.2.2.2.2.2.1) g1 g2 g3 g4 g5 hJ hH hl hc hs kk)
  | 41, _ => exact lv_tableIn (x := nI 41) (off := 2133) (tgt := 2173) X.x X.b (dk DL_law_0 24 rfl) (by decide +kernel) (by decide +kernel) rfl (by decide) (lc_tray X hX hbl hbA hJa (hAg.2.2.2.2.2.2.2.2.2.2.2.2.2.2.2.2.2.2.2.2.2.2.2.2.2.2.2.2.2.2.2.2.2.2.2.2.2.2.2.2.2.1) g1 g2 g3 g4 g5 hJ hH hl hc hs kk)
  | 42, _ => exact lv_tableIn (x := nI 42) (off := 2193) (tgt := 2233) X.x X.b (dk DL_law_0 24 rfl) (by decide +kernel) (by decide +kernel) rfl (by decide) (lc_write X hX hbl hbA hJa (hAg.2.2.2.2.2.2.2.2.2.2.2.2.2.2.2.2.2.2.2.2.2.2.2.2.2.2.2.2.2.2.2.2.2.2.2.2.2.2.2.2.2.2.1) g1 g2 g3 g4 g5 hJ hH hl hc hs kk)
  | 43, _ => exact lv_tableIn (x := nI 43) (off := 2304) (tgt := 2344) X.x X.b (dk DL_law_0 24 rfl) (by decide +kernel) (by decide +kernel) rfl (by decide) (lc_pour X hX hbl hbA hJa (hAg.2.2.2.2.2.2.2.2.2.2.2.2.2.2.2.2.2.2.2.2.2.2.2.2.2.2.2.2.2.2.2.2.2.2.2.2.2.2.2.2.2.2.2.1) g1 g2 g3 g4 g5 hJ hH hl hc hs kk)
  | 44, _ => exact lv_tableIn (x := nI 44) (off := 2360) (tgt := 2400) X.x X.b (dk DL_law_0 24 rfl) (by decide +kernel) (by decide +kernel) rfl (by decide) (lc_image X hX hbl hbA hJa (hAg.2.2.2.2.2.2.2.2.2.2.2.2.2.2.2.2.2.2.2.2.2.2.2.2.2.2.2.2.2.2.2.2.2.2.2.2.2.2.2.2.2.2.2.2.1) g1 g2 g3 g4 g5 hJ hH hl hc hs kk)
  | 45, _ => exact lv_tableIn (x := nI 45) (off := 2396) (tgt := 2436) X.x X.b (dk DL_law_0 24 rfl) (by decide +kernel) (by decide +kernel) rfl (by decide) (lc_restore X hX hbl hbA hJa (hAg.2.2.2.2.2.2.2.2.2.2.2.2.2.2.2.2.2.2.2.2.2.2.2.2.2.2.2.2.2.2.2.2.2.2.2.2.2.2.2.2.2.2.2.2.2.1) g1 g2 g3 g4 g5 hJ hH hl hc hs kk)
  | 46, _ => exact lv_tableIn (x := nI 46) (off := 2432) (tgt := 2472) X.x X.b (dk DL_law_0 24 rfl) (by decide +kernel) (by decide +kernel) rfl (by decide) (lc_count X hX hbl hbA hJa (hAg.2.2.2.2.2.2.2.2.2.2.2.2.2.2.2.2.2.2.2.2.2.2.2.2.2.2.2.2.2.2.2.2.2.2.2.2.2.2.2.2.2.2.2.2.2.2) g1 g2 g3 g4 g5 hJ hH hl hc hs kk)
  | k + 47, hk =>
    refine lv_tableOut (x := nI (k + 47)) (tgt := 2497) X.x X.b (dk DL_law_0 24 rfl) (Or.inr ?_) (by decide) ?_
    · rw [nI_toInt (by omega)]
      omega
    · exact W.widen (k := cells + 161) (n := slots + 7887) (Nat.le_add_right _ _) (Nat.le_add_right _ _) (kk _ _ _ _ hJ hH hl)
theorem add_in {i L k : Nat} (hL : L ≤ 3072) (h : 6 * i + 6 ≤ L) (hk : k < 6) : vp_in (nI (6 * i) + nI k) L := by
  rw [nI_add]
  exact vp_in_nI (by omega) (by omega)
set_option maxHeartbeats 8000000 in
set_option maxRecDepth 100000 in
theorem law_loop {p : Program} {l : Launch} {e : Env} {s : State} {m : MethodId} {args : Array Value} {below : List Frame} {meth : Method} {c : Code} {G : mG} {L : Nat} {xs : Nat → Int32} {bS a b ao : Nat} (hL : L ≤ 3072) (X : mX G p m c code 8 s args RL) (hX : va_X bS L xs s s.heap) (hbl : bS < s.heap.size) (hbA : ¬ mA G bS) {J : mM → Prop} (hJa : ∀ m, J m → ∃ fs, m a = some (.inr (LX11.1, fs))) (hAg : AgAll l G J a b ao) {Q : State → Prop}
    (kend : ∀ (mm : mM) (H : Heap) (locs : List Loc) (ls : Array Slot) (cells slots : Nat), mH G mm s.heap H locs → cells ≤ 601024 → slots ≤ 7293034 → W p l e room_1 s m args below meth c H locs cells slots Q (F0 m 2504 ls [.int 1])) :
    ∀ (n i : Nat) (x4 : Int32), 6 * i ≤ L → L < 6 * i + 6 * n → x4 = nI (6 * i) → ∀ (mm : mM) (H : Heap) (locs : List Loc) (ls : Array Slot) (cells slots : Nat), J mm → mH G mm s.heap H locs → lv_has ls 8 [(0, .ref bS), (1, .ref a), (2, .ref b), (3, .ref ao), (4, .int x4)] → cells ≤ 1000 + 161 * i → slots ≤ 30000 + 7887 * i → W p l e room_1 s m args below meth c H locs cells slots Q (F0 m 23 ls []) := by
  intro n
  induction n with
  | zero =>
    intro i x4 h1 h2
    omega
  | succ n ih =>
    intro i x4 hi hin ex4 mm H locs ls cells slots hJ hH hl hc hs
    refine lv_iload X.x X.b (dk DL_law_0 13 rfl) (lv_at hl 4 rfl) ?_
    refine lv_aload_n X.x X.b (dk DL_law_0 14 rfl) rfl (lv_at hl 0 rfl) ?_
    refine va_slen X.x X.b hX hbl hbA hH.2.1 (dk DL_law_0 15 rfl) ?_
    refine lv_bipush (v := 6) X.x X.b (dk DL_law_0 16 rfl) (by decide) ?_
    refine lv_isub X.x X.b (dk DL_law_0 17 rfl) ?_
    have e6 : (nI L - nI 6).toInt = (L : Int) - 6 := pk_sub_toInt (by omega) (by omega)
    have e4 : x4.toInt = 6 * (i : Int) := by rw [ex4, nI_toInt (by omega)]; omega
    have hcmp : (Int32.ofNat L - 6 < x4) ↔ L < 6 * i + 6 := by
      rw [fa_lt, e4]
      show (nI L - nI 6).toInt < _ ↔ _
      rw [e6]
      omega
    refine lv_icmp_gt (tgt := 2503) X.x X.b (dk DL_law_0 18 rfl) (by decide) (fun c0 => ?_) (fun c0 => ?_)
    · refine lv_iconst (v := 1) X.x X.b (dk DL_law_24 43 rfl) (by decide) ?_
      exact kend _ _ _ _ _ _ hH (by omega) (by omega)
    · have h6 : 6 * i + 6 ≤ L := by
        rcases Nat.lt_or_ge L (6 * i + 6) with z | z
        · exact absurd (hcmp.mpr z) c0
        · exact z
      refine lv_aload_n X.x X.b (dk DL_law_0 19 rfl) rfl (lv_at hl 0 rfl) ?_
      refine lv_iload X.x X.b (dk DL_law_0 20 rfl) (lv_at hl 4 rfl) ?_
      refine lw_sld X hH hX hbl hbA (show vp_in x4 L by rw [ex4]; exact vp_in_nI (by omega) (by omega)) rfl (dk DL_law_0 21 rfl) ?_
      refine lv_bipush (v := 63) X.x X.b (dk DL_law_0 22 rfl) (by decide) ?_
      refine lv_iand X.x X.b (dk DL_law_0 23 rfl) ?_
      have hg : ∀ k, k < 6 → vp_in (x4 + nI k) L := fun k hk => by rw [ex4]; exact add_in hL h6 hk
      refine law_switch X hX hbl hbA hJa hAg (x4 := x4) ⟨hg 1 (by decide), rfl⟩ ⟨hg 2 (by decide), rfl⟩ ⟨hg 3 (by decide), rfl⟩ ⟨hg 4 (by decide), rfl⟩ ⟨hg 5 (by decide), rfl⟩ hJ hH hl (by omega) (by omega) (fun mm H locs ls hJ hH hl => ?_)
      obtain ⟨x5, ex5⟩ : ∃ y : Int32, y = x4 + 6 := ⟨_, rfl⟩
      refine lv_iinc (v := x5) (lv' := [(4, .int x5), (0, .ref bS), (1, .ref a), (2, .ref b), (3, .ref ao)]) X.x X.b (dk DL_law_24 41 rfl) hl (k := 4) rfl (by rw [ex5]; rfl) (by decide) rfl (fun ls hl => ?_)
      refine lv_goto (tgt := 23) X.x X.b (dk DL_law_24 42 rfl) (by decide) ?_
      exact ih (i + 1) x5 (by omega) (by omega) (by rw [ex5, ex4, show (6 : Int32) = nI 6 from rfl, nI_add]; congr 1) _ _ _ _ _ _ hJ hH (lv_sub hl [1, 2, 3, 4, 0] rfl) (by omega) (by omega)
