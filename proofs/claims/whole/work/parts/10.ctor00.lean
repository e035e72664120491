theorem hd_X3_init : mHd yX3_init 0 := ⟨by decide +kernel, by decide +kernel, by decide +kernel⟩
theorem DX3_init_0 : ∀ t ∈ ([(0, .aload_n 0, 1), (1, .invokespecial 3, 3), (4, .aload_n 0, 1), (5, .bipush 15, 2), (7, .newarray .int, 2), (9, .putfield 11, 3), (12, .aload_n 0, 1), (13, .bipush 40, 2), (15, .newarray .int, 2), (17, .putfield 15, 3), (20, .aload_n 0, 1), (21, .bipush 81, 2), (23, .newarray .int, 2), (25, .putfield 18, 3), (28, .iconst 0, 1), (29, .istore_n 1, 1), (30, .iconst 0, 1), (31, .istore_n 2, 1), (32, .iload_n 2, 1), (33, .bipush 6, 2), (35, .if_icmp .ge 47, 3), (38, .iload_n 2, 1), (39, .iconst 1, 1), (40, .iadd, 1), (41, .istore_n 3, 1), (42, .iload_n 3, 1), (43, .bipush 6, 2), (45, .if_icmp .ge 31, 3), (48, .iload_n 1, 1), (49, .bipush 15, 2), (51, .if_icmp .ge 25, 3), (54, .aload_n 0, 1), (55, .getfield 11, 3), (58, .iload_n 1, 1), (59, .iconst 1, 1), (60, .iload_n 2, 1), (61, .ishl, 1), (62, .iconst 1, 1), (63, .iload_n 3, 1), (64, .ishl, 1), (65, .ior, 1), (66, .iastore, 1), (67, .iinc 1 1, 3), (70, .iinc 3 1, 3), (73, .goto (-31), 3), (76, .iinc 2 1, 3), (79, .goto (-47), 3), (82, .iconst 0, 1), (83, .istore_n 2, 1), (84, .iconst 0, 1), (85, .istore_n 3, 1), (86, .iload_n 3, 1), (87, .bipush 81, 2), (89, .if_icmp .ge 93, 3), (92, .iload_n 3, 1), (93, .iconst 1, 1), (94, .if_icmp .eq 38, 3), (97, .iload_n 3, 1), (98, .iconst 3, 1), (99, .if_icmp .lt 9, 3)] : List (Nat × Instr × Nat)), decode cX3_init t.1 = .ok (t.2.1, t.2.2) := by decide +kernel
theorem DX3_init_1 : ∀ t ∈ ([(102, .iload_n 3, 1), (103, .bipush 6, 2), (105, .if_icmp .lt 27, 3), (108, .iload_n 3, 1), (109, .bipush 9, 2), (111, .if_icmp .lt 9, 3), (114, .iload_n 3, 1), (115, .bipush 18, 2), (117, .if_icmp .lt 15, 3), (120, .iload_n 3, 1), (121, .bipush 27, 2), (123, .if_icmp .lt 13, 3), (126, .iload_n 3, 1), (127, .bipush 54, 2), (129, .if_icmp .ge 7, 3), (132, .iconst 1, 1), (133, .goto 4, 3), (136, .iconst 0, 1), (137, .istore 4, 2), (139, .aload_n 0, 1), (140, .getfield 18, 3), (143, .iload_n 3, 1), (144, .iload 4, 2), (146, .ifCond .eq 7, 3), (149, .iload_n 2, 1), (150, .goto 4, 3), (153, .iconst (-1), 1), (154, .iastore, 1), (155, .iload 4, 2), (157, .ifCond .eq 19, 3), (160, .iload_n 2, 1), (161, .bipush 40, 2), (163, .if_icmp .ge 13, 3), (166, .aload_n 0, 1), (167, .getfield 15, 3), (170, .iload_n 2, 1), (171, .iload_n 3, 1), (172, .iastore, 1), (173, .iinc 2 1, 3), (176, .iinc 3 1, 3), (179, .goto (-93), 3), (182, .return_, 1)] : List (Nat × Instr × Nat)), decode cX3_init t.1 = .ok (t.2.1, t.2.2) := by decide +kernel
/-- what a new X3 holds -/
def stX3 : OS := os0
abbrev rm_X3_init : Room := { frames := 1, cells := 3, slots := 136, locals := 12 }
noncomputable def f_X3_init_42 (b2 : Int32) : (OS × Int32 × Int32) → Option ((OS × Int32 × Int32) ⊕ (OS × Int32)) := fun z => match z with | (s_t, b1, b3) => (if 6 ≤ b3 then some (.inr ((s_t, b1))) else (if 15 ≤ b1 then some (.inr ((s_t, b1))) else if inb b1 15 = true then bnd (oA s_t 0 (upd (s_t.2.2.1 0) (b1 : Int32).toNatClampNeg (((1 : Int32) <<< (b2 &&& 31)) ||| ((1 : Int32) <<< (b3 &&& 31))))) (fun t7 => bnd (b1 + 1 : Int32) (fun v9 => bnd (b3 + 1 : Int32) (fun v11 => some (.inl ((t7, v9, v11)))))) else none))
noncomputable def f_X3_init_32 : (OS × Int32 × Int32) → Option ((OS × Int32 × Int32) ⊕ (OS)) := fun z => match z with | (s_t, b1, b2) => (if 6 ≤ b2 then some (.inr s_t) else bnd (b2 + 1 : Int32) (fun v2 => (lpv (f_X3_init_42 b2) ((s_t, b1, v2))).bind (fun x13 => match x13 with | (t15, v16) => bnd (b2 + 1 : Int32) (fun v17 => some (.inl ((t15, v16, v17)))))))
noncomputable def f_X3_init_86 : (OS × Int32 × Int32) → Option ((OS × Int32 × Int32) ⊕ (OS)) := fun z => match z with | (s_t, b2, b3) => (if 81 ≤ b3 then some (.inr s_t) else (if b3 = 1 then (if (1 : Int32) = 0 then if inb b3 81 = true then bnd (oA s_t 2 (upd (s_t.2.2.1 2) (b3 : Int32).toNatClampNeg ((-1)))) (fun t26 => (if (1 : Int32) = 0 then bnd (b3 + 1 : Int32) (fun v29 => some (.inl ((t26, b2, v29)))) else (if 40 ≤ b2 then bnd (b3 + 1 : Int32) (fun v32 => some (.inl ((t26, b2, v32)))) else if inb b2 40 = true then bnd (oA t26 1 (upd (t26.2.2.1 1) (b2 : Int32).toNatClampNeg b3)) (fun t35 => bnd (b2 + 1 : Int32) (fun v37 => bnd (b3 + 1 : Int32) (fun v39 => some (.inl ((t35, v37, v39)))))) else none))) else none else if inb b3 81 = true then bnd (oA s_t 2 (upd (s_t.2.2.1 2) (b3 : Int32).toNatClampNeg b2)) (fun t42 => (if (1 : Int32) = 0 then bnd (b3 + 1 : Int32) (fun v45 => some (.inl ((t42, b2, v45)))) else (if 40 ≤ b2 then bnd (b3 + 1 : Int32) (fun v48 => some (.inl ((t42, b2, v48)))) else if inb b2 40 = true then bnd (oA t42 1 (upd (t42.2.2.1 1) (b2 : Int32).toNatClampNeg b3)) (fun t51 => bnd (b2 + 1 : Int32) (fun v53 => bnd (b3 + 1 : Int32) (fun v55 => some (.inl ((t51, v53, v55)))))) else none))) else none) else (if b3 < 3 then (if b3 < 9 then (if b3 < 27 then (if (0 : Int32) = 0 then if inb b3 81 = true then bnd (oA s_t 2 (upd (s_t.2.2.1 2) (b3 : Int32).toNatClampNeg ((-1)))) (fun t62 => (if (0 : Int32) = 0 then bnd (b3 + 1 : Int32) (fun v65 => some (.inl ((t62, b2, v65)))) else (if 40 ≤ b2 then bnd (b3 + 1 : Int32) (fun v68 => some (.inl ((t62, b2, v68)))) else if inb b2 40 = true then bnd (oA t62 1 (upd (t62.2.2.1 1) (b2 : Int32).toNatClampNeg b3)) (fun t71 => bnd (b2 + 1 : Int32) (fun v73 => bnd (b3 + 1 : Int32) (fun v75 => some (.inl ((t71, v73, v75)))))) else none))) else none else if inb b3 81 = true then bnd (oA s_t 2 (upd (s_t.2.2.1 2) (b3 : Int32).toNatClampNeg b2)) (fun t78 => (if (0 : Int32) = 0 then bnd (b3 + 1 : Int32) (fun v81 => some (.inl ((t78, b2, v81)))) else (if 40 ≤ b2 then bnd (b3 + 1 : Int32) (fun v84 => some (.inl ((t78, b2, v84)))) else if inb b2 40 = true then bnd (oA t78 1 (upd (t78.2.2.1 1) (b2 : Int32).toNatClampNeg b3)) (fun t87 => bnd (b2 + 1 : Int32) (fun v89 => bnd (b3 + 1 : Int32) (fun v91 => some (.inl ((t87, v89, v91)))))) else none))) else none) else (if 54 ≤ b3 then (if (0 : Int32) = 0 then if inb b3 81 = true then bnd (oA s_t 2 (upd (s_t.2.2.1 2) (b3 : Int32).toNatClampNeg ((-1)))) (fun t96 => (if (0 : Int32) = 0 then bnd (b3 + 1 : Int32) (fun v99 => some (.inl ((t96, b2, v99)))) else (if 40 ≤ b2 then bnd (b3 + 1 : Int32) (fun v102 => some (.inl ((t96, b2, v102)))) else if inb b2 40 = true then bnd (oA t96 1 (upd (t96.2.2.1 1) (b2 : Int32).toNatClampNeg b3)) (fun t105 => bnd (b2 + 1 : Int32) (fun v107 => bnd (b3 + 1 : Int32) (fun v109 => some (.inl ((t105, v107, v109)))))) else none))) else none else if inb b3 81 = true then bnd (oA s_t 2 (upd (s_t.2.2.1 2) (b3 : Int32).toNatClampNeg b2)) (fun t112 => (if (0 : Int32) = 0 then bnd (b3 + 1 : Int32) (fun v115 => some (.inl ((t112, b2, v115)))) else (if 40 ≤ b2 then bnd (b3 + 1 : Int32) (fun v118 => some (.inl ((t112, b2, v118)))) else if inb b2 40 = true then bnd (oA t112 1 (upd (t112.2.2.1 1) (b2 : Int32).toNatClampNeg b3)) (fun t121 => bnd (b2 + 1 : Int32) (fun v123 => bnd (b3 + 1 : Int32) (fun v125 => some (.inl ((t121, v123, v125)))))) else none))) else none) else (if (1 : Int32) = 0 then if inb b3 81 = true then bnd (oA s_t 2 (upd (s_t.2.2.1 2) (b3 : Int32).toNatClampNeg ((-1)))) (fun t129 => (if (1 : Int32) = 0 then bnd (b3 + 1 : Int32) (fun v132 => some (.inl ((t129, b2, v132)))) else (if 40 ≤ b2 then bnd (b3 + 1 : Int32) (fun v135 => some (.inl ((t129, b2, v135)))) else if inb b2 40 = true then bnd (oA t129 1 (upd (t129.2.2.1 1) (b2 : Int32).toNatClampNeg b3)) (fun t138 => bnd (b2 + 1 : Int32) (fun v140 => bnd (b3 + 1 : Int32) (fun v142 => some (.inl ((t138, v140, v142)))))) else none))) else none else if inb b3 81 = true then bnd (oA s_t 2 (upd (s_t.2.2.1 2) (b3 : Int32).toNatClampNeg b2)) (fun t145 => (if (1 : Int32) = 0 then bnd (b3 + 1 : Int32) (fun v148 => some (.inl ((t145, b2, v148)))) else (if 40 ≤ b2 then bnd (b3 + 1 : Int32) (fun v151 => some (.inl ((t145, b2, v151)))) else if inb b2 40 = true then bnd (oA t145 1 (upd (t145.2.2.1 1) (b2 : Int32).toNatClampNeg b3)) (fun t154 => bnd (b2 + 1 : Int32) (fun v156 => bnd (b3 + 1 : Int32) (fun v158 => some (.inl ((t154, v156, v158)))))) else none))) else none))) else (if b3 < 18 then (if (1 : Int32) = 0 then if inb b3 81 = true then bnd (oA s_t 2 (upd (s_t.2.2.1 2) (b3 : Int32).toNatClampNeg ((-1)))) (fun t163 => (if (1 : Int32) = 0 then bnd (b3 + 1 : Int32) (fun v166 => some (.inl ((t163, b2, v166)))) else (if 40 ≤ b2 then bnd (b3 + 1 : Int32) (fun v169 => some (.inl ((t163, b2, v169)))) else if inb b2 40 = true then bnd (oA t163 1 (upd (t163.2.2.1 1) (b2 : Int32).toNatClampNeg b3)) (fun t172 => bnd (b2 + 1 : Int32) (fun v174 => bnd (b3 + 1 : Int32) (fun v176 => some (.inl ((t172, v174, v176)))))) else none))) else none else if inb b3 81 = true then bnd (oA s_t 2 (upd (s_t.2.2.1 2) (b3 : Int32).toNatClampNeg b2)) (fun t179 => (if (1 : Int32) = 0 then bnd (b3 + 1 : Int32) (fun v182 => some (.inl ((t179, b2, v182)))) else (if 40 ≤ b2 then bnd (b3 + 1 : Int32) (fun v185 => some (.inl ((t179, b2, v185)))) else if inb b2 40 = true then bnd (oA t179 1 (upd (t179.2.2.1 1) (b2 : Int32).toNatClampNeg b3)) (fun t188 => bnd (b2 + 1 : Int32) (fun v190 => bnd (b3 + 1 : Int32) (fun v192 => some (.inl ((t188, v190, v192)))))) else none))) else none) else (if b3 < 27 then (if (0 : Int32) = 0 then if inb b3 81 = true then bnd (oA s_t 2 (upd (s_t.2.2.1 2) (b3 : Int32).toNatClampNeg ((-1)))) (fun t197 => (if (0 : Int32) = 0 then bnd (b3 + 1 : Int32) (fun v200 => some (.inl ((t197, b2, v200)))) else (if 40 ≤ b2 then bnd (b3 + 1 : Int32) (fun v203 => some (.inl ((t197, b2, v203)))) else if inb b2 40 = true then bnd (oA t197 1 (upd (t197.2.2.1 1) (b2 : Int32).toNatClampNeg b3)) (fun t206 => bnd (b2 + 1 : Int32) (fun v208 => bnd (b3 + 1 : Int32) (fun v210 => some (.inl ((t206, v208, v210)))))) else none))) else none else if inb b3 81 = true then bnd (oA s_t 2 (upd (s_t.2.2.1 2) (b3 : Int32).toNatClampNeg b2)) (fun t213 => (if (0 : Int32) = 0 then bnd (b3 + 1 : Int32) (fun v216 => some (.inl ((t213, b2, v216)))) else (if 40 ≤ b2 then bnd (b3 + 1 : Int32) (fun v219 => some (.inl ((t213, b2, v219)))) else if inb b2 40 = true then bnd (oA t213 1 (upd (t213.2.2.1 1) (b2 : Int32).toNatClampNeg b3)) (fun t222 => bnd (b2 + 1 : Int32) (fun v224 => bnd (b3 + 1 : Int32) (fun v226 => some (.inl ((t222, v224, v226)))))) else none))) else none) else (if 54 ≤ b3 then (if (0 : Int32) = 0 then if inb b3 81 = true then bnd (oA s_t 2 (upd (s_t.2.2.1 2) (b3 : Int32).toNatClampNeg ((-1)))) (fun t231 => (if (0 : Int32) = 0 then bnd (b3 + 1 : Int32) (fun v234 => some (.inl ((t231, b2, v234)))) else (if 40 ≤ b2 then bnd (b3 + 1 : Int32) (fun v237 => some (.inl ((t231, b2, v237)))) else if inb b2 40 = true then bnd (oA t231 1 (upd (t231.2.2.1 1) (b2 : Int32).toNatClampNeg b3)) (fun t240 => bnd (b2 + 1 : Int32) (fun v242 => bnd (b3 + 1 : Int32) (fun v244 => some (.inl ((t240, v242, v244)))))) else none))) else none else if inb b3 81 = true then bnd (oA s_t 2 (upd (s_t.2.2.1 2) (b3 : Int32).toNatClampNeg b2)) (fun t247 => (if (0 : Int32) = 0 then bnd (b3 + 1 : Int32) (fun v250 => some (.inl ((t247, b2, v250)))) else (if 40 ≤ b2 then bnd (b3 + 1 : Int32) (fun v253 => some (.inl ((t247, b2, v253)))) else if inb b2 40 = true then bnd (oA t247 1 (upd (t247.2.2.1 1) (b2 : Int32).toNatClampNeg b3)) (fun t256 => bnd (b2 + 1 : Int32) (fun v258 => bnd (b3 + 1 : Int32) (fun v260 => some (.inl ((t256, v258, v260)))))) else none))) else none) else (if (1 : Int32) = 0 then if inb b3 81 = true then bnd (oA s_t 2 (upd (s_t.2.2.1 2) (b3 : Int32).toNatClampNeg ((-1)))) (fun t264 => (if (1 : Int32) = 0 then bnd (b3 + 1 : Int32) (fun v267 => some (.inl ((t264, b2, v267)))) else (if 40 ≤ b2 then bnd (b3 + 1 : Int32) (fun v270 => some (.inl ((t264, b2, v270)))) else if inb b2 40 = true then bnd (oA t264 1 (upd (t264.2.2.1 1) (b2 : Int32).toNatClampNeg b3)) (fun t273 => bnd (b2 + 1 : Int32) (fun v275 => bnd (b3 + 1 : Int32) (fun v277 => some (.inl ((t273, v275, v277)))))) else none))) else none else if inb b3 81 = true then bnd (oA s_t 2 (upd (s_t.2.2.1 2) (b3 : Int32).toNatClampNeg b2)) (fun t280 => (if (1 : Int32) = 0 then bnd (b3 + 1 : Int32) (fun v283 => some (.inl ((t280, b2, v283)))) else (if 40 ≤ b2 then bnd (b3 + 1 : Int32) (fun v286 => some (.inl ((t280, b2, v286)))) else if inb b2 40 = true then bnd (oA t280 1 (upd (t280.2.2.1 1) (b2 : Int32).toNatClampNeg b3)) (fun t289 => bnd (b2 + 1 : Int32) (fun v291 => bnd (b3 + 1 : Int32) (fun v293 => some (.inl ((t289, v291, v293)))))) else none))) else none))))) else (if b3 < 6 then (if (1 : Int32) = 0 then if inb b3 81 = true then bnd (oA s_t 2 (upd (s_t.2.2.1 2) (b3 : Int32).toNatClampNeg ((-1)))) (fun t298 => (if (1 : Int32) = 0 then bnd (b3 + 1 : Int32) (fun v301 => some (.inl ((t298, b2, v301)))) else (if 40 ≤ b2 then bnd (b3 + 1 : Int32) (fun v304 => some (.inl ((t298, b2, v304)))) else if inb b2 40 = true then bnd (oA t298 1 (upd (t298.2.2.1 1) (b2 : Int32).toNatClampNeg b3)) (fun t307 => bnd (b2 + 1 : Int32) (fun v309 => bnd (b3 + 1 : Int32) (fun v311 => some (.inl ((t307, v309, v311)))))) else none))) else none else if inb b3 81 = true then bnd (oA s_t 2 (upd (s_t.2.2.1 2) (b3 : Int32).toNatClampNeg b2)) (fun t314 => (if (1 : Int32) = 0 then bnd (b3 + 1 : Int32) (fun v317 => some (.inl ((t314, b2, v317)))) else (if 40 ≤ b2 then bnd (b3 + 1 : Int32) (fun v320 => some (.inl ((t314, b2, v320)))) else if inb b2 40 = true then bnd (oA t314 1 (upd (t314.2.2.1 1) (b2 : Int32).toNatClampNeg b3)) (fun t323 => bnd (b2 + 1 : Int32) (fun v325 => bnd (b3 + 1 : Int32) (fun v327 => some (.inl ((t323, v325, v327)))))) else none))) else none) else (if b3 < 9 then (if b3 < 27 then (if (0 : Int32) = 0 then if inb b3 81 = true then bnd (oA s_t 2 (upd (s_t.2.2.1 2) (b3 : Int32).toNatClampNeg ((-1)))) (fun t333 => (if (0 : Int32) = 0 then bnd (b3 + 1 : Int32) (fun v336 => some (.inl ((t333, b2, v336)))) else (if 40 ≤ b2 then bnd (b3 + 1 : Int32) (fun v339 => some (.inl ((t333, b2, v339)))) else if inb b2 40 = true then bnd (oA t333 1 (upd (t333.2.2.1 1) (b2 : Int32).toNatClampNeg b3)) (fun t342 => bnd (b2 + 1 : Int32) (fun v344 => bnd (b3 + 1 : Int32) (fun v346 => some (.inl ((t342, v344, v346)))))) else none))) else none else if inb b3 81 = true then bnd (oA s_t 2 (upd (s_t.2.2.1 2) (b3 : Int32).toNatClampNeg b2)) (fun t349 => (if (0 : Int32) = 0 then bnd (b3 + 1 : Int32) (fun v352 => some (.inl ((t349, b2, v352)))) else (if 40 ≤ b2 then bnd (b3 + 1 : Int32) (fun v355 => some (.inl ((t349, b2, v355)))) else if inb b2 40 = true then bnd (oA t349 1 (upd (t349.2.2.1 1) (b2 : Int32).toNatClampNeg b3)) (fun t358 => bnd (b2 + 1 : Int32) (fun v360 => bnd (b3 + 1 : Int32) (fun v362 => some (.inl ((t358, v360, v362)))))) else none))) else none) else (if 54 ≤ b3 then (if (0 : Int32) = 0 then if inb b3 81 = true then bnd (oA s_t 2 (upd (s_t.2.2.1 2) (b3 : Int32).toNatClampNeg ((-1)))) (fun t367 => (if (0 : Int32) = 0 then bnd (b3 + 1 : Int32) (fun v370 => some (.inl ((t367, b2, v370)))) else (if 40 ≤ b2 then bnd (b3 + 1 : Int32) (fun v373 => some (.inl ((t367, b2, v373)))) else if inb b2 40 = true then bnd (oA t367 1 (upd (t367.2.2.1 1) (b2 : Int32).toNatClampNeg b3)) (fun t376 => bnd (b2 + 1 : Int32) (fun v378 => bnd (b3 + 1 : Int32) (fun v380 => some (.inl ((t376, v378, v380)))))) else none))) else none else if inb b3 81 = true then bnd (oA s_t 2 (upd (s_t.2.2.1 2) (b3 : Int32).toNatClampNeg b2)) (fun t383 => (if (0 : Int32) = 0 then bnd (b3 + 1 : Int32) (fun v386 => some (.inl ((t383, b2, v386)))) else (if 40 ≤ b2 then bnd (b3 + 1 : Int32) (fun v389 => some (.inl ((t383, b2, v389)))) else if inb b2 40 = true then bnd (oA t383 1 (upd (t383.2.2.1 1) (b2 : Int32).toNatClampNeg b3)) (fun t392 => bnd (b2 + 1 : Int32) (fun v394 => bnd (b3 + 1 : Int32) (fun v396 => some (.inl ((t392, v394, v396)))))) else none))) else none) else (if (1 : Int32) = 0 then if inb b3 81 = true then bnd (oA s_t 2 (upd (s_t.2.2.1 2) (b3 : Int32).toNatClampNeg ((-1)))) (fun t400 => (if (1 : Int32) = 0 then bnd (b3 + 1 : Int32) (fun v403 => some (.inl ((t400, b2, v403)))) else (if 40 ≤ b2 then bnd (b3 + 1 : Int32) (fun v406 => some (.inl ((t400, b2, v406)))) else if inb b2 40 = true then bnd (oA t400 1 (upd (t400.2.2.1 1) (b2 : Int32).toNatClampNeg b3)) (fun t409 => bnd (b2 + 1 : Int32) (fun v411 => bnd (b3 + 1 : Int32) (fun v413 => some (.inl ((t409, v411, v413)))))) else none))) else none else if inb b3 81 = true then bnd (oA s_t 2 (upd (s_t.2.2.1 2) (b3 : Int32).toNatClampNeg b2)) (fun t416 => (if (1 : Int32) = 0 then bnd (b3 + 1 : Int32) (fun v419 => some (.inl ((t416, b2, v419)))) else (if 40 ≤ b2 then bnd (b3 + 1 : Int32) (fun v422 => some (.inl ((t416, b2, v422)))) else if inb b2 40 = true then bnd (oA t416 1 (upd (t416.2.2.1 1) (b2 : Int32).toNatClampNeg b3)) (fun t425 => bnd (b2 + 1 : Int32) (fun v427 => bnd (b3 + 1 : Int32) (fun v429 => some (.inl ((t425, v427, v429)))))) else none))) else none))) else (if b3 < 18 then (if (1 : Int32) = 0 then if inb b3 81 = true then bnd (oA s_t 2 (upd (s_t.2.2.1 2) (b3 : Int32).toNatClampNeg ((-1)))) (fun t434 => (if (1 : Int32) = 0 then bnd (b3 + 1 : Int32) (fun v437 => some (.inl ((t434, b2, v437)))) else (if 40 ≤ b2 then bnd (b3 + 1 : Int32) (fun v440 => some (.inl ((t434, b2, v440)))) else if inb b2 40 = true then bnd (oA t434 1 (upd (t434.2.2.1 1) (b2 : Int32).toNatClampNeg b3)) (fun t443 => bnd (b2 + 1 : Int32) (fun v445 => bnd (b3 + 1 : Int32) (fun v447 => some (.inl ((t443, v445, v447)))))) else none))) else none else if inb b3 81 = true then bnd (oA s_t 2 (upd (s_t.2.2.1 2) (b3 : Int32).toNatClampNeg b2)) (fun t450 => (if (1 : Int32) = 0 then bnd (b3 + 1 : Int32) (fun v453 => some (.inl ((t450, b2, v453)))) else (if 40 ≤ b2 then bnd (b3 + 1 : Int32) (fun v456 => some (.inl ((t450, b2, v456)))) else if inb b2 40 = true then bnd (oA t450 1 (upd (t450.2.2.1 1) (b2 : Int32).toNatClampNeg b3)) (fun t459 => bnd (b2 + 1 : Int32) (fun v461 => bnd (b3 + 1 : Int32) (fun v463 => some (.inl ((t459, v461, v463)))))) else none))) else none) else (if b3 < 27 then (if (0 : Int32) = 0 then if inb b3 81 = true then bnd (oA s_t 2 (upd (s_t.2.2.1 2) (b3 : Int32).toNatClampNeg ((-1)))) (fun t468 => (if (0 : Int32) = 0 then bnd (b3 + 1 : Int32) (fun v471 => some (.inl ((t468, b2, v471)))) else (if 40 ≤ b2 then bnd (b3 + 1 : Int32) (fun v474 => some (.inl ((t468, b2, v474)))) else if inb b2 40 = true then bnd (oA t468 1 (upd (t468.2.2.1 1) (b2 : Int32).toNatClampNeg b3)) (fun t477 => bnd (b2 + 1 : Int32) (fun v479 => bnd (b3 + 1 : Int32) (fun v481 => some (.inl ((t477, v479, v481)))))) else none))) else none else if inb b3 81 = true then bnd (oA s_t 2 (upd (s_t.2.2.1 2) (b3 : Int32).toNatClampNeg b2)) (fun t484 => (if (0 : Int32) = 0 then bnd (b3 + 1 : Int32) (fun v487 => some (.inl ((t484, b2, v487)))) else (if 40 ≤ b2 then bnd (b3 + 1 : Int32) (fun v490 => some (.inl ((t484, b2, v490)))) else if inb b2 40 = true then bnd (oA t484 1 (upd (t484.2.2.1 1) (b2 : Int32).toNatClampNeg b3)) (fun t493 => bnd (b2 + 1 : Int32) (fun v495 => bnd (b3 + 1 : Int32) (fun v497 => some (.inl ((t493, v495, v497)))))) else none))) else none) else (if 54 ≤ b3 then (if (0 : Int32) = 0 then if inb b3 81 = true then bnd (oA s_t 2 (upd (s_t.2.2.1 2) (b3 : Int32).toNatClampNeg ((-1)))) (fun t502 => (if (0 : Int32) = 0 then bnd (b3 + 1 : Int32) (fun v505 => some (.inl ((t502, b2, v505)))) else (if 40 ≤ b2 then bnd (b3 + 1 : Int32) (fun v508 => some (.inl ((t502, b2, v508)))) else if inb b2 40 = true then bnd (oA t502 1 (upd (t502.2.2.1 1) (b2 : Int32).toNatClampNeg b3)) (fun t511 => bnd (b2 + 1 : Int32) (fun v513 => bnd (b3 + 1 : Int32) (fun v515 => some (.inl ((t511, v513, v515)))))) else none))) else none else if inb b3 81 = true then bnd (oA s_t 2 (upd (s_t.2.2.1 2) (b3 : Int32).toNatClampNeg b2)) (fun t518 => (if (0 : Int32) = 0 then bnd (b3 + 1 : Int32) (fun v521 => some (.inl ((t518, b2, v521)))) else (if 40 ≤ b2 then bnd (b3 + 1 : Int32) (fun v524 => some (.inl ((t518, b2, v524)))) else if inb b2 40 = true then bnd (oA t518 1 (upd (t518.2.2.1 1) (b2 : Int32).toNatClampNeg b3)) (fun t527 => bnd (b2 + 1 : Int32) (fun v529 => bnd (b3 + 1 : Int32) (fun v531 => some (.inl ((t527, v529, v531)))))) else none))) else none) else (if (1 : Int32) = 0 then if inb b3 81 = true then bnd (oA s_t 2 (upd (s_t.2.2.1 2) (b3 : Int32).toNatClampNeg ((-1)))) (fun t535 => (if (1 : Int32) = 0 then bnd (b3 + 1 : Int32) (fun v538 => some (.inl ((t535, b2, v538)))) else (if 40 ≤ b2 then bnd (b3 + 1 : Int32) (fun v541 => some (.inl ((t535, b2, v541)))) else if inb b2 40 = true then bnd (oA t535 1 (upd (t535.2.2.1 1) (b2 : Int32).toNatClampNeg b3)) (fun t544 => bnd (b2 + 1 : Int32) (fun v546 => bnd (b3 + 1 : Int32) (fun v548 => some (.inl ((t544, v546, v548)))))) else none))) else none else if inb b3 81 = true then bnd (oA s_t 2 (upd (s_t.2.2.1 2) (b3 : Int32).toNatClampNeg b2)) (fun t551 => (if (1 : Int32) = 0 then bnd (b3 + 1 : Int32) (fun v554 => some (.inl ((t551, b2, v554)))) else (if 40 ≤ b2 then bnd (b3 + 1 : Int32) (fun v557 => some (.inl ((t551, b2, v557)))) else if inb b2 40 = true then bnd (oA t551 1 (upd (t551.2.2.1 1) (b2 : Int32).toNatClampNeg b3)) (fun t560 => bnd (b2 + 1 : Int32) (fun v562 => bnd (b3 + 1 : Int32) (fun v564 => some (.inl ((t560, v562, v564)))))) else none))) else none)))))))))
noncomputable def f_X3_init : Option OS := (lpv (f_X3_init_32) ((stX3, 0, 0))).bind (fun x19 => (lpv (f_X3_init_86) ((x19, 0, 0))).bind (fun x566 => some x566))
set_option maxHeartbeats 4000000 in
set_option maxRecDepth 100000 in
theorem w_X3_init_42 {p : Program} {l : Launch} {e : Env} {s : State} {m : MethodId} {args : Array Value} {below : List Frame} {meth : Method} {c : Code} {Q : State → Prop} {G : mG} {h : mM} {q : Nat → Nat} (hq : oinj LX3 q) (X : mX G p m c cX3_init 5 s args RX3) (b2 : Int32) : ∀ (z : OS × Int32 × Int32) (r : OS × Int32), lpv (f_X3_init_42 b2) z = some r → ∀ (H : Heap) (locs : List Loc) (ls : Array Slot), mH G (oset LX3 G q z.1 h) s.heap H locs → lv_has ls 5 [(0, .ref (q 3)), (1, .int z.2.1), (2, .int b2), (3, .int z.2.2)] → (∀ (H : Heap) (locs : List Loc) (ls : Array Slot), mH G (oset LX3 G q r.1 h) s.heap H locs → lv_has ls 5 [(0, .ref (q 3)), (1, .int r.2), (2, .int b2)] → W p l e rm_X3_init s m args below meth c H locs 3 136 Q (F0 m 76 ls [])) → W p l e rm_X3_init s m args below meth c H locs 3 136 Q (F0 m 42 ls []) := by
  refine lpv_rec ?_
  intro z r x hF hx H locs ls hH hl K0
  obtain ⟨s_t, b1, b3⟩ := z
  dsimp only [f_X3_init_42] at hF
  try dsimp only at hH hl
  refine lv_iload_n X.x X.b (dk DX3_init_0 25 rfl) rfl (lv_at hl 3 rfl) ?_
  refine lv_bipush (v := 6) X.x X.b (dk DX3_init_0 26 rfl) (by decide) ?_
  refine lv_icmp_ge (tgt := 76) X.x X.b (dk DX3_init_0 27 rfl) (by decide) (fun c4 => ?_) (fun c4 => ?_)
  · replace hF := if_t hF c4
    have hr9 := lp_r hF hx
    subst hr9
    exact K0 _ _ _ hH (lv_sub hl [0, 1, 2] rfl)
  · replace hF := if_f hF c4
    refine lv_iload_n X.x X.b (dk DX3_init_0 28 rfl) rfl (lv_at hl 1 rfl) ?_
    refine lv_bipush (v := 15) X.x X.b (dk DX3_init_0 29 rfl) (by decide) ?_
    refine lv_icmp_ge (tgt := 76) X.x X.b (dk DX3_init_0 30 rfl) (by decide) (fun c5 => ?_) (fun c5 => ?_)
    · replace hF := if_t hF c5
      have hr9 := lp_r hF hx
      subst hr9
      exact K0 _ _ _ hH (lv_sub hl [0, 1, 2] rfl)
    · replace hF := if_f hF c5
      refine lv_aload_n X.x X.b (dk DX3_init_0 31 rfl) rfl (lv_at hl 0 rfl) ?_
      refine og_getR (t := 0) OX3 X hq hH 0 (by decide) rfl kF_X3_11 (dk DX3_init_0 32 rfl) ?_
      refine lv_iload_n X.x X.b (dk DX3_init_0 33 rfl) rfl (lv_at hl 1 rfl) ?_
      refine lv_iconst (v := 1) X.x X.b (dk DX3_init_0 34 rfl) (by decide) ?_
      refine lv_iload_n X.x X.b (dk DX3_init_0 35 rfl) rfl (lv_at hl 2 rfl) ?_
      refine lv_ishl X.x X.b (dk DX3_init_0 36 rfl) ?_
      refine lv_iconst (v := 1) X.x X.b (dk DX3_init_0 37 rfl) (by decide) ?_
      refine lv_iload_n X.x X.b (dk DX3_init_0 38 rfl) rfl (lv_at hl 3 rfl) ?_
      refine lv_ishl X.x X.b (dk DX3_init_0 39 rfl) ?_
      refine lv_ior X.x X.b (dk DX3_init_0 40 rfl) ?_
      obtain ⟨c6, hF⟩ := gd hF
      refine og_iast X hq hH 0 (by decide) rfl (inb_in c6) (dk DX3_init_0 41 rfl) (fun H locs hH => ?_)
      obtain ⟨t7, e8⟩ : ∃ y, y = oA s_t 0 (upd (s_t.2.2.1 0) (b1 : Int32).toNatClampNeg (((1 : Int32) <<< (b2 &&& 31)) ||| ((1 : Int32) <<< (b3 &&& 31)))) := ⟨_, rfl⟩
      rw [← e8] at hH
      replace hF := bnd_e hF e8
      obtain ⟨v9, e10⟩ : ∃ y : Int32, y = b1 + 1 := ⟨_, rfl⟩
      replace hF := bnd_e hF e10
      refine lv_iinc (v := v9) (lv' := [(1, .int v9), (0, .ref (q 3)), (2, .int b2), (3, .int b3)]) X.x X.b (dk DX3_init_0 42 rfl) hl (k := 1) rfl (by rw [e10]; rfl) (by decide) rfl (fun ls hl => ?_)
      replace hl : lv_has ls 5 [(0, .ref (q 3)), (1, .int v9), (2, .int b2), (3, .int b3)] := lv_sub hl [1, 0, 2, 3] rfl
      obtain ⟨v11, e12⟩ : ∃ y : Int32, y = b3 + 1 := ⟨_, rfl⟩
      replace hF := bnd_e hF e12
      refine lv_iinc (v := v11) (lv' := [(3, .int v11), (0, .ref (q 3)), (1, .int v9), (2, .int b2)]) X.x X.b (dk DX3_init_0 43 rfl) hl (k := 3) rfl (by rw [e12]; rfl) (by decide) rfl (fun ls hl => ?_)
      replace hl : lv_has ls 5 [(0, .ref (q 3)), (1, .int v9), (2, .int b2), (3, .int v11)] := lv_sub hl [1, 2, 3, 0] rfl
      refine lv_goto (tgt := 42) X.x X.b (dk DX3_init_0 44 rfl) (by decide) ?_
      exact (lp_l hF hx) _ _ _ hH (lv_sub hl [0, 1, 2, 3] rfl) K0
set_option maxHeartbeats 4000000 in
set_option maxRecDepth 100000 in
theorem w_X3_init_32 {p : Program} {l : Launch} {e : Env} {s : State} {m : MethodId} {args : Array Value} {below : List Frame} {meth : Method} {c : Code} {Q : State → Prop} {G : mG} {h : mM} {q : Nat → Nat} (hq : oinj LX3 q) (X : mX G p m c cX3_init 5 s args RX3) : ∀ (z : OS × Int32 × Int32) (r : OS), lpv (f_X3_init_32) z = some r → ∀ (H : Heap) (locs : List Loc) (ls : Array Slot), mH G (oset LX3 G q z.1 h) s.heap H locs → lv_has ls 5 [(0, .ref (q 3)), (1, .int z.2.1), (2, .int z.2.2)] → (∀ (H : Heap) (locs : List Loc) (ls : Array Slot), mH G (oset LX3 G q r h) s.heap H locs → lv_has ls 5 [(0, .ref (q 3))] → W p l e rm_X3_init s m args below meth c H locs 3 136 Q (F0 m 82 ls [])) → W p l e rm_X3_init s m args below meth c H locs 3 136 Q (F0 m 32 ls []) := by
  refine lpv_rec ?_
  intro z r x hF hx H locs ls hH hl K0
  obtain ⟨s_t, b1, b2⟩ := z
  dsimp only [f_X3_init_32] at hF
  try dsimp only at hH hl
  refine lv_iload_n X.x X.b (dk DX3_init_0 18 rfl) rfl (lv_at hl 2 rfl) ?_
  refine lv_bipush (v := 6) X.x X.b (dk DX3_init_0 19 rfl) (by decide) ?_
  refine lv_icmp_ge (tgt := 82) X.x X.b (dk DX3_init_0 20 rfl) (by decide) (fun c1 => ?_) (fun c1 => ?_)
  · replace hF := if_t hF c1
    have hr9 := lp_r hF hx
    subst hr9
    exact K0 _ _ _ hH (lv_sub hl [0] rfl)
  · replace hF := if_f hF c1
    refine lv_iload_n X.x X.b (dk DX3_init_0 21 rfl) rfl (lv_at hl 2 rfl) ?_
    refine lv_iconst (v := 1) X.x X.b (dk DX3_init_0 22 rfl) (by decide) ?_
    refine lv_iadd X.x X.b (dk DX3_init_0 23 rfl) ?_
    refine lv_topi (fun v2 e3 => ?_)
    replace hF := bnd_e hF e3
    refine lv_istore_n (lv' := [(3, .int v2), (0, .ref (q 3)), (1, .int b1), (2, .int b2)]) X.x X.b (dk DX3_init_0 24 rfl) rfl hl (by decide) rfl (fun ls hl => ?_)
    replace hl : lv_has ls 5 [(0, .ref (q 3)), (1, .int b1), (2, .int b2), (3, .int v2)] := lv_sub hl [1, 2, 3, 0] rfl
    obtain ⟨x13, e14, hF⟩ := bd hF
    replace hl : lv_has ls 5 [(0, .ref (q 3)), (1, .int b1), (2, .int b2), (3, .int v2)] := lv_sub hl [0, 1, 2, 3] rfl
    obtain ⟨t15, v16⟩ := x13
    try dsimp only at hF
    refine w_X3_init_42 hq X b2 _ _ e14 _ _ _ hH hl (fun H locs ls hH hl => ?_)
    try dsimp only at hH hl
    obtain ⟨v17, e18⟩ : ∃ y : Int32, y = b2 + 1 := ⟨_, rfl⟩
    replace hF := bnd_e hF e18
    refine lv_iinc (v := v17) (lv' := [(2, .int v17), (0, .ref (q 3)), (1, .int v16)]) X.x X.b (dk DX3_init_0 45 rfl) hl (k := 2) rfl (by rw [e18]; rfl) (by decide) rfl (fun ls hl => ?_)
    replace hl : lv_has ls 5 [(0, .ref (q 3)), (1, .int v16), (2, .int v17)] := lv_sub hl [1, 2, 0] rfl
    refine lv_goto (tgt := 32) X.x X.b (dk DX3_init_0 46 rfl) (by decide) ?_
    exact (lp_l hF hx) _ _ _ hH (lv_sub hl [0, 1, 2] rfl) K0
set_option maxHeartbeats 4000000 in
set_option maxRecDepth 100000 in
theorem w_X3_init_86 {p : Program} {l : Launch} {e : Env} {s : State} {m : MethodId} {args : Array Value} {below : List Frame} {meth : Method} {c : Code} {Q : State → Prop} {G : mG} {h : mM} {q : Nat → Nat} (hq : oinj LX3 q) (X : mX G p m c cX3_init 5 s args RX3) : ∀ (z : OS × Int32 × Int32) (r : OS), lpv (f_X3_init_86) z = some r → ∀ (H : Heap) (locs : List Loc) (ls : Array Slot), mH G (oset LX3 G q z.1 h) s.heap H locs → lv_has ls 5 [(0, .ref (q 3)), (2, .int z.2.1), (3, .int z.2.2)] → (∀ (H : Heap) (locs : List Loc) (ls : Array Slot), mH G (oset LX3 G q r h) s.heap H locs → lv_has ls 5 [] → W p l e rm_X3_init s m args below meth c H locs 3 136 Q (F0 m 182 ls [])) → W p l e rm_X3_init s m args below meth c H locs 3 136 Q (F0 m 86 ls []) := by
  refine lpv_rec ?_
  intro z r x hF hx H locs ls hH hl K0
  obtain ⟨s_t, b2, b3⟩ := z
  dsimp only [f_X3_init_86] at hF
  try dsimp only at hH hl
  refine lv_iload_n X.x X.b (dk DX3_init_0 51 rfl) rfl (lv_at hl 2 rfl) ?_
  refine lv_bipush (v := 81) X.x X.b (dk DX3_init_0 52 rfl) (by decide) ?_
  refine lv_icmp_ge (tgt := 182) X.x X.b (dk DX3_init_0 53 rfl) (by decide) (fun c22 => ?_) (fun c22 => ?_)
  · replace hF := if_t hF c22
    have hr9 := lp_r hF hx
    subst hr9
    exact K0 _ _ _ hH (lv_sub hl [] rfl)
  · replace hF := if_f hF c22
    refine lv_iload_n X.x X.b (dk DX3_init_0 54 rfl) rfl (lv_at hl 2 rfl) ?_
    refine lv_iconst (v := 1) X.x X.b (dk DX3_init_0 55 rfl) (by decide) ?_
    refine lv_icmp_eq (tgt := 132) X.x X.b (dk DX3_init_0 56 rfl) (by decide) (fun c23 => ?_) (fun c23 => ?_)
    · replace hF := if_t hF c23
      refine lv_iconst (v := 1) X.x X.b (dk DX3_init_1 15 rfl) (by decide) ?_
      refine lv_goto (tgt := 137) X.x X.b (dk DX3_init_1 16 rfl) (by decide) ?_
      refine lv_istore (lv' := [(4, .int 1), (0, .ref (q 3)), (2, .int b2), (3, .int b3)]) X.x X.b (dk DX3_init_1 18 rfl) hl (by decide) rfl (fun ls hl => ?_)
      replace hl : lv_has ls 5 [(0, .ref (q 3)), (2, .int b2), (3, .int b3), (4, .int 1)] := lv_sub hl [1, 2, 3, 0] rfl
      refine lv_aload_n X.x X.b (dk DX3_init_1 19 rfl) rfl (lv_at hl 0 rfl) ?_
      refine og_getR (t := 0) OX3 X hq hH 2 (by decide) rfl kF_X3_18 (dk DX3_init_1 20 rfl) ?_
      refine lv_iload_n X.x X.b (dk DX3_init_1 21 rfl) rfl (lv_at hl 2 rfl) ?_
      refine lv_iload X.x X.b (dk DX3_init_1 22 rfl) (lv_at hl 3 rfl) ?_
      refine lv_if_eq (tgt := 153) X.x X.b (dk DX3_init_1 23 rfl) (by decide) (fun c24 => ?_) (fun c24 => ?_)
      · replace hF := if_t hF c24
        refine lv_iconst (v := (-1)) X.x X.b (dk DX3_init_1 26 rfl) (by decide) ?_
        obtain ⟨c25, hF⟩ := gd hF
        refine og_iast X hq hH 2 (by decide) rfl (inb_in c25) (dk DX3_init_1 27 rfl) (fun H locs hH => ?_)
        obtain ⟨t26, e27⟩ : ∃ y, y = oA s_t 2 (upd (s_t.2.2.1 2) (b3 : Int32).toNatClampNeg ((-1))) := ⟨_, rfl⟩
        rw [← e27] at hH
        replace hF := bnd_e hF e27
        refine lv_iload X.x X.b (dk DX3_init_1 28 rfl) (lv_at hl 3 rfl) ?_
        refine lv_if_eq (tgt := 176) X.x X.b (dk DX3_init_1 29 rfl) (by decide) (fun c28 => ?_) (fun c28 => ?_)
        · replace hF := if_t hF c28
          obtain ⟨v29, e30⟩ : ∃ y : Int32, y = b3 + 1 := ⟨_, rfl⟩
          replace hF := bnd_e hF e30
          refine lv_iinc (v := v29) (lv' := [(3, .int v29), (0, .ref (q 3)), (2, .int b2), (4, .int 1)]) X.x X.b (dk DX3_init_1 39 rfl) hl (k := 2) rfl (by rw [e30]; rfl) (by decide) rfl (fun ls hl => ?_)
          replace hl : lv_has ls 5 [(0, .ref (q 3)), (2, .int b2), (3, .int v29)] := lv_sub hl [1, 2, 0] rfl
          refine lv_goto (tgt := 86) X.x X.b (dk DX3_init_1 40 rfl) (by decide) ?_
          exact (lp_l hF hx) _ _ _ hH (lv_sub hl [0, 1, 2] rfl) K0
        · replace hF := if_f hF c28
          refine lv_iload_n X.x X.b (dk DX3_init_1 30 rfl) rfl (lv_at hl 1 rfl) ?_
          refine lv_bipush (v := 40) X.x X.b (dk DX3_init_1 31 rfl) (by decide) ?_
          refine lv_icmp_ge (tgt := 176) X.x X.b (dk DX3_init_1 32 rfl) (by decide) (fun c31 => ?_) (fun c31 => ?_)
          · replace hF := if_t hF c31
            obtain ⟨v32, e33⟩ : ∃ y : Int32, y = b3 + 1 := ⟨_, rfl⟩
            replace hF := bnd_e hF e33
            refine lv_iinc (v := v32) (lv' := [(3, .int v32), (0, .ref (q 3)), (2, .int b2), (4, .int 1)]) X.x X.b (dk DX3_init_1 39 rfl) hl (k := 2) rfl (by rw [e33]; rfl) (by decide) rfl (fun ls hl => ?_)
            replace hl : lv_has ls 5 [(0, .ref (q 3)), (2, .int b2), (3, .int v32)] := lv_sub hl [1, 2, 0] rfl
            refine lv_goto (tgt := 86) X.x X.b (dk DX3_init_1 40 rfl) (by decide) ?_
            exact (lp_l hF hx) _ _ _ hH (lv_sub hl [0, 1, 2] rfl) K0
          · replace hF := if_f hF c31
            refine lv_aload_n X.x X.b (dk DX3_init_1 33 rfl) rfl (lv_at hl 0 rfl) ?_
            refine og_getR (t := 0) OX3 X hq hH 1 (by decide) rfl kF_X3_15 (dk DX3_init_1 34 rfl) ?_
            refine lv_iload_n X.x X.b (dk DX3_init_1 35 rfl) rfl (lv_at hl 1 rfl) ?_
            refine lv_iload_n X.x X.b (dk DX3_init_1 36 rfl) rfl (lv_at hl 2 rfl) ?_
            obtain ⟨c34, hF⟩ := gd hF
            refine og_iast X hq hH 1 (by decide) rfl (inb_in c34) (dk DX3_init_1 37 rfl) (fun H locs hH => ?_)
            obtain ⟨t35, e36⟩ : ∃ y, y = oA t26 1 (upd (t26.2.2.1 1) (b2 : Int32).toNatClampNeg b3) := ⟨_, rfl⟩
            rw [← e36] at hH
            replace hF := bnd_e hF e36
            obtain ⟨v37, e38⟩ : ∃ y : Int32, y = b2 + 1 := ⟨_, rfl⟩
            replace hF := bnd_e hF e38
            refine lv_iinc (v := v37) (lv' := [(2, .int v37), (0, .ref (q 3)), (3, .int b3), (4, .int 1)]) X.x X.b (dk DX3_init_1 38 rfl) hl (k := 1) rfl (by rw [e38]; rfl) (by decide) rfl (fun ls hl => ?_)
            replace hl : lv_has ls 5 [(0, .ref (q 3)), (2, .int v37), (3, .int b3)] := lv_sub hl [1, 0, 2] rfl
            obtain ⟨v39, e40⟩ : ∃ y : Int32, y = b3 + 1 := ⟨_, rfl⟩
            replace hF := bnd_e hF e40
            refine lv_iinc (v := v39) (lv' := [(3, .int v39), (0, .ref (q 3)), (2, .int v37)]) X.x X.b (dk DX3_init_1 39 rfl) hl (k := 2) rfl (by rw [e40]; rfl) (by decide) rfl (fun ls hl => ?_)
            replace hl : lv_has ls 5 [(0, .ref (q 3)), (2, .int v37), (3, .int v39)] := lv_sub hl [1, 2, 0] rfl
            refine lv_goto (tgt := 86) X.x X.b (dk DX3_init_1 40 rfl) (by decide) ?_
            exact (lp_l hF hx) _ _ _ hH (lv_sub hl [0, 1, 2] rfl) K0
      · replace hF := if_f hF c24
        refine lv_iload_n X.x X.b (dk DX3_init_1 24 rfl) rfl (lv_at hl 1 rfl) ?_
        refine lv_goto (tgt := 154) X.x X.b (dk DX3_init_1 25 rfl) (by decide) ?_
        obtain ⟨c41, hF⟩ := gd hF
        refine og_iast X hq hH 2 (by decide) rfl (inb_in c41) (dk DX3_init_1 27 rfl) (fun H locs hH => ?_)
        obtain ⟨t42, e43⟩ : ∃ y, y = oA s_t 2 (upd (s_t.2.2.1 2) (b3 : Int32).toNatClampNeg b2) := ⟨_, rfl⟩
        rw [← e43] at hH
        replace hF := bnd_e hF e43
        refine lv_iload X.x X.b (dk DX3_init_1 28 rfl) (lv_at hl 3 rfl) ?_
        refine lv_if_eq (tgt := 176) X.x X.b (dk DX3_init_1 29 rfl) (by decide) (fun c44 => ?_) (fun c44 => ?_)
        · replace hF := if_t hF c44
          obtain ⟨v45, e46⟩ : ∃ y : Int32, y = b3 + 1 := ⟨_, rfl⟩
          replace hF := bnd_e hF e46
          refine lv_iinc (v := v45) (lv' := [(3, .int v45), (0, .ref (q 3)), (2, .int b2), (4, .int 1)]) X.x X.b (dk DX3_init_1 39 rfl) hl (k := 2) rfl (by rw [e46]; rfl) (by decide) rfl (fun ls hl => ?_)
          replace hl : lv_has ls 5 [(0, .ref (q 3)), (2, .int b2), (3, .int v45)] := lv_sub hl [1, 2, 0] rfl
          refine lv_goto (tgt := 86) X.x X.b (dk DX3_init_1 40 rfl) (by decide) ?_
          exact (lp_l hF hx) _ _ _ hH (lv_sub hl [0, 1, 2] rfl) K0
        · replace hF := if_f hF c44
          refine lv_iload_n X.x X.b (dk DX3_init_1 30 rfl) rfl (lv_at hl 1 rfl) ?_
          refine lv_bipush (v := 40) X.x X.b (dk DX3_init_1 31 rfl) (by decide) ?_
          refine lv_icmp_ge (tgt := 176) X.x X.b (dk DX3_init_1 32 rfl) (by decide) (fun c47 => ?_) (fun c47 => ?_)
          · replace hF := if_t hF c47
            obtain ⟨v48, e49⟩ : ∃ y : Int32, y = b3 + 1 := ⟨_, rfl⟩
            replace hF := bnd_e hF e49
            refine lv_iinc (v := v48) (lv' := [(3, .int v48), (0, .ref (q 3)), (2, .int b2), (4, .int 1)]) X.x X.b (dk DX3_init_1 39 rfl) hl (k := 2) rfl (by rw [e49]; rfl) (by decide) rfl (fun ls hl => ?_)
            replace hl : lv_has ls 5 [(0, .ref (q 3)), (2, .int b2), (3, .int v48)] := lv_sub hl [1, 2, 0] rfl
            refine lv_goto (tgt := 86) X.x X.b (dk DX3_init_1 40 rfl) (by decide) ?_
            exact (lp_l hF hx) _ _ _ hH (lv_sub hl [0, 1, 2] rfl) K0
          · replace hF := if_f hF c47
            refine lv_aload_n X.x X.b (dk DX3_init_1 33 rfl) rfl (lv_at hl 0 rfl) ?_
            refine og_getR (t := 0) OX3 X hq hH 1 (by decide) rfl kF_X3_15 (dk DX3_init_1 34 rfl) ?_
            refine lv_iload_n X.x X.b (dk DX3_init_1 35 rfl) rfl (lv_at hl 1 rfl) ?_
            refine lv_iload_n X.x X.b (dk DX3_init_1 36 rfl) rfl (lv_at hl 2 rfl) ?_
            obtain ⟨c50, hF⟩ := gd hF
            refine og_iast X hq hH 1 (by decide) rfl (inb_in c50) (dk DX3_init_1 37 rfl) (fun H locs hH => ?_)
            obtain ⟨t51, e52⟩ : ∃ y, y = oA t42 1 (upd (t42.2.2.1 1) (b2 : Int32).toNatClampNeg b3) := ⟨_, rfl⟩
            rw [← e52] at hH
            replace hF := bnd_e hF e52
            obtain ⟨v53, e54⟩ : ∃ y : Int32, y = b2 + 1 := ⟨_, rfl⟩
            replace hF := bnd_e hF e54
            refine lv_iinc (v := v53) (lv' := [(2, .int v53), (0, .ref (q 3)), (3, .int b3), (4, .int 1)]) X.x X.b (dk DX3_init_1 38 rfl) hl (k := 1) rfl (by rw [e54]; rfl) (by decide) rfl (fun ls hl => ?_)
            replace hl : lv_has ls 5 [(0, .ref (q 3)), (2, .int v53), (3, .int b3)] := lv_sub hl [1, 0, 2] rfl
            obtain ⟨v55, e56⟩ : ∃ y : Int32, y = b3 + 1 := ⟨_, rfl⟩
            replace hF := bnd_e hF e56
            refine lv_iinc (v := v55) (lv' := [(3, .int v55), (0, .ref (q 3)), (2, .int v53)]) X.x X.b (dk DX3_init_1 39 rfl) hl (k := 2) rfl (by rw [e56]; rfl) (by decide) rfl (fun ls hl => ?_)
            replace hl : lv_has ls 5 [(0, .ref (q 3)), (2, .int v53), (3, .int v55)] := lv_sub hl [1, 2, 0] rfl
            refine lv_goto (tgt := 86) X.x X.b (dk DX3_init_1 40 rfl) (by decide) ?_
            exact (lp_l hF hx) _ _ _ hH (lv_sub hl [0, 1, 2] rfl) K0
    · replace hF := if_f hF c23
      refine lv_iload_n X.x X.b (dk DX3_init_0 57 rfl) rfl (lv_at hl 2 rfl) ?_
      refine lv_iconst (v := 3) X.x X.b (dk DX3_init_0 58 rfl) (by decide) ?_
      refine lv_icmp_lt (tgt := 108) X.x X.b (dk DX3_init_0 59 rfl) (by decide) (fun c57 => ?_) (fun c57 => ?_)
      · replace hF := if_t hF c57
        refine lv_iload_n X.x X.b (dk DX3_init_1 3 rfl) rfl (lv_at hl 2 rfl) ?_
        refine lv_bipush (v := 9) X.x X.b (dk DX3_init_1 4 rfl) (by decide) ?_
        refine lv_icmp_lt (tgt := 120) X.x X.b (dk DX3_init_1 5 rfl) (by decide) (fun c58 => ?_) (fun c58 => ?_)
        · replace hF := if_t hF c58
          refine lv_iload_n X.x X.b (dk DX3_init_1 9 rfl) rfl (lv_at hl 2 rfl) ?_
          refine lv_bipush (v := 27) X.x X.b (dk DX3_init_1 10 rfl) (by decide) ?_
          refine lv_icmp_lt (tgt := 136) X.x X.b (dk DX3_init_1 11 rfl) (by decide) (fun c59 => ?_) (fun c59 => ?_)
          · replace hF := if_t hF c59
            refine lv_iconst (v := 0) X.x X.b (dk DX3_init_1 17 rfl) (by decide) ?_
            refine lv_istore (lv' := [(4, .int 0), (0, .ref (q 3)), (2, .int b2), (3, .int b3)]) X.x X.b (dk DX3_init_1 18 rfl) hl (by decide) rfl (fun ls hl => ?_)
            replace hl : lv_has ls 5 [(0, .ref (q 3)), (2, .int b2), (3, .int b3), (4, .int 0)] := lv_sub hl [1, 2, 3, 0] rfl
            refine lv_aload_n X.x X.b (dk DX3_init_1 19 rfl) rfl (lv_at hl 0 rfl) ?_
            refine og_getR (t := 0) OX3 X hq hH 2 (by decide) rfl kF_X3_18 (dk DX3_init_1 20 rfl) ?_
            refine lv_iload_n X.x X.b (dk DX3_init_1 21 rfl) rfl (lv_at hl 2 rfl) ?_
            refine lv_iload X.x X.b (dk DX3_init_1 22 rfl) (lv_at hl 3 rfl) ?_
            refine lv_if_eq (tgt := 153) X.x X.b (dk DX3_init_1 23 rfl) (by decide) (fun c60 => ?_) (fun c60 => ?_)
            · replace hF := if_t hF c60
              refine lv_iconst (v := (-1)) X.x X.b (dk DX3_init_1 26 rfl) (by decide) ?_
              obtain ⟨c61, hF⟩ := gd hF
              refine og_iast X hq hH 2 (by decide) rfl (inb_in c61) (dk DX3_init_1 27 rfl) (fun H locs hH => ?_)
              obtain ⟨t62, e63⟩ : ∃ y, y = oA s_t 2 (upd (s_t.2.2.1 2) (b3 : Int32).toNatClampNeg ((-1))) := ⟨_, rfl⟩
              rw [← e63] at hH
              replace hF := bnd_e hF e63
              refine lv_iload X.x X.b (dk DX3_init_1 28 rfl) (lv_at hl 3 rfl) ?_
              refine lv_if_eq (tgt := 176) X.x X.b (dk DX3_init_1 29 rfl) (by decide) (fun c64 => ?_) (fun c64 => ?_)
              · replace hF := if_t hF c64
                obtain ⟨v65, e66⟩ : ∃ y : Int32, y = b3 + 1 := ⟨_, rfl⟩
                replace hF := bnd_e hF e66
                refine lv_iinc (v := v65) (lv' := [(3, .int v65), (0, .ref (q 3)), (2, .int b2), (4, .int 0)]) X.x X.b (dk DX3_init_1 39 rfl) hl (k := 2) rfl (by rw [e66]; rfl) (by decide) rfl (fun ls hl => ?_)
                replace hl : lv_has ls 5 [(0, .ref (q 3)), (2, .int b2), (3, .int v65)] := lv_sub hl [1, 2, 0] rfl
                refine lv_goto (tgt := 86) X.x X.b (dk DX3_init_1 40 rfl) (by decide) ?_
                exact (lp_l hF hx) _ _ _ hH (lv_sub hl [0, 1, 2] rfl) K0
              · replace hF := if_f hF c64
                refine lv_iload_n X.x X.b (dk DX3_init_1 30 rfl) rfl (lv_at hl 1 rfl) ?_
                refine lv_bipush (v := 40) X.x X.b (dk DX3_init_1 31 rfl) (by decide) ?_
                refine lv_icmp_ge (tgt := 176) X.x X.b (dk DX3_init_1 32 rfl) (by decide) (fun c67 => ?_) (fun c67 => ?_)
                · replace hF := if_t hF c67
                  obtain ⟨v68, e69⟩ : ∃ y : Int32, y = b3 + 1 := ⟨_, rfl⟩
                  replace hF := bnd_e hF e69
                  refine lv_iinc (v := v68) (lv' := [(3, .int v68), (0, .ref (q 3)), (2, .int b2), (4, .int 0)]) X.x X.b (dk DX3_init_1 39 rfl) hl (k := 2) rfl (by rw [e69]; rfl) (by decide) rfl (fun ls hl => ?_)
                  replace hl : lv_has ls 5 [(0, .ref (q 3)), (2, .int b2), (3, .int v68)] := lv_sub hl [1, 2, 0] rfl
                  refine lv_goto (tgt := 86) X.x X.b (dk DX3_init_1 40 rfl) (by decide) ?_
                  exact (lp_l hF hx) _ _ _ hH (lv_sub hl [0, 1, 2] rfl) K0
                · replace hF := if_f hF c67
                  refine lv_aload_n X.x X.b (dk DX3_init_1 33 rfl) rfl (lv_at hl 0 rfl) ?_
                  refine og_getR (t := 0) OX3 X hq hH 1 (by decide) rfl kF_X3_15 (dk DX3_init_1 34 rfl) ?_
                  refine lv_iload_n X.x X.b (dk DX3_init_1 35 rfl) rfl (lv_at hl 1 rfl) ?_
                  refine lv_iload_n X.x X.b (dk DX3_init_1 36 rfl) rfl (lv_at hl 2 rfl) ?_
                  obtain ⟨c70, hF⟩ := gd hF
                  refine og_iast X hq hH 1 (by decide) rfl (inb_in c70) (dk DX3_init_1 37 rfl) (fun H locs hH => ?_)
                  obtain ⟨t71, e72⟩ : ∃ y, y = oA t62 1 (upd (t62.2.2.1 1) (b2 : Int32).toNatClampNeg b3) := ⟨_, rfl⟩
                  rw [← e72] at hH
                  replace hF := bnd_e hF e72
                  obtain ⟨v73, e74⟩ : ∃ y : Int32, y = b2 + 1 := ⟨_, rfl⟩
                  replace hF := bnd_e hF e74
                  refine lv_iinc (v := v73) (lv' := [(2, .int v73), (0, .ref (q 3)), (3, .int b3), (4, .int 0)]) X.x X.b (dk DX3_init_1 38 rfl) hl (k := 1) rfl (by rw [e74]; rfl) (by decide) rfl (fun ls hl => ?_)
                  replace hl : lv_has ls 5 [(0, .ref (q 3)), (2, .int v73), (3, .int b3)] := lv_sub hl [1, 0, 2] rfl
                  obtain ⟨v75, e76⟩ : ∃ y : Int32, y = b3 + 1 := ⟨_, rfl⟩
                  replace hF := bnd_e hF e76
                  refine lv_iinc (v := v75) (lv' := [(3, .int v75), (0, .ref (q 3)), (2, .int v73)]) X.x X.b (dk DX3_init_1 39 rfl) hl (k := 2) rfl (by rw [e76]; rfl) (by decide) rfl (fun ls hl => ?_)
                  replace hl : lv_has ls 5 [(0, .ref (q 3)), (2, .int v73), (3, .int v75)] := lv_sub hl [1, 2, 0] rfl
                  refine lv_goto (tgt := 86) X.x X.b (dk DX3_init_1 40 rfl) (by decide) ?_
                  exact (lp_l hF hx) _ _ _ hH (lv_sub hl [0, 1, 2] rfl) K0
            · replace hF := if_f hF c60
              refine lv_iload_n X.x X.b (dk DX3_init_1 24 rfl) rfl (lv_at hl 1 rfl) ?_
              refine lv_goto (tgt := 154) X.x X.b (dk DX3_init_1 25 rfl) (by decide) ?_
              obtain ⟨c77, hF⟩ := gd hF
              refine og_iast X hq hH 2 (by decide) rfl (inb_in c77) (dk DX3_init_1 27 rfl) (fun H locs hH => ?_)
              obtain ⟨t78, e79⟩ : ∃ y, y = oA s_t 2 (upd (s_t.2.2.1 2) (b3 : Int32).toNatClampNeg b2) := ⟨_, rfl⟩
              rw [← e79] at hH
              replace hF := bnd_e hF e79
              refine lv_iload X.x X.b (dk DX3_init_1 28 rfl) (lv_at hl 3 rfl) ?_
              refine lv_if_eq (tgt := 176) X.x X.b (dk DX3_init_1 29 rfl) (by decide) (fun c80 => ?_) (fun c80 => ?_)
              · replace hF := if_t hF c80
                obtain ⟨v81, e82⟩ : ∃ y : Int32, y = b3 + 1 := ⟨_, rfl⟩
                replace hF := bnd_e hF e82
                refine lv_iinc (v := v81) (lv' := [(3, .int v81), (0, .ref (q 3)), (2, .int b2), (4, .int 0)]) X.x X.b (dk DX3_init_1 39 rfl) hl (k := 2) rfl (by rw [e82]; rfl) (by decide) rfl (fun ls hl => ?_)
                replace hl : lv_has ls 5 [(0, .ref (q 3)), (2, .int b2), (3, .int v81)] := lv_sub hl [1, 2, 0] rfl
                refine lv_goto (tgt := 86) X.x X.b (dk DX3_init_1 40 rfl) (by decide) ?_
                exact (lp_l hF hx) _ _ _ hH (lv_sub hl [0, 1, 2] rfl) K0
              · replace hF := if_f hF c80
                refine lv_iload_n X.x X.b (dk DX3_init_1 30 rfl) rfl (lv_at hl 1 rfl) ?_
                refine lv_bipush (v := 40) X.x X.b (dk DX3_init_1 31 rfl) (by decide) ?_
                refine lv_icmp_ge (tgt := 176) X.x X.b (dk DX3_init_1 32 rfl) (by decide) (fun c83 => ?_) (fun c83 => ?_)
                · replace hF := if_t hF c83
                  obtain ⟨v84, e85⟩ : ∃ y : Int32, y = b3 + 1 := ⟨_, rfl⟩
                  replace hF := bnd_e hF e85
                  refine lv_iinc (v := v84) (lv' := [(3, .int v84), (0, .ref (q 3)), (2, .int b2), (4, .int 0)]) X.x X.b (dk DX3_init_1 39 rfl) hl (k := 2) rfl (by rw [e85]; rfl) (by decide) rfl (fun ls hl => ?_)
                  replace hl : lv_has ls 5 [(0, .ref (q 3)), (2, .int b2), (3, .int v84)] := lv_sub hl [1, 2, 0] rfl
                  refine lv_goto (tgt := 86) X.x X.b (dk DX3_init_1 40 rfl) (by decide) ?_
                  exact (lp_l hF hx) _ _ _ hH (lv_sub hl [0, 1, 2] rfl) K0
                · replace hF := if_f hF c83
                  refine lv_aload_n X.x X.b (dk DX3_init_1 33 rfl) rfl (lv_at hl 0 rfl) ?_
                  refine og_getR (t := 0) OX3 X hq hH 1 (by decide) rfl kF_X3_15 (dk DX3_init_1 34 rfl) ?_
                  refine lv_iload_n X.x X.b (dk DX3_init_1 35 rfl) rfl (lv_at hl 1 rfl) ?_
                  refine lv_iload_n X.x X.b (dk DX3_init_1 36 rfl) rfl (lv_at hl 2 rfl) ?_
                  obtain ⟨c86, hF⟩ := gd hF
                  refine og_iast X hq hH 1 (by decide) rfl (inb_in c86) (dk DX3_init_1 37 rfl) (fun H locs hH => ?_)
                  obtain ⟨t87, e88⟩ : ∃ y, y = oA t78 1 (upd (t78.2.2.1 1) (b2 : Int32).toNatClampNeg b3) := ⟨_, rfl⟩
                  rw [← e88] at hH
                  replace hF := bnd_e hF e88
                  obtain ⟨v89, e90⟩ : ∃ y : Int32, y = b2 + 1 := ⟨_, rfl⟩
                  replace hF := bnd_e hF e90
                  refine lv_iinc (v := v89) (lv' := [(2, .int v89), (0, .ref (q 3)), (3, .int b3), (4, .int 0)]) X.x X.b (dk DX3_init_1 38 rfl) hl (k := 1) rfl (by rw [e90]; rfl) (by decide) rfl (fun ls hl => ?_)
                  replace hl : lv_has ls 5 [(0, .ref (q 3)), (2, .int v89), (3, .int b3)] := lv_sub hl [1, 0, 2] rfl
                  obtain ⟨v91, e92⟩ : ∃ y : Int32, y = b3 + 1 := ⟨_, rfl⟩
                  replace hF := bnd_e hF e92
                  refine lv_iinc (v := v91) (lv' := [(3, .int v91), (0, .ref (q 3)), (2, .int v89)]) X.x X.b (dk DX3_init_1 39 rfl) hl (k := 2) rfl (by rw [e92]; rfl) (by decide) rfl (fun ls hl => ?_)
                  replace hl : lv_has ls 5 [(0, .ref (q 3)), (2, .int v89), (3, .int v91)] := lv_sub hl [1, 2, 0] rfl
                  refine lv_goto (tgt := 86) X.x X.b (dk DX3_init_1 40 rfl) (by decide) ?_
                  exact (lp_l hF hx) _ _ _ hH (lv_sub hl [0, 1, 2] rfl) K0
          · replace hF := if_f hF c59
            refine lv_iload_n X.x X.b (dk DX3_init_1 12 rfl) rfl (lv_at hl 2 rfl) ?_
            refine lv_bipush (v := 54) X.x X.b (dk DX3_init_1 13 rfl) (by decide) ?_
            refine lv_icmp_ge (tgt := 136) X.x X.b (dk DX3_init_1 14 rfl) (by decide) (fun c93 => ?_) (fun c93 => ?_)
            · replace hF := if_t hF c93
              refine lv_iconst (v := 0) X.x X.b (dk DX3_init_1 17 rfl) (by decide) ?_
              refine lv_istore (lv' := [(4, .int 0), (0, .ref (q 3)), (2, .int b2), (3, .int b3)]) X.x X.b (dk DX3_init_1 18 rfl) hl (by decide) rfl (fun ls hl => ?_)
              replace hl : lv_has ls 5 [(0, .ref (q 3)), (2, .int b2), (3, .int b3), (4, .int 0)] := lv_sub hl [1, 2, 3, 0] rfl
              refine lv_aload_n X.x X.b (dk DX3_init_1 19 rfl) rfl (lv_at hl 0 rfl) ?_
              refine og_getR (t := 0) OX3 X hq hH 2 (by decide) rfl kF_X3_18 (dk DX3_init_1 20 rfl) ?_
              refine lv_iload_n X.x X.b (dk DX3_init_1 21 rfl) rfl (lv_at hl 2 rfl) ?_
              refine lv_iload X.x X.b (dk DX3_init_1 22 rfl) (lv_at hl 3 rfl) ?_
              refine lv_if_eq (tgt := 153) X.x X.b (dk DX3_init_1 23 rfl) (by decide) (fun c94 => ?_) (fun c94 => ?_)
              · replace hF := if_t hF c94
                refine lv_iconst (v := (-1)) X.x X.b (dk DX3_init_1 26 rfl) (by decide) ?_
                obtain ⟨c95, hF⟩ := gd hF
                refine og_iast X hq hH 2 (by decide) rfl (inb_in c95) (dk DX3_init_1 27 rfl) (fun H locs hH => ?_)
                obtain ⟨t96, e97⟩ : ∃ y, y = oA s_t 2 (upd (s_t.2.2.1 2) (b3 : Int32).toNatClampNeg ((-1))) := ⟨_, rfl⟩
                rw [← e97] at hH
                replace hF := bnd_e hF e97
                refine lv_iload X.x X.b (dk DX3_init_1 28 rfl) (lv_at hl 3 rfl) ?_
                refine lv_if_eq (tgt := 176) X.x X.b (dk DX3_init_1 29 rfl) (by decide) (fun c98 => ?_) (fun c98 => ?_)
                · replace hF := if_t hF c98
                  obtain ⟨v99, e100⟩ : ∃ y : Int32, y = b3 + 1 := ⟨_, rfl⟩
                  replace hF := bnd_e hF e100
                  refine lv_iinc (v := v99) (lv' := [(3, .int v99), (0, .ref (q 3)), (2, .int b2), (4, .int 0)]) X.x X.b (dk DX3_init_1 39 rfl) hl (k := 2) rfl (by rw [e100]; rfl) (by decide) rfl (fun ls hl => ?_)
                  replace hl : lv_has ls 5 [(0, .ref (q 3)), (2, .int b2), (3, .int v99)] := lv_sub hl [1, 2, 0] rfl
                  refine lv_goto (tgt := 86) X.x X.b (dk DX3_init_1 40 rfl) (by decide) ?_
                  exact (lp_l hF hx) _ _ _ hH (lv_sub hl [0, 1, 2] rfl) K0
                · replace hF := if_f hF c98
                  refine lv_iload_n X.x X.b (dk DX3_init_1 30 rfl) rfl (lv_at hl 1 rfl) ?_
                  refine lv_bipush (v := 40) X.x X.b (dk DX3_init_1 31 rfl) (by decide) ?_
                  refine lv_icmp_ge (tgt := 176) X.x X.b (dk DX3_init_1 32 rfl) (by decide) (fun c101 => ?_) (fun c101 => ?_)
                  · replace hF := if_t hF c101
                    obtain ⟨v102, e103⟩ : ∃ y : Int32, y = b3 + 1 := ⟨_, rfl⟩
                    replace hF := bnd_e hF e103
                    refine lv_iinc (v := v102) (lv' := [(3, .int v102), (0, .ref (q 3)), (2, .int b2), (4, .int 0)]) X.x X.b (dk DX3_init_1 39 rfl) hl (k := 2) rfl (by rw [e103]; rfl) (by decide) rfl (fun ls hl => ?_)
                    replace hl : lv_has ls 5 [(0, .ref (q 3)), (2, .int b2), (3, .int v102)] := lv_sub hl [1, 2, 0] rfl
                    refine lv_goto (tgt := 86) X.x X.b (dk DX3_init_1 40 rfl) (by decide) ?_
                    exact (lp_l hF hx) _ _ _ hH (lv_sub hl [0, 1, 2] rfl) K0
                  · replace hF := if_f hF c101
                    refine lv_aload_n X.x X.b (dk DX3_init_1 33 rfl) rfl (lv_at hl 0 rfl) ?_
                    refine og_getR (t := 0) OX3 X hq hH 1 (by decide) rfl kF_X3_15 (dk DX3_init_1 34 rfl) ?_
                    refine lv_iload_n X.x X.b (dk DX3_init_1 35 rfl) rfl (lv_at hl 1 rfl) ?_
                    refine lv_iload_n X.x X.b (dk DX3_init_1 36 rfl) rfl (lv_at hl 2 rfl) ?_
                    obtain ⟨c104, hF⟩ := gd hF
                    refine og_iast X hq hH 1 (by decide) rfl (inb_in c104) (dk DX3_init_1 37 rfl) (fun H locs hH => ?_)
                    obtain ⟨t105, e106⟩ : ∃ y, y = oA t96 1 (upd (t96.2.2.1 1) (b2 : Int32).toNatClampNeg b3) := ⟨_, rfl⟩
                    rw [← e106] at hH
                    replace hF := bnd_e hF e106
                    obtain ⟨v107, e108⟩ : ∃ y : Int32, y = b2 + 1 := ⟨_, rfl⟩
                    replace hF := bnd_e hF e108
                    refine lv_iinc (v := v107) (lv' := [(2, .int v107), (0, .ref (q 3)), (3, .int b3), (4, .int 0)]) X.x X.b (dk DX3_init_1 38 rfl) hl (k := 1) rfl (by rw [e108]; rfl) (by decide) rfl (fun ls hl => ?_)
                    replace hl : lv_has ls 5 [(0, .ref (q 3)), (2, .int v107), (3, .int b3)] := lv_sub hl [1, 0, 2] rfl
                    obtain ⟨v109, e110⟩ : ∃ y : Int32, y = b3 + 1 := ⟨_, rfl⟩
                    replace hF := bnd_e hF e110
                    refine lv_iinc (v := v109) (lv' := [(3, .int v109), (0, .ref (q 3)), (2, .int v107)]) X.x X.b (dk DX3_init_1 39 rfl) hl (k := 2) rfl (by rw [e110]; rfl) (by decide) rfl (fun ls hl => ?_)
                    replace hl : lv_has ls 5 [(0, .ref (q 3)), (2, .int v107), (3, .int v109)] := lv_sub hl [1, 2, 0] rfl
                    refine lv_goto (tgt := 86) X.x X.b (dk DX3_init_1 40 rfl) (by decide) ?_
                    exact (lp_l hF hx) _ _ _ hH (lv_sub hl [0, 1, 2] rfl) K0
              · replace hF := if_f hF c94
                refine lv_iload_n X.x X.b (dk DX3_init_1 24 rfl) rfl (lv_at hl 1 rfl) ?_
                refine lv_goto (tgt := 154) X.x X.b (dk DX3_init_1 25 rfl) (by decide) ?_
                obtain ⟨c111, hF⟩ := gd hF
                refine og_iast X hq hH 2 (by decide) rfl (inb_in c111) (dk DX3_init_1 27 rfl) (fun H locs hH => ?_)
                obtain ⟨t112, e113⟩ : ∃ y, y = oA s_t 2 (upd (s_t.2.2.1 2) (b3 : Int32).toNatClampNeg b2) := ⟨_, rfl⟩
                rw [← e113] at hH
                replace hF := bnd_e hF e113
                refine lv_iload X.x X.b (dk DX3_init_1 28 rfl) (lv_at hl 3 rfl) ?_
                refine lv_if_eq (tgt := 176) X.x X.b (dk DX3_init_1 29 rfl) (by decide) (fun c114 => ?_) (fun c114 => ?_)
                · replace hF := if_t hF c114
                  obtain ⟨v115, e116⟩ : ∃ y : Int32, y = b3 + 1 := ⟨_, rfl⟩
                  replace hF := bnd_e hF e116
                  refine lv_iinc (v := v115) (lv' := [(3, .int v115), (0, .ref (q 3)), (2, .int b2), (4, .int 0)]) X.x X.b (dk DX3_init_1 39 rfl) hl (k := 2) rfl (by rw [e116]; rfl) (by decide) rfl (fun ls hl => ?_)
                  replace hl : lv_has ls 5 [(0, .ref (q 3)), (2, .int b2), (3, .int v115)] := lv_sub hl [1, 2, 0] rfl
                  refine lv_goto (tgt := 86) X.x X.b (dk DX3_init_1 40 rfl) (by decide) ?_
                  exact (lp_l hF hx) _ _ _ hH (lv_sub hl [0, 1, 2] rfl) K0
                · replace hF := if_f hF c114
                  refine lv_iload_n X.x X.b (dk DX3_init_1 30 rfl) rfl (lv_at hl 1 rfl) ?_
                  refine lv_bipush (v := 40) X.x X.b (dk DX3_init_1 31 rfl) (by decide) ?_
                  refine lv_icmp_ge (tgt := 176) X.x X.b (dk DX3_init_1 32 rfl) (by decide) (fun c117 => ?_) (fun c117 => ?_)
                  · replace hF := if_t hF c117
                    obtain ⟨v118, e119⟩ : ∃ y : Int32, y = b3 + 1 := ⟨_, rfl⟩
                    replace hF := bnd_e hF e119
                    refine lv_iinc (v := v118) (lv' := [(3, .int v118), (0, .ref (q 3)), (2, .int b2), (4, .int 0)]) X.x X.b (dk DX3_init_1 39 rfl) hl (k := 2) rfl (by rw [e119]; rfl) (by decide) rfl (fun ls hl => ?_)
                    replace hl : lv_has ls 5 [(0, .ref (q 3)), (2, .int b2), (3, .int v118)] := lv_sub hl [1, 2, 0] rfl
                    refine lv_goto (tgt := 86) X.x X.b (dk DX3_init_1 40 rfl) (by decide) ?_
                    exact (lp_l hF hx) _ _ _ hH (lv_sub hl [0, 1, 2] rfl) K0
                  · replace hF := if_f hF c117
                    refine lv_aload_n X.x X.b (dk DX3_init_1 33 rfl) rfl (lv_at hl 0 rfl) ?_
                    refine og_getR (t := 0) OX3 X hq hH 1 (by decide) rfl kF_X3_15 (dk DX3_init_1 34 rfl) ?_
                    refine lv_iload_n X.x X.b (dk DX3_init_1 35 rfl) rfl (lv_at hl 1 rfl) ?_
                    refine lv_iload_n X.x X.b (dk DX3_init_1 36 rfl) rfl (lv_at hl 2 rfl) ?_
                    obtain ⟨c120, hF⟩ := gd hF
                    refine og_iast X hq hH 1 (by decide) rfl (inb_in c120) (dk DX3_init_1 37 rfl) (fun H locs hH => ?_)
                    obtain ⟨t121, e122⟩ : ∃ y, y = oA t112 1 (upd (t112.2.2.1 1) (b2 : Int32).toNatClampNeg b3) := ⟨_, rfl⟩
                    rw [← e122] at hH
                    replace hF := bnd_e hF e122
                    obtain ⟨v123, e124⟩ : ∃ y : Int32, y = b2 + 1 := ⟨_, rfl⟩
                    replace hF := bnd_e hF e124
                    refine lv_iinc (v := v123) (lv' := [(2, .int v123), (0, .ref (q 3)), (3, .int b3), (4, .int 0)]) X.x X.b (dk DX3_init_1 38 rfl) hl (k := 1) rfl (by rw [e124]; rfl) (by decide) rfl (fun ls hl => ?_)
                    replace hl : lv_has ls 5 [(0, .ref (q 3)), (2, .int v123), (3, .int b3)] := lv_sub hl [1, 0, 2] rfl
                    obtain ⟨v125, e126⟩ : ∃ y : Int32, y = b3 + 1 := ⟨_, rfl⟩
                    replace hF := bnd_e hF e126
                    refine lv_iinc (v := v125) (lv' := [(3, .int v125), (0, .ref (q 3)), (2, .int v123)]) X.x X.b (dk DX3_init_1 39 rfl) hl (k := 2) rfl (by rw [e126]; rfl) (by decide) rfl (fun ls hl => ?_)
                    replace hl : lv_has ls 5 [(0, .ref (q 3)), (2, .int v123), (3, .int v125)] := lv_sub hl [1, 2, 0] rfl
                    refine lv_goto (tgt := 86) X.x X.b (dk DX3_init_1 40 rfl) (by decide) ?_
                    exact (lp_l hF hx) _ _ _ hH (lv_sub hl [0, 1, 2] rfl) K0
            · replace hF := if_f hF c93
              refine lv_iconst (v := 1) X.x X.b (dk DX3_init_1 15 rfl) (by decide) ?_
              refine lv_goto (tgt := 137) X.x X.b (dk DX3_init_1 16 rfl) (by decide) ?_
              refine lv_istore (lv' := [(4, .int 1), (0, .ref (q 3)), (2, .int b2), (3, .int b3)]) X.x X.b (dk DX3_init_1 18 rfl) hl (by decide) rfl (fun ls hl => ?_)
              replace hl : lv_has ls 5 [(0, .ref (q 3)), (2, .int b2), (3, .int b3), (4, .int 1)] := lv_sub hl [1, 2, 3, 0] rfl
              refine lv_aload_n X.x X.b (dk DX3_init_1 19 rfl) rfl (lv_at hl 0 rfl) ?_
              refine og_getR (t := 0) OX3 X hq hH 2 (by decide) rfl kF_X3_18 (dk DX3_init_1 20 rfl) ?_
              refine lv_iload_n X.x X.b (dk DX3_init_1 21 rfl) rfl (lv_at hl 2 rfl) ?_
              refine lv_iload X.x X.b (dk DX3_init_1 22 rfl) (lv_at hl 3 rfl) ?_
              refine lv_if_eq (tgt := 153) X.x X.b (dk DX3_init_1 23 rfl) (by decide) (fun c127 => ?_) (fun c127 => ?_)
              · replace hF := if_t hF c127
                refine lv_iconst (v := (-1)) X.x X.b (dk DX3_init_1 26 rfl) (by decide) ?_
                obtain ⟨c128, hF⟩ := gd hF
                refine og_iast X hq hH 2 (by decide) rfl (inb_in c128) (dk DX3_init_1 27 rfl) (fun H locs hH => ?_)
                obtain ⟨t129, e130⟩ : ∃ y, y = oA s_t 2 (upd (s_t.2.2.1 2) (b3 : Int32).toNatClampNeg ((-1))) := ⟨_, rfl⟩
                rw [← e130] at hH
                replace hF := bnd_e hF e130
                refine lv_iload X.x X.b (dk DX3_init_1 28 rfl) (lv_at hl 3 rfl) ?_
                refine lv_if_eq (tgt := 176) X.x X.b (dk DX3_init_1 29 rfl) (by decide) (fun c131 => ?_) (fun c131 => ?_)
                · replace hF := if_t hF c131
                  obtain ⟨v132, e133⟩ : ∃ y : Int32, y = b3 + 1 := ⟨_, rfl⟩
                  replace hF := bnd_e hF e133
                  refine lv_iinc (v := v132) (lv' := [(3, .int v132), (0, .ref (q 3)), (2, .int b2), (4, .int 1)]) X.x X.b (dk DX3_init_1 39 rfl) hl (k := 2) rfl (by rw [e133]; rfl) (by decide) rfl (fun ls hl => ?_)
                  replace hl : lv_has ls 5 [(0, .ref (q 3)), (2, .int b2), (3, .int v132)] := lv_sub hl [1, 2, 0] rfl
                  refine lv_goto (tgt := 86) X.x X.b (dk DX3_init_1 40 rfl) (by decide) ?_
                  exact (lp_l hF hx) _ _ _ hH (lv_sub hl [0, 1, 2] rfl) K0
                · replace hF := if_f hF c131
                  refine lv_iload_n X.x X.b (dk DX3_init_1 30 rfl) rfl (lv_at hl 1 rfl) ?_
                  refine lv_bipush (v := 40) X.x X.b (dk DX3_init_1 31 rfl) (by decide) ?_
                  refine lv_icmp_ge (tgt := 176) X.x X.b (dk DX3_init_1 32 rfl) (by decide) (fun c134 => ?_) (fun c134 => ?_)
                  · replace hF := if_t hF c134
                    obtain ⟨v135, e136⟩ : ∃ y : Int32, y = b3 + 1 := ⟨_, rfl⟩
                    replace hF := bnd_e hF e136
                    refine lv_iinc (v := v135) (lv' := [(3, .int v135), (0, .ref (q 3)), (2, .int b2), (4, .int 1)]) X.x X.b (dk DX3_init_1 39 rfl) hl (k := 2) rfl (by rw [e136]; rfl) (by decide) rfl (fun ls hl => ?_)
                    replace hl : lv_has ls 5 [(0, .ref (q 3)), (2, .int b2), (3, .int v135)] := lv_sub hl [1, 2, 0] rfl
                    refine lv_goto (tgt := 86) X.x X.b (dk DX3_init_1 40 rfl) (by decide) ?_
                    exact (lp_l hF hx) _ _ _ hH (lv_sub hl [0, 1, 2] rfl) K0
                  · replace hF := if_f hF c134
                    refine lv_aload_n X.x X.b (dk DX3_init_1 33 rfl) rfl (lv_at hl 0 rfl) ?_
                    refine og_getR (t := 0) OX3 X hq hH 1 (by decide) rfl kF_X3_15 (dk DX3_init_1 34 rfl) ?_
                    refine lv_iload_n X.x X.b (dk DX3_init_1 35 rfl) rfl (lv_at hl 1 rfl) ?_
                    refine lv_iload_n X.x X.b (dk DX3_init_1 36 rfl) rfl (lv_at hl 2 rfl) ?_
                    obtain ⟨c137, hF⟩ := gd hF
                    refine og_iast X hq hH 1 (by decide) rfl (inb_in c137) (dk DX3_init_1 37 rfl) (fun H locs hH => ?_)
                    obtain ⟨t138, e139⟩ : ∃ y, y = oA t129 1 (upd (t129.2.2.1 1) (b2 : Int32).toNatClampNeg b3) := ⟨_, rfl⟩
                    rw [← e139] at hH
                    replace hF := bnd_e hF e139
                    obtain ⟨v140, e141⟩ : ∃ y : Int32, y = b2 + 1 := ⟨_, rfl⟩
                    replace hF := bnd_e hF e141
                    refine lv_iinc (v := v140) (lv' := [(2, .int v140), (0, .ref (q 3)), (3, .int b3), (4, .int 1)]) X.x X.b (dk DX3_init_1 38 rfl) hl (k := 1) rfl (by rw [e141]; rfl) (by decide) rfl (fun ls hl => ?_)
                    replace hl : lv_has ls 5 [(0, .ref (q 3)), (2, .int v140), (3, .int b3)] := lv_sub hl [1, 0, 2] rfl
                    obtain ⟨v142, e143⟩ : ∃ y : Int32, y = b3 + 1 := ⟨_, rfl⟩
                    replace hF := bnd_e hF e143
                    refine lv_iinc (v := v142) (lv' := [(3, .int v142), (0, .ref (q 3)), (2, .int v140)]) X.x X.b (dk DX3_init_1 39 rfl) hl (k := 2) rfl (by rw [e143]; rfl) (by decide) rfl (fun ls hl => ?_)
                    replace hl : lv_has ls 5 [(0, .ref (q 3)), (2, .int v140), (3, .int v142)] := lv_sub hl [1, 2, 0] rfl
                    refine lv_goto (tgt := 86) X.x X.b (dk DX3_init_1 40 rfl) (by decide) ?_
                    exact (lp_l hF hx) _ _ _ hH (lv_sub hl [0, 1, 2] rfl) K0
              · replace hF := if_f hF c127
                refine lv_iload_n X.x X.b (dk DX3_init_1 24 rfl) rfl (lv_at hl 1 rfl) ?_
                refine lv_goto (tgt := 154) X.x X.b (dk DX3_init_1 25 rfl) (by decide) ?_
                obtain ⟨c144, hF⟩ := gd hF
                refine og_iast X hq hH 2 (by decide) rfl (inb_in c144) (dk DX3_init_1 27 rfl) (fun H locs hH => ?_)
                obtain ⟨t145, e146⟩ : ∃ y, y = oA s_t 2 (upd (s_t.2.2.1 2) (b3 : Int32).toNatClampNeg b2) := ⟨_, rfl⟩
                rw [← e146] at hH
                replace hF := bnd_e hF e146
                refine lv_iload X.x X.b (dk DX3_init_1 28 rfl) (lv_at hl 3 rfl) ?_
                refine lv_if_eq (tgt := 176) X.x X.b (dk DX3_init_1 29 rfl) (by decide) (fun c147 => ?_) (fun c147 => ?_)
                · replace hF := if_t hF c147
                  obtain ⟨v148, e149⟩ : ∃ y : Int32, y = b3 + 1 := ⟨_, rfl⟩
                  replace hF := bnd_e hF e149
                  refine lv_iinc (v := v148) (lv' := [(3, .int v148), (0, .ref (q 3)), (2, .int b2), (4, .int 1)]) X.x X.b (dk DX3_init_1 39 rfl) hl (k := 2) rfl (by rw [e149]; rfl) (by decide) rfl (fun ls hl => ?_)
                  replace hl : lv_has ls 5 [(0, .ref (q 3)), (2, .int b2), (3, .int v148)] := lv_sub hl [1, 2, 0] rfl
                  refine lv_goto (tgt := 86) X.x X.b (dk DX3_init_1 40 rfl) (by decide) ?_
                  exact (lp_l hF hx) _ _ _ hH (lv_sub hl [0, 1, 2] rfl) K0
                · replace hF := if_f hF c147
                  refine lv_iload_n X.x X.b (dk DX3_init_1 30 rfl) rfl (lv_at hl 1 rfl) ?_
                  refine lv_bipush (v := 40) X.x X.b (dk DX3_init_1 31 rfl) (by decide) ?_
                  refine lv_icmp_ge (tgt := 176) X.x X.b (dk DX3_init_1 32 rfl) (by decide) (fun c150 => ?_) (fun c150 => ?_)
                  · replace hF := if_t hF c150
                    obtain ⟨v151, e152⟩ : ∃ y : Int32, y = b3 + 1 := ⟨_, rfl⟩
                    replace hF := bnd_e hF e152
                    refine lv_iinc (v := v151) (lv' := [(3, .int v151), (0, .ref (q 3)), (2, .int b2), (4, .int 1)]) X.x X.b (dk DX3_init_1 39 rfl) hl (k := 2) rfl (by rw [e152]; rfl) (by decide) rfl (fun ls hl => ?_)
                    replace hl : lv_has ls 5 [(0, .ref (q 3)), (2, .int b2), (3, .int v151)] := lv_sub hl [1, 2, 0] rfl
                    refine lv_goto (tgt := 86) X.x X.b (dk DX3_init_1 40 rfl) (by decide) ?_
                    exact (lp_l hF hx) _ _ _ hH (lv_sub hl [0, 1, 2] rfl) K0
                  · replace hF := if_f hF c150
                    refine lv_aload_n X.x X.b (dk DX3_init_1 33 rfl) rfl (lv_at hl 0 rfl) ?_
                    refine og_getR (t := 0) OX3 X hq hH 1 (by decide) rfl kF_X3_15 (dk DX3_init_1 34 rfl) ?_
                    refine lv_iload_n X.x X.b (dk DX3_init_1 35 rfl) rfl (lv_at hl 1 rfl) ?_
                    refine lv_iload_n X.x X.b (dk DX3_init_1 36 rfl) rfl (lv_at hl 2 rfl) ?_
                    obtain ⟨c153, hF⟩ := gd hF
                    refine og_iast X hq hH 1 (by decide) rfl (inb_in c153) (dk DX3_init_1 37 rfl) (fun H locs hH => ?_)
                    obtain ⟨t154, e155⟩ : ∃ y, y = oA t145 1 (upd (t145.2.2.1 1) (b2 : Int32).toNatClampNeg b3) := ⟨_, rfl⟩
                    rw [← e155] at hH
                    replace hF := bnd_e hF e155
                    obtain ⟨v156, e157⟩ : ∃ y : Int32, y = b2 + 1 := ⟨_, rfl⟩
                    replace hF := bnd_e hF e157
                    refine lv_iinc (v := v156) (lv' := [(2, .int v156), (0, .ref (q 3)), (3, .int b3), (4, .int 1)]) X.x X.b (dk DX3_init_1 38 rfl) hl (k := 1) rfl (by rw [e157]; rfl) (by decide) rfl (fun ls hl => ?_)
                    replace hl : lv_has ls 5 [(0, .ref (q 3)), (2, .int v156), (3, .int b3)] := lv_sub hl [1, 0, 2] rfl
                    obtain ⟨v158, e159⟩ : ∃ y : Int32, y = b3 + 1 := ⟨_, rfl⟩
                    replace hF := bnd_e hF e159
                    refine lv_iinc (v := v158) (lv' := [(3, .int v158), (0, .ref (q 3)), (2, .int v156)]) X.x X.b (dk DX3_init_1 39 rfl) hl (k := 2) rfl (by rw [e159]; rfl) (by decide) rfl (fun ls hl => ?_)
                    replace hl : lv_has ls 5 [(0, .ref (q 3)), (2, .int v156), (3, .int v158)] := lv_sub hl [1, 2, 0] rfl
                    refine lv_goto (tgt := 86) X.x X.b (dk DX3_init_1 40 rfl) (by decide) ?_
                    exact (lp_l hF hx) _ _ _ hH (lv_sub hl [0, 1, 2] rfl) K0
        · replace hF := if_f hF c58
          refine lv_iload_n X.x X.b (dk DX3_init_1 6 rfl) rfl (lv_at hl 2 rfl) ?_
          refine lv_bipush (v := 18) X.x X.b (dk DX3_init_1 7 rfl) (by decide) ?_
          refine lv_icmp_lt (tgt := 132) X.x X.b (dk DX3_init_1 8 rfl) (by decide) (fun c160 => ?_) (fun c160 => ?_)
          · replace hF := if_t hF c160
            refine lv_iconst (v := 1) X.x X.b (dk DX3_init_1 15 rfl) (by decide) ?_
            refine lv_goto (tgt := 137) X.x X.b (dk DX3_init_1 16 rfl) (by decide) ?_
            refine lv_istore (lv' := [(4, .int 1), (0, .ref (q 3)), (2, .int b2), (3, .int b3)]) X.x X.b (dk DX3_init_1 18 rfl) hl (by decide) rfl (fun ls hl => ?_)
            replace hl : lv_has ls 5 [(0, .ref (q 3)), (2, .int b2), (3, .int b3), (4, .int 1)] := lv_sub hl [1, 2, 3, 0] rfl
            refine lv_aload_n X.x X.b (dk DX3_init_1 19 rfl) rfl (lv_at hl 0 rfl) ?_
            refine og_getR (t := 0) OX3 X hq hH 2 (by decide) rfl kF_X3_18 (dk DX3_init_1 20 rfl) ?_
            refine lv_iload_n X.x X.b (dk DX3_init_1 21 rfl) rfl (lv_at hl 2 rfl) ?_
            refine lv_iload X.x X.b (dk DX3_init_1 22 rfl) (lv_at hl 3 rfl) ?_
            refine lv_if_eq (tgt := 153) X.x X.b (dk DX3_init_1 23 rfl) (by decide) (fun c161 => ?_) (fun c161 => ?_)
            · replace hF := if_t hF c161
              refine lv_iconst (v := (-1)) X.x X.b (dk DX3_init_1 26 rfl) (by decide) ?_
              obtain ⟨c162, hF⟩ := gd hF
              refine og_iast X hq hH 2 (by decide) rfl (inb_in c162) (dk DX3_init_1 27 rfl) (fun H locs hH => ?_)
              obtain ⟨t163, e164⟩ : ∃ y, y = oA s_t 2 (upd (s_t.2.2.1 2) (b3 : Int32).toNatClampNeg ((-1))) := ⟨_, rfl⟩
              rw [← e164] at hH
              replace hF := bnd_e hF e164
              refine lv_iload X.x X.b (dk DX3_init_1 28 rfl) (lv_at hl 3 rfl) ?_
              refine lv_if_eq (tgt := 176) X.x X.b (dk DX3_init_1 29 rfl) (by decide) (fun c165 => ?_) (fun c165 => ?_)
              · replace hF := if_t hF c165
                obtain ⟨v166, e167⟩ : ∃ y : Int32, y = b3 + 1 := ⟨_, rfl⟩
                replace hF := bnd_e hF e167
                refine lv_iinc (v := v166) (lv' := [(3, .int v166), (0, .ref (q 3)), (2, .int b2), (4, .int 1)]) X.x X.b (dk DX3_init_1 39 rfl) hl (k := 2) rfl (by rw [e167]; rfl) (by decide) rfl (fun ls hl => ?_)
                replace hl : lv_has ls 5 [(0, .ref (q 3)), (2, .int b2), (3, .int v166)] := lv_sub hl [1, 2, 0] rfl
                refine lv_goto (tgt := 86) X.x X.b (dk DX3_init_1 40 rfl) (by decide) ?_
                exact (lp_l hF hx) _ _ _ hH (lv_sub hl [0, 1, 2] rfl) K0
              · replace hF := if_f hF c165
                refine lv_iload_n X.x X.b (dk DX3_init_1 30 rfl) rfl (lv_at hl 1 rfl) ?_
                refine lv_bipush (v := 40) X.x X.b (dk DX3_init_1 31 rfl) (by decide) ?_
                refine lv_icmp_ge (tgt := 176) X.x X.b (dk DX3_init_1 32 rfl) (by decide) (fun c168 => ?_) (fun c168 => ?_)
                · replace hF := if_t hF c168
                  obtain ⟨v169, e170⟩ : ∃ y : Int32, y = b3 + 1 := ⟨_, rfl⟩
                  replace hF := bnd_e hF e170
                  refine lv_iinc (v := v169) (lv' := [(3, .int v169), (0, .ref (q 3)), (2, .int b2), (4, .int 1)]) X.x X.b (dk DX3_init_1 39 rfl) hl (k := 2) rfl (by rw [e170]; rfl) (by decide) rfl (fun ls hl => ?_)
                  replace hl : lv_has ls 5 [(0, .ref (q 3)), (2, .int b2), (3, .int v169)] := lv_sub hl [1, 2, 0] rfl
                  refine lv_goto (tgt := 86) X.x X.b (dk DX3_init_1 40 rfl) (by decide) ?_
                  exact (lp_l hF hx) _ _ _ hH (lv_sub hl [0, 1, 2] rfl) K0
                · replace hF := if_f hF c168
                  refine lv_aload_n X.x X.b (dk DX3_init_1 33 rfl) rfl (lv_at hl 0 rfl) ?_
                  refine og_getR (t := 0) OX3 X hq hH 1 (by decide) rfl kF_X3_15 (dk DX3_init_1 34 rfl) ?_
                  refine lv_iload_n X.x X.b (dk DX3_init_1 35 rfl) rfl (lv_at hl 1 rfl) ?_
                  refine lv_iload_n X.x X.b (dk DX3_init_1 36 rfl) rfl (lv_at hl 2 rfl) ?_
                  obtain ⟨c171, hF⟩ := gd hF
                  refine og_iast X hq hH 1 (by decide) rfl (inb_in c171) (dk DX3_init_1 37 rfl) (fun H locs hH => ?_)
                  obtain ⟨t172, e173⟩ : ∃ y, y = oA t163 1 (upd (t163.2.2.1 1) (b2 : Int32).toNatClampNeg b3) := ⟨_, rfl⟩
                  rw [← e173] at hH
                  replace hF := bnd_e hF e173
                  obtain ⟨v174, e175⟩ : ∃ y : Int32, y = b2 + 1 := ⟨_, rfl⟩
                  replace hF := bnd_e hF e175
                  refine lv_iinc (v := v174) (lv' := [(2, .int v174), (0, .ref (q 3)), (3, .int b3), (4, .int 1)]) X.x X.b (dk DX3_init_1 38 rfl) hl (k := 1) rfl (by rw [e175]; rfl) (by decide) rfl (fun ls hl => ?_)
                  replace hl : lv_has ls 5 [(0, .ref (q 3)), (2, .int v174), (3, .int b3)] := lv_sub hl [1, 0, 2] rfl
                  obtain ⟨v176, e177⟩ : ∃ y : Int32, y = b3 + 1 := ⟨_, rfl⟩
                  replace hF := bnd_e hF e177
                  refine lv_iinc (v := v176) (lv' := [(3, .int v176), (0, .ref (q 3)), (2, .int v174)]) X.x X.b (dk DX3_init_1 39 rfl) hl (k := 2) rfl (by rw [e177]; rfl) (by decide) rfl (fun ls hl => ?_)
                  replace hl : lv_has ls 5 [(0, .ref (q 3)), (2, .int v174), (3, .int v176)] := lv_sub hl [1, 2, 0] rfl
                  refine lv_goto (tgt := 86) X.x X.b (dk DX3_init_1 40 rfl) (by decide) ?_
                  exact (lp_l hF hx) _ _ _ hH (lv_sub hl [0, 1, 2] rfl) K0
            · replace hF := if_f hF c161
              refine lv_iload_n X.x X.b (dk DX3_init_1 24 rfl) rfl (lv_at hl 1 rfl) ?_
              refine lv_goto (tgt := 154) X.x X.b (dk DX3_init_1 25 rfl) (by decide) ?_
              obtain ⟨c178, hF⟩ := gd hF
              refine og_iast X hq hH 2 (by decide) rfl (inb_in c178) (dk DX3_init_1 27 rfl) (fun H locs hH => ?_)
              obtain ⟨t179, e180⟩ : ∃ y, y = oA s_t 2 (upd (s_t.2.2.1 2) (b3 : Int32).toNatClampNeg b2) := ⟨_, rfl⟩
              rw [← e180] at hH
              replace hF := bnd_e hF e180
              refine lv_iload X.x X.b (dk DX3_init_1 28 rfl) (lv_at hl 3 rfl) ?_
              refine lv_if_eq (tgt := 176) X.x X.b (dk DX3_init_1 29 rfl) (by decide) (fun c181 => ?_) (fun c181 => ?_)
              · replace hF := if_t hF c181
                obtain ⟨v182, e183⟩ : ∃ y : Int32, y = b3 + 1 := ⟨_, rfl⟩
                replace hF := bnd_e hF e183
                refine lv_iinc (v := v182) (lv' := [(3, .int v182), (0, .ref (q 3)), (2, .int b2), (4, .int 1)]) X.x X.b (dk DX3_init_1 39 rfl) hl (k := 2) rfl (by rw [e183]; rfl) (by decide) rfl (fun ls hl => ?_)
                replace hl : lv_has ls 5 [(0, .ref (q 3)), (2, .int b2), (3, .int v182)] := lv_sub hl [1, 2, 0] rfl
                refine lv_goto (tgt := 86) X.x X.b (dk DX3_init_1 40 rfl) (by decide) ?_
                exact (lp_l hF hx) _ _ _ hH (lv_sub hl [0, 1, 2] rfl) K0
              · replace hF := if_f hF c181
                refine lv_iload_n X.x X.b (dk DX3_init_1 30 rfl) rfl (lv_at hl 1 rfl) ?_
                refine lv_bipush (v := 40) X.x X.b (dk DX3_init_1 31 rfl) (by decide) ?_
                refine lv_icmp_ge (tgt := 176) X.x X.b (dk DX3_init_1 32 rfl) (by decide) (fun c184 => ?_) (fun c184 => ?_)
                · replace hF := if_t hF c184
                  obtain ⟨v185, e186⟩ : ∃ y : Int32, y = b3 + 1 := ⟨_, rfl⟩
                  replace hF := bnd_e hF e186
                  refine lv_iinc (v := v185) (lv' := [(3, .int v185), (0, .ref (q 3)), (2, .int b2), (4, .int 1)]) X.x X.b (dk DX3_init_1 39 rfl) hl (k := 2) rfl (by rw [e186]; rfl) (by decide) rfl (fun ls hl => ?_)
                  replace hl : lv_has ls 5 [(0, .ref (q 3)), (2, .int b2), (3, .int v185)] := lv_sub hl [1, 2, 0] rfl
                  refine lv_goto (tgt := 86) X.x X.b (dk DX3_init_1 40 rfl) (by decide) ?_
                  exact (lp_l hF hx) _ _ _ hH (lv_sub hl [0, 1, 2] rfl) K0
                · replace hF := if_f hF c184
                  refine lv_aload_n X.x X.b (dk DX3_init_1 33 rfl) rfl (lv_at hl 0 rfl) ?_
                  refine og_getR (t := 0) OX3 X hq hH 1 (by decide) rfl kF_X3_15 (dk DX3_init_1 34 rfl) ?_
                  refine lv_iload_n X.x X.b (dk DX3_init_1 35 rfl) rfl (lv_at hl 1 rfl) ?_
                  refine lv_iload_n X.x X.b (dk DX3_init_1 36 rfl) rfl (lv_at hl 2 rfl) ?_
                  obtain ⟨c187, hF⟩ := gd hF
                  refine og_iast X hq hH 1 (by decide) rfl (inb_in c187) (dk DX3_init_1 37 rfl) (fun H locs hH => ?_)
                  obtain ⟨t188, e189⟩ : ∃ y, y = oA t179 1 (upd (t179.2.2.1 1) (b2 : Int32).toNatClampNeg b3) := ⟨_, rfl⟩
                  rw [← e189] at hH
                  replace hF := bnd_e hF e189
                  obtain ⟨v190, e191⟩ : ∃ y : Int32, y = b2 + 1 := ⟨_, rfl⟩
                  replace hF := bnd_e hF e191
                  refine lv_iinc (v := v190) (lv' := [(2, .int v190), (0, .ref (q 3)), (3, .int b3), (4, .int 1)]) X.x X.b (dk DX3_init_1 38 rfl) hl (k := 1) rfl (by rw [e191]; rfl) (by decide) rfl (fun ls hl => ?_)
                  replace hl : lv_has ls 5 [(0, .ref (q 3)), (2, .int v190), (3, .int b3)] := lv_sub hl [1, 0, 2] rfl
                  obtain ⟨v192, e193⟩ : ∃ y : Int32, y = b3 + 1 := ⟨_, rfl⟩
                  replace hF := bnd_e hF e193
                  refine lv_iinc (v := v192) (lv' := [(3, .int v192), (0, .ref (q 3)), (2, .int v190)]) X.x X.b (dk DX3_init_1 39 rfl) hl (k := 2) rfl (by rw [e193]; rfl) (by decide) rfl (fun ls hl => ?_)
                  replace hl : lv_has ls 5 [(0, .ref (q 3)), (2, .int v190), (3, .int v192)] := lv_sub hl [1, 2, 0] rfl
                  refine lv_goto (tgt := 86) X.x X.b (dk DX3_init_1 40 rfl) (by decide) ?_
                  exact (lp_l hF hx) _ _ _ hH (lv_sub hl [0, 1, 2] rfl) K0
          · replace hF := if_f hF c160
            refine lv_iload_n X.x X.b (dk DX3_init_1 9 rfl) rfl (lv_at hl 2 rfl) ?_
            refine lv_bipush (v := 27) X.x X.b (dk DX3_init_1 10 rfl) (by decide) ?_
            refine lv_icmp_lt (tgt := 136) X.x X.b (dk DX3_init_1 11 rfl) (by decide) (fun c194 => ?_) (fun c194 => ?_)
            · replace hF := if_t hF c194
              refine lv_iconst (v := 0) X.x X.b (dk DX3_init_1 17 rfl) (by decide) ?_
              refine lv_istore (lv' := [(4, .int 0), (0, .ref (q 3)), (2, .int b2), (3, .int b3)]) X.x X.b (dk DX3_init_1 18 rfl) hl (by decide) rfl (fun ls hl => ?_)
              replace hl : lv_has ls 5 [(0, .ref (q 3)), (2, .int b2), (3, .int b3), (4, .int 0)] := lv_sub hl [1, 2, 3, 0] rfl
              refine lv_aload_n X.x X.b (dk DX3_init_1 19 rfl) rfl (lv_at hl 0 rfl) ?_
              refine og_getR (t := 0) OX3 X hq hH 2 (by decide) rfl kF_X3_18 (dk DX3_init_1 20 rfl) ?_
              refine lv_iload_n X.x X.b (dk DX3_init_1 21 rfl) rfl (lv_at hl 2 rfl) ?_
              refine lv_iload X.x X.b (dk DX3_init_1 22 rfl) (lv_at hl 3 rfl) ?_
              refine lv_if_eq (tgt := 153) X.x X.b (dk DX3_init_1 23 rfl) (by decide) (fun c195 => ?_) (fun c195 => ?_)
              · replace hF := if_t hF c195
                refine lv_iconst (v := (-1)) X.x X.b (dk DX3_init_1 26 rfl) (by decide) ?_
                obtain ⟨c196, hF⟩ := gd hF
                refine og_iast X hq hH 2 (by decide) rfl (inb_in c196) (dk DX3_init_1 27 rfl) (fun H locs hH => ?_)
                obtain ⟨t197, e198⟩ : ∃ y, y = oA s_t 2 (upd (s_t.2.2.1 2) (b3 : Int32).toNatClampNeg ((-1))) := ⟨_, rfl⟩
                rw [← e198] at hH
                replace hF := bnd_e hF e198
                refine lv_iload X.x X.b (dk DX3_init_1 28 rfl) (lv_at hl 3 rfl) ?_
                refine lv_if_eq (tgt := 176) X.x X.b (dk DX3_init_1 29 rfl) (by decide) (fun c199 => ?_) (fun c199 => ?_)
                · replace hF := if_t hF c199
                  obtain ⟨v200, e201⟩ : ∃ y : Int32, y = b3 + 1 := ⟨_, rfl⟩
                  replace hF := bnd_e hF e201
                  refine lv_iinc (v := v200) (lv' := [(3, .int v200), (0, .ref (q 3)), (2, .int b2), (4, .int 0)]) X.x X.b (dk DX3_init_1 39 rfl) hl (k := 2) rfl (by rw [e201]; rfl) (by decide) rfl (fun ls hl => ?_)
                  replace hl : lv_has ls 5 [(0, .ref (q 3)), (2, .int b2), (3, .int v200)] := lv_sub hl [1, 2, 0] rfl
                  refine lv_goto (tgt := 86) X.x X.b (dk DX3_init_1 40 rfl) (by decide) ?_
                  exact (lp_l hF hx) _ _ _ hH (lv_sub hl [0, 1, 2] rfl) K0
                · replace hF := if_f hF c199
                  refine lv_iload_n X.x X.b (dk DX3_init_1 30 rfl) rfl (lv_at hl 1 rfl) ?_
                  refine lv_bipush (v := 40) X.x X.b (dk DX3_init_1 31 rfl) (by decide) ?_
                  refine lv_icmp_ge (tgt := 176) X.x X.b (dk DX3_init_1 32 rfl) (by decide) (fun c202 => ?_) (fun c202 => ?_)
                  · replace hF := if_t hF c202
                    obtain ⟨v203, e204⟩ : ∃ y : Int32, y = b3 + 1 := ⟨_, rfl⟩
                    replace hF := bnd_e hF e204
                    refine lv_iinc (v := v203) (lv' := [(3, .int v203), (0, .ref (q 3)), (2, .int b2), (4, .int 0)]) X.x X.b (dk DX3_init_1 39 rfl) hl (k := 2) rfl (by rw [e204]; rfl) (by decide) rfl (fun ls hl => ?_)
                    replace hl : lv_has ls 5 [(0, .ref (q 3)), (2, .int b2), (3, .int v203)] := lv_sub hl [1, 2, 0] rfl
                    refine lv_goto (tgt := 86) X.x X.b (dk DX3_init_1 40 rfl) (by decide) ?_
                    exact (lp_l hF hx) _ _ _ hH (lv_sub hl [0, 1, 2] rfl) K0
                  · replace hF := if_f hF c202
                    refine lv_aload_n X.x X.b (dk DX3_init_1 33 rfl) rfl (lv_at hl 0 rfl) ?_
                    refine og_getR (t := 0) OX3 X hq hH 1 (by decide) rfl kF_X3_15 (dk DX3_init_1 34 rfl) ?_
                    refine lv_iload_n X.x X.b (dk DX3_init_1 35 rfl) rfl (lv_at hl 1 rfl) ?_
                    refine lv_iload_n X.x X.b (dk DX3_init_1 36 rfl) rfl (lv_at hl 2 rfl) ?_
                    obtain ⟨c205, hF⟩ := gd hF
                    refine og_iast X hq hH 1 (by decide) rfl (inb_in c205) (dk DX3_init_1 37 rfl) (fun H locs hH => ?_)
                    obtain ⟨t206, e207⟩ : ∃ y, y = oA t197 1 (upd (t197.2.2.1 1) (b2 : Int32).toNatClampNeg b3) := ⟨_, rfl⟩
                    rw [← e207] at hH
                    replace hF := bnd_e hF e207
                    obtain ⟨v208, e209⟩ : ∃ y : Int32, y = b2 + 1 := ⟨_, rfl⟩
                    replace hF := bnd_e hF e209
                    refine lv_iinc (v := v208) (lv' := [(2, .int v208), (0, .ref (q 3)), (3, .int b3), (4, .int 0)]) X.x X.b (dk DX3_init_1 38 rfl) hl (k := 1) rfl (by rw [e209]; rfl) (by decide) rfl (fun ls hl => ?_)
                    replace hl : lv_has ls 5 [(0, .ref (q 3)), (2, .int v208), (3, .int b3)] := lv_sub hl [1, 0, 2] rfl
                    obtain ⟨v210, e211⟩ : ∃ y : Int32, y = b3 + 1 := ⟨_, rfl⟩
                    replace hF := bnd_e hF e211
                    refine lv_iinc (v := v210) (lv' := [(3, .int v210), (0, .ref (q 3)), (2, .int v208)]) X.x X.b (dk DX3_init_1 39 rfl) hl (k := 2) rfl (by rw [e211]; rfl) (by decide) rfl (fun ls hl => ?_)
                    replace hl : lv_has ls 5 [(0, .ref (q 3)), (2, .int v208), (3, .int v210)] := lv_sub hl [1, 2, 0] rfl
                    refine lv_goto (tgt := 86) X.x X.b (dk DX3_init_1 40 rfl) (by decide) ?_
                    exact (lp_l hF hx) _ _ _ hH (lv_sub hl [0, 1, 2] rfl) K0
              · replace hF := if_f hF c195
                refine lv_iload_n X.x X.b (dk DX3_init_1 24 rfl) rfl (lv_at hl 1 rfl) ?_
                refine lv_goto (tgt := 154) X.x X.b (dk DX3_init_1 25 rfl) (by decide) ?_
                obtain ⟨c212, hF⟩ := gd hF
                refine og_iast X hq hH 2 (by decide) rfl (inb_in c212) (dk DX3_init_1 27 rfl) (fun H locs hH => ?_)
                obtain ⟨t213, e214⟩ : ∃ y, y = oA s_t 2 (upd (s_t.2.2.1 2) (b3 : Int32).toNatClampNeg b2) := ⟨_, rfl⟩
                rw [← e214] at hH
                replace hF := bnd_e hF e214
                refine lv_iload X.x X.b (dk DX3_init_1 28 rfl) (lv_at hl 3 rfl) ?_
                refine lv_if_eq (tgt := 176) X.x X.b (dk DX3_init_1 29 rfl) (by decide) (fun c215 => ?_) (fun c215 => ?_)
                · replace hF := if_t hF c215
                  obtain ⟨v216, e217⟩ : ∃ y : Int32, y = b3 + 1 := ⟨_, rfl⟩
                  replace hF := bnd_e hF e217
                  refine lv_iinc (v := v216) (lv' := [(3, .int v216), (0, .ref (q 3)), (2, .int b2), (4, .int 0)]) X.x X.b (dk DX3_init_1 39 rfl) hl (k := 2) rfl (by rw [e217]; rfl) (by decide) rfl (fun ls hl => ?_)
                  replace hl : lv_has ls 5 [(0, .ref (q 3)), (2, .int b2), (3, .int v216)] := lv_sub hl [1, 2, 0] rfl
                  refine lv_goto (tgt := 86) X.x X.b (dk DX3_init_1 40 rfl) (by decide) ?_
                  exact (lp_l hF hx) _ _ _ hH (lv_sub hl [0, 1, 2] rfl) K0
                · replace hF := if_f hF c215
                  refine lv_iload_n X.x X.b (dk DX3_init_1 30 rfl) rfl (lv_at hl 1 rfl) ?_
                  refine lv_bipush (v := 40) X.x X.b (dk DX3_init_1 31 rfl) (by decide) ?_
                  refine lv_icmp_ge (tgt := 176) X.x X.b (dk DX3_init_1 32 rfl) (by decide) (fun c218 => ?_) (fun c218 => ?_)
                  · replace hF := if_t hF c218
                    obtain ⟨v219, e220⟩ : ∃ y : Int32, y = b3 + 1 := ⟨_, rfl⟩
                    replace hF := bnd_e hF e220
                    refine lv_iinc (v := v219) (lv' := [(3, .int v219), (0, .ref (q 3)), (2, .int b2), (4, .int 0)]) X.x X.b (dk DX3_init_1 39 rfl) hl (k := 2) rfl (by rw [e220]; rfl) (by decide) rfl (fun ls hl => ?_)
                    replace hl : lv_has ls 5 [(0, .ref (q 3)), (2, .int b2), (3, .int v219)] := lv_sub hl [1, 2, 0] rfl
                    refine lv_goto (tgt := 86) X.x X.b (dk DX3_init_1 40 rfl) (by decide) ?_
                    exact (lp_l hF hx) _ _ _ hH (lv_sub hl [0, 1, 2] rfl) K0
                  · replace hF := if_f hF c218
                    refine lv_aload_n X.x X.b (dk DX3_init_1 33 rfl) rfl (lv_at hl 0 rfl) ?_
                    refine og_getR (t := 0) OX3 X hq hH 1 (by decide) rfl kF_X3_15 (dk DX3_init_1 34 rfl) ?_
                    refine lv_iload_n X.x X.b (dk DX3_init_1 35 rfl) rfl (lv_at hl 1 rfl) ?_
                    refine lv_iload_n X.x X.b (dk DX3_init_1 36 rfl) rfl (lv_at hl 2 rfl) ?_
                    obtain ⟨c221, hF⟩ := gd hF
                    refine og_iast X hq hH 1 (by decide) rfl (inb_in c221) (dk DX3_init_1 37 rfl) (fun H locs hH => ?_)
                    obtain ⟨t222, e223⟩ : ∃ y, y = oA t213 1 (upd (t213.2.2.1 1) (b2 : Int32).toNatClampNeg b3) := ⟨_, rfl⟩
                    rw [← e223] at hH
                    replace hF := bnd_e hF e223
                    obtain ⟨v224, e225⟩ : ∃ y : Int32, y = b2 + 1 := ⟨_, rfl⟩
                    replace hF := bnd_e hF e225
                    refine lv_iinc (v := v224) (lv' := [(2, .int v224), (0, .ref (q 3)), (3, .int b3), (4, .int 0)]) X.x X.b (dk DX3_init_1 38 rfl) hl (k := 1) rfl (by rw [e225]; rfl) (by decide) rfl (fun ls hl => ?_)
                    replace hl : lv_has ls 5 [(0, .ref (q 3)), (2, .int v224), (3, .int b3)] := lv_sub hl [1, 0, 2] rfl
                    obtain ⟨v226, e227⟩ : ∃ y : Int32, y = b3 + 1 := ⟨_, rfl⟩
                    replace hF := bnd_e hF e227
                    refine lv_iinc (v := v226) (lv' := [(3, .int v226), (0, .ref (q 3)), (2, .int v224)]) X.x X.b (dk DX3_init_1 39 rfl) hl (k := 2) rfl (by rw [e227]; rfl) (by decide) rfl (fun ls hl => ?_)
                    replace hl : lv_has ls 5 [(0, .ref (q 3)), (2, .int v224), (3, .int v226)] := lv_sub hl [1, 2, 0] rfl
                    refine lv_goto (tgt := 86) X.x X.b (dk DX3_init_1 40 rfl) (by decide) ?_
                    exact (lp_l hF hx) _ _ _ hH (lv_sub hl [0, 1, 2] rfl) K0
            · replace hF := if_f hF c194
              refine lv_iload_n X.x X.b (dk DX3_init_1 12 rfl) rfl (lv_at hl 2 rfl) ?_
              refine lv_bipush (v := 54) X.x X.b (dk DX3_init_1 13 rfl) (by decide) ?_
              refine lv_icmp_ge (tgt := 136) X.x X.b (dk DX3_init_1 14 rfl) (by decide) (fun c228 => ?_) (fun c228 => ?_)
              · replace hF := if_t hF c228
                refine lv_iconst (v := 0) X.x X.b (dk DX3_init_1 17 rfl) (by decide) ?_
                refine lv_istore (lv' := [(4, .int 0), (0, .ref (q 3)), (2, .int b2), (3, .int b3)]) X.x X.b (dk DX3_init_1 18 rfl) hl (by decide) rfl (fun ls hl => ?_)
                replace hl : lv_has ls 5 [(0, .ref (q 3)), (2, .int b2), (3, .int b3), (4, .int 0)] := lv_sub hl [1, 2, 3, 0] rfl
                refine lv_aload_n X.x X.b (dk DX3_init_1 19 rfl) rfl (lv_at hl 0 rfl) ?_
                refine og_getR (t := 0) OX3 X hq hH 2 (by decide) rfl kF_X3_18 (dk DX3_init_1 20 rfl) ?_
                refine lv_iload_n X.x X.b (dk DX3_init_1 21 rfl) rfl (lv_at hl 2 rfl) ?_
                refine lv_iload X.x X.b (dk DX3_init_1 22 rfl) (lv_at hl 3 rfl) ?_
                refine lv_if_eq (tgt := 153) X.x X.b (dk DX3_init_1 23 rfl) (by decide) (fun c229 => ?_) (fun c229 => ?_)
                · replace hF := if_t hF c229
                  refine lv_iconst (v := (-1)) X.x X.b (dk DX3_init_1 26 rfl) (by decide) ?_
                  obtain ⟨c230, hF⟩ := gd hF
                  refine og_iast X hq hH 2 (by decide) rfl (inb_in c230) (dk DX3_init_1 27 rfl) (fun H locs hH => ?_)
                  obtain ⟨t231, e232⟩ : ∃ y, y = oA s_t 2 (upd (s_t.2.2.1 2) (b3 : Int32).toNatClampNeg ((-1))) := ⟨_, rfl⟩
                  rw [← e232] at hH
                  replace hF := bnd_e hF e232
                  refine lv_iload X.x X.b (dk DX3_init_1 28 rfl) (lv_at hl 3 rfl) ?_
                  refine lv_if_eq (tgt := 176) X.x X.b (dk DX3_init_1 29 rfl) (by decide) (fun c233 => ?_) (fun c233 => ?_)
                  · replace hF := if_t hF c233
                    obtain ⟨v234, e235⟩ : ∃ y : Int32, y = b3 + 1 := ⟨_, rfl⟩
                    replace hF := bnd_e hF e235
                    refine lv_iinc (v := v234) (lv' := [(3, .int v234), (0, .ref (q 3)), (2, .int b2), (4, .int 0)]) X.x X.b (dk DX3_init_1 39 rfl) hl (k := 2) rfl (by rw [e235]; rfl) (by decide) rfl (fun ls hl => ?_)
                    replace hl : lv_has ls 5 [(0, .ref (q 3)), (2, .int b2), (3, .int v234)] := lv_sub hl [1, 2, 0] rfl
                    refine lv_goto (tgt := 86) X.x X.b (dk DX3_init_1 40 rfl) (by decide) ?_
                    exact (lp_l hF hx) _ _ _ hH (lv_sub hl [0, 1, 2] rfl) K0
                  · replace hF := if_f hF c233
                    refine lv_iload_n X.x X.b (dk DX3_init_1 30 rfl) rfl (lv_at hl 1 rfl) ?_
                    refine lv_bipush (v := 40) X.x X.b (dk DX3_init_1 31 rfl) (by decide) ?_
                    refine lv_icmp_ge (tgt := 176) X.x X.b (dk DX3_init_1 32 rfl) (by decide) (fun c236 => ?_) (fun c236 => ?_)
                    · replace hF := if_t hF c236
                      obtain ⟨v237, e238⟩ : ∃ y : Int32, y = b3 + 1 := ⟨_, rfl⟩
                      replace hF := bnd_e hF e238
                      refine lv_iinc (v := v237) (lv' := [(3, .int v237), (0, .ref (q 3)), (2, .int b2), (4, .int 0)]) X.x X.b (dk DX3_init_1 39 rfl) hl (k := 2) rfl (by rw [e238]; rfl) (by decide) rfl (fun ls hl => ?_)
                      replace hl : lv_has ls 5 [(0, .ref (q 3)), (2, .int b2), (3, .int v237)] := lv_sub hl [1, 2, 0] rfl
                      refine lv_goto (tgt := 86) X.x X.b (dk DX3_init_1 40 rfl) (by decide) ?_
                      exact (lp_l hF hx) _ _ _ hH (lv_sub hl [0, 1, 2] rfl) K0
                    · replace hF := if_f hF c236
                      refine lv_aload_n X.x X.b (dk DX3_init_1 33 rfl) rfl (lv_at hl 0 rfl) ?_
                      refine og_getR (t := 0) OX3 X hq hH 1 (by decide) rfl kF_X3_15 (dk DX3_init_1 34 rfl) ?_
                      refine lv_iload_n X.x X.b (dk DX3_init_1 35 rfl) rfl (lv_at hl 1 rfl) ?_
                      refine lv_iload_n X.x X.b (dk DX3_init_1 36 rfl) rfl (lv_at hl 2 rfl) ?_
                      obtain ⟨c239, hF⟩ := gd hF
                      refine og_iast X hq hH 1 (by decide) rfl (inb_in c239) (dk DX3_init_1 37 rfl) (fun H locs hH => ?_)
                      obtain ⟨t240, e241⟩ : ∃ y, y = oA t231 1 (upd (t231.2.2.1 1) (b2 : Int32).toNatClampNeg b3) := ⟨_, rfl⟩
                      rw [← e241] at hH
                      replace hF := bnd_e hF e241
                      obtain ⟨v242, e243⟩ : ∃ y : Int32, y = b2 + 1 := ⟨_, rfl⟩
                      replace hF := bnd_e hF e243
                      refine lv_iinc (v := v242) (lv' := [(2, .int v242), (0, .ref (q 3)), (3, .int b3), (4, .int 0)]) X.x X.b (dk DX3_init_1 38 rfl) hl (k := 1) rfl (by rw [e243]; rfl) (by decide) rfl (fun ls hl => ?_)
                      replace hl : lv_has ls 5 [(0, .ref (q 3)), (2, .int v242), (3, .int b3)] := lv_sub hl [1, 0, 2] rfl
                      obtain ⟨v244, e245⟩ : ∃ y : Int32, y = b3 + 1 := ⟨_, rfl⟩
                      replace hF := bnd_e hF e245
                      refine lv_iinc (v := v244) (lv' := [(3, .int v244), (0, .ref (q 3)), (2, .int v242)]) X.x X.b (dk DX3_init_1 39 rfl) hl (k := 2) rfl (by rw [e245]; rfl) (by decide) rfl (fun ls hl => ?_)
                      replace hl : lv_has ls 5 [(0, .ref (q 3)), (2, .int v242), (3, .int v244)] := lv_sub hl [1, 2, 0] rfl
                      refine lv_goto (tgt := 86) X.x X.b (dk DX3_init_1 40 rfl) (by decide) ?_
                      exact (lp_l hF hx) _ _ _ hH (lv_sub hl [0, 1, 2] rfl) K0
                · replace hF := if_f hF c229
                  refine lv_iload_n X.x X.b (dk DX3_init_1 24 rfl) rfl (lv_at hl 1 rfl) ?_
                  refine lv_goto (tgt := 154) X.x X.b (dk DX3_init_1 25 rfl) (by decide) ?_
                  obtain ⟨c246, hF⟩ := gd hF
                  refine og_iast X hq hH 2 (by decide) rfl (inb_in c246) (dk DX3_init_1 27 rfl) (fun H locs hH => ?_)
                  obtain ⟨t247, e248⟩ : ∃ y, y = oA s_t 2 (upd (s_t.2.2.1 2) (b3 : Int32).toNatClampNeg b2) := ⟨_, rfl⟩
                  rw [← e248] at hH
                  replace hF := bnd_e hF e248
                  refine lv_iload X.x X.b (dk DX3_init_1 28 rfl) (lv_at hl 3 rfl) ?_
                  refine lv_if_eq (tgt := 176) X.x X.b (dk DX3_init_1 29 rfl) (by decide) (fun c249 => ?_) (fun c249 => ?_)
                  · replace hF := if_t hF c249
                    obtain ⟨v250, e251⟩ : ∃ y : Int32, y = b3 + 1 := ⟨_, rfl⟩
                    replace hF := bnd_e hF e251
                    refine lv_iinc (v := v250) (lv' := [(3, .int v250), (0, .ref (q 3)), (2, .int b2), (4, .int 0)]) X.x X.b (dk DX3_init_1 39 rfl) hl (k := 2) rfl (by rw [e251]; rfl) (by decide) rfl (fun ls hl => ?_)
                    replace hl : lv_has ls 5 [(0, .ref (q 3)), (2, .int b2), (3, .int v250)] := lv_sub hl [1, 2, 0] rfl
                    refine lv_goto (tgt := 86) X.x X.b (dk DX3_init_1 40 rfl) (by decide) ?_
                    exact (lp_l hF hx) _ _ _ hH (lv_sub hl [0, 1, 2] rfl) K0
                  · replace hF := if_f hF c249
                    refine lv_iload_n X.x X.b (dk DX3_init_1 30 rfl) rfl (lv_at hl 1 rfl) ?_
                    refine lv_bipush (v := 40) X.x X.b (dk DX3_init_1 31 rfl) (by decide) ?_
                    refine lv_icmp_ge (tgt := 176) X.x X.b (dk DX3_init_1 32 rfl) (by decide) (fun c252 => ?_) (fun c252 => ?_)
                    · replace hF := if_t hF c252
                      obtain ⟨v253, e254⟩ : ∃ y : Int32, y = b3 + 1 := ⟨_, rfl⟩
                      replace hF := bnd_e hF e254
                      refine lv_iinc (v := v253) (lv' := [(3, .int v253), (0, .ref (q 3)), (2, .int b2), (4, .int 0)]) X.x X.b (dk DX3_init_1 39 rfl) hl (k := 2) rfl (by rw [e254]; rfl) (by decide) rfl (fun ls hl => ?_)
                      replace hl : lv_has ls 5 [(0, .ref (q 3)), (2, .int b2), (3, .int v253)] := lv_sub hl [1, 2, 0] rfl
                      refine lv_goto (tgt := 86) X.x X.b (dk DX3_init_1 40 rfl) (by decide) ?_
                      exact (lp_l hF hx) _ _ _ hH (lv_sub hl [0, 1, 2] rfl) K0
                    · replace hF := if_f hF c252
                      refine lv_aload_n X.x X.b (dk DX3_init_1 33 rfl) rfl (lv_at hl 0 rfl) ?_
                      refine og_getR (t := 0) OX3 X hq hH 1 (by decide) rfl kF_X3_15 (dk DX3_init_1 34 rfl) ?_
                      refine lv_iload_n X.x X.b (dk DX3_init_1 35 rfl) rfl (lv_at hl 1 rfl) ?_
                      refine lv_iload_n X.x X.b (dk DX3_init_1 36 rfl) rfl (lv_at hl 2 rfl) ?_
                      obtain ⟨c255, hF⟩ := gd hF
                      refine og_iast X hq hH 1 (by decide) rfl (inb_in c255) (dk DX3_init_1 37 rfl) (fun H locs hH => ?_)
                      obtain ⟨t256, e257⟩ : ∃ y, y = oA t247 1 (upd (t247.2.2.1 1) (b2 : Int32).toNatClampNeg b3) := ⟨_, rfl⟩
                      rw [← e257] at hH
                      replace hF := bnd_e hF e257
                      obtain ⟨v258, e259⟩ : ∃ y : Int32, y = b2 + 1 := ⟨_, rfl⟩
                      replace hF := bnd_e hF e259
                      refine lv_iinc (v := v258) (lv' := [(2, .int v258), (0, .ref (q 3)), (3, .int b3), (4, .int 0)]) X.x X.b (dk DX3_init_1 38 rfl) hl (k := 1) rfl (by rw [e259]; rfl) (by decide) rfl (fun ls hl => ?_)
                      replace hl : lv_has ls 5 [(0, .ref (q 3)), (2, .int v258), (3, .int b3)] := lv_sub hl [1, 0, 2] rfl
                      obtain ⟨v260, e261⟩ : ∃ y : Int32, y = b3 + 1 := ⟨_, rfl⟩
                      replace hF := bnd_e hF e261
                      refine lv_iinc (v := v260) (lv' := [(3, .int v260), (0, .ref (q 3)), (2, .int v258)]) X.x X.b (dk DX3_init_1 39 rfl) hl (k := 2) rfl (by rw [e261]; rfl) (by decide) rfl (fun ls hl => ?_)
                      replace hl : lv_has ls 5 [(0, .ref (q 3)), (2, .int v258), (3, .int v260)] := lv_sub hl [1, 2, 0] rfl
                      refine lv_goto (tgt := 86) X.x X.b (dk DX3_init_1 40 rfl) (by decide) ?_
                      exact (lp_l hF hx) _ _ _ hH (lv_sub hl [0, 1, 2] rfl) K0
              · replace hF := if_f hF c228
                refine lv_iconst (v := 1) X.x X.b (dk DX3_init_1 15 rfl) (by decide) ?_
                refine lv_goto (tgt := 137) X.x X.b (dk DX3_init_1 16 rfl) (by decide) ?_
                refine lv_istore (lv' := [(4, .int 1), (0, .ref (q 3)), (2, .int b2), (3, .int b3)]) X.x X.b (dk DX3_init_1 18 rfl) hl (by decide) rfl (fun ls hl => ?_)
                replace hl : lv_has ls 5 [(0, .ref (q 3)), (2, .int b2), (3, .int b3), (4, .int 1)] := lv_sub hl [1, 2, 3, 0] rfl
                refine lv_aload_n X.x X.b (dk DX3_init_1 19 rfl) rfl (lv_at hl 0 rfl) ?_
                refine og_getR (t := 0) OX3 X hq hH 2 (by decide) rfl kF_X3_18 (dk DX3_init_1 20 rfl) ?_
                refine lv_iload_n X.x X.b (dk DX3_init_1 21 rfl) rfl (lv_at hl 2 rfl) ?_
                refine lv_iload X.x X.b (dk DX3_init_1 22 rfl) (lv_at hl 3 rfl) ?_
                refine lv_if_eq (tgt := 153) X.x X.b (dk DX3_init_1 23 rfl) (by decide) (fun c262 => ?_) (fun c262 => ?_)
                · replace hF := if_t hF c262
                  refine lv_iconst (v := (-1)) X.x X.b (dk DX3_init_1 26 rfl) (by decide) ?_
                  obtain ⟨c263, hF⟩ := gd hF
                  refine og_iast X hq hH 2 (by decide) rfl (inb_in c263) (dk DX3_init_1 27 rfl) (fun H locs hH => ?_)
                  obtain ⟨t264, e265⟩ : ∃ y, y = oA s_t 2 (upd (s_t.2.2.1 2) (b3 : Int32).toNatClampNeg ((-1))) := ⟨_, rfl⟩
                  rw [← e265] at hH
                  replace hF := bnd_e hF e265
                  refine lv_iload X.x X.b (dk DX3_init_1 28 rfl) (lv_at hl 3 rfl) ?_
                  refine lv_if_eq (tgt := 176) X.x X.b (dk DX3_init_1 29 rfl) (by decide) (fun c266 => ?_) (fun c266 => ?_)
                  · replace hF := if_t hF c266
                    obtain ⟨v267, e268⟩ : ∃ y : Int32, y = b3 + 1 := ⟨_, rfl⟩
                    replace hF := bnd_e hF e268
                    refine lv_iinc (v := v267) (lv' := [(3, .int v267), (0, .ref (q 3)), (2, .int b2), (4, .int 1)]) X.x X.b (dk DX3_init_1 39 rfl) hl (k := 2) rfl (by rw [e268]; rfl) (by decide) rfl (fun ls hl => ?_)
                    replace hl : lv_has ls 5 [(0, .ref (q 3)), (2, .int b2), (3, .int v267)] := lv_sub hl [1, 2, 0] rfl
                    refine lv_goto (tgt := 86) X.x X.b (dk DX3_init_1 40 rfl) (by decide) ?_
                    exact (lp_l hF hx) _ _ _ hH (lv_sub hl [0, 1, 2] rfl) K0
                  · replace hF := if_f hF c266
                    refine lv_iload_n X.x X.b (dk DX3_init_1 30 rfl) rfl (lv_at hl 1 rfl) ?_
                    refine lv_bipush (v := 40) X.x X.b (dk DX3_init_1 31 rfl) (by decide) ?_
                    refine lv_icmp_ge (tgt := 176) X.x X.b (dk DX3_init_1 32 rfl) (by decide) (fun c269 => ?_) (fun c269 => ?_)
                    · replace hF := if_t hF c269
                      obtain ⟨v270, e271⟩ : ∃ y : Int32, y = b3 + 1 := ⟨_, rfl⟩
                      replace hF := bnd_e hF e271
                      refine lv_iinc (v := v270) (lv' := [(3, .int v270), (0, .ref (q 3)), (2, .int b2), (4, .int 1)]) X.x X.b (dk DX3_init_1 39 rfl) hl (k := 2) rfl (by rw [e271]; rfl) (by decide) rfl (fun ls hl => ?_)
                      replace hl : lv_has ls 5 [(0, .ref (q 3)), (2, .int b2), (3, .int v270)] := lv_sub hl [1, 2, 0] rfl
                      refine lv_goto (tgt := 86) X.x X.b (dk DX3_init_1 40 rfl) (by decide) ?_
                      exact (lp_l hF hx) _ _ _ hH (lv_sub hl [0, 1, 2] rfl) K0
                    · replace hF := if_f hF c269
                      refine lv_aload_n X.x X.b (dk DX3_init_1 33 rfl) rfl (lv_at hl 0 rfl) ?_
                      refine og_getR (t := 0) OX3 X hq hH 1 (by decide) rfl kF_X3_15 (dk DX3_init_1 34 rfl) ?_
                      refine lv_iload_n X.x X.b (dk DX3_init_1 35 rfl) rfl (lv_at hl 1 rfl) ?_
                      refine lv_iload_n X.x X.b (dk DX3_init_1 36 rfl) rfl (lv_at hl 2 rfl) ?_
                      obtain ⟨c272, hF⟩ := gd hF
                      refine og_iast X hq hH 1 (by decide) rfl (inb_in c272) (dk DX3_init_1 37 rfl) (fun H locs hH => ?_)
                      obtain ⟨t273, e274⟩ : ∃ y, y = oA t264 1 (upd (t264.2.2.1 1) (b2 : Int32).toNatClampNeg b3) := ⟨_, rfl⟩
                      rw [← e274] at hH
                      replace hF := bnd_e hF e274
                      obtain ⟨v275, e276⟩ : ∃ y : Int32, y = b2 + 1 := ⟨_, rfl⟩
                      replace hF := bnd_e hF e276
                      refine lv_iinc (v := v275) (lv' := [(2, .int v275), (0, .ref (q 3)), (3, .int b3), (4, .int 1)]) X.x X.b (dk DX3_init_1 38 rfl) hl (k := 1) rfl (by rw [e276]; rfl) (by decide) rfl (fun ls hl => ?_)
                      replace hl : lv_has ls 5 [(0, .ref (q 3)), (2, .int v275), (3, .int b3)] := lv_sub hl [1, 0, 2] rfl
                      obtain ⟨v277, e278⟩ : ∃ y : Int32, y = b3 + 1 := ⟨_, rfl⟩
                      replace hF := bnd_e hF e278
                      refine lv_iinc (v := v277) (lv' := [(3, .int v277), (0, .ref (q 3)), (2, .int v275)]) X.x X.b (dk DX3_init_1 39 rfl) hl (k := 2) rfl (by rw [e278]; rfl) (by decide) rfl (fun ls hl => ?_)
                      replace hl : lv_has ls 5 [(0, .ref (q 3)), (2, .int v275), (3, .int v277)] := lv_sub hl [1, 2, 0] rfl
                      refine lv_goto (tgt := 86) X.x X.b (dk DX3_init_1 40 rfl) (by decide) ?_
                      exact (lp_l hF hx) _ _ _ hH (lv_sub hl [0, 1, 2] rfl) K0
                · replace hF := if_f hF c262
                  refine lv_iload_n X.x X.b (dk DX3_init_1 24 rfl) rfl (lv_at hl 1 rfl) ?_
                  refine lv_goto (tgt := 154) X.x X.b (dk DX3_init_1 25 rfl) (by decide) ?_
                  obtain ⟨c279, hF⟩ := gd hF
                  refine og_iast X hq hH 2 (by decide) rfl (inb_in c279) (dk DX3_init_1 27 rfl) (fun H locs hH => ?_)
                  obtain ⟨t280, e281⟩ : ∃ y, y = oA s_t 2 (upd (s_t.2.2.1 2) (b3 : Int32).toNatClampNeg b2) := ⟨_, rfl⟩
                  rw [← e281] at hH
                  replace hF := bnd_e hF e281
                  refine lv_iload X.x X.b (dk DX3_init_1 28 rfl) (lv_at hl 3 rfl) ?_
                  refine lv_if_eq (tgt := 176) X.x X.b (dk DX3_init_1 29 rfl) (by decide) (fun c282 => ?_) (fun c282 => ?_)
                  · replace hF := if_t hF c282
                    obtain ⟨v283, e284⟩ : ∃ y : Int32, y = b3 + 1 := ⟨_, rfl⟩
                    replace hF := bnd_e hF e284
                    refine lv_iinc (v := v283) (lv' := [(3, .int v283), (0, .ref (q 3)), (2, .int b2), (4, .int 1)]) X.x X.b (dk DX3_init_1 39 rfl) hl (k := 2) rfl (by rw [e284]; rfl) (by decide) rfl (fun ls hl => ?_)
                    replace hl : lv_has ls 5 [(0, .ref (q 3)), (2, .int b2), (3, .int v283)] := lv_sub hl [1, 2, 0] rfl
                    refine lv_goto (tgt := 86) X.x X.b (dk DX3_init_1 40 rfl) (by decide) ?_
                    exact (lp_l hF hx) _ _ _ hH (lv_sub hl [0, 1, 2] rfl) K0
                  · replace hF := if_f hF c282
                    refine lv_iload_n X.x X.b (dk DX3_init_1 30 rfl) rfl (lv_at hl 1 rfl) ?_
                    refine lv_bipush (v := 40) X.x X.b (dk DX3_init_1 31 rfl) (by decide) ?_
                    refine lv_icmp_ge (tgt := 176) X.x X.b (dk DX3_init_1 32 rfl) (by decide) (fun c285 => ?_) (fun c285 => ?_)
                    · replace hF := if_t hF c285
                      obtain ⟨v286, e287⟩ : ∃ y : Int32, y = b3 + 1 := ⟨_, rfl⟩
                      replace hF := bnd_e hF e287
                      refine lv_iinc (v := v286) (lv' := [(3, .int v286), (0, .ref (q 3)), (2, .int b2), (4, .int 1)]) X.x X.b (dk DX3_init_1 39 rfl) hl (k := 2) rfl (by rw [e287]; rfl) (by decide) rfl (fun ls hl => ?_)
                      replace hl : lv_has ls 5 [(0, .ref (q 3)), (2, .int b2), (3, .int v286)] := lv_sub hl [1, 2, 0] rfl
                      refine lv_goto (tgt := 86) X.x X.b (dk DX3_init_1 40 rfl) (by decide) ?_
                      exact (lp_l hF hx) _ _ _ hH (lv_sub hl [0, 1, 2] rfl) K0
                    · replace hF := if_f hF c285
                      refine lv_aload_n X.x X.b (dk DX3_init_1 33 rfl) rfl (lv_at hl 0 rfl) ?_
                      refine og_getR (t := 0) OX3 X hq hH 1 (by decide) rfl kF_X3_15 (dk DX3_init_1 34 rfl) ?_
                      refine lv_iload_n X.x X.b (dk DX3_init_1 35 rfl) rfl (lv_at hl 1 rfl) ?_
                      refine lv_iload_n X.x X.b (dk DX3_init_1 36 rfl) rfl (lv_at hl 2 rfl) ?_
                      obtain ⟨c288, hF⟩ := gd hF
                      refine og_iast X hq hH 1 (by decide) rfl (inb_in c288) (dk DX3_init_1 37 rfl) (fun H locs hH => ?_)
                      obtain ⟨t289, e290⟩ : ∃ y, y = oA t280 1 (upd (t280.2.2.1 1) (b2 : Int32).toNatClampNeg b3) := ⟨_, rfl⟩
                      rw [← e290] at hH
                      replace hF := bnd_e hF e290
                      obtain ⟨v291, e292⟩ : ∃ y : Int32, y = b2 + 1 := ⟨_, rfl⟩
                      replace hF := bnd_e hF e292
                      refine lv_iinc (v := v291) (lv' := [(2, .int v291), (0, .ref (q 3)), (3, .int b3), (4, .int 1)]) X.x X.b (dk DX3_init_1 38 rfl) hl (k := 1) rfl (by rw [e292]; rfl) (by decide) rfl (fun ls hl => ?_)
                      replace hl : lv_has ls 5 [(0, .ref (q 3)), (2, .int v291), (3, .int b3)] := lv_sub hl [1, 0, 2] rfl
                      obtain ⟨v293, e294⟩ : ∃ y : Int32, y = b3 + 1 := ⟨_, rfl⟩
                      replace hF := bnd_e hF e294
                      refine lv_iinc (v := v293) (lv' := [(3, .int v293), (0, .ref (q 3)), (2, .int v291)]) X.x X.b (dk DX3_init_1 39 rfl) hl (k := 2) rfl (by rw [e294]; rfl) (by decide) rfl (fun ls hl => ?_)
                      replace hl : lv_has ls 5 [(0, .ref (q 3)), (2, .int v291), (3, .int v293)] := lv_sub hl [1, 2, 0] rfl
                      refine lv_goto (tgt := 86) X.x X.b (dk DX3_init_1 40 rfl) (by decide) ?_
                      exact (lp_l hF hx) _ _ _ hH (lv_sub hl [0, 1, 2] rfl) K0
      · replace hF := if_f hF c57
        refine lv_iload_n X.x X.b (dk DX3_init_1 0 rfl) rfl (lv_at hl 2 rfl) ?_
        refine lv_bipush (v := 6) X.x X.b (dk DX3_init_1 1 rfl) (by decide) ?_
        refine lv_icmp_lt (tgt := 132) X.x X.b (dk DX3_init_1 2 rfl) (by decide) (fun c295 => ?_) (fun c295 => ?_)
        · replace hF := if_t hF c295
          refine lv_iconst (v := 1) X.x X.b (dk DX3_init_1 15 rfl) (by decide) ?_
          refine lv_goto (tgt := 137) X.x X.b (dk DX3_init_1 16 rfl) (by decide) ?_
          refine lv_istore (lv' := [(4, .int 1), (0, .ref (q 3)), (2, .int b2), (3, .int b3)]) X.x X.b (dk DX3_init_1 18 rfl) hl (by decide) rfl (fun ls hl => ?_)
          replace hl : lv_has ls 5 [(0, .ref (q 3)), (2, .int b2), (3, .int b3), (4, .int 1)] := lv_sub hl [1, 2, 3, 0] rfl
          refine lv_aload_n X.x X.b (dk DX3_init_1 19 rfl) rfl (lv_at hl 0 rfl) ?_
          refine og_getR (t := 0) OX3 X hq hH 2 (by decide) rfl kF_X3_18 (dk DX3_init_1 20 rfl) ?_
          refine lv_iload_n X.x X.b (dk DX3_init_1 21 rfl) rfl (lv_at hl 2 rfl) ?_
          refine lv_iload X.x X.b (dk DX3_init_1 22 rfl) (lv_at hl 3 rfl) ?_
          refine lv_if_eq (tgt := 153) X.x X.b (dk DX3_init_1 23 rfl) (by decide) (fun c296 => ?_) (fun c296 => ?_)
          · replace hF := if_t hF c296
            refine lv_iconst (v := (-1)) X.x X.b (dk DX3_init_1 26 rfl) (by decide) ?_
            obtain ⟨c297, hF⟩ := gd hF
            refine og_iast X hq hH 2 (by decide) rfl (inb_in c297) (dk DX3_init_1 27 rfl) (fun H locs hH => ?_)
            obtain ⟨t298, e299⟩ : ∃ y, y = oA s_t 2 (upd (s_t.2.2.1 2) (b3 : Int32).toNatClampNeg ((-1))) := ⟨_, rfl⟩
            rw [← e299] at hH
            replace hF := bnd_e hF e299
            refine lv_iload X.x X.b (dk DX3_init_1 28 rfl) (lv_at hl 3 rfl) ?_
            refine lv_if_eq (tgt := 176) X.x X.b (dk DX3_init_1 29 rfl) (by decide) (fun c300 => ?_) (fun c300 => ?_)
            · replace hF := if_t hF c300
              obtain ⟨v301, e302⟩ : ∃ y : Int32, y = b3 + 1 := ⟨_, rfl⟩
              replace hF := bnd_e hF e302
              refine lv_iinc (v := v301) (lv' := [(3, .int v301), (0, .ref (q 3)), (2, .int b2), (4, .int 1)]) X.x X.b (dk DX3_init_1 39 rfl) hl (k := 2) rfl (by rw [e302]; rfl) (by decide) rfl (fun ls hl => ?_)
              replace hl : lv_has ls 5 [(0, .ref (q 3)), (2, .int b2), (3, .int v301)] := lv_sub hl [1, 2, 0] rfl
              refine lv_goto (tgt := 86) X.x X.b (dk DX3_init_1 40 rfl) (by decide) ?_
              exact (lp_l hF hx) _ _ _ hH (lv_sub hl [0, 1, 2] rfl) K0
            · replace hF := if_f hF c300
              refine lv_iload_n X.x X.b (dk DX3_init_1 30 rfl) rfl (lv_at hl 1 rfl) ?_
              refine lv_bipush (v := 40) X.x X.b (dk DX3_init_1 31 rfl) (by decide) ?_
              refine lv_icmp_ge (tgt := 176) X.x X.b (dk DX3_init_1 32 rfl) (by decide) (fun c303 => ?_) (fun c303 => ?_)
              · replace hF := if_t hF c303
                obtain ⟨v304, e305⟩ : ∃ y : Int32, y = b3 + 1 := ⟨_, rfl⟩
                replace hF := bnd_e hF e305
                refine lv_iinc (v := v304) (lv' := [(3, .int v304), (0, .ref (q 3)), (2, .int b2), (4, .int 1)]) X.x X.b (dk DX3_init_1 39 rfl) hl (k := 2) rfl (by rw [e305]; rfl) (by decide) rfl (fun ls hl => ?_)
                replace hl : lv_has ls 5 [(0, .ref (q 3)), (2, .int b2), (3, .int v304)] := lv_sub hl [1, 2, 0] rfl
                refine lv_goto (tgt := 86) X.x X.b (dk DX3_init_1 40 rfl) (by decide) ?_
                exact (lp_l hF hx) _ _ _ hH (lv_sub hl [0, 1, 2] rfl) K0
              · replace hF := if_f hF c303
                refine lv_aload_n X.x X.b (dk DX3_init_1 33 rfl) rfl (lv_at hl 0 rfl) ?_
                refine og_getR (t := 0) OX3 X hq hH 1 (by decide) rfl kF_X3_15 (dk DX3_init_1 34 rfl) ?_
                refine lv_iload_n X.x X.b (dk DX3_init_1 35 rfl) rfl (lv_at hl 1 rfl) ?_
                refine lv_iload_n X.x X.b (dk DX3_init_1 36 rfl) rfl (lv_at hl 2 rfl) ?_
                obtain ⟨c306, hF⟩ := gd hF
                refine og_iast X hq hH 1 (by decide) rfl (inb_in c306) (dk DX3_init_1 37 rfl) (fun H locs hH => ?_)
                obtain ⟨t307, e308⟩ : ∃ y, y = oA t298 1 (upd (t298.2.2.1 1) (b2 : Int32).toNatClampNeg b3) := ⟨_, rfl⟩
                rw [← e308] at hH
                replace hF := bnd_e hF e308
                obtain ⟨v309, e310⟩ : ∃ y : Int32, y = b2 + 1 := ⟨_, rfl⟩
                replace hF := bnd_e hF e310
                refine lv_iinc (v := v309) (lv' := [(2, .int v309), (0, .ref (q 3)), (3, .int b3), (4, .int 1)]) X.x X.b (dk DX3_init_1 38 rfl) hl (k := 1) rfl (by rw [e310]; rfl) (by decide) rfl (fun ls hl => ?_)
                replace hl : lv_has ls 5 [(0, .ref (q 3)), (2, .int v309), (3, .int b3)] := lv_sub hl [1, 0, 2] rfl
                obtain ⟨v311, e312⟩ : ∃ y : Int32, y = b3 + 1 := ⟨_, rfl⟩
                replace hF := bnd_e hF e312
                refine lv_iinc (v := v311) (lv' := [(3, .int v311), (0, .ref (q 3)), (2, .int v309)]) X.x X.b (dk DX3_init_1 39 rfl) hl (k := 2) rfl (by rw [e312]; rfl) (by decide) rfl (fun ls hl => ?_)
                replace hl : lv_has ls 5 [(0, .ref (q 3)), (2, .int v309), (3, .int v311)] := lv_sub hl [1, 2, 0] rfl
                refine lv_goto (tgt := 86) X.x X.b (dk DX3_init_1 40 rfl) (by decide) ?_
                exact (lp_l hF hx) _ _ _ hH (lv_sub hl [0, 1, 2] rfl) K0
          · replace hF := if_f hF c296
            refine lv_iload_n X.x X.b (dk DX3_init_1 24 rfl) rfl (lv_at hl 1 rfl) ?_
            refine lv_goto (tgt := 154) X.x X.b (dk DX3_init_1 25 rfl) (by decide) ?_
            obtain ⟨c313, hF⟩ := gd hF
            refine og_iast X hq hH 2 (by decide) rfl (inb_in c313) (dk DX3_init_1 27 rfl) (fun H locs hH => ?_)
            obtain ⟨t314, e315⟩ : ∃ y, y = oA s_t 2 (upd (s_t.2.2.1 2) (b3 : Int32).toNatClampNeg b2) := ⟨_, rfl⟩
            rw [← e315] at hH
            replace hF := bnd_e hF e315
            refine lv_iload X.x X.b (dk DX3_init_1 28 rfl) (lv_at hl 3 rfl) ?_
            refine lv_if_eq (tgt := 176) X.x X.b (dk DX3_init_1 29 rfl) (by decide) (fun c316 => ?_) (fun c316 => ?_)
            · replace hF := if_t hF c316
              obtain ⟨v317, e318⟩ : ∃ y : Int32, y = b3 + 1 := ⟨_, rfl⟩
              replace hF := bnd_e hF e318
              refine lv_iinc (v := v317) (lv' := [(3, .int v317), (0, .ref (q 3)), (2, .int b2), (4, .int 1)]) X.x X.b (dk DX3_init_1 39 rfl) hl (k := 2) rfl (by rw [e318]; rfl) (by decide) rfl (fun ls hl => ?_)
              replace hl : lv_has ls 5 [(0, .ref (q 3)), (2, .int b2), (3, .int v317)] := lv_sub hl [1, 2, 0] rfl
              refine lv_goto (tgt := 86) X.x X.b (dk DX3_init_1 40 rfl) (by decide) ?_
              exact (lp_l hF hx) _ _ _ hH (lv_sub hl [0, 1, 2] rfl) K0
            · replace hF := if_f hF c316
              refine lv_iload_n X.x X.b (dk DX3_init_1 30 rfl) rfl (lv_at hl 1 rfl) ?_
              refine lv_bipush (v := 40) X.x X.b (dk DX3_init_1 31 rfl) (by decide) ?_
              refine lv_icmp_ge (tgt := 176) X.x X.b (dk DX3_init_1 32 rfl) (by decide) (fun c319 => ?_) (fun c319 => ?_)
              · replace hF := if_t hF c319
                obtain ⟨v320, e321⟩ : ∃ y : Int32, y = b3 + 1 := ⟨_, rfl⟩
                replace hF := bnd_e hF e321
                refine lv_iinc (v := v320) (lv' := [(3, .int v320), (0, .ref (q 3)), (2, .int b2), (4, .int 1)]) X.x X.b (dk DX3_init_1 39 rfl) hl (k := 2) rfl (by rw [e321]; rfl) (by decide) rfl (fun ls hl => ?_)
                replace hl : lv_has ls 5 [(0, .ref (q 3)), (2, .int b2), (3, .int v320)] := lv_sub hl [1, 2, 0] rfl
                refine lv_goto (tgt := 86) X.x X.b (dk DX3_init_1 40 rfl) (by decide) ?_
                exact (lp_l hF hx) _ _ _ hH (lv_sub hl [0, 1, 2] rfl) K0
              · replace hF := if_f hF c319
                refine lv_aload_n X.x X.b (dk DX3_init_1 33 rfl) rfl (lv_at hl 0 rfl) ?_
                refine og_getR (t := 0) OX3 X hq hH 1 (by decide) rfl kF_X3_15 (dk DX3_init_1 34 rfl) ?_
                refine lv_iload_n X.x X.b (dk DX3_init_1 35 rfl) rfl (lv_at hl 1 rfl) ?_
                refine lv_iload_n X.x X.b (dk DX3_init_1 36 rfl) rfl (lv_at hl 2 rfl) ?_
                obtain ⟨c322, hF⟩ := gd hF
                refine og_iast X hq hH 1 (by decide) rfl (inb_in c322) (dk DX3_init_1 37 rfl) (fun H locs hH => ?_)
                obtain ⟨t323, e324⟩ : ∃ y, y = oA t314 1 (upd (t314.2.2.1 1) (b2 : Int32).toNatClampNeg b3) := ⟨_, rfl⟩
                rw [← e324] at hH
                replace hF := bnd_e hF e324
                obtain ⟨v325, e326⟩ : ∃ y : Int32, y = b2 + 1 := ⟨_, rfl⟩
                replace hF := bnd_e hF e326
                refine lv_iinc (v := v325) (lv' := [(2, .int v325), (0, .ref (q 3)), (3, .int b3), (4, .int 1)]) X.x X.b (dk DX3_init_1 38 rfl) hl (k := 1) rfl (by rw [e326]; rfl) (by decide) rfl (fun ls hl => ?_)
                replace hl : lv_has ls 5 [(0, .ref (q 3)), (2, .int v325), (3, .int b3)] := lv_sub hl [1, 0, 2] rfl
                obtain ⟨v327, e328⟩ : ∃ y : Int32, y = b3 + 1 := ⟨_, rfl⟩
                replace hF := bnd_e hF e328
                refine lv_iinc (v := v327) (lv' := [(3, .int v327), (0, .ref (q 3)), (2, .int v325)]) X.x X.b (dk DX3_init_1 39 rfl) hl (k := 2) rfl (by rw [e328]; rfl) (by decide) rfl (fun ls hl => ?_)
                replace hl : lv_has ls 5 [(0, .ref (q 3)), (2, .int v325), (3, .int v327)] := lv_sub hl [1, 2, 0] rfl
                refine lv_goto (tgt := 86) X.x X.b (dk DX3_init_1 40 rfl) (by decide) ?_
                exact (lp_l hF hx) _ _ _ hH (lv_sub hl [0, 1, 2] rfl) K0
        · replace hF := if_f hF c295
          refine lv_iload_n X.x X.b (dk DX3_init_1 3 rfl) rfl (lv_at hl 2 rfl) ?_
          refine lv_bipush (v := 9) X.x X.b (dk DX3_init_1 4 rfl) (by decide) ?_
          refine lv_icmp_lt (tgt := 120) X.x X.b (dk DX3_init_1 5 rfl) (by decide) (fun c329 => ?_) (fun c329 => ?_)
          · replace hF := if_t hF c329
            refine lv_iload_n X.x X.b (dk DX3_init_1 9 rfl) rfl (lv_at hl 2 rfl) ?_
            refine lv_bipush (v := 27) X.x X.b (dk DX3_init_1 10 rfl) (by decide) ?_
            refine lv_icmp_lt (tgt := 136) X.x X.b (dk DX3_init_1 11 rfl) (by decide) (fun c330 => ?_) (fun c330 => ?_)
            · replace hF := if_t hF c330
              refine lv_iconst (v := 0) X.x X.b (dk DX3_init_1 17 rfl) (by decide) ?_
              refine lv_istore (lv' := [(4, .int 0), (0, .ref (q 3)), (2, .int b2), (3, .int b3)]) X.x X.b (dk DX3_init_1 18 rfl) hl (by decide) rfl (fun ls hl => ?_)
              replace hl : lv_has ls 5 [(0, .ref (q 3)), (2, .int b2), (3, .int b3), (4, .int 0)] := lv_sub hl [1, 2, 3, 0] rfl
              refine lv_aload_n X.x X.b (dk DX3_init_1 19 rfl) rfl (lv_at hl 0 rfl) ?_
              refine og_getR (t := 0) OX3 X hq hH 2 (by decide) rfl kF_X3_18 (dk DX3_init_1 20 rfl) ?_
              refine lv_iload_n X.x X.b (dk DX3_init_1 21 rfl) rfl (lv_at hl 2 rfl) ?_
              refine lv_iload X.x X.b (dk DX3_init_1 22 rfl) (lv_at hl 3 rfl) ?_
              refine lv_if_eq (tgt := 153) X.x X.b (dk DX3_init_1 23 rfl) (by decide) (fun c331 => ?_) (fun c331 => ?_)
              · replace hF := if_t hF c331
                refine lv_iconst (v := (-1)) X.x X.b (dk DX3_init_1 26 rfl) (by decide) ?_
                obtain ⟨c332, hF⟩ := gd hF
                refine og_iast X hq hH 2 (by decide) rfl (inb_in c332) (dk DX3_init_1 27 rfl) (fun H locs hH => ?_)
                obtain ⟨t333, e334⟩ : ∃ y, y = oA s_t 2 (upd (s_t.2.2.1 2) (b3 : Int32).toNatClampNeg ((-1))) := ⟨_, rfl⟩
                rw [← e334] at hH
                replace hF := bnd_e hF e334
                refine lv_iload X.x X.b (dk DX3_init_1 28 rfl) (lv_at hl 3 rfl) ?_
                refine lv_if_eq (tgt := 176) X.x X.b (dk DX3_init_1 29 rfl) (by decide) (fun c335 => ?_) (fun c335 => ?_)
                · replace hF := if_t hF c335
                  obtain ⟨v336, e337⟩ : ∃ y : Int32, y = b3 + 1 := ⟨_, rfl⟩
                  replace hF := bnd_e hF e337
                  refine lv_iinc (v := v336) (lv' := [(3, .int v336), (0, .ref (q 3)), (2, .int b2), (4, .int 0)]) X.x X.b (dk DX3_init_1 39 rfl) hl (k := 2) rfl (by rw [e337]; rfl) (by decide) rfl (fun ls hl => ?_)
                  replace hl : lv_has ls 5 [(0, .ref (q 3)), (2, .int b2), (3, .int v336)] := lv_sub hl [1, 2, 0] rfl
                  refine lv_goto (tgt := 86) X.x X.b (dk DX3_init_1 40 rfl) (by decide) ?_
                  exact (lp_l hF hx) _ _ _ hH (lv_sub hl [0, 1, 2] rfl) K0
                · replace hF := if_f hF c335
                  refine lv_iload_n X.x X.b (dk DX3_init_1 30 rfl) rfl (lv_at hl 1 rfl) ?_
                  refine lv_bipush (v := 40) X.x X.b (dk DX3_init_1 31 rfl) (by decide) ?_
                  refine lv_icmp_ge (tgt := 176) X.x X.b (dk DX3_init_1 32 rfl) (by decide) (fun c338 => ?_) (fun c338 => ?_)
                  · replace hF := if_t hF c338
                    obtain ⟨v339, e340⟩ : ∃ y : Int32, y = b3 + 1 := ⟨_, rfl⟩
                    replace hF := bnd_e hF e340
                    refine lv_iinc (v := v339) (lv' := [(3, .int v339), (0, .ref (q 3)), (2, .int b2), (4, .int 0)]) X.x X.b (dk DX3_init_1 39 rfl) hl (k := 2) rfl (by rw [e340]; rfl) (by decide) rfl (fun ls hl => ?_)
                    replace hl : lv_has ls 5 [(0, .ref (q 3)), (2, .int b2), (3, .int v339)] := lv_sub hl [1, 2, 0] rfl
                    refine lv_goto (tgt := 86) X.x X.b (dk DX3_init_1 40 rfl) (by decide) ?_
                    exact (lp_l hF hx) _ _ _ hH (lv_sub hl [0, 1, 2] rfl) K0
                  · replace hF := if_f hF c338
                    refine lv_aload_n X.x X.b (dk DX3_init_1 33 rfl) rfl (lv_at hl 0 rfl) ?_
                    refine og_getR (t := 0) OX3 X hq hH 1 (by decide) rfl kF_X3_15 (dk DX3_init_1 34 rfl) ?_
                    refine lv_iload_n X.x X.b (dk DX3_init_1 35 rfl) rfl (lv_at hl 1 rfl) ?_
                    refine lv_iload_n X.x X.b (dk DX3_init_1 36 rfl) rfl (lv_at hl 2 rfl) ?_
                    obtain ⟨c341, hF⟩ := gd hF
                    refine og_iast X hq hH 1 (by decide) rfl (inb_in c341) (dk DX3_init_1 37 rfl) (fun H locs hH => ?_)
                    obtain ⟨t342, e343⟩ : ∃ y, y = oA t333 1 (upd (t333.2.2.1 1) (b2 : Int32).toNatClampNeg b3) := ⟨_, rfl⟩
                    rw [← e343] at hH
                    replace hF := bnd_e hF e343
                    obtain ⟨v344, e345⟩ : ∃ y : Int32, y = b2 + 1 := ⟨_, rfl⟩
                    replace hF := bnd_e hF e345
                    refine lv_iinc (v := v344) (lv' := [(2, .int v344), (0, .ref (q 3)), (3, .int b3), (4, .int 0)]) X.x X.b (dk DX3_init_1 38 rfl) hl (k := 1) rfl (by rw [e345]; rfl) (by decide) rfl (fun ls hl => ?_)
                    replace hl : lv_has ls 5 [(0, .ref (q 3)), (2, .int v344), (3, .int b3)] := lv_sub hl [1, 0, 2] rfl
                    obtain ⟨v346, e347⟩ : ∃ y : Int32, y = b3 + 1 := ⟨_, rfl⟩
                    replace hF := bnd_e hF e347
                    refine lv_iinc (v := v346) (lv' := [(3, .int v346), (0, .ref (q 3)), (2, .int v344)]) X.x X.b (dk DX3_init_1 39 rfl) hl (k := 2) rfl (by rw [e347]; rfl) (by decide) rfl (fun ls hl => ?_)
                    replace hl : lv_has ls 5 [(0, .ref (q 3)), (2, .int v344), (3, .int v346)] := lv_sub hl [1, 2, 0] rfl
                    refine lv_goto (tgt := 86) X.x X.b (dk DX3_init_1 40 rfl) (by decide) ?_
                    exact (lp_l hF hx) _ _ _ hH (lv_sub hl [0, 1, 2] rfl) K0
              · replace hF := if_f hF c331
                refine lv_iload_n X.x X.b (dk DX3_init_1 24 rfl) rfl (lv_at hl 1 rfl) ?_
                refine lv_goto (tgt := 154) X.x X.b (dk DX3_init_1 25 rfl) (by decide) ?_
                obtain ⟨c348, hF⟩ := gd hF
                refine og_iast X hq hH 2 (by decide) rfl (inb_in c348) (dk DX3_init_1 27 rfl) (fun H locs hH => ?_)
                obtain ⟨t349, e350⟩ : ∃ y, y = oA s_t 2 (upd (s_t.2.2.1 2) (b3 : Int32).toNatClampNeg b2) := ⟨_, rfl⟩
                rw [← e350] at hH
                replace hF := bnd_e hF e350
                refine lv_iload X.x X.b (dk DX3_init_1 28 rfl) (lv_at hl 3 rfl) ?_
                refine lv_if_eq (tgt := 176) X.x X.b (dk DX3_init_1 29 rfl) (by decide) (fun c351 => ?_) (fun c351 => ?_)
                · replace hF := if_t hF c351
                  obtain ⟨v352, e353⟩ : ∃ y : Int32, y = b3 + 1 := ⟨_, rfl⟩
                  replace hF := bnd_e hF e353
                  refine lv_iinc (v := v352) (lv' := [(3, .int v352), (0, .ref (q 3)), (2, .int b2), (4, .int 0)]) X.x X.b (dk DX3_init_1 39 rfl) hl (k := 2) rfl (by rw [e353]; rfl) (by decide) rfl (fun ls hl => ?_)
                  replace hl : lv_has ls 5 [(0, .ref (q 3)), (2, .int b2), (3, .int v352)] := lv_sub hl [1, 2, 0] rfl
                  refine lv_goto (tgt := 86) X.x X.b (dk DX3_init_1 40 rfl) (by decide) ?_
                  exact (lp_l hF hx) _ _ _ hH (lv_sub hl [0, 1, 2] rfl) K0
                · replace hF := if_f hF c351
                  refine lv_iload_n X.x X.b (dk DX3_init_1 30 rfl) rfl (lv_at hl 1 rfl) ?_
                  refine lv_bipush (v := 40) X.x X.b (dk DX3_init_1 31 rfl) (by decide) ?_
                  refine lv_icmp_ge (tgt := 176) X.x X.b (dk DX3_init_1 32 rfl) (by decide) (fun c354 => ?_) (fun c354 => ?_)
                  · replace hF := if_t hF c354
                    obtain ⟨v355, e356⟩ : ∃ y : Int32, y = b3 + 1 := ⟨_, rfl⟩
                    replace hF := bnd_e hF e356
                    refine lv_iinc (v := v355) (lv' := [(3, .int v355), (0, .ref (q 3)), (2, .int b2), (4, .int 0)]) X.x X.b (dk DX3_init_1 39 rfl) hl (k := 2) rfl (by rw [e356]; rfl) (by decide) rfl (fun ls hl => ?_)
                    replace hl : lv_has ls 5 [(0, .ref (q 3)), (2, .int b2), (3, .int v355)] := lv_sub hl [1, 2, 0] rfl
                    refine lv_goto (tgt := 86) X.x X.b (dk DX3_init_1 40 rfl) (by decide) ?_
                    exact (lp_l hF hx) _ _ _ hH (lv_sub hl [0, 1, 2] rfl) K0
                  · replace hF := if_f hF c354
                    refine lv_aload_n X.x X.b (dk DX3_init_1 33 rfl) rfl (lv_at hl 0 rfl) ?_
                    refine og_getR (t := 0) OX3 X hq hH 1 (by decide) rfl kF_X3_15 (dk DX3_init_1 34 rfl) ?_
                    refine lv_iload_n X.x X.b (dk DX3_init_1 35 rfl) rfl (lv_at hl 1 rfl) ?_
                    refine lv_iload_n X.x X.b (dk DX3_init_1 36 rfl) rfl (lv_at hl 2 rfl) ?_
                    obtain ⟨c357, hF⟩ := gd hF
                    refine og_iast X hq hH 1 (by decide) rfl (inb_in c357) (dk DX3_init_1 37 rfl) (fun H locs hH => ?_)
                    obtain ⟨t358, e359⟩ : ∃ y, y = oA t349 1 (upd (t349.2.2.1 1) (b2 : Int32).toNatClampNeg b3) := ⟨_, rfl⟩
                    rw [← e359] at hH
                    replace hF := bnd_e hF e359
                    obtain ⟨v360, e361⟩ : ∃ y : Int32, y = b2 + 1 := ⟨_, rfl⟩
                    replace hF := bnd_e hF e361
                    refine lv_iinc (v := v360) (lv' := [(2, .int v360), (0, .ref (q 3)), (3, .int b3), (4, .int 0)]) X.x X.b (dk DX3_init_1 38 rfl) hl (k := 1) rfl (by rw [e361]; rfl) (by decide) rfl (fun ls hl => ?_)
                    replace hl : lv_has ls 5 [(0, .ref (q 3)), (2, .int v360), (3, .int b3)] := lv_sub hl [1, 0, 2] rfl
                    obtain ⟨v362, e363⟩ : ∃ y : Int32, y = b3 + 1 := ⟨_, rfl⟩
                    replace hF := bnd_e hF e363
                    refine lv_iinc (v := v362) (lv' := [(3, .int v362), (0, .ref (q 3)), (2, .int v360)]) X.x X.b (dk DX3_init_1 39 rfl) hl (k := 2) rfl (by rw [e363]; rfl) (by decide) rfl (fun ls hl => ?_)
                    replace hl : lv_has ls 5 [(0, .ref (q 3)), (2, .int v360), (3, .int v362)] := lv_sub hl [1, 2, 0] rfl
                    refine lv_goto (tgt := 86) X.x X.b (dk DX3_init_1 40 rfl) (by decide) ?_
                    exact (lp_l hF hx) _ _ _ hH (lv_sub hl [0, 1, 2] rfl) K0
            · replace hF := if_f hF c330
              refine lv_iload_n X.x X.b (dk DX3_init_1 12 rfl) rfl (lv_at hl 2 rfl) ?_
              refine lv_bipush (v := 54) X.x X.b (dk DX3_init_1 13 rfl) (by decide) ?_
              refine lv_icmp_ge (tgt := 136) X.x X.b (dk DX3_init_1 14 rfl) (by decide) (fun c364 => ?_) (fun c364 => ?_)
              · replace hF := if_t hF c364
                refine lv_iconst (v := 0) X.x X.b (dk DX3_init_1 17 rfl) (by decide) ?_
                refine lv_istore (lv' := [(4, .int 0), (0, .ref (q 3)), (2, .int b2), (3, .int b3)]) X.x X.b (dk DX3_init_1 18 rfl) hl (by decide) rfl (fun ls hl => ?_)
                replace hl : lv_has ls 5 [(0, .ref (q 3)), (2, .int b2), (3, .int b3), (4, .int 0)] := lv_sub hl [1, 2, 3, 0] rfl
                refine lv_aload_n X.x X.b (dk DX3_init_1 19 rfl) rfl (lv_at hl 0 rfl) ?_
                refine og_getR (t := 0) OX3 X hq hH 2 (by decide) rfl kF_X3_18 (dk DX3_init_1 20 rfl) ?_
                refine lv_iload_n X.x X.b (dk DX3_init_1 21 rfl) rfl (lv_at hl 2 rfl) ?_
                refine lv_iload X.x X.b (dk DX3_init_1 22 rfl) (lv_at hl 3 rfl) ?_
                refine lv_if_eq (tgt := 153) X.x X.b (dk DX3_init_1 23 rfl) (by decide) (fun c365 => ?_) (fun c365 => ?_)
                · replace hF := if_t hF c365
                  refine lv_iconst (v := (-1)) X.x X.b (dk DX3_init_1 26 rfl) (by decide) ?_
                  obtain ⟨c366, hF⟩ := gd hF
                  refine og_iast X hq hH 2 (by decide) rfl (inb_in c366) (dk DX3_init_1 27 rfl) (fun H locs hH => ?_)
                  obtain ⟨t367, e368⟩ : ∃ y, y = oA s_t 2 (upd (s_t.2.2.1 2) (b3 : Int32).toNatClampNeg ((-1))) := ⟨_, rfl⟩
                  rw [← e368] at hH
                  replace hF := bnd_e hF e368
                  refine lv_iload X.x X.b (dk DX3_init_1 28 rfl) (lv_at hl 3 rfl) ?_
                  refine lv_if_eq (tgt := 176) X.x X.b (dk DX3_init_1 29 rfl) (by decide) (fun c369 => ?_) (fun c369 => ?_)
                  · replace hF := if_t hF c369
                    obtain ⟨v370, e371⟩ : ∃ y : Int32, y = b3 + 1 := ⟨_, rfl⟩
                    replace hF := bnd_e hF e371
                    refine lv_iinc (v := v370) (lv' := [(3, .int v370), (0, .ref (q 3)), (2, .int b2), (4, .int 0)]) X.x X.b (dk DX3_init_1 39 rfl) hl (k := 2) rfl (by rw [e371]; rfl) (by decide) rfl (fun ls hl => ?_)
                    replace hl : lv_has ls 5 [(0, .ref (q 3)), (2, .int b2), (3, .int v370)] := lv_sub hl [1, 2, 0] rfl
                    refine lv_goto (tgt := 86) X.x X.b (dk DX3_init_1 40 rfl) (by decide) ?_
                    exact (lp_l hF hx) _ _ _ hH (lv_sub hl [0, 1, 2] rfl) K0
                  · replace hF := if_f hF c369
                    refine lv_iload_n X.x X.b (dk DX3_init_1 30 rfl) rfl (lv_at hl 1 rfl) ?_
                    refine lv_bipush (v := 40) X.x X.b (dk DX3_init_1 31 rfl) (by decide) ?_
                    refine lv_icmp_ge (tgt := 176) X.x X.b (dk DX3_init_1 32 rfl) (by decide) (fun c372 => ?_) (fun c372 => ?_)
                    · replace hF := if_t hF c372
                      obtain ⟨v373, e374⟩ : ∃ y : Int32, y = b3 + 1 := ⟨_, rfl⟩
                      replace hF := bnd_e hF e374
                      refine lv_iinc (v := v373) (lv' := [(3, .int v373), (0, .ref (q 3)), (2, .int b2), (4, .int 0)]) X.x X.b (dk DX3_init_1 39 rfl) hl (k := 2) rfl (by rw [e374]; rfl) (by decide) rfl (fun ls hl => ?_)
                      replace hl : lv_has ls 5 [(0, .ref (q 3)), (2, .int b2), (3, .int v373)] := lv_sub hl [1, 2, 0] rfl
                      refine lv_goto (tgt := 86) X.x X.b (dk DX3_init_1 40 rfl) (by decide) ?_
                      exact (lp_l hF hx) _ _ _ hH (lv_sub hl [0, 1, 2] rfl) K0
                    · replace hF := if_f hF c372
                      refine lv_aload_n X.x X.b (dk DX3_init_1 33 rfl) rfl (lv_at hl 0 rfl) ?_
                      refine og_getR (t := 0) OX3 X hq hH 1 (by decide) rfl kF_X3_15 (dk DX3_init_1 34 rfl) ?_
                      refine lv_iload_n X.x X.b (dk DX3_init_1 35 rfl) rfl (lv_at hl 1 rfl) ?_
                      refine lv_iload_n X.x X.b (dk DX3_init_1 36 rfl) rfl (lv_at hl 2 rfl) ?_
                      obtain ⟨c375, hF⟩ := gd hF
                      refine og_iast X hq hH 1 (by decide) rfl (inb_in c375) (dk DX3_init_1 37 rfl) (fun H locs hH => ?_)
                      obtain ⟨t376, e377⟩ : ∃ y, y = oA t367 1 (upd (t367.2.2.1 1) (b2 : Int32).toNatClampNeg b3) := ⟨_, rfl⟩
                      rw [← e377] at hH
                      replace hF := bnd_e hF e377
                      obtain ⟨v378, e379⟩ : ∃ y : Int32, y = b2 + 1 := ⟨_, rfl⟩
                      replace hF := bnd_e hF e379
                      refine lv_iinc (v := v378) (lv' := [(2, .int v378), (0, .ref (q 3)), (3, .int b3), (4, .int 0)]) X.x X.b (dk DX3_init_1 38 rfl) hl (k := 1) rfl (by rw [e379]; rfl) (by decide) rfl (fun ls hl => ?_)
                      replace hl : lv_has ls 5 [(0, .ref (q 3)), (2, .int v378), (3, .int b3)] := lv_sub hl [1, 0, 2] rfl
                      obtain ⟨v380, e381⟩ : ∃ y : Int32, y = b3 + 1 := ⟨_, rfl⟩
                      replace hF := bnd_e hF e381
                      refine lv_iinc (v := v380) (lv' := [(3, .int v380), (0, .ref (q 3)), (2, .int v378)]) X.x X.b (dk DX3_init_1 39 rfl) hl (k := 2) rfl (by rw [e381]; rfl) (by decide) rfl (fun ls hl => ?_)
                      replace hl : lv_has ls 5 [(0, .ref (q 3)), (2, .int v378), (3, .int v380)] := lv_sub hl [1, 2, 0] rfl
                      refine lv_goto (tgt := 86) X.x X.b (dk DX3_init_1 40 rfl) (by decide) ?_
                      exact (lp_l hF hx) _ _ _ hH (lv_sub hl [0, 1, 2] rfl) K0
                · replace hF := if_f hF c365
                  refine lv_iload_n X.x X.b (dk DX3_init_1 24 rfl) rfl (lv_at hl 1 rfl) ?_
                  refine lv_goto (tgt := 154) X.x X.b (dk DX3_init_1 25 rfl) (by decide) ?_
                  obtain ⟨c382, hF⟩ := gd hF
                  refine og_iast X hq hH 2 (by decide) rfl (inb_in c382) (dk DX3_init_1 27 rfl) (fun H locs hH => ?_)
                  obtain ⟨t383, e384⟩ : ∃ y, y = oA s_t 2 (upd (s_t.2.2.1 2) (b3 : Int32).toNatClampNeg b2) := ⟨_, rfl⟩
                  rw [← e384] at hH
                  replace hF := bnd_e hF e384
                  refine lv_iload X.x X.b (dk DX3_init_1 28 rfl) (lv_at hl 3 rfl) ?_
                  refine lv_if_eq (tgt := 176) X.x X.b (dk DX3_init_1 29 rfl) (by decide) (fun c385 => ?_) (fun c385 => ?_)
                  · replace hF := if_t hF c385
                    obtain ⟨v386, e387⟩ : ∃ y : Int32, y = b3 + 1 := ⟨_, rfl⟩
                    replace hF := bnd_e hF e387
                    refine lv_iinc (v := v386) (lv' := [(3, .int v386), (0, .ref (q 3)), (2, .int b2), (4, .int 0)]) X.x X.b (dk DX3_init_1 39 rfl) hl (k := 2) rfl (by rw [e387]; rfl) (by decide) rfl (fun ls hl => ?_)
                    replace hl : lv_has ls 5 [(0, .ref (q 3)), (2, .int b2), (3, .int v386)] := lv_sub hl [1, 2, 0] rfl
                    refine lv_goto (tgt := 86) X.x X.b (dk DX3_init_1 40 rfl) (by decide) ?_
                    exact (lp_l hF hx) _ _ _ hH (lv_sub hl [0, 1, 2] rfl) K0
                  · replace hF := if_f hF c385
                    refine lv_iload_n X.x X.b (dk DX3_init_1 30 rfl) rfl (lv_at hl 1 rfl) ?_
                    refine lv_bipush (v := 40) X.x X.b (dk DX3_init_1 31 rfl) (by decide) ?_
                    refine lv_icmp_ge (tgt := 176) X.x X.b (dk DX3_init_1 32 rfl) (by decide) (fun c388 => ?_) (fun c388 => ?_)
                    · replace hF := if_t hF c388
                      obtain ⟨v389, e390⟩ : ∃ y : Int32, y = b3 + 1 := ⟨_, rfl⟩
                      replace hF := bnd_e hF e390
                      refine lv_iinc (v := v389) (lv' := [(3, .int v389), (0, .ref (q 3)), (2, .int b2), (4, .int 0)]) X.x X.b (dk DX3_init_1 39 rfl) hl (k := 2) rfl (by rw [e390]; rfl) (by decide) rfl (fun ls hl => ?_)
                      replace hl : lv_has ls 5 [(0, .ref (q 3)), (2, .int b2), (3, .int v389)] := lv_sub hl [1, 2, 0] rfl
                      refine lv_goto (tgt := 86) X.x X.b (dk DX3_init_1 40 rfl) (by decide) ?_
                      exact (lp_l hF hx) _ _ _ hH (lv_sub hl [0, 1, 2] rfl) K0
                    · replace hF := if_f hF c388
                      refine lv_aload_n X.x X.b (dk DX3_init_1 33 rfl) rfl (lv_at hl 0 rfl) ?_
                      refine og_getR (t := 0) OX3 X hq hH 1 (by decide) rfl kF_X3_15 (dk DX3_init_1 34 rfl) ?_
                      refine lv_iload_n X.x X.b (dk DX3_init_1 35 rfl) rfl (lv_at hl 1 rfl) ?_
                      refine lv_iload_n X.x X.b (dk DX3_init_1 36 rfl) rfl (lv_at hl 2 rfl) ?_
                      obtain ⟨c391, hF⟩ := gd hF
                      refine og_iast X hq hH 1 (by decide) rfl (inb_in c391) (dk DX3_init_1 37 rfl) (fun H locs hH => ?_)
                      obtain ⟨t392, e393⟩ : ∃ y, y = oA t383 1 (upd (t383.2.2.1 1) (b2 : Int32).toNatClampNeg b3) := ⟨_, rfl⟩
                      rw [← e393] at hH
                      replace hF := bnd_e hF e393
                      obtain ⟨v394, e395⟩ : ∃ y : Int32, y = b2 + 1 := ⟨_, rfl⟩
                      replace hF := bnd_e hF e395
                      refine lv_iinc (v := v394) (lv' := [(2, .int v394), (0, .ref (q 3)), (3, .int b3), (4, .int 0)]) X.x X.b (dk DX3_init_1 38 rfl) hl (k := 1) rfl (by rw [e395]; rfl) (by decide) rfl (fun ls hl => ?_)
                      replace hl : lv_has ls 5 [(0, .ref (q 3)), (2, .int v394), (3, .int b3)] := lv_sub hl [1, 0, 2] rfl
                      obtain ⟨v396, e397⟩ : ∃ y : Int32, y = b3 + 1 := ⟨_, rfl⟩
                      replace hF := bnd_e hF e397
                      refine lv_iinc (v := v396) (lv' := [(3, .int v396), (0, .ref (q 3)), (2, .int v394)]) X.x X.b (dk DX3_init_1 39 rfl) hl (k := 2) rfl (by rw [e397]; rfl) (by decide) rfl (fun ls hl => ?_)
                      replace hl : lv_has ls 5 [(0, .ref (q 3)), (2, .int v394), (3, .int v396)] := lv_sub hl [1, 2, 0] rfl
                      refine lv_goto (tgt := 86) X.x X.b (dk DX3_init_1 40 rfl) (by decide) ?_
                      exact (lp_l hF hx) _ _ _ hH (lv_sub hl [0, 1, 2] rfl) K0
              · replace hF := if_f hF c364
                refine lv_iconst (v := 1) X.x X.b (dk DX3_init_1 15 rfl) (by decide) ?_
                refine lv_goto (tgt := 137) X.x X.b (dk DX3_init_1 16 rfl) (by decide) ?_
                refine lv_istore (lv' := [(4, .int 1), (0, .ref (q 3)), (2, .int b2), (3, .int b3)]) X.x X.b (dk DX3_init_1 18 rfl) hl (by decide) rfl (fun ls hl => ?_)
                replace hl : lv_has ls 5 [(0, .ref (q 3)), (2, .int b2), (3, .int b3), (4, .int 1)] := lv_sub hl [1, 2, 3, 0] rfl
                refine lv_aload_n X.x X.b (dk DX3_init_1 19 rfl) rfl (lv_at hl 0 rfl) ?_
                refine og_getR (t := 0) OX3 X hq hH 2 (by decide) rfl kF_X3_18 (dk DX3_init_1 20 rfl) ?_
                refine lv_iload_n X.x X.b (dk DX3_init_1 21 rfl) rfl (lv_at hl 2 rfl) ?_
                refine lv_iload X.x X.b (dk DX3_init_1 22 rfl) (lv_at hl 3 rfl) ?_
                refine lv_if_eq (tgt := 153) X.x X.b (dk DX3_init_1 23 rfl) (by decide) (fun c398 => ?_) (fun c398 => ?_)
                · replace hF := if_t hF c398
                  refine lv_iconst (v := (-1)) X.x X.b (dk DX3_init_1 26 rfl) (by decide) ?_
                  obtain ⟨c399, hF⟩ := gd hF
                  refine og_iast X hq hH 2 (by decide) rfl (inb_in c399) (dk DX3_init_1 27 rfl) (fun H locs hH => ?_)
                  obtain ⟨t400, e401⟩ : ∃ y, y = oA s_t 2 (upd (s_t.2.2.1 2) (b3 : Int32).toNatClampNeg ((-1))) := ⟨_, rfl⟩
                  rw [← e401] at hH
                  replace hF := bnd_e hF e401
                  refine lv_iload X.x X.b (dk DX3_init_1 28 rfl) (lv_at hl 3 rfl) ?_
                  refine lv_if_eq (tgt := 176) X.x X.b (dk DX3_init_1 29 rfl) (by decide) (fun c402 => ?_) (fun c402 => ?_)
                  · replace hF := if_t hF c402
                    obtain ⟨v403, e404⟩ : ∃ y : Int32, y = b3 + 1 := ⟨_, rfl⟩
                    replace hF := bnd_e hF e404
                    refine lv_iinc (v := v403) (lv' := [(3, .int v403), (0, .ref (q 3)), (2, .int b2), (4, .int 1)]) X.x X.b (dk DX3_init_1 39 rfl) hl (k := 2) rfl (by rw [e404]; rfl) (by decide) rfl (fun ls hl => ?_)
                    replace hl : lv_has ls 5 [(0, .ref (q 3)), (2, .int b2), (3, .int v403)] := lv_sub hl [1, 2, 0] rfl
                    refine lv_goto (tgt := 86) X.x X.b (dk DX3_init_1 40 rfl) (by decide) ?_
                    exact (lp_l hF hx) _ _ _ hH (lv_sub hl [0, 1, 2] rfl) K0
                  · replace hF := if_f hF c402
                    refine lv_iload_n X.x X.b (dk DX3_init_1 30 rfl) rfl (lv_at hl 1 rfl) ?_
                    refine lv_bipush (v := 40) X.x X.b (dk DX3_init_1 31 rfl) (by decide) ?_
                    refine lv_icmp_ge (tgt := 176) X.x X.b (dk DX3_init_1 32 rfl) (by decide) (fun c405 => ?_) (fun c405 => ?_)
                    · replace hF := if_t hF c405
                      obtain ⟨v406, e407⟩ : ∃ y : Int32, y = b3 + 1 := ⟨_, rfl⟩
                      replace hF := bnd_e hF e407
                      refine lv_iinc (v := v406) (lv' := [(3, .int v406), (0, .ref (q 3)), (2, .int b2), (4, .int 1)]) X.x X.b (dk DX3_init_1 39 rfl) hl (k := 2) rfl (by rw [e407]; rfl) (by decide) rfl (fun ls hl => ?_)
                      replace hl : lv_has ls 5 [(0, .ref (q 3)), (2, .int b2), (3, .int v406)] := lv_sub hl [1, 2, 0] rfl
                      refine lv_goto (tgt := 86) X.x X.b (dk DX3_init_1 40 rfl) (by decide) ?_
                      exact (lp_l hF hx) _ _ _ hH (lv_sub hl [0, 1, 2] rfl) K0
                    · replace hF := if_f hF c405
                      refine lv_aload_n X.x X.b (dk DX3_init_1 33 rfl) rfl (lv_at hl 0 rfl) ?_
                      refine og_getR (t := 0) OX3 X hq hH 1 (by decide) rfl kF_X3_15 (dk DX3_init_1 34 rfl) ?_
                      refine lv_iload_n X.x X.b (dk DX3_init_1 35 rfl) rfl (lv_at hl 1 rfl) ?_
                      refine lv_iload_n X.x X.b (dk DX3_init_1 36 rfl) rfl (lv_at hl 2 rfl) ?_
                      obtain ⟨c408, hF⟩ := gd hF
                      refine og_iast X hq hH 1 (by decide) rfl (inb_in c408) (dk DX3_init_1 37 rfl) (fun H locs hH => ?_)
                      obtain ⟨t409, e410⟩ : ∃ y, y = oA t400 1 (upd (t400.2.2.1 1) (b2 : Int32).toNatClampNeg b3) := ⟨_, rfl⟩
                      rw [← e410] at hH
                      replace hF := bnd_e hF e410
                      obtain ⟨v411, e412⟩ : ∃ y : Int32, y = b2 + 1 := ⟨_, rfl⟩
                      replace hF := bnd_e hF e412
                      refine lv_iinc (v := v411) (lv' := [(2, .int v411), (0, .ref (q 3)), (3, .int b3), (4, .int 1)]) X.x X.b (dk DX3_init_1 38 rfl) hl (k := 1) rfl (by rw [e412]; rfl) (by decide) rfl (fun ls hl => ?_)
                      replace hl : lv_has ls 5 [(0, .ref (q 3)), (2, .int v411), (3, .int b3)] := lv_sub hl [1, 0, 2] rfl
                      obtain ⟨v413, e414⟩ : ∃ y : Int32, y = b3 + 1 := ⟨_, rfl⟩
                      replace hF := bnd_e hF e414
                      refine lv_iinc (v := v413) (lv' := [(3, .int v413), (0, .ref (q 3)), (2, .int v411)]) X.x X.b (dk DX3_init_1 39 rfl) hl (k := 2) rfl (by rw [e414]; rfl) (by decide) rfl (fun ls hl => ?_)
                      replace hl : lv_has ls 5 [(0, .ref (q 3)), (2, .int v411), (3, .int v413)] := lv_sub hl [1, 2, 0] rfl
                      refine lv_goto (tgt := 86) X.x X.b (dk DX3_init_1 40 rfl) (by decide) ?_
                      exact (lp_l hF hx) _ _ _ hH (lv_sub hl [0, 1, 2] rfl) K0
                · replace hF := if_f hF c398
                  refine lv_iload_n X.x X.b (dk DX3_init_1 24 rfl) rfl (lv_at hl 1 rfl) ?_
                  refine lv_goto (tgt := 154) X.x X.b (dk DX3_init_1 25 rfl) (by decide) ?_
                  obtain ⟨c415, hF⟩ := gd hF
                  refine og_iast X hq hH 2 (by decide) rfl (inb_in c415) (dk DX3_init_1 27 rfl) (fun H locs hH => ?_)
                  obtain ⟨t416, e417⟩ : ∃ y, y = oA s_t 2 (upd (s_t.2.2.1 2) (b3 : Int32).toNatClampNeg b2) := ⟨_, rfl⟩
                  rw [← e417] at hH
                  replace hF := bnd_e hF e417
                  refine lv_iload X.x X.b (dk DX3_init_1 28 rfl) (lv_at hl 3 rfl) ?_
                  refine lv_if_eq (tgt := 176) X.x X.b (dk DX3_init_1 29 rfl) (by decide) (fun c418 => ?_) (fun c418 => ?_)
                  · replace hF := if_t hF c418
                    obtain ⟨v419, e420⟩ : ∃ y : Int32, y = b3 + 1 := ⟨_, rfl⟩
                    replace hF := bnd_e hF e420
                    refine lv_iinc (v := v419) (lv' := [(3, .int v419), (0, .ref (q 3)), (2, .int b2), (4, .int 1)]) X.x X.b (dk DX3_init_1 39 rfl) hl (k := 2) rfl (by rw [e420]; rfl) (by decide) rfl (fun ls hl => ?_)
                    replace hl : lv_has ls 5 [(0, .ref (q 3)), (2, .int b2), (3, .int v419)] := lv_sub hl [1, 2, 0] rfl
                    refine lv_goto (tgt := 86) X.x X.b (dk DX3_init_1 40 rfl) (by decide) ?_
                    exact (lp_l hF hx) _ _ _ hH (lv_sub hl [0, 1, 2] rfl) K0
                  · replace hF := if_f hF c418
                    refine lv_iload_n X.x X.b (dk DX3_init_1 30 rfl) rfl (lv_at hl 1 rfl) ?_
                    refine lv_bipush (v := 40) X.x X.b (dk DX3_init_1 31 rfl) (by decide) ?_
                    refine lv_icmp_ge (tgt := 176) X.x X.b (dk DX3_init_1 32 rfl) (by decide) (fun c421 => ?_) (fun c421 => ?_)
                    · replace hF := if_t hF c421
                      obtain ⟨v422, e423⟩ : ∃ y : Int32, y = b3 + 1 := ⟨_, rfl⟩
                      replace hF := bnd_e hF e423
                      refine lv_iinc (v := v422) (lv' := [(3, .int v422), (0, .ref (q 3)), (2, .int b2), (4, .int 1)]) X.x X.b (dk DX3_init_1 39 rfl) hl (k := 2) rfl (by rw [e423]; rfl) (by decide) rfl (fun ls hl => ?_)
                      replace hl : lv_has ls 5 [(0, .ref (q 3)), (2, .int b2), (3, .int v422)] := lv_sub hl [1, 2, 0] rfl
                      refine lv_goto (tgt := 86) X.x X.b (dk DX3_init_1 40 rfl) (by decide) ?_
                      exact (lp_l hF hx) _ _ _ hH (lv_sub hl [0, 1, 2] rfl) K0
                    · replace hF := if_f hF c421
                      refine lv_aload_n X.x X.b (dk DX3_init_1 33 rfl) rfl (lv_at hl 0 rfl) ?_
                      refine og_getR (t := 0) OX3 X hq hH 1 (by decide) rfl kF_X3_15 (dk DX3_init_1 34 rfl) ?_
                      refine lv_iload_n X.x X.b (dk DX3_init_1 35 rfl) rfl (lv_at hl 1 rfl) ?_
                      refine lv_iload_n X.x X.b (dk DX3_init_1 36 rfl) rfl (lv_at hl 2 rfl) ?_
                      obtain ⟨c424, hF⟩ := gd hF
                      refine og_iast X hq hH 1 (by decide) rfl (inb_in c424) (dk DX3_init_1 37 rfl) (fun H locs hH => ?_)
                      obtain ⟨t425, e426⟩ : ∃ y, y = oA t416 1 (upd (t416.2.2.1 1) (b2 : Int32).toNatClampNeg b3) := ⟨_, rfl⟩
                      rw [← e426] at hH
                      replace hF := bnd_e hF e426
                      obtain ⟨v427, e428⟩ : ∃ y : Int32, y = b2 + 1 := ⟨_, rfl⟩
                      replace hF := bnd_e hF e428
                      refine lv_iinc (v := v427) (lv' := [(2, .int v427), (0, .ref (q 3)), (3, .int b3), (4, .int 1)]) X.x X.b (dk DX3_init_1 38 rfl) hl (k := 1) rfl (by rw [e428]; rfl) (by decide) rfl (fun ls hl => ?_)
                      replace hl : lv_has ls 5 [(0, .ref (q 3)), (2, .int v427), (3, .int b3)] := lv_sub hl [1, 0, 2] rfl
                      obtain ⟨v429, e430⟩ : ∃ y : Int32, y = b3 + 1 := ⟨_, rfl⟩
                      replace hF := bnd_e hF e430
                      refine lv_iinc (v := v429) (lv' := [(3, .int v429), (0, .ref (q 3)), (2, .int v427)]) X.x X.b (dk DX3_init_1 39 rfl) hl (k := 2) rfl (by rw [e430]; rfl) (by decide) rfl (fun ls hl => ?_)
                      replace hl : lv_has ls 5 [(0, .ref (q 3)), (2, .int v427), (3, .int v429)] := lv_sub hl [1, 2, 0] rfl
                      refine lv_goto (tgt := 86) X.x X.b (dk DX3_init_1 40 rfl) (by decide) ?_
                      exact (lp_l hF hx) _ _ _ hH (lv_sub hl [0, 1, 2] rfl) K0
          · replace hF := if_f hF c329
            refine lv_iload_n X.x X.b (dk DX3_init_1 6 rfl) rfl (lv_at hl 2 rfl) ?_
            refine lv_bipush (v := 18) X.x X.b (dk DX3_init_1 7 rfl) (by decide) ?_
            refine lv_icmp_lt (tgt := 132) X.x X.b (dk DX3_init_1 8 rfl) (by decide) (fun c431 => ?_) (fun c431 => ?_)
            · replace hF := if_t hF c431
              refine lv_iconst (v := 1) X.x X.b (dk DX3_init_1 15 rfl) (by decide) ?_
              refine lv_goto (tgt := 137) X.x X.b (dk DX3_init_1 16 rfl) (by decide) ?_
              refine lv_istore (lv' := [(4, .int 1), (0, .ref (q 3)), (2, .int b2), (3, .int b3)]) X.x X.b (dk DX3_init_1 18 rfl) hl (by decide) rfl (fun ls hl => ?_)
              replace hl : lv_has ls 5 [(0, .ref (q 3)), (2, .int b2), (3, .int b3), (4, .int 1)] := lv_sub hl [1, 2, 3, 0] rfl
              refine lv_aload_n X.x X.b (dk DX3_init_1 19 rfl) rfl (lv_at hl 0 rfl) ?_
              refine og_getR (t := 0) OX3 X hq hH 2 (by decide) rfl kF_X3_18 (dk DX3_init_1 20 rfl) ?_
              refine lv_iload_n X.x X.b (dk DX3_init_1 21 rfl) rfl (lv_at hl 2 rfl) ?_
              refine lv_iload X.x X.b (dk DX3_init_1 22 rfl) (lv_at hl 3 rfl) ?_
              refine lv_if_eq (tgt := 153) X.x X.b (dk DX3_init_1 23 rfl) (by decide) (fun c432 => ?_) (fun c432 => ?_)
              · replace hF := if_t hF c432
                refine lv_iconst (v := (-1)) X.x X.b (dk DX3_init_1 26 rfl) (by decide) ?_
                obtain ⟨c433, hF⟩ := gd hF
                refine og_iast X hq hH 2 (by decide) rfl (inb_in c433) (dk DX3_init_1 27 rfl) (fun H locs hH => ?_)
                obtain ⟨t434, e435⟩ : ∃ y, y = oA s_t 2 (upd (s_t.2.2.1 2) (b3 : Int32).toNatClampNeg ((-1))) := ⟨_, rfl⟩
                rw [← e435] at hH
                replace hF := bnd_e hF e435
                refine lv_iload X.x X.b (dk DX3_init_1 28 rfl) (lv_at hl 3 rfl) ?_
                refine lv_if_eq (tgt := 176) X.x X.b (dk DX3_init_1 29 rfl) (by decide) (fun c436 => ?_) (fun c436 => ?_)
                · replace hF := if_t hF c436
                  obtain ⟨v437, e438⟩ : ∃ y : Int32, y = b3 + 1 := ⟨_, rfl⟩
                  replace hF := bnd_e hF e438
                  refine lv_iinc (v := v437) (lv' := [(3, .int v437), (0, .ref (q 3)), (2, .int b2), (4, .int 1)]) X.x X.b (dk DX3_init_1 39 rfl) hl (k := 2) rfl (by rw [e438]; rfl) (by decide) rfl (fun ls hl => ?_)
                  replace hl : lv_has ls 5 [(0, .ref (q 3)), (2, .int b2), (3, .int v437)] := lv_sub hl [1, 2, 0] rfl
                  refine lv_goto (tgt := 86) X.x X.b (dk DX3_init_1 40 rfl) (by decide) ?_
                  exact (lp_l hF hx) _ _ _ hH (lv_sub hl [0, 1, 2] rfl) K0
                · replace hF := if_f hF c436
                  refine lv_iload_n X.x X.b (dk DX3_init_1 30 rfl) rfl (lv_at hl 1 rfl) ?_
                  refine lv_bipush (v := 40) X.x X.b (dk DX3_init_1 31 rfl) (by decide) ?_
                  refine lv_icmp_ge (tgt := 176) X.x X.b (dk DX3_init_1 32 rfl) (by decide) (fun c439 => ?_) (fun c439 => ?_)
                  · replace hF := if_t hF c439
                    obtain ⟨v440, e441⟩ : ∃ y : Int32, y = b3 + 1 := ⟨_, rfl⟩
                    replace hF := bnd_e hF e441
                    refine lv_iinc (v := v440) (lv' := [(3, .int v440), (0, .ref (q 3)), (2, .int b2), (4, .int 1)]) X.x X.b (dk DX3_init_1 39 rfl) hl (k := 2) rfl (by rw [e441]; rfl) (by decide) rfl (fun ls hl => ?_)
                    replace hl : lv_has ls 5 [(0, .ref (q 3)), (2, .int b2), (3, .int v440)] := lv_sub hl [1, 2, 0] rfl
                    refine lv_goto (tgt := 86) X.x X.b (dk DX3_init_1 40 rfl) (by decide) ?_
                    exact (lp_l hF hx) _ _ _ hH (lv_sub hl [0, 1, 2] rfl) K0
                  · replace hF := if_f hF c439
                    refine lv_aload_n X.x X.b (dk DX3_init_1 33 rfl) rfl (lv_at hl 0 rfl) ?_
                    refine og_getR (t := 0) OX3 X hq hH 1 (by decide) rfl kF_X3_15 (dk DX3_init_1 34 rfl) ?_
                    refine lv_iload_n X.x X.b (dk DX3_init_1 35 rfl) rfl (lv_at hl 1 rfl) ?_
                    refine lv_iload_n X.x X.b (dk DX3_init_1 36 rfl) rfl (lv_at hl 2 rfl) ?_
                    obtain ⟨c442, hF⟩ := gd hF
                    refine og_iast X hq hH 1 (by decide) rfl (inb_in c442) (dk DX3_init_1 37 rfl) (fun H locs hH => ?_)
                    obtain ⟨t443, e444⟩ : ∃ y, y = oA t434 1 (upd (t434.2.2.1 1) (b2 : Int32).toNatClampNeg b3) := ⟨_, rfl⟩
                    rw [← e444] at hH
                    replace hF := bnd_e hF e444
                    obtain ⟨v445, e446⟩ : ∃ y : Int32, y = b2 + 1 := ⟨_, rfl⟩
                    replace hF := bnd_e hF e446
                    refine lv_iinc (v := v445) (lv' := [(2, .int v445), (0, .ref (q 3)), (3, .int b3), (4, .int 1)]) X.x X.b (dk DX3_init_1 38 rfl) hl (k := 1) rfl (by rw [e446]; rfl) (by decide) rfl (fun ls hl => ?_)
                    replace hl : lv_has ls 5 [(0, .ref (q 3)), (2, .int v445), (3, .int b3)] := lv_sub hl [1, 0, 2] rfl
                    obtain ⟨v447, e448⟩ : ∃ y : Int32, y = b3 + 1 := ⟨_, rfl⟩
                    replace hF := bnd_e hF e448
                    refine lv_iinc (v := v447) (lv' := [(3, .int v447), (0, .ref (q 3)), (2, .int v445)]) X.x X.b (dk DX3_init_1 39 rfl) hl (k := 2) rfl (by rw [e448]; rfl) (by decide) rfl (fun ls hl => ?_)
                    replace hl : lv_has ls 5 [(0, .ref (q 3)), (2, .int v445), (3, .int v447)] := lv_sub hl [1, 2, 0] rfl
                    refine lv_goto (tgt := 86) X.x X.b (dk DX3_init_1 40 rfl) (by decide) ?_
                    exact (lp_l hF hx) _ _ _ hH (lv_sub hl [0, 1, 2] rfl) K0
              · replace hF := if_f hF c432
                refine lv_iload_n X.x X.b (dk DX3_init_1 24 rfl) rfl (lv_at hl 1 rfl) ?_
                refine lv_goto (tgt := 154) X.x X.b (dk DX3_init_1 25 rfl) (by decide) ?_
                obtain ⟨c449, hF⟩ := gd hF
                refine og_iast X hq hH 2 (by decide) rfl (inb_in c449) (dk DX3_init_1 27 rfl) (fun H locs hH => ?_)
                obtain ⟨t450, e451⟩ : ∃ y, y = oA s_t 2 (upd (s_t.2.2.1 2) (b3 : Int32).toNatClampNeg b2) := ⟨_, rfl⟩
                rw [← e451] at hH
                replace hF := bnd_e hF e451
                refine lv_iload X.x X.b (dk DX3_init_1 28 rfl) (lv_at hl 3 rfl) ?_
                refine lv_if_eq (tgt := 176) X.x X.b (dk DX3_init_1 29 rfl) (by decide) (fun c452 => ?_) (fun c452 => ?_)
                · replace hF := if_t hF c452
                  obtain ⟨v453, e454⟩ : ∃ y : Int32, y = b3 + 1 := ⟨_, rfl⟩
                  replace hF := bnd_e hF e454
                  refine lv_iinc (v := v453) (lv' := [(3, .int v453), (0, .ref (q 3)), (2, .int b2), (4, .int 1)]) X.x X.b (dk DX3_init_1 39 rfl) hl (k := 2) rfl (by rw [e454]; rfl) (by decide) rfl (fun ls hl => ?_)
                  replace hl : lv_has ls 5 [(0, .ref (q 3)), (2, .int b2), (3, .int v453)] := lv_sub hl [1, 2, 0] rfl
                  refine lv_goto (tgt := 86) X.x X.b (dk DX3_init_1 40 rfl) (by decide) ?_
                  exact (lp_l hF hx) _ _ _ hH (lv_sub hl [0, 1, 2] rfl) K0
                · replace hF := if_f hF c452
                  refine lv_iload_n X.x X.b (dk DX3_init_1 30 rfl) rfl (lv_at hl 1 rfl) ?_
                  refine lv_bipush (v := 40) X.x X.b (dk DX3_init_1 31 rfl) (by decide) ?_
                  refine lv_icmp_ge (tgt := 176) X.x X.b (dk DX3_init_1 32 rfl) (by decide) (fun c455 => ?_) (fun c455 => ?_)
                  · replace hF := if_t hF c455
                    obtain ⟨v456, e457⟩ : ∃ y : Int32, y = b3 + 1 := ⟨_, rfl⟩
                    replace hF := bnd_e hF e457
                    refine lv_iinc (v := v456) (lv' := [(3, .int v456), (0, .ref (q 3)), (2, .int b2), (4, .int 1)]) X.x X.b (dk DX3_init_1 39 rfl) hl (k := 2) rfl (by rw [e457]; rfl) (by decide) rfl (fun ls hl => ?_)
                    replace hl : lv_has ls 5 [(0, .ref (q 3)), (2, .int b2), (3, .int v456)] := lv_sub hl [1, 2, 0] rfl
                    refine lv_goto (tgt := 86) X.x X.b (dk DX3_init_1 40 rfl) (by decide) ?_
                    exact (lp_l hF hx) _ _ _ hH (lv_sub hl [0, 1, 2] rfl) K0
                  · replace hF := if_f hF c455
                    refine lv_aload_n X.x X.b (dk DX3_init_1 33 rfl) rfl (lv_at hl 0 rfl) ?_
                    refine og_getR (t := 0) OX3 X hq hH 1 (by decide) rfl kF_X3_15 (dk DX3_init_1 34 rfl) ?_
                    refine lv_iload_n X.x X.b (dk DX3_init_1 35 rfl) rfl (lv_at hl 1 rfl) ?_
                    refine lv_iload_n X.x X.b (dk DX3_init_1 36 rfl) rfl (lv_at hl 2 rfl) ?_
                    obtain ⟨c458, hF⟩ := gd hF
                    refine og_iast X hq hH 1 (by decide) rfl (inb_in c458) (dk DX3_init_1 37 rfl) (fun H locs hH => ?_)
                    obtain ⟨t459, e460⟩ : ∃ y, y = oA t450 1 (upd (t450.2.2.1 1) (b2 : Int32).toNatClampNeg b3) := ⟨_, rfl⟩
                    rw [← e460] at hH
                    replace hF := bnd_e hF e460
                    obtain ⟨v461, e462⟩ : ∃ y : Int32, y = b2 + 1 := ⟨_, rfl⟩
                    replace hF := bnd_e hF e462
                    refine lv_iinc (v := v461) (lv' := [(2, .int v461), (0, .ref (q 3)), (3, .int b3), (4, .int 1)]) X.x X.b (dk DX3_init_1 38 rfl) hl (k := 1) rfl (by rw [e462]; rfl) (by decide) rfl (fun ls hl => ?_)
                    replace hl : lv_has ls 5 [(0, .ref (q 3)), (2, .int v461), (3, .int b3)] := lv_sub hl [1, 0, 2] rfl
                    obtain ⟨v463, e464⟩ : ∃ y : Int32, y = b3 + 1 := ⟨_, rfl⟩
                    replace hF := bnd_e hF e464
                    refine lv_iinc (v := v463) (lv' := [(3, .int v463), (0, .ref (q 3)), (2, .int v461)]) X.x X.b (dk DX3_init_1 39 rfl) hl (k := 2) rfl (by rw [e464]; rfl) (by decide) rfl (fun ls hl => ?_)
                    replace hl : lv_has ls 5 [(0, .ref (q 3)), (2, .int v461), (3, .int v463)] := lv_sub hl [1, 2, 0] rfl
                    refine lv_goto (tgt := 86) X.x X.b (dk DX3_init_1 40 rfl) (by decide) ?_
                    exact (lp_l hF hx) _ _ _ hH (lv_sub hl [0, 1, 2] rfl) K0
            · replace hF := if_f hF c431
              refine lv_iload_n X.x X.b (dk DX3_init_1 9 rfl) rfl (lv_at hl 2 rfl) ?_
              refine lv_bipush (v := 27) X.x X.b (dk DX3_init_1 10 rfl) (by decide) ?_
              refine lv_icmp_lt (tgt := 136) X.x X.b (dk DX3_init_1 11 rfl) (by decide) (fun c465 => ?_) (fun c465 => ?_)
              · replace hF := if_t hF c465
                refine lv_iconst (v := 0) X.x X.b (dk DX3_init_1 17 rfl) (by decide) ?_
                refine lv_istore (lv' := [(4, .int 0), (0, .ref (q 3)), (2, .int b2), (3, .int b3)]) X.x X.b (dk DX3_init_1 18 rfl) hl (by decide) rfl (fun ls hl => ?_)
                replace hl : lv_has ls 5 [(0, .ref (q 3)), (2, .int b2), (3, .int b3), (4, .int 0)] := lv_sub hl [1, 2, 3, 0] rfl
                refine lv_aload_n X.x X.b (dk DX3_init_1 19 rfl) rfl (lv_at hl 0 rfl) ?_
                refine og_getR (t := 0) OX3 X hq hH 2 (by decide) rfl kF_X3_18 (dk DX3_init_1 20 rfl) ?_
                refine lv_iload_n X.x X.b (dk DX3_init_1 21 rfl) rfl (lv_at hl 2 rfl) ?_
                refine lv_iload X.x X.b (dk DX3_init_1 22 rfl) (lv_at hl 3 rfl) ?_
                refine lv_if_eq (tgt := 153) X.x X.b (dk DX3_init_1 23 rfl) (by decide) (fun c466 => ?_) (fun c466 => ?_)
                · replace hF := if_t hF c466
                  refine lv_iconst (v := (-1)) X.x X.b (dk DX3_init_1 26 rfl) (by decide) ?_
                  obtain ⟨c467, hF⟩ := gd hF
                  refine og_iast X hq hH 2 (by decide) rfl (inb_in c467) (dk DX3_init_1 27 rfl) (fun H locs hH => ?_)
                  obtain ⟨t468, e469⟩ : ∃ y, y = oA s_t 2 (upd (s_t.2.2.1 2) (b3 : Int32).toNatClampNeg ((-1))) := ⟨_, rfl⟩
                  rw [← e469] at hH
                  replace hF := bnd_e hF e469
                  refine lv_iload X.x X.b (dk DX3_init_1 28 rfl) (lv_at hl 3 rfl) ?_
                  refine lv_if_eq (tgt := 176) X.x X.b (dk DX3_init_1 29 rfl) (by decide) (fun c470 => ?_) (fun c470 => ?_)
                  · replace hF := if_t hF c470
                    obtain ⟨v471, e472⟩ : ∃ y : Int32, y = b3 + 1 := ⟨_, rfl⟩
                    replace hF := bnd_e hF e472
                    refine lv_iinc (v := v471) (lv' := [(3, .int v471), (0, .ref (q 3)), (2, .int b2), (4, .int 0)]) X.x X.b (dk DX3_init_1 39 rfl) hl (k := 2) rfl (by rw [e472]; rfl) (by decide) rfl (fun ls hl => ?_)
                    replace hl : lv_has ls 5 [(0, .ref (q 3)), (2, .int b2), (3, .int v471)] := lv_sub hl [1, 2, 0] rfl
                    refine lv_goto (tgt := 86) X.x X.b (dk DX3_init_1 40 rfl) (by decide) ?_
                    exact (lp_l hF hx) _ _ _ hH (lv_sub hl [0, 1, 2] rfl) K0
                  · replace hF := if_f hF c470
                    refine lv_iload_n X.x X.b (dk DX3_init_1 30 rfl) rfl (lv_at hl 1 rfl) ?_
                    refine lv_bipush (v := 40) X.x X.b (dk DX3_init_1 31 rfl) (by decide) ?_
                    refine lv_icmp_ge (tgt := 176) X.x X.b (dk DX3_init_1 32 rfl) (by decide) (fun c473 => ?_) (fun c473 => ?_)
                    · replace hF := if_t hF c473
                      obtain ⟨v474, e475⟩ : ∃ y : Int32, y = b3 + 1 := ⟨_, rfl⟩
                      replace hF := bnd_e hF e475
                      refine lv_iinc (v := v474) (lv' := [(3, .int v474), (0, .ref (q 3)), (2, .int b2), (4, .int 0)]) X.x X.b (dk DX3_init_1 39 rfl) hl (k := 2) rfl (by rw [e475]; rfl) (by decide) rfl (fun ls hl => ?_)
                      replace hl : lv_has ls 5 [(0, .ref (q 3)), (2, .int b2), (3, .int v474)] := lv_sub hl [1, 2, 0] rfl
                      refine lv_goto (tgt := 86) X.x X.b (dk DX3_init_1 40 rfl) (by decide) ?_
                      exact (lp_l hF hx) _ _ _ hH (lv_sub hl [0, 1, 2] rfl) K0
                    · replace hF := if_f hF c473
                      refine lv_aload_n X.x X.b (dk DX3_init_1 33 rfl) rfl (lv_at hl 0 rfl) ?_
                      refine og_getR (t := 0) OX3 X hq hH 1 (by decide) rfl kF_X3_15 (dk DX3_init_1 34 rfl) ?_
                      refine lv_iload_n X.x X.b (dk DX3_init_1 35 rfl) rfl (lv_at hl 1 rfl) ?_
                      refine lv_iload_n X.x X.b (dk DX3_init_1 36 rfl) rfl (lv_at hl 2 rfl) ?_
                      obtain ⟨c476, hF⟩ := gd hF
                      refine og_iast X hq hH 1 (by decide) rfl (inb_in c476) (dk DX3_init_1 37 rfl) (fun H locs hH => ?_)
                      obtain ⟨t477, e478⟩ : ∃ y, y = oA t468 1 (upd (t468.2.2.1 1) (b2 : Int32).toNatClampNeg b3) := ⟨_, rfl⟩
                      rw [← e478] at hH
                      replace hF := bnd_e hF e478
                      obtain ⟨v479, e480⟩ : ∃ y : Int32, y = b2 + 1 := ⟨_, rfl⟩
                      replace hF := bnd_e hF e480
                      refine lv_iinc (v := v479) (lv' := [(2, .int v479), (0, .ref (q 3)), (3, .int b3), (4, .int 0)]) X.x X.b (dk DX3_init_1 38 rfl) hl (k := 1) rfl (by rw [e480]; rfl) (by decide) rfl (fun ls hl => ?_)
                      replace hl : lv_has ls 5 [(0, .ref (q 3)), (2, .int v479), (3, .int b3)] := lv_sub hl [1, 0, 2] rfl
                      obtain ⟨v481, e482⟩ : ∃ y : Int32, y = b3 + 1 := ⟨_, rfl⟩
                      replace hF := bnd_e hF e482
                      refine lv_iinc (v := v481) (lv' := [(3, .int v481), (0, .ref (q 3)), (2, .int v479)]) X.x X.b (dk DX3_init_1 39 rfl) hl (k := 2) rfl (by rw [e482]; rfl) (by decide) rfl (fun ls hl => ?_)
                      replace hl : lv_has ls 5 [(0, .ref (q 3)), (2, .int v479), (3, .int v481)] := lv_sub hl [1, 2, 0] rfl
                      refine lv_goto (tgt := 86) X.x X.b (dk DX3_init_1 40 rfl) (by decide) ?_
                      exact (lp_l hF hx) _ _ _ hH (lv_sub hl [0, 1, 2] rfl) K0
                · replace hF := if_f hF c466
                  refine lv_iload_n X.x X.b (dk DX3_init_1 24 rfl) rfl (lv_at hl 1 rfl) ?_
                  refine lv_goto (tgt := 154) X.x X.b (dk DX3_init_1 25 rfl) (by decide) ?_
                  obtain ⟨c483, hF⟩ := gd hF
                  refine og_iast X hq hH 2 (by decide) rfl (inb_in c483) (dk DX3_init_1 27 rfl) (fun H locs hH => ?_)
                  obtain ⟨t484, e485⟩ : ∃ y, y = oA s_t 2 (upd (s_t.2.2.1 2) (b3 : Int32).toNatClampNeg b2) := ⟨_, rfl⟩
                  rw [← e485] at hH
                  replace hF := bnd_e hF e485
                  refine lv_iload X.x X.b (dk DX3_init_1 28 rfl) (lv_at hl 3 rfl) ?_
                  refine lv_if_eq (tgt := 176) X.x X.b (dk DX3_init_1 29 rfl) (by decide) (fun c486 => ?_) (fun c486 => ?_)
                  · replace hF := if_t hF c486
                    obtain ⟨v487, e488⟩ : ∃ y : Int32, y = b3 + 1 := ⟨_, rfl⟩
                    replace hF := bnd_e hF e488
                    refine lv_iinc (v := v487) (lv' := [(3, .int v487), (0, .ref (q 3)), (2, .int b2), (4, .int 0)]) X.x X.b (dk DX3_init_1 39 rfl) hl (k := 2) rfl (by rw [e488]; rfl) (by decide) rfl (fun ls hl => ?_)
                    replace hl : lv_has ls 5 [(0, .ref (q 3)), (2, .int b2), (3, .int v487)] := lv_sub hl [1, 2, 0] rfl
                    refine lv_goto (tgt := 86) X.x X.b (dk DX3_init_1 40 rfl) (by decide) ?_
                    exact (lp_l hF hx) _ _ _ hH (lv_sub hl [0, 1, 2] rfl) K0
                  · replace hF := if_f hF c486
                    refine lv_iload_n X.x X.b (dk DX3_init_1 30 rfl) rfl (lv_at hl 1 rfl) ?_
                    refine lv_bipush (v := 40) X.x X.b (dk DX3_init_1 31 rfl) (by decide) ?_
                    refine lv_icmp_ge (tgt := 176) X.x X.b (dk DX3_init_1 32 rfl) (by decide) (fun c489 => ?_) (fun c489 => ?_)
                    · replace hF := if_t hF c489
                      obtain ⟨v490, e491⟩ : ∃ y : Int32, y = b3 + 1 := ⟨_, rfl⟩
                      replace hF := bnd_e hF e491
                      refine lv_iinc (v := v490) (lv' := [(3, .int v490), (0, .ref (q 3)), (2, .int b2), (4, .int 0)]) X.x X.b (dk DX3_init_1 39 rfl) hl (k := 2) rfl (by rw [e491]; rfl) (by decide) rfl (fun ls hl => ?_)
                      replace hl : lv_has ls 5 [(0, .ref (q 3)), (2, .int b2), (3, .int v490)] := lv_sub hl [1, 2, 0] rfl
                      refine lv_goto (tgt := 86) X.x X.b (dk DX3_init_1 40 rfl) (by decide) ?_
                      exact (lp_l hF hx) _ _ _ hH (lv_sub hl [0, 1, 2] rfl) K0
                    · replace hF := if_f hF c489
                      refine lv_aload_n X.x X.b (dk DX3_init_1 33 rfl) rfl (lv_at hl 0 rfl) ?_
                      refine og_getR (t := 0) OX3 X hq hH 1 (by decide) rfl kF_X3_15 (dk DX3_init_1 34 rfl) ?_
                      refine lv_iload_n X.x X.b (dk DX3_init_1 35 rfl) rfl (lv_at hl 1 rfl) ?_
                      refine lv_iload_n X.x X.b (dk DX3_init_1 36 rfl) rfl (lv_at hl 2 rfl) ?_
                      obtain ⟨c492, hF⟩ := gd hF
                      refine og_iast X hq hH 1 (by decide) rfl (inb_in c492) (dk DX3_init_1 37 rfl) (fun H locs hH => ?_)
                      obtain ⟨t493, e494⟩ : ∃ y, y = oA t484 1 (upd (t484.2.2.1 1) (b2 : Int32).toNatClampNeg b3) := ⟨_, rfl⟩
                      rw [← e494] at hH
                      replace hF := bnd_e hF e494
                      obtain ⟨v495, e496⟩ : ∃ y : Int32, y = b2 + 1 := ⟨_, rfl⟩
                      replace hF := bnd_e hF e496
                      refine lv_iinc (v := v495) (lv' := [(2, .int v495), (0, .ref (q 3)), (3, .int b3), (4, .int 0)]) X.x X.b (dk DX3_init_1 38 rfl) hl (k := 1) rfl (by rw [e496]; rfl) (by decide) rfl (fun ls hl => ?_)
                      replace hl : lv_has ls 5 [(0, .ref (q 3)), (2, .int v495), (3, .int b3)] := lv_sub hl [1, 0, 2] rfl
                      obtain ⟨v497, e498⟩ : ∃ y : Int32, y = b3 + 1 := ⟨_, rfl⟩
                      replace hF := bnd_e hF e498
                      refine lv_iinc (v := v497) (lv' := [(3, .int v497), (0, .ref (q 3)), (2, .int v495)]) X.x X.b (dk DX3_init_1 39 rfl) hl (k := 2) rfl (by rw [e498]; rfl) (by decide) rfl (fun ls hl => ?_)
                      replace hl : lv_has ls 5 [(0, .ref (q 3)), (2, .int v495), (3, .int v497)] := lv_sub hl [1, 2, 0] rfl
                      refine lv_goto (tgt := 86) X.x X.b (dk DX3_init_1 40 rfl) (by decide) ?_
                      exact (lp_l hF hx) _ _ _ hH (lv_sub hl [0, 1, 2] rfl) K0
              · replace hF := if_f hF c465
                refine lv_iload_n X.x X.b (dk DX3_init_1 12 rfl) rfl (lv_at hl 2 rfl) ?_
                refine lv_bipush (v := 54) X.x X.b (dk DX3_init_1 13 rfl) (by decide) ?_
                refine lv_icmp_ge (tgt := 136) X.x X.b (dk DX3_init_1 14 rfl) (by decide) (fun c499 => ?_) (fun c499 => ?_)
                · replace hF := if_t hF c499
                  refine lv_iconst (v := 0) X.x X.b (dk DX3_init_1 17 rfl) (by decide) ?_
                  refine lv_istore (lv' := [(4, .int 0), (0, .ref (q 3)), (2, .int b2), (3, .int b3)]) X.x X.b (dk DX3_init_1 18 rfl) hl (by decide) rfl (fun ls hl => ?_)
                  replace hl : lv_has ls 5 [(0, .ref (q 3)), (2, .int b2), (3, .int b3), (4, .int 0)] := lv_sub hl [1, 2, 3, 0] rfl
                  refine lv_aload_n X.x X.b (dk DX3_init_1 19 rfl) rfl (lv_at hl 0 rfl) ?_
                  refine og_getR (t := 0) OX3 X hq hH 2 (by decide) rfl kF_X3_18 (dk DX3_init_1 20 rfl) ?_
                  refine lv_iload_n X.x X.b (dk DX3_init_1 21 rfl) rfl (lv_at hl 2 rfl) ?_
                  refine lv_iload X.x X.b (dk DX3_init_1 22 rfl) (lv_at hl 3 rfl) ?_
                  refine lv_if_eq (tgt := 153) X.x X.b (dk DX3_init_1 23 rfl) (by decide) (fun c500 => ?_) (fun c500 => ?_)
                  · replace hF := if_t hF c500
                    refine lv_iconst (v := (-1)) X.x X.b (dk DX3_init_1 26 rfl) (by decide) ?_
                    obtain ⟨c501, hF⟩ := gd hF
                    refine og_iast X hq hH 2 (by decide) rfl (inb_in c501) (dk DX3_init_1 27 rfl) (fun H locs hH => ?_)
                    obtain ⟨t502, e503⟩ : ∃ y, y = oA s_t 2 (upd (s_t.2.2.1 2) (b3 : Int32).toNatClampNeg ((-1))) := ⟨_, rfl⟩
                    rw [← e503] at hH
                    replace hF := bnd_e hF e503
                    refine lv_iload X.x X.b (dk DX3_init_1 28 rfl) (lv_at hl 3 rfl) ?_
                    refine lv_if_eq (tgt := 176) X.x X.b (dk DX3_init_1 29 rfl) (by decide) (fun c504 => ?_) (fun c504 => ?_)
                    · replace hF := if_t hF c504
                      obtain ⟨v505, e506⟩ : ∃ y : Int32, y = b3 + 1 := ⟨_, rfl⟩
                      replace hF := bnd_e hF e506
                      refine lv_iinc (v := v505) (lv' := [(3, .int v505), (0, .ref (q 3)), (2, .int b2), (4, .int 0)]) X.x X.b (dk DX3_init_1 39 rfl) hl (k := 2) rfl (by rw [e506]; rfl) (by decide) rfl (fun ls hl => ?_)
                      replace hl : lv_has ls 5 [(0, .ref (q 3)), (2, .int b2), (3, .int v505)] := lv_sub hl [1, 2, 0] rfl
                      refine lv_goto (tgt := 86) X.x X.b (dk DX3_init_1 40 rfl) (by decide) ?_
                      exact (lp_l hF hx) _ _ _ hH (lv_sub hl [0, 1, 2] rfl) K0
                    · replace hF := if_f hF c504
                      refine lv_iload_n X.x X.b (dk DX3_init_1 30 rfl) rfl (lv_at hl 1 rfl) ?_
                      refine lv_bipush (v := 40) X.x X.b (dk DX3_init_1 31 rfl) (by decide) ?_
                      refine lv_icmp_ge (tgt := 176) X.x X.b (dk DX3_init_1 32 rfl) (by decide) (fun c507 => ?_) (fun c507 => ?_)
                      · replace hF := if_t hF c507
                        obtain ⟨v508, e509⟩ : ∃ y : Int32, y = b3 + 1 := ⟨_, rfl⟩
                        replace hF := bnd_e hF e509
                        refine lv_iinc (v := v508) (lv' := [(3, .int v508), (0, .ref (q 3)), (2, .int b2), (4, .int 0)]) X.x X.b (dk DX3_init_1 39 rfl) hl (k := 2) rfl (by rw [e509]; rfl) (by decide) rfl (fun ls hl => ?_)
                        replace hl : lv_has ls 5 [(0, .ref (q 3)), (2, .int b2), (3, .int v508)] := lv_sub hl [1, 2, 0] rfl
                        refine lv_goto (tgt := 86) X.x X.b (dk DX3_init_1 40 rfl) (by decide) ?_
                        exact (lp_l hF hx) _ _ _ hH (lv_sub hl [0, 1, 2] rfl) K0
                      · replace hF := if_f hF c507
                        refine lv_aload_n X.x X.b (dk DX3_init_1 33 rfl) rfl (lv_at hl 0 rfl) ?_
                        refine og_getR (t := 0) OX3 X hq hH 1 (by decide) rfl kF_X3_15 (dk DX3_init_1 34 rfl) ?_
                        refine lv_iload_n X.x X.b (dk DX3_init_1 35 rfl) rfl (lv_at hl 1 rfl) ?_
                        refine lv_iload_n X.x X.b (dk DX3_init_1 36 rfl) rfl (lv_at hl 2 rfl) ?_
                        obtain ⟨c510, hF⟩ := gd hF
                        refine og_iast X hq hH 1 (by decide) rfl (inb_in c510) (dk DX3_init_1 37 rfl) (fun H locs hH => ?_)
                        obtain ⟨t511, e512⟩ : ∃ y, y = oA t502 1 (upd (t502.2.2.1 1) (b2 : Int32).toNatClampNeg b3) := ⟨_, rfl⟩
                        rw [← e512] at hH
                        replace hF := bnd_e hF e512
                        obtain ⟨v513, e514⟩ : ∃ y : Int32, y = b2 + 1 := ⟨_, rfl⟩
                        replace hF := bnd_e hF e514
                        refine lv_iinc (v := v513) (lv' := [(2, .int v513), (0, .ref (q 3)), (3, .int b3), (4, .int 0)]) X.x X.b (dk DX3_init_1 38 rfl) hl (k := 1) rfl (by rw [e514]; rfl) (by decide) rfl (fun ls hl => ?_)
                        replace hl : lv_has ls 5 [(0, .ref (q 3)), (2, .int v513), (3, .int b3)] := lv_sub hl [1, 0, 2] rfl
                        obtain ⟨v515, e516⟩ : ∃ y : Int32, y = b3 + 1 := ⟨_, rfl⟩
                        replace hF := bnd_e hF e516
                        refine lv_iinc (v := v515) (lv' := [(3, .int v515), (0, .ref (q 3)), (2, .int v513)]) X.x X.b (dk DX3_init_1 39 rfl) hl (k := 2) rfl (by rw [e516]; rfl) (by decide) rfl (fun ls hl => ?_)
                        replace hl : lv_has ls 5 [(0, .ref (q 3)), (2, .int v513), (3, .int v515)] := lv_sub hl [1, 2, 0] rfl
                        refine lv_goto (tgt := 86) X.x X.b (dk DX3_init_1 40 rfl) (by decide) ?_
                        exact (lp_l hF hx) _ _ _ hH (lv_sub hl [0, 1, 2] rfl) K0
                  · replace hF := if_f hF c500
                    refine lv_iload_n X.x X.b (dk DX3_init_1 24 rfl) rfl (lv_at hl 1 rfl) ?_
                    refine lv_goto (tgt := 154) X.x X.b (dk DX3_init_1 25 rfl) (by decide) ?_
                    obtain ⟨c517, hF⟩ := gd hF
                    refine og_iast X hq hH 2 (by decide) rfl (inb_in c517) (dk DX3_init_1 27 rfl) (fun H locs hH => ?_)
                    obtain ⟨t518, e519⟩ : ∃ y, y = oA s_t 2 (upd (s_t.2.2.1 2) (b3 : Int32).toNatClampNeg b2) := ⟨_, rfl⟩
                    rw [← e519] at hH
                    replace hF := bnd_e hF e519
                    refine lv_iload X.x X.b (dk DX3_init_1 28 rfl) (lv_at hl 3 rfl) ?_
                    refine lv_if_eq (tgt := 176) X.x X.b (dk DX3_init_1 29 rfl) (by decide) (fun c520 => ?_) (fun c520 => ?_)
                    · replace hF := if_t hF c520
                      obtain ⟨v521, e522⟩ : ∃ y : Int32, y = b3 + 1 := ⟨_, rfl⟩
                      replace hF := bnd_e hF e522
                      refine lv_iinc (v := v521) (lv' := [(3, .int v521), (0, .ref (q 3)), (2, .int b2), (4, .int 0)]) X.x X.b (dk DX3_init_1 39 rfl) hl (k := 2) rfl (by rw [e522]; rfl) (by decide) rfl (fun ls hl => ?_)
                      replace hl : lv_has ls 5 [(0, .ref (q 3)), (2, .int b2), (3, .int v521)] := lv_sub hl [1, 2, 0] rfl
                      refine lv_goto (tgt := 86) X.x X.b (dk DX3_init_1 40 rfl) (by decide) ?_
                      exact (lp_l hF hx) _ _ _ hH (lv_sub hl [0, 1, 2] rfl) K0
                    · replace hF := if_f hF c520
                      refine lv_iload_n X.x X.b (dk DX3_init_1 30 rfl) rfl (lv_at hl 1 rfl) ?_
                      refine lv_bipush (v := 40) X.x X.b (dk DX3_init_1 31 rfl) (by decide) ?_
                      refine lv_icmp_ge (tgt := 176) X.x X.b (dk DX3_init_1 32 rfl) (by decide) (fun c523 => ?_) (fun c523 => ?_)
                      · replace hF := if_t hF c523
                        obtain ⟨v524, e525⟩ : ∃ y : Int32, y = b3 + 1 := ⟨_, rfl⟩
                        replace hF := bnd_e hF e525
                        refine lv_iinc (v := v524) (lv' := [(3, .int v524), (0, .ref (q 3)), (2, .int b2), (4, .int 0)]) X.x X.b (dk DX3_init_1 39 rfl) hl (k := 2) rfl (by rw [e525]; rfl) (by decide) rfl (fun ls hl => ?_)
                        replace hl : lv_has ls 5 [(0, .ref (q 3)), (2, .int b2), (3, .int v524)] := lv_sub hl [1, 2, 0] rfl
                        refine lv_goto (tgt := 86) X.x X.b (dk DX3_init_1 40 rfl) (by decide) ?_
                        exact (lp_l hF hx) _ _ _ hH (lv_sub hl [0, 1, 2] rfl) K0
                      · replace hF := if_f hF c523
                        refine lv_aload_n X.x X.b (dk DX3_init_1 33 rfl) rfl (lv_at hl 0 rfl) ?_
                        refine og_getR (t := 0) OX3 X hq hH 1 (by decide) rfl kF_X3_15 (dk DX3_init_1 34 rfl) ?_
                        refine lv_iload_n X.x X.b (dk DX3_init_1 35 rfl) rfl (lv_at hl 1 rfl) ?_
                        refine lv_iload_n X.x X.b (dk DX3_init_1 36 rfl) rfl (lv_at hl 2 rfl) ?_
                        obtain ⟨c526, hF⟩ := gd hF
                        refine og_iast X hq hH 1 (by decide) rfl (inb_in c526) (dk DX3_init_1 37 rfl) (fun H locs hH => ?_)
                        obtain ⟨t527, e528⟩ : ∃ y, y = oA t518 1 (upd (t518.2.2.1 1) (b2 : Int32).toNatClampNeg b3) := ⟨_, rfl⟩
                        rw [← e528] at hH
                        replace hF := bnd_e hF e528
                        obtain ⟨v529, e530⟩ : ∃ y : Int32, y = b2 + 1 := ⟨_, rfl⟩
                        replace hF := bnd_e hF e530
                        refine lv_iinc (v := v529) (lv' := [(2, .int v529), (0, .ref (q 3)), (3, .int b3), (4, .int 0)]) X.x X.b (dk DX3_init_1 38 rfl) hl (k := 1) rfl (by rw [e530]; rfl) (by decide) rfl (fun ls hl => ?_)
                        replace hl : lv_has ls 5 [(0, .ref (q 3)), (2, .int v529), (3, .int b3)] := lv_sub hl [1, 0, 2] rfl
                        obtain ⟨v531, e532⟩ : ∃ y : Int32, y = b3 + 1 := ⟨_, rfl⟩
                        replace hF := bnd_e hF e532
                        refine lv_iinc (v := v531) (lv' := [(3, .int v531), (0, .ref (q 3)), (2, .int v529)]) X.x X.b (dk DX3_init_1 39 rfl) hl (k := 2) rfl (by rw [e532]; rfl) (by decide) rfl (fun ls hl => ?_)
                        replace hl : lv_has ls 5 [(0, .ref (q 3)), (2, .int v529), (3, .int v531)] := lv_sub hl [1, 2, 0] rfl
                        refine lv_goto (tgt := 86) X.x X.b (dk DX3_init_1 40 rfl) (by decide) ?_
                        exact (lp_l hF hx) _ _ _ hH (lv_sub hl [0, 1, 2] rfl) K0
                · replace hF := if_f hF c499
                  refine lv_iconst (v := 1) X.x X.b (dk DX3_init_1 15 rfl) (by decide) ?_
                  refine lv_goto (tgt := 137) X.x X.b (dk DX3_init_1 16 rfl) (by decide) ?_
                  refine lv_istore (lv' := [(4, .int 1), (0, .ref (q 3)), (2, .int b2), (3, .int b3)]) X.x X.b (dk DX3_init_1 18 rfl) hl (by decide) rfl (fun ls hl => ?_)
                  replace hl : lv_has ls 5 [(0, .ref (q 3)), (2, .int b2), (3, .int b3), (4, .int 1)] := lv_sub hl [1, 2, 3, 0] rfl
                  refine lv_aload_n X.x X.b (dk DX3_init_1 19 rfl) rfl (lv_at hl 0 rfl) ?_
                  refine og_getR (t := 0) OX3 X hq hH 2 (by decide) rfl kF_X3_18 (dk DX3_init_1 20 rfl) ?_
                  refine lv_iload_n X.x X.b (dk DX3_init_1 21 rfl) rfl (lv_at hl 2 rfl) ?_
                  refine lv_iload X.x X.b (dk DX3_init_1 22 rfl) (lv_at hl 3 rfl) ?_
                  refine lv_if_eq (tgt := 153) X.x X.b (dk DX3_init_1 23 rfl) (by decide) (fun c533 => ?_) (fun c533 => ?_)
                  · replace hF := if_t hF c533
                    refine lv_iconst (v := (-1)) X.x X.b (dk DX3_init_1 26 rfl) (by decide) ?_
                    obtain ⟨c534, hF⟩ := gd hF
                    refine og_iast X hq hH 2 (by decide) rfl (inb_in c534) (dk DX3_init_1 27 rfl) (fun H locs hH => ?_)
                    obtain ⟨t535, e536⟩ : ∃ y, y = oA s_t 2 (upd (s_t.2.2.1 2) (b3 : Int32).toNatClampNeg ((-1))) := ⟨_, rfl⟩
                    rw [← e536] at hH
                    replace hF := bnd_e hF e536
                    refine lv_iload X.x X.b (dk DX3_init_1 28 rfl) (lv_at hl 3 rfl) ?_
                    refine lv_if_eq (tgt := 176) X.x X.b (dk DX3_init_1 29 rfl) (by decide) (fun c537 => ?_) (fun c537 => ?_)
                    · replace hF := if_t hF c537
                      obtain ⟨v538, e539⟩ : ∃ y : Int32, y = b3 + 1 := ⟨_, rfl⟩
                      replace hF := bnd_e hF e539
                      refine lv_iinc (v := v538) (lv' := [(3, .int v538), (0, .ref (q 3)), (2, .int b2), (4, .int 1)]) X.x X.b (dk DX3_init_1 39 rfl) hl (k := 2) rfl (by rw [e539]; rfl) (by decide) rfl (fun ls hl => ?_)
                      replace hl : lv_has ls 5 [(0, .ref (q 3)), (2, .int b2), (3, .int v538)] := lv_sub hl [1, 2, 0] rfl
                      refine lv_goto (tgt := 86) X.x X.b (dk DX3_init_1 40 rfl) (by decide) ?_
                      exact (lp_l hF hx) _ _ _ hH (lv_sub hl [0, 1, 2] rfl) K0
                    · replace hF := if_f hF c537
                      refine lv_iload_n X.x X.b (dk DX3_init_1 30 rfl) rfl (lv_at hl 1 rfl) ?_
                      refine lv_bipush (v := 40) X.x X.b (dk DX3_init_1 31 rfl) (by decide) ?_
                      refine lv_icmp_ge (tgt := 176) X.x X.b (dk DX3_init_1 32 rfl) (by decide) (fun c540 => ?_) (fun c540 => ?_)
                      · replace hF := if_t hF c540
                        obtain ⟨v541, e542⟩ : ∃ y : Int32, y = b3 + 1 := ⟨_, rfl⟩
                        replace hF := bnd_e hF e542
                        refine lv_iinc (v := v541) (lv' := [(3, .int v541), (0, .ref (q 3)), (2, .int b2), (4, .int 1)]) X.x X.b (dk DX3_init_1 39 rfl) hl (k := 2) rfl (by rw [e542]; rfl) (by decide) rfl (fun ls hl => ?_)
                        replace hl : lv_has ls 5 [(0, .ref (q 3)), (2, .int b2), (3, .int v541)] := lv_sub hl [1, 2, 0] rfl
                        refine lv_goto (tgt := 86) X.x X.b (dk DX3_init_1 40 rfl) (by decide) ?_
                        exact (lp_l hF hx) _ _ _ hH (lv_sub hl [0, 1, 2] rfl) K0
                      · replace hF := if_f hF c540
                        refine lv_aload_n X.x X.b (dk DX3_init_1 33 rfl) rfl (lv_at hl 0 rfl) ?_
                        refine og_getR (t := 0) OX3 X hq hH 1 (by decide) rfl kF_X3_15 (dk DX3_init_1 34 rfl) ?_
                        refine lv_iload_n X.x X.b (dk DX3_init_1 35 rfl) rfl (lv_at hl 1 rfl) ?_
                        refine lv_iload_n X.x X.b (dk DX3_init_1 36 rfl) rfl (lv_at hl 2 rfl) ?_
                        obtain ⟨c543, hF⟩ := gd hF
                        refine og_iast X hq hH 1 (by decide) rfl (inb_in c543) (dk DX3_init_1 37 rfl) (fun H locs hH => ?_)
                        obtain ⟨t544, e545⟩ : ∃ y, y = oA t535 1 (upd (t535.2.2.1 1) (b2 : Int32).toNatClampNeg b3) := ⟨_, rfl⟩
                        rw [← e545] at hH
                        replace hF := bnd_e hF e545
                        obtain ⟨v546, e547⟩ : ∃ y : Int32, y = b2 + 1 := ⟨_, rfl⟩
                        replace hF := bnd_e hF e547
                        refine lv_iinc (v := v546) (lv' := [(2, .int v546), (0, .ref (q 3)), (3, .int b3), (4, .int 1)]) X.x X.b (dk DX3_init_1 38 rfl) hl (k := 1) rfl (by rw [e547]; rfl) (by decide) rfl (fun ls hl => ?_)
                        replace hl : lv_has ls 5 [(0, .ref (q 3)), (2, .int v546), (3, .int b3)] := lv_sub hl [1, 0, 2] rfl
                        obtain ⟨v548, e549⟩ : ∃ y : Int32, y = b3 + 1 := ⟨_, rfl⟩
                        replace hF := bnd_e hF e549
                        refine lv_iinc (v := v548) (lv' := [(3, .int v548), (0, .ref (q 3)), (2, .int v546)]) X.x X.b (dk DX3_init_1 39 rfl) hl (k := 2) rfl (by rw [e549]; rfl) (by decide) rfl (fun ls hl => ?_)
                        replace hl : lv_has ls 5 [(0, .ref (q 3)), (2, .int v546), (3, .int v548)] := lv_sub hl [1, 2, 0] rfl
                        refine lv_goto (tgt := 86) X.x X.b (dk DX3_init_1 40 rfl) (by decide) ?_
                        exact (lp_l hF hx) _ _ _ hH (lv_sub hl [0, 1, 2] rfl) K0
                  · replace hF := if_f hF c533
                    refine lv_iload_n X.x X.b (dk DX3_init_1 24 rfl) rfl (lv_at hl 1 rfl) ?_
                    refine lv_goto (tgt := 154) X.x X.b (dk DX3_init_1 25 rfl) (by decide) ?_
                    obtain ⟨c550, hF⟩ := gd hF
                    refine og_iast X hq hH 2 (by decide) rfl (inb_in c550) (dk DX3_init_1 27 rfl) (fun H locs hH => ?_)
                    obtain ⟨t551, e552⟩ : ∃ y, y = oA s_t 2 (upd (s_t.2.2.1 2) (b3 : Int32).toNatClampNeg b2) := ⟨_, rfl⟩
                    rw [← e552] at hH
                    replace hF := bnd_e hF e552
                    refine lv_iload X.x X.b (dk DX3_init_1 28 rfl) (lv_at hl 3 rfl) ?_
                    refine lv_if_eq (tgt := 176) X.x X.b (dk DX3_init_1 29 rfl) (by decide) (fun c553 => ?_) (fun c553 => ?_)
                    · replace hF := if_t hF c553
                      obtain ⟨v554, e555⟩ : ∃ y : Int32, y = b3 + 1 := ⟨_, rfl⟩
                      replace hF := bnd_e hF e555
                      refine lv_iinc (v := v554) (lv' := [(3, .int v554), (0, .ref (q 3)), (2, .int b2), (4, .int 1)]) X.x X.b (dk DX3_init_1 39 rfl) hl (k := 2) rfl (by rw [e555]; rfl) (by decide) rfl (fun ls hl => ?_)
                      replace hl : lv_has ls 5 [(0, .ref (q 3)), (2, .int b2), (3, .int v554)] := lv_sub hl [1, 2, 0] rfl
                      refine lv_goto (tgt := 86) X.x X.b (dk DX3_init_1 40 rfl) (by decide) ?_
                      exact (lp_l hF hx) _ _ _ hH (lv_sub hl [0, 1, 2] rfl) K0
                    · replace hF := if_f hF c553
                      refine lv_iload_n X.x X.b (dk DX3_init_1 30 rfl) rfl (lv_at hl 1 rfl) ?_
                      refine lv_bipush (v := 40) X.x X.b (dk DX3_init_1 31 rfl) (by decide) ?_
                      refine lv_icmp_ge (tgt := 176) X.x X.b (dk DX3_init_1 32 rfl) (by decide) (fun c556 => ?_) (fun c556 => ?_)
                      · replace hF := if_t hF c556
                        obtain ⟨v557, e558⟩ : ∃ y : Int32, y = b3 + 1 := ⟨_, rfl⟩
                        replace hF := bnd_e hF e558
                        refine lv_iinc (v := v557) (lv' := [(3, .int v557), (0, .ref (q 3)), (2, .int b2), (4, .int 1)]) X.x X.b (dk DX3_init_1 39 rfl) hl (k := 2) rfl (by rw [e558]; rfl) (by decide) rfl (fun ls hl => ?_)
                        replace hl : lv_has ls 5 [(0, .ref (q 3)), (2, .int b2), (3, .int v557)] := lv_sub hl [1, 2, 0] rfl
                        refine lv_goto (tgt := 86) X.x X.b (dk DX3_init_1 40 rfl) (by decide) ?_
                        exact (lp_l hF hx) _ _ _ hH (lv_sub hl [0, 1, 2] rfl) K0
                      · replace hF := if_f hF c556
                        refine lv_aload_n X.x X.b (dk DX3_init_1 33 rfl) rfl (lv_at hl 0 rfl) ?_
                        refine og_getR (t := 0) OX3 X hq hH 1 (by decide) rfl kF_X3_15 (dk DX3_init_1 34 rfl) ?_
                        refine lv_iload_n X.x X.b (dk DX3_init_1 35 rfl) rfl (lv_at hl 1 rfl) ?_
                        refine lv_iload_n X.x X.b (dk DX3_init_1 36 rfl) rfl (lv_at hl 2 rfl) ?_
                        obtain ⟨c559, hF⟩ := gd hF
                        refine og_iast X hq hH 1 (by decide) rfl (inb_in c559) (dk DX3_init_1 37 rfl) (fun H locs hH => ?_)
                        obtain ⟨t560, e561⟩ : ∃ y, y = oA t551 1 (upd (t551.2.2.1 1) (b2 : Int32).toNatClampNeg b3) := ⟨_, rfl⟩
                        rw [← e561] at hH
                        replace hF := bnd_e hF e561
                        obtain ⟨v562, e563⟩ : ∃ y : Int32, y = b2 + 1 := ⟨_, rfl⟩
                        replace hF := bnd_e hF e563
                        refine lv_iinc (v := v562) (lv' := [(2, .int v562), (0, .ref (q 3)), (3, .int b3), (4, .int 1)]) X.x X.b (dk DX3_init_1 38 rfl) hl (k := 1) rfl (by rw [e563]; rfl) (by decide) rfl (fun ls hl => ?_)
                        replace hl : lv_has ls 5 [(0, .ref (q 3)), (2, .int v562), (3, .int b3)] := lv_sub hl [1, 0, 2] rfl
                        obtain ⟨v564, e565⟩ : ∃ y : Int32, y = b3 + 1 := ⟨_, rfl⟩
                        replace hF := bnd_e hF e565
                        refine lv_iinc (v := v564) (lv' := [(3, .int v564), (0, .ref (q 3)), (2, .int v562)]) X.x X.b (dk DX3_init_1 39 rfl) hl (k := 2) rfl (by rw [e565]; rfl) (by decide) rfl (fun ls hl => ?_)
                        replace hl : lv_has ls 5 [(0, .ref (q 3)), (2, .int v562), (3, .int v564)] := lv_sub hl [1, 2, 0] rfl
                        refine lv_goto (tgt := 86) X.x X.b (dk DX3_init_1 40 rfl) (by decide) ?_
                        exact (lp_l hF hx) _ _ _ hH (lv_sub hl [0, 1, 2] rfl) K0
set_option maxHeartbeats 4000000 in
set_option maxRecDepth 100000 in
theorem c_X3_init {l : Launch} {G : mG} {h : mM} {a : Nat} {x : OS} (hF : f_X3_init = some x) (ha : h a = some (.inr (2, dflt LX3))) : cQ l G yX3_init cX3_init 5 none rm_X3_init [.ref a] h (mQv G (fun h1 => ∃ q : Nat → Nat, q 3 = a ∧ h1 = oset LX3 G q x h ∧ oinj LX3 q ∧ ∀ k, k < 3 → ohas LX3 k = true → h (q k) = none)) := by
  refine mp_of (by decide +kernel) (Nat.le_of_ble_eq_true rfl) ?_
  intro p e s m below meth c X hr hlk hH hname ls hl
  dsimp only [f_X3_init] at hF
  replace hl : lv_has ls 5 [(0, .ref a)] := hl
  have hB := Bl.start (L := LX3) (G := G) (fun _ => 0) ha
  refine lv_aload_n X.x X.b (dk DX3_init_0 0 rfl) rfl (lv_at hl 0 rfl) ?_
  refine mr_objInit X hl.1 kM_X3_3 kI_bjectInit kC_bjectInit (dk DX3_init_0 1 rfl) (Nat.le_of_ble_eq_true rfl) (Nat.le_of_ble_eq_true rfl) ?_
  refine lv_aload_n X.x X.b (dk DX3_init_0 2 rfl) rfl (lv_at hl 0 rfl) ?_
  refine lv_bipush (v := 15) X.x X.b (dk DX3_init_0 3 rfl) (by decide) ?_
  refine mr_newI (N := 15) X hH kA_FieldTypeint (by decide) rfl (by decide) (Nat.le_of_ble_eq_true rfl) (Nat.le_of_ble_eq_true rfl) (dk DX3_init_0 4 rfl) (fun x1 H hx hH => ?_)
  obtain ⟨M, hH, hB⟩ := lump hH (hB.arr hx (k := 0) (by decide) (by decide) (by decide) rfl)
  refine mr_putF X hH hB.1 hinX3 tyX3 tyX3_ok nmX3 rfl 0 (by decide) kF_X3_11 rfl hname rfl rfl rfl (by rw [pfs_len]; decide) (dk DX3_init_0 5 rfl) (fun H locs hH => ?_)
  obtain ⟨M, hH, hB⟩ := lump hH (hB.ref (k := 0) (t := 0) rfl (by simp [va_up]))
  refine lv_aload_n X.x X.b (dk DX3_init_0 6 rfl) rfl (lv_at hl 0 rfl) ?_
  refine lv_bipush (v := 40) X.x X.b (dk DX3_init_0 7 rfl) (by decide) ?_
  refine mr_newI (N := 40) X hH kA_FieldTypeint (by decide) rfl (by decide) (Nat.le_of_ble_eq_true rfl) (Nat.le_of_ble_eq_true rfl) (dk DX3_init_0 8 rfl) (fun x2 H hx hH => ?_)
  obtain ⟨M, hH, hB⟩ := lump hH (hB.arr hx (k := 1) (by decide) (by decide) (by decide) rfl)
  refine mr_putF X hH hB.1 hinX3 tyX3 tyX3_ok nmX3 rfl 1 (by decide) kF_X3_15 rfl hname rfl rfl rfl (by rw [pfs_len]; decide) (dk DX3_init_0 9 rfl) (fun H locs hH => ?_)
  obtain ⟨M, hH, hB⟩ := lump hH (hB.ref (k := 1) (t := 0) rfl (by simp [va_up]))
  refine lv_aload_n X.x X.b (dk DX3_init_0 10 rfl) rfl (lv_at hl 0 rfl) ?_
  refine lv_bipush (v := 81) X.x X.b (dk DX3_init_0 11 rfl) (by decide) ?_
  refine mr_newI (N := 81) X hH kA_FieldTypeint (by decide) rfl (by decide) (Nat.le_of_ble_eq_true rfl) (Nat.le_of_ble_eq_true rfl) (dk DX3_init_0 12 rfl) (fun x3 H hx hH => ?_)
  obtain ⟨M, hH, hB⟩ := lump hH (hB.arr hx (k := 2) (by decide) (by decide) (by decide) rfl)
  refine mr_putF X hH hB.1 hinX3 tyX3 tyX3_ok nmX3 rfl 2 (by decide) kF_X3_18 rfl hname rfl rfl rfl (by rw [pfs_len]; decide) (dk DX3_init_0 13 rfl) (fun H locs hH => ?_)
  obtain ⟨M, hH, hB⟩ := lump hH (hB.ref (k := 2) (t := 0) rfl (by simp [va_up]))
  obtain ⟨hM, hq, hnew⟩ := hB.done (by decide +kernel)
  subst hM
  obtain ⟨q, hq0, hH, hq, hnew⟩ : ∃ q : Nat → Nat, q 3 = a ∧ mH G (oset LX3 G q stX3 h) s.heap _ _ ∧ oinj LX3 q ∧ ∀ k, k < 3 → ohas LX3 k = true → h (q k) = none := ⟨_, va_up_s, hH, hq, hnew⟩
  rw [← hq0] at hl
  refine lv_iconst (v := 0) X.x X.b (dk DX3_init_0 14 rfl) (by decide) ?_
  refine lv_istore_n (lv' := [(1, .int 0), (0, .ref (q 3))]) X.x X.b (dk DX3_init_0 15 rfl) rfl hl (by decide) rfl (fun ls hl => ?_)
  replace hl : lv_has ls 5 [(0, .ref (q 3)), (1, .int 0)] := lv_sub hl [1, 0] rfl
  refine lv_iconst (v := 0) X.x X.b (dk DX3_init_0 16 rfl) (by decide) ?_
  refine lv_istore_n (lv' := [(2, .int 0), (0, .ref (q 3)), (1, .int 0)]) X.x X.b (dk DX3_init_0 17 rfl) rfl hl (by decide) rfl (fun ls hl => ?_)
  replace hl : lv_has ls 5 [(0, .ref (q 3)), (1, .int 0), (2, .int 0)] := lv_sub hl [1, 2, 0] rfl
  obtain ⟨x19, e20, hF⟩ := bd hF
  replace hl : lv_has ls 5 [(0, .ref (q 3)), (1, .int 0), (2, .int 0)] := lv_sub hl [0, 1, 2] rfl
  refine w_X3_init_32 hq X _ _ e20 _ _ _ hH hl (fun H locs ls hH hl => ?_)
  refine lv_iconst (v := 0) X.x X.b (dk DX3_init_0 47 rfl) (by decide) ?_
  refine lv_istore_n (lv' := [(2, .int 0), (0, .ref (q 3))]) X.x X.b (dk DX3_init_0 48 rfl) rfl hl (by decide) rfl (fun ls hl => ?_)
  replace hl : lv_has ls 5 [(0, .ref (q 3)), (2, .int 0)] := lv_sub hl [1, 0] rfl
  refine lv_iconst (v := 0) X.x X.b (dk DX3_init_0 49 rfl) (by decide) ?_
  refine lv_istore_n (lv' := [(3, .int 0), (0, .ref (q 3)), (2, .int 0)]) X.x X.b (dk DX3_init_0 50 rfl) rfl hl (by decide) rfl (fun ls hl => ?_)
  replace hl : lv_has ls 5 [(0, .ref (q 3)), (2, .int 0), (3, .int 0)] := lv_sub hl [1, 2, 0] rfl
  obtain ⟨x566, e567, hF⟩ := bd hF
  replace hl : lv_has ls 5 [(0, .ref (q 3)), (2, .int 0), (3, .int 0)] := lv_sub hl [0, 1, 2] rfl
  refine w_X3_init_86 hq X _ _ e567 _ _ _ hH hl (fun H locs ls hH hl => ?_)
  cases sm hF
  exact mr_vret X hr hlk hH ⟨q, hq0, rfl, hq, hnew⟩ (dk DX3_init_1 41 rfl)
