/-! the layout: what the objects are and which ones they hold, once both are made -/
def wdS : List (Nat × (Nat × Nat)) := [(128, (11, 0)), (129, (23, 600)), (130, (6, 0)), (131, (23, 320)), (132, (8, 0)), (133, (22, 3)), (134, (21, 3)), (135, (21, 60)), (136, (21, 32)), (137, (8, 0)), (138, (22, 3)), (139, (21, 3)), (140, (21, 60)), (141, (21, 32)), (142, (7, 0)), (143, (10, 0)), (144, (25, 601)), (145, (21, 601)), (146, (22, 601)), (147, (3, 0)), (148, (9, 0)), (152, (21, 18)), (153, (5, 0)), (154, (21, 10)), (155, (21, 10)), (156, (21, 10)), (157, (21, 10)), (158, (21, 10)), (159, (21, 10)), (160, (21, 4)), (161, (21, 4)), (162, (21, 4)), (163, (21, 3)), (164, (4, 0)), (167, (21, 64)), (168, (21, 64)), (169, (4, 0)), (172, (21, 64)), (173, (21, 64)), (174, (4, 0)), (177, (21, 64)), (178, (21, 64)), (179, (1, 0)), (180, (21, 8)), (181, (2, 0)), (182, (21, 18)), (183, (21, 10)), (184, (21, 8)), (185, (12, 0)), (186, (21, 600)), (187, (21, 174)), (188, (21, 174)), (189, (21, 1392)), (190, (21, 24)), (191, (21, 3)), (192, (21, 24)), (193, (21, 3)), (194, (21, 40)), (195, (21, 40)), (196, (21, 40)), (197, (21, 40)), (198, (21, 40)), (199, (21, 40)), (200, (21, 40)), (201, (21, 40)), (202, (21, 40)), (203, (21, 5)), (204, (22, 65536)), (205, (22, 65536)), (206, (21, 65536)), (207, (21, 65536)), (208, (21, 65536)), (209, (21, 65536)), (210, (22, 65536)), (211, (24, 40)), (212, (21, 60)), (213, (21, 28)), (214, (21, 180)), (215, (21, 3)), (216, (21, 3)), (217, (24, 65536)), (218, (23, 1000)), (219, (22, 1))]
def wdR : List ((Nat × Nat) × Nat) := [((128, 0), 129), ((130, 0), 131), ((128, 2), 130), ((132, 0), 133), ((132, 1), 134), ((132, 2), 135), ((132, 3), 136), ((128, 3), 132), ((137, 0), 138), ((137, 1), 139), ((137, 2), 140), ((137, 3), 141), ((128, 4), 137), ((143, 1), 144), ((143, 2), 145), ((143, 3), 146), ((143, 0), 129), ((142, 0), 143), ((142, 1), 137), ((128, 5), 142), ((147, 2), 148), ((147, 3), 152), ((147, 0), 132), ((153, 1), 154), ((153, 2), 155), ((153, 3), 156), ((153, 4), 157), ((153, 5), 158), ((153, 6), 159), ((153, 7), 160), ((153, 8), 161), ((153, 9), 162), ((153, 10), 163), ((153, 0), 132), ((147, 1), 153), ((128, 6), 147), ((164, 5), 167), ((164, 6), 168), ((128, 7), 164), ((169, 5), 172), ((169, 6), 173), ((128, 8), 169), ((174, 5), 177), ((174, 6), 178), ((128, 9), 174), ((179, 0), 180), ((128, 10), 179), ((181, 1), 182), ((181, 2), 183), ((181, 3), 184), ((181, 0), 132), ((128, 11), 181), ((185, 1), 186), ((185, 3), 187), ((185, 4), 188), ((185, 5), 189), ((185, 6), 190), ((185, 7), 191), ((185, 8), 192), ((185, 9), 193), ((185, 18), 194), ((185, 19), 195), ((185, 23), 196), ((185, 24), 197), ((185, 25), 198), ((185, 26), 199), ((185, 27), 200), ((185, 28), 201), ((185, 29), 202), ((185, 30), 203), ((185, 35), 204), ((185, 36), 205), ((185, 37), 206), ((185, 38), 207), ((185, 41), 208), ((185, 42), 209), ((185, 43), 210), ((185, 46), 211), ((185, 48), 212), ((185, 49), 213), ((185, 50), 214), ((185, 51), 215), ((185, 52), 216), ((185, 54), 217), ((185, 55), 218)]
def Wd (σ : st_T) : Prop := (∀ q ∈ wdS, st_S σ q.1 = q.2) ∧ (∀ q ∈ wdR, st_R σ q.1.1 q.1.2 = some q.2) ∧ 220 ≤ st_n σ
section WD
variable {σ : st_T} {a : Nat}
theorem wS_128 (w : Wd σ) : st_S σ 128 = (11, 0) := w.1 (128, (11, 0)) (List.mem_of_getElem? (i := 0) rfl)
theorem wC_128 (w : Wd σ) : (st_S σ 128).1 = 11 := congrArg Prod.fst (wS_128 w)
theorem wS_129 (w : Wd σ) : st_S σ 129 = (23, 600) := w.1 (129, (23, 600)) (List.mem_of_getElem? (i := 1) rfl)
theorem wS_130 (w : Wd σ) : st_S σ 130 = (6, 0) := w.1 (130, (6, 0)) (List.mem_of_getElem? (i := 2) rfl)
theorem wC_130 (w : Wd σ) : (st_S σ 130).1 = 6 := congrArg Prod.fst (wS_130 w)
theorem wS_131 (w : Wd σ) : st_S σ 131 = (23, 320) := w.1 (131, (23, 320)) (List.mem_of_getElem? (i := 3) rfl)
theorem wS_132 (w : Wd σ) : st_S σ 132 = (8, 0) := w.1 (132, (8, 0)) (List.mem_of_getElem? (i := 4) rfl)
theorem wC_132 (w : Wd σ) : (st_S σ 132).1 = 8 := congrArg Prod.fst (wS_132 w)
theorem wS_133 (w : Wd σ) : st_S σ 133 = (22, 3) := w.1 (133, (22, 3)) (List.mem_of_getElem? (i := 5) rfl)
theorem wS_134 (w : Wd σ) : st_S σ 134 = (21, 3) := w.1 (134, (21, 3)) (List.mem_of_getElem? (i := 6) rfl)
theorem wS_135 (w : Wd σ) : st_S σ 135 = (21, 60) := w.1 (135, (21, 60)) (List.mem_of_getElem? (i := 7) rfl)
theorem wS_136 (w : Wd σ) : st_S σ 136 = (21, 32) := w.1 (136, (21, 32)) (List.mem_of_getElem? (i := 8) rfl)
theorem wS_137 (w : Wd σ) : st_S σ 137 = (8, 0) := w.1 (137, (8, 0)) (List.mem_of_getElem? (i := 9) rfl)
theorem wC_137 (w : Wd σ) : (st_S σ 137).1 = 8 := congrArg Prod.fst (wS_137 w)
theorem wS_138 (w : Wd σ) : st_S σ 138 = (22, 3) := w.1 (138, (22, 3)) (List.mem_of_getElem? (i := 10) rfl)
theorem wS_139 (w : Wd σ) : st_S σ 139 = (21, 3) := w.1 (139, (21, 3)) (List.mem_of_getElem? (i := 11) rfl)
theorem wS_140 (w : Wd σ) : st_S σ 140 = (21, 60) := w.1 (140, (21, 60)) (List.mem_of_getElem? (i := 12) rfl)
theorem wS_141 (w : Wd σ) : st_S σ 141 = (21, 32) := w.1 (141, (21, 32)) (List.mem_of_getElem? (i := 13) rfl)
theorem wS_142 (w : Wd σ) : st_S σ 142 = (7, 0) := w.1 (142, (7, 0)) (List.mem_of_getElem? (i := 14) rfl)
theorem wC_142 (w : Wd σ) : (st_S σ 142).1 = 7 := congrArg Prod.fst (wS_142 w)
theorem wS_143 (w : Wd σ) : st_S σ 143 = (10, 0) := w.1 (143, (10, 0)) (List.mem_of_getElem? (i := 15) rfl)
theorem wC_143 (w : Wd σ) : (st_S σ 143).1 = 10 := congrArg Prod.fst (wS_143 w)
theorem wS_144 (w : Wd σ) : st_S σ 144 = (25, 601) := w.1 (144, (25, 601)) (List.mem_of_getElem? (i := 16) rfl)
theorem wS_145 (w : Wd σ) : st_S σ 145 = (21, 601) := w.1 (145, (21, 601)) (List.mem_of_getElem? (i := 17) rfl)
theorem wS_146 (w : Wd σ) : st_S σ 146 = (22, 601) := w.1 (146, (22, 601)) (List.mem_of_getElem? (i := 18) rfl)
theorem wS_147 (w : Wd σ) : st_S σ 147 = (3, 0) := w.1 (147, (3, 0)) (List.mem_of_getElem? (i := 19) rfl)
theorem wC_147 (w : Wd σ) : (st_S σ 147).1 = 3 := congrArg Prod.fst (wS_147 w)
theorem wS_148 (w : Wd σ) : st_S σ 148 = (9, 0) := w.1 (148, (9, 0)) (List.mem_of_getElem? (i := 20) rfl)
theorem wC_148 (w : Wd σ) : (st_S σ 148).1 = 9 := congrArg Prod.fst (wS_148 w)
theorem wS_152 (w : Wd σ) : st_S σ 152 = (21, 18) := w.1 (152, (21, 18)) (List.mem_of_getElem? (i := 21) rfl)
theorem wS_153 (w : Wd σ) : st_S σ 153 = (5, 0) := w.1 (153, (5, 0)) (List.mem_of_getElem? (i := 22) rfl)
theorem wC_153 (w : Wd σ) : (st_S σ 153).1 = 5 := congrArg Prod.fst (wS_153 w)
theorem wS_154 (w : Wd σ) : st_S σ 154 = (21, 10) := w.1 (154, (21, 10)) (List.mem_of_getElem? (i := 23) rfl)
theorem wS_155 (w : Wd σ) : st_S σ 155 = (21, 10) := w.1 (155, (21, 10)) (List.mem_of_getElem? (i := 24) rfl)
theorem wS_156 (w : Wd σ) : st_S σ 156 = (21, 10) := w.1 (156, (21, 10)) (List.mem_of_getElem? (i := 25) rfl)
theorem wS_157 (w : Wd σ) : st_S σ 157 = (21, 10) := w.1 (157, (21, 10)) (List.mem_of_getElem? (i := 26) rfl)
theorem wS_158 (w : Wd σ) : st_S σ 158 = (21, 10) := w.1 (158, (21, 10)) (List.mem_of_getElem? (i := 27) rfl)
theorem wS_159 (w : Wd σ) : st_S σ 159 = (21, 10) := w.1 (159, (21, 10)) (List.mem_of_getElem? (i := 28) rfl)
theorem wS_160 (w : Wd σ) : st_S σ 160 = (21, 4) := w.1 (160, (21, 4)) (List.mem_of_getElem? (i := 29) rfl)
theorem wS_161 (w : Wd σ) : st_S σ 161 = (21, 4) := w.1 (161, (21, 4)) (List.mem_of_getElem? (i := 30) rfl)
theorem wS_162 (w : Wd σ) : st_S σ 162 = (21, 4) := w.1 (162, (21, 4)) (List.mem_of_getElem? (i := 31) rfl)
theorem wS_163 (w : Wd σ) : st_S σ 163 = (21, 3) := w.1 (163, (21, 3)) (List.mem_of_getElem? (i := 32) rfl)
theorem wS_164 (w : Wd σ) : st_S σ 164 = (4, 0) := w.1 (164, (4, 0)) (List.mem_of_getElem? (i := 33) rfl)
theorem wC_164 (w : Wd σ) : (st_S σ 164).1 = 4 := congrArg Prod.fst (wS_164 w)
theorem wS_167 (w : Wd σ) : st_S σ 167 = (21, 64) := w.1 (167, (21, 64)) (List.mem_of_getElem? (i := 34) rfl)
theorem wS_168 (w : Wd σ) : st_S σ 168 = (21, 64) := w.1 (168, (21, 64)) (List.mem_of_getElem? (i := 35) rfl)
theorem wS_169 (w : Wd σ) : st_S σ 169 = (4, 0) := w.1 (169, (4, 0)) (List.mem_of_getElem? (i := 36) rfl)
theorem wC_169 (w : Wd σ) : (st_S σ 169).1 = 4 := congrArg Prod.fst (wS_169 w)
theorem wS_172 (w : Wd σ) : st_S σ 172 = (21, 64) := w.1 (172, (21, 64)) (List.mem_of_getElem? (i := 37) rfl)
theorem wS_173 (w : Wd σ) : st_S σ 173 = (21, 64) := w.1 (173, (21, 64)) (List.mem_of_getElem? (i := 38) rfl)
theorem wS_174 (w : Wd σ) : st_S σ 174 = (4, 0) := w.1 (174, (4, 0)) (List.mem_of_getElem? (i := 39) rfl)
theorem wC_174 (w : Wd σ) : (st_S σ 174).1 = 4 := congrArg Prod.fst (wS_174 w)
theorem wS_177 (w : Wd σ) : st_S σ 177 = (21, 64) := w.1 (177, (21, 64)) (List.mem_of_getElem? (i := 40) rfl)
theorem wS_178 (w : Wd σ) : st_S σ 178 = (21, 64) := w.1 (178, (21, 64)) (List.mem_of_getElem? (i := 41) rfl)
theorem wS_179 (w : Wd σ) : st_S σ 179 = (1, 0) := w.1 (179, (1, 0)) (List.mem_of_getElem? (i := 42) rfl)
theorem wC_179 (w : Wd σ) : (st_S σ 179).1 = 1 := congrArg Prod.fst (wS_179 w)
theorem wS_180 (w : Wd σ) : st_S σ 180 = (21, 8) := w.1 (180, (21, 8)) (List.mem_of_getElem? (i := 43) rfl)
theorem wS_181 (w : Wd σ) : st_S σ 181 = (2, 0) := w.1 (181, (2, 0)) (List.mem_of_getElem? (i := 44) rfl)
theorem wC_181 (w : Wd σ) : (st_S σ 181).1 = 2 := congrArg Prod.fst (wS_181 w)
theorem wS_182 (w : Wd σ) : st_S σ 182 = (21, 18) := w.1 (182, (21, 18)) (List.mem_of_getElem? (i := 45) rfl)
theorem wS_183 (w : Wd σ) : st_S σ 183 = (21, 10) := w.1 (183, (21, 10)) (List.mem_of_getElem? (i := 46) rfl)
theorem wS_184 (w : Wd σ) : st_S σ 184 = (21, 8) := w.1 (184, (21, 8)) (List.mem_of_getElem? (i := 47) rfl)
theorem wS_185 (w : Wd σ) : st_S σ 185 = (12, 0) := w.1 (185, (12, 0)) (List.mem_of_getElem? (i := 48) rfl)
theorem wC_185 (w : Wd σ) : (st_S σ 185).1 = 12 := congrArg Prod.fst (wS_185 w)
theorem wS_186 (w : Wd σ) : st_S σ 186 = (21, 600) := w.1 (186, (21, 600)) (List.mem_of_getElem? (i := 49) rfl)
theorem wS_187 (w : Wd σ) : st_S σ 187 = (21, 174) := w.1 (187, (21, 174)) (List.mem_of_getElem? (i := 50) rfl)
theorem wS_188 (w : Wd σ) : st_S σ 188 = (21, 174) := w.1 (188, (21, 174)) (List.mem_of_getElem? (i := 51) rfl)
theorem wS_189 (w : Wd σ) : st_S σ 189 = (21, 1392) := w.1 (189, (21, 1392)) (List.mem_of_getElem? (i := 52) rfl)
theorem wS_190 (w : Wd σ) : st_S σ 190 = (21, 24) := w.1 (190, (21, 24)) (List.mem_of_getElem? (i := 53) rfl)
theorem wS_191 (w : Wd σ) : st_S σ 191 = (21, 3) := w.1 (191, (21, 3)) (List.mem_of_getElem? (i := 54) rfl)
theorem wS_192 (w : Wd σ) : st_S σ 192 = (21, 24) := w.1 (192, (21, 24)) (List.mem_of_getElem? (i := 55) rfl)
theorem wS_193 (w : Wd σ) : st_S σ 193 = (21, 3) := w.1 (193, (21, 3)) (List.mem_of_getElem? (i := 56) rfl)
theorem wS_194 (w : Wd σ) : st_S σ 194 = (21, 40) := w.1 (194, (21, 40)) (List.mem_of_getElem? (i := 57) rfl)
theorem wS_195 (w : Wd σ) : st_S σ 195 = (21, 40) := w.1 (195, (21, 40)) (List.mem_of_getElem? (i := 58) rfl)
theorem wS_196 (w : Wd σ) : st_S σ 196 = (21, 40) := w.1 (196, (21, 40)) (List.mem_of_getElem? (i := 59) rfl)
theorem wS_197 (w : Wd σ) : st_S σ 197 = (21, 40) := w.1 (197, (21, 40)) (List.mem_of_getElem? (i := 60) rfl)
theorem wS_198 (w : Wd σ) : st_S σ 198 = (21, 40) := w.1 (198, (21, 40)) (List.mem_of_getElem? (i := 61) rfl)
theorem wS_199 (w : Wd σ) : st_S σ 199 = (21, 40) := w.1 (199, (21, 40)) (List.mem_of_getElem? (i := 62) rfl)
theorem wS_200 (w : Wd σ) : st_S σ 200 = (21, 40) := w.1 (200, (21, 40)) (List.mem_of_getElem? (i := 63) rfl)
theorem wS_201 (w : Wd σ) : st_S σ 201 = (21, 40) := w.1 (201, (21, 40)) (List.mem_of_getElem? (i := 64) rfl)
theorem wS_202 (w : Wd σ) : st_S σ 202 = (21, 40) := w.1 (202, (21, 40)) (List.mem_of_getElem? (i := 65) rfl)
theorem wS_203 (w : Wd σ) : st_S σ 203 = (21, 5) := w.1 (203, (21, 5)) (List.mem_of_getElem? (i := 66) rfl)
theorem wS_204 (w : Wd σ) : st_S σ 204 = (22, 65536) := w.1 (204, (22, 65536)) (List.mem_of_getElem? (i := 67) rfl)
theorem wS_205 (w : Wd σ) : st_S σ 205 = (22, 65536) := w.1 (205, (22, 65536)) (List.mem_of_getElem? (i := 68) rfl)
theorem wS_206 (w : Wd σ) : st_S σ 206 = (21, 65536) := w.1 (206, (21, 65536)) (List.mem_of_getElem? (i := 69) rfl)
theorem wS_207 (w : Wd σ) : st_S σ 207 = (21, 65536) := w.1 (207, (21, 65536)) (List.mem_of_getElem? (i := 70) rfl)
theorem wS_208 (w : Wd σ) : st_S σ 208 = (21, 65536) := w.1 (208, (21, 65536)) (List.mem_of_getElem? (i := 71) rfl)
theorem wS_209 (w : Wd σ) : st_S σ 209 = (21, 65536) := w.1 (209, (21, 65536)) (List.mem_of_getElem? (i := 72) rfl)
theorem wS_210 (w : Wd σ) : st_S σ 210 = (22, 65536) := w.1 (210, (22, 65536)) (List.mem_of_getElem? (i := 73) rfl)
theorem wS_211 (w : Wd σ) : st_S σ 211 = (24, 40) := w.1 (211, (24, 40)) (List.mem_of_getElem? (i := 74) rfl)
theorem wS_212 (w : Wd σ) : st_S σ 212 = (21, 60) := w.1 (212, (21, 60)) (List.mem_of_getElem? (i := 75) rfl)
theorem wS_213 (w : Wd σ) : st_S σ 213 = (21, 28) := w.1 (213, (21, 28)) (List.mem_of_getElem? (i := 76) rfl)
theorem wS_214 (w : Wd σ) : st_S σ 214 = (21, 180) := w.1 (214, (21, 180)) (List.mem_of_getElem? (i := 77) rfl)
theorem wS_215 (w : Wd σ) : st_S σ 215 = (21, 3) := w.1 (215, (21, 3)) (List.mem_of_getElem? (i := 78) rfl)
theorem wS_216 (w : Wd σ) : st_S σ 216 = (21, 3) := w.1 (216, (21, 3)) (List.mem_of_getElem? (i := 79) rfl)
theorem wS_217 (w : Wd σ) : st_S σ 217 = (24, 65536) := w.1 (217, (24, 65536)) (List.mem_of_getElem? (i := 80) rfl)
theorem wS_218 (w : Wd σ) : st_S σ 218 = (23, 1000) := w.1 (218, (23, 1000)) (List.mem_of_getElem? (i := 81) rfl)
theorem wS_219 (w : Wd σ) : st_S σ 219 = (22, 1) := w.1 (219, (22, 1)) (List.mem_of_getElem? (i := 82) rfl)
theorem wR_128_0 (w : Wd σ) : st_R σ 128 0 = some 129 := w.2.1 ((128, 0), 129) (List.mem_of_getElem? (i := 0) rfl)
theorem wR_130_0 (w : Wd σ) : st_R σ 130 0 = some 131 := w.2.1 ((130, 0), 131) (List.mem_of_getElem? (i := 1) rfl)
theorem wR_128_2 (w : Wd σ) : st_R σ 128 2 = some 130 := w.2.1 ((128, 2), 130) (List.mem_of_getElem? (i := 2) rfl)
theorem wR_132_0 (w : Wd σ) : st_R σ 132 0 = some 133 := w.2.1 ((132, 0), 133) (List.mem_of_getElem? (i := 3) rfl)
theorem wR_132_1 (w : Wd σ) : st_R σ 132 1 = some 134 := w.2.1 ((132, 1), 134) (List.mem_of_getElem? (i := 4) rfl)
theorem wR_132_2 (w : Wd σ) : st_R σ 132 2 = some 135 := w.2.1 ((132, 2), 135) (List.mem_of_getElem? (i := 5) rfl)
theorem wR_132_3 (w : Wd σ) : st_R σ 132 3 = some 136 := w.2.1 ((132, 3), 136) (List.mem_of_getElem? (i := 6) rfl)
theorem wR_128_3 (w : Wd σ) : st_R σ 128 3 = some 132 := w.2.1 ((128, 3), 132) (List.mem_of_getElem? (i := 7) rfl)
theorem wR_137_0 (w : Wd σ) : st_R σ 137 0 = some 138 := w.2.1 ((137, 0), 138) (List.mem_of_getElem? (i := 8) rfl)
theorem wR_137_1 (w : Wd σ) : st_R σ 137 1 = some 139 := w.2.1 ((137, 1), 139) (List.mem_of_getElem? (i := 9) rfl)
theorem wR_137_2 (w : Wd σ) : st_R σ 137 2 = some 140 := w.2.1 ((137, 2), 140) (List.mem_of_getElem? (i := 10) rfl)
theorem wR_137_3 (w : Wd σ) : st_R σ 137 3 = some 141 := w.2.1 ((137, 3), 141) (List.mem_of_getElem? (i := 11) rfl)
theorem wR_128_4 (w : Wd σ) : st_R σ 128 4 = some 137 := w.2.1 ((128, 4), 137) (List.mem_of_getElem? (i := 12) rfl)
theorem wR_143_1 (w : Wd σ) : st_R σ 143 1 = some 144 := w.2.1 ((143, 1), 144) (List.mem_of_getElem? (i := 13) rfl)
theorem wR_143_2 (w : Wd σ) : st_R σ 143 2 = some 145 := w.2.1 ((143, 2), 145) (List.mem_of_getElem? (i := 14) rfl)
theorem wR_143_3 (w : Wd σ) : st_R σ 143 3 = some 146 := w.2.1 ((143, 3), 146) (List.mem_of_getElem? (i := 15) rfl)
theorem wR_143_0 (w : Wd σ) : st_R σ 143 0 = some 129 := w.2.1 ((143, 0), 129) (List.mem_of_getElem? (i := 16) rfl)
theorem wR_142_0 (w : Wd σ) : st_R σ 142 0 = some 143 := w.2.1 ((142, 0), 143) (List.mem_of_getElem? (i := 17) rfl)
theorem wR_142_1 (w : Wd σ) : st_R σ 142 1 = some 137 := w.2.1 ((142, 1), 137) (List.mem_of_getElem? (i := 18) rfl)
theorem wR_128_5 (w : Wd σ) : st_R σ 128 5 = some 142 := w.2.1 ((128, 5), 142) (List.mem_of_getElem? (i := 19) rfl)
theorem wR_147_2 (w : Wd σ) : st_R σ 147 2 = some 148 := w.2.1 ((147, 2), 148) (List.mem_of_getElem? (i := 20) rfl)
theorem wR_147_3 (w : Wd σ) : st_R σ 147 3 = some 152 := w.2.1 ((147, 3), 152) (List.mem_of_getElem? (i := 21) rfl)
theorem wR_147_0 (w : Wd σ) : st_R σ 147 0 = some 132 := w.2.1 ((147, 0), 132) (List.mem_of_getElem? (i := 22) rfl)
theorem wR_153_1 (w : Wd σ) : st_R σ 153 1 = some 154 := w.2.1 ((153, 1), 154) (List.mem_of_getElem? (i := 23) rfl)
theorem wR_153_2 (w : Wd σ) : st_R σ 153 2 = some 155 := w.2.1 ((153, 2), 155) (List.mem_of_getElem? (i := 24) rfl)
theorem wR_153_3 (w : Wd σ) : st_R σ 153 3 = some 156 := w.2.1 ((153, 3), 156) (List.mem_of_getElem? (i := 25) rfl)
theorem wR_153_4 (w : Wd σ) : st_R σ 153 4 = some 157 := w.2.1 ((153, 4), 157) (List.mem_of_getElem? (i := 26) rfl)
theorem wR_153_5 (w : Wd σ) : st_R σ 153 5 = some 158 := w.2.1 ((153, 5), 158) (List.mem_of_getElem? (i := 27) rfl)
theorem wR_153_6 (w : Wd σ) : st_R σ 153 6 = some 159 := w.2.1 ((153, 6), 159) (List.mem_of_getElem? (i := 28) rfl)
theorem wR_153_7 (w : Wd σ) : st_R σ 153 7 = some 160 := w.2.1 ((153, 7), 160) (List.mem_of_getElem? (i := 29) rfl)
theorem wR_153_8 (w : Wd σ) : st_R σ 153 8 = some 161 := w.2.1 ((153, 8), 161) (List.mem_of_getElem? (i := 30) rfl)
theorem wR_153_9 (w : Wd σ) : st_R σ 153 9 = some 162 := w.2.1 ((153, 9), 162) (List.mem_of_getElem? (i := 31) rfl)
theorem wR_153_10 (w : Wd σ) : st_R σ 153 10 = some 163 := w.2.1 ((153, 10), 163) (List.mem_of_getElem? (i := 32) rfl)
theorem wR_153_0 (w : Wd σ) : st_R σ 153 0 = some 132 := w.2.1 ((153, 0), 132) (List.mem_of_getElem? (i := 33) rfl)
theorem wR_147_1 (w : Wd σ) : st_R σ 147 1 = some 153 := w.2.1 ((147, 1), 153) (List.mem_of_getElem? (i := 34) rfl)
theorem wR_128_6 (w : Wd σ) : st_R σ 128 6 = some 147 := w.2.1 ((128, 6), 147) (List.mem_of_getElem? (i := 35) rfl)
theorem wR_164_5 (w : Wd σ) : st_R σ 164 5 = some 167 := w.2.1 ((164, 5), 167) (List.mem_of_getElem? (i := 36) rfl)
theorem wR_164_6 (w : Wd σ) : st_R σ 164 6 = some 168 := w.2.1 ((164, 6), 168) (List.mem_of_getElem? (i := 37) rfl)
theorem wR_128_7 (w : Wd σ) : st_R σ 128 7 = some 164 := w.2.1 ((128, 7), 164) (List.mem_of_getElem? (i := 38) rfl)
theorem wR_169_5 (w : Wd σ) : st_R σ 169 5 = some 172 := w.2.1 ((169, 5), 172) (List.mem_of_getElem? (i := 39) rfl)
theorem wR_169_6 (w : Wd σ) : st_R σ 169 6 = some 173 := w.2.1 ((169, 6), 173) (List.mem_of_getElem? (i := 40) rfl)
theorem wR_128_8 (w : Wd σ) : st_R σ 128 8 = some 169 := w.2.1 ((128, 8), 169) (List.mem_of_getElem? (i := 41) rfl)
theorem wR_174_5 (w : Wd σ) : st_R σ 174 5 = some 177 := w.2.1 ((174, 5), 177) (List.mem_of_getElem? (i := 42) rfl)
theorem wR_174_6 (w : Wd σ) : st_R σ 174 6 = some 178 := w.2.1 ((174, 6), 178) (List.mem_of_getElem? (i := 43) rfl)
theorem wR_128_9 (w : Wd σ) : st_R σ 128 9 = some 174 := w.2.1 ((128, 9), 174) (List.mem_of_getElem? (i := 44) rfl)
theorem wR_179_0 (w : Wd σ) : st_R σ 179 0 = some 180 := w.2.1 ((179, 0), 180) (List.mem_of_getElem? (i := 45) rfl)
theorem wR_128_10 (w : Wd σ) : st_R σ 128 10 = some 179 := w.2.1 ((128, 10), 179) (List.mem_of_getElem? (i := 46) rfl)
theorem wR_181_1 (w : Wd σ) : st_R σ 181 1 = some 182 := w.2.1 ((181, 1), 182) (List.mem_of_getElem? (i := 47) rfl)
theorem wR_181_2 (w : Wd σ) : st_R σ 181 2 = some 183 := w.2.1 ((181, 2), 183) (List.mem_of_getElem? (i := 48) rfl)
theorem wR_181_3 (w : Wd σ) : st_R σ 181 3 = some 184 := w.2.1 ((181, 3), 184) (List.mem_of_getElem? (i := 49) rfl)
theorem wR_181_0 (w : Wd σ) : st_R σ 181 0 = some 132 := w.2.1 ((181, 0), 132) (List.mem_of_getElem? (i := 50) rfl)
theorem wR_128_11 (w : Wd σ) : st_R σ 128 11 = some 181 := w.2.1 ((128, 11), 181) (List.mem_of_getElem? (i := 51) rfl)
theorem wR_185_1 (w : Wd σ) : st_R σ 185 1 = some 186 := w.2.1 ((185, 1), 186) (List.mem_of_getElem? (i := 52) rfl)
theorem wR_185_3 (w : Wd σ) : st_R σ 185 3 = some 187 := w.2.1 ((185, 3), 187) (List.mem_of_getElem? (i := 53) rfl)
theorem wR_185_4 (w : Wd σ) : st_R σ 185 4 = some 188 := w.2.1 ((185, 4), 188) (List.mem_of_getElem? (i := 54) rfl)
theorem wR_185_5 (w : Wd σ) : st_R σ 185 5 = some 189 := w.2.1 ((185, 5), 189) (List.mem_of_getElem? (i := 55) rfl)
theorem wR_185_6 (w : Wd σ) : st_R σ 185 6 = some 190 := w.2.1 ((185, 6), 190) (List.mem_of_getElem? (i := 56) rfl)
theorem wR_185_7 (w : Wd σ) : st_R σ 185 7 = some 191 := w.2.1 ((185, 7), 191) (List.mem_of_getElem? (i := 57) rfl)
theorem wR_185_8 (w : Wd σ) : st_R σ 185 8 = some 192 := w.2.1 ((185, 8), 192) (List.mem_of_getElem? (i := 58) rfl)
theorem wR_185_9 (w : Wd σ) : st_R σ 185 9 = some 193 := w.2.1 ((185, 9), 193) (List.mem_of_getElem? (i := 59) rfl)
theorem wR_185_18 (w : Wd σ) : st_R σ 185 18 = some 194 := w.2.1 ((185, 18), 194) (List.mem_of_getElem? (i := 60) rfl)
theorem wR_185_19 (w : Wd σ) : st_R σ 185 19 = some 195 := w.2.1 ((185, 19), 195) (List.mem_of_getElem? (i := 61) rfl)
theorem wR_185_23 (w : Wd σ) : st_R σ 185 23 = some 196 := w.2.1 ((185, 23), 196) (List.mem_of_getElem? (i := 62) rfl)
theorem wR_185_24 (w : Wd σ) : st_R σ 185 24 = some 197 := w.2.1 ((185, 24), 197) (List.mem_of_getElem? (i := 63) rfl)
theorem wR_185_25 (w : Wd σ) : st_R σ 185 25 = some 198 := w.2.1 ((185, 25), 198) (List.mem_of_getElem? (i := 64) rfl)
theorem wR_185_26 (w : Wd σ) : st_R σ 185 26 = some 199 := w.2.1 ((185, 26), 199) (List.mem_of_getElem? (i := 65) rfl)
theorem wR_185_27 (w : Wd σ) : st_R σ 185 27 = some 200 := w.2.1 ((185, 27), 200) (List.mem_of_getElem? (i := 66) rfl)
theorem wR_185_28 (w : Wd σ) : st_R σ 185 28 = some 201 := w.2.1 ((185, 28), 201) (List.mem_of_getElem? (i := 67) rfl)
theorem wR_185_29 (w : Wd σ) : st_R σ 185 29 = some 202 := w.2.1 ((185, 29), 202) (List.mem_of_getElem? (i := 68) rfl)
theorem wR_185_30 (w : Wd σ) : st_R σ 185 30 = some 203 := w.2.1 ((185, 30), 203) (List.mem_of_getElem? (i := 69) rfl)
theorem wR_185_35 (w : Wd σ) : st_R σ 185 35 = some 204 := w.2.1 ((185, 35), 204) (List.mem_of_getElem? (i := 70) rfl)
theorem wR_185_36 (w : Wd σ) : st_R σ 185 36 = some 205 := w.2.1 ((185, 36), 205) (List.mem_of_getElem? (i := 71) rfl)
theorem wR_185_37 (w : Wd σ) : st_R σ 185 37 = some 206 := w.2.1 ((185, 37), 206) (List.mem_of_getElem? (i := 72) rfl)
theorem wR_185_38 (w : Wd σ) : st_R σ 185 38 = some 207 := w.2.1 ((185, 38), 207) (List.mem_of_getElem? (i := 73) rfl)
theorem wR_185_41 (w : Wd σ) : st_R σ 185 41 = some 208 := w.2.1 ((185, 41), 208) (List.mem_of_getElem? (i := 74) rfl)
theorem wR_185_42 (w : Wd σ) : st_R σ 185 42 = some 209 := w.2.1 ((185, 42), 209) (List.mem_of_getElem? (i := 75) rfl)
theorem wR_185_43 (w : Wd σ) : st_R σ 185 43 = some 210 := w.2.1 ((185, 43), 210) (List.mem_of_getElem? (i := 76) rfl)
theorem wR_185_46 (w : Wd σ) : st_R σ 185 46 = some 211 := w.2.1 ((185, 46), 211) (List.mem_of_getElem? (i := 77) rfl)
theorem wR_185_48 (w : Wd σ) : st_R σ 185 48 = some 212 := w.2.1 ((185, 48), 212) (List.mem_of_getElem? (i := 78) rfl)
theorem wR_185_49 (w : Wd σ) : st_R σ 185 49 = some 213 := w.2.1 ((185, 49), 213) (List.mem_of_getElem? (i := 79) rfl)
theorem wR_185_50 (w : Wd σ) : st_R σ 185 50 = some 214 := w.2.1 ((185, 50), 214) (List.mem_of_getElem? (i := 80) rfl)
theorem wR_185_51 (w : Wd σ) : st_R σ 185 51 = some 215 := w.2.1 ((185, 51), 215) (List.mem_of_getElem? (i := 81) rfl)
theorem wR_185_52 (w : Wd σ) : st_R σ 185 52 = some 216 := w.2.1 ((185, 52), 216) (List.mem_of_getElem? (i := 82) rfl)
theorem wR_185_54 (w : Wd σ) : st_R σ 185 54 = some 217 := w.2.1 ((185, 54), 217) (List.mem_of_getElem? (i := 83) rfl)
theorem wR_185_55 (w : Wd σ) : st_R σ 185 55 = some 218 := w.2.1 ((185, 55), 218) (List.mem_of_getElem? (i := 84) rfl)
def is_pg (a : Nat) : Prop := a = 132 ∨ a = 137
theorem wC_pg (w : Wd σ) (ha : is_pg a) : (st_S σ a).1 = 8 := by
  rcases ha with rfl | rfl
  · exact wC_132 w
  · exact wC_137 w
theorem wS_pg1 (w : Wd σ) (ha : is_pg a) : st_S σ (a + 1) = (22, 3) := by
  rcases ha with rfl | rfl
  · exact wS_133 w
  · exact wS_138 w
theorem wS_pg2 (w : Wd σ) (ha : is_pg a) : st_S σ (a + 2) = (21, 3) := by
  rcases ha with rfl | rfl
  · exact wS_134 w
  · exact wS_139 w
theorem wS_pg3 (w : Wd σ) (ha : is_pg a) : st_S σ (a + 3) = (21, 60) := by
  rcases ha with rfl | rfl
  · exact wS_135 w
  · exact wS_140 w
theorem wS_pg4 (w : Wd σ) (ha : is_pg a) : st_S σ (a + 4) = (21, 32) := by
  rcases ha with rfl | rfl
  · exact wS_136 w
  · exact wS_141 w
theorem wR_pg_0 (w : Wd σ) (ha : is_pg a) : st_R σ a 0 = some (a + 1) := by
  rcases ha with rfl | rfl
  · exact wR_132_0 w
  · exact wR_137_0 w
theorem wR_pg_1 (w : Wd σ) (ha : is_pg a) : st_R σ a 1 = some (a + 2) := by
  rcases ha with rfl | rfl
  · exact wR_132_1 w
  · exact wR_137_1 w
theorem wR_pg_2 (w : Wd σ) (ha : is_pg a) : st_R σ a 2 = some (a + 3) := by
  rcases ha with rfl | rfl
  · exact wR_132_2 w
  · exact wR_137_2 w
theorem wR_pg_3 (w : Wd σ) (ha : is_pg a) : st_R σ a 3 = some (a + 4) := by
  rcases ha with rfl | rfl
  · exact wR_132_3 w
  · exact wR_137_3 w
def is_fi (a : Nat) : Prop := a = 164 ∨ a = 169 ∨ a = 174
theorem wC_fi (w : Wd σ) (ha : is_fi a) : (st_S σ a).1 = 4 := by
  rcases ha with rfl | rfl | rfl
  · exact wC_164 w
  · exact wC_169 w
  · exact wC_174 w
theorem wS_fi3 (w : Wd σ) (ha : is_fi a) : st_S σ (a + 3) = (21, 64) := by
  rcases ha with rfl | rfl | rfl
  · exact wS_167 w
  · exact wS_172 w
  · exact wS_177 w
theorem wS_fi4 (w : Wd σ) (ha : is_fi a) : st_S σ (a + 4) = (21, 64) := by
  rcases ha with rfl | rfl | rfl
  · exact wS_168 w
  · exact wS_173 w
  · exact wS_178 w
theorem wR_fi_5 (w : Wd σ) (ha : is_fi a) : st_R σ a 5 = some (a + 3) := by
  rcases ha with rfl | rfl | rfl
  · exact wR_164_5 w
  · exact wR_169_5 w
  · exact wR_174_5 w
theorem wR_fi_6 (w : Wd σ) (ha : is_fi a) : st_R σ a 6 = some (a + 4) := by
  rcases ha with rfl | rfl | rfl
  · exact wR_164_6 w
  · exact wR_169_6 w
  · exact wR_174_6 w
theorem wN_fi_0 (ha : is_fi a) : ∀ q ∈ wdR, ¬ (q.1.1 = a ∧ q.1.2 = 0) := by
  rcases ha with rfl | rfl | rfl
  · decide +kernel
  · decide +kernel
  · decide +kernel
theorem wN_fi_1 (ha : is_fi a) : ∀ q ∈ wdR, ¬ (q.1.1 = a ∧ q.1.2 = 1) := by
  rcases ha with rfl | rfl | rfl
  · decide +kernel
  · decide +kernel
  · decide +kernel
theorem wN_148_2 : ∀ q ∈ wdR, ¬ (q.1.1 = 148 ∧ q.1.2 = 2) := by decide +kernel
theorem wN_148_0 : ∀ q ∈ wdR, ¬ (q.1.1 = 148 ∧ q.1.2 = 0) := by decide +kernel
theorem wN_148_1 : ∀ q ∈ wdR, ¬ (q.1.1 = 148 ∧ q.1.2 = 1) := by decide +kernel
theorem wA_144 : ∀ q ∈ wdR, ¬ q.1.1 = 144 := by decide +kernel
theorem Wd_R {k : Nat} {v : Option Nat} (w : Wd σ) (h : ∀ q ∈ wdR, ¬ (q.1.1 = a ∧ q.1.2 = k)) : Wd (pt_R σ a k v) :=
  ⟨w.1, fun q hq => by rw [st_pR, if_neg (h q hq)]; exact w.2.1 q hq, w.2.2⟩
theorem Wd_A {k : Nat} {v : Option Nat} (w : Wd σ) (h : ∀ q ∈ wdR, ¬ q.1.1 = a) : Wd (pt_R σ a k v) := Wd_R w (fun q hq e => h q hq e.1)
theorem wdS_lt : ∀ q ∈ wdS, q.1 < 220 := by decide +kernel
theorem wdR_lt : ∀ q ∈ wdR, q.1.1 < 220 := by decide +kernel
theorem Wd_N {κ len z : Nat} (w : Wd σ) : Wd (pt_N σ κ len z) := by
  have h := w.2.2
  refine ⟨fun q hq => ?_, fun q hq => ?_, Nat.le_succ_of_le h⟩
  · have h2 := wdS_lt q hq
    show (if q.1 = st_n σ then (κ, len) else st_S σ q.1) = q.2
    rw [if_neg (by omega)]
    exact w.1 q hq
  · have h2 := wdR_lt q hq
    show (if q.1.1 = st_n σ then none else st_R σ q.1.1 q.1.2) = some q.2
    rw [if_neg (by omega)]
    exact w.2.1 q hq
end WD
