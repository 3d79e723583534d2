/-! THE SHAPE THAT STAYS: 304 places, made ahead of the first call -/
def shT : List (Nat × Nat) := [(0, 11), (0, 10), (1, 400), (1, 401), (1, 401), (0, 1), (0, 4), (1, 12), (1, 12), (1, 13), (1, 400), (0, 0), (2, 60), (1, 60), (1, 60), (2, 60), (2, 60), (1, 6), (1, 6), (1, 6), (1, 6), (0, 5), (1, 300), (0, 0), (2, 60), (1, 60), (1, 60), (2, 60), (2, 60), (1, 6), (1, 6), (1, 6), (1, 6), (0, 5), (1, 300), (0, 0), (2, 60), (1, 60), (1, 60), (2, 60), (2, 60), (1, 6), (1, 6), (1, 6), (1, 6), (0, 5), (1, 300), (5, 12), (0, 8), (1, 49), (1, 49), (1, 49), (1, 49), (0, 7), (1, 60), (1, 49), (6, 64), (1, 36), (1, 36), (1, 36), (1, 36), (1, 36), (1, 36), (1, 36), (1, 36), (1, 36), (1, 36), (1, 36), (1, 36), (1, 36), (1, 36), (1, 36), (1, 36), (1, 36), (1, 36), (1, 36), (1, 36), (1, 36), (1, 36), (1, 36), (1, 36), (1, 36), (1, 36), (1, 36), (1, 36), (1, 36), (1, 36), (1, 36), (1, 36), (1, 36), (1, 36), (1, 36), (1, 36), (1, 36), (1, 36), (1, 36), (1, 36), (1, 36), (1, 36), (1, 36), (1, 36), (1, 36), (1, 36), (1, 36), (1, 36), (1, 36), (1, 36), (1, 36), (1, 36), (1, 36), (1, 36), (1, 36), (1, 36), (1, 36), (1, 36), (1, 36), (1, 36), (1, 36), (1, 36), (1, 36), (1, 36), (1, 60), (1, 36), (1, 36), (0, 6), (1, 36), (1, 36), (6, 6), (1, 6), (1, 6), (1, 6), (1, 6), (1, 6), (1, 6), (1, 64), (1, 6), (0, 9), (1, 1000), (1, 900), (0, 0), (2, 60), (1, 60), (1, 60), (2, 60), (2, 60), (1, 6), (1, 6), (1, 6), (1, 6), (0, 5), (1, 300), (0, 0), (2, 60), (1, 60), (1, 60), (2, 60), (2, 60), (1, 6), (1, 6), (1, 6), (1, 6), (0, 5), (1, 300), (0, 0), (2, 60), (1, 60), (1, 60), (2, 60), (2, 60), (1, 6), (1, 6), (1, 6), (1, 6), (0, 5), (1, 300), (0, 0), (2, 60), (1, 60), (1, 60), (2, 60), (2, 60), (1, 6), (1, 6), (1, 6), (1, 6), (0, 5), (1, 300), (0, 0), (2, 60), (1, 60), (1, 60), (2, 60), (2, 60), (1, 6), (1, 6), (1, 6), (1, 6), (0, 5), (1, 300), (0, 0), (2, 60), (1, 60), (1, 60), (2, 60), (2, 60), (1, 6), (1, 6), (1, 6), (1, 6), (0, 5), (1, 300), (0, 0), (2, 60), (1, 60), (1, 60), (2, 60), (2, 60), (1, 6), (1, 6), (1, 6), (1, 6), (0, 5), (1, 300), (0, 0), (2, 60), (1, 60), (1, 60), (2, 60), (2, 60), (1, 6), (1, 6), (1, 6), (1, 6), (0, 5), (1, 300), (0, 0), (2, 60), (1, 60), (1, 60), (2, 60), (2, 60), (1, 6), (1, 6), (1, 6), (1, 6), (0, 5), (1, 300), (0, 0), (2, 60), (1, 60), (1, 60), (2, 60), (2, 60), (1, 6), (1, 6), (1, 6), (1, 6), (0, 5), (1, 300), (0, 0), (2, 60), (1, 60), (1, 60), (2, 60), (2, 60), (1, 6), (1, 6), (1, 6), (1, 6), (0, 5), (1, 300), (0, 0), (2, 60), (1, 60), (1, 60), (2, 60), (2, 60), (1, 6), (1, 6), (1, 6), (1, 6), (0, 5), (1, 300), (0, 12), (1, 2329), (1, 1480), (1, 1480), (1, 631), (1, 7572), (3, 400), (1, 5), (1, 400), (1, 36), (1, 36), (1, 60), (1, 36), (1, 36), (1, 2304), (1, 49), (2, 1000), (1, 1000), (1, 64), (1, 36), (4, 1)]
def shP : List (Nat × Nat × Nat) := [(0, 0, 1), (0, 1, 5), (0, 2, 6), (0, 3, 11), (0, 4, 23), (0, 5, 35), (0, 7, 47), (0, 10, 48), (0, 11, 53), (0, 12, 124), (0, 13, 136), (1, 0, 2), (1, 3, 3), (1, 4, 4), (5, 0, 1), (6, 0, 1), (6, 1, 7), (6, 2, 8), (6, 3, 9), (6, 4, 10), (11, 0, 12), (11, 1, 13), (11, 2, 14), (11, 3, 15), (11, 4, 16), (11, 6, 17), (11, 7, 18), (11, 8, 19), (11, 9, 20), (11, 15, 21), (21, 0, 22), (23, 0, 24), (23, 1, 25), (23, 2, 26), (23, 3, 27), (23, 4, 28), (23, 6, 29), (23, 7, 30), (23, 8, 31), (23, 9, 32), (23, 15, 33), (33, 0, 34), (35, 0, 36), (35, 1, 37), (35, 2, 38), (35, 3, 39), (35, 4, 40), (35, 6, 41), (35, 7, 42), (35, 8, 43), (35, 9, 44), (35, 15, 45), (45, 0, 46), (47, 0, 139), (47, 1, 151), (47, 2, 163), (47, 3, 175), (47, 4, 187), (47, 5, 199), (47, 6, 211), (47, 7, 223), (47, 8, 235), (47, 9, 247), (47, 10, 259), (47, 11, 271), (48, 0, 49), (48, 1, 50), (48, 2, 51), (48, 3, 52), (53, 0, 54), (53, 1, 55), (53, 2, 56), (53, 3, 121), (53, 4, 122), (53, 5, 123), (56, 0, 57), (56, 1, 58), (56, 2, 59), (56, 3, 60), (56, 4, 61), (56, 5, 62), (56, 6, 63), (56, 7, 64), (56, 8, 65), (56, 9, 66), (56, 10, 67), (56, 11, 68), (56, 12, 69), (56, 13, 70), (56, 14, 71), (56, 15, 72), (56, 16, 73), (56, 17, 74), (56, 18, 75), (56, 19, 76), (56, 20, 77), (56, 21, 78), (56, 22, 79), (56, 23, 80), (56, 24, 81), (56, 25, 82), (56, 26, 83), (56, 27, 84), (56, 28, 85), (56, 29, 86), (56, 30, 87), (56, 31, 88), (56, 32, 89), (56, 33, 90), (56, 34, 91), (56, 35, 92), (56, 36, 93), (56, 37, 94), (56, 38, 95), (56, 39, 96), (56, 40, 97), (56, 41, 98), (56, 42, 99), (56, 43, 100), (56, 44, 101), (56, 45, 102), (56, 46, 103), (56, 47, 104), (56, 48, 105), (56, 49, 106), (56, 50, 107), (56, 51, 108), (56, 52, 109), (56, 53, 110), (56, 54, 111), (56, 55, 112), (56, 56, 113), (56, 57, 114), (56, 58, 115), (56, 59, 116), (56, 60, 117), (56, 61, 118), (56, 62, 119), (56, 63, 120), (124, 0, 48), (124, 1, 53), (124, 2, 125), (124, 3, 126), (124, 4, 127), (124, 5, 134), (124, 6, 135), (127, 0, 128), (127, 1, 129), (127, 2, 130), (127, 3, 131), (127, 4, 132), (127, 5, 133), (136, 0, 137), (136, 1, 138), (139, 0, 140), (139, 1, 141), (139, 2, 142), (139, 3, 143), (139, 4, 144), (139, 6, 145), (139, 7, 146), (139, 8, 147), (139, 9, 148), (139, 15, 149), (149, 0, 150), (151, 0, 152), (151, 1, 153), (151, 2, 154), (151, 3, 155), (151, 4, 156), (151, 6, 157), (151, 7, 158), (151, 8, 159), (151, 9, 160), (151, 15, 161), (161, 0, 162), (163, 0, 164), (163, 1, 165), (163, 2, 166), (163, 3, 167), (163, 4, 168), (163, 6, 169), (163, 7, 170), (163, 8, 171), (163, 9, 172), (163, 15, 173), (173, 0, 174), (175, 0, 176), (175, 1, 177), (175, 2, 178), (175, 3, 179), (175, 4, 180), (175, 6, 181), (175, 7, 182), (175, 8, 183), (175, 9, 184), (175, 15, 185), (185, 0, 186), (187, 0, 188), (187, 1, 189), (187, 2, 190), (187, 3, 191), (187, 4, 192), (187, 6, 193), (187, 7, 194), (187, 8, 195), (187, 9, 196), (187, 15, 197), (197, 0, 198), (199, 0, 200), (199, 1, 201), (199, 2, 202), (199, 3, 203), (199, 4, 204), (199, 6, 205), (199, 7, 206), (199, 8, 207), (199, 9, 208), (199, 15, 209), (209, 0, 210), (211, 0, 212), (211, 1, 213), (211, 2, 214), (211, 3, 215), (211, 4, 216), (211, 6, 217), (211, 7, 218), (211, 8, 219), (211, 9, 220), (211, 15, 221), (221, 0, 222), (223, 0, 224), (223, 1, 225), (223, 2, 226), (223, 3, 227), (223, 4, 228), (223, 6, 229), (223, 7, 230), (223, 8, 231), (223, 9, 232), (223, 15, 233), (233, 0, 234), (235, 0, 236), (235, 1, 237), (235, 2, 238), (235, 3, 239), (235, 4, 240), (235, 6, 241), (235, 7, 242), (235, 8, 243), (235, 9, 244), (235, 15, 245), (245, 0, 246), (247, 0, 248), (247, 1, 249), (247, 2, 250), (247, 3, 251), (247, 4, 252), (247, 6, 253), (247, 7, 254), (247, 8, 255), (247, 9, 256), (247, 15, 257), (257, 0, 258), (259, 0, 260), (259, 1, 261), (259, 2, 262), (259, 3, 263), (259, 4, 264), (259, 6, 265), (259, 7, 266), (259, 8, 267), (259, 9, 268), (259, 15, 269), (269, 0, 270), (271, 0, 272), (271, 1, 273), (271, 2, 274), (271, 3, 275), (271, 4, 276), (271, 6, 277), (271, 7, 278), (271, 8, 279), (271, 9, 280), (271, 15, 281), (281, 0, 282), (283, 1, 284), (283, 2, 285), (283, 3, 286), (283, 4, 287), (283, 5, 288), (283, 8, 289), (283, 15, 290), (283, 17, 291), (283, 20, 292), (283, 21, 293), (283, 22, 294), (283, 23, 295), (283, 24, 296), (283, 25, 297), (283, 26, 298), (283, 27, 299), (283, 28, 300), (283, 29, 301), (283, 30, 302)]
/-- the shape -/
def Sh (h : am_H) : Prop := (∀ k, k < 304 → hT h k = shT.getD k (0, 0)) ∧ (∀ z ∈ shP, rP h z.1 z.2.1 = some z.2.2) ∧ 304 ≤ hZ h
theorem Sh.T {h : am_H} (s : Sh h) (k : Nat) (hk : Nat.blt k 304 = true) : hT h k = shT.getD k (0, 0) := s.1 k (Nat.lt_of_lt_of_le (Nat.lt_succ_self k) (Nat.le_of_ble_eq_true hk))
theorem Sh.P {h : am_H} (s : Sh h) (i : Nat) {a j v : Nat} (hi : shP[i]? = some (a, j, v)) : rP h a j = some v := s.2.1 (a, j, v) (List.mem_of_getElem? hi)
/-- the counties: now, draft, kept, and twelve remembered -/
def isC (a : Nat) : Prop := a = 11 ∨ a = 23 ∨ a = 35 ∨ a = 139 ∨ a = 151 ∨ a = 163 ∨ a = 175 ∨ a = 187 ∨ a = 199 ∨ a = 211 ∨ a = 223 ∨ a = 235 ∨ a = 247 ∨ a = 259 ∨ a = 271
def Cty (h : am_H) (a : Nat) : Prop := hT h (a) = (0, 0) ∧ hT h (a + 1) = (2, 60) ∧ hT h (a + 2) = (1, 60) ∧ hT h (a + 3) = (1, 60) ∧ hT h (a + 4) = (2, 60) ∧ hT h (a + 5) = (2, 60) ∧ hT h (a + 6) = (1, 6) ∧ hT h (a + 7) = (1, 6) ∧ hT h (a + 8) = (1, 6) ∧ hT h (a + 9) = (1, 6) ∧ hT h (a + 10) = (0, 5) ∧ hT h (a + 11) = (1, 300) ∧ rP h a 0 = some (a + 1) ∧ rP h a 1 = some (a + 2) ∧ rP h a 2 = some (a + 3) ∧ rP h a 3 = some (a + 4) ∧ rP h a 4 = some (a + 5) ∧ rP h a 6 = some (a + 6) ∧ rP h a 7 = some (a + 7) ∧ rP h a 8 = some (a + 8) ∧ rP h a 9 = some (a + 9) ∧ rP h a 15 = some (a + 10) ∧ rP h (a + 10) 0 = some (a + 11)
theorem cty_of {h : am_H} {a : Nat} (s : Sh h) (hc : isC a) : Cty h a := by
  unfold isC at hc
  rcases hc with rfl | rfl | rfl | rfl | rfl | rfl | rfl | rfl | rfl | rfl | rfl | rfl | rfl | rfl | rfl
  · exact ⟨s.T 11 rfl, s.T 12 rfl, s.T 13 rfl, s.T 14 rfl, s.T 15 rfl, s.T 16 rfl, s.T 17 rfl, s.T 18 rfl, s.T 19 rfl, s.T 20 rfl, s.T 21 rfl, s.T 22 rfl, s.P 20 rfl, s.P 21 rfl, s.P 22 rfl, s.P 23 rfl, s.P 24 rfl, s.P 25 rfl, s.P 26 rfl, s.P 27 rfl, s.P 28 rfl, s.P 29 rfl, s.P 30 rfl⟩
  · exact ⟨s.T 23 rfl, s.T 24 rfl, s.T 25 rfl, s.T 26 rfl, s.T 27 rfl, s.T 28 rfl, s.T 29 rfl, s.T 30 rfl, s.T 31 rfl, s.T 32 rfl, s.T 33 rfl, s.T 34 rfl, s.P 31 rfl, s.P 32 rfl, s.P 33 rfl, s.P 34 rfl, s.P 35 rfl, s.P 36 rfl, s.P 37 rfl, s.P 38 rfl, s.P 39 rfl, s.P 40 rfl, s.P 41 rfl⟩
  · exact ⟨s.T 35 rfl, s.T 36 rfl, s.T 37 rfl, s.T 38 rfl, s.T 39 rfl, s.T 40 rfl, s.T 41 rfl, s.T 42 rfl, s.T 43 rfl, s.T 44 rfl, s.T 45 rfl, s.T 46 rfl, s.P 42 rfl, s.P 43 rfl, s.P 44 rfl, s.P 45 rfl, s.P 46 rfl, s.P 47 rfl, s.P 48 rfl, s.P 49 rfl, s.P 50 rfl, s.P 51 rfl, s.P 52 rfl⟩
  · exact ⟨s.T 139 rfl, s.T 140 rfl, s.T 141 rfl, s.T 142 rfl, s.T 143 rfl, s.T 144 rfl, s.T 145 rfl, s.T 146 rfl, s.T 147 rfl, s.T 148 rfl, s.T 149 rfl, s.T 150 rfl, s.P 154 rfl, s.P 155 rfl, s.P 156 rfl, s.P 157 rfl, s.P 158 rfl, s.P 159 rfl, s.P 160 rfl, s.P 161 rfl, s.P 162 rfl, s.P 163 rfl, s.P 164 rfl⟩
  · exact ⟨s.T 151 rfl, s.T 152 rfl, s.T 153 rfl, s.T 154 rfl, s.T 155 rfl, s.T 156 rfl, s.T 157 rfl, s.T 158 rfl, s.T 159 rfl, s.T 160 rfl, s.T 161 rfl, s.T 162 rfl, s.P 165 rfl, s.P 166 rfl, s.P 167 rfl, s.P 168 rfl, s.P 169 rfl, s.P 170 rfl, s.P 171 rfl, s.P 172 rfl, s.P 173 rfl, s.P 174 rfl, s.P 175 rfl⟩
  · exact ⟨s.T 163 rfl, s.T 164 rfl, s.T 165 rfl, s.T 166 rfl, s.T 167 rfl, s.T 168 rfl, s.T 169 rfl, s.T 170 rfl, s.T 171 rfl, s.T 172 rfl, s.T 173 rfl, s.T 174 rfl, s.P 176 rfl, s.P 177 rfl, s.P 178 rfl, s.P 179 rfl, s.P 180 rfl, s.P 181 rfl, s.P 182 rfl, s.P 183 rfl, s.P 184 rfl, s.P 185 rfl, s.P 186 rfl⟩
  · exact ⟨s.T 175 rfl, s.T 176 rfl, s.T 177 rfl, s.T 178 rfl, s.T 179 rfl, s.T 180 rfl, s.T 181 rfl, s.T 182 rfl, s.T 183 rfl, s.T 184 rfl, s.T 185 rfl, s.T 186 rfl, s.P 187 rfl, s.P 188 rfl, s.P 189 rfl, s.P 190 rfl, s.P 191 rfl, s.P 192 rfl, s.P 193 rfl, s.P 194 rfl, s.P 195 rfl, s.P 196 rfl, s.P 197 rfl⟩
  · exact ⟨s.T 187 rfl, s.T 188 rfl, s.T 189 rfl, s.T 190 rfl, s.T 191 rfl, s.T 192 rfl, s.T 193 rfl, s.T 194 rfl, s.T 195 rfl, s.T 196 rfl, s.T 197 rfl, s.T 198 rfl, s.P 198 rfl, s.P 199 rfl, s.P 200 rfl, s.P 201 rfl, s.P 202 rfl, s.P 203 rfl, s.P 204 rfl, s.P 205 rfl, s.P 206 rfl, s.P 207 rfl, s.P 208 rfl⟩
  · exact ⟨s.T 199 rfl, s.T 200 rfl, s.T 201 rfl, s.T 202 rfl, s.T 203 rfl, s.T 204 rfl, s.T 205 rfl, s.T 206 rfl, s.T 207 rfl, s.T 208 rfl, s.T 209 rfl, s.T 210 rfl, s.P 209 rfl, s.P 210 rfl, s.P 211 rfl, s.P 212 rfl, s.P 213 rfl, s.P 214 rfl, s.P 215 rfl, s.P 216 rfl, s.P 217 rfl, s.P 218 rfl, s.P 219 rfl⟩
  · exact ⟨s.T 211 rfl, s.T 212 rfl, s.T 213 rfl, s.T 214 rfl, s.T 215 rfl, s.T 216 rfl, s.T 217 rfl, s.T 218 rfl, s.T 219 rfl, s.T 220 rfl, s.T 221 rfl, s.T 222 rfl, s.P 220 rfl, s.P 221 rfl, s.P 222 rfl, s.P 223 rfl, s.P 224 rfl, s.P 225 rfl, s.P 226 rfl, s.P 227 rfl, s.P 228 rfl, s.P 229 rfl, s.P 230 rfl⟩
  · exact ⟨s.T 223 rfl, s.T 224 rfl, s.T 225 rfl, s.T 226 rfl, s.T 227 rfl, s.T 228 rfl, s.T 229 rfl, s.T 230 rfl, s.T 231 rfl, s.T 232 rfl, s.T 233 rfl, s.T 234 rfl, s.P 231 rfl, s.P 232 rfl, s.P 233 rfl, s.P 234 rfl, s.P 235 rfl, s.P 236 rfl, s.P 237 rfl, s.P 238 rfl, s.P 239 rfl, s.P 240 rfl, s.P 241 rfl⟩
  · exact ⟨s.T 235 rfl, s.T 236 rfl, s.T 237 rfl, s.T 238 rfl, s.T 239 rfl, s.T 240 rfl, s.T 241 rfl, s.T 242 rfl, s.T 243 rfl, s.T 244 rfl, s.T 245 rfl, s.T 246 rfl, s.P 242 rfl, s.P 243 rfl, s.P 244 rfl, s.P 245 rfl, s.P 246 rfl, s.P 247 rfl, s.P 248 rfl, s.P 249 rfl, s.P 250 rfl, s.P 251 rfl, s.P 252 rfl⟩
  · exact ⟨s.T 247 rfl, s.T 248 rfl, s.T 249 rfl, s.T 250 rfl, s.T 251 rfl, s.T 252 rfl, s.T 253 rfl, s.T 254 rfl, s.T 255 rfl, s.T 256 rfl, s.T 257 rfl, s.T 258 rfl, s.P 253 rfl, s.P 254 rfl, s.P 255 rfl, s.P 256 rfl, s.P 257 rfl, s.P 258 rfl, s.P 259 rfl, s.P 260 rfl, s.P 261 rfl, s.P 262 rfl, s.P 263 rfl⟩
  · exact ⟨s.T 259 rfl, s.T 260 rfl, s.T 261 rfl, s.T 262 rfl, s.T 263 rfl, s.T 264 rfl, s.T 265 rfl, s.T 266 rfl, s.T 267 rfl, s.T 268 rfl, s.T 269 rfl, s.T 270 rfl, s.P 264 rfl, s.P 265 rfl, s.P 266 rfl, s.P 267 rfl, s.P 268 rfl, s.P 269 rfl, s.P 270 rfl, s.P 271 rfl, s.P 272 rfl, s.P 273 rfl, s.P 274 rfl⟩
  · exact ⟨s.T 271 rfl, s.T 272 rfl, s.T 273 rfl, s.T 274 rfl, s.T 275 rfl, s.T 276 rfl, s.T 277 rfl, s.T 278 rfl, s.T 279 rfl, s.T 280 rfl, s.T 281 rfl, s.T 282 rfl, s.P 275 rfl, s.P 276 rfl, s.P 277 rfl, s.P 278 rfl, s.P 279 rfl, s.P 280 rfl, s.P 281 rfl, s.P 282 rfl, s.P 283 rfl, s.P 284 rfl, s.P 285 rfl⟩
/-- what the machine does at a county -/
theorem BC {h : am_H} {a : Nat} (c : Cty h a) : (∀ (I : am_I) (k : Option Nat → am_R), gfP 0 0 (hI h I) (some a) k = k (some (a + 1))) ∧
  (∀ (I : am_I) (i : Int) (k : Int → am_R), 0 ≤ i → i < 60 → ldB (hI h I) (some (a + 1)) i k = k (I (a + 1) i.toNat)) ∧
  (∀ (I : am_I) (i v : Int) (k : am_H → am_R), 0 ≤ i → i < 60 → v = 0 ∨ v = 1 → stB (hI h I) (some (a + 1)) i v k = k (hI h (am_u2 I (a + 1) i.toNat v))) ∧
  (∀ (I : am_I) (k : Option Nat → am_R), gfP 0 1 (hI h I) (some a) k = k (some (a + 2))) ∧
  (∀ (I : am_I) (i : Int) (k : Int → am_R), 0 ≤ i → i < 60 → ldA 1 (hI h I) (some (a + 2)) i k = k (I (a + 2) i.toNat)) ∧
  (∀ (I : am_I) (i v : Int) (k : am_H → am_R), 0 ≤ i → i < 60 → stA 1 (hI h I) (some (a + 2)) i v k = k (hI h (am_u2 I (a + 2) i.toNat v))) ∧
  (∀ (I : am_I) (k : Option Nat → am_R), gfP 0 2 (hI h I) (some a) k = k (some (a + 3))) ∧
  (∀ (I : am_I) (i : Int) (k : Int → am_R), 0 ≤ i → i < 60 → ldA 1 (hI h I) (some (a + 3)) i k = k (I (a + 3) i.toNat)) ∧
  (∀ (I : am_I) (i v : Int) (k : am_H → am_R), 0 ≤ i → i < 60 → stA 1 (hI h I) (some (a + 3)) i v k = k (hI h (am_u2 I (a + 3) i.toNat v))) ∧
  (∀ (I : am_I) (k : Option Nat → am_R), gfP 0 3 (hI h I) (some a) k = k (some (a + 4))) ∧
  (∀ (I : am_I) (i : Int) (k : Int → am_R), 0 ≤ i → i < 60 → ldB (hI h I) (some (a + 4)) i k = k (I (a + 4) i.toNat)) ∧
  (∀ (I : am_I) (i v : Int) (k : am_H → am_R), 0 ≤ i → i < 60 → v = 0 ∨ v = 1 → stB (hI h I) (some (a + 4)) i v k = k (hI h (am_u2 I (a + 4) i.toNat v))) ∧
  (∀ (I : am_I) (k : Option Nat → am_R), gfP 0 4 (hI h I) (some a) k = k (some (a + 5))) ∧
  (∀ (I : am_I) (i : Int) (k : Int → am_R), 0 ≤ i → i < 60 → ldB (hI h I) (some (a + 5)) i k = k (I (a + 5) i.toNat)) ∧
  (∀ (I : am_I) (i v : Int) (k : am_H → am_R), 0 ≤ i → i < 60 → v = 0 ∨ v = 1 → stB (hI h I) (some (a + 5)) i v k = k (hI h (am_u2 I (a + 5) i.toNat v))) ∧
  (∀ (I : am_I) (k : Int → am_R), gfI 0 5 (hI h I) (some a) k = k (I a 5)) ∧
  (∀ (I : am_I) (v : Int) (k : am_H → am_R), pfI 0 0 5 (hI h I) (some a) v k = k (hI h (am_u2 I a 5 v))) ∧
  (∀ (I : am_I) (k : Option Nat → am_R), gfP 0 6 (hI h I) (some a) k = k (some (a + 6))) ∧
  (∀ (I : am_I) (i : Int) (k : Int → am_R), 0 ≤ i → i < 6 → ldA 1 (hI h I) (some (a + 6)) i k = k (I (a + 6) i.toNat)) ∧
  (∀ (I : am_I) (i v : Int) (k : am_H → am_R), 0 ≤ i → i < 6 → stA 1 (hI h I) (some (a + 6)) i v k = k (hI h (am_u2 I (a + 6) i.toNat v))) ∧
  (∀ (I : am_I) (k : Option Nat → am_R), gfP 0 7 (hI h I) (some a) k = k (some (a + 7))) ∧
  (∀ (I : am_I) (i : Int) (k : Int → am_R), 0 ≤ i → i < 6 → ldA 1 (hI h I) (some (a + 7)) i k = k (I (a + 7) i.toNat)) ∧
  (∀ (I : am_I) (i v : Int) (k : am_H → am_R), 0 ≤ i → i < 6 → stA 1 (hI h I) (some (a + 7)) i v k = k (hI h (am_u2 I (a + 7) i.toNat v))) ∧
  (∀ (I : am_I) (k : Option Nat → am_R), gfP 0 8 (hI h I) (some a) k = k (some (a + 8))) ∧
  (∀ (I : am_I) (i : Int) (k : Int → am_R), 0 ≤ i → i < 6 → ldA 1 (hI h I) (some (a + 8)) i k = k (I (a + 8) i.toNat)) ∧
  (∀ (I : am_I) (i v : Int) (k : am_H → am_R), 0 ≤ i → i < 6 → stA 1 (hI h I) (some (a + 8)) i v k = k (hI h (am_u2 I (a + 8) i.toNat v))) ∧
  (∀ (I : am_I) (k : Option Nat → am_R), gfP 0 9 (hI h I) (some a) k = k (some (a + 9))) ∧
  (∀ (I : am_I) (i : Int) (k : Int → am_R), 0 ≤ i → i < 6 → ldA 1 (hI h I) (some (a + 9)) i k = k (I (a + 9) i.toNat)) ∧
  (∀ (I : am_I) (i v : Int) (k : am_H → am_R), 0 ≤ i → i < 6 → stA 1 (hI h I) (some (a + 9)) i v k = k (hI h (am_u2 I (a + 9) i.toNat v))) ∧
  (∀ (I : am_I) (k : Int → am_R), gfI 0 10 (hI h I) (some a) k = k (I a 10)) ∧
  (∀ (I : am_I) (v : Int) (k : am_H → am_R), pfI 0 0 10 (hI h I) (some a) v k = k (hI h (am_u2 I a 10 v))) ∧
  (∀ (I : am_I) (k : Int → am_R), gfI 0 11 (hI h I) (some a) k = k (I a 11)) ∧
  (∀ (I : am_I) (v : Int) (k : am_H → am_R), pfI 0 0 11 (hI h I) (some a) v k = k (hI h (am_u2 I a 11 v))) ∧
  (∀ (I : am_I) (k : Int → am_R), gfI 0 12 (hI h I) (some a) k = k (I a 12)) ∧
  (∀ (I : am_I) (v : Int) (k : am_H → am_R), pfI 0 0 12 (hI h I) (some a) v k = k (hI h (am_u2 I a 12 v))) ∧
  (∀ (I : am_I) (k : Int → am_R), gfI 0 13 (hI h I) (some a) k = k (I a 13)) ∧
  (∀ (I : am_I) (v : Int) (k : am_H → am_R), pfI 0 0 13 (hI h I) (some a) v k = k (hI h (am_u2 I a 13 v))) ∧
  (∀ (I : am_I) (k : Option Nat → am_R), gfP 0 15 (hI h I) (some a) k = k (some (a + 10))) ∧
  (∀ (I : am_I) (k : am_R), am_rcv 0 (hI h I) (Vr (some a)) k = k) ∧
  (∀ (I : am_I) (k : am_R), am_rcv 5 (hI h I) (Vr (some (a + 10))) k = k) ∧
  (∀ (I : am_I) (k : Option Nat → am_R), gfP 5 0 (hI h I) (some (a + 10)) k = k (some (a + 11))) ∧
  (∀ (I : am_I) (k : Int → am_R), gfI 5 1 (hI h I) (some (a + 10)) k = k (I (a + 10) 1)) ∧
  (∀ (I : am_I) (v : Int) (k : am_H → am_R), pfI 0 5 1 (hI h I) (some (a + 10)) v k = k (hI h (am_u2 I (a + 10) 1 v))) ∧
  (∀ (I : am_I) (k : Int → am_R), gfI 5 2 (hI h I) (some (a + 10)) k = k (I (a + 10) 2)) ∧
  (∀ (I : am_I) (v : Int) (k : am_H → am_R), pfI 0 5 2 (hI h I) (some (a + 10)) v k = k (hI h (am_u2 I (a + 10) 2 v))) ∧
  (∀ (I : am_I) (i : Int) (k : Int → am_R), 0 ≤ i → i < 300 → ldA 1 (hI h I) (some (a + 11)) i k = k (I (a + 11) i.toNat)) ∧
  (∀ (I : am_I) (i v : Int) (k : am_H → am_R), 0 ≤ i → i < 300 → stA 1 (hI h I) (some (a + 11)) i v k = k (hI h (am_u2 I (a + 11) i.toNat v))) :=
  ⟨fun _ _ => e_gfP c.1 c.2.2.2.2.2.2.2.2.2.2.2.2.1, fun _ _ _ h0 h1 => e_ldB c.2.1 h0 h1, fun _ _ _ _ h0 h1 hv => e_stB c.2.1 h0 h1 hv, fun _ _ => e_gfP c.1 c.2.2.2.2.2.2.2.2.2.2.2.2.2.1, fun _ _ _ h0 h1 => e_ldA c.2.2.1 h0 h1, fun _ _ _ _ h0 h1 => e_stA c.2.2.1 h0 h1, fun _ _ => e_gfP c.1 c.2.2.2.2.2.2.2.2.2.2.2.2.2.2.1, fun _ _ _ h0 h1 => e_ldA c.2.2.2.1 h0 h1, fun _ _ _ _ h0 h1 => e_stA c.2.2.2.1 h0 h1, fun _ _ => e_gfP c.1 c.2.2.2.2.2.2.2.2.2.2.2.2.2.2.2.1, fun _ _ _ h0 h1 => e_ldB c.2.2.2.2.1 h0 h1, fun _ _ _ _ h0 h1 hv => e_stB c.2.2.2.2.1 h0 h1 hv, fun _ _ => e_gfP c.1 c.2.2.2.2.2.2.2.2.2.2.2.2.2.2.2.2.1, fun _ _ _ h0 h1 => e_ldB c.2.2.2.2.2.1 h0 h1, fun _ _ _ _ h0 h1 hv => e_stB c.2.2.2.2.2.1 h0 h1 hv, fun _ _ => e_gfI c.1, fun _ _ _ => e_pfI c.1, fun _ _ => e_gfP c.1 c.2.2.2.2.2.2.2.2.2.2.2.2.2.2.2.2.2.1, fun _ _ _ h0 h1 => e_ldA c.2.2.2.2.2.2.1 h0 h1, fun _ _ _ _ h0 h1 => e_stA c.2.2.2.2.2.2.1 h0 h1, fun _ _ => e_gfP c.1 c.2.2.2.2.2.2.2.2.2.2.2.2.2.2.2.2.2.2.1, fun _ _ _ h0 h1 => e_ldA c.2.2.2.2.2.2.2.1 h0 h1, fun _ _ _ _ h0 h1 => e_stA c.2.2.2.2.2.2.2.1 h0 h1, fun _ _ => e_gfP c.1 c.2.2.2.2.2.2.2.2.2.2.2.2.2.2.2.2.2.2.2.1, fun _ _ _ h0 h1 => e_ldA c.2.2.2.2.2.2.2.2.1 h0 h1, fun _ _ _ _ h0 h1 => e_stA c.2.2.2.2.2.2.2.2.1 h0 h1, fun _ _ => e_gfP c.1 c.2.2.2.2.2.2.2.2.2.2.2.2.2.2.2.2.2.2.2.2.1, fun _ _ _ h0 h1 => e_ldA c.2.2.2.2.2.2.2.2.2.1 h0 h1, fun _ _ _ _ h0 h1 => e_stA c.2.2.2.2.2.2.2.2.2.1 h0 h1, fun _ _ => e_gfI c.1, fun _ _ _ => e_pfI c.1, fun _ _ => e_gfI c.1, fun _ _ _ => e_pfI c.1, fun _ _ => e_gfI c.1, fun _ _ _ => e_pfI c.1, fun _ _ => e_gfI c.1, fun _ _ _ => e_pfI c.1, fun _ _ => e_gfP c.1 c.2.2.2.2.2.2.2.2.2.2.2.2.2.2.2.2.2.2.2.2.2.1, fun _ _ => e_rcv c.1, fun _ _ => e_rcv c.2.2.2.2.2.2.2.2.2.2.1, fun _ _ => e_gfP c.2.2.2.2.2.2.2.2.2.2.1 c.2.2.2.2.2.2.2.2.2.2.2.2.2.2.2.2.2.2.2.2.2.2, fun _ _ => e_gfI c.2.2.2.2.2.2.2.2.2.2.1, fun _ _ _ => e_pfI c.2.2.2.2.2.2.2.2.2.2.1, fun _ _ => e_gfI c.2.2.2.2.2.2.2.2.2.2.1, fun _ _ _ => e_pfI c.2.2.2.2.2.2.2.2.2.2.1, fun _ _ _ h0 h1 => e_ldA c.2.2.2.2.2.2.2.2.2.2.2.1 h0 h1, fun _ _ _ _ h0 h1 => e_stA c.2.2.2.2.2.2.2.2.2.2.2.1 h0 h1⟩
theorem BO {h : am_H} (s : Sh h) : (∀ (I : am_I) (k : am_R), am_rcv 11 (hI h I) (Vr (some 0)) k = k) ∧
  (∀ (I : am_I) (k : Option Nat → am_R), gfP 11 0 (hI h I) (some 0) k = k (some 1)) ∧
  (∀ (I : am_I) (k : Option Nat → am_R), gfP 11 1 (hI h I) (some 0) k = k (some 5)) ∧
  (∀ (I : am_I) (k : Option Nat → am_R), gfP 11 2 (hI h I) (some 0) k = k (some 6)) ∧
  (∀ (I : am_I) (k : Option Nat → am_R), gfP 11 3 (hI h I) (some 0) k = k (some 11)) ∧
  (∀ (I : am_I) (k : Option Nat → am_R), gfP 11 4 (hI h I) (some 0) k = k (some 23)) ∧
  (∀ (I : am_I) (k : Option Nat → am_R), gfP 11 5 (hI h I) (some 0) k = k (some 35)) ∧
  (∀ (I : am_I) (k : Int → am_R), gfI 11 6 (hI h I) (some 0) k = k (I 0 6)) ∧
  (∀ (I : am_I) (v : Int) (k : am_H → am_R), v = 0 ∨ v = 1 → pfI 1 11 6 (hI h I) (some 0) v k = k (hI h (am_u2 I 0 6 v))) ∧
  (∀ (I : am_I) (k : Option Nat → am_R), gfP 11 7 (hI h I) (some 0) k = k (some 47)) ∧
  (∀ (I : am_I) (i : Int) (k : Option Nat → am_R), 0 ≤ i → i < 12 → ldP 5 (hI h I) (some 47) i k = k (rP h 47 i.toNat)) ∧
  (∀ (I : am_I) (k : Int → am_R), gfI 11 8 (hI h I) (some 0) k = k (I 0 8)) ∧
  (∀ (I : am_I) (v : Int) (k : am_H → am_R), pfI 0 11 8 (hI h I) (some 0) v k = k (hI h (am_u2 I 0 8 v))) ∧
  (∀ (I : am_I) (k : Int → am_R), gfI 11 9 (hI h I) (some 0) k = k (I 0 9)) ∧
  (∀ (I : am_I) (v : Int) (k : am_H → am_R), pfI 0 11 9 (hI h I) (some 0) v k = k (hI h (am_u2 I 0 9 v))) ∧
  (∀ (I : am_I) (k : Option Nat → am_R), gfP 11 10 (hI h I) (some 0) k = k (some 48)) ∧
  (∀ (I : am_I) (k : Option Nat → am_R), gfP 11 11 (hI h I) (some 0) k = k (some 53)) ∧
  (∀ (I : am_I) (k : Option Nat → am_R), gfP 11 12 (hI h I) (some 0) k = k (some 124)) ∧
  (∀ (I : am_I) (k : Option Nat → am_R), gfP 11 13 (hI h I) (some 0) k = k (some 136)) :=
  ⟨fun _ _ => e_rcv (s.T 0 rfl), fun _ _ => e_gfP (s.T 0 rfl) (s.P 0 rfl), fun _ _ => e_gfP (s.T 0 rfl) (s.P 1 rfl), fun _ _ => e_gfP (s.T 0 rfl) (s.P 2 rfl), fun _ _ => e_gfP (s.T 0 rfl) (s.P 3 rfl), fun _ _ => e_gfP (s.T 0 rfl) (s.P 4 rfl), fun _ _ => e_gfP (s.T 0 rfl) (s.P 5 rfl), fun _ _ => e_gfI (s.T 0 rfl), fun _ _ _ hv => e_pfZ (s.T 0 rfl) hv, fun _ _ => e_gfP (s.T 0 rfl) (s.P 6 rfl), fun _ _ _ h0 h1 => e_ldP (s.T 47 rfl) h0 h1, fun _ _ => e_gfI (s.T 0 rfl), fun _ _ _ => e_pfI (s.T 0 rfl), fun _ _ => e_gfI (s.T 0 rfl), fun _ _ _ => e_pfI (s.T 0 rfl), fun _ _ => e_gfP (s.T 0 rfl) (s.P 7 rfl), fun _ _ => e_gfP (s.T 0 rfl) (s.P 8 rfl), fun _ _ => e_gfP (s.T 0 rfl) (s.P 9 rfl), fun _ _ => e_gfP (s.T 0 rfl) (s.P 10 rfl)⟩
theorem BT {h : am_H} (s : Sh h) : (∀ (I : am_I) (k : am_R), am_rcv 10 (hI h I) (Vr (some 1)) k = k) ∧
  (∀ (I : am_I) (k : Option Nat → am_R), gfP 10 0 (hI h I) (some 1) k = k (some 2)) ∧
  (∀ (I : am_I) (i : Int) (k : Int → am_R), 0 ≤ i → i < 400 → ldA 1 (hI h I) (some 2) i k = k (I 2 i.toNat)) ∧
  (∀ (I : am_I) (i v : Int) (k : am_H → am_R), 0 ≤ i → i < 400 → stA 1 (hI h I) (some 2) i v k = k (hI h (am_u2 I 2 i.toNat v))) ∧
  (∀ (I : am_I) (k : Int → am_R), gfI 10 1 (hI h I) (some 1) k = k (I 1 1)) ∧
  (∀ (I : am_I) (v : Int) (k : am_H → am_R), pfI 0 10 1 (hI h I) (some 1) v k = k (hI h (am_u2 I 1 1 v))) ∧
  (∀ (I : am_I) (k : Int → am_R), gfI 10 2 (hI h I) (some 1) k = k (I 1 2)) ∧
  (∀ (I : am_I) (v : Int) (k : am_H → am_R), pfI 0 10 2 (hI h I) (some 1) v k = k (hI h (am_u2 I 1 2 v))) ∧
  (∀ (I : am_I) (k : Option Nat → am_R), gfP 10 3 (hI h I) (some 1) k = k (some 3)) ∧
  (∀ (I : am_I) (i : Int) (k : Int → am_R), 0 ≤ i → i < 401 → ldA 1 (hI h I) (some 3) i k = k (I 3 i.toNat)) ∧
  (∀ (I : am_I) (i v : Int) (k : am_H → am_R), 0 ≤ i → i < 401 → stA 1 (hI h I) (some 3) i v k = k (hI h (am_u2 I 3 i.toNat v))) ∧
  (∀ (I : am_I) (k : Option Nat → am_R), gfP 10 4 (hI h I) (some 1) k = k (some 4)) ∧
  (∀ (I : am_I) (i : Int) (k : Int → am_R), 0 ≤ i → i < 401 → ldA 1 (hI h I) (some 4) i k = k (I 4 i.toNat)) ∧
  (∀ (I : am_I) (i v : Int) (k : am_H → am_R), 0 ≤ i → i < 401 → stA 1 (hI h I) (some 4) i v k = k (hI h (am_u2 I 4 i.toNat v))) ∧
  (∀ (I : am_I) (k : Int → am_R), gfI 10 5 (hI h I) (some 1) k = k (I 1 5)) ∧
  (∀ (I : am_I) (v : Int) (k : am_H → am_R), pfI 0 10 5 (hI h I) (some 1) v k = k (hI h (am_u2 I 1 5 v))) ∧
  (∀ (I : am_I) (k : Int → am_R), gfI 10 6 (hI h I) (some 1) k = k (I 1 6)) ∧
  (∀ (I : am_I) (v : Int) (k : am_H → am_R), pfI 0 10 6 (hI h I) (some 1) v k = k (hI h (am_u2 I 1 6 v))) :=
  ⟨fun _ _ => e_rcv (s.T 1 rfl), fun _ _ => e_gfP (s.T 1 rfl) (s.P 11 rfl), fun _ _ _ h0 h1 => e_ldA (s.T 2 rfl) h0 h1, fun _ _ _ _ h0 h1 => e_stA (s.T 2 rfl) h0 h1, fun _ _ => e_gfI (s.T 1 rfl), fun _ _ _ => e_pfI (s.T 1 rfl), fun _ _ => e_gfI (s.T 1 rfl), fun _ _ _ => e_pfI (s.T 1 rfl), fun _ _ => e_gfP (s.T 1 rfl) (s.P 12 rfl), fun _ _ _ h0 h1 => e_ldA (s.T 3 rfl) h0 h1, fun _ _ _ _ h0 h1 => e_stA (s.T 3 rfl) h0 h1, fun _ _ => e_gfP (s.T 1 rfl) (s.P 13 rfl), fun _ _ _ h0 h1 => e_ldA (s.T 4 rfl) h0 h1, fun _ _ _ _ h0 h1 => e_stA (s.T 4 rfl) h0 h1, fun _ _ => e_gfI (s.T 1 rfl), fun _ _ _ => e_pfI (s.T 1 rfl), fun _ _ => e_gfI (s.T 1 rfl), fun _ _ _ => e_pfI (s.T 1 rfl)⟩
theorem BR {h : am_H} (s : Sh h) : (∀ (I : am_I) (k : am_R), am_rcv 1 (hI h I) (Vr (some 5)) k = k) ∧
  (∀ (I : am_I) (k : Option Nat → am_R), gfP 1 0 (hI h I) (some 5) k = k (some 1)) :=
  ⟨fun _ _ => e_rcv (s.T 5 rfl), fun _ _ => e_gfP (s.T 5 rfl) (s.P 14 rfl)⟩
theorem BL {h : am_H} (s : Sh h) : (∀ (I : am_I) (k : am_R), am_rcv 4 (hI h I) (Vr (some 6)) k = k) ∧
  (∀ (I : am_I) (k : Option Nat → am_R), gfP 4 0 (hI h I) (some 6) k = k (some 1)) ∧
  (∀ (I : am_I) (k : Option Nat → am_R), gfP 4 1 (hI h I) (some 6) k = k (some 7)) ∧
  (∀ (I : am_I) (i : Int) (k : Int → am_R), 0 ≤ i → i < 12 → ldA 1 (hI h I) (some 7) i k = k (I 7 i.toNat)) ∧
  (∀ (I : am_I) (i v : Int) (k : am_H → am_R), 0 ≤ i → i < 12 → stA 1 (hI h I) (some 7) i v k = k (hI h (am_u2 I 7 i.toNat v))) ∧
  (∀ (I : am_I) (k : Option Nat → am_R), gfP 4 2 (hI h I) (some 6) k = k (some 8)) ∧
  (∀ (I : am_I) (i : Int) (k : Int → am_R), 0 ≤ i → i < 12 → ldA 1 (hI h I) (some 8) i k = k (I 8 i.toNat)) ∧
  (∀ (I : am_I) (i v : Int) (k : am_H → am_R), 0 ≤ i → i < 12 → stA 1 (hI h I) (some 8) i v k = k (hI h (am_u2 I 8 i.toNat v))) ∧
  (∀ (I : am_I) (k : Option Nat → am_R), gfP 4 3 (hI h I) (some 6) k = k (some 9)) ∧
  (∀ (I : am_I) (i : Int) (k : Int → am_R), 0 ≤ i → i < 13 → ldA 1 (hI h I) (some 9) i k = k (I 9 i.toNat)) ∧
  (∀ (I : am_I) (i v : Int) (k : am_H → am_R), 0 ≤ i → i < 13 → stA 1 (hI h I) (some 9) i v k = k (hI h (am_u2 I 9 i.toNat v))) ∧
  (∀ (I : am_I) (k : Option Nat → am_R), gfP 4 4 (hI h I) (some 6) k = k (some 10)) ∧
  (∀ (I : am_I) (i : Int) (k : Int → am_R), 0 ≤ i → i < 400 → ldA 1 (hI h I) (some 10) i k = k (I 10 i.toNat)) ∧
  (∀ (I : am_I) (i v : Int) (k : am_H → am_R), 0 ≤ i → i < 400 → stA 1 (hI h I) (some 10) i v k = k (hI h (am_u2 I 10 i.toNat v))) ∧
  (∀ (I : am_I) (k : Int → am_R), gfI 4 5 (hI h I) (some 6) k = k (I 6 5)) ∧
  (∀ (I : am_I) (v : Int) (k : am_H → am_R), pfI 0 4 5 (hI h I) (some 6) v k = k (hI h (am_u2 I 6 5 v))) ∧
  (∀ (I : am_I) (k : Int → am_R), gfI 4 6 (hI h I) (some 6) k = k (I 6 6)) ∧
  (∀ (I : am_I) (v : Int) (k : am_H → am_R), pfI 0 4 6 (hI h I) (some 6) v k = k (hI h (am_u2 I 6 6 v))) :=
  ⟨fun _ _ => e_rcv (s.T 6 rfl), fun _ _ => e_gfP (s.T 6 rfl) (s.P 15 rfl), fun _ _ => e_gfP (s.T 6 rfl) (s.P 16 rfl), fun _ _ _ h0 h1 => e_ldA (s.T 7 rfl) h0 h1, fun _ _ _ _ h0 h1 => e_stA (s.T 7 rfl) h0 h1, fun _ _ => e_gfP (s.T 6 rfl) (s.P 17 rfl), fun _ _ _ h0 h1 => e_ldA (s.T 8 rfl) h0 h1, fun _ _ _ _ h0 h1 => e_stA (s.T 8 rfl) h0 h1, fun _ _ => e_gfP (s.T 6 rfl) (s.P 18 rfl), fun _ _ _ h0 h1 => e_ldA (s.T 9 rfl) h0 h1, fun _ _ _ _ h0 h1 => e_stA (s.T 9 rfl) h0 h1, fun _ _ => e_gfP (s.T 6 rfl) (s.P 19 rfl), fun _ _ _ h0 h1 => e_ldA (s.T 10 rfl) h0 h1, fun _ _ _ _ h0 h1 => e_stA (s.T 10 rfl) h0 h1, fun _ _ => e_gfI (s.T 6 rfl), fun _ _ _ => e_pfI (s.T 6 rfl), fun _ _ => e_gfI (s.T 6 rfl), fun _ _ _ => e_pfI (s.T 6 rfl)⟩
theorem BP {h : am_H} (s : Sh h) : (∀ (I : am_I) (k : am_R), am_rcv 8 (hI h I) (Vr (some 48)) k = k) ∧
  (∀ (I : am_I) (k : Option Nat → am_R), gfP 8 0 (hI h I) (some 48) k = k (some 49)) ∧
  (∀ (I : am_I) (i : Int) (k : Int → am_R), 0 ≤ i → i < 49 → ldA 1 (hI h I) (some 49) i k = k (I 49 i.toNat)) ∧
  (∀ (I : am_I) (i v : Int) (k : am_H → am_R), 0 ≤ i → i < 49 → stA 1 (hI h I) (some 49) i v k = k (hI h (am_u2 I 49 i.toNat v))) ∧
  (∀ (I : am_I) (k : Option Nat → am_R), gfP 8 1 (hI h I) (some 48) k = k (some 50)) ∧
  (∀ (I : am_I) (i : Int) (k : Int → am_R), 0 ≤ i → i < 49 → ldA 1 (hI h I) (some 50) i k = k (I 50 i.toNat)) ∧
  (∀ (I : am_I) (i v : Int) (k : am_H → am_R), 0 ≤ i → i < 49 → stA 1 (hI h I) (some 50) i v k = k (hI h (am_u2 I 50 i.toNat v))) ∧
  (∀ (I : am_I) (k : Option Nat → am_R), gfP 8 2 (hI h I) (some 48) k = k (some 51)) ∧
  (∀ (I : am_I) (i : Int) (k : Int → am_R), 0 ≤ i → i < 49 → ldA 1 (hI h I) (some 51) i k = k (I 51 i.toNat)) ∧
  (∀ (I : am_I) (i v : Int) (k : am_H → am_R), 0 ≤ i → i < 49 → stA 1 (hI h I) (some 51) i v k = k (hI h (am_u2 I 51 i.toNat v))) ∧
  (∀ (I : am_I) (k : Option Nat → am_R), gfP 8 3 (hI h I) (some 48) k = k (some 52)) ∧
  (∀ (I : am_I) (i : Int) (k : Int → am_R), 0 ≤ i → i < 49 → ldA 1 (hI h I) (some 52) i k = k (I 52 i.toNat)) ∧
  (∀ (I : am_I) (i v : Int) (k : am_H → am_R), 0 ≤ i → i < 49 → stA 1 (hI h I) (some 52) i v k = k (hI h (am_u2 I 52 i.toNat v))) ∧
  (∀ (I : am_I) (k : Int → am_R), gfI 8 4 (hI h I) (some 48) k = k (I 48 4)) ∧
  (∀ (I : am_I) (v : Int) (k : am_H → am_R), pfI 0 8 4 (hI h I) (some 48) v k = k (hI h (am_u2 I 48 4 v))) ∧
  (∀ (I : am_I) (k : Int → am_R), gfI 8 5 (hI h I) (some 48) k = k (I 48 5)) ∧
  (∀ (I : am_I) (v : Int) (k : am_H → am_R), pfI 0 8 5 (hI h I) (some 48) v k = k (hI h (am_u2 I 48 5 v))) :=
  ⟨fun _ _ => e_rcv (s.T 48 rfl), fun _ _ => e_gfP (s.T 48 rfl) (s.P 65 rfl), fun _ _ _ h0 h1 => e_ldA (s.T 49 rfl) h0 h1, fun _ _ _ _ h0 h1 => e_stA (s.T 49 rfl) h0 h1, fun _ _ => e_gfP (s.T 48 rfl) (s.P 66 rfl), fun _ _ _ h0 h1 => e_ldA (s.T 50 rfl) h0 h1, fun _ _ _ _ h0 h1 => e_stA (s.T 50 rfl) h0 h1, fun _ _ => e_gfP (s.T 48 rfl) (s.P 67 rfl), fun _ _ _ h0 h1 => e_ldA (s.T 51 rfl) h0 h1, fun _ _ _ _ h0 h1 => e_stA (s.T 51 rfl) h0 h1, fun _ _ => e_gfP (s.T 48 rfl) (s.P 68 rfl), fun _ _ _ h0 h1 => e_ldA (s.T 52 rfl) h0 h1, fun _ _ _ _ h0 h1 => e_stA (s.T 52 rfl) h0 h1, fun _ _ => e_gfI (s.T 48 rfl), fun _ _ _ => e_pfI (s.T 48 rfl), fun _ _ => e_gfI (s.T 48 rfl), fun _ _ _ => e_pfI (s.T 48 rfl)⟩
theorem BW {h : am_H} (s : Sh h) : (∀ (I : am_I) (k : am_R), am_rcv 7 (hI h I) (Vr (some 53)) k = k) ∧
  (∀ (I : am_I) (k : Option Nat → am_R), gfP 7 0 (hI h I) (some 53) k = k (some 54)) ∧
  (∀ (I : am_I) (i : Int) (k : Int → am_R), 0 ≤ i → i < 60 → ldA 1 (hI h I) (some 54) i k = k (I 54 i.toNat)) ∧
  (∀ (I : am_I) (i v : Int) (k : am_H → am_R), 0 ≤ i → i < 60 → stA 1 (hI h I) (some 54) i v k = k (hI h (am_u2 I 54 i.toNat v))) ∧
  (∀ (I : am_I) (k : Option Nat → am_R), gfP 7 1 (hI h I) (some 53) k = k (some 55)) ∧
  (∀ (I : am_I) (i : Int) (k : Int → am_R), 0 ≤ i → i < 49 → ldA 1 (hI h I) (some 55) i k = k (I 55 i.toNat)) ∧
  (∀ (I : am_I) (i v : Int) (k : am_H → am_R), 0 ≤ i → i < 49 → stA 1 (hI h I) (some 55) i v k = k (hI h (am_u2 I 55 i.toNat v))) ∧
  (∀ (I : am_I) (k : Option Nat → am_R), gfP 7 2 (hI h I) (some 53) k = k (some 56)) ∧
  (∀ (I : am_I) (i : Int) (k : Option Nat → am_R), 0 ≤ i → i < 64 → ldP 6 (hI h I) (some 56) i k = k (rP h 56 i.toNat)) ∧
  (∀ (I : am_I) (k : Option Nat → am_R), gfP 7 3 (hI h I) (some 53) k = k (some 121)) ∧
  (∀ (I : am_I) (i : Int) (k : Int → am_R), 0 ≤ i → i < 60 → ldA 1 (hI h I) (some 121) i k = k (I 121 i.toNat)) ∧
  (∀ (I : am_I) (i v : Int) (k : am_H → am_R), 0 ≤ i → i < 60 → stA 1 (hI h I) (some 121) i v k = k (hI h (am_u2 I 121 i.toNat v))) ∧
  (∀ (I : am_I) (k : Option Nat → am_R), gfP 7 4 (hI h I) (some 53) k = k (some 122)) ∧
  (∀ (I : am_I) (i : Int) (k : Int → am_R), 0 ≤ i → i < 36 → ldA 1 (hI h I) (some 122) i k = k (I 122 i.toNat)) ∧
  (∀ (I : am_I) (i v : Int) (k : am_H → am_R), 0 ≤ i → i < 36 → stA 1 (hI h I) (some 122) i v k = k (hI h (am_u2 I 122 i.toNat v))) ∧
  (∀ (I : am_I) (k : Option Nat → am_R), gfP 7 5 (hI h I) (some 53) k = k (some 123)) ∧
  (∀ (I : am_I) (i : Int) (k : Int → am_R), 0 ≤ i → i < 36 → ldA 1 (hI h I) (some 123) i k = k (I 123 i.toNat)) ∧
  (∀ (I : am_I) (i v : Int) (k : am_H → am_R), 0 ≤ i → i < 36 → stA 1 (hI h I) (some 123) i v k = k (hI h (am_u2 I 123 i.toNat v))) :=
  ⟨fun _ _ => e_rcv (s.T 53 rfl), fun _ _ => e_gfP (s.T 53 rfl) (s.P 69 rfl), fun _ _ _ h0 h1 => e_ldA (s.T 54 rfl) h0 h1, fun _ _ _ _ h0 h1 => e_stA (s.T 54 rfl) h0 h1, fun _ _ => e_gfP (s.T 53 rfl) (s.P 70 rfl), fun _ _ _ h0 h1 => e_ldA (s.T 55 rfl) h0 h1, fun _ _ _ _ h0 h1 => e_stA (s.T 55 rfl) h0 h1, fun _ _ => e_gfP (s.T 53 rfl) (s.P 71 rfl), fun _ _ _ h0 h1 => e_ldP (s.T 56 rfl) h0 h1, fun _ _ => e_gfP (s.T 53 rfl) (s.P 72 rfl), fun _ _ _ h0 h1 => e_ldA (s.T 121 rfl) h0 h1, fun _ _ _ _ h0 h1 => e_stA (s.T 121 rfl) h0 h1, fun _ _ => e_gfP (s.T 53 rfl) (s.P 73 rfl), fun _ _ _ h0 h1 => e_ldA (s.T 122 rfl) h0 h1, fun _ _ _ _ h0 h1 => e_stA (s.T 122 rfl) h0 h1, fun _ _ => e_gfP (s.T 53 rfl) (s.P 74 rfl), fun _ _ _ h0 h1 => e_ldA (s.T 123 rfl) h0 h1, fun _ _ _ _ h0 h1 => e_stA (s.T 123 rfl) h0 h1⟩
theorem BN {h : am_H} (s : Sh h) : (∀ (I : am_I) (k : am_R), am_rcv 6 (hI h I) (Vr (some 124)) k = k) ∧
  (∀ (I : am_I) (k : Option Nat → am_R), gfP 6 0 (hI h I) (some 124) k = k (some 48)) ∧
  (∀ (I : am_I) (k : Option Nat → am_R), gfP 6 1 (hI h I) (some 124) k = k (some 53)) ∧
  (∀ (I : am_I) (k : Option Nat → am_R), gfP 6 2 (hI h I) (some 124) k = k (some 125)) ∧
  (∀ (I : am_I) (i : Int) (k : Int → am_R), 0 ≤ i → i < 36 → ldA 1 (hI h I) (some 125) i k = k (I 125 i.toNat)) ∧
  (∀ (I : am_I) (i v : Int) (k : am_H → am_R), 0 ≤ i → i < 36 → stA 1 (hI h I) (some 125) i v k = k (hI h (am_u2 I 125 i.toNat v))) ∧
  (∀ (I : am_I) (k : Option Nat → am_R), gfP 6 3 (hI h I) (some 124) k = k (some 126)) ∧
  (∀ (I : am_I) (i : Int) (k : Int → am_R), 0 ≤ i → i < 36 → ldA 1 (hI h I) (some 126) i k = k (I 126 i.toNat)) ∧
  (∀ (I : am_I) (i v : Int) (k : am_H → am_R), 0 ≤ i → i < 36 → stA 1 (hI h I) (some 126) i v k = k (hI h (am_u2 I 126 i.toNat v))) ∧
  (∀ (I : am_I) (k : Option Nat → am_R), gfP 6 4 (hI h I) (some 124) k = k (some 127)) ∧
  (∀ (I : am_I) (i : Int) (k : Option Nat → am_R), 0 ≤ i → i < 6 → ldP 6 (hI h I) (some 127) i k = k (rP h 127 i.toNat)) ∧
  (∀ (I : am_I) (k : Option Nat → am_R), gfP 6 5 (hI h I) (some 124) k = k (some 134)) ∧
  (∀ (I : am_I) (i : Int) (k : Int → am_R), 0 ≤ i → i < 64 → ldA 1 (hI h I) (some 134) i k = k (I 134 i.toNat)) ∧
  (∀ (I : am_I) (i v : Int) (k : am_H → am_R), 0 ≤ i → i < 64 → stA 1 (hI h I) (some 134) i v k = k (hI h (am_u2 I 134 i.toNat v))) ∧
  (∀ (I : am_I) (k : Option Nat → am_R), gfP 6 6 (hI h I) (some 124) k = k (some 135)) ∧
  (∀ (I : am_I) (i : Int) (k : Int → am_R), 0 ≤ i → i < 6 → ldA 1 (hI h I) (some 135) i k = k (I 135 i.toNat)) ∧
  (∀ (I : am_I) (i v : Int) (k : am_H → am_R), 0 ≤ i → i < 6 → stA 1 (hI h I) (some 135) i v k = k (hI h (am_u2 I 135 i.toNat v))) :=
  ⟨fun _ _ => e_rcv (s.T 124 rfl), fun _ _ => e_gfP (s.T 124 rfl) (s.P 139 rfl), fun _ _ => e_gfP (s.T 124 rfl) (s.P 140 rfl), fun _ _ => e_gfP (s.T 124 rfl) (s.P 141 rfl), fun _ _ _ h0 h1 => e_ldA (s.T 125 rfl) h0 h1, fun _ _ _ _ h0 h1 => e_stA (s.T 125 rfl) h0 h1, fun _ _ => e_gfP (s.T 124 rfl) (s.P 142 rfl), fun _ _ _ h0 h1 => e_ldA (s.T 126 rfl) h0 h1, fun _ _ _ _ h0 h1 => e_stA (s.T 126 rfl) h0 h1, fun _ _ => e_gfP (s.T 124 rfl) (s.P 143 rfl), fun _ _ _ h0 h1 => e_ldP (s.T 127 rfl) h0 h1, fun _ _ => e_gfP (s.T 124 rfl) (s.P 144 rfl), fun _ _ _ h0 h1 => e_ldA (s.T 134 rfl) h0 h1, fun _ _ _ _ h0 h1 => e_stA (s.T 134 rfl) h0 h1, fun _ _ => e_gfP (s.T 124 rfl) (s.P 145 rfl), fun _ _ _ h0 h1 => e_ldA (s.T 135 rfl) h0 h1, fun _ _ _ _ h0 h1 => e_stA (s.T 135 rfl) h0 h1⟩
theorem BS {h : am_H} (s : Sh h) : (∀ (I : am_I) (k : am_R), am_rcv 9 (hI h I) (Vr (some 136)) k = k) ∧
  (∀ (I : am_I) (k : Option Nat → am_R), gfP 9 0 (hI h I) (some 136) k = k (some 137)) ∧
  (∀ (I : am_I) (i : Int) (k : Int → am_R), 0 ≤ i → i < 1000 → ldA 1 (hI h I) (some 137) i k = k (I 137 i.toNat)) ∧
  (∀ (I : am_I) (i v : Int) (k : am_H → am_R), 0 ≤ i → i < 1000 → stA 1 (hI h I) (some 137) i v k = k (hI h (am_u2 I 137 i.toNat v))) ∧
  (∀ (I : am_I) (k : Option Nat → am_R), gfP 9 1 (hI h I) (some 136) k = k (some 138)) ∧
  (∀ (I : am_I) (i : Int) (k : Int → am_R), 0 ≤ i → i < 900 → ldA 1 (hI h I) (some 138) i k = k (I 138 i.toNat)) ∧
  (∀ (I : am_I) (i v : Int) (k : am_H → am_R), 0 ≤ i → i < 900 → stA 1 (hI h I) (some 138) i v k = k (hI h (am_u2 I 138 i.toNat v))) ∧
  (∀ (I : am_I) (k : Int → am_R), gfI 9 2 (hI h I) (some 136) k = k (I 136 2)) ∧
  (∀ (I : am_I) (v : Int) (k : am_H → am_R), pfI 0 9 2 (hI h I) (some 136) v k = k (hI h (am_u2 I 136 2 v))) :=
  ⟨fun _ _ => e_rcv (s.T 136 rfl), fun _ _ => e_gfP (s.T 136 rfl) (s.P 152 rfl), fun _ _ _ h0 h1 => e_ldA (s.T 137 rfl) h0 h1, fun _ _ _ _ h0 h1 => e_stA (s.T 137 rfl) h0 h1, fun _ _ => e_gfP (s.T 136 rfl) (s.P 153 rfl), fun _ _ _ h0 h1 => e_ldA (s.T 138 rfl) h0 h1, fun _ _ _ _ h0 h1 => e_stA (s.T 138 rfl) h0 h1, fun _ _ => e_gfI (s.T 136 rfl), fun _ _ _ => e_pfI (s.T 136 rfl)⟩
theorem BM {h : am_H} (s : Sh h) : (∀ (I : am_I) (k : am_R), am_rcv 12 (hI h I) (Vr (some 283)) k = k) ∧
  (∀ (I : am_I) (k : Int → am_R), gfI 12 0 (hI h I) (some 283) k = k (I 283 0)) ∧
  (∀ (I : am_I) (v : Int) (k : am_H → am_R), pfI 0 12 0 (hI h I) (some 283) v k = k (hI h (am_u2 I 283 0 v))) ∧
  (∀ (I : am_I) (k : Option Nat → am_R), gfP 12 1 (hI h I) (some 283) k = k (some 284)) ∧
  (∀ (I : am_I) (i : Int) (k : Int → am_R), 0 ≤ i → i < 2329 → ldA 1 (hI h I) (some 284) i k = k (I 284 i.toNat)) ∧
  (∀ (I : am_I) (i v : Int) (k : am_H → am_R), 0 ≤ i → i < 2329 → stA 1 (hI h I) (some 284) i v k = k (hI h (am_u2 I 284 i.toNat v))) ∧
  (∀ (I : am_I) (k : Option Nat → am_R), gfP 12 2 (hI h I) (some 283) k = k (some 285)) ∧
  (∀ (I : am_I) (i : Int) (k : Int → am_R), 0 ≤ i → i < 1480 → ldA 1 (hI h I) (some 285) i k = k (I 285 i.toNat)) ∧
  (∀ (I : am_I) (i v : Int) (k : am_H → am_R), 0 ≤ i → i < 1480 → stA 1 (hI h I) (some 285) i v k = k (hI h (am_u2 I 285 i.toNat v))) ∧
  (∀ (I : am_I) (k : Option Nat → am_R), gfP 12 3 (hI h I) (some 283) k = k (some 286)) ∧
  (∀ (I : am_I) (i : Int) (k : Int → am_R), 0 ≤ i → i < 1480 → ldA 1 (hI h I) (some 286) i k = k (I 286 i.toNat)) ∧
  (∀ (I : am_I) (i v : Int) (k : am_H → am_R), 0 ≤ i → i < 1480 → stA 1 (hI h I) (some 286) i v k = k (hI h (am_u2 I 286 i.toNat v))) ∧
  (∀ (I : am_I) (k : Option Nat → am_R), gfP 12 4 (hI h I) (some 283) k = k (some 287)) ∧
  (∀ (I : am_I) (i : Int) (k : Int → am_R), 0 ≤ i → i < 631 → ldA 1 (hI h I) (some 287) i k = k (I 287 i.toNat)) ∧
  (∀ (I : am_I) (i v : Int) (k : am_H → am_R), 0 ≤ i → i < 631 → stA 1 (hI h I) (some 287) i v k = k (hI h (am_u2 I 287 i.toNat v))) ∧
  (∀ (I : am_I) (k : Option Nat → am_R), gfP 12 5 (hI h I) (some 283) k = k (some 288)) ∧
  (∀ (I : am_I) (i : Int) (k : Int → am_R), 0 ≤ i → i < 7572 → ldA 1 (hI h I) (some 288) i k = k (I 288 i.toNat)) ∧
  (∀ (I : am_I) (i v : Int) (k : am_H → am_R), 0 ≤ i → i < 7572 → stA 1 (hI h I) (some 288) i v k = k (hI h (am_u2 I 288 i.toNat v))) ∧
  (∀ (I : am_I) (k : Int → am_R), gfI 12 6 (hI h I) (some 283) k = k (I 283 6)) ∧
  (∀ (I : am_I) (v : Int) (k : am_H → am_R), v = 0 ∨ v = 1 → pfI 1 12 6 (hI h I) (some 283) v k = k (hI h (am_u2 I 283 6 v))) ∧
  (∀ (I : am_I) (k : Int → am_R), gfI 12 7 (hI h I) (some 283) k = k (I 283 7)) ∧
  (∀ (I : am_I) (v : Int) (k : am_H → am_R), pfI 0 12 7 (hI h I) (some 283) v k = k (hI h (am_u2 I 283 7 v))) ∧
  (∀ (I : am_I) (k : Option Nat → am_R), gfP 12 8 (hI h I) (some 283) k = k (some 289)) ∧
  (∀ (I : am_I) (i : Int) (k : Int → am_R), 0 ≤ i → i < 400 → ldB (hI h I) (some 289) i k = k (I 289 i.toNat)) ∧
  (∀ (I : am_I) (i v : Int) (k : am_H → am_R), 0 ≤ i → i < 400 → -128 ≤ v ∧ v ≤ 127 → stB (hI h I) (some 289) i v k = k (hI h (am_u2 I 289 i.toNat v))) ∧
  (∀ (I : am_I) (k : Int → am_R), gfI 12 9 (hI h I) (some 283) k = k (I 283 9)) ∧
  (∀ (I : am_I) (v : Int) (k : am_H → am_R), pfI 0 12 9 (hI h I) (some 283) v k = k (hI h (am_u2 I 283 9 v))) ∧
  (∀ (I : am_I) (k : Int → am_R), gfI 12 10 (hI h I) (some 283) k = k (I 283 10)) ∧
  (∀ (I : am_I) (v : Int) (k : am_H → am_R), pfI 0 12 10 (hI h I) (some 283) v k = k (hI h (am_u2 I 283 10 v))) ∧
  (∀ (I : am_I) (k : Int → am_R), gfI 12 11 (hI h I) (some 283) k = k (I 283 11)) ∧
  (∀ (I : am_I) (v : Int) (k : am_H → am_R), pfI 0 12 11 (hI h I) (some 283) v k = k (hI h (am_u2 I 283 11 v))) ∧
  (∀ (I : am_I) (k : Int → am_R), gfI 12 12 (hI h I) (some 283) k = k (I 283 12)) ∧
  (∀ (I : am_I) (v : Int) (k : am_H → am_R), pfI 0 12 12 (hI h I) (some 283) v k = k (hI h (am_u2 I 283 12 v))) ∧
  (∀ (I : am_I) (k : Int → am_R), gfI 12 13 (hI h I) (some 283) k = k (I 283 13)) ∧
  (∀ (I : am_I) (v : Int) (k : am_H → am_R), pfI 0 12 13 (hI h I) (some 283) v k = k (hI h (am_u2 I 283 13 v))) ∧
  (∀ (I : am_I) (k : Int → am_R), gfI 12 14 (hI h I) (some 283) k = k (I 283 14)) ∧
  (∀ (I : am_I) (v : Int) (k : am_H → am_R), pfI 0 12 14 (hI h I) (some 283) v k = k (hI h (am_u2 I 283 14 v))) ∧
  (∀ (I : am_I) (k : Option Nat → am_R), gfP 12 15 (hI h I) (some 283) k = k (some 290)) ∧
  (∀ (I : am_I) (i : Int) (k : Int → am_R), 0 ≤ i → i < 5 → ldA 1 (hI h I) (some 290) i k = k (I 290 i.toNat)) ∧
  (∀ (I : am_I) (i v : Int) (k : am_H → am_R), 0 ≤ i → i < 5 → stA 1 (hI h I) (some 290) i v k = k (hI h (am_u2 I 290 i.toNat v))) ∧
  (∀ (I : am_I) (k : Int → am_R), gfI 12 16 (hI h I) (some 283) k = k (I 283 16)) ∧
  (∀ (I : am_I) (v : Int) (k : am_H → am_R), pfI 0 12 16 (hI h I) (some 283) v k = k (hI h (am_u2 I 283 16 v))) ∧
  (∀ (I : am_I) (k : Option Nat → am_R), gfP 12 17 (hI h I) (some 283) k = k (some 291)) ∧
  (∀ (I : am_I) (i : Int) (k : Int → am_R), 0 ≤ i → i < 400 → ldA 1 (hI h I) (some 291) i k = k (I 291 i.toNat)) ∧
  (∀ (I : am_I) (i v : Int) (k : am_H → am_R), 0 ≤ i → i < 400 → stA 1 (hI h I) (some 291) i v k = k (hI h (am_u2 I 291 i.toNat v))) ∧
  (∀ (I : am_I) (k : Int → am_R), gfI 12 18 (hI h I) (some 283) k = k (I 283 18)) ∧
  (∀ (I : am_I) (v : Int) (k : am_H → am_R), pfI 0 12 18 (hI h I) (some 283) v k = k (hI h (am_u2 I 283 18 v))) ∧
  (∀ (I : am_I) (k : Int → am_R), gfI 12 19 (hI h I) (some 283) k = k (I 283 19)) ∧
  (∀ (I : am_I) (v : Int) (k : am_H → am_R), pfI 0 12 19 (hI h I) (some 283) v k = k (hI h (am_u2 I 283 19 v))) ∧
  (∀ (I : am_I) (k : Option Nat → am_R), gfP 12 20 (hI h I) (some 283) k = k (some 292)) ∧
  (∀ (I : am_I) (i : Int) (k : Int → am_R), 0 ≤ i → i < 36 → ldA 1 (hI h I) (some 292) i k = k (I 292 i.toNat)) ∧
  (∀ (I : am_I) (i v : Int) (k : am_H → am_R), 0 ≤ i → i < 36 → stA 1 (hI h I) (some 292) i v k = k (hI h (am_u2 I 292 i.toNat v))) ∧
  (∀ (I : am_I) (k : Option Nat → am_R), gfP 12 21 (hI h I) (some 283) k = k (some 293)) ∧
  (∀ (I : am_I) (i : Int) (k : Int → am_R), 0 ≤ i → i < 36 → ldA 1 (hI h I) (some 293) i k = k (I 293 i.toNat)) ∧
  (∀ (I : am_I) (i v : Int) (k : am_H → am_R), 0 ≤ i → i < 36 → stA 1 (hI h I) (some 293) i v k = k (hI h (am_u2 I 293 i.toNat v))) ∧
  (∀ (I : am_I) (k : Option Nat → am_R), gfP 12 22 (hI h I) (some 283) k = k (some 294)) ∧
  (∀ (I : am_I) (i : Int) (k : Int → am_R), 0 ≤ i → i < 60 → ldA 1 (hI h I) (some 294) i k = k (I 294 i.toNat)) ∧
  (∀ (I : am_I) (i v : Int) (k : am_H → am_R), 0 ≤ i → i < 60 → stA 1 (hI h I) (some 294) i v k = k (hI h (am_u2 I 294 i.toNat v))) ∧
  (∀ (I : am_I) (k : Option Nat → am_R), gfP 12 23 (hI h I) (some 283) k = k (some 295)) ∧
  (∀ (I : am_I) (i : Int) (k : Int → am_R), 0 ≤ i → i < 36 → ldA 1 (hI h I) (some 295) i k = k (I 295 i.toNat)) ∧
  (∀ (I : am_I) (i v : Int) (k : am_H → am_R), 0 ≤ i → i < 36 → stA 1 (hI h I) (some 295) i v k = k (hI h (am_u2 I 295 i.toNat v))) ∧
  (∀ (I : am_I) (k : Option Nat → am_R), gfP 12 24 (hI h I) (some 283) k = k (some 296)) ∧
  (∀ (I : am_I) (i : Int) (k : Int → am_R), 0 ≤ i → i < 36 → ldA 1 (hI h I) (some 296) i k = k (I 296 i.toNat)) ∧
  (∀ (I : am_I) (i v : Int) (k : am_H → am_R), 0 ≤ i → i < 36 → stA 1 (hI h I) (some 296) i v k = k (hI h (am_u2 I 296 i.toNat v))) ∧
  (∀ (I : am_I) (k : Option Nat → am_R), gfP 12 25 (hI h I) (some 283) k = k (some 297)) ∧
  (∀ (I : am_I) (i : Int) (k : Int → am_R), 0 ≤ i → i < 2304 → ldA 1 (hI h I) (some 297) i k = k (I 297 i.toNat)) ∧
  (∀ (I : am_I) (i v : Int) (k : am_H → am_R), 0 ≤ i → i < 2304 → stA 1 (hI h I) (some 297) i v k = k (hI h (am_u2 I 297 i.toNat v))) ∧
  (∀ (I : am_I) (k : Option Nat → am_R), gfP 12 26 (hI h I) (some 283) k = k (some 298)) ∧
  (∀ (I : am_I) (i : Int) (k : Int → am_R), 0 ≤ i → i < 49 → ldA 1 (hI h I) (some 298) i k = k (I 298 i.toNat)) ∧
  (∀ (I : am_I) (i v : Int) (k : am_H → am_R), 0 ≤ i → i < 49 → stA 1 (hI h I) (some 298) i v k = k (hI h (am_u2 I 298 i.toNat v))) ∧
  (∀ (I : am_I) (k : Option Nat → am_R), gfP 12 27 (hI h I) (some 283) k = k (some 299)) ∧
  (∀ (I : am_I) (i : Int) (k : Int → am_R), 0 ≤ i → i < 1000 → ldB (hI h I) (some 299) i k = k (I 299 i.toNat)) ∧
  (∀ (I : am_I) (i v : Int) (k : am_H → am_R), 0 ≤ i → i < 1000 → v = 0 ∨ v = 1 → stB (hI h I) (some 299) i v k = k (hI h (am_u2 I 299 i.toNat v))) ∧
  (∀ (I : am_I) (k : Option Nat → am_R), gfP 12 28 (hI h I) (some 283) k = k (some 300)) ∧
  (∀ (I : am_I) (i : Int) (k : Int → am_R), 0 ≤ i → i < 1000 → ldA 1 (hI h I) (some 300) i k = k (I 300 i.toNat)) ∧
  (∀ (I : am_I) (i v : Int) (k : am_H → am_R), 0 ≤ i → i < 1000 → stA 1 (hI h I) (some 300) i v k = k (hI h (am_u2 I 300 i.toNat v))) ∧
  (∀ (I : am_I) (k : Option Nat → am_R), gfP 12 29 (hI h I) (some 283) k = k (some 301)) ∧
  (∀ (I : am_I) (i : Int) (k : Int → am_R), 0 ≤ i → i < 64 → ldA 1 (hI h I) (some 301) i k = k (I 301 i.toNat)) ∧
  (∀ (I : am_I) (i v : Int) (k : am_H → am_R), 0 ≤ i → i < 64 → stA 1 (hI h I) (some 301) i v k = k (hI h (am_u2 I 301 i.toNat v))) ∧
  (∀ (I : am_I) (k : Option Nat → am_R), gfP 12 30 (hI h I) (some 283) k = k (some 302)) ∧
  (∀ (I : am_I) (i : Int) (k : Int → am_R), 0 ≤ i → i < 36 → ldA 1 (hI h I) (some 302) i k = k (I 302 i.toNat)) ∧
  (∀ (I : am_I) (i v : Int) (k : am_H → am_R), 0 ≤ i → i < 36 → stA 1 (hI h I) (some 302) i v k = k (hI h (am_u2 I 302 i.toNat v))) ∧
  (∀ (I : am_I) (i : Int) (k : Int → am_R), 0 ≤ i → i < 1 → ldA 4 (hI h I) (some 303) i k = k (I 303 i.toNat)) ∧
  (∀ (I : am_I) (i v : Int) (k : am_H → am_R), 0 ≤ i → i < 1 → stA 4 (hI h I) (some 303) i v k = k (hI h (am_u2 I 303 i.toNat v))) :=
  ⟨fun _ _ => e_rcv (s.T 283 rfl), fun _ _ => e_gfI (s.T 283 rfl), fun _ _ _ => e_pfI (s.T 283 rfl), fun _ _ => e_gfP (s.T 283 rfl) (s.P 286 rfl), fun _ _ _ h0 h1 => e_ldA (s.T 284 rfl) h0 h1, fun _ _ _ _ h0 h1 => e_stA (s.T 284 rfl) h0 h1, fun _ _ => e_gfP (s.T 283 rfl) (s.P 287 rfl), fun _ _ _ h0 h1 => e_ldA (s.T 285 rfl) h0 h1, fun _ _ _ _ h0 h1 => e_stA (s.T 285 rfl) h0 h1, fun _ _ => e_gfP (s.T 283 rfl) (s.P 288 rfl), fun _ _ _ h0 h1 => e_ldA (s.T 286 rfl) h0 h1, fun _ _ _ _ h0 h1 => e_stA (s.T 286 rfl) h0 h1, fun _ _ => e_gfP (s.T 283 rfl) (s.P 289 rfl), fun _ _ _ h0 h1 => e_ldA (s.T 287 rfl) h0 h1, fun _ _ _ _ h0 h1 => e_stA (s.T 287 rfl) h0 h1, fun _ _ => e_gfP (s.T 283 rfl) (s.P 290 rfl), fun _ _ _ h0 h1 => e_ldA (s.T 288 rfl) h0 h1, fun _ _ _ _ h0 h1 => e_stA (s.T 288 rfl) h0 h1, fun _ _ => e_gfI (s.T 283 rfl), fun _ _ _ hv => e_pfZ (s.T 283 rfl) hv, fun _ _ => e_gfI (s.T 283 rfl), fun _ _ _ => e_pfI (s.T 283 rfl), fun _ _ => e_gfP (s.T 283 rfl) (s.P 291 rfl), fun _ _ _ h0 h1 => e_ldY (s.T 289 rfl) h0 h1, fun _ _ _ _ h0 h1 hv => e_stY (s.T 289 rfl) h0 h1 hv, fun _ _ => e_gfI (s.T 283 rfl), fun _ _ _ => e_pfI (s.T 283 rfl), fun _ _ => e_gfI (s.T 283 rfl), fun _ _ _ => e_pfI (s.T 283 rfl), fun _ _ => e_gfI (s.T 283 rfl), fun _ _ _ => e_pfI (s.T 283 rfl), fun _ _ => e_gfI (s.T 283 rfl), fun _ _ _ => e_pfI (s.T 283 rfl), fun _ _ => e_gfI (s.T 283 rfl), fun _ _ _ => e_pfI (s.T 283 rfl), fun _ _ => e_gfI (s.T 283 rfl), fun _ _ _ => e_pfI (s.T 283 rfl), fun _ _ => e_gfP (s.T 283 rfl) (s.P 292 rfl), fun _ _ _ h0 h1 => e_ldA (s.T 290 rfl) h0 h1, fun _ _ _ _ h0 h1 => e_stA (s.T 290 rfl) h0 h1, fun _ _ => e_gfI (s.T 283 rfl), fun _ _ _ => e_pfI (s.T 283 rfl), fun _ _ => e_gfP (s.T 283 rfl) (s.P 293 rfl), fun _ _ _ h0 h1 => e_ldA (s.T 291 rfl) h0 h1, fun _ _ _ _ h0 h1 => e_stA (s.T 291 rfl) h0 h1, fun _ _ => e_gfI (s.T 283 rfl), fun _ _ _ => e_pfI (s.T 283 rfl), fun _ _ => e_gfI (s.T 283 rfl), fun _ _ _ => e_pfI (s.T 283 rfl), fun _ _ => e_gfP (s.T 283 rfl) (s.P 294 rfl), fun _ _ _ h0 h1 => e_ldA (s.T 292 rfl) h0 h1, fun _ _ _ _ h0 h1 => e_stA (s.T 292 rfl) h0 h1, fun _ _ => e_gfP (s.T 283 rfl) (s.P 295 rfl), fun _ _ _ h0 h1 => e_ldA (s.T 293 rfl) h0 h1, fun _ _ _ _ h0 h1 => e_stA (s.T 293 rfl) h0 h1, fun _ _ => e_gfP (s.T 283 rfl) (s.P 296 rfl), fun _ _ _ h0 h1 => e_ldA (s.T 294 rfl) h0 h1, fun _ _ _ _ h0 h1 => e_stA (s.T 294 rfl) h0 h1, fun _ _ => e_gfP (s.T 283 rfl) (s.P 297 rfl), fun _ _ _ h0 h1 => e_ldA (s.T 295 rfl) h0 h1, fun _ _ _ _ h0 h1 => e_stA (s.T 295 rfl) h0 h1, fun _ _ => e_gfP (s.T 283 rfl) (s.P 298 rfl), fun _ _ _ h0 h1 => e_ldA (s.T 296 rfl) h0 h1, fun _ _ _ _ h0 h1 => e_stA (s.T 296 rfl) h0 h1, fun _ _ => e_gfP (s.T 283 rfl) (s.P 299 rfl), fun _ _ _ h0 h1 => e_ldA (s.T 297 rfl) h0 h1, fun _ _ _ _ h0 h1 => e_stA (s.T 297 rfl) h0 h1, fun _ _ => e_gfP (s.T 283 rfl) (s.P 300 rfl), fun _ _ _ h0 h1 => e_ldA (s.T 298 rfl) h0 h1, fun _ _ _ _ h0 h1 => e_stA (s.T 298 rfl) h0 h1, fun _ _ => e_gfP (s.T 283 rfl) (s.P 301 rfl), fun _ _ _ h0 h1 => e_ldB (s.T 299 rfl) h0 h1, fun _ _ _ _ h0 h1 hv => e_stB (s.T 299 rfl) h0 h1 hv, fun _ _ => e_gfP (s.T 283 rfl) (s.P 302 rfl), fun _ _ _ h0 h1 => e_ldA (s.T 300 rfl) h0 h1, fun _ _ _ _ h0 h1 => e_stA (s.T 300 rfl) h0 h1, fun _ _ => e_gfP (s.T 283 rfl) (s.P 303 rfl), fun _ _ _ h0 h1 => e_ldA (s.T 301 rfl) h0 h1, fun _ _ _ _ h0 h1 => e_stA (s.T 301 rfl) h0 h1, fun _ _ => e_gfP (s.T 283 rfl) (s.P 304 rfl), fun _ _ _ h0 h1 => e_ldA (s.T 302 rfl) h0 h1, fun _ _ _ _ h0 h1 => e_stA (s.T 302 rfl) h0 h1, fun _ _ _ h0 h1 => e_ldA (s.T 303 rfl) h0 h1, fun _ _ _ _ h0 h1 => e_stA (s.T 303 rfl) h0 h1⟩
theorem tree_of {h : am_H} (s : Sh h) {k : Nat} (hk : k < 64) : rP h 56 k = some (57 + k) ∧ hT h (57 + k) = (1, 36) := by
  have h1 : ∀ k, k < 64 → shP[75 + k]? = some (56, k, 57 + k) ∧ shT.getD (57 + k) (0, 0) = (1, 36) := by decide +kernel
  refine ⟨s.P _ (h1 k hk).1, (s.1 _ (by omega)).trans (h1 k hk).2⟩
theorem worth_of {h : am_H} (s : Sh h) {k : Nat} (hk : k < 6) : rP h 127 k = some (128 + k) ∧ hT h (128 + k) = (1, 6) := by
  have h1 : ∀ k, k < 6 → shP[146 + k]? = some (127, k, 128 + k) ∧ shT.getD (128 + k) (0, 0) = (1, 6) := by decide +kernel
  refine ⟨s.P _ (h1 k hk).1, (s.1 _ (by omega)).trans (h1 k hk).2⟩
theorem acts_of {h : am_H} (s : Sh h) {k : Nat} (hk : k < 12) : rP h 47 k = some (139 + 12 * k) ∧ isC (139 + 12 * k) := by
  have h1 : ∀ k, k < 12 → shP[53 + k]? = some (47, k, 139 + 12 * k) := by decide +kernel
  refine ⟨s.P _ (h1 k hk), ?_⟩
  unfold isC
  omega
