
/-! the model reads a text: its token is the class's one -/
def tkm (k : Int) : Int := if k = 0 then 0 else if k = 1 then 4 else if k = 2 then 3 else if k = 3 then 2 else 1
def RpT2 (f : Nat → Int32) (b : List Int) (T : Tk) : Prop := (f 17).toInt = (T.1 : Int) ∧ (f 18).toInt = (T.2.2.2 : Int) - T.1 ∧ (f 19).toInt = tkm T.2.1 ∧ (T.2.1 = 3 → (f 20).toInt = T.2.2.1) ∧ T.1 ≤ T.2.2.2 ∧ T.2.2.2 ≤ b.length ∧ 0 ≤ T.2.1 ∧ T.2.1 ≤ 4
def wds (a b c d e : Int) (k : Nat) : Int := if k = 0 then a else if k = 1 then b else if k = 2 then c else if k = 3 then d else e
def tkP (M M' : zM) (b : List Int) (T : Tk) (k : Nat) (lo hi : Int) : Prop := if numIs T lo hi = true then (RpT2 (M'.1 9 0) b (tok b T.2.2.2) ∧ (∃ x : Int32, x.toInt = T.2.2.1 ∧ M'.1 9 11 = upd (M.1 9 11) k x) ∧ M'.1 9 10 = M.1 9 10 ∧ scr M M') else M' = M
def rdQ (M M' : zM) (b : List Int) (R : Bool × Tk × Sk) : Prop := RpT2 (M'.1 9 0) b (if R.1 then tok b R.2.1.2.2.2 else R.2.1) ∧ (R.1 = true → RpF (M'.1 9 10) R.2.2) ∧ (∀ j, 127 ≤ j → M'.1 9 10 j = M.1 9 10 j) ∧ scr M M'
def sp_X8_lookAt : zSpec := fun kd as M K => match as with
  | [.inr (.inr (.inl (9, 0))), .inl x] => (kd 9 = 8) ∧ ∃ b : List Int, (RpY M b) ∧ ∃ p : Nat, (x.toInt = (p : Int) ∧ p ≤ b.length) ∧ ∀ f : Nat → Int32, (RpT2 f b (tok b p) ∧ ∀ j9, j9 ≤ 16 → f j9 = M.1 9 0 j9) → ∀ M' : zM, (M' = zmw M 9 0 f) → K none M'
  | _ => False
theorem rv_X8_lookAt : zrv sp_X8_lookAt 8 1 := by
  intro kd as M K h
  unfold sp_X8_lookAt at h
  split at h
  · exact ⟨_, _, rfl, h.1⟩
  · exact h.elim
theorem dd_X8_lookAt_0 : decode cX8_lookAt 0 = .ok (.aload_n 0, 1) := by decide +kernel
theorem dd_X8_lookAt_1 : decode cX8_lookAt 1 = .ok (.iload_n 1, 1) := by decide +kernel
theorem dd_X8_lookAt_2 : decode cX8_lookAt 2 = .ok (.putfield 256, 3) := by decide +kernel
theorem dd_X8_lookAt_5 : decode cX8_lookAt 5 = .ok (.aload_n 0, 1) := by decide +kernel
theorem dd_X8_lookAt_6 : decode cX8_lookAt 6 = .ok (.getfield 256, 3) := by decide +kernel
theorem dd_X8_lookAt_9 : decode cX8_lookAt 9 = .ok (.aload_n 0, 1) := by decide +kernel
theorem dd_X8_lookAt_10 : decode cX8_lookAt 10 = .ok (.getfield 245, 3) := by decide +kernel
theorem dd_X8_lookAt_13 : decode cX8_lookAt 13 = .ok (.if_icmp .ge 30, 3) := by decide +kernel
theorem dd_X8_lookAt_16 : decode cX8_lookAt 16 = .ok (.aload_n 0, 1) := by decide +kernel
theorem dd_X8_lookAt_17 : decode cX8_lookAt 17 = .ok (.getfield 39, 3) := by decide +kernel
theorem dd_X8_lookAt_20 : decode cX8_lookAt 20 = .ok (.aload_n 0, 1) := by decide +kernel
theorem dd_X8_lookAt_21 : decode cX8_lookAt 21 = .ok (.getfield 256, 3) := by decide +kernel
theorem dd_X8_lookAt_24 : decode cX8_lookAt 24 = .ok (.iaload, 1) := by decide +kernel
theorem dd_X8_lookAt_25 : decode cX8_lookAt 25 = .ok (.bipush 32, 2) := by decide +kernel
theorem dd_X8_lookAt_27 : decode cX8_lookAt 27 = .ok (.if_icmp .ne 16, 3) := by decide +kernel
theorem dd_X8_lookAt_30 : decode cX8_lookAt 30 = .ok (.aload_n 0, 1) := by decide +kernel
theorem dd_X8_lookAt_31 : decode cX8_lookAt 31 = .ok (.dup, 1) := by decide +kernel
theorem dd_X8_lookAt_32 : decode cX8_lookAt 32 = .ok (.getfield 256, 3) := by decide +kernel
theorem dd_X8_lookAt_35 : decode cX8_lookAt 35 = .ok (.iconst 1, 1) := by decide +kernel
theorem dd_X8_lookAt_36 : decode cX8_lookAt 36 = .ok (.iadd, 1) := by decide +kernel
theorem dd_X8_lookAt_37 : decode cX8_lookAt 37 = .ok (.putfield 256, 3) := by decide +kernel
theorem dd_X8_lookAt_40 : decode cX8_lookAt 40 = .ok (.goto (-35), 3) := by decide +kernel
theorem dd_X8_lookAt_43 : decode cX8_lookAt 43 = .ok (.aload_n 0, 1) := by decide +kernel
theorem dd_X8_lookAt_44 : decode cX8_lookAt 44 = .ok (.iconst 0, 1) := by decide +kernel
theorem dd_X8_lookAt_45 : decode cX8_lookAt 45 = .ok (.putfield 259, 3) := by decide +kernel
theorem dd_X8_lookAt_48 : decode cX8_lookAt 48 = .ok (.aload_n 0, 1) := by decide +kernel
theorem dd_X8_lookAt_49 : decode cX8_lookAt 49 = .ok (.iconst 0, 1) := by decide +kernel
theorem dd_X8_lookAt_50 : decode cX8_lookAt 50 = .ok (.putfield 262, 3) := by decide +kernel
theorem dd_X8_lookAt_53 : decode cX8_lookAt 53 = .ok (.aload_n 0, 1) := by decide +kernel
theorem dd_X8_lookAt_54 : decode cX8_lookAt 54 = .ok (.iconst 0, 1) := by decide +kernel
theorem dd_X8_lookAt_55 : decode cX8_lookAt 55 = .ok (.putfield 265, 3) := by decide +kernel
theorem dd_X8_lookAt_58 : decode cX8_lookAt 58 = .ok (.aload_n 0, 1) := by decide +kernel
theorem dd_X8_lookAt_59 : decode cX8_lookAt 59 = .ok (.getfield 256, 3) := by decide +kernel
theorem dd_X8_lookAt_62 : decode cX8_lookAt 62 = .ok (.aload_n 0, 1) := by decide +kernel
theorem dd_X8_lookAt_63 : decode cX8_lookAt 63 = .ok (.getfield 245, 3) := by decide +kernel
theorem dd_X8_lookAt_66 : decode cX8_lookAt 66 = .ok (.if_icmp .ne 4, 3) := by decide +kernel
theorem dd_X8_lookAt_69 : decode cX8_lookAt 69 = .ok (.return_, 1) := by decide +kernel
theorem dd_X8_lookAt_70 : decode cX8_lookAt 70 = .ok (.aload_n 0, 1) := by decide +kernel
theorem dd_X8_lookAt_71 : decode cX8_lookAt 71 = .ok (.getfield 39, 3) := by decide +kernel
theorem dd_X8_lookAt_74 : decode cX8_lookAt 74 = .ok (.aload_n 0, 1) := by decide +kernel
theorem dd_X8_lookAt_75 : decode cX8_lookAt 75 = .ok (.getfield 256, 3) := by decide +kernel
theorem dd_X8_lookAt_78 : decode cX8_lookAt 78 = .ok (.iaload, 1) := by decide +kernel
theorem dd_X8_lookAt_79 : decode cX8_lookAt 79 = .ok (.istore_n 2, 1) := by decide +kernel
theorem dd_X8_lookAt_80 : decode cX8_lookAt 80 = .ok (.aload_n 0, 1) := by decide +kernel
theorem dd_X8_lookAt_81 : decode cX8_lookAt 81 = .ok (.iload_n 2, 1) := by decide +kernel
theorem dd_X8_lookAt_82 : decode cX8_lookAt 82 = .ok (.invokestatic 268, 3) := by decide +kernel
theorem dd_X8_lookAt_85 : decode cX8_lookAt 85 = .ok (.ifCond .eq 7, 3) := by decide +kernel
theorem dd_X8_lookAt_88 : decode cX8_lookAt 88 = .ok (.iconst 1, 1) := by decide +kernel
theorem dd_X8_lookAt_89 : decode cX8_lookAt 89 = .ok (.goto 25, 3) := by decide +kernel
theorem dd_X8_lookAt_92 : decode cX8_lookAt 92 = .ok (.iload_n 2, 1) := by decide +kernel
theorem dd_X8_lookAt_93 : decode cX8_lookAt 93 = .ok (.invokestatic 271, 3) := by decide +kernel
theorem dd_X8_lookAt_96 : decode cX8_lookAt 96 = .ok (.ifCond .eq 7, 3) := by decide +kernel
theorem dd_X8_lookAt_99 : decode cX8_lookAt 99 = .ok (.iconst 2, 1) := by decide +kernel
theorem dd_X8_lookAt_100 : decode cX8_lookAt 100 = .ok (.goto 14, 3) := by decide +kernel
theorem dd_X8_lookAt_103 : decode cX8_lookAt 103 = .ok (.iload_n 2, 1) := by decide +kernel
theorem dd_X8_lookAt_104 : decode cX8_lookAt 104 = .ok (.bipush 59, 2) := by decide +kernel
theorem dd_X8_lookAt_106 : decode cX8_lookAt 106 = .ok (.if_icmp .ne 7, 3) := by decide +kernel
theorem dd_X8_lookAt_109 : decode cX8_lookAt 109 = .ok (.iconst 3, 1) := by decide +kernel
theorem dd_X8_lookAt_110 : decode cX8_lookAt 110 = .ok (.goto 4, 3) := by decide +kernel
theorem dd_X8_lookAt_113 : decode cX8_lookAt 113 = .ok (.iconst 4, 1) := by decide +kernel
theorem dd_X8_lookAt_114 : decode cX8_lookAt 114 = .ok (.putfield 262, 3) := by decide +kernel
theorem dd_X8_lookAt_117 : decode cX8_lookAt 117 = .ok (.aload_n 0, 1) := by decide +kernel
theorem dd_X8_lookAt_118 : decode cX8_lookAt 118 = .ok (.iconst 1, 1) := by decide +kernel
theorem dd_X8_lookAt_119 : decode cX8_lookAt 119 = .ok (.putfield 259, 3) := by decide +kernel
theorem dd_X8_lookAt_122 : decode cX8_lookAt 122 = .ok (.aload_n 0, 1) := by decide +kernel
theorem dd_X8_lookAt_123 : decode cX8_lookAt 123 = .ok (.getfield 262, 3) := by decide +kernel
theorem dd_X8_lookAt_126 : decode cX8_lookAt 126 = .ok (.iconst 3, 1) := by decide +kernel
theorem dd_X8_lookAt_127 : decode cX8_lookAt 127 = .ok (.if_icmp .ge 7, 3) := by decide +kernel
theorem dd_X8_lookAt_130 : decode cX8_lookAt 130 = .ok (.iconst 1, 1) := by decide +kernel
theorem dd_X8_lookAt_131 : decode cX8_lookAt 131 = .ok (.goto 4, 3) := by decide +kernel
theorem dd_X8_lookAt_134 : decode cX8_lookAt 134 = .ok (.iconst 0, 1) := by decide +kernel
theorem dd_X8_lookAt_135 : decode cX8_lookAt 135 = .ok (.istore_n 3, 1) := by decide +kernel
theorem dd_X8_lookAt_136 : decode cX8_lookAt 136 = .ok (.iload_n 3, 1) := by decide +kernel
theorem dd_X8_lookAt_137 : decode cX8_lookAt 137 = .ok (.ifCond .eq 78, 3) := by decide +kernel
theorem dd_X8_lookAt_140 : decode cX8_lookAt 140 = .ok (.aload_n 0, 1) := by decide +kernel
theorem dd_X8_lookAt_141 : decode cX8_lookAt 141 = .ok (.getfield 256, 3) := by decide +kernel
theorem dd_X8_lookAt_144 : decode cX8_lookAt 144 = .ok (.aload_n 0, 1) := by decide +kernel
theorem dd_X8_lookAt_145 : decode cX8_lookAt 145 = .ok (.getfield 259, 3) := by decide +kernel
theorem dd_X8_lookAt_148 : decode cX8_lookAt 148 = .ok (.iadd, 1) := by decide +kernel
theorem dd_X8_lookAt_149 : decode cX8_lookAt 149 = .ok (.aload_n 0, 1) := by decide +kernel
theorem dd_X8_lookAt_150 : decode cX8_lookAt 150 = .ok (.getfield 245, 3) := by decide +kernel
theorem dd_X8_lookAt_153 : decode cX8_lookAt 153 = .ok (.if_icmp .ge 62, 3) := by decide +kernel
theorem dd_X8_lookAt_156 : decode cX8_lookAt 156 = .ok (.aload_n 0, 1) := by decide +kernel
theorem dd_X8_lookAt_157 : decode cX8_lookAt 157 = .ok (.getfield 39, 3) := by decide +kernel
theorem dd_X8_lookAt_160 : decode cX8_lookAt 160 = .ok (.aload_n 0, 1) := by decide +kernel
theorem dd_X8_lookAt_161 : decode cX8_lookAt 161 = .ok (.getfield 256, 3) := by decide +kernel
theorem dd_X8_lookAt_164 : decode cX8_lookAt 164 = .ok (.aload_n 0, 1) := by decide +kernel
theorem dd_X8_lookAt_165 : decode cX8_lookAt 165 = .ok (.getfield 259, 3) := by decide +kernel
theorem dd_X8_lookAt_168 : decode cX8_lookAt 168 = .ok (.iadd, 1) := by decide +kernel
theorem dd_X8_lookAt_169 : decode cX8_lookAt 169 = .ok (.iaload, 1) := by decide +kernel
theorem dd_X8_lookAt_170 : decode cX8_lookAt 170 = .ok (.istore 4, 2) := by decide +kernel
theorem dd_X8_lookAt_172 : decode cX8_lookAt 172 = .ok (.aload_n 0, 1) := by decide +kernel
theorem dd_X8_lookAt_173 : decode cX8_lookAt 173 = .ok (.getfield 262, 3) := by decide +kernel
theorem dd_X8_lookAt_176 : decode cX8_lookAt 176 = .ok (.iconst 1, 1) := by decide +kernel
theorem dd_X8_lookAt_177 : decode cX8_lookAt 177 = .ok (.if_icmp .ne 11, 3) := by decide +kernel
theorem dd_X8_lookAt_180 : decode cX8_lookAt 180 = .ok (.iload 4, 2) := by decide +kernel
theorem dd_X8_lookAt_182 : decode cX8_lookAt 182 = .ok (.invokestatic 268, 3) := by decide +kernel
theorem dd_X8_lookAt_185 : decode cX8_lookAt 185 = .ok (.goto 8, 3) := by decide +kernel
theorem dd_X8_lookAt_188 : decode cX8_lookAt 188 = .ok (.iload 4, 2) := by decide +kernel
theorem dd_X8_lookAt_190 : decode cX8_lookAt 190 = .ok (.invokestatic 271, 3) := by decide +kernel
theorem dd_X8_lookAt_193 : decode cX8_lookAt 193 = .ok (.istore_n 3, 1) := by decide +kernel
theorem dd_X8_lookAt_194 : decode cX8_lookAt 194 = .ok (.aload_n 0, 1) := by decide +kernel
theorem dd_X8_lookAt_195 : decode cX8_lookAt 195 = .ok (.dup, 1) := by decide +kernel
theorem dd_X8_lookAt_196 : decode cX8_lookAt 196 = .ok (.getfield 259, 3) := by decide +kernel
theorem dd_X8_lookAt_199 : decode cX8_lookAt 199 = .ok (.iload_n 3, 1) := by decide +kernel
theorem dd_X8_lookAt_200 : decode cX8_lookAt 200 = .ok (.ifCond .eq 7, 3) := by decide +kernel
theorem dd_X8_lookAt_203 : decode cX8_lookAt 203 = .ok (.iconst 1, 1) := by decide +kernel
theorem dd_X8_lookAt_204 : decode cX8_lookAt 204 = .ok (.goto 4, 3) := by decide +kernel
theorem dd_X8_lookAt_207 : decode cX8_lookAt 207 = .ok (.iconst 0, 1) := by decide +kernel
theorem dd_X8_lookAt_208 : decode cX8_lookAt 208 = .ok (.iadd, 1) := by decide +kernel
theorem dd_X8_lookAt_209 : decode cX8_lookAt 209 = .ok (.putfield 259, 3) := by decide +kernel
theorem dd_X8_lookAt_212 : decode cX8_lookAt 212 = .ok (.goto (-76), 3) := by decide +kernel
theorem dd_X8_lookAt_215 : decode cX8_lookAt 215 = .ok (.iconst 0, 1) := by decide +kernel
theorem dd_X8_lookAt_216 : decode cX8_lookAt 216 = .ok (.istore 4, 2) := by decide +kernel
theorem dd_X8_lookAt_218 : decode cX8_lookAt 218 = .ok (.iload 4, 2) := by decide +kernel
theorem dd_X8_lookAt_220 : decode cX8_lookAt 220 = .ok (.aload_n 0, 1) := by decide +kernel
theorem dd_X8_lookAt_221 : decode cX8_lookAt 221 = .ok (.getfield 259, 3) := by decide +kernel
theorem dd_X8_lookAt_224 : decode cX8_lookAt 224 = .ok (.if_icmp .ge 50, 3) := by decide +kernel
theorem dd_X8_lookAt_227 : decode cX8_lookAt 227 = .ok (.iload 4, 2) := by decide +kernel
theorem dd_X8_lookAt_229 : decode cX8_lookAt 229 = .ok (.iconst 2, 1) := by decide +kernel
theorem dd_X8_lookAt_230 : decode cX8_lookAt 230 = .ok (.if_icmp .ge 44, 3) := by decide +kernel
theorem dd_X8_lookAt_233 : decode cX8_lookAt 233 = .ok (.aload_n 0, 1) := by decide +kernel
theorem dd_X8_lookAt_234 : decode cX8_lookAt 234 = .ok (.getfield 262, 3) := by decide +kernel
theorem dd_X8_lookAt_237 : decode cX8_lookAt 237 = .ok (.iconst 2, 1) := by decide +kernel
theorem dd_X8_lookAt_238 : decode cX8_lookAt 238 = .ok (.if_icmp .ne 36, 3) := by decide +kernel
theorem dd_X8_lookAt_241 : decode cX8_lookAt 241 = .ok (.aload_n 0, 1) := by decide +kernel
theorem dd_X8_lookAt_242 : decode cX8_lookAt 242 = .ok (.bipush 10, 2) := by decide +kernel
theorem dd_X8_lookAt_244 : decode cX8_lookAt 244 = .ok (.aload_n 0, 1) := by decide +kernel
theorem dd_X8_lookAt_245 : decode cX8_lookAt 245 = .ok (.getfield 265, 3) := by decide +kernel
theorem dd_X8_lookAt_248 : decode cX8_lookAt 248 = .ok (.imul, 1) := by decide +kernel
theorem dd_X8_lookAt_249 : decode cX8_lookAt 249 = .ok (.aload_n 0, 1) := by decide +kernel
theorem dd_X8_lookAt_250 : decode cX8_lookAt 250 = .ok (.getfield 39, 3) := by decide +kernel
theorem dd_X8_lookAt_253 : decode cX8_lookAt 253 = .ok (.aload_n 0, 1) := by decide +kernel
theorem dd_X8_lookAt_254 : decode cX8_lookAt 254 = .ok (.getfield 256, 3) := by decide +kernel
theorem dd_X8_lookAt_257 : decode cX8_lookAt 257 = .ok (.iload 4, 2) := by decide +kernel
theorem dd_X8_lookAt_259 : decode cX8_lookAt 259 = .ok (.iadd, 1) := by decide +kernel
theorem dd_X8_lookAt_260 : decode cX8_lookAt 260 = .ok (.iaload, 1) := by decide +kernel
theorem dd_X8_lookAt_261 : decode cX8_lookAt 261 = .ok (.iadd, 1) := by decide +kernel
theorem dd_X8_lookAt_262 : decode cX8_lookAt 262 = .ok (.bipush 48, 2) := by decide +kernel
theorem dd_X8_lookAt_264 : decode cX8_lookAt 264 = .ok (.isub, 1) := by decide +kernel
theorem dd_X8_lookAt_265 : decode cX8_lookAt 265 = .ok (.putfield 265, 3) := by decide +kernel
theorem dd_X8_lookAt_268 : decode cX8_lookAt 268 = .ok (.iinc 4 1, 3) := by decide +kernel
theorem dd_X8_lookAt_271 : decode cX8_lookAt 271 = .ok (.goto (-53), 3) := by decide +kernel
theorem dd_X8_lookAt_274 : decode cX8_lookAt 274 = .ok (.aload_n 0, 1) := by decide +kernel
theorem dd_X8_lookAt_275 : decode cX8_lookAt 275 = .ok (.aload_n 0, 1) := by decide +kernel
theorem dd_X8_lookAt_276 : decode cX8_lookAt 276 = .ok (.getfield 262, 3) := by decide +kernel
theorem dd_X8_lookAt_279 : decode cX8_lookAt 279 = .ok (.iconst 2, 1) := by decide +kernel
theorem dd_X8_lookAt_280 : decode cX8_lookAt 280 = .ok (.if_icmp .ne 15, 3) := by decide +kernel
theorem dd_X8_lookAt_283 : decode cX8_lookAt 283 = .ok (.aload_n 0, 1) := by decide +kernel
theorem dd_X8_lookAt_284 : decode cX8_lookAt 284 = .ok (.getfield 259, 3) := by decide +kernel
theorem dd_X8_lookAt_287 : decode cX8_lookAt 287 = .ok (.iconst 2, 1) := by decide +kernel
theorem dd_X8_lookAt_288 : decode cX8_lookAt 288 = .ok (.if_icmp .le 7, 3) := by decide +kernel
theorem dd_X8_lookAt_291 : decode cX8_lookAt 291 = .ok (.iconst 4, 1) := by decide +kernel
theorem dd_X8_lookAt_292 : decode cX8_lookAt 292 = .ok (.goto 7, 3) := by decide +kernel
theorem dd_X8_lookAt_295 : decode cX8_lookAt 295 = .ok (.aload_n 0, 1) := by decide +kernel
theorem dd_X8_lookAt_296 : decode cX8_lookAt 296 = .ok (.getfield 262, 3) := by decide +kernel
theorem dd_X8_lookAt_299 : decode cX8_lookAt 299 = .ok (.putfield 262, 3) := by decide +kernel
theorem dd_X8_lookAt_302 : decode cX8_lookAt 302 = .ok (.return_, 1) := by decide +kernel
def tb_X8_lookAt (kd : Nat → Nat) (K : zK) : zTab := [(0, zt_aload 0 1), (1, zt_iload 1 2), (2, zt_putI kd 8 17 5), (5, zt_aload 0 6), (6, zt_getI kd 8 17 9), (9, zt_aload 0 10), (10, zt_getI kd 8 16 13), (13, zt_icmp (fun x y => y ≤ x) (fun x y => ¬ y ≤ x) 43 16), (16, zt_aload 0 17), (17, zt_getR kd 8 0 9 20), (20, zt_aload 0 21), (21, zt_getI kd 8 17 24), (24, zt_ald kd 0 25), (25, zt_const (zI 32) 27), (27, zt_icmp (fun x y => ¬ x = y) (fun x y => x = y) 43 30), (30, zt_aload 0 31), (31, zt_dup 32), (32, zt_getI kd 8 17 35), (35, zt_const (zI 1) 36), (36, zt_bin (fun x y => x + y) 37), (37, zt_putI kd 8 17 40), (40, zt_goto 5), (43, zt_aload 0 44), (44, zt_const (zI 0) 45), (45, zt_putI kd 8 18 48), (48, zt_aload 0 49), (49, zt_const (zI 0) 50), (50, zt_putI kd 8 19 53), (53, zt_aload 0 54), (54, zt_const (zI 0) 55), (55, zt_putI kd 8 20 58), (58, zt_aload 0 59), (59, zt_getI kd 8 17 62), (62, zt_aload 0 63), (63, zt_getI kd 8 16 66), (66, zt_icmp (fun x y => ¬ x = y) (fun x y => x = y) 70 69), (69, zt_vret K), (70, zt_aload 0 71), (71, zt_getR kd 8 0 9 74), (74, zt_aload 0 75), (75, zt_getI kd 8 17 78), (78, zt_ald kd 0 79), (79, zt_istore 2 80), (80, zt_aload 0 81), (81, zt_iload 2 82), (82, zt_call kd sp_X8_isSmall 1 85), (85, zt_if (fun x => x = 0) (fun x => ¬ x = 0) 92 88), (88, zt_const (zI 1) 89), (89, zt_goto 114), (92, zt_iload 2 93), (93, zt_call kd sp_X8_isFigure 1 96), (96, zt_if (fun x => x = 0) (fun x => ¬ x = 0) 103 99), (99, zt_const (zI 2) 100), (100, zt_goto 114), (103, zt_iload 2 104), (104, zt_const (zI 59) 106), (106, zt_icmp (fun x y => ¬ x = y) (fun x y => x = y) 113 109), (109, zt_const (zI 3) 110), (110, zt_goto 114), (113, zt_const (zI 4) 114), (114, zt_putI kd 8 19 117), (117, zt_aload 0 118), (118, zt_const (zI 1) 119), (119, zt_putI kd 8 18 122), (122, zt_aload 0 123), (123, zt_getI kd 8 19 126), (126, zt_const (zI 3) 127), (127, zt_icmp (fun x y => y ≤ x) (fun x y => ¬ y ≤ x) 134 130), (130, zt_const (zI 1) 131), (131, zt_goto 135), (134, zt_const (zI 0) 135), (135, zt_istore 3 136), (136, zt_iload 3 137), (137, zt_if (fun x => x = 0) (fun x => ¬ x = 0) 215 140), (140, zt_aload 0 141), (141, zt_getI kd 8 17 144), (144, zt_aload 0 145), (145, zt_getI kd 8 18 148), (148, zt_bin (fun x y => x + y) 149), (149, zt_aload 0 150), (150, zt_getI kd 8 16 153), (153, zt_icmp (fun x y => y ≤ x) (fun x y => ¬ y ≤ x) 215 156), (156, zt_aload 0 157), (157, zt_getR kd 8 0 9 160), (160, zt_aload 0 161), (161, zt_getI kd 8 17 164), (164, zt_aload 0 165), (165, zt_getI kd 8 18 168), (168, zt_bin (fun x y => x + y) 169), (169, zt_ald kd 0 170), (170, zt_istore 4 172), (172, zt_aload 0 173), (173, zt_getI kd 8 19 176), (176, zt_const (zI 1) 177), (177, zt_icmp (fun x y => ¬ x = y) (fun x y => x = y) 188 180), (180, zt_iload 4 182), (182, zt_call kd sp_X8_isSmall 1 185), (185, zt_goto 193), (188, zt_iload 4 190), (190, zt_call kd sp_X8_isFigure 1 193), (193, zt_istore 3 194), (194, zt_aload 0 195), (195, zt_dup 196), (196, zt_getI kd 8 18 199), (199, zt_iload 3 200), (200, zt_if (fun x => x = 0) (fun x => ¬ x = 0) 207 203), (203, zt_const (zI 1) 204), (204, zt_goto 208), (207, zt_const (zI 0) 208), (208, zt_bin (fun x y => x + y) 209), (209, zt_putI kd 8 18 212), (212, zt_goto 136), (215, zt_const (zI 0) 216), (216, zt_istore 4 218), (218, zt_iload 4 220), (220, zt_aload 0 221), (221, zt_getI kd 8 18 224), (224, zt_icmp (fun x y => y ≤ x) (fun x y => ¬ y ≤ x) 274 227), (227, zt_iload 4 229), (229, zt_const (zI 2) 230), (230, zt_icmp (fun x y => y ≤ x) (fun x y => ¬ y ≤ x) 274 233), (233, zt_aload 0 234), (234, zt_getI kd 8 19 237), (237, zt_const (zI 2) 238), (238, zt_icmp (fun x y => ¬ x = y) (fun x y => x = y) 274 241), (241, zt_aload 0 242), (242, zt_const (zI 10) 244), (244, zt_aload 0 245), (245, zt_getI kd 8 20 248), (248, zt_bin (fun x y => x * y) 249), (249, zt_aload 0 250), (250, zt_getR kd 8 0 9 253), (253, zt_aload 0 254), (254, zt_getI kd 8 17 257), (257, zt_iload 4 259), (259, zt_bin (fun x y => x + y) 260), (260, zt_ald kd 0 261), (261, zt_bin (fun x y => x + y) 262), (262, zt_const (zI 48) 264), (264, zt_bin (fun x y => x - y) 265), (265, zt_putI kd 8 20 268), (268, zt_iinc 4 1 271), (271, zt_goto 218), (274, zt_aload 0 275), (275, zt_aload 0 276), (276, zt_getI kd 8 19 279), (279, zt_const (zI 2) 280), (280, zt_icmp (fun x y => ¬ x = y) (fun x y => x = y) 295 283), (283, zt_aload 0 284), (284, zt_getI kd 8 18 287), (287, zt_const (zI 2) 288), (288, zt_icmp (fun x y => x ≤ y) (fun x y => ¬ x ≤ y) 295 291), (291, zt_const (zI 4) 292), (292, zt_goto 299), (295, zt_aload 0 296), (296, zt_getI kd 8 19 299), (299, zt_putI kd 8 19 302), (302, zt_vret K)]
set_option maxRecDepth 20000 in
theorem tk_X8_lookAt (d : Nat) (h_X8_isSmall : zMS 2 yX8_isSmall cX8_isSmall 1 (some .boolean) sp_X8_isSmall) (h_X8_isFigure : zMS 2 yX8_isFigure cX8_isFigure 1 (some .boolean) sp_X8_isFigure) : zTrue RX8 cX8_lookAt 5 none (d + 3) (fun kd K => tb_X8_lookAt kd K) := by
  intro p l e R s m args below meth c D cy A ad bl Qm K C0 hr hlocks hQ
  obtain ⟨hx, hb, hml, hown, hts, hK, hD, hA0, hN, hE, ⟨hR1, hR2⟩, hc1, hc2⟩ := id C0
  unfold tb_X8_lookAt
  refine List.forall_mem_cons.mpr ⟨ok_aload_n hx hb rfl dd_X8_lookAt_0, ?_⟩
  refine List.forall_mem_cons.mpr ⟨ok_iload_n hx hb rfl dd_X8_lookAt_1, ?_⟩
  refine List.forall_mem_cons.mpr ⟨ok_putI (j := 17) hx hb hts zi_X8 tyX8 tyX8_ok nmX8 hown hK hD zc_X8 (by decide) rfl rfl (by decide +kernel) (fun t fl h => by cases h; rfl) (hts _ wd_857) dd_X8_lookAt_2, ?_⟩
  refine List.forall_mem_cons.mpr ⟨ok_aload_n hx hb rfl dd_X8_lookAt_5, ?_⟩
  refine List.forall_mem_cons.mpr ⟨ok_getI (j := 17) hx hb hts zi_X8 hown hK zc_X8 (by decide) rfl (fun t fl h => by cases h; rfl) (hts _ wd_857) dd_X8_lookAt_6, ?_⟩
  refine List.forall_mem_cons.mpr ⟨ok_aload_n hx hb rfl dd_X8_lookAt_9, ?_⟩
  refine List.forall_mem_cons.mpr ⟨ok_getI (j := 16) hx hb hts zi_X8 hown hK zc_X8 (by decide) rfl (fun t fl h => by cases h; rfl) (hts _ wd_856) dd_X8_lookAt_10, ?_⟩
  refine List.forall_mem_cons.mpr ⟨ok_icmp_ge hx hb dd_X8_lookAt_13 (by decide), ?_⟩
  refine List.forall_mem_cons.mpr ⟨ok_aload_n hx hb rfl dd_X8_lookAt_16, ?_⟩
  refine List.forall_mem_cons.mpr ⟨ok_getR (j := 15) hx hb hts zi_X8 hown hK zc_X8 (by decide) rfl (fun t fl h => by cases h; rfl) (hts _ wd_855) dd_X8_lookAt_17, ?_⟩
  refine List.forall_mem_cons.mpr ⟨ok_aload_n hx hb rfl dd_X8_lookAt_20, ?_⟩
  refine List.forall_mem_cons.mpr ⟨ok_getI (j := 17) hx hb hts zi_X8 hown hK zc_X8 (by decide) rfl (fun t fl h => by cases h; rfl) (hts _ wd_857) dd_X8_lookAt_21, ?_⟩
  refine List.forall_mem_cons.mpr ⟨ok_ald (ty := 0) rfl hx hb hK (Or.inl ⟨rfl, rfl, dd_X8_lookAt_24⟩), ?_⟩
  refine List.forall_mem_cons.mpr ⟨ok_bipush hx hb dd_X8_lookAt_25 (by decide), ?_⟩
  refine List.forall_mem_cons.mpr ⟨ok_icmp_ne hx hb dd_X8_lookAt_27 (by decide), ?_⟩
  refine List.forall_mem_cons.mpr ⟨ok_aload_n hx hb rfl dd_X8_lookAt_30, ?_⟩
  refine List.forall_mem_cons.mpr ⟨ok_dup hx hb dd_X8_lookAt_31, ?_⟩
  refine List.forall_mem_cons.mpr ⟨ok_getI (j := 17) hx hb hts zi_X8 hown hK zc_X8 (by decide) rfl (fun t fl h => by cases h; rfl) (hts _ wd_857) dd_X8_lookAt_32, ?_⟩
  refine List.forall_mem_cons.mpr ⟨ok_iconst hx hb dd_X8_lookAt_35 (by decide), ?_⟩
  refine List.forall_mem_cons.mpr ⟨ok_iadd hx hb dd_X8_lookAt_36, ?_⟩
  refine List.forall_mem_cons.mpr ⟨ok_putI (j := 17) hx hb hts zi_X8 tyX8 tyX8_ok nmX8 hown hK hD zc_X8 (by decide) rfl rfl (by decide +kernel) (fun t fl h => by cases h; rfl) (hts _ wd_857) dd_X8_lookAt_37, ?_⟩
  refine List.forall_mem_cons.mpr ⟨ok_goto hx hb dd_X8_lookAt_40 (by decide), ?_⟩
  refine List.forall_mem_cons.mpr ⟨ok_aload_n hx hb rfl dd_X8_lookAt_43, ?_⟩
  refine List.forall_mem_cons.mpr ⟨ok_iconst hx hb dd_X8_lookAt_44 (by decide), ?_⟩
  refine List.forall_mem_cons.mpr ⟨ok_putI (j := 18) hx hb hts zi_X8 tyX8 tyX8_ok nmX8 hown hK hD zc_X8 (by decide) rfl rfl (by decide +kernel) (fun t fl h => by cases h; rfl) (hts _ wd_858) dd_X8_lookAt_45, ?_⟩
  refine List.forall_mem_cons.mpr ⟨ok_aload_n hx hb rfl dd_X8_lookAt_48, ?_⟩
  refine List.forall_mem_cons.mpr ⟨ok_iconst hx hb dd_X8_lookAt_49 (by decide), ?_⟩
  refine List.forall_mem_cons.mpr ⟨ok_putI (j := 19) hx hb hts zi_X8 tyX8 tyX8_ok nmX8 hown hK hD zc_X8 (by decide) rfl rfl (by decide +kernel) (fun t fl h => by cases h; rfl) (hts _ wd_859) dd_X8_lookAt_50, ?_⟩
  refine List.forall_mem_cons.mpr ⟨ok_aload_n hx hb rfl dd_X8_lookAt_53, ?_⟩
  refine List.forall_mem_cons.mpr ⟨ok_iconst hx hb dd_X8_lookAt_54 (by decide), ?_⟩
  refine List.forall_mem_cons.mpr ⟨ok_putI (j := 20) hx hb hts zi_X8 tyX8 tyX8_ok nmX8 hown hK hD zc_X8 (by decide) rfl rfl (by decide +kernel) (fun t fl h => by cases h; rfl) (hts _ wd_860) dd_X8_lookAt_55, ?_⟩
  refine List.forall_mem_cons.mpr ⟨ok_aload_n hx hb rfl dd_X8_lookAt_58, ?_⟩
  refine List.forall_mem_cons.mpr ⟨ok_getI (j := 17) hx hb hts zi_X8 hown hK zc_X8 (by decide) rfl (fun t fl h => by cases h; rfl) (hts _ wd_857) dd_X8_lookAt_59, ?_⟩
  refine List.forall_mem_cons.mpr ⟨ok_aload_n hx hb rfl dd_X8_lookAt_62, ?_⟩
  refine List.forall_mem_cons.mpr ⟨ok_getI (j := 16) hx hb hts zi_X8 hown hK zc_X8 (by decide) rfl (fun t fl h => by cases h; rfl) (hts _ wd_856) dd_X8_lookAt_63, ?_⟩
  refine List.forall_mem_cons.mpr ⟨ok_icmp_ne hx hb dd_X8_lookAt_66 (by decide), ?_⟩
  refine List.forall_mem_cons.mpr ⟨ok_vret hx hb hr hlocks hQ dd_X8_lookAt_69, ?_⟩
  refine List.forall_mem_cons.mpr ⟨ok_aload_n hx hb rfl dd_X8_lookAt_70, ?_⟩
  refine List.forall_mem_cons.mpr ⟨ok_getR (j := 15) hx hb hts zi_X8 hown hK zc_X8 (by decide) rfl (fun t fl h => by cases h; rfl) (hts _ wd_855) dd_X8_lookAt_71, ?_⟩
  refine List.forall_mem_cons.mpr ⟨ok_aload_n hx hb rfl dd_X8_lookAt_74, ?_⟩
  refine List.forall_mem_cons.mpr ⟨ok_getI (j := 17) hx hb hts zi_X8 hown hK zc_X8 (by decide) rfl (fun t fl h => by cases h; rfl) (hts _ wd_857) dd_X8_lookAt_75, ?_⟩
  refine List.forall_mem_cons.mpr ⟨ok_ald (ty := 0) rfl hx hb hK (Or.inl ⟨rfl, rfl, dd_X8_lookAt_78⟩), ?_⟩
  refine List.forall_mem_cons.mpr ⟨ok_istore_n hx hb rfl dd_X8_lookAt_79, ?_⟩
  refine List.forall_mem_cons.mpr ⟨ok_aload_n hx hb rfl dd_X8_lookAt_80, ?_⟩
  refine List.forall_mem_cons.mpr ⟨ok_iload_n hx hb rfl dd_X8_lookAt_81, ?_⟩
  refine List.forall_mem_cons.mpr ⟨ok_callS (n := 1) C0 (h_X8_isSmall (d + 2) (by omega)) (by decide) wd_1175 wd_1173 wd_1174 wd_107 ⟨by decide +kernel, by decide +kernel, by decide +kernel⟩ dd_X8_lookAt_82, ?_⟩
  refine List.forall_mem_cons.mpr ⟨ok_if_eq hx hb dd_X8_lookAt_85 (by decide), ?_⟩
  refine List.forall_mem_cons.mpr ⟨ok_iconst hx hb dd_X8_lookAt_88 (by decide), ?_⟩
  refine List.forall_mem_cons.mpr ⟨ok_goto hx hb dd_X8_lookAt_89 (by decide), ?_⟩
  refine List.forall_mem_cons.mpr ⟨ok_iload_n hx hb rfl dd_X8_lookAt_92, ?_⟩
  refine List.forall_mem_cons.mpr ⟨ok_callS (n := 1) C0 (h_X8_isFigure (d + 2) (by omega)) (by decide) wd_1180 wd_1178 wd_1179 wd_107 ⟨by decide +kernel, by decide +kernel, by decide +kernel⟩ dd_X8_lookAt_93, ?_⟩
  refine List.forall_mem_cons.mpr ⟨ok_if_eq hx hb dd_X8_lookAt_96 (by decide), ?_⟩
  refine List.forall_mem_cons.mpr ⟨ok_iconst hx hb dd_X8_lookAt_99 (by decide), ?_⟩
  refine List.forall_mem_cons.mpr ⟨ok_goto hx hb dd_X8_lookAt_100 (by decide), ?_⟩
  refine List.forall_mem_cons.mpr ⟨ok_iload_n hx hb rfl dd_X8_lookAt_103, ?_⟩
  refine List.forall_mem_cons.mpr ⟨ok_bipush hx hb dd_X8_lookAt_104 (by decide), ?_⟩
  refine List.forall_mem_cons.mpr ⟨ok_icmp_ne hx hb dd_X8_lookAt_106 (by decide), ?_⟩
  refine List.forall_mem_cons.mpr ⟨ok_iconst hx hb dd_X8_lookAt_109 (by decide), ?_⟩
  refine List.forall_mem_cons.mpr ⟨ok_goto hx hb dd_X8_lookAt_110 (by decide), ?_⟩
  refine List.forall_mem_cons.mpr ⟨ok_iconst hx hb dd_X8_lookAt_113 (by decide), ?_⟩
  refine List.forall_mem_cons.mpr ⟨ok_putI (j := 19) hx hb hts zi_X8 tyX8 tyX8_ok nmX8 hown hK hD zc_X8 (by decide) rfl rfl (by decide +kernel) (fun t fl h => by cases h; rfl) (hts _ wd_859) dd_X8_lookAt_114, ?_⟩
  refine List.forall_mem_cons.mpr ⟨ok_aload_n hx hb rfl dd_X8_lookAt_117, ?_⟩
  refine List.forall_mem_cons.mpr ⟨ok_iconst hx hb dd_X8_lookAt_118 (by decide), ?_⟩
  refine List.forall_mem_cons.mpr ⟨ok_putI (j := 18) hx hb hts zi_X8 tyX8 tyX8_ok nmX8 hown hK hD zc_X8 (by decide) rfl rfl (by decide +kernel) (fun t fl h => by cases h; rfl) (hts _ wd_858) dd_X8_lookAt_119, ?_⟩
  refine List.forall_mem_cons.mpr ⟨ok_aload_n hx hb rfl dd_X8_lookAt_122, ?_⟩
  refine List.forall_mem_cons.mpr ⟨ok_getI (j := 19) hx hb hts zi_X8 hown hK zc_X8 (by decide) rfl (fun t fl h => by cases h; rfl) (hts _ wd_859) dd_X8_lookAt_123, ?_⟩
  refine List.forall_mem_cons.mpr ⟨ok_iconst hx hb dd_X8_lookAt_126 (by decide), ?_⟩
  refine List.forall_mem_cons.mpr ⟨ok_icmp_ge hx hb dd_X8_lookAt_127 (by decide), ?_⟩
  refine List.forall_mem_cons.mpr ⟨ok_iconst hx hb dd_X8_lookAt_130 (by decide), ?_⟩
  refine List.forall_mem_cons.mpr ⟨ok_goto hx hb dd_X8_lookAt_131 (by decide), ?_⟩
  refine List.forall_mem_cons.mpr ⟨ok_iconst hx hb dd_X8_lookAt_134 (by decide), ?_⟩
  refine List.forall_mem_cons.mpr ⟨ok_istore_n hx hb rfl dd_X8_lookAt_135, ?_⟩
  refine List.forall_mem_cons.mpr ⟨ok_iload_n hx hb rfl dd_X8_lookAt_136, ?_⟩
  refine List.forall_mem_cons.mpr ⟨ok_if_eq hx hb dd_X8_lookAt_137 (by decide), ?_⟩
  refine List.forall_mem_cons.mpr ⟨ok_aload_n hx hb rfl dd_X8_lookAt_140, ?_⟩
  refine List.forall_mem_cons.mpr ⟨ok_getI (j := 17) hx hb hts zi_X8 hown hK zc_X8 (by decide) rfl (fun t fl h => by cases h; rfl) (hts _ wd_857) dd_X8_lookAt_141, ?_⟩
  refine List.forall_mem_cons.mpr ⟨ok_aload_n hx hb rfl dd_X8_lookAt_144, ?_⟩
  refine List.forall_mem_cons.mpr ⟨ok_getI (j := 18) hx hb hts zi_X8 hown hK zc_X8 (by decide) rfl (fun t fl h => by cases h; rfl) (hts _ wd_858) dd_X8_lookAt_145, ?_⟩
  refine List.forall_mem_cons.mpr ⟨ok_iadd hx hb dd_X8_lookAt_148, ?_⟩
  refine List.forall_mem_cons.mpr ⟨ok_aload_n hx hb rfl dd_X8_lookAt_149, ?_⟩
  refine List.forall_mem_cons.mpr ⟨ok_getI (j := 16) hx hb hts zi_X8 hown hK zc_X8 (by decide) rfl (fun t fl h => by cases h; rfl) (hts _ wd_856) dd_X8_lookAt_150, ?_⟩
  refine List.forall_mem_cons.mpr ⟨ok_icmp_ge hx hb dd_X8_lookAt_153 (by decide), ?_⟩
  refine List.forall_mem_cons.mpr ⟨ok_aload_n hx hb rfl dd_X8_lookAt_156, ?_⟩
  refine List.forall_mem_cons.mpr ⟨ok_getR (j := 15) hx hb hts zi_X8 hown hK zc_X8 (by decide) rfl (fun t fl h => by cases h; rfl) (hts _ wd_855) dd_X8_lookAt_157, ?_⟩
  refine List.forall_mem_cons.mpr ⟨ok_aload_n hx hb rfl dd_X8_lookAt_160, ?_⟩
  refine List.forall_mem_cons.mpr ⟨ok_getI (j := 17) hx hb hts zi_X8 hown hK zc_X8 (by decide) rfl (fun t fl h => by cases h; rfl) (hts _ wd_857) dd_X8_lookAt_161, ?_⟩
  refine List.forall_mem_cons.mpr ⟨ok_aload_n hx hb rfl dd_X8_lookAt_164, ?_⟩
  refine List.forall_mem_cons.mpr ⟨ok_getI (j := 18) hx hb hts zi_X8 hown hK zc_X8 (by decide) rfl (fun t fl h => by cases h; rfl) (hts _ wd_858) dd_X8_lookAt_165, ?_⟩
  refine List.forall_mem_cons.mpr ⟨ok_iadd hx hb dd_X8_lookAt_168, ?_⟩
  refine List.forall_mem_cons.mpr ⟨ok_ald (ty := 0) rfl hx hb hK (Or.inl ⟨rfl, rfl, dd_X8_lookAt_169⟩), ?_⟩
  refine List.forall_mem_cons.mpr ⟨ok_istore hx hb dd_X8_lookAt_170, ?_⟩
  refine List.forall_mem_cons.mpr ⟨ok_aload_n hx hb rfl dd_X8_lookAt_172, ?_⟩
  refine List.forall_mem_cons.mpr ⟨ok_getI (j := 19) hx hb hts zi_X8 hown hK zc_X8 (by decide) rfl (fun t fl h => by cases h; rfl) (hts _ wd_859) dd_X8_lookAt_173, ?_⟩
  refine List.forall_mem_cons.mpr ⟨ok_iconst hx hb dd_X8_lookAt_176 (by decide), ?_⟩
  refine List.forall_mem_cons.mpr ⟨ok_icmp_ne hx hb dd_X8_lookAt_177 (by decide), ?_⟩
  refine List.forall_mem_cons.mpr ⟨ok_iload hx hb dd_X8_lookAt_180, ?_⟩
  refine List.forall_mem_cons.mpr ⟨ok_callS (n := 1) C0 (h_X8_isSmall (d + 2) (by omega)) (by decide) wd_1175 wd_1173 wd_1174 wd_107 ⟨by decide +kernel, by decide +kernel, by decide +kernel⟩ dd_X8_lookAt_182, ?_⟩
  refine List.forall_mem_cons.mpr ⟨ok_goto hx hb dd_X8_lookAt_185 (by decide), ?_⟩
  refine List.forall_mem_cons.mpr ⟨ok_iload hx hb dd_X8_lookAt_188, ?_⟩
  refine List.forall_mem_cons.mpr ⟨ok_callS (n := 1) C0 (h_X8_isFigure (d + 2) (by omega)) (by decide) wd_1180 wd_1178 wd_1179 wd_107 ⟨by decide +kernel, by decide +kernel, by decide +kernel⟩ dd_X8_lookAt_190, ?_⟩
  refine List.forall_mem_cons.mpr ⟨ok_istore_n hx hb rfl dd_X8_lookAt_193, ?_⟩
  refine List.forall_mem_cons.mpr ⟨ok_aload_n hx hb rfl dd_X8_lookAt_194, ?_⟩
  refine List.forall_mem_cons.mpr ⟨ok_dup hx hb dd_X8_lookAt_195, ?_⟩
  refine List.forall_mem_cons.mpr ⟨ok_getI (j := 18) hx hb hts zi_X8 hown hK zc_X8 (by decide) rfl (fun t fl h => by cases h; rfl) (hts _ wd_858) dd_X8_lookAt_196, ?_⟩
  refine List.forall_mem_cons.mpr ⟨ok_iload_n hx hb rfl dd_X8_lookAt_199, ?_⟩
  refine List.forall_mem_cons.mpr ⟨ok_if_eq hx hb dd_X8_lookAt_200 (by decide), ?_⟩
  refine List.forall_mem_cons.mpr ⟨ok_iconst hx hb dd_X8_lookAt_203 (by decide), ?_⟩
  refine List.forall_mem_cons.mpr ⟨ok_goto hx hb dd_X8_lookAt_204 (by decide), ?_⟩
  refine List.forall_mem_cons.mpr ⟨ok_iconst hx hb dd_X8_lookAt_207 (by decide), ?_⟩
  refine List.forall_mem_cons.mpr ⟨ok_iadd hx hb dd_X8_lookAt_208, ?_⟩
  refine List.forall_mem_cons.mpr ⟨ok_putI (j := 18) hx hb hts zi_X8 tyX8 tyX8_ok nmX8 hown hK hD zc_X8 (by decide) rfl rfl (by decide +kernel) (fun t fl h => by cases h; rfl) (hts _ wd_858) dd_X8_lookAt_209, ?_⟩
  refine List.forall_mem_cons.mpr ⟨ok_goto hx hb dd_X8_lookAt_212 (by decide), ?_⟩
  refine List.forall_mem_cons.mpr ⟨ok_iconst hx hb dd_X8_lookAt_215 (by decide), ?_⟩
  refine List.forall_mem_cons.mpr ⟨ok_istore hx hb dd_X8_lookAt_216, ?_⟩
  refine List.forall_mem_cons.mpr ⟨ok_iload hx hb dd_X8_lookAt_218, ?_⟩
  refine List.forall_mem_cons.mpr ⟨ok_aload_n hx hb rfl dd_X8_lookAt_220, ?_⟩
  refine List.forall_mem_cons.mpr ⟨ok_getI (j := 18) hx hb hts zi_X8 hown hK zc_X8 (by decide) rfl (fun t fl h => by cases h; rfl) (hts _ wd_858) dd_X8_lookAt_221, ?_⟩
  refine List.forall_mem_cons.mpr ⟨ok_icmp_ge hx hb dd_X8_lookAt_224 (by decide), ?_⟩
  refine List.forall_mem_cons.mpr ⟨ok_iload hx hb dd_X8_lookAt_227, ?_⟩
  refine List.forall_mem_cons.mpr ⟨ok_iconst hx hb dd_X8_lookAt_229 (by decide), ?_⟩
  refine List.forall_mem_cons.mpr ⟨ok_icmp_ge hx hb dd_X8_lookAt_230 (by decide), ?_⟩
  refine List.forall_mem_cons.mpr ⟨ok_aload_n hx hb rfl dd_X8_lookAt_233, ?_⟩
  refine List.forall_mem_cons.mpr ⟨ok_getI (j := 19) hx hb hts zi_X8 hown hK zc_X8 (by decide) rfl (fun t fl h => by cases h; rfl) (hts _ wd_859) dd_X8_lookAt_234, ?_⟩
  refine List.forall_mem_cons.mpr ⟨ok_iconst hx hb dd_X8_lookAt_237 (by decide), ?_⟩
  refine List.forall_mem_cons.mpr ⟨ok_icmp_ne hx hb dd_X8_lookAt_238 (by decide), ?_⟩
  refine List.forall_mem_cons.mpr ⟨ok_aload_n hx hb rfl dd_X8_lookAt_241, ?_⟩
  refine List.forall_mem_cons.mpr ⟨ok_bipush hx hb dd_X8_lookAt_242 (by decide), ?_⟩
  refine List.forall_mem_cons.mpr ⟨ok_aload_n hx hb rfl dd_X8_lookAt_244, ?_⟩
  refine List.forall_mem_cons.mpr ⟨ok_getI (j := 20) hx hb hts zi_X8 hown hK zc_X8 (by decide) rfl (fun t fl h => by cases h; rfl) (hts _ wd_860) dd_X8_lookAt_245, ?_⟩
  refine List.forall_mem_cons.mpr ⟨ok_imul hx hb dd_X8_lookAt_248, ?_⟩
  refine List.forall_mem_cons.mpr ⟨ok_aload_n hx hb rfl dd_X8_lookAt_249, ?_⟩
  refine List.forall_mem_cons.mpr ⟨ok_getR (j := 15) hx hb hts zi_X8 hown hK zc_X8 (by decide) rfl (fun t fl h => by cases h; rfl) (hts _ wd_855) dd_X8_lookAt_250, ?_⟩
  refine List.forall_mem_cons.mpr ⟨ok_aload_n hx hb rfl dd_X8_lookAt_253, ?_⟩
  refine List.forall_mem_cons.mpr ⟨ok_getI (j := 17) hx hb hts zi_X8 hown hK zc_X8 (by decide) rfl (fun t fl h => by cases h; rfl) (hts _ wd_857) dd_X8_lookAt_254, ?_⟩
  refine List.forall_mem_cons.mpr ⟨ok_iload hx hb dd_X8_lookAt_257, ?_⟩
  refine List.forall_mem_cons.mpr ⟨ok_iadd hx hb dd_X8_lookAt_259, ?_⟩
  refine List.forall_mem_cons.mpr ⟨ok_ald (ty := 0) rfl hx hb hK (Or.inl ⟨rfl, rfl, dd_X8_lookAt_260⟩), ?_⟩
  refine List.forall_mem_cons.mpr ⟨ok_iadd hx hb dd_X8_lookAt_261, ?_⟩
  refine List.forall_mem_cons.mpr ⟨ok_bipush hx hb dd_X8_lookAt_262 (by decide), ?_⟩
  refine List.forall_mem_cons.mpr ⟨ok_isub hx hb dd_X8_lookAt_264, ?_⟩
  refine List.forall_mem_cons.mpr ⟨ok_putI (j := 20) hx hb hts zi_X8 tyX8 tyX8_ok nmX8 hown hK hD zc_X8 (by decide) rfl rfl (by decide +kernel) (fun t fl h => by cases h; rfl) (hts _ wd_860) dd_X8_lookAt_265, ?_⟩
  refine List.forall_mem_cons.mpr ⟨ok_iinc hx hb dd_X8_lookAt_268 (by decide), ?_⟩
  refine List.forall_mem_cons.mpr ⟨ok_goto hx hb dd_X8_lookAt_271 (by decide), ?_⟩
  refine List.forall_mem_cons.mpr ⟨ok_aload_n hx hb rfl dd_X8_lookAt_274, ?_⟩
  refine List.forall_mem_cons.mpr ⟨ok_aload_n hx hb rfl dd_X8_lookAt_275, ?_⟩
  refine List.forall_mem_cons.mpr ⟨ok_getI (j := 19) hx hb hts zi_X8 hown hK zc_X8 (by decide) rfl (fun t fl h => by cases h; rfl) (hts _ wd_859) dd_X8_lookAt_276, ?_⟩
  refine List.forall_mem_cons.mpr ⟨ok_iconst hx hb dd_X8_lookAt_279 (by decide), ?_⟩
  refine List.forall_mem_cons.mpr ⟨ok_icmp_ne hx hb dd_X8_lookAt_280 (by decide), ?_⟩
  refine List.forall_mem_cons.mpr ⟨ok_aload_n hx hb rfl dd_X8_lookAt_283, ?_⟩
  refine List.forall_mem_cons.mpr ⟨ok_getI (j := 18) hx hb hts zi_X8 hown hK zc_X8 (by decide) rfl (fun t fl h => by cases h; rfl) (hts _ wd_858) dd_X8_lookAt_284, ?_⟩
  refine List.forall_mem_cons.mpr ⟨ok_iconst hx hb dd_X8_lookAt_287 (by decide), ?_⟩
  refine List.forall_mem_cons.mpr ⟨ok_icmp_le hx hb dd_X8_lookAt_288 (by decide), ?_⟩
  refine List.forall_mem_cons.mpr ⟨ok_iconst hx hb dd_X8_lookAt_291 (by decide), ?_⟩
  refine List.forall_mem_cons.mpr ⟨ok_goto hx hb dd_X8_lookAt_292 (by decide), ?_⟩
  refine List.forall_mem_cons.mpr ⟨ok_aload_n hx hb rfl dd_X8_lookAt_295, ?_⟩
  refine List.forall_mem_cons.mpr ⟨ok_getI (j := 19) hx hb hts zi_X8 hown hK zc_X8 (by decide) rfl (fun t fl h => by cases h; rfl) (hts _ wd_859) dd_X8_lookAt_296, ?_⟩
  refine List.forall_mem_cons.mpr ⟨ok_putI (j := 19) hx hb hts zi_X8 tyX8 tyX8_ok nmX8 hown hK hD zc_X8 (by decide) rfl rfl (by decide +kernel) (fun t fl h => by cases h; rfl) (hts _ wd_859) dd_X8_lookAt_299, ?_⟩
  refine List.forall_mem_cons.mpr ⟨ok_vret hx hb hr hlocks hQ dd_X8_lookAt_302, ?_⟩
  exact fun _ h => absurd h List.not_mem_nil
set_option maxRecDepth 100000 in
theorem vc_X8_lookAt_0 {kd : Nat → Nat} {K : zK} {X : zX} (hX : ∀ (n pc : Nat) (ls : zLS) (st : List zV) (M : zM), zrun (tb_X8_lookAt kd K) [(5, [2, 3, 4]), (43, [2, 3, 4]), (136, [4]), (218, []), (274, [])] n X pc ls st M → X pc ls st M) {x : Int32} {M : zM} (hk0 : kd 9 = 8) (h : ∀ M1 : zM, (M1 = zmw M 9 0 (upd (M.1 9 0) 17 x)) → X 5 [some (zR 9 0), some (zI (x)), none, none, none] [] M1) : X 0 [some (zR 9 0), some (zI (x)), none, none, none] [] M := hX 5 0 _ [] M (show (kd 9 = 8) ∧ ∀ M1 : zM, (M1 = zmw M 9 0 (upd (M.1 9 0) 17 x)) → X 5 [some (zR 9 0), some (zI (x)), none, none, none] [] M1 from ⟨hk0, fun M1 => have h := h M1; fun q => have h := h q; h⟩)
set_option maxRecDepth 100000 in
theorem vc_X8_lookAt_5 {kd : Nat → Nat} {K : zK} {X : zX} (hX : ∀ (n pc : Nat) (ls : zLS) (st : List zV) (M : zM), zrun (tb_X8_lookAt kd K) [(5, [2, 3, 4]), (43, [2, 3, 4]), (136, [4]), (218, []), (274, [])] n X pc ls st M → X pc ls st M) {x : Int32} {M : zM} (hk0 : kd 9 = 8) (h : (((M.1 9 0 16) ≤ (M.1 9 0 17)) → X 43 [some (zR 9 0), some (zI (x)), none, none, none] [] M) ∧ ((¬ (M.1 9 0 16) ≤ (M.1 9 0 17)) → (zin (kd 9) 9 0 (M.1 9 0 17)) ∧ ((¬ (M.1 9 9 (M.1 9 0 17).toNatClampNeg) = (32 : Int32)) → X 43 [some (zR 9 0), some (zI (x)), none, none, none] [] M) ∧ (((M.1 9 9 (M.1 9 0 17).toNatClampNeg) = (32 : Int32)) → ∀ M1 : zM, (M1 = zmw M 9 0 (upd (M.1 9 0) 17 ((M.1 9 0 17) + (1 : Int32)))) → X 5 [some (zR 9 0), some (zI (x)), none, none, none] [] M1))) : X 5 [some (zR 9 0), some (zI (x)), none, none, none] [] M := hX 21 5 _ [] M (show (kd 9 = 8) ∧ (kd 9 = 8) ∧ (((M.1 9 0 16) ≤ (M.1 9 0 17)) → X 43 [some (zR 9 0), some (zI (x)), none, none, none] [] M) ∧ ((¬ (M.1 9 0 16) ≤ (M.1 9 0 17)) → (kd 9 = 8) ∧ (kd 9 = 8) ∧ (zin (kd 9) 9 0 (M.1 9 0 17)) ∧ ((¬ (M.1 9 9 (M.1 9 0 17).toNatClampNeg) = (32 : Int32)) → X 43 [some (zR 9 0), some (zI (x)), none, none, none] [] M) ∧ (((M.1 9 9 (M.1 9 0 17).toNatClampNeg) = (32 : Int32)) → (kd 9 = 8) ∧ (kd 9 = 8) ∧ ∀ M1 : zM, (M1 = zmw M 9 0 (upd (M.1 9 0) 17 ((M.1 9 0 17) + (1 : Int32)))) → X 5 [some (zR 9 0), some (zI (x)), none, none, none] [] M1)) from ⟨hk0, ⟨hk0, ⟨fun q => have h := h.1 q; h, fun q => have h := h.2 q; ⟨hk0, ⟨hk0, ⟨h.1, have h := h.2; ⟨fun q => have h := h.1 q; h, fun q => have h := h.2 q; ⟨hk0, ⟨hk0, fun M1 => have h := h M1; fun q => have h := h q; h⟩⟩⟩⟩⟩⟩⟩⟩⟩)
set_option maxRecDepth 100000 in
theorem vc_X8_lookAt_43 {kd : Nat → Nat} {K : zK} {X : zX} (hX : ∀ (n pc : Nat) (ls : zLS) (st : List zV) (M : zM), zrun (tb_X8_lookAt kd K) [(5, [2, 3, 4]), (43, [2, 3, 4]), (136, [4]), (218, []), (274, [])] n X pc ls st M → X pc ls st M) {x : Int32} {M : zM} (hk0 : kd 9 = 8) (h : ∀ M1 : zM, (M1 = zmw M 9 0 (upd (M.1 9 0) 18 (0 : Int32))) → ∀ M2 : zM, (M2 = zmw M1 9 0 (upd (M1.1 9 0) 19 (0 : Int32))) → ∀ M3 : zM, (M3 = zmw M2 9 0 (upd (M2.1 9 0) 20 (0 : Int32))) → ((¬ (M3.1 9 0 17) = (M3.1 9 0 16)) → (zin (kd 9) 9 0 (M3.1 9 0 17)) ∧ ∀ v4 : Int32, (v4 = zp (isLt (M3.1 9 9 (M3.1 9 0 17).toNatClampNeg).toInt = true)) → ((v4 = 0) → ∀ v5 : Int32, (v5 = zp (isFg (M3.1 9 9 (M3.1 9 0 17).toNatClampNeg).toInt = true)) → ((v5 = 0) → ((¬ (M3.1 9 9 (M3.1 9 0 17).toNatClampNeg) = (59 : Int32)) → ∀ M6 : zM, (M6 = zmw M3 9 0 (upd (M3.1 9 0) 19 (4 : Int32))) → ∀ M7 : zM, (M7 = zmw M6 9 0 (upd (M6.1 9 0) 18 (1 : Int32))) → (((3 : Int32) ≤ (M7.1 9 0 19)) → X 136 [some (zR 9 0), some (zI (x)), some (zI (M3.1 9 9 (M3.1 9 0 17).toNatClampNeg)), some (zI ((0 : Int32))), none] [] M7) ∧ ((¬ (3 : Int32) ≤ (M7.1 9 0 19)) → X 136 [some (zR 9 0), some (zI (x)), some (zI (M3.1 9 9 (M3.1 9 0 17).toNatClampNeg)), some (zI ((1 : Int32))), none] [] M7)) ∧ (((M3.1 9 9 (M3.1 9 0 17).toNatClampNeg) = (59 : Int32)) → ∀ M8 : zM, (M8 = zmw M3 9 0 (upd (M3.1 9 0) 19 (3 : Int32))) → ∀ M9 : zM, (M9 = zmw M8 9 0 (upd (M8.1 9 0) 18 (1 : Int32))) → (((3 : Int32) ≤ (M9.1 9 0 19)) → X 136 [some (zR 9 0), some (zI (x)), some (zI (M3.1 9 9 (M3.1 9 0 17).toNatClampNeg)), some (zI ((0 : Int32))), none] [] M9) ∧ ((¬ (3 : Int32) ≤ (M9.1 9 0 19)) → X 136 [some (zR 9 0), some (zI (x)), some (zI (M3.1 9 9 (M3.1 9 0 17).toNatClampNeg)), some (zI ((1 : Int32))), none] [] M9))) ∧ ((¬ v5 = 0) → ∀ M10 : zM, (M10 = zmw M3 9 0 (upd (M3.1 9 0) 19 (2 : Int32))) → ∀ M11 : zM, (M11 = zmw M10 9 0 (upd (M10.1 9 0) 18 (1 : Int32))) → (((3 : Int32) ≤ (M11.1 9 0 19)) → X 136 [some (zR 9 0), some (zI (x)), some (zI (M3.1 9 9 (M3.1 9 0 17).toNatClampNeg)), some (zI ((0 : Int32))), none] [] M11) ∧ ((¬ (3 : Int32) ≤ (M11.1 9 0 19)) → X 136 [some (zR 9 0), some (zI (x)), some (zI (M3.1 9 9 (M3.1 9 0 17).toNatClampNeg)), some (zI ((1 : Int32))), none] [] M11))) ∧ ((¬ v4 = 0) → ∀ M12 : zM, (M12 = zmw M3 9 0 (upd (M3.1 9 0) 19 (1 : Int32))) → ∀ M13 : zM, (M13 = zmw M12 9 0 (upd (M12.1 9 0) 18 (1 : Int32))) → (((3 : Int32) ≤ (M13.1 9 0 19)) → X 136 [some (zR 9 0), some (zI (x)), some (zI (M3.1 9 9 (M3.1 9 0 17).toNatClampNeg)), some (zI ((0 : Int32))), none] [] M13) ∧ ((¬ (3 : Int32) ≤ (M13.1 9 0 19)) → X 136 [some (zR 9 0), some (zI (x)), some (zI (M3.1 9 9 (M3.1 9 0 17).toNatClampNeg)), some (zI ((1 : Int32))), none] [] M13))) ∧ (((M3.1 9 0 17) = (M3.1 9 0 16)) → K none M3)) : X 43 [some (zR 9 0), some (zI (x)), none, none, none] [] M := hX 45 43 _ [] M (show (kd 9 = 8) ∧ ∀ M1 : zM, (M1 = zmw M 9 0 (upd (M.1 9 0) 18 (0 : Int32))) → (kd 9 = 8) ∧ ∀ M2 : zM, (M2 = zmw M1 9 0 (upd (M1.1 9 0) 19 (0 : Int32))) → (kd 9 = 8) ∧ ∀ M3 : zM, (M3 = zmw M2 9 0 (upd (M2.1 9 0) 20 (0 : Int32))) → (kd 9 = 8) ∧ (kd 9 = 8) ∧ ((¬ (M3.1 9 0 17) = (M3.1 9 0 16)) → (kd 9 = 8) ∧ (kd 9 = 8) ∧ (zin (kd 9) 9 0 (M3.1 9 0 17)) ∧ ∀ v4 : Int32, (v4 = zp (isLt (M3.1 9 9 (M3.1 9 0 17).toNatClampNeg).toInt = true)) → ((v4 = 0) → ∀ v5 : Int32, (v5 = zp (isFg (M3.1 9 9 (M3.1 9 0 17).toNatClampNeg).toInt = true)) → ((v5 = 0) → ((¬ (M3.1 9 9 (M3.1 9 0 17).toNatClampNeg) = (59 : Int32)) → (kd 9 = 8) ∧ ∀ M6 : zM, (M6 = zmw M3 9 0 (upd (M3.1 9 0) 19 (4 : Int32))) → (kd 9 = 8) ∧ ∀ M7 : zM, (M7 = zmw M6 9 0 (upd (M6.1 9 0) 18 (1 : Int32))) → (kd 9 = 8) ∧ (((3 : Int32) ≤ (M7.1 9 0 19)) → X 136 [some (zR 9 0), some (zI (x)), some (zI (M3.1 9 9 (M3.1 9 0 17).toNatClampNeg)), some (zI ((0 : Int32))), none] [] M7) ∧ ((¬ (3 : Int32) ≤ (M7.1 9 0 19)) → X 136 [some (zR 9 0), some (zI (x)), some (zI (M3.1 9 9 (M3.1 9 0 17).toNatClampNeg)), some (zI ((1 : Int32))), none] [] M7)) ∧ (((M3.1 9 9 (M3.1 9 0 17).toNatClampNeg) = (59 : Int32)) → (kd 9 = 8) ∧ ∀ M8 : zM, (M8 = zmw M3 9 0 (upd (M3.1 9 0) 19 (3 : Int32))) → (kd 9 = 8) ∧ ∀ M9 : zM, (M9 = zmw M8 9 0 (upd (M8.1 9 0) 18 (1 : Int32))) → (kd 9 = 8) ∧ (((3 : Int32) ≤ (M9.1 9 0 19)) → X 136 [some (zR 9 0), some (zI (x)), some (zI (M3.1 9 9 (M3.1 9 0 17).toNatClampNeg)), some (zI ((0 : Int32))), none] [] M9) ∧ ((¬ (3 : Int32) ≤ (M9.1 9 0 19)) → X 136 [some (zR 9 0), some (zI (x)), some (zI (M3.1 9 9 (M3.1 9 0 17).toNatClampNeg)), some (zI ((1 : Int32))), none] [] M9))) ∧ ((¬ v5 = 0) → (kd 9 = 8) ∧ ∀ M10 : zM, (M10 = zmw M3 9 0 (upd (M3.1 9 0) 19 (2 : Int32))) → (kd 9 = 8) ∧ ∀ M11 : zM, (M11 = zmw M10 9 0 (upd (M10.1 9 0) 18 (1 : Int32))) → (kd 9 = 8) ∧ (((3 : Int32) ≤ (M11.1 9 0 19)) → X 136 [some (zR 9 0), some (zI (x)), some (zI (M3.1 9 9 (M3.1 9 0 17).toNatClampNeg)), some (zI ((0 : Int32))), none] [] M11) ∧ ((¬ (3 : Int32) ≤ (M11.1 9 0 19)) → X 136 [some (zR 9 0), some (zI (x)), some (zI (M3.1 9 9 (M3.1 9 0 17).toNatClampNeg)), some (zI ((1 : Int32))), none] [] M11))) ∧ ((¬ v4 = 0) → (kd 9 = 8) ∧ ∀ M12 : zM, (M12 = zmw M3 9 0 (upd (M3.1 9 0) 19 (1 : Int32))) → (kd 9 = 8) ∧ ∀ M13 : zM, (M13 = zmw M12 9 0 (upd (M12.1 9 0) 18 (1 : Int32))) → (kd 9 = 8) ∧ (((3 : Int32) ≤ (M13.1 9 0 19)) → X 136 [some (zR 9 0), some (zI (x)), some (zI (M3.1 9 9 (M3.1 9 0 17).toNatClampNeg)), some (zI ((0 : Int32))), none] [] M13) ∧ ((¬ (3 : Int32) ≤ (M13.1 9 0 19)) → X 136 [some (zR 9 0), some (zI (x)), some (zI (M3.1 9 9 (M3.1 9 0 17).toNatClampNeg)), some (zI ((1 : Int32))), none] [] M13))) ∧ (((M3.1 9 0 17) = (M3.1 9 0 16)) → K none M3) from ⟨hk0, fun M1 => have h := h M1; fun q => have h := h q; ⟨hk0, fun M2 => have h := h M2; fun q => have h := h q; ⟨hk0, fun M3 => have h := h M3; fun q => have h := h q; ⟨hk0, ⟨hk0, ⟨fun q => have h := h.1 q; ⟨hk0, ⟨hk0, ⟨h.1, have h := h.2; fun v4 => have h := h v4; fun q => have h := h q; ⟨fun q => have h := h.1 q; fun v5 => have h := h v5; fun q => have h := h q; ⟨fun q => have h := h.1 q; ⟨fun q => have h := h.1 q; ⟨hk0, fun M6 => have h := h M6; fun q => have h := h q; ⟨hk0, fun M7 => have h := h M7; fun q => have h := h q; ⟨hk0, ⟨fun q => have h := h.1 q; h, fun q => have h := h.2 q; h⟩⟩⟩⟩, fun q => have h := h.2 q; ⟨hk0, fun M8 => have h := h M8; fun q => have h := h q; ⟨hk0, fun M9 => have h := h M9; fun q => have h := h q; ⟨hk0, ⟨fun q => have h := h.1 q; h, fun q => have h := h.2 q; h⟩⟩⟩⟩⟩, fun q => have h := h.2 q; ⟨hk0, fun M10 => have h := h M10; fun q => have h := h q; ⟨hk0, fun M11 => have h := h M11; fun q => have h := h q; ⟨hk0, ⟨fun q => have h := h.1 q; h, fun q => have h := h.2 q; h⟩⟩⟩⟩⟩, fun q => have h := h.2 q; ⟨hk0, fun M12 => have h := h M12; fun q => have h := h q; ⟨hk0, fun M13 => have h := h M13; fun q => have h := h q; ⟨hk0, ⟨fun q => have h := h.1 q; h, fun q => have h := h.2 q; h⟩⟩⟩⟩⟩⟩⟩⟩, fun q => have h := h.2 q; h⟩⟩⟩⟩⟩⟩)
set_option maxRecDepth 100000 in
theorem vc_X8_lookAt_136 {kd : Nat → Nat} {K : zK} {X : zX} (hX : ∀ (n pc : Nat) (ls : zLS) (st : List zV) (M : zM), zrun (tb_X8_lookAt kd K) [(5, [2, 3, 4]), (43, [2, 3, 4]), (136, [4]), (218, []), (274, [])] n X pc ls st M → X pc ls st M) {x : Int32} {c : Int32} {g : Int32} {M : zM} (hk0 : kd 9 = 8) (h : ((g = 0) → X 218 [some (zR 9 0), some (zI (x)), some (zI (c)), some (zI (g)), some (zI ((0 : Int32)))] [] M) ∧ ((¬ g = 0) → (((M.1 9 0 16) ≤ ((M.1 9 0 17) + (M.1 9 0 18))) → X 218 [some (zR 9 0), some (zI (x)), some (zI (c)), some (zI (g)), some (zI ((0 : Int32)))] [] M) ∧ ((¬ (M.1 9 0 16) ≤ ((M.1 9 0 17) + (M.1 9 0 18))) → (zin (kd 9) 9 0 ((M.1 9 0 17) + (M.1 9 0 18))) ∧ ((¬ (M.1 9 0 19) = (1 : Int32)) → ∀ v1 : Int32, (v1 = zp (isFg (M.1 9 9 ((M.1 9 0 17) + (M.1 9 0 18)).toNatClampNeg).toInt = true)) → ((v1 = 0) → ∀ M2 : zM, (M2 = zmw M 9 0 (upd (M.1 9 0) 18 ((M.1 9 0 18) + (0 : Int32)))) → X 136 [some (zR 9 0), some (zI (x)), some (zI (c)), some (zI (v1)), none] [] M2) ∧ ((¬ v1 = 0) → ∀ M3 : zM, (M3 = zmw M 9 0 (upd (M.1 9 0) 18 ((M.1 9 0 18) + (1 : Int32)))) → X 136 [some (zR 9 0), some (zI (x)), some (zI (c)), some (zI (v1)), none] [] M3)) ∧ (((M.1 9 0 19) = (1 : Int32)) → ∀ v4 : Int32, (v4 = zp (isLt (M.1 9 9 ((M.1 9 0 17) + (M.1 9 0 18)).toNatClampNeg).toInt = true)) → ((v4 = 0) → ∀ M5 : zM, (M5 = zmw M 9 0 (upd (M.1 9 0) 18 ((M.1 9 0 18) + (0 : Int32)))) → X 136 [some (zR 9 0), some (zI (x)), some (zI (c)), some (zI (v4)), none] [] M5) ∧ ((¬ v4 = 0) → ∀ M6 : zM, (M6 = zmw M 9 0 (upd (M.1 9 0) 18 ((M.1 9 0 18) + (1 : Int32)))) → X 136 [some (zR 9 0), some (zI (x)), some (zI (c)), some (zI (v4)), none] [] M6))))) : X 136 [some (zR 9 0), some (zI (x)), some (zI (c)), some (zI (g)), none] [] M := hX 39 136 _ [] M (show ((g = 0) → X 218 [some (zR 9 0), some (zI (x)), some (zI (c)), some (zI (g)), some (zI ((0 : Int32)))] [] M) ∧ ((¬ g = 0) → (kd 9 = 8) ∧ (kd 9 = 8) ∧ (kd 9 = 8) ∧ (((M.1 9 0 16) ≤ ((M.1 9 0 17) + (M.1 9 0 18))) → X 218 [some (zR 9 0), some (zI (x)), some (zI (c)), some (zI (g)), some (zI ((0 : Int32)))] [] M) ∧ ((¬ (M.1 9 0 16) ≤ ((M.1 9 0 17) + (M.1 9 0 18))) → (kd 9 = 8) ∧ (kd 9 = 8) ∧ (kd 9 = 8) ∧ (zin (kd 9) 9 0 ((M.1 9 0 17) + (M.1 9 0 18))) ∧ (kd 9 = 8) ∧ ((¬ (M.1 9 0 19) = (1 : Int32)) → ∀ v1 : Int32, (v1 = zp (isFg (M.1 9 9 ((M.1 9 0 17) + (M.1 9 0 18)).toNatClampNeg).toInt = true)) → (kd 9 = 8) ∧ ((v1 = 0) → (kd 9 = 8) ∧ ∀ M2 : zM, (M2 = zmw M 9 0 (upd (M.1 9 0) 18 ((M.1 9 0 18) + (0 : Int32)))) → X 136 [some (zR 9 0), some (zI (x)), some (zI (c)), some (zI (v1)), none] [] M2) ∧ ((¬ v1 = 0) → (kd 9 = 8) ∧ ∀ M3 : zM, (M3 = zmw M 9 0 (upd (M.1 9 0) 18 ((M.1 9 0 18) + (1 : Int32)))) → X 136 [some (zR 9 0), some (zI (x)), some (zI (c)), some (zI (v1)), none] [] M3)) ∧ (((M.1 9 0 19) = (1 : Int32)) → ∀ v4 : Int32, (v4 = zp (isLt (M.1 9 9 ((M.1 9 0 17) + (M.1 9 0 18)).toNatClampNeg).toInt = true)) → (kd 9 = 8) ∧ ((v4 = 0) → (kd 9 = 8) ∧ ∀ M5 : zM, (M5 = zmw M 9 0 (upd (M.1 9 0) 18 ((M.1 9 0 18) + (0 : Int32)))) → X 136 [some (zR 9 0), some (zI (x)), some (zI (c)), some (zI (v4)), none] [] M5) ∧ ((¬ v4 = 0) → (kd 9 = 8) ∧ ∀ M6 : zM, (M6 = zmw M 9 0 (upd (M.1 9 0) 18 ((M.1 9 0 18) + (1 : Int32)))) → X 136 [some (zR 9 0), some (zI (x)), some (zI (c)), some (zI (v4)), none] [] M6)))) from ⟨fun q => have h := h.1 q; h, fun q => have h := h.2 q; ⟨hk0, ⟨hk0, ⟨hk0, ⟨fun q => have h := h.1 q; h, fun q => have h := h.2 q; ⟨hk0, ⟨hk0, ⟨hk0, ⟨h.1, have h := h.2; ⟨hk0, ⟨fun q => have h := h.1 q; fun v1 => have h := h v1; fun q => have h := h q; ⟨hk0, ⟨fun q => have h := h.1 q; ⟨hk0, fun M2 => have h := h M2; fun q => have h := h q; h⟩, fun q => have h := h.2 q; ⟨hk0, fun M3 => have h := h M3; fun q => have h := h q; h⟩⟩⟩, fun q => have h := h.2 q; fun v4 => have h := h v4; fun q => have h := h q; ⟨hk0, ⟨fun q => have h := h.1 q; ⟨hk0, fun M5 => have h := h M5; fun q => have h := h q; h⟩, fun q => have h := h.2 q; ⟨hk0, fun M6 => have h := h M6; fun q => have h := h q; h⟩⟩⟩⟩⟩⟩⟩⟩⟩⟩⟩⟩⟩⟩)
set_option maxRecDepth 100000 in
theorem vc_X8_lookAt_218 {kd : Nat → Nat} {K : zK} {X : zX} (hX : ∀ (n pc : Nat) (ls : zLS) (st : List zV) (M : zM), zrun (tb_X8_lookAt kd K) [(5, [2, 3, 4]), (43, [2, 3, 4]), (136, [4]), (218, []), (274, [])] n X pc ls st M → X pc ls st M) {x : Int32} {c : Int32} {g : Int32} {k : Int32} {M : zM} (hk0 : kd 9 = 8) (h : (((M.1 9 0 18) ≤ k) → X 274 [some (zR 9 0), some (zI (x)), some (zI (c)), some (zI (g)), some (zI (k))] [] M) ∧ ((¬ (M.1 9 0 18) ≤ k) → (((2 : Int32) ≤ k) → X 274 [some (zR 9 0), some (zI (x)), some (zI (c)), some (zI (g)), some (zI (k))] [] M) ∧ ((¬ (2 : Int32) ≤ k) → ((¬ (M.1 9 0 19) = (2 : Int32)) → X 274 [some (zR 9 0), some (zI (x)), some (zI (c)), some (zI (g)), some (zI (k))] [] M) ∧ (((M.1 9 0 19) = (2 : Int32)) → (zin (kd 9) 9 0 ((M.1 9 0 17) + k)) ∧ ∀ M1 : zM, (M1 = zmw M 9 0 (upd (M.1 9 0) 20 ((((10 : Int32) * (M.1 9 0 20)) + (M.1 9 9 ((M.1 9 0 17) + k).toNatClampNeg)) - (48 : Int32)))) → X 218 [some (zR 9 0), some (zI (x)), some (zI (c)), some (zI (g)), some (zI (k + 1))] [] M1)))) : X 218 [some (zR 9 0), some (zI (x)), some (zI (c)), some (zI (g)), some (zI (k))] [] M := hX 31 218 _ [] M (show (kd 9 = 8) ∧ (((M.1 9 0 18) ≤ k) → X 274 [some (zR 9 0), some (zI (x)), some (zI (c)), some (zI (g)), some (zI (k))] [] M) ∧ ((¬ (M.1 9 0 18) ≤ k) → (((2 : Int32) ≤ k) → X 274 [some (zR 9 0), some (zI (x)), some (zI (c)), some (zI (g)), some (zI (k))] [] M) ∧ ((¬ (2 : Int32) ≤ k) → (kd 9 = 8) ∧ ((¬ (M.1 9 0 19) = (2 : Int32)) → X 274 [some (zR 9 0), some (zI (x)), some (zI (c)), some (zI (g)), some (zI (k))] [] M) ∧ (((M.1 9 0 19) = (2 : Int32)) → (kd 9 = 8) ∧ (kd 9 = 8) ∧ (kd 9 = 8) ∧ (zin (kd 9) 9 0 ((M.1 9 0 17) + k)) ∧ (kd 9 = 8) ∧ ∀ M1 : zM, (M1 = zmw M 9 0 (upd (M.1 9 0) 20 ((((10 : Int32) * (M.1 9 0 20)) + (M.1 9 9 ((M.1 9 0 17) + k).toNatClampNeg)) - (48 : Int32)))) → X 218 [some (zR 9 0), some (zI (x)), some (zI (c)), some (zI (g)), some (zI (k + 1))] [] M1))) from ⟨hk0, ⟨fun q => have h := h.1 q; h, fun q => have h := h.2 q; ⟨fun q => have h := h.1 q; h, fun q => have h := h.2 q; ⟨hk0, ⟨fun q => have h := h.1 q; h, fun q => have h := h.2 q; ⟨hk0, ⟨hk0, ⟨hk0, ⟨h.1, have h := h.2; ⟨hk0, fun M1 => have h := h M1; fun q => have h := h q; h⟩⟩⟩⟩⟩⟩⟩⟩⟩⟩)
set_option maxRecDepth 100000 in
theorem vc_X8_lookAt_274 {kd : Nat → Nat} {K : zK} {X : zX} (hX : ∀ (n pc : Nat) (ls : zLS) (st : List zV) (M : zM), zrun (tb_X8_lookAt kd K) [(5, [2, 3, 4]), (43, [2, 3, 4]), (136, [4]), (218, []), (274, [])] n X pc ls st M → X pc ls st M) {x : Int32} {c : Int32} {g : Int32} {k : Int32} {M : zM} (hk0 : kd 9 = 8) (h : ((¬ (M.1 9 0 19) = (2 : Int32)) → ∀ M1 : zM, (M1 = zmw M 9 0 (upd (M.1 9 0) 19 (M.1 9 0 19))) → K none M1) ∧ (((M.1 9 0 19) = (2 : Int32)) → (((M.1 9 0 18) ≤ (2 : Int32)) → ∀ M2 : zM, (M2 = zmw M 9 0 (upd (M.1 9 0) 19 (M.1 9 0 19))) → K none M2) ∧ ((¬ (M.1 9 0 18) ≤ (2 : Int32)) → ∀ M3 : zM, (M3 = zmw M 9 0 (upd (M.1 9 0) 19 (4 : Int32))) → K none M3))) : X 274 [some (zR 9 0), some (zI (x)), some (zI (c)), some (zI (g)), some (zI (k))] [] M := hX 14 274 _ [] M (show (kd 9 = 8) ∧ ((¬ (M.1 9 0 19) = (2 : Int32)) → (kd 9 = 8) ∧ (kd 9 = 8) ∧ ∀ M1 : zM, (M1 = zmw M 9 0 (upd (M.1 9 0) 19 (M.1 9 0 19))) → K none M1) ∧ (((M.1 9 0 19) = (2 : Int32)) → (kd 9 = 8) ∧ (((M.1 9 0 18) ≤ (2 : Int32)) → (kd 9 = 8) ∧ (kd 9 = 8) ∧ ∀ M2 : zM, (M2 = zmw M 9 0 (upd (M.1 9 0) 19 (M.1 9 0 19))) → K none M2) ∧ ((¬ (M.1 9 0 18) ≤ (2 : Int32)) → (kd 9 = 8) ∧ ∀ M3 : zM, (M3 = zmw M 9 0 (upd (M.1 9 0) 19 (4 : Int32))) → K none M3)) from ⟨hk0, ⟨fun q => have h := h.1 q; ⟨hk0, ⟨hk0, fun M1 => have h := h M1; fun q => have h := h q; h⟩⟩, fun q => have h := h.2 q; ⟨hk0, ⟨fun q => have h := h.1 q; ⟨hk0, ⟨hk0, fun M2 => have h := h M2; fun q => have h := h q; h⟩⟩, fun q => have h := h.2 q; ⟨hk0, fun M3 => have h := h M3; fun q => have h := h q; h⟩⟩⟩⟩⟩)
def sp_X8_goBehind : zSpec := fun kd as M K => match as with
  | [.inr (.inr (.inl (9, 0)))] => (kd 9 = 8) ∧ ∃ b : List Int, ∃ T : Tk, (RpY M b) ∧ (RpT2 (M.1 9 0) b T) ∧ ∀ f : Nat → Int32, (RpT2 f b (tok b T.2.2.2) ∧ ∀ j9, j9 ≤ 16 → f j9 = M.1 9 0 j9) → ∀ M' : zM, (M' = zmw M 9 0 f) → K none M'
  | _ => False
theorem rv_X8_goBehind : zrv sp_X8_goBehind 8 0 := by
  intro kd as M K h
  unfold sp_X8_goBehind at h
  split at h
  · exact ⟨_, _, rfl, h.1⟩
  · exact h.elim
theorem dd_X8_goBehind_0 : decode cX8_goBehind 0 = .ok (.aload_n 0, 1) := by decide +kernel
theorem dd_X8_goBehind_1 : decode cX8_goBehind 1 = .ok (.aload_n 0, 1) := by decide +kernel
theorem dd_X8_goBehind_2 : decode cX8_goBehind 2 = .ok (.getfield 256, 3) := by decide +kernel
theorem dd_X8_goBehind_5 : decode cX8_goBehind 5 = .ok (.aload_n 0, 1) := by decide +kernel
theorem dd_X8_goBehind_6 : decode cX8_goBehind 6 = .ok (.getfield 259, 3) := by decide +kernel
theorem dd_X8_goBehind_9 : decode cX8_goBehind 9 = .ok (.iadd, 1) := by decide +kernel
theorem dd_X8_goBehind_10 : decode cX8_goBehind 10 = .ok (.invokevirtual 274, 3) := by decide +kernel
theorem dd_X8_goBehind_13 : decode cX8_goBehind 13 = .ok (.return_, 1) := by decide +kernel
def tb_X8_goBehind (kd : Nat → Nat) (K : zK) : zTab := [(0, zt_aload 0 1), (1, zt_aload 0 2), (2, zt_getI kd 8 17 5), (5, zt_aload 0 6), (6, zt_getI kd 8 18 9), (9, zt_bin (fun x y => x + y) 10), (10, zt_call kd sp_X8_lookAt 2 13), (13, zt_vret K)]
set_option maxRecDepth 20000 in
theorem tk_X8_goBehind (d : Nat) (h_X8_lookAt : zMS 3 yX8_lookAt cX8_lookAt 5 none sp_X8_lookAt) : zTrue RX8 cX8_goBehind 1 none (d + 4) (fun kd K => tb_X8_goBehind kd K) := by
  intro p l e R s m args below meth c D cy A ad bl Qm K C0 hr hlocks hQ
  obtain ⟨hx, hb, hml, hown, hts, hK, hD, hA0, hN, hE, ⟨hR1, hR2⟩, hc1, hc2⟩ := id C0
  unfold tb_X8_goBehind
  refine List.forall_mem_cons.mpr ⟨ok_aload_n hx hb rfl dd_X8_goBehind_0, ?_⟩
  refine List.forall_mem_cons.mpr ⟨ok_aload_n hx hb rfl dd_X8_goBehind_1, ?_⟩
  refine List.forall_mem_cons.mpr ⟨ok_getI (j := 17) hx hb hts zi_X8 hown hK zc_X8 (by decide) rfl (fun t fl h => by cases h; rfl) (hts _ wd_857) dd_X8_goBehind_2, ?_⟩
  refine List.forall_mem_cons.mpr ⟨ok_aload_n hx hb rfl dd_X8_goBehind_5, ?_⟩
  refine List.forall_mem_cons.mpr ⟨ok_getI (j := 18) hx hb hts zi_X8 hown hK zc_X8 (by decide) rfl (fun t fl h => by cases h; rfl) (hts _ wd_858) dd_X8_goBehind_6, ?_⟩
  refine List.forall_mem_cons.mpr ⟨ok_iadd hx hb dd_X8_goBehind_9, ?_⟩
  refine List.forall_mem_cons.mpr ⟨ok_callV (n := 1) zc_X8 rv_X8_lookAt C0 (h_X8_lookAt (d + 3) (by omega)) (by decide) wd_1172 wd_1169 wd_1171 wd_88 wd_107 ⟨rfl, by decide +kernel, by decide +kernel, by decide +kernel⟩ dd_X8_goBehind_10, ?_⟩
  refine List.forall_mem_cons.mpr ⟨ok_vret hx hb hr hlocks hQ dd_X8_goBehind_13, ?_⟩
  exact fun _ h => absurd h List.not_mem_nil
set_option maxRecDepth 100000 in
theorem vc_X8_goBehind_0 {kd : Nat → Nat} {K : zK} {X : zX} (hX : ∀ (n pc : Nat) (ls : zLS) (st : List zV) (M : zM), zrun (tb_X8_goBehind kd K) [] n X pc ls st M → X pc ls st M)  {M : zM} (hk0 : kd 9 = 8) (h : ∃ b1 : List Int, (RpY M b1) ∧ ∃ p1 : Nat, (((M.1 9 0 17) + (M.1 9 0 18)).toInt = (p1 : Int) ∧ p1 ≤ b1.length) ∧ ∀ f1 : Nat → Int32, (RpT2 f1 b1 (tok b1 p1) ∧ ∀ j9, j9 ≤ 16 → f1 j9 = M.1 9 0 j9) → ∀ M1 : zM, (M1 = zmw M 9 0 f1) → K none M1) : X 0 [some (zR 9 0)] [] M := hX 9 0 _ [] M (show (kd 9 = 8) ∧ (kd 9 = 8) ∧ (kd 9 = 8) ∧ ∃ b1 : List Int, (RpY M b1) ∧ ∃ p1 : Nat, (((M.1 9 0 17) + (M.1 9 0 18)).toInt = (p1 : Int) ∧ p1 ≤ b1.length) ∧ ∀ f1 : Nat → Int32, (RpT2 f1 b1 (tok b1 p1) ∧ ∀ j9, j9 ≤ 16 → f1 j9 = M.1 9 0 j9) → ∀ M1 : zM, (M1 = zmw M 9 0 f1) → K none M1 from ⟨hk0, ⟨hk0, ⟨hk0, h.elim (fun b1 h => ⟨b1, ⟨h.1, have h := h.2; h.elim (fun p1 h => ⟨p1, ⟨h.1, have h := h.2; fun f1 => have h := h f1; fun q => have h := h q; fun M1 => have h := h M1; fun q => have h := h q; h⟩⟩)⟩⟩)⟩⟩⟩)
def sp_X8_isWord : zSpec := fun kd as M K => match as with
  | [.inr (.inr (.inl (9, 0))), .inl n, .inl p, .inl q, .inl r, .inl s, .inl u] => (kd 9 = 8) ∧ ∃ b : List Int, ∃ T : Tk, (RpY M b) ∧ (RpT2 (M.1 9 0) b T) ∧ ∃ w : Nat, ((20 ≤ w ∧ w < 24) ∧ n.toInt = ((wdI w).length : Int) ∧ ∀ k9, k9 < (wdI w).length → (wdI w)[k9]? = some (wds p.toInt q.toInt r.toInt s.toInt u.toInt k9)) ∧ ∀ v : Int32, (v = zp (isWd b T w = true)) → K (some (.inl v)) M
  | _ => False
theorem rv_X8_isWord : zrv sp_X8_isWord 8 6 := by
  intro kd as M K h
  unfold sp_X8_isWord at h
  split at h
  · exact ⟨_, _, rfl, h.1⟩
  · exact h.elim
theorem dd_X8_isWord_0 : decode cX8_isWord 0 = .ok (.aload_n 0, 1) := by decide +kernel
theorem dd_X8_isWord_1 : decode cX8_isWord 1 = .ok (.getfield 262, 3) := by decide +kernel
theorem dd_X8_isWord_4 : decode cX8_isWord 4 = .ok (.iconst 1, 1) := by decide +kernel
theorem dd_X8_isWord_5 : decode cX8_isWord 5 = .ok (.if_icmp .ne 15, 3) := by decide +kernel
theorem dd_X8_isWord_8 : decode cX8_isWord 8 = .ok (.aload_n 0, 1) := by decide +kernel
theorem dd_X8_isWord_9 : decode cX8_isWord 9 = .ok (.getfield 259, 3) := by decide +kernel
theorem dd_X8_isWord_12 : decode cX8_isWord 12 = .ok (.iload_n 1, 1) := by decide +kernel
theorem dd_X8_isWord_13 : decode cX8_isWord 13 = .ok (.if_icmp .ne 7, 3) := by decide +kernel
theorem dd_X8_isWord_16 : decode cX8_isWord 16 = .ok (.iconst 1, 1) := by decide +kernel
theorem dd_X8_isWord_17 : decode cX8_isWord 17 = .ok (.goto 4, 3) := by decide +kernel
theorem dd_X8_isWord_20 : decode cX8_isWord 20 = .ok (.iconst 0, 1) := by decide +kernel
theorem dd_X8_isWord_21 : decode cX8_isWord 21 = .ok (.istore 7, 2) := by decide +kernel
theorem dd_X8_isWord_23 : decode cX8_isWord 23 = .ok (.iconst 0, 1) := by decide +kernel
theorem dd_X8_isWord_24 : decode cX8_isWord 24 = .ok (.istore 8, 2) := by decide +kernel
theorem dd_X8_isWord_26 : decode cX8_isWord 26 = .ok (.iload 8, 2) := by decide +kernel
theorem dd_X8_isWord_28 : decode cX8_isWord 28 = .ok (.iload_n 1, 1) := by decide +kernel
theorem dd_X8_isWord_29 : decode cX8_isWord 29 = .ok (.if_icmp .ge 79, 3) := by decide +kernel
theorem dd_X8_isWord_32 : decode cX8_isWord 32 = .ok (.iload 7, 2) := by decide +kernel
theorem dd_X8_isWord_34 : decode cX8_isWord 34 = .ok (.ifCond .eq 74, 3) := by decide +kernel
theorem dd_X8_isWord_37 : decode cX8_isWord 37 = .ok (.aload_n 0, 1) := by decide +kernel
theorem dd_X8_isWord_38 : decode cX8_isWord 38 = .ok (.getfield 39, 3) := by decide +kernel
theorem dd_X8_isWord_41 : decode cX8_isWord 41 = .ok (.aload_n 0, 1) := by decide +kernel
theorem dd_X8_isWord_42 : decode cX8_isWord 42 = .ok (.getfield 256, 3) := by decide +kernel
theorem dd_X8_isWord_45 : decode cX8_isWord 45 = .ok (.iload 8, 2) := by decide +kernel
theorem dd_X8_isWord_47 : decode cX8_isWord 47 = .ok (.iadd, 1) := by decide +kernel
theorem dd_X8_isWord_48 : decode cX8_isWord 48 = .ok (.iaload, 1) := by decide +kernel
theorem dd_X8_isWord_49 : decode cX8_isWord 49 = .ok (.iload 8, 2) := by decide +kernel
theorem dd_X8_isWord_51 : decode cX8_isWord 51 = .ok (.ifCond .ne 7, 3) := by decide +kernel
theorem dd_X8_isWord_54 : decode cX8_isWord 54 = .ok (.iload_n 2, 1) := by decide +kernel
theorem dd_X8_isWord_55 : decode cX8_isWord 55 = .ok (.goto 37, 3) := by decide +kernel
theorem dd_X8_isWord_58 : decode cX8_isWord 58 = .ok (.iload 8, 2) := by decide +kernel
theorem dd_X8_isWord_60 : decode cX8_isWord 60 = .ok (.iconst 1, 1) := by decide +kernel
theorem dd_X8_isWord_61 : decode cX8_isWord 61 = .ok (.if_icmp .ne 7, 3) := by decide +kernel
theorem dd_X8_isWord_64 : decode cX8_isWord 64 = .ok (.iload_n 3, 1) := by decide +kernel
theorem dd_X8_isWord_65 : decode cX8_isWord 65 = .ok (.goto 27, 3) := by decide +kernel
theorem dd_X8_isWord_68 : decode cX8_isWord 68 = .ok (.iload 8, 2) := by decide +kernel
theorem dd_X8_isWord_70 : decode cX8_isWord 70 = .ok (.iconst 2, 1) := by decide +kernel
theorem dd_X8_isWord_71 : decode cX8_isWord 71 = .ok (.if_icmp .ne 8, 3) := by decide +kernel
theorem dd_X8_isWord_74 : decode cX8_isWord 74 = .ok (.iload 4, 2) := by decide +kernel
theorem dd_X8_isWord_76 : decode cX8_isWord 76 = .ok (.goto 16, 3) := by decide +kernel
theorem dd_X8_isWord_79 : decode cX8_isWord 79 = .ok (.iload 8, 2) := by decide +kernel
theorem dd_X8_isWord_81 : decode cX8_isWord 81 = .ok (.iconst 3, 1) := by decide +kernel
theorem dd_X8_isWord_82 : decode cX8_isWord 82 = .ok (.if_icmp .ne 8, 3) := by decide +kernel
theorem dd_X8_isWord_85 : decode cX8_isWord 85 = .ok (.iload 5, 2) := by decide +kernel
theorem dd_X8_isWord_87 : decode cX8_isWord 87 = .ok (.goto 5, 3) := by decide +kernel
theorem dd_X8_isWord_90 : decode cX8_isWord 90 = .ok (.iload 6, 2) := by decide +kernel
theorem dd_X8_isWord_92 : decode cX8_isWord 92 = .ok (.if_icmp .ne 7, 3) := by decide +kernel
theorem dd_X8_isWord_95 : decode cX8_isWord 95 = .ok (.iconst 1, 1) := by decide +kernel
theorem dd_X8_isWord_96 : decode cX8_isWord 96 = .ok (.goto 4, 3) := by decide +kernel
theorem dd_X8_isWord_99 : decode cX8_isWord 99 = .ok (.iconst 0, 1) := by decide +kernel
theorem dd_X8_isWord_100 : decode cX8_isWord 100 = .ok (.istore 7, 2) := by decide +kernel
theorem dd_X8_isWord_102 : decode cX8_isWord 102 = .ok (.iinc 8 1, 3) := by decide +kernel
theorem dd_X8_isWord_105 : decode cX8_isWord 105 = .ok (.goto (-79), 3) := by decide +kernel
theorem dd_X8_isWord_108 : decode cX8_isWord 108 = .ok (.iload 7, 2) := by decide +kernel
theorem dd_X8_isWord_110 : decode cX8_isWord 110 = .ok (.ireturn, 1) := by decide +kernel
def tb_X8_isWord (kd : Nat → Nat) (K : zK) : zTab := [(0, zt_aload 0 1), (1, zt_getI kd 8 19 4), (4, zt_const (zI 1) 5), (5, zt_icmp (fun x y => ¬ x = y) (fun x y => x = y) 20 8), (8, zt_aload 0 9), (9, zt_getI kd 8 18 12), (12, zt_iload 1 13), (13, zt_icmp (fun x y => ¬ x = y) (fun x y => x = y) 20 16), (16, zt_const (zI 1) 17), (17, zt_goto 21), (20, zt_const (zI 0) 21), (21, zt_istore 7 23), (23, zt_const (zI 0) 24), (24, zt_istore 8 26), (26, zt_iload 8 28), (28, zt_iload 1 29), (29, zt_icmp (fun x y => y ≤ x) (fun x y => ¬ y ≤ x) 108 32), (32, zt_iload 7 34), (34, zt_if (fun x => x = 0) (fun x => ¬ x = 0) 108 37), (37, zt_aload 0 38), (38, zt_getR kd 8 0 9 41), (41, zt_aload 0 42), (42, zt_getI kd 8 17 45), (45, zt_iload 8 47), (47, zt_bin (fun x y => x + y) 48), (48, zt_ald kd 0 49), (49, zt_iload 8 51), (51, zt_if (fun x => ¬ x = 0) (fun x => x = 0) 58 54), (54, zt_iload 2 55), (55, zt_goto 92), (58, zt_iload 8 60), (60, zt_const (zI 1) 61), (61, zt_icmp (fun x y => ¬ x = y) (fun x y => x = y) 68 64), (64, zt_iload 3 65), (65, zt_goto 92), (68, zt_iload 8 70), (70, zt_const (zI 2) 71), (71, zt_icmp (fun x y => ¬ x = y) (fun x y => x = y) 79 74), (74, zt_iload 4 76), (76, zt_goto 92), (79, zt_iload 8 81), (81, zt_const (zI 3) 82), (82, zt_icmp (fun x y => ¬ x = y) (fun x y => x = y) 90 85), (85, zt_iload 5 87), (87, zt_goto 92), (90, zt_iload 6 92), (92, zt_icmp (fun x y => ¬ x = y) (fun x y => x = y) 99 95), (95, zt_const (zI 1) 96), (96, zt_goto 100), (99, zt_const (zI 0) 100), (100, zt_istore 7 102), (102, zt_iinc 8 1 105), (105, zt_goto 26), (108, zt_iload 7 110), (110, zt_zret K)]
set_option maxRecDepth 20000 in
theorem tk_X8_isWord (d : Nat)  : zTrue RX8 cX8_isWord 9 (some .boolean) (d + 1) (fun kd K => tb_X8_isWord kd K) := by
  intro p l e R s m args below meth c D cy A ad bl Qm K C0 hr hlocks hQ
  obtain ⟨hx, hb, hml, hown, hts, hK, hD, hA0, hN, hE, ⟨hR1, hR2⟩, hc1, hc2⟩ := id C0
  unfold tb_X8_isWord
  refine List.forall_mem_cons.mpr ⟨ok_aload_n hx hb rfl dd_X8_isWord_0, ?_⟩
  refine List.forall_mem_cons.mpr ⟨ok_getI (j := 19) hx hb hts zi_X8 hown hK zc_X8 (by decide) rfl (fun t fl h => by cases h; rfl) (hts _ wd_859) dd_X8_isWord_1, ?_⟩
  refine List.forall_mem_cons.mpr ⟨ok_iconst hx hb dd_X8_isWord_4 (by decide), ?_⟩
  refine List.forall_mem_cons.mpr ⟨ok_icmp_ne hx hb dd_X8_isWord_5 (by decide), ?_⟩
  refine List.forall_mem_cons.mpr ⟨ok_aload_n hx hb rfl dd_X8_isWord_8, ?_⟩
  refine List.forall_mem_cons.mpr ⟨ok_getI (j := 18) hx hb hts zi_X8 hown hK zc_X8 (by decide) rfl (fun t fl h => by cases h; rfl) (hts _ wd_858) dd_X8_isWord_9, ?_⟩
  refine List.forall_mem_cons.mpr ⟨ok_iload_n hx hb rfl dd_X8_isWord_12, ?_⟩
  refine List.forall_mem_cons.mpr ⟨ok_icmp_ne hx hb dd_X8_isWord_13 (by decide), ?_⟩
  refine List.forall_mem_cons.mpr ⟨ok_iconst hx hb dd_X8_isWord_16 (by decide), ?_⟩
  refine List.forall_mem_cons.mpr ⟨ok_goto hx hb dd_X8_isWord_17 (by decide), ?_⟩
  refine List.forall_mem_cons.mpr ⟨ok_iconst hx hb dd_X8_isWord_20 (by decide), ?_⟩
  refine List.forall_mem_cons.mpr ⟨ok_istore hx hb dd_X8_isWord_21, ?_⟩
  refine List.forall_mem_cons.mpr ⟨ok_iconst hx hb dd_X8_isWord_23 (by decide), ?_⟩
  refine List.forall_mem_cons.mpr ⟨ok_istore hx hb dd_X8_isWord_24, ?_⟩
  refine List.forall_mem_cons.mpr ⟨ok_iload hx hb dd_X8_isWord_26, ?_⟩
  refine List.forall_mem_cons.mpr ⟨ok_iload_n hx hb rfl dd_X8_isWord_28, ?_⟩
  refine List.forall_mem_cons.mpr ⟨ok_icmp_ge hx hb dd_X8_isWord_29 (by decide), ?_⟩
  refine List.forall_mem_cons.mpr ⟨ok_iload hx hb dd_X8_isWord_32, ?_⟩
  refine List.forall_mem_cons.mpr ⟨ok_if_eq hx hb dd_X8_isWord_34 (by decide), ?_⟩
  refine List.forall_mem_cons.mpr ⟨ok_aload_n hx hb rfl dd_X8_isWord_37, ?_⟩
  refine List.forall_mem_cons.mpr ⟨ok_getR (j := 15) hx hb hts zi_X8 hown hK zc_X8 (by decide) rfl (fun t fl h => by cases h; rfl) (hts _ wd_855) dd_X8_isWord_38, ?_⟩
  refine List.forall_mem_cons.mpr ⟨ok_aload_n hx hb rfl dd_X8_isWord_41, ?_⟩
  refine List.forall_mem_cons.mpr ⟨ok_getI (j := 17) hx hb hts zi_X8 hown hK zc_X8 (by decide) rfl (fun t fl h => by cases h; rfl) (hts _ wd_857) dd_X8_isWord_42, ?_⟩
  refine List.forall_mem_cons.mpr ⟨ok_iload hx hb dd_X8_isWord_45, ?_⟩
  refine List.forall_mem_cons.mpr ⟨ok_iadd hx hb dd_X8_isWord_47, ?_⟩
  refine List.forall_mem_cons.mpr ⟨ok_ald (ty := 0) rfl hx hb hK (Or.inl ⟨rfl, rfl, dd_X8_isWord_48⟩), ?_⟩
  refine List.forall_mem_cons.mpr ⟨ok_iload hx hb dd_X8_isWord_49, ?_⟩
  refine List.forall_mem_cons.mpr ⟨ok_if_ne hx hb dd_X8_isWord_51 (by decide), ?_⟩
  refine List.forall_mem_cons.mpr ⟨ok_iload_n hx hb rfl dd_X8_isWord_54, ?_⟩
  refine List.forall_mem_cons.mpr ⟨ok_goto hx hb dd_X8_isWord_55 (by decide), ?_⟩
  refine List.forall_mem_cons.mpr ⟨ok_iload hx hb dd_X8_isWord_58, ?_⟩
  refine List.forall_mem_cons.mpr ⟨ok_iconst hx hb dd_X8_isWord_60 (by decide), ?_⟩
  refine List.forall_mem_cons.mpr ⟨ok_icmp_ne hx hb dd_X8_isWord_61 (by decide), ?_⟩
  refine List.forall_mem_cons.mpr ⟨ok_iload_n hx hb rfl dd_X8_isWord_64, ?_⟩
  refine List.forall_mem_cons.mpr ⟨ok_goto hx hb dd_X8_isWord_65 (by decide), ?_⟩
  refine List.forall_mem_cons.mpr ⟨ok_iload hx hb dd_X8_isWord_68, ?_⟩
  refine List.forall_mem_cons.mpr ⟨ok_iconst hx hb dd_X8_isWord_70 (by decide), ?_⟩
  refine List.forall_mem_cons.mpr ⟨ok_icmp_ne hx hb dd_X8_isWord_71 (by decide), ?_⟩
  refine List.forall_mem_cons.mpr ⟨ok_iload hx hb dd_X8_isWord_74, ?_⟩
  refine List.forall_mem_cons.mpr ⟨ok_goto hx hb dd_X8_isWord_76 (by decide), ?_⟩
  refine List.forall_mem_cons.mpr ⟨ok_iload hx hb dd_X8_isWord_79, ?_⟩
  refine List.forall_mem_cons.mpr ⟨ok_iconst hx hb dd_X8_isWord_81 (by decide), ?_⟩
  refine List.forall_mem_cons.mpr ⟨ok_icmp_ne hx hb dd_X8_isWord_82 (by decide), ?_⟩
  refine List.forall_mem_cons.mpr ⟨ok_iload hx hb dd_X8_isWord_85, ?_⟩
  refine List.forall_mem_cons.mpr ⟨ok_goto hx hb dd_X8_isWord_87 (by decide), ?_⟩
  refine List.forall_mem_cons.mpr ⟨ok_iload hx hb dd_X8_isWord_90, ?_⟩
  refine List.forall_mem_cons.mpr ⟨ok_icmp_ne hx hb dd_X8_isWord_92 (by decide), ?_⟩
  refine List.forall_mem_cons.mpr ⟨ok_iconst hx hb dd_X8_isWord_95 (by decide), ?_⟩
  refine List.forall_mem_cons.mpr ⟨ok_goto hx hb dd_X8_isWord_96 (by decide), ?_⟩
  refine List.forall_mem_cons.mpr ⟨ok_iconst hx hb dd_X8_isWord_99 (by decide), ?_⟩
  refine List.forall_mem_cons.mpr ⟨ok_istore hx hb dd_X8_isWord_100, ?_⟩
  refine List.forall_mem_cons.mpr ⟨ok_iinc hx hb dd_X8_isWord_102 (by decide), ?_⟩
  refine List.forall_mem_cons.mpr ⟨ok_goto hx hb dd_X8_isWord_105 (by decide), ?_⟩
  refine List.forall_mem_cons.mpr ⟨ok_iload hx hb dd_X8_isWord_108, ?_⟩
  refine List.forall_mem_cons.mpr ⟨ok_zret hx hb hr hlocks hQ dd_X8_isWord_110, ?_⟩
  exact fun _ h => absurd h List.not_mem_nil
set_option maxRecDepth 100000 in
theorem vc_X8_isWord_0 {kd : Nat → Nat} {K : zK} {X : zX} (hX : ∀ (n pc : Nat) (ls : zLS) (st : List zV) (M : zM), zrun (tb_X8_isWord kd K) [(26, [])] n X pc ls st M → X pc ls st M) {n : Int32} {p : Int32} {q : Int32} {r : Int32} {s : Int32} {u : Int32} {M : zM} (hk0 : kd 9 = 8) (h : ((¬ (M.1 9 0 19) = (1 : Int32)) → X 26 [some (zR 9 0), some (zI (n)), some (zI (p)), some (zI (q)), some (zI (r)), some (zI (s)), some (zI (u)), some (zI ((0 : Int32))), some (zI ((0 : Int32)))] [] M) ∧ (((M.1 9 0 19) = (1 : Int32)) → ((¬ (M.1 9 0 18) = n) → X 26 [some (zR 9 0), some (zI (n)), some (zI (p)), some (zI (q)), some (zI (r)), some (zI (s)), some (zI (u)), some (zI ((0 : Int32))), some (zI ((0 : Int32)))] [] M) ∧ (((M.1 9 0 18) = n) → X 26 [some (zR 9 0), some (zI (n)), some (zI (p)), some (zI (q)), some (zI (r)), some (zI (s)), some (zI (u)), some (zI ((1 : Int32))), some (zI ((0 : Int32)))] [] M))) : X 0 [some (zR 9 0), some (zI (n)), some (zI (p)), some (zI (q)), some (zI (r)), some (zI (s)), some (zI (u)), none, none] [] M := hX 15 0 _ [] M (show (kd 9 = 8) ∧ ((¬ (M.1 9 0 19) = (1 : Int32)) → X 26 [some (zR 9 0), some (zI (n)), some (zI (p)), some (zI (q)), some (zI (r)), some (zI (s)), some (zI (u)), some (zI ((0 : Int32))), some (zI ((0 : Int32)))] [] M) ∧ (((M.1 9 0 19) = (1 : Int32)) → (kd 9 = 8) ∧ ((¬ (M.1 9 0 18) = n) → X 26 [some (zR 9 0), some (zI (n)), some (zI (p)), some (zI (q)), some (zI (r)), some (zI (s)), some (zI (u)), some (zI ((0 : Int32))), some (zI ((0 : Int32)))] [] M) ∧ (((M.1 9 0 18) = n) → X 26 [some (zR 9 0), some (zI (n)), some (zI (p)), some (zI (q)), some (zI (r)), some (zI (s)), some (zI (u)), some (zI ((1 : Int32))), some (zI ((0 : Int32)))] [] M)) from ⟨hk0, ⟨fun q => have h := h.1 q; h, fun q => have h := h.2 q; ⟨hk0, ⟨fun q => have h := h.1 q; h, fun q => have h := h.2 q; h⟩⟩⟩⟩)
set_option maxRecDepth 100000 in
theorem vc_X8_isWord_26 {kd : Nat → Nat} {K : zK} {X : zX} (hX : ∀ (n pc : Nat) (ls : zLS) (st : List zV) (M : zM), zrun (tb_X8_isWord kd K) [(26, [])] n X pc ls st M → X pc ls st M) {n : Int32} {p : Int32} {q : Int32} {r : Int32} {s : Int32} {u : Int32} {g : Int32} {k : Int32} {M : zM} (hk0 : kd 9 = 8) (h : ((n ≤ k) → (g = 0 ∨ g = 1) ∧ K (some (zI (g))) M) ∧ ((¬ n ≤ k) → ((g = 0) → (g = 0 ∨ g = 1) ∧ K (some (zI (g))) M) ∧ ((¬ g = 0) → (zin (kd 9) 9 0 ((M.1 9 0 17) + k)) ∧ ((¬ k = 0) → ((¬ k = (1 : Int32)) → ((¬ k = (2 : Int32)) → ((¬ k = (3 : Int32)) → ((¬ (M.1 9 9 ((M.1 9 0 17) + k).toNatClampNeg) = u) → X 26 [some (zR 9 0), some (zI (n)), some (zI (p)), some (zI (q)), some (zI (r)), some (zI (s)), some (zI (u)), some (zI ((0 : Int32))), some (zI (k + 1))] [] M) ∧ (((M.1 9 9 ((M.1 9 0 17) + k).toNatClampNeg) = u) → X 26 [some (zR 9 0), some (zI (n)), some (zI (p)), some (zI (q)), some (zI (r)), some (zI (s)), some (zI (u)), some (zI ((1 : Int32))), some (zI (k + 1))] [] M)) ∧ ((k = (3 : Int32)) → ((¬ (M.1 9 9 ((M.1 9 0 17) + k).toNatClampNeg) = s) → X 26 [some (zR 9 0), some (zI (n)), some (zI (p)), some (zI (q)), some (zI (r)), some (zI (s)), some (zI (u)), some (zI ((0 : Int32))), some (zI (k + 1))] [] M) ∧ (((M.1 9 9 ((M.1 9 0 17) + k).toNatClampNeg) = s) → X 26 [some (zR 9 0), some (zI (n)), some (zI (p)), some (zI (q)), some (zI (r)), some (zI (s)), some (zI (u)), some (zI ((1 : Int32))), some (zI (k + 1))] [] M))) ∧ ((k = (2 : Int32)) → ((¬ (M.1 9 9 ((M.1 9 0 17) + k).toNatClampNeg) = r) → X 26 [some (zR 9 0), some (zI (n)), some (zI (p)), some (zI (q)), some (zI (r)), some (zI (s)), some (zI (u)), some (zI ((0 : Int32))), some (zI (k + 1))] [] M) ∧ (((M.1 9 9 ((M.1 9 0 17) + k).toNatClampNeg) = r) → X 26 [some (zR 9 0), some (zI (n)), some (zI (p)), some (zI (q)), some (zI (r)), some (zI (s)), some (zI (u)), some (zI ((1 : Int32))), some (zI (k + 1))] [] M))) ∧ ((k = (1 : Int32)) → ((¬ (M.1 9 9 ((M.1 9 0 17) + k).toNatClampNeg) = q) → X 26 [some (zR 9 0), some (zI (n)), some (zI (p)), some (zI (q)), some (zI (r)), some (zI (s)), some (zI (u)), some (zI ((0 : Int32))), some (zI (k + 1))] [] M) ∧ (((M.1 9 9 ((M.1 9 0 17) + k).toNatClampNeg) = q) → X 26 [some (zR 9 0), some (zI (n)), some (zI (p)), some (zI (q)), some (zI (r)), some (zI (s)), some (zI (u)), some (zI ((1 : Int32))), some (zI (k + 1))] [] M))) ∧ ((k = 0) → ((¬ (M.1 9 9 ((M.1 9 0 17) + k).toNatClampNeg) = p) → X 26 [some (zR 9 0), some (zI (n)), some (zI (p)), some (zI (q)), some (zI (r)), some (zI (s)), some (zI (u)), some (zI ((0 : Int32))), some (zI (k + 1))] [] M) ∧ (((M.1 9 9 ((M.1 9 0 17) + k).toNatClampNeg) = p) → X 26 [some (zR 9 0), some (zI (n)), some (zI (p)), some (zI (q)), some (zI (r)), some (zI (s)), some (zI (u)), some (zI ((1 : Int32))), some (zI (k + 1))] [] M))))) : X 26 [some (zR 9 0), some (zI (n)), some (zI (p)), some (zI (q)), some (zI (r)), some (zI (s)), some (zI (u)), some (zI (g)), some (zI (k))] [] M := hX 33 26 _ [] M (show ((n ≤ k) → (g = 0 ∨ g = 1) ∧ K (some (zI (g))) M) ∧ ((¬ n ≤ k) → ((g = 0) → (g = 0 ∨ g = 1) ∧ K (some (zI (g))) M) ∧ ((¬ g = 0) → (kd 9 = 8) ∧ (kd 9 = 8) ∧ (zin (kd 9) 9 0 ((M.1 9 0 17) + k)) ∧ ((¬ k = 0) → ((¬ k = (1 : Int32)) → ((¬ k = (2 : Int32)) → ((¬ k = (3 : Int32)) → ((¬ (M.1 9 9 ((M.1 9 0 17) + k).toNatClampNeg) = u) → X 26 [some (zR 9 0), some (zI (n)), some (zI (p)), some (zI (q)), some (zI (r)), some (zI (s)), some (zI (u)), some (zI ((0 : Int32))), some (zI (k + 1))] [] M) ∧ (((M.1 9 9 ((M.1 9 0 17) + k).toNatClampNeg) = u) → X 26 [some (zR 9 0), some (zI (n)), some (zI (p)), some (zI (q)), some (zI (r)), some (zI (s)), some (zI (u)), some (zI ((1 : Int32))), some (zI (k + 1))] [] M)) ∧ ((k = (3 : Int32)) → ((¬ (M.1 9 9 ((M.1 9 0 17) + k).toNatClampNeg) = s) → X 26 [some (zR 9 0), some (zI (n)), some (zI (p)), some (zI (q)), some (zI (r)), some (zI (s)), some (zI (u)), some (zI ((0 : Int32))), some (zI (k + 1))] [] M) ∧ (((M.1 9 9 ((M.1 9 0 17) + k).toNatClampNeg) = s) → X 26 [some (zR 9 0), some (zI (n)), some (zI (p)), some (zI (q)), some (zI (r)), some (zI (s)), some (zI (u)), some (zI ((1 : Int32))), some (zI (k + 1))] [] M))) ∧ ((k = (2 : Int32)) → ((¬ (M.1 9 9 ((M.1 9 0 17) + k).toNatClampNeg) = r) → X 26 [some (zR 9 0), some (zI (n)), some (zI (p)), some (zI (q)), some (zI (r)), some (zI (s)), some (zI (u)), some (zI ((0 : Int32))), some (zI (k + 1))] [] M) ∧ (((M.1 9 9 ((M.1 9 0 17) + k).toNatClampNeg) = r) → X 26 [some (zR 9 0), some (zI (n)), some (zI (p)), some (zI (q)), some (zI (r)), some (zI (s)), some (zI (u)), some (zI ((1 : Int32))), some (zI (k + 1))] [] M))) ∧ ((k = (1 : Int32)) → ((¬ (M.1 9 9 ((M.1 9 0 17) + k).toNatClampNeg) = q) → X 26 [some (zR 9 0), some (zI (n)), some (zI (p)), some (zI (q)), some (zI (r)), some (zI (s)), some (zI (u)), some (zI ((0 : Int32))), some (zI (k + 1))] [] M) ∧ (((M.1 9 9 ((M.1 9 0 17) + k).toNatClampNeg) = q) → X 26 [some (zR 9 0), some (zI (n)), some (zI (p)), some (zI (q)), some (zI (r)), some (zI (s)), some (zI (u)), some (zI ((1 : Int32))), some (zI (k + 1))] [] M))) ∧ ((k = 0) → ((¬ (M.1 9 9 ((M.1 9 0 17) + k).toNatClampNeg) = p) → X 26 [some (zR 9 0), some (zI (n)), some (zI (p)), some (zI (q)), some (zI (r)), some (zI (s)), some (zI (u)), some (zI ((0 : Int32))), some (zI (k + 1))] [] M) ∧ (((M.1 9 9 ((M.1 9 0 17) + k).toNatClampNeg) = p) → X 26 [some (zR 9 0), some (zI (n)), some (zI (p)), some (zI (q)), some (zI (r)), some (zI (s)), some (zI (u)), some (zI ((1 : Int32))), some (zI (k + 1))] [] M)))) from ⟨fun q => have h := h.1 q; ⟨h.1, have h := h.2; h⟩, fun q => have h := h.2 q; ⟨fun q => have h := h.1 q; ⟨h.1, have h := h.2; h⟩, fun q => have h := h.2 q; ⟨hk0, ⟨hk0, ⟨h.1, have h := h.2; ⟨fun q => have h := h.1 q; ⟨fun q => have h := h.1 q; ⟨fun q => have h := h.1 q; ⟨fun q => have h := h.1 q; ⟨fun q => have h := h.1 q; h, fun q => have h := h.2 q; h⟩, fun q => have h := h.2 q; ⟨fun q => have h := h.1 q; h, fun q => have h := h.2 q; h⟩⟩, fun q => have h := h.2 q; ⟨fun q => have h := h.1 q; h, fun q => have h := h.2 q; h⟩⟩, fun q => have h := h.2 q; ⟨fun q => have h := h.1 q; h, fun q => have h := h.2 q; h⟩⟩, fun q => have h := h.2 q; ⟨fun q => have h := h.1 q; h, fun q => have h := h.2 q; h⟩⟩⟩⟩⟩⟩⟩)
def sp_X8_takes : zSpec := fun kd as M K => match as with
  | [.inr (.inr (.inl (9, 0))), .inl k, .inl i, .inl n] => (kd 9 = 8) ∧ ∃ b : List Int, ∃ T : Tk, (RpY M b) ∧ (RpT2 (M.1 9 0) b T) ∧ (0 ≤ k.toInt ∧ k.toInt < 4) ∧ ∀ v : Int32, (v = zp (numIs T i.toInt n.toInt = true)) → ∀ M' : zM, (tkP M M' b T k.toInt.toNat i.toInt n.toInt) → K (some (.inl v)) M'
  | _ => False
theorem rv_X8_takes : zrv sp_X8_takes 8 3 := by
  intro kd as M K h
  unfold sp_X8_takes at h
  split at h
  · exact ⟨_, _, rfl, h.1⟩
  · exact h.elim
theorem dd_X8_takes_0 : decode cX8_takes 0 = .ok (.aload_n 0, 1) := by decide +kernel
theorem dd_X8_takes_1 : decode cX8_takes 1 = .ok (.getfield 262, 3) := by decide +kernel
theorem dd_X8_takes_4 : decode cX8_takes 4 = .ok (.iconst 2, 1) := by decide +kernel
theorem dd_X8_takes_5 : decode cX8_takes 5 = .ok (.if_icmp .ne 18, 3) := by decide +kernel
theorem dd_X8_takes_8 : decode cX8_takes 8 = .ok (.aload_n 0, 1) := by decide +kernel
theorem dd_X8_takes_9 : decode cX8_takes 9 = .ok (.getfield 265, 3) := by decide +kernel
theorem dd_X8_takes_12 : decode cX8_takes 12 = .ok (.i2l, 1) := by decide +kernel
theorem dd_X8_takes_13 : decode cX8_takes 13 = .ok (.iload_n 2, 1) := by decide +kernel
theorem dd_X8_takes_14 : decode cX8_takes 14 = .ok (.i2l, 1) := by decide +kernel
theorem dd_X8_takes_15 : decode cX8_takes 15 = .ok (.iload_n 3, 1) := by decide +kernel
theorem dd_X8_takes_16 : decode cX8_takes 16 = .ok (.i2l, 1) := by decide +kernel
theorem dd_X8_takes_17 : decode cX8_takes 17 = .ok (.invokestatic 54, 3) := by decide +kernel
theorem dd_X8_takes_20 : decode cX8_takes 20 = .ok (.ifCond .ne 5, 3) := by decide +kernel
theorem dd_X8_takes_23 : decode cX8_takes 23 = .ok (.iconst 0, 1) := by decide +kernel
theorem dd_X8_takes_24 : decode cX8_takes 24 = .ok (.ireturn, 1) := by decide +kernel
theorem dd_X8_takes_25 : decode cX8_takes 25 = .ok (.aload_n 0, 1) := by decide +kernel
theorem dd_X8_takes_26 : decode cX8_takes 26 = .ok (.getfield 45, 3) := by decide +kernel
theorem dd_X8_takes_29 : decode cX8_takes 29 = .ok (.iload_n 1, 1) := by decide +kernel
theorem dd_X8_takes_30 : decode cX8_takes 30 = .ok (.aload_n 0, 1) := by decide +kernel
theorem dd_X8_takes_31 : decode cX8_takes 31 = .ok (.getfield 265, 3) := by decide +kernel
theorem dd_X8_takes_34 : decode cX8_takes 34 = .ok (.iastore, 1) := by decide +kernel
theorem dd_X8_takes_35 : decode cX8_takes 35 = .ok (.aload_n 0, 1) := by decide +kernel
theorem dd_X8_takes_36 : decode cX8_takes 36 = .ok (.invokevirtual 277, 3) := by decide +kernel
theorem dd_X8_takes_39 : decode cX8_takes 39 = .ok (.iconst 1, 1) := by decide +kernel
theorem dd_X8_takes_40 : decode cX8_takes 40 = .ok (.ireturn, 1) := by decide +kernel
def tb_X8_takes (kd : Nat → Nat) (K : zK) : zTab := [(0, zt_aload 0 1), (1, zt_getI kd 8 19 4), (4, zt_const (zI 2) 5), (5, zt_icmp (fun x y => ¬ x = y) (fun x y => x = y) 23 8), (8, zt_aload 0 9), (9, zt_getI kd 8 20 12), (12, zt_un (fun x => zL x.toInt64) 13), (13, zt_iload 2 14), (14, zt_un (fun x => zL x.toInt64) 15), (15, zt_iload 3 16), (16, zt_un (fun x => zL x.toInt64) 17), (17, zt_call kd sp_X8_in 3 20), (20, zt_if (fun x => ¬ x = 0) (fun x => x = 0) 25 23), (23, zt_const (zI 0) 24), (24, zt_zret K), (25, zt_aload 0 26), (26, zt_getR kd 8 0 11 29), (29, zt_iload 1 30), (30, zt_aload 0 31), (31, zt_getI kd 8 20 34), (34, zt_ast kd 0 35), (35, zt_aload 0 36), (36, zt_call kd sp_X8_goBehind 1 39), (39, zt_const (zI 1) 40), (40, zt_zret K)]
set_option maxRecDepth 20000 in
theorem tk_X8_takes (d : Nat) (h_X8_in : zMS 1 yX8_in cX8_in 6 (some .boolean) sp_X8_in) (h_X8_goBehind : zMS 4 yX8_goBehind cX8_goBehind 1 none sp_X8_goBehind) : zTrue RX8 cX8_takes 4 (some .boolean) (d + 5) (fun kd K => tb_X8_takes kd K) := by
  intro p l e R s m args below meth c D cy A ad bl Qm K C0 hr hlocks hQ
  obtain ⟨hx, hb, hml, hown, hts, hK, hD, hA0, hN, hE, ⟨hR1, hR2⟩, hc1, hc2⟩ := id C0
  unfold tb_X8_takes
  refine List.forall_mem_cons.mpr ⟨ok_aload_n hx hb rfl dd_X8_takes_0, ?_⟩
  refine List.forall_mem_cons.mpr ⟨ok_getI (j := 19) hx hb hts zi_X8 hown hK zc_X8 (by decide) rfl (fun t fl h => by cases h; rfl) (hts _ wd_859) dd_X8_takes_1, ?_⟩
  refine List.forall_mem_cons.mpr ⟨ok_iconst hx hb dd_X8_takes_4 (by decide), ?_⟩
  refine List.forall_mem_cons.mpr ⟨ok_icmp_ne hx hb dd_X8_takes_5 (by decide), ?_⟩
  refine List.forall_mem_cons.mpr ⟨ok_aload_n hx hb rfl dd_X8_takes_8, ?_⟩
  refine List.forall_mem_cons.mpr ⟨ok_getI (j := 20) hx hb hts zi_X8 hown hK zc_X8 (by decide) rfl (fun t fl h => by cases h; rfl) (hts _ wd_860) dd_X8_takes_9, ?_⟩
  refine List.forall_mem_cons.mpr ⟨ok_i2l hx hb dd_X8_takes_12, ?_⟩
  refine List.forall_mem_cons.mpr ⟨ok_iload_n hx hb rfl dd_X8_takes_13, ?_⟩
  refine List.forall_mem_cons.mpr ⟨ok_i2l hx hb dd_X8_takes_14, ?_⟩
  refine List.forall_mem_cons.mpr ⟨ok_iload_n hx hb rfl dd_X8_takes_15, ?_⟩
  refine List.forall_mem_cons.mpr ⟨ok_i2l hx hb dd_X8_takes_16, ?_⟩
  refine List.forall_mem_cons.mpr ⟨ok_callS (n := 3) C0 (h_X8_in (d + 4) (by omega)) (by decide) wd_928 wd_926 wd_927 wd_107 ⟨by decide +kernel, by decide +kernel, by decide +kernel⟩ dd_X8_takes_17, ?_⟩
  refine List.forall_mem_cons.mpr ⟨ok_if_ne hx hb dd_X8_takes_20 (by decide), ?_⟩
  refine List.forall_mem_cons.mpr ⟨ok_iconst hx hb dd_X8_takes_23 (by decide), ?_⟩
  refine List.forall_mem_cons.mpr ⟨ok_zret hx hb hr hlocks hQ dd_X8_takes_24, ?_⟩
  refine List.forall_mem_cons.mpr ⟨ok_aload_n hx hb rfl dd_X8_takes_25, ?_⟩
  refine List.forall_mem_cons.mpr ⟨ok_getR (j := 22) hx hb hts zi_X8 hown hK zc_X8 (by decide) rfl (fun t fl h => by cases h; rfl) (hts _ wd_862) dd_X8_takes_26, ?_⟩
  refine List.forall_mem_cons.mpr ⟨ok_iload_n hx hb rfl dd_X8_takes_29, ?_⟩
  refine List.forall_mem_cons.mpr ⟨ok_aload_n hx hb rfl dd_X8_takes_30, ?_⟩
  refine List.forall_mem_cons.mpr ⟨ok_getI (j := 20) hx hb hts zi_X8 hown hK zc_X8 (by decide) rfl (fun t fl h => by cases h; rfl) (hts _ wd_860) dd_X8_takes_31, ?_⟩
  refine List.forall_mem_cons.mpr ⟨ok_ast (ty := 0) rfl hx hb hK hD (Or.inl ⟨rfl, rfl, dd_X8_takes_34⟩), ?_⟩
  refine List.forall_mem_cons.mpr ⟨ok_aload_n hx hb rfl dd_X8_takes_35, ?_⟩
  refine List.forall_mem_cons.mpr ⟨ok_callV (n := 0) zc_X8 rv_X8_goBehind C0 (h_X8_goBehind (d + 4) (by omega)) (by decide) wd_1190 wd_1187 wd_1189 wd_90 wd_107 ⟨rfl, by decide +kernel, by decide +kernel, by decide +kernel⟩ dd_X8_takes_36, ?_⟩
  refine List.forall_mem_cons.mpr ⟨ok_iconst hx hb dd_X8_takes_39 (by decide), ?_⟩
  refine List.forall_mem_cons.mpr ⟨ok_zret hx hb hr hlocks hQ dd_X8_takes_40, ?_⟩
  exact fun _ h => absurd h List.not_mem_nil
set_option maxRecDepth 100000 in
theorem vc_X8_takes_0 {kd : Nat → Nat} {K : zK} {X : zX} (hX : ∀ (n pc : Nat) (ls : zLS) (st : List zV) (M : zM), zrun (tb_X8_takes kd K) [] n X pc ls st M → X pc ls st M) {k : Int32} {i : Int32} {n : Int32} {M : zM} (hk0 : kd 9 = 8) (h : ((¬ (M.1 9 0 19) = (2 : Int32)) → K (some (zI ((0 : Int32)))) M) ∧ (((M.1 9 0 19) = (2 : Int32)) → ∀ v1 : Int32, (v1 = zp (i.toInt64.toInt ≤ ((M.1 9 0 20).toInt64).toInt ∧ ((M.1 9 0 20).toInt64).toInt ≤ n.toInt64.toInt)) → ((¬ v1 = 0) → (zin (kd 9) 11 0 k) ∧ ∀ M2 : zM, (M2 = zmw M 9 11 (upd (M.1 9 11) (k).toNatClampNeg (M.1 9 0 20))) → ∃ b3 : List Int, ∃ T3 : Tk, (RpY M2 b3) ∧ (RpT2 (M2.1 9 0) b3 T3) ∧ ∀ f3 : Nat → Int32, (RpT2 f3 b3 (tok b3 T3.2.2.2) ∧ ∀ j9, j9 ≤ 16 → f3 j9 = M2.1 9 0 j9) → ∀ M3 : zM, (M3 = zmw M2 9 0 f3) → K (some (zI ((1 : Int32)))) M3) ∧ ((v1 = 0) → K (some (zI ((0 : Int32)))) M))) : X 0 [some (zR 9 0), some (zI (k)), some (zI (i)), some (zI (n))] [] M := hX 24 0 _ [] M (show (kd 9 = 8) ∧ ((¬ (M.1 9 0 19) = (2 : Int32)) → ((0 : Int32) = 0 ∨ (0 : Int32) = 1) ∧ K (some (zI ((0 : Int32)))) M) ∧ (((M.1 9 0 19) = (2 : Int32)) → (kd 9 = 8) ∧ ∀ v1 : Int32, (v1 = zp (i.toInt64.toInt ≤ ((M.1 9 0 20).toInt64).toInt ∧ ((M.1 9 0 20).toInt64).toInt ≤ n.toInt64.toInt)) → ((¬ v1 = 0) → (kd 9 = 8) ∧ (kd 9 = 8) ∧ (zin (kd 9) 11 0 k) ∧ ∀ M2 : zM, (M2 = zmw M 9 11 (upd (M.1 9 11) (k).toNatClampNeg (M.1 9 0 20))) → (kd 9 = 8) ∧ ∃ b3 : List Int, ∃ T3 : Tk, (RpY M2 b3) ∧ (RpT2 (M2.1 9 0) b3 T3) ∧ ∀ f3 : Nat → Int32, (RpT2 f3 b3 (tok b3 T3.2.2.2) ∧ ∀ j9, j9 ≤ 16 → f3 j9 = M2.1 9 0 j9) → ∀ M3 : zM, (M3 = zmw M2 9 0 f3) → ((1 : Int32) = 0 ∨ (1 : Int32) = 1) ∧ K (some (zI ((1 : Int32)))) M3) ∧ ((v1 = 0) → ((0 : Int32) = 0 ∨ (0 : Int32) = 1) ∧ K (some (zI ((0 : Int32)))) M)) from ⟨hk0, ⟨fun q => have h := h.1 q; ⟨(Or.inl rfl), h⟩, fun q => have h := h.2 q; ⟨hk0, fun v1 => have h := h v1; fun q => have h := h q; ⟨fun q => have h := h.1 q; ⟨hk0, ⟨hk0, ⟨h.1, have h := h.2; fun M2 => have h := h M2; fun q => have h := h q; ⟨hk0, h.elim (fun b3 h => ⟨b3, h.elim (fun T3 h => ⟨T3, ⟨h.1, have h := h.2; ⟨h.1, have h := h.2; fun f3 => have h := h f3; fun q => have h := h q; fun M3 => have h := h M3; fun q => have h := h q; ⟨(Or.inr rfl), h⟩⟩⟩⟩)⟩)⟩⟩⟩⟩, fun q => have h := h.2 q; ⟨(Or.inl rfl), h⟩⟩⟩⟩⟩)
def sp_X8_takesYears : zSpec := fun kd as M K => match as with
  | [.inr (.inr (.inl (9, 0)))] => (kd 9 = 8) ∧ ∃ b : List Int, ∃ T : Tk, (RpY M b) ∧ (RpT2 (M.1 9 0) b T) ∧ ∃ a : Sk, (RpF (M.1 9 10) a) ∧ ∀ v : Int32, (v = zp ((rdYr b T a).1 = true)) → ∀ M' : zM, (rdQ M M' b (rdYr b T a)) → K (some (.inl v)) M'
  | _ => False
theorem rv_X8_takesYears : zrv sp_X8_takesYears 8 0 := by
  intro kd as M K h
  unfold sp_X8_takesYears at h
  split at h
  · exact ⟨_, _, rfl, h.1⟩
  · exact h.elim
theorem dd_X8_takesYears_0 : decode cX8_takesYears 0 = .ok (.aload_n 0, 1) := by decide +kernel
theorem dd_X8_takesYears_1 : decode cX8_takesYears 1 = .ok (.invokevirtual 277, 3) := by decide +kernel
theorem dd_X8_takesYears_4 : decode cX8_takesYears 4 = .ok (.aload_n 0, 1) := by decide +kernel
theorem dd_X8_takesYears_5 : decode cX8_takesYears 5 = .ok (.iconst 0, 1) := by decide +kernel
theorem dd_X8_takesYears_6 : decode cX8_takesYears 6 = .ok (.iconst 1, 1) := by decide +kernel
theorem dd_X8_takesYears_7 : decode cX8_takesYears 7 = .ok (.bipush 99, 2) := by decide +kernel
theorem dd_X8_takesYears_9 : decode cX8_takesYears 9 = .ok (.invokevirtual 280, 3) := by decide +kernel
theorem dd_X8_takesYears_12 : decode cX8_takesYears 12 = .ok (.ifCond .ne 5, 3) := by decide +kernel
theorem dd_X8_takesYears_15 : decode cX8_takesYears 15 = .ok (.iconst 0, 1) := by decide +kernel
theorem dd_X8_takesYears_16 : decode cX8_takesYears 16 = .ok (.ireturn, 1) := by decide +kernel
theorem dd_X8_takesYears_17 : decode cX8_takesYears 17 = .ok (.aload_n 0, 1) := by decide +kernel
theorem dd_X8_takesYears_18 : decode cX8_takesYears 18 = .ok (.getfield 42, 3) := by decide +kernel
theorem dd_X8_takesYears_21 : decode cX8_takesYears 21 = .ok (.aload_n 0, 1) := by decide +kernel
theorem dd_X8_takesYears_22 : decode cX8_takesYears 22 = .ok (.getfield 45, 3) := by decide +kernel
theorem dd_X8_takesYears_25 : decode cX8_takesYears 25 = .ok (.iconst 0, 1) := by decide +kernel
theorem dd_X8_takesYears_26 : decode cX8_takesYears 26 = .ok (.iaload, 1) := by decide +kernel
theorem dd_X8_takesYears_27 : decode cX8_takesYears 27 = .ok (.invokestatic 105, 3) := by decide +kernel
theorem dd_X8_takesYears_30 : decode cX8_takesYears 30 = .ok (.iconst 1, 1) := by decide +kernel
theorem dd_X8_takesYears_31 : decode cX8_takesYears 31 = .ok (.ireturn, 1) := by decide +kernel
def tb_X8_takesYears (kd : Nat → Nat) (K : zK) : zTab := [(0, zt_aload 0 1), (1, zt_call kd sp_X8_goBehind 1 4), (4, zt_aload 0 5), (5, zt_const (zI 0) 6), (6, zt_const (zI 1) 7), (7, zt_const (zI 99) 9), (9, zt_call kd sp_X8_takes 4 12), (12, zt_if (fun x => ¬ x = 0) (fun x => x = 0) 17 15), (15, zt_const (zI 0) 16), (16, zt_zret K), (17, zt_aload 0 18), (18, zt_getR kd 8 0 10 21), (21, zt_aload 0 22), (22, zt_getR kd 8 0 11 25), (25, zt_const (zI 0) 26), (26, zt_ald kd 0 27), (27, zt_call kd sp_X8_goYears 2 30), (30, zt_const (zI 1) 31), (31, zt_zret K)]
set_option maxRecDepth 20000 in
theorem tk_X8_takesYears (d : Nat) (h_X8_goBehind : zMS 4 yX8_goBehind cX8_goBehind 1 none sp_X8_goBehind) (h_X8_takes : zMS 5 yX8_takes cX8_takes 4 (some .boolean) sp_X8_takes) (h_X8_goYears : zMS 1 yX8_goYears cX8_goYears 2 none sp_X8_goYears) : zTrue RX8 cX8_takesYears 1 (some .boolean) (d + 6) (fun kd K => tb_X8_takesYears kd K) := by
  intro p l e R s m args below meth c D cy A ad bl Qm K C0 hr hlocks hQ
  obtain ⟨hx, hb, hml, hown, hts, hK, hD, hA0, hN, hE, ⟨hR1, hR2⟩, hc1, hc2⟩ := id C0
  unfold tb_X8_takesYears
  refine List.forall_mem_cons.mpr ⟨ok_aload_n hx hb rfl dd_X8_takesYears_0, ?_⟩
  refine List.forall_mem_cons.mpr ⟨ok_callV (n := 0) zc_X8 rv_X8_goBehind C0 (h_X8_goBehind (d + 5) (by omega)) (by decide) wd_1190 wd_1187 wd_1189 wd_90 wd_107 ⟨rfl, by decide +kernel, by decide +kernel, by decide +kernel⟩ dd_X8_takesYears_1, ?_⟩
  refine List.forall_mem_cons.mpr ⟨ok_aload_n hx hb rfl dd_X8_takesYears_4, ?_⟩
  refine List.forall_mem_cons.mpr ⟨ok_iconst hx hb dd_X8_takesYears_5 (by decide), ?_⟩
  refine List.forall_mem_cons.mpr ⟨ok_iconst hx hb dd_X8_takesYears_6 (by decide), ?_⟩
  refine List.forall_mem_cons.mpr ⟨ok_bipush hx hb dd_X8_takesYears_7 (by decide), ?_⟩
  refine List.forall_mem_cons.mpr ⟨ok_callV (n := 3) zc_X8 rv_X8_takes C0 (h_X8_takes (d + 5) (by omega)) (by decide) wd_1202 wd_1199 wd_1201 wd_93 wd_107 ⟨rfl, by decide +kernel, by decide +kernel, by decide +kernel⟩ dd_X8_takesYears_9, ?_⟩
  refine List.forall_mem_cons.mpr ⟨ok_if_ne hx hb dd_X8_takesYears_12 (by decide), ?_⟩
  refine List.forall_mem_cons.mpr ⟨ok_iconst hx hb dd_X8_takesYears_15 (by decide), ?_⟩
  refine List.forall_mem_cons.mpr ⟨ok_zret hx hb hr hlocks hQ dd_X8_takesYears_16, ?_⟩
  refine List.forall_mem_cons.mpr ⟨ok_aload_n hx hb rfl dd_X8_takesYears_17, ?_⟩
  refine List.forall_mem_cons.mpr ⟨ok_getR (j := 21) hx hb hts zi_X8 hown hK zc_X8 (by decide) rfl (fun t fl h => by cases h; rfl) (hts _ wd_861) dd_X8_takesYears_18, ?_⟩
  refine List.forall_mem_cons.mpr ⟨ok_aload_n hx hb rfl dd_X8_takesYears_21, ?_⟩
  refine List.forall_mem_cons.mpr ⟨ok_getR (j := 22) hx hb hts zi_X8 hown hK zc_X8 (by decide) rfl (fun t fl h => by cases h; rfl) (hts _ wd_862) dd_X8_takesYears_22, ?_⟩
  refine List.forall_mem_cons.mpr ⟨ok_iconst hx hb dd_X8_takesYears_25 (by decide), ?_⟩
  refine List.forall_mem_cons.mpr ⟨ok_ald (ty := 0) rfl hx hb hK (Or.inl ⟨rfl, rfl, dd_X8_takesYears_26⟩), ?_⟩
  refine List.forall_mem_cons.mpr ⟨ok_callS (n := 2) C0 (h_X8_goYears (d + 5) (by omega)) (by decide) wd_972 wd_970 wd_971 wd_107 ⟨by decide +kernel, by decide +kernel, by decide +kernel⟩ dd_X8_takesYears_27, ?_⟩
  refine List.forall_mem_cons.mpr ⟨ok_iconst hx hb dd_X8_takesYears_30 (by decide), ?_⟩
  refine List.forall_mem_cons.mpr ⟨ok_zret hx hb hr hlocks hQ dd_X8_takesYears_31, ?_⟩
  exact fun _ h => absurd h List.not_mem_nil
set_option maxRecDepth 100000 in
theorem vc_X8_takesYears_0 {kd : Nat → Nat} {K : zK} {X : zX} (hX : ∀ (n pc : Nat) (ls : zLS) (st : List zV) (M : zM), zrun (tb_X8_takesYears kd K) [] n X pc ls st M → X pc ls st M)  {M : zM} (hk0 : kd 9 = 8) (h : ∃ b1 : List Int, ∃ T1 : Tk, (RpY M b1) ∧ (RpT2 (M.1 9 0) b1 T1) ∧ ∀ f1 : Nat → Int32, (RpT2 f1 b1 (tok b1 T1.2.2.2) ∧ ∀ j9, j9 ≤ 16 → f1 j9 = M.1 9 0 j9) → ∀ M1 : zM, (M1 = zmw M 9 0 f1) → ∃ b2 : List Int, ∃ T2 : Tk, (RpY M1 b2) ∧ (RpT2 (M1.1 9 0) b2 T2) ∧ (0 ≤ (0 : Int32).toInt ∧ (0 : Int32).toInt < 4) ∧ ∀ v2 : Int32, (v2 = zp (numIs T2 (1 : Int32).toInt (99 : Int32).toInt = true)) → ∀ M2 : zM, (tkP M1 M2 b2 T2 (0 : Int32).toInt.toNat (1 : Int32).toInt (99 : Int32).toInt) → ((¬ v2 = 0) → (zin (kd 9) 11 0 (0 : Int32)) ∧ (10 = 1 ∨ 10 = 5 ∨ 10 = 10) ∧ ∃ a3 : Sk, (RpF (M2.1 9 10) a3) ∧ (0 ≤ (M2.1 9 11 ((0 : Int32)).toNatClampNeg).toInt ∧ (M2.1 9 11 ((0 : Int32)).toNatClampNeg).toInt ≤ 99) ∧ ∀ f3 : Nat → Int32, (RpF f3 (sk_yr a3 (M2.1 9 11 ((0 : Int32)).toNatClampNeg).toInt)) → (∀ j9, 127 ≤ j9 → f3 j9 = M2.1 9 10 j9) → ∀ M3 : zM, (M3 = zmw M2 9 10 f3) → K (some (zI ((1 : Int32)))) M3) ∧ ((v2 = 0) → K (some (zI ((0 : Int32)))) M2)) : X 0 [some (zR 9 0)] [] M := hX 18 0 _ [] M (show (kd 9 = 8) ∧ ∃ b1 : List Int, ∃ T1 : Tk, (RpY M b1) ∧ (RpT2 (M.1 9 0) b1 T1) ∧ ∀ f1 : Nat → Int32, (RpT2 f1 b1 (tok b1 T1.2.2.2) ∧ ∀ j9, j9 ≤ 16 → f1 j9 = M.1 9 0 j9) → ∀ M1 : zM, (M1 = zmw M 9 0 f1) → (kd 9 = 8) ∧ ∃ b2 : List Int, ∃ T2 : Tk, (RpY M1 b2) ∧ (RpT2 (M1.1 9 0) b2 T2) ∧ (0 ≤ (0 : Int32).toInt ∧ (0 : Int32).toInt < 4) ∧ ∀ v2 : Int32, (v2 = zp (numIs T2 (1 : Int32).toInt (99 : Int32).toInt = true)) → ∀ M2 : zM, (tkP M1 M2 b2 T2 (0 : Int32).toInt.toNat (1 : Int32).toInt (99 : Int32).toInt) → ((¬ v2 = 0) → (kd 9 = 8) ∧ (kd 9 = 8) ∧ (zin (kd 9) 11 0 (0 : Int32)) ∧ (kd 9 = 8) ∧ (10 = 1 ∨ 10 = 5 ∨ 10 = 10) ∧ ∃ a3 : Sk, (RpF (M2.1 9 10) a3) ∧ (0 ≤ (M2.1 9 11 ((0 : Int32)).toNatClampNeg).toInt ∧ (M2.1 9 11 ((0 : Int32)).toNatClampNeg).toInt ≤ 99) ∧ ∀ f3 : Nat → Int32, (RpF f3 (sk_yr a3 (M2.1 9 11 ((0 : Int32)).toNatClampNeg).toInt)) → (∀ j9, 127 ≤ j9 → f3 j9 = M2.1 9 10 j9) → ∀ M3 : zM, (M3 = zmw M2 9 10 f3) → ((1 : Int32) = 0 ∨ (1 : Int32) = 1) ∧ K (some (zI ((1 : Int32)))) M3) ∧ ((v2 = 0) → ((0 : Int32) = 0 ∨ (0 : Int32) = 1) ∧ K (some (zI ((0 : Int32)))) M2) from ⟨hk0, h.elim (fun b1 h => ⟨b1, h.elim (fun T1 h => ⟨T1, ⟨h.1, have h := h.2; ⟨h.1, have h := h.2; fun f1 => have h := h f1; fun q => have h := h q; fun M1 => have h := h M1; fun q => have h := h q; ⟨hk0, h.elim (fun b2 h => ⟨b2, h.elim (fun T2 h => ⟨T2, ⟨h.1, have h := h.2; ⟨h.1, have h := h.2; ⟨h.1, have h := h.2; fun v2 => have h := h v2; fun q => have h := h q; fun M2 => have h := h M2; fun q => have h := h q; ⟨fun q => have h := h.1 q; ⟨hk0, ⟨hk0, ⟨h.1, have h := h.2; ⟨hk0, ⟨h.1, have h := h.2; h.elim (fun a3 h => ⟨a3, ⟨h.1, have h := h.2; ⟨h.1, have h := h.2; fun f3 => have h := h f3; fun q => have h := h q; fun q => have h := h q; fun M3 => have h := h M3; fun q => have h := h q; ⟨(Or.inr rfl), h⟩⟩⟩⟩)⟩⟩⟩⟩⟩, fun q => have h := h.2 q; ⟨(Or.inl rfl), h⟩⟩⟩⟩⟩⟩)⟩)⟩⟩⟩⟩)⟩)⟩)
def sp_X8_takesRub : zSpec := fun kd as M K => match as with
  | [.inr (.inr (.inl (9, 0)))] => (kd 9 = 8) ∧ ∃ b : List Int, ∃ T : Tk, (RpY M b) ∧ (RpT2 (M.1 9 0) b T) ∧ ∃ a : Sk, (RpF (M.1 9 10) a) ∧ ∀ v : Int32, (v = zp ((rdRb b T a).1 = true)) → ∀ M' : zM, (rdQ M M' b (rdRb b T a)) → K (some (.inl v)) M'
  | _ => False
theorem rv_X8_takesRub : zrv sp_X8_takesRub 8 0 := by
  intro kd as M K h
  unfold sp_X8_takesRub at h
  split at h
  · exact ⟨_, _, rfl, h.1⟩
  · exact h.elim
theorem dd_X8_takesRub_0 : decode cX8_takesRub 0 = .ok (.aload_n 0, 1) := by decide +kernel
theorem dd_X8_takesRub_1 : decode cX8_takesRub 1 = .ok (.invokevirtual 277, 3) := by decide +kernel
theorem dd_X8_takesRub_4 : decode cX8_takesRub 4 = .ok (.aload_n 0, 1) := by decide +kernel
theorem dd_X8_takesRub_5 : decode cX8_takesRub 5 = .ok (.getfield 262, 3) := by decide +kernel
theorem dd_X8_takesRub_8 : decode cX8_takesRub 8 = .ok (.iconst 2, 1) := by decide +kernel
theorem dd_X8_takesRub_9 : decode cX8_takesRub 9 = .ok (.if_icmp .ne 37, 3) := by decide +kernel
theorem dd_X8_takesRub_12 : decode cX8_takesRub 12 = .ok (.aload_n 0, 1) := by decide +kernel
theorem dd_X8_takesRub_13 : decode cX8_takesRub 13 = .ok (.getfield 265, 3) := by decide +kernel
theorem dd_X8_takesRub_16 : decode cX8_takesRub 16 = .ok (.invokestatic 74, 3) := by decide +kernel
theorem dd_X8_takesRub_19 : decode cX8_takesRub 19 = .ok (.ifCond .eq 27, 3) := by decide +kernel
theorem dd_X8_takesRub_22 : decode cX8_takesRub 22 = .ok (.aload_n 0, 1) := by decide +kernel
theorem dd_X8_takesRub_23 : decode cX8_takesRub 23 = .ok (.getfield 42, 3) := by decide +kernel
theorem dd_X8_takesRub_26 : decode cX8_takesRub 26 = .ok (.aload_n 0, 1) := by decide +kernel
theorem dd_X8_takesRub_27 : decode cX8_takesRub 27 = .ok (.getfield 265, 3) := by decide +kernel
theorem dd_X8_takesRub_30 : decode cX8_takesRub 30 = .ok (.invokestatic 66, 3) := by decide +kernel
theorem dd_X8_takesRub_33 : decode cX8_takesRub 33 = .ok (.ifCond .eq 13, 3) := by decide +kernel
theorem dd_X8_takesRub_36 : decode cX8_takesRub 36 = .ok (.aload_n 0, 1) := by decide +kernel
theorem dd_X8_takesRub_37 : decode cX8_takesRub 37 = .ok (.iconst 0, 1) := by decide +kernel
theorem dd_X8_takesRub_38 : decode cX8_takesRub 38 = .ok (.iconst 0, 1) := by decide +kernel
theorem dd_X8_takesRub_39 : decode cX8_takesRub 39 = .ok (.iconst 5, 1) := by decide +kernel
theorem dd_X8_takesRub_40 : decode cX8_takesRub 40 = .ok (.invokevirtual 280, 3) := by decide +kernel
theorem dd_X8_takesRub_43 : decode cX8_takesRub 43 = .ok (.ifCond .ne 5, 3) := by decide +kernel
theorem dd_X8_takesRub_46 : decode cX8_takesRub 46 = .ok (.iconst 0, 1) := by decide +kernel
theorem dd_X8_takesRub_47 : decode cX8_takesRub 47 = .ok (.ireturn, 1) := by decide +kernel
theorem dd_X8_takesRub_48 : decode cX8_takesRub 48 = .ok (.aload_n 0, 1) := by decide +kernel
theorem dd_X8_takesRub_49 : decode cX8_takesRub 49 = .ok (.getfield 42, 3) := by decide +kernel
theorem dd_X8_takesRub_52 : decode cX8_takesRub 52 = .ok (.aload_n 0, 1) := by decide +kernel
theorem dd_X8_takesRub_53 : decode cX8_takesRub 53 = .ok (.getfield 45, 3) := by decide +kernel
theorem dd_X8_takesRub_56 : decode cX8_takesRub 56 = .ok (.iconst 0, 1) := by decide +kernel
theorem dd_X8_takesRub_57 : decode cX8_takesRub 57 = .ok (.iaload, 1) := by decide +kernel
theorem dd_X8_takesRub_58 : decode cX8_takesRub 58 = .ok (.invokestatic 99, 3) := by decide +kernel
theorem dd_X8_takesRub_61 : decode cX8_takesRub 61 = .ok (.ifCond .lt 7, 3) := by decide +kernel
theorem dd_X8_takesRub_64 : decode cX8_takesRub 64 = .ok (.iconst 1, 1) := by decide +kernel
theorem dd_X8_takesRub_65 : decode cX8_takesRub 65 = .ok (.goto 4, 3) := by decide +kernel
theorem dd_X8_takesRub_68 : decode cX8_takesRub 68 = .ok (.iconst 0, 1) := by decide +kernel
theorem dd_X8_takesRub_69 : decode cX8_takesRub 69 = .ok (.ireturn, 1) := by decide +kernel
def tb_X8_takesRub (kd : Nat → Nat) (K : zK) : zTab := [(0, zt_aload 0 1), (1, zt_call kd sp_X8_goBehind 1 4), (4, zt_aload 0 5), (5, zt_getI kd 8 19 8), (8, zt_const (zI 2) 9), (9, zt_icmp (fun x y => ¬ x = y) (fun x y => x = y) 46 12), (12, zt_aload 0 13), (13, zt_getI kd 8 20 16), (16, zt_call kd sp_X8_isCell 1 19), (19, zt_if (fun x => x = 0) (fun x => ¬ x = 0) 46 22), (22, zt_aload 0 23), (23, zt_getR kd 8 0 10 26), (26, zt_aload 0 27), (27, zt_getI kd 8 20 30), (30, zt_call kd sp_X8_mayRub 2 33), (33, zt_if (fun x => x = 0) (fun x => ¬ x = 0) 46 36), (36, zt_aload 0 37), (37, zt_const (zI 0) 38), (38, zt_const (zI 0) 39), (39, zt_const (zI 5) 40), (40, zt_call kd sp_X8_takes 4 43), (43, zt_if (fun x => ¬ x = 0) (fun x => x = 0) 48 46), (46, zt_const (zI 0) 47), (47, zt_zret K), (48, zt_aload 0 49), (49, zt_getR kd 8 0 10 52), (52, zt_aload 0 53), (53, zt_getR kd 8 0 11 56), (56, zt_const (zI 0) 57), (57, zt_ald kd 0 58), (58, zt_call kd sp_X8_goRub 2 61), (61, zt_if (fun x => x < 0) (fun x => ¬ x < 0) 68 64), (64, zt_const (zI 1) 65), (65, zt_goto 69), (68, zt_const (zI 0) 69), (69, zt_zret K)]
set_option maxRecDepth 20000 in
theorem tk_X8_takesRub (d : Nat) (h_X8_goBehind : zMS 4 yX8_goBehind cX8_goBehind 1 none sp_X8_goBehind) (h_X8_isCell : zMS 2 yX8_isCell cX8_isCell 1 (some .boolean) sp_X8_isCell) (h_X8_mayRub : zMS 2 yX8_mayRub cX8_mayRub 2 (some .boolean) sp_X8_mayRub) (h_X8_takes : zMS 5 yX8_takes cX8_takes 4 (some .boolean) sp_X8_takes) (h_X8_goRub : zMS 2 yX8_goRub cX8_goRub 3 (some .int) sp_X8_goRub) : zTrue RX8 cX8_takesRub 1 (some .boolean) (d + 6) (fun kd K => tb_X8_takesRub kd K) := by
  intro p l e R s m args below meth c D cy A ad bl Qm K C0 hr hlocks hQ
  obtain ⟨hx, hb, hml, hown, hts, hK, hD, hA0, hN, hE, ⟨hR1, hR2⟩, hc1, hc2⟩ := id C0
  unfold tb_X8_takesRub
  refine List.forall_mem_cons.mpr ⟨ok_aload_n hx hb rfl dd_X8_takesRub_0, ?_⟩
  refine List.forall_mem_cons.mpr ⟨ok_callV (n := 0) zc_X8 rv_X8_goBehind C0 (h_X8_goBehind (d + 5) (by omega)) (by decide) wd_1190 wd_1187 wd_1189 wd_90 wd_107 ⟨rfl, by decide +kernel, by decide +kernel, by decide +kernel⟩ dd_X8_takesRub_1, ?_⟩
  refine List.forall_mem_cons.mpr ⟨ok_aload_n hx hb rfl dd_X8_takesRub_4, ?_⟩
  refine List.forall_mem_cons.mpr ⟨ok_getI (j := 19) hx hb hts zi_X8 hown hK zc_X8 (by decide) rfl (fun t fl h => by cases h; rfl) (hts _ wd_859) dd_X8_takesRub_5, ?_⟩
  refine List.forall_mem_cons.mpr ⟨ok_iconst hx hb dd_X8_takesRub_8 (by decide), ?_⟩
  refine List.forall_mem_cons.mpr ⟨ok_icmp_ne hx hb dd_X8_takesRub_9 (by decide), ?_⟩
  refine List.forall_mem_cons.mpr ⟨ok_aload_n hx hb rfl dd_X8_takesRub_12, ?_⟩
  refine List.forall_mem_cons.mpr ⟨ok_getI (j := 20) hx hb hts zi_X8 hown hK zc_X8 (by decide) rfl (fun t fl h => by cases h; rfl) (hts _ wd_860) dd_X8_takesRub_13, ?_⟩
  refine List.forall_mem_cons.mpr ⟨ok_callS (n := 1) C0 (h_X8_isCell (d + 5) (by omega)) (by decide) wd_924 wd_922 wd_923 wd_107 ⟨by decide +kernel, by decide +kernel, by decide +kernel⟩ dd_X8_takesRub_16, ?_⟩
  refine List.forall_mem_cons.mpr ⟨ok_if_eq hx hb dd_X8_takesRub_19 (by decide), ?_⟩
  refine List.forall_mem_cons.mpr ⟨ok_aload_n hx hb rfl dd_X8_takesRub_22, ?_⟩
  refine List.forall_mem_cons.mpr ⟨ok_getR (j := 21) hx hb hts zi_X8 hown hK zc_X8 (by decide) rfl (fun t fl h => by cases h; rfl) (hts _ wd_861) dd_X8_takesRub_23, ?_⟩
  refine List.forall_mem_cons.mpr ⟨ok_aload_n hx hb rfl dd_X8_takesRub_26, ?_⟩
  refine List.forall_mem_cons.mpr ⟨ok_getI (j := 20) hx hb hts zi_X8 hown hK zc_X8 (by decide) rfl (fun t fl h => by cases h; rfl) (hts _ wd_860) dd_X8_takesRub_27, ?_⟩
  refine List.forall_mem_cons.mpr ⟨ok_callS (n := 2) C0 (h_X8_mayRub (d + 5) (by omega)) (by decide) wd_939 wd_937 wd_938 wd_107 ⟨by decide +kernel, by decide +kernel, by decide +kernel⟩ dd_X8_takesRub_30, ?_⟩
  refine List.forall_mem_cons.mpr ⟨ok_if_eq hx hb dd_X8_takesRub_33 (by decide), ?_⟩
  refine List.forall_mem_cons.mpr ⟨ok_aload_n hx hb rfl dd_X8_takesRub_36, ?_⟩
  refine List.forall_mem_cons.mpr ⟨ok_iconst hx hb dd_X8_takesRub_37 (by decide), ?_⟩
  refine List.forall_mem_cons.mpr ⟨ok_iconst hx hb dd_X8_takesRub_38 (by decide), ?_⟩
  refine List.forall_mem_cons.mpr ⟨ok_iconst hx hb dd_X8_takesRub_39 (by decide), ?_⟩
  refine List.forall_mem_cons.mpr ⟨ok_callV (n := 3) zc_X8 rv_X8_takes C0 (h_X8_takes (d + 5) (by omega)) (by decide) wd_1202 wd_1199 wd_1201 wd_93 wd_107 ⟨rfl, by decide +kernel, by decide +kernel, by decide +kernel⟩ dd_X8_takesRub_40, ?_⟩
  refine List.forall_mem_cons.mpr ⟨ok_if_ne hx hb dd_X8_takesRub_43 (by decide), ?_⟩
  refine List.forall_mem_cons.mpr ⟨ok_iconst hx hb dd_X8_takesRub_46 (by decide), ?_⟩
  refine List.forall_mem_cons.mpr ⟨ok_zret hx hb hr hlocks hQ dd_X8_takesRub_47, ?_⟩
  refine List.forall_mem_cons.mpr ⟨ok_aload_n hx hb rfl dd_X8_takesRub_48, ?_⟩
  refine List.forall_mem_cons.mpr ⟨ok_getR (j := 21) hx hb hts zi_X8 hown hK zc_X8 (by decide) rfl (fun t fl h => by cases h; rfl) (hts _ wd_861) dd_X8_takesRub_49, ?_⟩
  refine List.forall_mem_cons.mpr ⟨ok_aload_n hx hb rfl dd_X8_takesRub_52, ?_⟩
  refine List.forall_mem_cons.mpr ⟨ok_getR (j := 22) hx hb hts zi_X8 hown hK zc_X8 (by decide) rfl (fun t fl h => by cases h; rfl) (hts _ wd_862) dd_X8_takesRub_53, ?_⟩
  refine List.forall_mem_cons.mpr ⟨ok_iconst hx hb dd_X8_takesRub_56 (by decide), ?_⟩
  refine List.forall_mem_cons.mpr ⟨ok_ald (ty := 0) rfl hx hb hK (Or.inl ⟨rfl, rfl, dd_X8_takesRub_57⟩), ?_⟩
  refine List.forall_mem_cons.mpr ⟨ok_callS (n := 2) C0 (h_X8_goRub (d + 5) (by omega)) (by decide) wd_964 wd_962 wd_963 wd_107 ⟨by decide +kernel, by decide +kernel, by decide +kernel⟩ dd_X8_takesRub_58, ?_⟩
  refine List.forall_mem_cons.mpr ⟨ok_if_lt hx hb dd_X8_takesRub_61 (by decide), ?_⟩
  refine List.forall_mem_cons.mpr ⟨ok_iconst hx hb dd_X8_takesRub_64 (by decide), ?_⟩
  refine List.forall_mem_cons.mpr ⟨ok_goto hx hb dd_X8_takesRub_65 (by decide), ?_⟩
  refine List.forall_mem_cons.mpr ⟨ok_iconst hx hb dd_X8_takesRub_68 (by decide), ?_⟩
  refine List.forall_mem_cons.mpr ⟨ok_zret hx hb hr hlocks hQ dd_X8_takesRub_69, ?_⟩
  exact fun _ h => absurd h List.not_mem_nil
set_option maxRecDepth 100000 in
theorem vc_X8_takesRub_0 {kd : Nat → Nat} {K : zK} {X : zX} (hX : ∀ (n pc : Nat) (ls : zLS) (st : List zV) (M : zM), zrun (tb_X8_takesRub kd K) [] n X pc ls st M → X pc ls st M)  {M : zM} (hk0 : kd 9 = 8) (h : ∃ b1 : List Int, ∃ T1 : Tk, (RpY M b1) ∧ (RpT2 (M.1 9 0) b1 T1) ∧ ∀ f1 : Nat → Int32, (RpT2 f1 b1 (tok b1 T1.2.2.2) ∧ ∀ j9, j9 ≤ 16 → f1 j9 = M.1 9 0 j9) → ∀ M1 : zM, (M1 = zmw M 9 0 f1) → ((¬ (M1.1 9 0 19) = (2 : Int32)) → K (some (zI ((0 : Int32)))) M1) ∧ (((M1.1 9 0 19) = (2 : Int32)) → ∀ v2 : Int32, (v2 = zp (isC (M1.1 9 0 20).toInt)) → ((v2 = 0) → K (some (zI ((0 : Int32)))) M1) ∧ ((¬ v2 = 0) → (10 = 1 ∨ 10 = 5 ∨ 10 = 10) ∧ ∃ a3 : Sk, (RpF (M1.1 9 10) a3) ∧ (isC (M1.1 9 0 20).toInt) ∧ ∀ v3 : Int32, (v3 = zp (sk_canR a3 (M1.1 9 0 20).toInt = true)) → ((v3 = 0) → K (some (zI ((0 : Int32)))) M1) ∧ ((¬ v3 = 0) → ∃ b4 : List Int, ∃ T4 : Tk, (RpY M1 b4) ∧ (RpT2 (M1.1 9 0) b4 T4) ∧ (0 ≤ (0 : Int32).toInt ∧ (0 : Int32).toInt < 4) ∧ ∀ v4 : Int32, (v4 = zp (numIs T4 (0 : Int32).toInt (5 : Int32).toInt = true)) → ∀ M4 : zM, (tkP M1 M4 b4 T4 (0 : Int32).toInt.toNat (0 : Int32).toInt (5 : Int32).toInt) → ((¬ v4 = 0) → (zin (kd 9) 11 0 (0 : Int32)) ∧ (10 = 1 ∨ 10 = 5 ∨ 10 = 10) ∧ ∃ a5 : Sk, (RpF (M4.1 9 10) a5) ∧ ∃ l5 : Ly, (sk_top a5 (M4.1 9 11 ((0 : Int32)).toNatClampNeg).toInt = some l5) ∧ ∀ v5 : Int32, (v5.toInt = a5.2 - l5.2.2.2.1) → ∀ f5 : Nat → Int32, (RpF f5 (sk_rub a5 (M4.1 9 11 ((0 : Int32)).toNatClampNeg).toInt)) → (∀ j9, 127 ≤ j9 → f5 j9 = M4.1 9 10 j9) → ∀ M5 : zM, (M5 = zmw M4 9 10 f5) → ((v5 < 0) → K (some (zI ((0 : Int32)))) M5) ∧ ((¬ v5 < 0) → K (some (zI ((1 : Int32)))) M5)) ∧ ((v4 = 0) → K (some (zI ((0 : Int32)))) M4))))) : X 0 [some (zR 9 0)] [] M := hX 34 0 _ [] M (show (kd 9 = 8) ∧ ∃ b1 : List Int, ∃ T1 : Tk, (RpY M b1) ∧ (RpT2 (M.1 9 0) b1 T1) ∧ ∀ f1 : Nat → Int32, (RpT2 f1 b1 (tok b1 T1.2.2.2) ∧ ∀ j9, j9 ≤ 16 → f1 j9 = M.1 9 0 j9) → ∀ M1 : zM, (M1 = zmw M 9 0 f1) → (kd 9 = 8) ∧ ((¬ (M1.1 9 0 19) = (2 : Int32)) → ((0 : Int32) = 0 ∨ (0 : Int32) = 1) ∧ K (some (zI ((0 : Int32)))) M1) ∧ (((M1.1 9 0 19) = (2 : Int32)) → (kd 9 = 8) ∧ ∀ v2 : Int32, (v2 = zp (isC (M1.1 9 0 20).toInt)) → ((v2 = 0) → ((0 : Int32) = 0 ∨ (0 : Int32) = 1) ∧ K (some (zI ((0 : Int32)))) M1) ∧ ((¬ v2 = 0) → (kd 9 = 8) ∧ (kd 9 = 8) ∧ (kd 9 = 8) ∧ (10 = 1 ∨ 10 = 5 ∨ 10 = 10) ∧ ∃ a3 : Sk, (RpF (M1.1 9 10) a3) ∧ (isC (M1.1 9 0 20).toInt) ∧ ∀ v3 : Int32, (v3 = zp (sk_canR a3 (M1.1 9 0 20).toInt = true)) → ((v3 = 0) → ((0 : Int32) = 0 ∨ (0 : Int32) = 1) ∧ K (some (zI ((0 : Int32)))) M1) ∧ ((¬ v3 = 0) → (kd 9 = 8) ∧ ∃ b4 : List Int, ∃ T4 : Tk, (RpY M1 b4) ∧ (RpT2 (M1.1 9 0) b4 T4) ∧ (0 ≤ (0 : Int32).toInt ∧ (0 : Int32).toInt < 4) ∧ ∀ v4 : Int32, (v4 = zp (numIs T4 (0 : Int32).toInt (5 : Int32).toInt = true)) → ∀ M4 : zM, (tkP M1 M4 b4 T4 (0 : Int32).toInt.toNat (0 : Int32).toInt (5 : Int32).toInt) → ((¬ v4 = 0) → (kd 9 = 8) ∧ (kd 9 = 8) ∧ (zin (kd 9) 11 0 (0 : Int32)) ∧ (kd 9 = 8) ∧ (10 = 1 ∨ 10 = 5 ∨ 10 = 10) ∧ ∃ a5 : Sk, (RpF (M4.1 9 10) a5) ∧ ∃ l5 : Ly, (sk_top a5 (M4.1 9 11 ((0 : Int32)).toNatClampNeg).toInt = some l5) ∧ ∀ v5 : Int32, (v5.toInt = a5.2 - l5.2.2.2.1) → ∀ f5 : Nat → Int32, (RpF f5 (sk_rub a5 (M4.1 9 11 ((0 : Int32)).toNatClampNeg).toInt)) → (∀ j9, 127 ≤ j9 → f5 j9 = M4.1 9 10 j9) → ∀ M5 : zM, (M5 = zmw M4 9 10 f5) → ((v5 < 0) → ((0 : Int32) = 0 ∨ (0 : Int32) = 1) ∧ K (some (zI ((0 : Int32)))) M5) ∧ ((¬ v5 < 0) → ((1 : Int32) = 0 ∨ (1 : Int32) = 1) ∧ K (some (zI ((1 : Int32)))) M5)) ∧ ((v4 = 0) → ((0 : Int32) = 0 ∨ (0 : Int32) = 1) ∧ K (some (zI ((0 : Int32)))) M4)))) from ⟨hk0, h.elim (fun b1 h => ⟨b1, h.elim (fun T1 h => ⟨T1, ⟨h.1, have h := h.2; ⟨h.1, have h := h.2; fun f1 => have h := h f1; fun q => have h := h q; fun M1 => have h := h M1; fun q => have h := h q; ⟨hk0, ⟨fun q => have h := h.1 q; ⟨(Or.inl rfl), h⟩, fun q => have h := h.2 q; ⟨hk0, fun v2 => have h := h v2; fun q => have h := h q; ⟨fun q => have h := h.1 q; ⟨(Or.inl rfl), h⟩, fun q => have h := h.2 q; ⟨hk0, ⟨hk0, ⟨hk0, ⟨h.1, have h := h.2; h.elim (fun a3 h => ⟨a3, ⟨h.1, have h := h.2; ⟨h.1, have h := h.2; fun v3 => have h := h v3; fun q => have h := h q; ⟨fun q => have h := h.1 q; ⟨(Or.inl rfl), h⟩, fun q => have h := h.2 q; ⟨hk0, h.elim (fun b4 h => ⟨b4, h.elim (fun T4 h => ⟨T4, ⟨h.1, have h := h.2; ⟨h.1, have h := h.2; ⟨h.1, have h := h.2; fun v4 => have h := h v4; fun q => have h := h q; fun M4 => have h := h M4; fun q => have h := h q; ⟨fun q => have h := h.1 q; ⟨hk0, ⟨hk0, ⟨h.1, have h := h.2; ⟨hk0, ⟨h.1, have h := h.2; h.elim (fun a5 h => ⟨a5, ⟨h.1, have h := h.2; h.elim (fun l5 h => ⟨l5, ⟨h.1, have h := h.2; fun v5 => have h := h v5; fun q => have h := h q; fun f5 => have h := h f5; fun q => have h := h q; fun q => have h := h q; fun M5 => have h := h M5; fun q => have h := h q; ⟨fun q => have h := h.1 q; ⟨(Or.inl rfl), h⟩, fun q => have h := h.2 q; ⟨(Or.inr rfl), h⟩⟩⟩⟩)⟩⟩)⟩⟩⟩⟩⟩, fun q => have h := h.2 q; ⟨(Or.inl rfl), h⟩⟩⟩⟩⟩⟩)⟩)⟩⟩⟩⟩⟩)⟩⟩⟩⟩⟩⟩⟩⟩⟩⟩⟩)⟩)⟩)
def sp_X8_takesWrite : zSpec := fun kd as M K => match as with
  | [.inr (.inr (.inl (9, 0)))] => (kd 9 = 8) ∧ ∃ b : List Int, ∃ T : Tk, (RpY M b) ∧ (RpT2 (M.1 9 0) b T) ∧ ∃ a : Sk, (RpF (M.1 9 10) a) ∧ ∀ v : Int32, (v = zp ((rdWr b T a).1 = true)) → ∀ M' : zM, (rdQ M M' b (rdWr b T a)) → K (some (.inl v)) M'
  | _ => False
theorem rv_X8_takesWrite : zrv sp_X8_takesWrite 8 0 := by
  intro kd as M K h
  unfold sp_X8_takesWrite at h
  split at h
  · exact ⟨_, _, rfl, h.1⟩
  · exact h.elim
theorem dd_X8_takesWrite_0 : decode cX8_takesWrite 0 = .ok (.aload_n 0, 1) := by decide +kernel
theorem dd_X8_takesWrite_1 : decode cX8_takesWrite 1 = .ok (.invokevirtual 277, 3) := by decide +kernel
theorem dd_X8_takesWrite_4 : decode cX8_takesWrite 4 = .ok (.aload_n 0, 1) := by decide +kernel
theorem dd_X8_takesWrite_5 : decode cX8_takesWrite 5 = .ok (.getfield 262, 3) := by decide +kernel
theorem dd_X8_takesWrite_8 : decode cX8_takesWrite 8 = .ok (.iconst 2, 1) := by decide +kernel
theorem dd_X8_takesWrite_9 : decode cX8_takesWrite 9 = .ok (.if_icmp .ne 37, 3) := by decide +kernel
theorem dd_X8_takesWrite_12 : decode cX8_takesWrite 12 = .ok (.aload_n 0, 1) := by decide +kernel
theorem dd_X8_takesWrite_13 : decode cX8_takesWrite 13 = .ok (.getfield 265, 3) := by decide +kernel
theorem dd_X8_takesWrite_16 : decode cX8_takesWrite 16 = .ok (.invokestatic 74, 3) := by decide +kernel
theorem dd_X8_takesWrite_19 : decode cX8_takesWrite 19 = .ok (.ifCond .eq 27, 3) := by decide +kernel
theorem dd_X8_takesWrite_22 : decode cX8_takesWrite 22 = .ok (.aload_n 0, 1) := by decide +kernel
theorem dd_X8_takesWrite_23 : decode cX8_takesWrite 23 = .ok (.getfield 42, 3) := by decide +kernel
theorem dd_X8_takesWrite_26 : decode cX8_takesWrite 26 = .ok (.aload_n 0, 1) := by decide +kernel
theorem dd_X8_takesWrite_27 : decode cX8_takesWrite 27 = .ok (.getfield 265, 3) := by decide +kernel
theorem dd_X8_takesWrite_30 : decode cX8_takesWrite 30 = .ok (.invokestatic 154, 3) := by decide +kernel
theorem dd_X8_takesWrite_33 : decode cX8_takesWrite 33 = .ok (.ifCond .eq 13, 3) := by decide +kernel
theorem dd_X8_takesWrite_36 : decode cX8_takesWrite 36 = .ok (.aload_n 0, 1) := by decide +kernel
theorem dd_X8_takesWrite_37 : decode cX8_takesWrite 37 = .ok (.iconst 0, 1) := by decide +kernel
theorem dd_X8_takesWrite_38 : decode cX8_takesWrite 38 = .ok (.iconst 0, 1) := by decide +kernel
theorem dd_X8_takesWrite_39 : decode cX8_takesWrite 39 = .ok (.iconst 5, 1) := by decide +kernel
theorem dd_X8_takesWrite_40 : decode cX8_takesWrite 40 = .ok (.invokevirtual 280, 3) := by decide +kernel
theorem dd_X8_takesWrite_43 : decode cX8_takesWrite 43 = .ok (.ifCond .ne 5, 3) := by decide +kernel
theorem dd_X8_takesWrite_46 : decode cX8_takesWrite 46 = .ok (.iconst 0, 1) := by decide +kernel
theorem dd_X8_takesWrite_47 : decode cX8_takesWrite 47 = .ok (.ireturn, 1) := by decide +kernel
theorem dd_X8_takesWrite_48 : decode cX8_takesWrite 48 = .ok (.aload_n 0, 1) := by decide +kernel
theorem dd_X8_takesWrite_49 : decode cX8_takesWrite 49 = .ok (.iconst 1, 1) := by decide +kernel
theorem dd_X8_takesWrite_50 : decode cX8_takesWrite 50 = .ok (.iconst 0, 1) := by decide +kernel
theorem dd_X8_takesWrite_51 : decode cX8_takesWrite 51 = .ok (.iconst 5, 1) := by decide +kernel
theorem dd_X8_takesWrite_52 : decode cX8_takesWrite 52 = .ok (.invokevirtual 280, 3) := by decide +kernel
theorem dd_X8_takesWrite_55 : decode cX8_takesWrite 55 = .ok (.ifCond .eq 23, 3) := by decide +kernel
theorem dd_X8_takesWrite_58 : decode cX8_takesWrite 58 = .ok (.aload_n 0, 1) := by decide +kernel
theorem dd_X8_takesWrite_59 : decode cX8_takesWrite 59 = .ok (.iconst 2, 1) := by decide +kernel
theorem dd_X8_takesWrite_60 : decode cX8_takesWrite 60 = .ok (.iconst 0, 1) := by decide +kernel
theorem dd_X8_takesWrite_61 : decode cX8_takesWrite 61 = .ok (.iconst 4, 1) := by decide +kernel
theorem dd_X8_takesWrite_62 : decode cX8_takesWrite 62 = .ok (.invokevirtual 280, 3) := by decide +kernel
theorem dd_X8_takesWrite_65 : decode cX8_takesWrite 65 = .ok (.ifCond .eq 13, 3) := by decide +kernel
theorem dd_X8_takesWrite_68 : decode cX8_takesWrite 68 = .ok (.aload_n 0, 1) := by decide +kernel
theorem dd_X8_takesWrite_69 : decode cX8_takesWrite 69 = .ok (.iconst 3, 1) := by decide +kernel
theorem dd_X8_takesWrite_70 : decode cX8_takesWrite 70 = .ok (.iconst 0, 1) := by decide +kernel
theorem dd_X8_takesWrite_71 : decode cX8_takesWrite 71 = .ok (.iconst 1, 1) := by decide +kernel
theorem dd_X8_takesWrite_72 : decode cX8_takesWrite 72 = .ok (.invokevirtual 280, 3) := by decide +kernel
theorem dd_X8_takesWrite_75 : decode cX8_takesWrite 75 = .ok (.ifCond .ne 5, 3) := by decide +kernel
theorem dd_X8_takesWrite_78 : decode cX8_takesWrite 78 = .ok (.iconst 0, 1) := by decide +kernel
theorem dd_X8_takesWrite_79 : decode cX8_takesWrite 79 = .ok (.ireturn, 1) := by decide +kernel
theorem dd_X8_takesWrite_80 : decode cX8_takesWrite 80 = .ok (.aload_n 0, 1) := by decide +kernel
theorem dd_X8_takesWrite_81 : decode cX8_takesWrite 81 = .ok (.getfield 42, 3) := by decide +kernel
theorem dd_X8_takesWrite_84 : decode cX8_takesWrite 84 = .ok (.aload_n 0, 1) := by decide +kernel
theorem dd_X8_takesWrite_85 : decode cX8_takesWrite 85 = .ok (.getfield 45, 3) := by decide +kernel
theorem dd_X8_takesWrite_88 : decode cX8_takesWrite 88 = .ok (.iconst 0, 1) := by decide +kernel
theorem dd_X8_takesWrite_89 : decode cX8_takesWrite 89 = .ok (.iaload, 1) := by decide +kernel
theorem dd_X8_takesWrite_90 : decode cX8_takesWrite 90 = .ok (.aload_n 0, 1) := by decide +kernel
theorem dd_X8_takesWrite_91 : decode cX8_takesWrite 91 = .ok (.getfield 45, 3) := by decide +kernel
theorem dd_X8_takesWrite_94 : decode cX8_takesWrite 94 = .ok (.iconst 1, 1) := by decide +kernel
theorem dd_X8_takesWrite_95 : decode cX8_takesWrite 95 = .ok (.iaload, 1) := by decide +kernel
theorem dd_X8_takesWrite_96 : decode cX8_takesWrite 96 = .ok (.aload_n 0, 1) := by decide +kernel
theorem dd_X8_takesWrite_97 : decode cX8_takesWrite 97 = .ok (.getfield 45, 3) := by decide +kernel
theorem dd_X8_takesWrite_100 : decode cX8_takesWrite 100 = .ok (.iconst 2, 1) := by decide +kernel
theorem dd_X8_takesWrite_101 : decode cX8_takesWrite 101 = .ok (.iaload, 1) := by decide +kernel
theorem dd_X8_takesWrite_102 : decode cX8_takesWrite 102 = .ok (.aload_n 0, 1) := by decide +kernel
theorem dd_X8_takesWrite_103 : decode cX8_takesWrite 103 = .ok (.getfield 45, 3) := by decide +kernel
theorem dd_X8_takesWrite_106 : decode cX8_takesWrite 106 = .ok (.iconst 3, 1) := by decide +kernel
theorem dd_X8_takesWrite_107 : decode cX8_takesWrite 107 = .ok (.iaload, 1) := by decide +kernel
theorem dd_X8_takesWrite_108 : decode cX8_takesWrite 108 = .ok (.invokestatic 95, 3) := by decide +kernel
theorem dd_X8_takesWrite_111 : decode cX8_takesWrite 111 = .ok (.istore_n 1, 1) := by decide +kernel
theorem dd_X8_takesWrite_112 : decode cX8_takesWrite 112 = .ok (.iload_n 1, 1) := by decide +kernel
theorem dd_X8_takesWrite_113 : decode cX8_takesWrite 113 = .ok (.ifCond .lt 7, 3) := by decide +kernel
theorem dd_X8_takesWrite_116 : decode cX8_takesWrite 116 = .ok (.iconst 1, 1) := by decide +kernel
theorem dd_X8_takesWrite_117 : decode cX8_takesWrite 117 = .ok (.goto 4, 3) := by decide +kernel
theorem dd_X8_takesWrite_120 : decode cX8_takesWrite 120 = .ok (.iconst 0, 1) := by decide +kernel
theorem dd_X8_takesWrite_121 : decode cX8_takesWrite 121 = .ok (.ireturn, 1) := by decide +kernel
def tb_X8_takesWrite (kd : Nat → Nat) (K : zK) : zTab := [(0, zt_aload 0 1), (1, zt_call kd sp_X8_goBehind 1 4), (4, zt_aload 0 5), (5, zt_getI kd 8 19 8), (8, zt_const (zI 2) 9), (9, zt_icmp (fun x y => ¬ x = y) (fun x y => x = y) 46 12), (12, zt_aload 0 13), (13, zt_getI kd 8 20 16), (16, zt_call kd sp_X8_isCell 1 19), (19, zt_if (fun x => x = 0) (fun x => ¬ x = 0) 46 22), (22, zt_aload 0 23), (23, zt_getR kd 8 0 10 26), (26, zt_aload 0 27), (27, zt_getI kd 8 20 30), (30, zt_call kd sp_X8_mayWrite 2 33), (33, zt_if (fun x => x = 0) (fun x => ¬ x = 0) 46 36), (36, zt_aload 0 37), (37, zt_const (zI 0) 38), (38, zt_const (zI 0) 39), (39, zt_const (zI 5) 40), (40, zt_call kd sp_X8_takes 4 43), (43, zt_if (fun x => ¬ x = 0) (fun x => x = 0) 48 46), (46, zt_const (zI 0) 47), (47, zt_zret K), (48, zt_aload 0 49), (49, zt_const (zI 1) 50), (50, zt_const (zI 0) 51), (51, zt_const (zI 5) 52), (52, zt_call kd sp_X8_takes 4 55), (55, zt_if (fun x => x = 0) (fun x => ¬ x = 0) 78 58), (58, zt_aload 0 59), (59, zt_const (zI 2) 60), (60, zt_const (zI 0) 61), (61, zt_const (zI 4) 62), (62, zt_call kd sp_X8_takes 4 65), (65, zt_if (fun x => x = 0) (fun x => ¬ x = 0) 78 68), (68, zt_aload 0 69), (69, zt_const (zI 3) 70), (70, zt_const (zI 0) 71), (71, zt_const (zI 1) 72), (72, zt_call kd sp_X8_takes 4 75), (75, zt_if (fun x => ¬ x = 0) (fun x => x = 0) 80 78), (78, zt_const (zI 0) 79), (79, zt_zret K), (80, zt_aload 0 81), (81, zt_getR kd 8 0 10 84), (84, zt_aload 0 85), (85, zt_getR kd 8 0 11 88), (88, zt_const (zI 0) 89), (89, zt_ald kd 0 90), (90, zt_aload 0 91), (91, zt_getR kd 8 0 11 94), (94, zt_const (zI 1) 95), (95, zt_ald kd 0 96), (96, zt_aload 0 97), (97, zt_getR kd 8 0 11 100), (100, zt_const (zI 2) 101), (101, zt_ald kd 0 102), (102, zt_aload 0 103), (103, zt_getR kd 8 0 11 106), (106, zt_const (zI 3) 107), (107, zt_ald kd 0 108), (108, zt_call kd sp_X8_goWrite 5 111), (111, zt_istore 1 112), (112, zt_iload 1 113), (113, zt_if (fun x => x < 0) (fun x => ¬ x < 0) 120 116), (116, zt_const (zI 1) 117), (117, zt_goto 121), (120, zt_const (zI 0) 121), (121, zt_zret K)]
set_option maxRecDepth 20000 in
theorem tk_X8_takesWrite (d : Nat) (h_X8_goBehind : zMS 4 yX8_goBehind cX8_goBehind 1 none sp_X8_goBehind) (h_X8_isCell : zMS 2 yX8_isCell cX8_isCell 1 (some .boolean) sp_X8_isCell) (h_X8_mayWrite : zMS 3 yX8_mayWrite cX8_mayWrite 2 (some .boolean) sp_X8_mayWrite) (h_X8_takes : zMS 5 yX8_takes cX8_takes 4 (some .boolean) sp_X8_takes) (h_X8_goWrite : zMS 2 yX8_goWrite cX8_goWrite 6 (some .int) sp_X8_goWrite) : zTrue RX8 cX8_takesWrite 2 (some .boolean) (d + 6) (fun kd K => tb_X8_takesWrite kd K) := by
  intro p l e R s m args below meth c D cy A ad bl Qm K C0 hr hlocks hQ
  obtain ⟨hx, hb, hml, hown, hts, hK, hD, hA0, hN, hE, ⟨hR1, hR2⟩, hc1, hc2⟩ := id C0
  unfold tb_X8_takesWrite
  refine List.forall_mem_cons.mpr ⟨ok_aload_n hx hb rfl dd_X8_takesWrite_0, ?_⟩
  refine List.forall_mem_cons.mpr ⟨ok_callV (n := 0) zc_X8 rv_X8_goBehind C0 (h_X8_goBehind (d + 5) (by omega)) (by decide) wd_1190 wd_1187 wd_1189 wd_90 wd_107 ⟨rfl, by decide +kernel, by decide +kernel, by decide +kernel⟩ dd_X8_takesWrite_1, ?_⟩
  refine List.forall_mem_cons.mpr ⟨ok_aload_n hx hb rfl dd_X8_takesWrite_4, ?_⟩
  refine List.forall_mem_cons.mpr ⟨ok_getI (j := 19) hx hb hts zi_X8 hown hK zc_X8 (by decide) rfl (fun t fl h => by cases h; rfl) (hts _ wd_859) dd_X8_takesWrite_5, ?_⟩
  refine List.forall_mem_cons.mpr ⟨ok_iconst hx hb dd_X8_takesWrite_8 (by decide), ?_⟩
  refine List.forall_mem_cons.mpr ⟨ok_icmp_ne hx hb dd_X8_takesWrite_9 (by decide), ?_⟩
  refine List.forall_mem_cons.mpr ⟨ok_aload_n hx hb rfl dd_X8_takesWrite_12, ?_⟩
  refine List.forall_mem_cons.mpr ⟨ok_getI (j := 20) hx hb hts zi_X8 hown hK zc_X8 (by decide) rfl (fun t fl h => by cases h; rfl) (hts _ wd_860) dd_X8_takesWrite_13, ?_⟩
  refine List.forall_mem_cons.mpr ⟨ok_callS (n := 1) C0 (h_X8_isCell (d + 5) (by omega)) (by decide) wd_924 wd_922 wd_923 wd_107 ⟨by decide +kernel, by decide +kernel, by decide +kernel⟩ dd_X8_takesWrite_16, ?_⟩
  refine List.forall_mem_cons.mpr ⟨ok_if_eq hx hb dd_X8_takesWrite_19 (by decide), ?_⟩
  refine List.forall_mem_cons.mpr ⟨ok_aload_n hx hb rfl dd_X8_takesWrite_22, ?_⟩
  refine List.forall_mem_cons.mpr ⟨ok_getR (j := 21) hx hb hts zi_X8 hown hK zc_X8 (by decide) rfl (fun t fl h => by cases h; rfl) (hts _ wd_861) dd_X8_takesWrite_23, ?_⟩
  refine List.forall_mem_cons.mpr ⟨ok_aload_n hx hb rfl dd_X8_takesWrite_26, ?_⟩
  refine List.forall_mem_cons.mpr ⟨ok_getI (j := 20) hx hb hts zi_X8 hown hK zc_X8 (by decide) rfl (fun t fl h => by cases h; rfl) (hts _ wd_860) dd_X8_takesWrite_27, ?_⟩
  refine List.forall_mem_cons.mpr ⟨ok_callS (n := 2) C0 (h_X8_mayWrite (d + 5) (by omega)) (by decide) wd_1073 wd_1071 wd_1072 wd_107 ⟨by decide +kernel, by decide +kernel, by decide +kernel⟩ dd_X8_takesWrite_30, ?_⟩
  refine List.forall_mem_cons.mpr ⟨ok_if_eq hx hb dd_X8_takesWrite_33 (by decide), ?_⟩
  refine List.forall_mem_cons.mpr ⟨ok_aload_n hx hb rfl dd_X8_takesWrite_36, ?_⟩
  refine List.forall_mem_cons.mpr ⟨ok_iconst hx hb dd_X8_takesWrite_37 (by decide), ?_⟩
  refine List.forall_mem_cons.mpr ⟨ok_iconst hx hb dd_X8_takesWrite_38 (by decide), ?_⟩
  refine List.forall_mem_cons.mpr ⟨ok_iconst hx hb dd_X8_takesWrite_39 (by decide), ?_⟩
  refine List.forall_mem_cons.mpr ⟨ok_callV (n := 3) zc_X8 rv_X8_takes C0 (h_X8_takes (d + 5) (by omega)) (by decide) wd_1202 wd_1199 wd_1201 wd_93 wd_107 ⟨rfl, by decide +kernel, by decide +kernel, by decide +kernel⟩ dd_X8_takesWrite_40, ?_⟩
  refine List.forall_mem_cons.mpr ⟨ok_if_ne hx hb dd_X8_takesWrite_43 (by decide), ?_⟩
  refine List.forall_mem_cons.mpr ⟨ok_iconst hx hb dd_X8_takesWrite_46 (by decide), ?_⟩
  refine List.forall_mem_cons.mpr ⟨ok_zret hx hb hr hlocks hQ dd_X8_takesWrite_47, ?_⟩
  refine List.forall_mem_cons.mpr ⟨ok_aload_n hx hb rfl dd_X8_takesWrite_48, ?_⟩
  refine List.forall_mem_cons.mpr ⟨ok_iconst hx hb dd_X8_takesWrite_49 (by decide), ?_⟩
  refine List.forall_mem_cons.mpr ⟨ok_iconst hx hb dd_X8_takesWrite_50 (by decide), ?_⟩
  refine List.forall_mem_cons.mpr ⟨ok_iconst hx hb dd_X8_takesWrite_51 (by decide), ?_⟩
  refine List.forall_mem_cons.mpr ⟨ok_callV (n := 3) zc_X8 rv_X8_takes C0 (h_X8_takes (d + 5) (by omega)) (by decide) wd_1202 wd_1199 wd_1201 wd_93 wd_107 ⟨rfl, by decide +kernel, by decide +kernel, by decide +kernel⟩ dd_X8_takesWrite_52, ?_⟩
  refine List.forall_mem_cons.mpr ⟨ok_if_eq hx hb dd_X8_takesWrite_55 (by decide), ?_⟩
  refine List.forall_mem_cons.mpr ⟨ok_aload_n hx hb rfl dd_X8_takesWrite_58, ?_⟩
  refine List.forall_mem_cons.mpr ⟨ok_iconst hx hb dd_X8_takesWrite_59 (by decide), ?_⟩
  refine List.forall_mem_cons.mpr ⟨ok_iconst hx hb dd_X8_takesWrite_60 (by decide), ?_⟩
  refine List.forall_mem_cons.mpr ⟨ok_iconst hx hb dd_X8_takesWrite_61 (by decide), ?_⟩
  refine List.forall_mem_cons.mpr ⟨ok_callV (n := 3) zc_X8 rv_X8_takes C0 (h_X8_takes (d + 5) (by omega)) (by decide) wd_1202 wd_1199 wd_1201 wd_93 wd_107 ⟨rfl, by decide +kernel, by decide +kernel, by decide +kernel⟩ dd_X8_takesWrite_62, ?_⟩
  refine List.forall_mem_cons.mpr ⟨ok_if_eq hx hb dd_X8_takesWrite_65 (by decide), ?_⟩
  refine List.forall_mem_cons.mpr ⟨ok_aload_n hx hb rfl dd_X8_takesWrite_68, ?_⟩
  refine List.forall_mem_cons.mpr ⟨ok_iconst hx hb dd_X8_takesWrite_69 (by decide), ?_⟩
  refine List.forall_mem_cons.mpr ⟨ok_iconst hx hb dd_X8_takesWrite_70 (by decide), ?_⟩
  refine List.forall_mem_cons.mpr ⟨ok_iconst hx hb dd_X8_takesWrite_71 (by decide), ?_⟩
  refine List.forall_mem_cons.mpr ⟨ok_callV (n := 3) zc_X8 rv_X8_takes C0 (h_X8_takes (d + 5) (by omega)) (by decide) wd_1202 wd_1199 wd_1201 wd_93 wd_107 ⟨rfl, by decide +kernel, by decide +kernel, by decide +kernel⟩ dd_X8_takesWrite_72, ?_⟩
  refine List.forall_mem_cons.mpr ⟨ok_if_ne hx hb dd_X8_takesWrite_75 (by decide), ?_⟩
  refine List.forall_mem_cons.mpr ⟨ok_iconst hx hb dd_X8_takesWrite_78 (by decide), ?_⟩
  refine List.forall_mem_cons.mpr ⟨ok_zret hx hb hr hlocks hQ dd_X8_takesWrite_79, ?_⟩
  refine List.forall_mem_cons.mpr ⟨ok_aload_n hx hb rfl dd_X8_takesWrite_80, ?_⟩
  refine List.forall_mem_cons.mpr ⟨ok_getR (j := 21) hx hb hts zi_X8 hown hK zc_X8 (by decide) rfl (fun t fl h => by cases h; rfl) (hts _ wd_861) dd_X8_takesWrite_81, ?_⟩
  refine List.forall_mem_cons.mpr ⟨ok_aload_n hx hb rfl dd_X8_takesWrite_84, ?_⟩
  refine List.forall_mem_cons.mpr ⟨ok_getR (j := 22) hx hb hts zi_X8 hown hK zc_X8 (by decide) rfl (fun t fl h => by cases h; rfl) (hts _ wd_862) dd_X8_takesWrite_85, ?_⟩
  refine List.forall_mem_cons.mpr ⟨ok_iconst hx hb dd_X8_takesWrite_88 (by decide), ?_⟩
  refine List.forall_mem_cons.mpr ⟨ok_ald (ty := 0) rfl hx hb hK (Or.inl ⟨rfl, rfl, dd_X8_takesWrite_89⟩), ?_⟩
  refine List.forall_mem_cons.mpr ⟨ok_aload_n hx hb rfl dd_X8_takesWrite_90, ?_⟩
  refine List.forall_mem_cons.mpr ⟨ok_getR (j := 22) hx hb hts zi_X8 hown hK zc_X8 (by decide) rfl (fun t fl h => by cases h; rfl) (hts _ wd_862) dd_X8_takesWrite_91, ?_⟩
  refine List.forall_mem_cons.mpr ⟨ok_iconst hx hb dd_X8_takesWrite_94 (by decide), ?_⟩
  refine List.forall_mem_cons.mpr ⟨ok_ald (ty := 0) rfl hx hb hK (Or.inl ⟨rfl, rfl, dd_X8_takesWrite_95⟩), ?_⟩
  refine List.forall_mem_cons.mpr ⟨ok_aload_n hx hb rfl dd_X8_takesWrite_96, ?_⟩
  refine List.forall_mem_cons.mpr ⟨ok_getR (j := 22) hx hb hts zi_X8 hown hK zc_X8 (by decide) rfl (fun t fl h => by cases h; rfl) (hts _ wd_862) dd_X8_takesWrite_97, ?_⟩
  refine List.forall_mem_cons.mpr ⟨ok_iconst hx hb dd_X8_takesWrite_100 (by decide), ?_⟩
  refine List.forall_mem_cons.mpr ⟨ok_ald (ty := 0) rfl hx hb hK (Or.inl ⟨rfl, rfl, dd_X8_takesWrite_101⟩), ?_⟩
  refine List.forall_mem_cons.mpr ⟨ok_aload_n hx hb rfl dd_X8_takesWrite_102, ?_⟩
  refine List.forall_mem_cons.mpr ⟨ok_getR (j := 22) hx hb hts zi_X8 hown hK zc_X8 (by decide) rfl (fun t fl h => by cases h; rfl) (hts _ wd_862) dd_X8_takesWrite_103, ?_⟩
  refine List.forall_mem_cons.mpr ⟨ok_iconst hx hb dd_X8_takesWrite_106 (by decide), ?_⟩
  refine List.forall_mem_cons.mpr ⟨ok_ald (ty := 0) rfl hx hb hK (Or.inl ⟨rfl, rfl, dd_X8_takesWrite_107⟩), ?_⟩
  refine List.forall_mem_cons.mpr ⟨ok_callS (n := 5) C0 (h_X8_goWrite (d + 5) (by omega)) (by decide) wd_957 wd_955 wd_956 wd_107 ⟨by decide +kernel, by decide +kernel, by decide +kernel⟩ dd_X8_takesWrite_108, ?_⟩
  refine List.forall_mem_cons.mpr ⟨ok_istore_n hx hb rfl dd_X8_takesWrite_111, ?_⟩
  refine List.forall_mem_cons.mpr ⟨ok_iload_n hx hb rfl dd_X8_takesWrite_112, ?_⟩
  refine List.forall_mem_cons.mpr ⟨ok_if_lt hx hb dd_X8_takesWrite_113 (by decide), ?_⟩
  refine List.forall_mem_cons.mpr ⟨ok_iconst hx hb dd_X8_takesWrite_116 (by decide), ?_⟩
  refine List.forall_mem_cons.mpr ⟨ok_goto hx hb dd_X8_takesWrite_117 (by decide), ?_⟩
  refine List.forall_mem_cons.mpr ⟨ok_iconst hx hb dd_X8_takesWrite_120 (by decide), ?_⟩
  refine List.forall_mem_cons.mpr ⟨ok_zret hx hb hr hlocks hQ dd_X8_takesWrite_121, ?_⟩
  exact fun _ h => absurd h List.not_mem_nil
set_option maxRecDepth 100000 in
theorem vc_X8_takesWrite_0 {kd : Nat → Nat} {K : zK} {X : zX} (hX : ∀ (n pc : Nat) (ls : zLS) (st : List zV) (M : zM), zrun (tb_X8_takesWrite kd K) [(48, [1])] n X pc ls st M → X pc ls st M)  {M : zM} (hk0 : kd 9 = 8) (h : ∃ b1 : List Int, ∃ T1 : Tk, (RpY M b1) ∧ (RpT2 (M.1 9 0) b1 T1) ∧ ∀ f1 : Nat → Int32, (RpT2 f1 b1 (tok b1 T1.2.2.2) ∧ ∀ j9, j9 ≤ 16 → f1 j9 = M.1 9 0 j9) → ∀ M1 : zM, (M1 = zmw M 9 0 f1) → ((¬ (M1.1 9 0 19) = (2 : Int32)) → K (some (zI ((0 : Int32)))) M1) ∧ (((M1.1 9 0 19) = (2 : Int32)) → ∀ v2 : Int32, (v2 = zp (isC (M1.1 9 0 20).toInt)) → ((v2 = 0) → K (some (zI ((0 : Int32)))) M1) ∧ ((¬ v2 = 0) → (10 = 1 ∨ 10 = 5 ∨ 10 = 10) ∧ ∃ a3 : Sk, (RpF (M1.1 9 10) a3) ∧ (isC (M1.1 9 0 20).toInt) ∧ ∀ v3 : Int32, (v3 = zp (sk_canW a3 (M1.1 9 0 20).toInt = true)) → ((v3 = 0) → K (some (zI ((0 : Int32)))) M1) ∧ ((¬ v3 = 0) → ∃ b4 : List Int, ∃ T4 : Tk, (RpY M1 b4) ∧ (RpT2 (M1.1 9 0) b4 T4) ∧ (0 ≤ (0 : Int32).toInt ∧ (0 : Int32).toInt < 4) ∧ ∀ v4 : Int32, (v4 = zp (numIs T4 (0 : Int32).toInt (5 : Int32).toInt = true)) → ∀ M4 : zM, (tkP M1 M4 b4 T4 (0 : Int32).toInt.toNat (0 : Int32).toInt (5 : Int32).toInt) → ((¬ v4 = 0) → X 48 [some (zR 9 0), none] [] M4) ∧ ((v4 = 0) → K (some (zI ((0 : Int32)))) M4))))) : X 0 [some (zR 9 0), none] [] M := hX 25 0 _ [] M (show (kd 9 = 8) ∧ ∃ b1 : List Int, ∃ T1 : Tk, (RpY M b1) ∧ (RpT2 (M.1 9 0) b1 T1) ∧ ∀ f1 : Nat → Int32, (RpT2 f1 b1 (tok b1 T1.2.2.2) ∧ ∀ j9, j9 ≤ 16 → f1 j9 = M.1 9 0 j9) → ∀ M1 : zM, (M1 = zmw M 9 0 f1) → (kd 9 = 8) ∧ ((¬ (M1.1 9 0 19) = (2 : Int32)) → ((0 : Int32) = 0 ∨ (0 : Int32) = 1) ∧ K (some (zI ((0 : Int32)))) M1) ∧ (((M1.1 9 0 19) = (2 : Int32)) → (kd 9 = 8) ∧ ∀ v2 : Int32, (v2 = zp (isC (M1.1 9 0 20).toInt)) → ((v2 = 0) → ((0 : Int32) = 0 ∨ (0 : Int32) = 1) ∧ K (some (zI ((0 : Int32)))) M1) ∧ ((¬ v2 = 0) → (kd 9 = 8) ∧ (kd 9 = 8) ∧ (kd 9 = 8) ∧ (10 = 1 ∨ 10 = 5 ∨ 10 = 10) ∧ ∃ a3 : Sk, (RpF (M1.1 9 10) a3) ∧ (isC (M1.1 9 0 20).toInt) ∧ ∀ v3 : Int32, (v3 = zp (sk_canW a3 (M1.1 9 0 20).toInt = true)) → ((v3 = 0) → ((0 : Int32) = 0 ∨ (0 : Int32) = 1) ∧ K (some (zI ((0 : Int32)))) M1) ∧ ((¬ v3 = 0) → (kd 9 = 8) ∧ ∃ b4 : List Int, ∃ T4 : Tk, (RpY M1 b4) ∧ (RpT2 (M1.1 9 0) b4 T4) ∧ (0 ≤ (0 : Int32).toInt ∧ (0 : Int32).toInt < 4) ∧ ∀ v4 : Int32, (v4 = zp (numIs T4 (0 : Int32).toInt (5 : Int32).toInt = true)) → ∀ M4 : zM, (tkP M1 M4 b4 T4 (0 : Int32).toInt.toNat (0 : Int32).toInt (5 : Int32).toInt) → ((¬ v4 = 0) → X 48 [some (zR 9 0), none] [] M4) ∧ ((v4 = 0) → ((0 : Int32) = 0 ∨ (0 : Int32) = 1) ∧ K (some (zI ((0 : Int32)))) M4)))) from ⟨hk0, h.elim (fun b1 h => ⟨b1, h.elim (fun T1 h => ⟨T1, ⟨h.1, have h := h.2; ⟨h.1, have h := h.2; fun f1 => have h := h f1; fun q => have h := h q; fun M1 => have h := h M1; fun q => have h := h q; ⟨hk0, ⟨fun q => have h := h.1 q; ⟨(Or.inl rfl), h⟩, fun q => have h := h.2 q; ⟨hk0, fun v2 => have h := h v2; fun q => have h := h q; ⟨fun q => have h := h.1 q; ⟨(Or.inl rfl), h⟩, fun q => have h := h.2 q; ⟨hk0, ⟨hk0, ⟨hk0, ⟨h.1, have h := h.2; h.elim (fun a3 h => ⟨a3, ⟨h.1, have h := h.2; ⟨h.1, have h := h.2; fun v3 => have h := h v3; fun q => have h := h q; ⟨fun q => have h := h.1 q; ⟨(Or.inl rfl), h⟩, fun q => have h := h.2 q; ⟨hk0, h.elim (fun b4 h => ⟨b4, h.elim (fun T4 h => ⟨T4, ⟨h.1, have h := h.2; ⟨h.1, have h := h.2; ⟨h.1, have h := h.2; fun v4 => have h := h v4; fun q => have h := h q; fun M4 => have h := h M4; fun q => have h := h q; ⟨fun q => have h := h.1 q; h, fun q => have h := h.2 q; ⟨(Or.inl rfl), h⟩⟩⟩⟩⟩⟩)⟩)⟩⟩⟩⟩⟩)⟩⟩⟩⟩⟩⟩⟩⟩⟩⟩⟩)⟩)⟩)
set_option maxRecDepth 100000 in
theorem vc_X8_takesWrite_48 {kd : Nat → Nat} {K : zK} {X : zX} (hX : ∀ (n pc : Nat) (ls : zLS) (st : List zV) (M : zM), zrun (tb_X8_takesWrite kd K) [(48, [1])] n X pc ls st M → X pc ls st M)  {M : zM} (hk0 : kd 9 = 8) (h : ∃ b1 : List Int, ∃ T1 : Tk, (RpY M b1) ∧ (RpT2 (M.1 9 0) b1 T1) ∧ (0 ≤ (1 : Int32).toInt ∧ (1 : Int32).toInt < 4) ∧ ∀ v1 : Int32, (v1 = zp (numIs T1 (0 : Int32).toInt (5 : Int32).toInt = true)) → ∀ M1 : zM, (tkP M M1 b1 T1 (1 : Int32).toInt.toNat (0 : Int32).toInt (5 : Int32).toInt) → ((v1 = 0) → K (some (zI ((0 : Int32)))) M1) ∧ ((¬ v1 = 0) → ∃ b2 : List Int, ∃ T2 : Tk, (RpY M1 b2) ∧ (RpT2 (M1.1 9 0) b2 T2) ∧ (0 ≤ (2 : Int32).toInt ∧ (2 : Int32).toInt < 4) ∧ ∀ v2 : Int32, (v2 = zp (numIs T2 (0 : Int32).toInt (4 : Int32).toInt = true)) → ∀ M2 : zM, (tkP M1 M2 b2 T2 (2 : Int32).toInt.toNat (0 : Int32).toInt (4 : Int32).toInt) → ((v2 = 0) → K (some (zI ((0 : Int32)))) M2) ∧ ((¬ v2 = 0) → ∃ b3 : List Int, ∃ T3 : Tk, (RpY M2 b3) ∧ (RpT2 (M2.1 9 0) b3 T3) ∧ (0 ≤ (3 : Int32).toInt ∧ (3 : Int32).toInt < 4) ∧ ∀ v3 : Int32, (v3 = zp (numIs T3 (0 : Int32).toInt (1 : Int32).toInt = true)) → ∀ M3 : zM, (tkP M2 M3 b3 T3 (3 : Int32).toInt.toNat (0 : Int32).toInt (1 : Int32).toInt) → ((¬ v3 = 0) → (zin (kd 9) 11 0 (0 : Int32)) ∧ (zin (kd 9) 11 0 (1 : Int32)) ∧ (zin (kd 9) 11 0 (2 : Int32)) ∧ (zin (kd 9) 11 0 (3 : Int32)) ∧ (10 = 1 ∨ 10 = 5 ∨ 10 = 10) ∧ ∃ a4 : Sk, (RpF (M3.1 9 10) a4) ∧ (isC (M3.1 9 11 ((0 : Int32)).toNatClampNeg).toInt) ∧ (sk_canR a4 (M3.1 9 11 ((0 : Int32)).toNatClampNeg).toInt = false) ∧ (sk_len a4 (M3.1 9 11 ((0 : Int32)).toNatClampNeg).toInt < 4) ∧ (0 ≤ (M3.1 9 11 ((1 : Int32)).toNatClampNeg).toInt ∧ (M3.1 9 11 ((1 : Int32)).toNatClampNeg).toInt ≤ 5) ∧ (0 ≤ (M3.1 9 11 ((2 : Int32)).toNatClampNeg).toInt ∧ (M3.1 9 11 ((2 : Int32)).toNatClampNeg).toInt ≤ 4) ∧ ((M3.1 9 11 ((3 : Int32)).toNatClampNeg).toInt = 0 ∨ (M3.1 9 11 ((3 : Int32)).toNatClampNeg).toInt = 1) ∧ ∀ v4 : Int32, (v4.toInt = sk_len a4 (M3.1 9 11 ((0 : Int32)).toNatClampNeg).toInt) → ∀ f4 : Nat → Int32, (RpF f4 (sk_wr a4 (M3.1 9 11 ((0 : Int32)).toNatClampNeg).toInt (M3.1 9 11 ((1 : Int32)).toNatClampNeg).toInt (M3.1 9 11 ((2 : Int32)).toNatClampNeg).toInt (M3.1 9 11 ((3 : Int32)).toNatClampNeg).toInt)) → (∀ j9, 127 ≤ j9 → f4 j9 = M3.1 9 10 j9) → ∀ M4 : zM, (M4 = zmw M3 9 10 f4) → ((v4 < 0) → K (some (zI ((0 : Int32)))) M4) ∧ ((¬ v4 < 0) → K (some (zI ((1 : Int32)))) M4)) ∧ ((v3 = 0) → K (some (zI ((0 : Int32)))) M3)))) : X 48 [some (zR 9 0), none] [] M := hX 44 48 _ [] M (show (kd 9 = 8) ∧ ∃ b1 : List Int, ∃ T1 : Tk, (RpY M b1) ∧ (RpT2 (M.1 9 0) b1 T1) ∧ (0 ≤ (1 : Int32).toInt ∧ (1 : Int32).toInt < 4) ∧ ∀ v1 : Int32, (v1 = zp (numIs T1 (0 : Int32).toInt (5 : Int32).toInt = true)) → ∀ M1 : zM, (tkP M M1 b1 T1 (1 : Int32).toInt.toNat (0 : Int32).toInt (5 : Int32).toInt) → ((v1 = 0) → ((0 : Int32) = 0 ∨ (0 : Int32) = 1) ∧ K (some (zI ((0 : Int32)))) M1) ∧ ((¬ v1 = 0) → (kd 9 = 8) ∧ ∃ b2 : List Int, ∃ T2 : Tk, (RpY M1 b2) ∧ (RpT2 (M1.1 9 0) b2 T2) ∧ (0 ≤ (2 : Int32).toInt ∧ (2 : Int32).toInt < 4) ∧ ∀ v2 : Int32, (v2 = zp (numIs T2 (0 : Int32).toInt (4 : Int32).toInt = true)) → ∀ M2 : zM, (tkP M1 M2 b2 T2 (2 : Int32).toInt.toNat (0 : Int32).toInt (4 : Int32).toInt) → ((v2 = 0) → ((0 : Int32) = 0 ∨ (0 : Int32) = 1) ∧ K (some (zI ((0 : Int32)))) M2) ∧ ((¬ v2 = 0) → (kd 9 = 8) ∧ ∃ b3 : List Int, ∃ T3 : Tk, (RpY M2 b3) ∧ (RpT2 (M2.1 9 0) b3 T3) ∧ (0 ≤ (3 : Int32).toInt ∧ (3 : Int32).toInt < 4) ∧ ∀ v3 : Int32, (v3 = zp (numIs T3 (0 : Int32).toInt (1 : Int32).toInt = true)) → ∀ M3 : zM, (tkP M2 M3 b3 T3 (3 : Int32).toInt.toNat (0 : Int32).toInt (1 : Int32).toInt) → ((¬ v3 = 0) → (kd 9 = 8) ∧ (kd 9 = 8) ∧ (zin (kd 9) 11 0 (0 : Int32)) ∧ (kd 9 = 8) ∧ (zin (kd 9) 11 0 (1 : Int32)) ∧ (kd 9 = 8) ∧ (zin (kd 9) 11 0 (2 : Int32)) ∧ (kd 9 = 8) ∧ (zin (kd 9) 11 0 (3 : Int32)) ∧ (kd 9 = 8) ∧ (10 = 1 ∨ 10 = 5 ∨ 10 = 10) ∧ ∃ a4 : Sk, (RpF (M3.1 9 10) a4) ∧ (isC (M3.1 9 11 ((0 : Int32)).toNatClampNeg).toInt) ∧ (sk_canR a4 (M3.1 9 11 ((0 : Int32)).toNatClampNeg).toInt = false) ∧ (sk_len a4 (M3.1 9 11 ((0 : Int32)).toNatClampNeg).toInt < 4) ∧ (0 ≤ (M3.1 9 11 ((1 : Int32)).toNatClampNeg).toInt ∧ (M3.1 9 11 ((1 : Int32)).toNatClampNeg).toInt ≤ 5) ∧ (0 ≤ (M3.1 9 11 ((2 : Int32)).toNatClampNeg).toInt ∧ (M3.1 9 11 ((2 : Int32)).toNatClampNeg).toInt ≤ 4) ∧ ((M3.1 9 11 ((3 : Int32)).toNatClampNeg).toInt = 0 ∨ (M3.1 9 11 ((3 : Int32)).toNatClampNeg).toInt = 1) ∧ ∀ v4 : Int32, (v4.toInt = sk_len a4 (M3.1 9 11 ((0 : Int32)).toNatClampNeg).toInt) → ∀ f4 : Nat → Int32, (RpF f4 (sk_wr a4 (M3.1 9 11 ((0 : Int32)).toNatClampNeg).toInt (M3.1 9 11 ((1 : Int32)).toNatClampNeg).toInt (M3.1 9 11 ((2 : Int32)).toNatClampNeg).toInt (M3.1 9 11 ((3 : Int32)).toNatClampNeg).toInt)) → (∀ j9, 127 ≤ j9 → f4 j9 = M3.1 9 10 j9) → ∀ M4 : zM, (M4 = zmw M3 9 10 f4) → ((v4 < 0) → ((0 : Int32) = 0 ∨ (0 : Int32) = 1) ∧ K (some (zI ((0 : Int32)))) M4) ∧ ((¬ v4 < 0) → ((1 : Int32) = 0 ∨ (1 : Int32) = 1) ∧ K (some (zI ((1 : Int32)))) M4)) ∧ ((v3 = 0) → ((0 : Int32) = 0 ∨ (0 : Int32) = 1) ∧ K (some (zI ((0 : Int32)))) M3))) from ⟨hk0, h.elim (fun b1 h => ⟨b1, h.elim (fun T1 h => ⟨T1, ⟨h.1, have h := h.2; ⟨h.1, have h := h.2; ⟨h.1, have h := h.2; fun v1 => have h := h v1; fun q => have h := h q; fun M1 => have h := h M1; fun q => have h := h q; ⟨fun q => have h := h.1 q; ⟨(Or.inl rfl), h⟩, fun q => have h := h.2 q; ⟨hk0, h.elim (fun b2 h => ⟨b2, h.elim (fun T2 h => ⟨T2, ⟨h.1, have h := h.2; ⟨h.1, have h := h.2; ⟨h.1, have h := h.2; fun v2 => have h := h v2; fun q => have h := h q; fun M2 => have h := h M2; fun q => have h := h q; ⟨fun q => have h := h.1 q; ⟨(Or.inl rfl), h⟩, fun q => have h := h.2 q; ⟨hk0, h.elim (fun b3 h => ⟨b3, h.elim (fun T3 h => ⟨T3, ⟨h.1, have h := h.2; ⟨h.1, have h := h.2; ⟨h.1, have h := h.2; fun v3 => have h := h v3; fun q => have h := h q; fun M3 => have h := h M3; fun q => have h := h q; ⟨fun q => have h := h.1 q; ⟨hk0, ⟨hk0, ⟨h.1, have h := h.2; ⟨hk0, ⟨h.1, have h := h.2; ⟨hk0, ⟨h.1, have h := h.2; ⟨hk0, ⟨h.1, have h := h.2; ⟨hk0, ⟨h.1, have h := h.2; h.elim (fun a4 h => ⟨a4, ⟨h.1, have h := h.2; ⟨h.1, have h := h.2; ⟨h.1, have h := h.2; ⟨h.1, have h := h.2; ⟨h.1, have h := h.2; ⟨h.1, have h := h.2; ⟨h.1, have h := h.2; fun v4 => have h := h v4; fun q => have h := h q; fun f4 => have h := h f4; fun q => have h := h q; fun q => have h := h q; fun M4 => have h := h M4; fun q => have h := h q; ⟨fun q => have h := h.1 q; ⟨(Or.inl rfl), h⟩, fun q => have h := h.2 q; ⟨(Or.inr rfl), h⟩⟩⟩⟩⟩⟩⟩⟩⟩⟩)⟩⟩⟩⟩⟩⟩⟩⟩⟩⟩⟩, fun q => have h := h.2 q; ⟨(Or.inl rfl), h⟩⟩⟩⟩⟩⟩)⟩)⟩⟩⟩⟩⟩⟩)⟩)⟩⟩⟩⟩⟩⟩)⟩)⟩)
def sp_X8_takesItem : zSpec := fun kd as M K => match as with
  | [.inr (.inr (.inl (9, 0)))] => (kd 9 = 8) ∧ ∃ b : List Int, ∃ T : Tk, (RpY M b) ∧ (RpT2 (M.1 9 0) b T) ∧ ∃ a : Sk, (RpF (M.1 9 10) a) ∧ ∀ v : Int32, (v = zp ((rdIt b T a).1 = true)) → ∀ M' : zM, (rdQ M M' b (rdIt b T a)) → K (some (.inl v)) M'
  | _ => False
theorem rv_X8_takesItem : zrv sp_X8_takesItem 8 0 := by
  intro kd as M K h
  unfold sp_X8_takesItem at h
  split at h
  · exact ⟨_, _, rfl, h.1⟩
  · exact h.elim
theorem dd_X8_takesItem_0 : decode cX8_takesItem 0 = .ok (.aload_n 0, 1) := by decide +kernel
theorem dd_X8_takesItem_1 : decode cX8_takesItem 1 = .ok (.iconst 5, 1) := by decide +kernel
theorem dd_X8_takesItem_2 : decode cX8_takesItem 2 = .ok (.bipush 119, 2) := by decide +kernel
theorem dd_X8_takesItem_4 : decode cX8_takesItem 4 = .ok (.bipush 114, 2) := by decide +kernel
theorem dd_X8_takesItem_6 : decode cX8_takesItem 6 = .ok (.bipush 105, 2) := by decide +kernel
theorem dd_X8_takesItem_8 : decode cX8_takesItem 8 = .ok (.bipush 116, 2) := by decide +kernel
theorem dd_X8_takesItem_10 : decode cX8_takesItem 10 = .ok (.bipush 101, 2) := by decide +kernel
theorem dd_X8_takesItem_12 : decode cX8_takesItem 12 = .ok (.invokevirtual 283, 3) := by decide +kernel
theorem dd_X8_takesItem_15 : decode cX8_takesItem 15 = .ok (.ifCond .eq 8, 3) := by decide +kernel
theorem dd_X8_takesItem_18 : decode cX8_takesItem 18 = .ok (.aload_n 0, 1) := by decide +kernel
theorem dd_X8_takesItem_19 : decode cX8_takesItem 19 = .ok (.invokevirtual 287, 3) := by decide +kernel
theorem dd_X8_takesItem_22 : decode cX8_takesItem 22 = .ok (.ireturn, 1) := by decide +kernel
theorem dd_X8_takesItem_23 : decode cX8_takesItem 23 = .ok (.aload_n 0, 1) := by decide +kernel
theorem dd_X8_takesItem_24 : decode cX8_takesItem 24 = .ok (.iconst 3, 1) := by decide +kernel
theorem dd_X8_takesItem_25 : decode cX8_takesItem 25 = .ok (.bipush 114, 2) := by decide +kernel
theorem dd_X8_takesItem_27 : decode cX8_takesItem 27 = .ok (.bipush 117, 2) := by decide +kernel
theorem dd_X8_takesItem_29 : decode cX8_takesItem 29 = .ok (.bipush 98, 2) := by decide +kernel
theorem dd_X8_takesItem_31 : decode cX8_takesItem 31 = .ok (.iconst 0, 1) := by decide +kernel
theorem dd_X8_takesItem_32 : decode cX8_takesItem 32 = .ok (.iconst 0, 1) := by decide +kernel
theorem dd_X8_takesItem_33 : decode cX8_takesItem 33 = .ok (.invokevirtual 283, 3) := by decide +kernel
theorem dd_X8_takesItem_36 : decode cX8_takesItem 36 = .ok (.ifCond .eq 8, 3) := by decide +kernel
theorem dd_X8_takesItem_39 : decode cX8_takesItem 39 = .ok (.aload_n 0, 1) := by decide +kernel
theorem dd_X8_takesItem_40 : decode cX8_takesItem 40 = .ok (.invokevirtual 291, 3) := by decide +kernel
theorem dd_X8_takesItem_43 : decode cX8_takesItem 43 = .ok (.ireturn, 1) := by decide +kernel
theorem dd_X8_takesItem_44 : decode cX8_takesItem 44 = .ok (.aload_n 0, 1) := by decide +kernel
theorem dd_X8_takesItem_45 : decode cX8_takesItem 45 = .ok (.iconst 5, 1) := by decide +kernel
theorem dd_X8_takesItem_46 : decode cX8_takesItem 46 = .ok (.bipush 121, 2) := by decide +kernel
theorem dd_X8_takesItem_48 : decode cX8_takesItem 48 = .ok (.bipush 101, 2) := by decide +kernel
theorem dd_X8_takesItem_50 : decode cX8_takesItem 50 = .ok (.bipush 97, 2) := by decide +kernel
theorem dd_X8_takesItem_52 : decode cX8_takesItem 52 = .ok (.bipush 114, 2) := by decide +kernel
theorem dd_X8_takesItem_54 : decode cX8_takesItem 54 = .ok (.bipush 115, 2) := by decide +kernel
theorem dd_X8_takesItem_56 : decode cX8_takesItem 56 = .ok (.invokevirtual 283, 3) := by decide +kernel
theorem dd_X8_takesItem_59 : decode cX8_takesItem 59 = .ok (.ifCond .eq 14, 3) := by decide +kernel
theorem dd_X8_takesItem_62 : decode cX8_takesItem 62 = .ok (.aload_n 0, 1) := by decide +kernel
theorem dd_X8_takesItem_63 : decode cX8_takesItem 63 = .ok (.invokevirtual 294, 3) := by decide +kernel
theorem dd_X8_takesItem_66 : decode cX8_takesItem 66 = .ok (.ifCond .eq 7, 3) := by decide +kernel
theorem dd_X8_takesItem_69 : decode cX8_takesItem 69 = .ok (.iconst 1, 1) := by decide +kernel
theorem dd_X8_takesItem_70 : decode cX8_takesItem 70 = .ok (.goto 4, 3) := by decide +kernel
theorem dd_X8_takesItem_73 : decode cX8_takesItem 73 = .ok (.iconst 0, 1) := by decide +kernel
theorem dd_X8_takesItem_74 : decode cX8_takesItem 74 = .ok (.ireturn, 1) := by decide +kernel
def tb_X8_takesItem (kd : Nat → Nat) (K : zK) : zTab := [(0, zt_aload 0 1), (1, zt_const (zI 5) 2), (2, zt_const (zI 119) 4), (4, zt_const (zI 114) 6), (6, zt_const (zI 105) 8), (8, zt_const (zI 116) 10), (10, zt_const (zI 101) 12), (12, zt_call kd sp_X8_isWord 7 15), (15, zt_if (fun x => x = 0) (fun x => ¬ x = 0) 23 18), (18, zt_aload 0 19), (19, zt_call kd sp_X8_takesWrite 1 22), (22, zt_zret K), (23, zt_aload 0 24), (24, zt_const (zI 3) 25), (25, zt_const (zI 114) 27), (27, zt_const (zI 117) 29), (29, zt_const (zI 98) 31), (31, zt_const (zI 0) 32), (32, zt_const (zI 0) 33), (33, zt_call kd sp_X8_isWord 7 36), (36, zt_if (fun x => x = 0) (fun x => ¬ x = 0) 44 39), (39, zt_aload 0 40), (40, zt_call kd sp_X8_takesRub 1 43), (43, zt_zret K), (44, zt_aload 0 45), (45, zt_const (zI 5) 46), (46, zt_const (zI 121) 48), (48, zt_const (zI 101) 50), (50, zt_const (zI 97) 52), (52, zt_const (zI 114) 54), (54, zt_const (zI 115) 56), (56, zt_call kd sp_X8_isWord 7 59), (59, zt_if (fun x => x = 0) (fun x => ¬ x = 0) 73 62), (62, zt_aload 0 63), (63, zt_call kd sp_X8_takesYears 1 66), (66, zt_if (fun x => x = 0) (fun x => ¬ x = 0) 73 69), (69, zt_const (zI 1) 70), (70, zt_goto 74), (73, zt_const (zI 0) 74), (74, zt_zret K)]
set_option maxRecDepth 20000 in
theorem tk_X8_takesItem (d : Nat) (h_X8_isWord : zMS 1 yX8_isWord cX8_isWord 9 (some .boolean) sp_X8_isWord) (h_X8_takesWrite : zMS 6 yX8_takesWrite cX8_takesWrite 2 (some .boolean) sp_X8_takesWrite) (h_X8_takesRub : zMS 6 yX8_takesRub cX8_takesRub 1 (some .boolean) sp_X8_takesRub) (h_X8_takesYears : zMS 6 yX8_takesYears cX8_takesYears 1 (some .boolean) sp_X8_takesYears) : zTrue RX8 cX8_takesItem 1 (some .boolean) (d + 7) (fun kd K => tb_X8_takesItem kd K) := by
  intro p l e R s m args below meth c D cy A ad bl Qm K C0 hr hlocks hQ
  obtain ⟨hx, hb, hml, hown, hts, hK, hD, hA0, hN, hE, ⟨hR1, hR2⟩, hc1, hc2⟩ := id C0
  unfold tb_X8_takesItem
  refine List.forall_mem_cons.mpr ⟨ok_aload_n hx hb rfl dd_X8_takesItem_0, ?_⟩
  refine List.forall_mem_cons.mpr ⟨ok_iconst hx hb dd_X8_takesItem_1 (by decide), ?_⟩
  refine List.forall_mem_cons.mpr ⟨ok_bipush hx hb dd_X8_takesItem_2 (by decide), ?_⟩
  refine List.forall_mem_cons.mpr ⟨ok_bipush hx hb dd_X8_takesItem_4 (by decide), ?_⟩
  refine List.forall_mem_cons.mpr ⟨ok_bipush hx hb dd_X8_takesItem_6 (by decide), ?_⟩
  refine List.forall_mem_cons.mpr ⟨ok_bipush hx hb dd_X8_takesItem_8 (by decide), ?_⟩
  refine List.forall_mem_cons.mpr ⟨ok_bipush hx hb dd_X8_takesItem_10 (by decide), ?_⟩
  refine List.forall_mem_cons.mpr ⟨ok_callV (n := 6) zc_X8 rv_X8_isWord C0 (h_X8_isWord (d + 6) (by omega)) (by decide) wd_1186 wd_1183 wd_1185 wd_89 wd_107 ⟨rfl, by decide +kernel, by decide +kernel, by decide +kernel⟩ dd_X8_takesItem_12, ?_⟩
  refine List.forall_mem_cons.mpr ⟨ok_if_eq hx hb dd_X8_takesItem_15 (by decide), ?_⟩
  refine List.forall_mem_cons.mpr ⟨ok_aload_n hx hb rfl dd_X8_takesItem_18, ?_⟩
  refine List.forall_mem_cons.mpr ⟨ok_callV (n := 0) zc_X8 rv_X8_takesWrite C0 (h_X8_takesWrite (d + 6) (by omega)) (by decide) wd_1198 wd_1195 wd_1197 wd_92 wd_107 ⟨rfl, by decide +kernel, by decide +kernel, by decide +kernel⟩ dd_X8_takesItem_19, ?_⟩
  refine List.forall_mem_cons.mpr ⟨ok_zret hx hb hr hlocks hQ dd_X8_takesItem_22, ?_⟩
  refine List.forall_mem_cons.mpr ⟨ok_aload_n hx hb rfl dd_X8_takesItem_23, ?_⟩
  refine List.forall_mem_cons.mpr ⟨ok_iconst hx hb dd_X8_takesItem_24 (by decide), ?_⟩
  refine List.forall_mem_cons.mpr ⟨ok_bipush hx hb dd_X8_takesItem_25 (by decide), ?_⟩
  refine List.forall_mem_cons.mpr ⟨ok_bipush hx hb dd_X8_takesItem_27 (by decide), ?_⟩
  refine List.forall_mem_cons.mpr ⟨ok_bipush hx hb dd_X8_takesItem_29 (by decide), ?_⟩
  refine List.forall_mem_cons.mpr ⟨ok_iconst hx hb dd_X8_takesItem_31 (by decide), ?_⟩
  refine List.forall_mem_cons.mpr ⟨ok_iconst hx hb dd_X8_takesItem_32 (by decide), ?_⟩
  refine List.forall_mem_cons.mpr ⟨ok_callV (n := 6) zc_X8 rv_X8_isWord C0 (h_X8_isWord (d + 6) (by omega)) (by decide) wd_1186 wd_1183 wd_1185 wd_89 wd_107 ⟨rfl, by decide +kernel, by decide +kernel, by decide +kernel⟩ dd_X8_takesItem_33, ?_⟩
  refine List.forall_mem_cons.mpr ⟨ok_if_eq hx hb dd_X8_takesItem_36 (by decide), ?_⟩
  refine List.forall_mem_cons.mpr ⟨ok_aload_n hx hb rfl dd_X8_takesItem_39, ?_⟩
  refine List.forall_mem_cons.mpr ⟨ok_callV (n := 0) zc_X8 rv_X8_takesRub C0 (h_X8_takesRub (d + 6) (by omega)) (by decide) wd_1206 wd_1203 wd_1205 wd_94 wd_107 ⟨rfl, by decide +kernel, by decide +kernel, by decide +kernel⟩ dd_X8_takesItem_40, ?_⟩
  refine List.forall_mem_cons.mpr ⟨ok_zret hx hb hr hlocks hQ dd_X8_takesItem_43, ?_⟩
  refine List.forall_mem_cons.mpr ⟨ok_aload_n hx hb rfl dd_X8_takesItem_44, ?_⟩
  refine List.forall_mem_cons.mpr ⟨ok_iconst hx hb dd_X8_takesItem_45 (by decide), ?_⟩
  refine List.forall_mem_cons.mpr ⟨ok_bipush hx hb dd_X8_takesItem_46 (by decide), ?_⟩
  refine List.forall_mem_cons.mpr ⟨ok_bipush hx hb dd_X8_takesItem_48 (by decide), ?_⟩
  refine List.forall_mem_cons.mpr ⟨ok_bipush hx hb dd_X8_takesItem_50 (by decide), ?_⟩
  refine List.forall_mem_cons.mpr ⟨ok_bipush hx hb dd_X8_takesItem_52 (by decide), ?_⟩
  refine List.forall_mem_cons.mpr ⟨ok_bipush hx hb dd_X8_takesItem_54 (by decide), ?_⟩
  refine List.forall_mem_cons.mpr ⟨ok_callV (n := 6) zc_X8 rv_X8_isWord C0 (h_X8_isWord (d + 6) (by omega)) (by decide) wd_1186 wd_1183 wd_1185 wd_89 wd_107 ⟨rfl, by decide +kernel, by decide +kernel, by decide +kernel⟩ dd_X8_takesItem_56, ?_⟩
  refine List.forall_mem_cons.mpr ⟨ok_if_eq hx hb dd_X8_takesItem_59 (by decide), ?_⟩
  refine List.forall_mem_cons.mpr ⟨ok_aload_n hx hb rfl dd_X8_takesItem_62, ?_⟩
  refine List.forall_mem_cons.mpr ⟨ok_callV (n := 0) zc_X8 rv_X8_takesYears C0 (h_X8_takesYears (d + 6) (by omega)) (by decide) wd_1210 wd_1207 wd_1209 wd_95 wd_107 ⟨rfl, by decide +kernel, by decide +kernel, by decide +kernel⟩ dd_X8_takesItem_63, ?_⟩
  refine List.forall_mem_cons.mpr ⟨ok_if_eq hx hb dd_X8_takesItem_66 (by decide), ?_⟩
  refine List.forall_mem_cons.mpr ⟨ok_iconst hx hb dd_X8_takesItem_69 (by decide), ?_⟩
  refine List.forall_mem_cons.mpr ⟨ok_goto hx hb dd_X8_takesItem_70 (by decide), ?_⟩
  refine List.forall_mem_cons.mpr ⟨ok_iconst hx hb dd_X8_takesItem_73 (by decide), ?_⟩
  refine List.forall_mem_cons.mpr ⟨ok_zret hx hb hr hlocks hQ dd_X8_takesItem_74, ?_⟩
  exact fun _ h => absurd h List.not_mem_nil
set_option maxRecDepth 100000 in
theorem vc_X8_takesItem_0 {kd : Nat → Nat} {K : zK} {X : zX} (hX : ∀ (n pc : Nat) (ls : zLS) (st : List zV) (M : zM), zrun (tb_X8_takesItem kd K) [] n X pc ls st M → X pc ls st M)  {M : zM} (hk0 : kd 9 = 8) (h : ∃ b1 : List Int, ∃ T1 : Tk, (RpY M b1) ∧ (RpT2 (M.1 9 0) b1 T1) ∧ ∃ w1 : Nat, ((20 ≤ w1 ∧ w1 < 24) ∧ (5 : Int32).toInt = ((wdI w1).length : Int) ∧ ∀ k9, k9 < (wdI w1).length → (wdI w1)[k9]? = some (wds (119 : Int32).toInt (114 : Int32).toInt (105 : Int32).toInt (116 : Int32).toInt (101 : Int32).toInt k9)) ∧ ∀ v1 : Int32, (v1 = zp (isWd b1 T1 w1 = true)) → ((v1 = 0) → ∃ b2 : List Int, ∃ T2 : Tk, (RpY M b2) ∧ (RpT2 (M.1 9 0) b2 T2) ∧ ∃ w2 : Nat, ((20 ≤ w2 ∧ w2 < 24) ∧ (3 : Int32).toInt = ((wdI w2).length : Int) ∧ ∀ k9, k9 < (wdI w2).length → (wdI w2)[k9]? = some (wds (114 : Int32).toInt (117 : Int32).toInt (98 : Int32).toInt (0 : Int32).toInt (0 : Int32).toInt k9)) ∧ ∀ v2 : Int32, (v2 = zp (isWd b2 T2 w2 = true)) → ((v2 = 0) → ∃ b3 : List Int, ∃ T3 : Tk, (RpY M b3) ∧ (RpT2 (M.1 9 0) b3 T3) ∧ ∃ w3 : Nat, ((20 ≤ w3 ∧ w3 < 24) ∧ (5 : Int32).toInt = ((wdI w3).length : Int) ∧ ∀ k9, k9 < (wdI w3).length → (wdI w3)[k9]? = some (wds (121 : Int32).toInt (101 : Int32).toInt (97 : Int32).toInt (114 : Int32).toInt (115 : Int32).toInt k9)) ∧ ∀ v3 : Int32, (v3 = zp (isWd b3 T3 w3 = true)) → ((v3 = 0) → K (some (zI ((0 : Int32)))) M) ∧ ((¬ v3 = 0) → ∃ b4 : List Int, ∃ T4 : Tk, (RpY M b4) ∧ (RpT2 (M.1 9 0) b4 T4) ∧ ∃ a4 : Sk, (RpF (M.1 9 10) a4) ∧ ∀ v4 : Int32, (v4 = zp ((rdYr b4 T4 a4).1 = true)) → ∀ M4 : zM, (rdQ M M4 b4 (rdYr b4 T4 a4)) → ((v4 = 0) → K (some (zI ((0 : Int32)))) M4) ∧ ((¬ v4 = 0) → K (some (zI ((1 : Int32)))) M4))) ∧ ((¬ v2 = 0) → ∃ b5 : List Int, ∃ T5 : Tk, (RpY M b5) ∧ (RpT2 (M.1 9 0) b5 T5) ∧ ∃ a5 : Sk, (RpF (M.1 9 10) a5) ∧ ∀ v5 : Int32, (v5 = zp ((rdRb b5 T5 a5).1 = true)) → ∀ M5 : zM, (rdQ M M5 b5 (rdRb b5 T5 a5)) → (v5 = 0 ∨ v5 = 1) ∧ K (some (zI (v5))) M5)) ∧ ((¬ v1 = 0) → ∃ b6 : List Int, ∃ T6 : Tk, (RpY M b6) ∧ (RpT2 (M.1 9 0) b6 T6) ∧ ∃ a6 : Sk, (RpF (M.1 9 10) a6) ∧ ∀ v6 : Int32, (v6 = zp ((rdWr b6 T6 a6).1 = true)) → ∀ M6 : zM, (rdQ M M6 b6 (rdWr b6 T6 a6)) → (v6 = 0 ∨ v6 = 1) ∧ K (some (zI (v6))) M6)) : X 0 [some (zR 9 0)] [] M := hX 34 0 _ [] M (show (kd 9 = 8) ∧ ∃ b1 : List Int, ∃ T1 : Tk, (RpY M b1) ∧ (RpT2 (M.1 9 0) b1 T1) ∧ ∃ w1 : Nat, ((20 ≤ w1 ∧ w1 < 24) ∧ (5 : Int32).toInt = ((wdI w1).length : Int) ∧ ∀ k9, k9 < (wdI w1).length → (wdI w1)[k9]? = some (wds (119 : Int32).toInt (114 : Int32).toInt (105 : Int32).toInt (116 : Int32).toInt (101 : Int32).toInt k9)) ∧ ∀ v1 : Int32, (v1 = zp (isWd b1 T1 w1 = true)) → ((v1 = 0) → (kd 9 = 8) ∧ ∃ b2 : List Int, ∃ T2 : Tk, (RpY M b2) ∧ (RpT2 (M.1 9 0) b2 T2) ∧ ∃ w2 : Nat, ((20 ≤ w2 ∧ w2 < 24) ∧ (3 : Int32).toInt = ((wdI w2).length : Int) ∧ ∀ k9, k9 < (wdI w2).length → (wdI w2)[k9]? = some (wds (114 : Int32).toInt (117 : Int32).toInt (98 : Int32).toInt (0 : Int32).toInt (0 : Int32).toInt k9)) ∧ ∀ v2 : Int32, (v2 = zp (isWd b2 T2 w2 = true)) → ((v2 = 0) → (kd 9 = 8) ∧ ∃ b3 : List Int, ∃ T3 : Tk, (RpY M b3) ∧ (RpT2 (M.1 9 0) b3 T3) ∧ ∃ w3 : Nat, ((20 ≤ w3 ∧ w3 < 24) ∧ (5 : Int32).toInt = ((wdI w3).length : Int) ∧ ∀ k9, k9 < (wdI w3).length → (wdI w3)[k9]? = some (wds (121 : Int32).toInt (101 : Int32).toInt (97 : Int32).toInt (114 : Int32).toInt (115 : Int32).toInt k9)) ∧ ∀ v3 : Int32, (v3 = zp (isWd b3 T3 w3 = true)) → ((v3 = 0) → ((0 : Int32) = 0 ∨ (0 : Int32) = 1) ∧ K (some (zI ((0 : Int32)))) M) ∧ ((¬ v3 = 0) → (kd 9 = 8) ∧ ∃ b4 : List Int, ∃ T4 : Tk, (RpY M b4) ∧ (RpT2 (M.1 9 0) b4 T4) ∧ ∃ a4 : Sk, (RpF (M.1 9 10) a4) ∧ ∀ v4 : Int32, (v4 = zp ((rdYr b4 T4 a4).1 = true)) → ∀ M4 : zM, (rdQ M M4 b4 (rdYr b4 T4 a4)) → ((v4 = 0) → ((0 : Int32) = 0 ∨ (0 : Int32) = 1) ∧ K (some (zI ((0 : Int32)))) M4) ∧ ((¬ v4 = 0) → ((1 : Int32) = 0 ∨ (1 : Int32) = 1) ∧ K (some (zI ((1 : Int32)))) M4))) ∧ ((¬ v2 = 0) → (kd 9 = 8) ∧ ∃ b5 : List Int, ∃ T5 : Tk, (RpY M b5) ∧ (RpT2 (M.1 9 0) b5 T5) ∧ ∃ a5 : Sk, (RpF (M.1 9 10) a5) ∧ ∀ v5 : Int32, (v5 = zp ((rdRb b5 T5 a5).1 = true)) → ∀ M5 : zM, (rdQ M M5 b5 (rdRb b5 T5 a5)) → (v5 = 0 ∨ v5 = 1) ∧ K (some (zI (v5))) M5)) ∧ ((¬ v1 = 0) → (kd 9 = 8) ∧ ∃ b6 : List Int, ∃ T6 : Tk, (RpY M b6) ∧ (RpT2 (M.1 9 0) b6 T6) ∧ ∃ a6 : Sk, (RpF (M.1 9 10) a6) ∧ ∀ v6 : Int32, (v6 = zp ((rdWr b6 T6 a6).1 = true)) → ∀ M6 : zM, (rdQ M M6 b6 (rdWr b6 T6 a6)) → (v6 = 0 ∨ v6 = 1) ∧ K (some (zI (v6))) M6) from ⟨hk0, h.elim (fun b1 h => ⟨b1, h.elim (fun T1 h => ⟨T1, ⟨h.1, have h := h.2; ⟨h.1, have h := h.2; h.elim (fun w1 h => ⟨w1, ⟨h.1, have h := h.2; fun v1 => have h := h v1; fun q => have h := h q; ⟨fun q => have h := h.1 q; ⟨hk0, h.elim (fun b2 h => ⟨b2, h.elim (fun T2 h => ⟨T2, ⟨h.1, have h := h.2; ⟨h.1, have h := h.2; h.elim (fun w2 h => ⟨w2, ⟨h.1, have h := h.2; fun v2 => have h := h v2; fun q => have h := h q; ⟨fun q => have h := h.1 q; ⟨hk0, h.elim (fun b3 h => ⟨b3, h.elim (fun T3 h => ⟨T3, ⟨h.1, have h := h.2; ⟨h.1, have h := h.2; h.elim (fun w3 h => ⟨w3, ⟨h.1, have h := h.2; fun v3 => have h := h v3; fun q => have h := h q; ⟨fun q => have h := h.1 q; ⟨(Or.inl rfl), h⟩, fun q => have h := h.2 q; ⟨hk0, h.elim (fun b4 h => ⟨b4, h.elim (fun T4 h => ⟨T4, ⟨h.1, have h := h.2; ⟨h.1, have h := h.2; h.elim (fun a4 h => ⟨a4, ⟨h.1, have h := h.2; fun v4 => have h := h v4; fun q => have h := h q; fun M4 => have h := h M4; fun q => have h := h q; ⟨fun q => have h := h.1 q; ⟨(Or.inl rfl), h⟩, fun q => have h := h.2 q; ⟨(Or.inr rfl), h⟩⟩⟩⟩)⟩⟩⟩)⟩)⟩⟩⟩⟩)⟩⟩⟩)⟩)⟩, fun q => have h := h.2 q; ⟨hk0, h.elim (fun b5 h => ⟨b5, h.elim (fun T5 h => ⟨T5, ⟨h.1, have h := h.2; ⟨h.1, have h := h.2; h.elim (fun a5 h => ⟨a5, ⟨h.1, have h := h.2; fun v5 => have h := h v5; fun q => have h := h q; fun M5 => have h := h M5; fun q => have h := h q; ⟨h.1, have h := h.2; h⟩⟩⟩)⟩⟩⟩)⟩)⟩⟩⟩⟩)⟩⟩⟩)⟩)⟩, fun q => have h := h.2 q; ⟨hk0, h.elim (fun b6 h => ⟨b6, h.elim (fun T6 h => ⟨T6, ⟨h.1, have h := h.2; ⟨h.1, have h := h.2; h.elim (fun a6 h => ⟨a6, ⟨h.1, have h := h.2; fun v6 => have h := h v6; fun q => have h := h q; fun M6 => have h := h M6; fun q => have h := h q; ⟨h.1, have h := h.2; h⟩⟩⟩)⟩⟩⟩)⟩)⟩⟩⟩⟩)⟩⟩⟩)⟩)⟩)
def sp_X8_read : zSpec := fun kd as M K => match as with
  | [.inr (.inr (.inl (9, 0)))] => (kd 9 = 8) ∧ ∃ s : St, (RpM M s) ∧ ∀ v : Int32, (v.toInt = (ev_read s).1) → ∀ M' : zM, (RpM M' (ev_read s).2) → (fr0 M M') → K (some (.inl v)) M'
  | _ => False
theorem rv_X8_read : zrv sp_X8_read 8 0 := by
  intro kd as M K h
  unfold sp_X8_read at h
  split at h
  · exact ⟨_, _, rfl, h.1⟩
  · exact h.elim
theorem dd_X8_read_0 : decode cX8_read 0 = .ok (.aload_n 0, 1) := by decide +kernel
theorem dd_X8_read_1 : decode cX8_read 1 = .ok (.iconst 0, 1) := by decide +kernel
theorem dd_X8_read_2 : decode cX8_read 2 = .ok (.invokevirtual 274, 3) := by decide +kernel
theorem dd_X8_read_5 : decode cX8_read 5 = .ok (.aload_n 0, 1) := by decide +kernel
theorem dd_X8_read_6 : decode cX8_read 6 = .ok (.iconst 4, 1) := by decide +kernel
theorem dd_X8_read_7 : decode cX8_read 7 = .ok (.bipush 114, 2) := by decide +kernel
theorem dd_X8_read_9 : decode cX8_read 9 = .ok (.bipush 111, 2) := by decide +kernel
theorem dd_X8_read_11 : decode cX8_read 11 = .ok (.bipush 108, 2) := by decide +kernel
theorem dd_X8_read_13 : decode cX8_read 13 = .ok (.bipush 108, 2) := by decide +kernel
theorem dd_X8_read_15 : decode cX8_read 15 = .ok (.iconst 0, 1) := by decide +kernel
theorem dd_X8_read_16 : decode cX8_read 16 = .ok (.invokevirtual 283, 3) := by decide +kernel
theorem dd_X8_read_19 : decode cX8_read 19 = .ok (.ifCond .ne 11, 3) := by decide +kernel
theorem dd_X8_read_22 : decode cX8_read 22 = .ok (.bipush (-10), 2) := by decide +kernel
theorem dd_X8_read_24 : decode cX8_read 24 = .ok (.aload_n 0, 1) := by decide +kernel
theorem dd_X8_read_25 : decode cX8_read 25 = .ok (.getfield 256, 3) := by decide +kernel
theorem dd_X8_read_28 : decode cX8_read 28 = .ok (.isub, 1) := by decide +kernel
theorem dd_X8_read_29 : decode cX8_read 29 = .ok (.ireturn, 1) := by decide +kernel
theorem dd_X8_read_30 : decode cX8_read 30 = .ok (.aload_n 0, 1) := by decide +kernel
theorem dd_X8_read_31 : decode cX8_read 31 = .ok (.invokevirtual 277, 3) := by decide +kernel
theorem dd_X8_read_34 : decode cX8_read 34 = .ok (.aload_n 0, 1) := by decide +kernel
theorem dd_X8_read_35 : decode cX8_read 35 = .ok (.getfield 262, 3) := by decide +kernel
theorem dd_X8_read_38 : decode cX8_read 38 = .ok (.iconst 3, 1) := by decide +kernel
theorem dd_X8_read_39 : decode cX8_read 39 = .ok (.if_icmp .eq 11, 3) := by decide +kernel
theorem dd_X8_read_42 : decode cX8_read 42 = .ok (.bipush (-10), 2) := by decide +kernel
theorem dd_X8_read_44 : decode cX8_read 44 = .ok (.aload_n 0, 1) := by decide +kernel
theorem dd_X8_read_45 : decode cX8_read 45 = .ok (.getfield 256, 3) := by decide +kernel
theorem dd_X8_read_48 : decode cX8_read 48 = .ok (.isub, 1) := by decide +kernel
theorem dd_X8_read_49 : decode cX8_read 49 = .ok (.ireturn, 1) := by decide +kernel
theorem dd_X8_read_50 : decode cX8_read 50 = .ok (.aload_n 0, 1) := by decide +kernel
theorem dd_X8_read_51 : decode cX8_read 51 = .ok (.invokevirtual 277, 3) := by decide +kernel
theorem dd_X8_read_54 : decode cX8_read 54 = .ok (.aload_n 0, 1) := by decide +kernel
theorem dd_X8_read_55 : decode cX8_read 55 = .ok (.getfield 42, 3) := by decide +kernel
theorem dd_X8_read_58 : decode cX8_read 58 = .ok (.invokestatic 48, 3) := by decide +kernel
theorem dd_X8_read_61 : decode cX8_read 61 = .ok (.iconst 1, 1) := by decide +kernel
theorem dd_X8_read_62 : decode cX8_read 62 = .ok (.istore_n 1, 1) := by decide +kernel
theorem dd_X8_read_63 : decode cX8_read 63 = .ok (.aload_n 0, 1) := by decide +kernel
theorem dd_X8_read_64 : decode cX8_read 64 = .ok (.getfield 262, 3) := by decide +kernel
theorem dd_X8_read_67 : decode cX8_read 67 = .ok (.ifCond .eq 36, 3) := by decide +kernel
theorem dd_X8_read_70 : decode cX8_read 70 = .ok (.aload_n 0, 1) := by decide +kernel
theorem dd_X8_read_71 : decode cX8_read 71 = .ok (.invokevirtual 297, 3) := by decide +kernel
theorem dd_X8_read_74 : decode cX8_read 74 = .ok (.ifCond .eq 11, 3) := by decide +kernel
theorem dd_X8_read_77 : decode cX8_read 77 = .ok (.aload_n 0, 1) := by decide +kernel
theorem dd_X8_read_78 : decode cX8_read 78 = .ok (.getfield 262, 3) := by decide +kernel
theorem dd_X8_read_81 : decode cX8_read 81 = .ok (.iconst 3, 1) := by decide +kernel
theorem dd_X8_read_82 : decode cX8_read 82 = .ok (.if_icmp .eq 11, 3) := by decide +kernel
theorem dd_X8_read_85 : decode cX8_read 85 = .ok (.bipush (-10), 2) := by decide +kernel
theorem dd_X8_read_87 : decode cX8_read 87 = .ok (.aload_n 0, 1) := by decide +kernel
theorem dd_X8_read_88 : decode cX8_read 88 = .ok (.getfield 256, 3) := by decide +kernel
theorem dd_X8_read_91 : decode cX8_read 91 = .ok (.isub, 1) := by decide +kernel
theorem dd_X8_read_92 : decode cX8_read 92 = .ok (.ireturn, 1) := by decide +kernel
theorem dd_X8_read_93 : decode cX8_read 93 = .ok (.aload_n 0, 1) := by decide +kernel
theorem dd_X8_read_94 : decode cX8_read 94 = .ok (.invokevirtual 277, 3) := by decide +kernel
theorem dd_X8_read_97 : decode cX8_read 97 = .ok (.iinc 1 1, 3) := by decide +kernel
theorem dd_X8_read_100 : decode cX8_read 100 = .ok (.goto (-37), 3) := by decide +kernel
theorem dd_X8_read_103 : decode cX8_read 103 = .ok (.iconst 0, 1) := by decide +kernel
theorem dd_X8_read_104 : decode cX8_read 104 = .ok (.istore_n 2, 1) := by decide +kernel
theorem dd_X8_read_105 : decode cX8_read 105 = .ok (.iload_n 2, 1) := by decide +kernel
theorem dd_X8_read_106 : decode cX8_read 106 = .ok (.sipush 153, 3) := by decide +kernel
theorem dd_X8_read_109 : decode cX8_read 109 = .ok (.if_icmp .ge 21, 3) := by decide +kernel
theorem dd_X8_read_112 : decode cX8_read 112 = .ok (.aload_n 0, 1) := by decide +kernel
theorem dd_X8_read_113 : decode cX8_read 113 = .ok (.getfield 7, 3) := by decide +kernel
theorem dd_X8_read_116 : decode cX8_read 116 = .ok (.iload_n 2, 1) := by decide +kernel
theorem dd_X8_read_117 : decode cX8_read 117 = .ok (.aload_n 0, 1) := by decide +kernel
theorem dd_X8_read_118 : decode cX8_read 118 = .ok (.getfield 42, 3) := by decide +kernel
theorem dd_X8_read_121 : decode cX8_read 121 = .ok (.iload_n 2, 1) := by decide +kernel
theorem dd_X8_read_122 : decode cX8_read 122 = .ok (.iaload, 1) := by decide +kernel
theorem dd_X8_read_123 : decode cX8_read 123 = .ok (.iastore, 1) := by decide +kernel
theorem dd_X8_read_124 : decode cX8_read 124 = .ok (.iinc 2 1, 3) := by decide +kernel
theorem dd_X8_read_127 : decode cX8_read 127 = .ok (.goto (-22), 3) := by decide +kernel
theorem dd_X8_read_130 : decode cX8_read 130 = .ok (.iload_n 1, 1) := by decide +kernel
theorem dd_X8_read_131 : decode cX8_read 131 = .ok (.ireturn, 1) := by decide +kernel
def tb_X8_read (kd : Nat → Nat) (K : zK) : zTab := [(0, zt_aload 0 1), (1, zt_const (zI 0) 2), (2, zt_call kd sp_X8_lookAt 2 5), (5, zt_aload 0 6), (6, zt_const (zI 4) 7), (7, zt_const (zI 114) 9), (9, zt_const (zI 111) 11), (11, zt_const (zI 108) 13), (13, zt_const (zI 108) 15), (15, zt_const (zI 0) 16), (16, zt_call kd sp_X8_isWord 7 19), (19, zt_if (fun x => ¬ x = 0) (fun x => x = 0) 30 22), (22, zt_const (zI (-10)) 24), (24, zt_aload 0 25), (25, zt_getI kd 8 17 28), (28, zt_bin (fun x y => x - y) 29), (29, zt_iret K), (30, zt_aload 0 31), (31, zt_call kd sp_X8_goBehind 1 34), (34, zt_aload 0 35), (35, zt_getI kd 8 19 38), (38, zt_const (zI 3) 39), (39, zt_icmp (fun x y => x = y) (fun x y => ¬ x = y) 50 42), (42, zt_const (zI (-10)) 44), (44, zt_aload 0 45), (45, zt_getI kd 8 17 48), (48, zt_bin (fun x y => x - y) 49), (49, zt_iret K), (50, zt_aload 0 51), (51, zt_call kd sp_X8_goBehind 1 54), (54, zt_aload 0 55), (55, zt_getR kd 8 0 10 58), (58, zt_call kd sp_X8_begin 1 61), (61, zt_const (zI 1) 62), (62, zt_istore 1 63), (63, zt_aload 0 64), (64, zt_getI kd 8 19 67), (67, zt_if (fun x => x = 0) (fun x => ¬ x = 0) 103 70), (70, zt_aload 0 71), (71, zt_call kd sp_X8_takesItem 1 74), (74, zt_if (fun x => x = 0) (fun x => ¬ x = 0) 85 77), (77, zt_aload 0 78), (78, zt_getI kd 8 19 81), (81, zt_const (zI 3) 82), (82, zt_icmp (fun x y => x = y) (fun x y => ¬ x = y) 93 85), (85, zt_const (zI (-10)) 87), (87, zt_aload 0 88), (88, zt_getI kd 8 17 91), (91, zt_bin (fun x y => x - y) 92), (92, zt_iret K), (93, zt_aload 0 94), (94, zt_call kd sp_X8_goBehind 1 97), (97, zt_iinc 1 1 100), (100, zt_goto 63), (103, zt_const (zI 0) 104), (104, zt_istore 2 105), (105, zt_iload 2 106), (106, zt_const (zI 153) 109), (109, zt_icmp (fun x y => y ≤ x) (fun x y => ¬ y ≤ x) 130 112), (112, zt_aload 0 113), (113, zt_getR kd 8 0 1 116), (116, zt_iload 2 117), (117, zt_aload 0 118), (118, zt_getR kd 8 0 10 121), (121, zt_iload 2 122), (122, zt_ald kd 0 123), (123, zt_ast kd 0 124), (124, zt_iinc 2 1 127), (127, zt_goto 105), (130, zt_iload 1 131), (131, zt_iret K)]
set_option maxRecDepth 20000 in
theorem tk_X8_read (d : Nat) (h_X8_lookAt : zMS 3 yX8_lookAt cX8_lookAt 5 none sp_X8_lookAt) (h_X8_isWord : zMS 1 yX8_isWord cX8_isWord 9 (some .boolean) sp_X8_isWord) (h_X8_goBehind : zMS 4 yX8_goBehind cX8_goBehind 1 none sp_X8_goBehind) (h_X8_begin : zMS 1 yX8_begin cX8_begin 2 none sp_X8_begin) (h_X8_takesItem : zMS 7 yX8_takesItem cX8_takesItem 1 (some .boolean) sp_X8_takesItem) : zTrue RX8 cX8_read 3 (some .int) (d + 8) (fun kd K => tb_X8_read kd K) := by
  intro p l e R s m args below meth c D cy A ad bl Qm K C0 hr hlocks hQ
  obtain ⟨hx, hb, hml, hown, hts, hK, hD, hA0, hN, hE, ⟨hR1, hR2⟩, hc1, hc2⟩ := id C0
  unfold tb_X8_read
  refine List.forall_mem_cons.mpr ⟨ok_aload_n hx hb rfl dd_X8_read_0, ?_⟩
  refine List.forall_mem_cons.mpr ⟨ok_iconst hx hb dd_X8_read_1 (by decide), ?_⟩
  refine List.forall_mem_cons.mpr ⟨ok_callV (n := 1) zc_X8 rv_X8_lookAt C0 (h_X8_lookAt (d + 7) (by omega)) (by decide) wd_1172 wd_1169 wd_1171 wd_88 wd_107 ⟨rfl, by decide +kernel, by decide +kernel, by decide +kernel⟩ dd_X8_read_2, ?_⟩
  refine List.forall_mem_cons.mpr ⟨ok_aload_n hx hb rfl dd_X8_read_5, ?_⟩
  refine List.forall_mem_cons.mpr ⟨ok_iconst hx hb dd_X8_read_6 (by decide), ?_⟩
  refine List.forall_mem_cons.mpr ⟨ok_bipush hx hb dd_X8_read_7 (by decide), ?_⟩
  refine List.forall_mem_cons.mpr ⟨ok_bipush hx hb dd_X8_read_9 (by decide), ?_⟩
  refine List.forall_mem_cons.mpr ⟨ok_bipush hx hb dd_X8_read_11 (by decide), ?_⟩
  refine List.forall_mem_cons.mpr ⟨ok_bipush hx hb dd_X8_read_13 (by decide), ?_⟩
  refine List.forall_mem_cons.mpr ⟨ok_iconst hx hb dd_X8_read_15 (by decide), ?_⟩
  refine List.forall_mem_cons.mpr ⟨ok_callV (n := 6) zc_X8 rv_X8_isWord C0 (h_X8_isWord (d + 7) (by omega)) (by decide) wd_1186 wd_1183 wd_1185 wd_89 wd_107 ⟨rfl, by decide +kernel, by decide +kernel, by decide +kernel⟩ dd_X8_read_16, ?_⟩
  refine List.forall_mem_cons.mpr ⟨ok_if_ne hx hb dd_X8_read_19 (by decide), ?_⟩
  refine List.forall_mem_cons.mpr ⟨ok_bipush hx hb dd_X8_read_22 (by decide), ?_⟩
  refine List.forall_mem_cons.mpr ⟨ok_aload_n hx hb rfl dd_X8_read_24, ?_⟩
  refine List.forall_mem_cons.mpr ⟨ok_getI (j := 17) hx hb hts zi_X8 hown hK zc_X8 (by decide) rfl (fun t fl h => by cases h; rfl) (hts _ wd_857) dd_X8_read_25, ?_⟩
  refine List.forall_mem_cons.mpr ⟨ok_isub hx hb dd_X8_read_28, ?_⟩
  refine List.forall_mem_cons.mpr ⟨ok_iret hx hb hr hlocks hQ dd_X8_read_29, ?_⟩
  refine List.forall_mem_cons.mpr ⟨ok_aload_n hx hb rfl dd_X8_read_30, ?_⟩
  refine List.forall_mem_cons.mpr ⟨ok_callV (n := 0) zc_X8 rv_X8_goBehind C0 (h_X8_goBehind (d + 7) (by omega)) (by decide) wd_1190 wd_1187 wd_1189 wd_90 wd_107 ⟨rfl, by decide +kernel, by decide +kernel, by decide +kernel⟩ dd_X8_read_31, ?_⟩
  refine List.forall_mem_cons.mpr ⟨ok_aload_n hx hb rfl dd_X8_read_34, ?_⟩
  refine List.forall_mem_cons.mpr ⟨ok_getI (j := 19) hx hb hts zi_X8 hown hK zc_X8 (by decide) rfl (fun t fl h => by cases h; rfl) (hts _ wd_859) dd_X8_read_35, ?_⟩
  refine List.forall_mem_cons.mpr ⟨ok_iconst hx hb dd_X8_read_38 (by decide), ?_⟩
  refine List.forall_mem_cons.mpr ⟨ok_icmp_eq hx hb dd_X8_read_39 (by decide), ?_⟩
  refine List.forall_mem_cons.mpr ⟨ok_bipush hx hb dd_X8_read_42 (by decide), ?_⟩
  refine List.forall_mem_cons.mpr ⟨ok_aload_n hx hb rfl dd_X8_read_44, ?_⟩
  refine List.forall_mem_cons.mpr ⟨ok_getI (j := 17) hx hb hts zi_X8 hown hK zc_X8 (by decide) rfl (fun t fl h => by cases h; rfl) (hts _ wd_857) dd_X8_read_45, ?_⟩
  refine List.forall_mem_cons.mpr ⟨ok_isub hx hb dd_X8_read_48, ?_⟩
  refine List.forall_mem_cons.mpr ⟨ok_iret hx hb hr hlocks hQ dd_X8_read_49, ?_⟩
  refine List.forall_mem_cons.mpr ⟨ok_aload_n hx hb rfl dd_X8_read_50, ?_⟩
  refine List.forall_mem_cons.mpr ⟨ok_callV (n := 0) zc_X8 rv_X8_goBehind C0 (h_X8_goBehind (d + 7) (by omega)) (by decide) wd_1190 wd_1187 wd_1189 wd_90 wd_107 ⟨rfl, by decide +kernel, by decide +kernel, by decide +kernel⟩ dd_X8_read_51, ?_⟩
  refine List.forall_mem_cons.mpr ⟨ok_aload_n hx hb rfl dd_X8_read_54, ?_⟩
  refine List.forall_mem_cons.mpr ⟨ok_getR (j := 21) hx hb hts zi_X8 hown hK zc_X8 (by decide) rfl (fun t fl h => by cases h; rfl) (hts _ wd_861) dd_X8_read_55, ?_⟩
  refine List.forall_mem_cons.mpr ⟨ok_callS (n := 1) C0 (h_X8_begin (d + 7) (by omega)) (by decide) wd_839 wd_837 wd_838 wd_107 ⟨by decide +kernel, by decide +kernel, by decide +kernel⟩ dd_X8_read_58, ?_⟩
  refine List.forall_mem_cons.mpr ⟨ok_iconst hx hb dd_X8_read_61 (by decide), ?_⟩
  refine List.forall_mem_cons.mpr ⟨ok_istore_n hx hb rfl dd_X8_read_62, ?_⟩
  refine List.forall_mem_cons.mpr ⟨ok_aload_n hx hb rfl dd_X8_read_63, ?_⟩
  refine List.forall_mem_cons.mpr ⟨ok_getI (j := 19) hx hb hts zi_X8 hown hK zc_X8 (by decide) rfl (fun t fl h => by cases h; rfl) (hts _ wd_859) dd_X8_read_64, ?_⟩
  refine List.forall_mem_cons.mpr ⟨ok_if_eq hx hb dd_X8_read_67 (by decide), ?_⟩
  refine List.forall_mem_cons.mpr ⟨ok_aload_n hx hb rfl dd_X8_read_70, ?_⟩
  refine List.forall_mem_cons.mpr ⟨ok_callV (n := 0) zc_X8 rv_X8_takesItem C0 (h_X8_takesItem (d + 7) (by omega)) (by decide) wd_1194 wd_1191 wd_1193 wd_91 wd_107 ⟨rfl, by decide +kernel, by decide +kernel, by decide +kernel⟩ dd_X8_read_71, ?_⟩
  refine List.forall_mem_cons.mpr ⟨ok_if_eq hx hb dd_X8_read_74 (by decide), ?_⟩
  refine List.forall_mem_cons.mpr ⟨ok_aload_n hx hb rfl dd_X8_read_77, ?_⟩
  refine List.forall_mem_cons.mpr ⟨ok_getI (j := 19) hx hb hts zi_X8 hown hK zc_X8 (by decide) rfl (fun t fl h => by cases h; rfl) (hts _ wd_859) dd_X8_read_78, ?_⟩
  refine List.forall_mem_cons.mpr ⟨ok_iconst hx hb dd_X8_read_81 (by decide), ?_⟩
  refine List.forall_mem_cons.mpr ⟨ok_icmp_eq hx hb dd_X8_read_82 (by decide), ?_⟩
  refine List.forall_mem_cons.mpr ⟨ok_bipush hx hb dd_X8_read_85 (by decide), ?_⟩
  refine List.forall_mem_cons.mpr ⟨ok_aload_n hx hb rfl dd_X8_read_87, ?_⟩
  refine List.forall_mem_cons.mpr ⟨ok_getI (j := 17) hx hb hts zi_X8 hown hK zc_X8 (by decide) rfl (fun t fl h => by cases h; rfl) (hts _ wd_857) dd_X8_read_88, ?_⟩
  refine List.forall_mem_cons.mpr ⟨ok_isub hx hb dd_X8_read_91, ?_⟩
  refine List.forall_mem_cons.mpr ⟨ok_iret hx hb hr hlocks hQ dd_X8_read_92, ?_⟩
  refine List.forall_mem_cons.mpr ⟨ok_aload_n hx hb rfl dd_X8_read_93, ?_⟩
  refine List.forall_mem_cons.mpr ⟨ok_callV (n := 0) zc_X8 rv_X8_goBehind C0 (h_X8_goBehind (d + 7) (by omega)) (by decide) wd_1190 wd_1187 wd_1189 wd_90 wd_107 ⟨rfl, by decide +kernel, by decide +kernel, by decide +kernel⟩ dd_X8_read_94, ?_⟩
  refine List.forall_mem_cons.mpr ⟨ok_iinc hx hb dd_X8_read_97 (by decide), ?_⟩
  refine List.forall_mem_cons.mpr ⟨ok_goto hx hb dd_X8_read_100 (by decide), ?_⟩
  refine List.forall_mem_cons.mpr ⟨ok_iconst hx hb dd_X8_read_103 (by decide), ?_⟩
  refine List.forall_mem_cons.mpr ⟨ok_istore_n hx hb rfl dd_X8_read_104, ?_⟩
  refine List.forall_mem_cons.mpr ⟨ok_iload_n hx hb rfl dd_X8_read_105, ?_⟩
  refine List.forall_mem_cons.mpr ⟨ok_sipush hx hb dd_X8_read_106 (by decide), ?_⟩
  refine List.forall_mem_cons.mpr ⟨ok_icmp_ge hx hb dd_X8_read_109 (by decide), ?_⟩
  refine List.forall_mem_cons.mpr ⟨ok_aload_n hx hb rfl dd_X8_read_112, ?_⟩
  refine List.forall_mem_cons.mpr ⟨ok_getR (j := 0) hx hb hts zi_X8 hown hK zc_X8 (by decide) rfl (fun t fl h => by cases h; rfl) (hts _ wd_840) dd_X8_read_113, ?_⟩
  refine List.forall_mem_cons.mpr ⟨ok_iload_n hx hb rfl dd_X8_read_116, ?_⟩
  refine List.forall_mem_cons.mpr ⟨ok_aload_n hx hb rfl dd_X8_read_117, ?_⟩
  refine List.forall_mem_cons.mpr ⟨ok_getR (j := 21) hx hb hts zi_X8 hown hK zc_X8 (by decide) rfl (fun t fl h => by cases h; rfl) (hts _ wd_861) dd_X8_read_118, ?_⟩
  refine List.forall_mem_cons.mpr ⟨ok_iload_n hx hb rfl dd_X8_read_121, ?_⟩
  refine List.forall_mem_cons.mpr ⟨ok_ald (ty := 0) rfl hx hb hK (Or.inl ⟨rfl, rfl, dd_X8_read_122⟩), ?_⟩
  refine List.forall_mem_cons.mpr ⟨ok_ast (ty := 0) rfl hx hb hK hD (Or.inl ⟨rfl, rfl, dd_X8_read_123⟩), ?_⟩
  refine List.forall_mem_cons.mpr ⟨ok_iinc hx hb dd_X8_read_124 (by decide), ?_⟩
  refine List.forall_mem_cons.mpr ⟨ok_goto hx hb dd_X8_read_127 (by decide), ?_⟩
  refine List.forall_mem_cons.mpr ⟨ok_iload_n hx hb rfl dd_X8_read_130, ?_⟩
  refine List.forall_mem_cons.mpr ⟨ok_iret hx hb hr hlocks hQ dd_X8_read_131, ?_⟩
  exact fun _ h => absurd h List.not_mem_nil
set_option maxRecDepth 100000 in
theorem vc_X8_read_0 {kd : Nat → Nat} {K : zK} {X : zX} (hX : ∀ (n pc : Nat) (ls : zLS) (st : List zV) (M : zM), zrun (tb_X8_read kd K) [(63, [2]), (105, [])] n X pc ls st M → X pc ls st M)  {M : zM} (hk0 : kd 9 = 8) (h : ∃ b1 : List Int, (RpY M b1) ∧ ∃ p1 : Nat, ((0 : Int32).toInt = (p1 : Int) ∧ p1 ≤ b1.length) ∧ ∀ f1 : Nat → Int32, (RpT2 f1 b1 (tok b1 p1) ∧ ∀ j9, j9 ≤ 16 → f1 j9 = M.1 9 0 j9) → ∀ M1 : zM, (M1 = zmw M 9 0 f1) → ∃ b2 : List Int, ∃ T2 : Tk, (RpY M1 b2) ∧ (RpT2 (M1.1 9 0) b2 T2) ∧ ∃ w2 : Nat, ((20 ≤ w2 ∧ w2 < 24) ∧ (4 : Int32).toInt = ((wdI w2).length : Int) ∧ ∀ k9, k9 < (wdI w2).length → (wdI w2)[k9]? = some (wds (114 : Int32).toInt (111 : Int32).toInt (108 : Int32).toInt (108 : Int32).toInt (0 : Int32).toInt k9)) ∧ ∀ v2 : Int32, (v2 = zp (isWd b2 T2 w2 = true)) → ((¬ v2 = 0) → ∃ b3 : List Int, ∃ T3 : Tk, (RpY M1 b3) ∧ (RpT2 (M1.1 9 0) b3 T3) ∧ ∀ f3 : Nat → Int32, (RpT2 f3 b3 (tok b3 T3.2.2.2) ∧ ∀ j9, j9 ≤ 16 → f3 j9 = M1.1 9 0 j9) → ∀ M3 : zM, (M3 = zmw M1 9 0 f3) → (((M3.1 9 0 19) = (3 : Int32)) → ∃ b4 : List Int, ∃ T4 : Tk, (RpY M3 b4) ∧ (RpT2 (M3.1 9 0) b4 T4) ∧ ∀ f4 : Nat → Int32, (RpT2 f4 b4 (tok b4 T4.2.2.2) ∧ ∀ j9, j9 ≤ 16 → f4 j9 = M3.1 9 0 j9) → ∀ M4 : zM, (M4 = zmw M3 9 0 f4) → (10 = 1 ∨ 10 = 10) ∧ ∀ f5 : Nat → Int32, (∀ j9, j9 < 153 → f5 j9 = 0) → (∀ j9, 153 ≤ j9 → f5 j9 = M4.1 9 10 j9) → ∀ M5 : zM, (M5 = zmw M4 9 10 f5) → X 63 [some (zR 9 0), some (zI ((1 : Int32))), none] [] M5) ∧ ((¬ (M3.1 9 0 19) = (3 : Int32)) → K (some (zI ((-10 : Int32) - (M3.1 9 0 17)))) M3)) ∧ ((v2 = 0) → K (some (zI ((-10 : Int32) - (M1.1 9 0 17)))) M1)) : X 0 [some (zR 9 0), none, none] [] M := hX 27 0 _ [] M (show (kd 9 = 8) ∧ ∃ b1 : List Int, (RpY M b1) ∧ ∃ p1 : Nat, ((0 : Int32).toInt = (p1 : Int) ∧ p1 ≤ b1.length) ∧ ∀ f1 : Nat → Int32, (RpT2 f1 b1 (tok b1 p1) ∧ ∀ j9, j9 ≤ 16 → f1 j9 = M.1 9 0 j9) → ∀ M1 : zM, (M1 = zmw M 9 0 f1) → (kd 9 = 8) ∧ ∃ b2 : List Int, ∃ T2 : Tk, (RpY M1 b2) ∧ (RpT2 (M1.1 9 0) b2 T2) ∧ ∃ w2 : Nat, ((20 ≤ w2 ∧ w2 < 24) ∧ (4 : Int32).toInt = ((wdI w2).length : Int) ∧ ∀ k9, k9 < (wdI w2).length → (wdI w2)[k9]? = some (wds (114 : Int32).toInt (111 : Int32).toInt (108 : Int32).toInt (108 : Int32).toInt (0 : Int32).toInt k9)) ∧ ∀ v2 : Int32, (v2 = zp (isWd b2 T2 w2 = true)) → ((¬ v2 = 0) → (kd 9 = 8) ∧ ∃ b3 : List Int, ∃ T3 : Tk, (RpY M1 b3) ∧ (RpT2 (M1.1 9 0) b3 T3) ∧ ∀ f3 : Nat → Int32, (RpT2 f3 b3 (tok b3 T3.2.2.2) ∧ ∀ j9, j9 ≤ 16 → f3 j9 = M1.1 9 0 j9) → ∀ M3 : zM, (M3 = zmw M1 9 0 f3) → (kd 9 = 8) ∧ (((M3.1 9 0 19) = (3 : Int32)) → (kd 9 = 8) ∧ ∃ b4 : List Int, ∃ T4 : Tk, (RpY M3 b4) ∧ (RpT2 (M3.1 9 0) b4 T4) ∧ ∀ f4 : Nat → Int32, (RpT2 f4 b4 (tok b4 T4.2.2.2) ∧ ∀ j9, j9 ≤ 16 → f4 j9 = M3.1 9 0 j9) → ∀ M4 : zM, (M4 = zmw M3 9 0 f4) → (kd 9 = 8) ∧ (kd 9 = 8) ∧ (10 = 1 ∨ 10 = 10) ∧ ∀ f5 : Nat → Int32, (∀ j9, j9 < 153 → f5 j9 = 0) → (∀ j9, 153 ≤ j9 → f5 j9 = M4.1 9 10 j9) → ∀ M5 : zM, (M5 = zmw M4 9 10 f5) → X 63 [some (zR 9 0), some (zI ((1 : Int32))), none] [] M5) ∧ ((¬ (M3.1 9 0 19) = (3 : Int32)) → (kd 9 = 8) ∧ K (some (zI ((-10 : Int32) - (M3.1 9 0 17)))) M3)) ∧ ((v2 = 0) → (kd 9 = 8) ∧ K (some (zI ((-10 : Int32) - (M1.1 9 0 17)))) M1) from ⟨hk0, h.elim (fun b1 h => ⟨b1, ⟨h.1, have h := h.2; h.elim (fun p1 h => ⟨p1, ⟨h.1, have h := h.2; fun f1 => have h := h f1; fun q => have h := h q; fun M1 => have h := h M1; fun q => have h := h q; ⟨hk0, h.elim (fun b2 h => ⟨b2, h.elim (fun T2 h => ⟨T2, ⟨h.1, have h := h.2; ⟨h.1, have h := h.2; h.elim (fun w2 h => ⟨w2, ⟨h.1, have h := h.2; fun v2 => have h := h v2; fun q => have h := h q; ⟨fun q => have h := h.1 q; ⟨hk0, h.elim (fun b3 h => ⟨b3, h.elim (fun T3 h => ⟨T3, ⟨h.1, have h := h.2; ⟨h.1, have h := h.2; fun f3 => have h := h f3; fun q => have h := h q; fun M3 => have h := h M3; fun q => have h := h q; ⟨hk0, ⟨fun q => have h := h.1 q; ⟨hk0, h.elim (fun b4 h => ⟨b4, h.elim (fun T4 h => ⟨T4, ⟨h.1, have h := h.2; ⟨h.1, have h := h.2; fun f4 => have h := h f4; fun q => have h := h q; fun M4 => have h := h M4; fun q => have h := h q; ⟨hk0, ⟨hk0, ⟨h.1, have h := h.2; fun f5 => have h := h f5; fun q => have h := h q; fun q => have h := h q; fun M5 => have h := h M5; fun q => have h := h q; h⟩⟩⟩⟩⟩⟩)⟩)⟩, fun q => have h := h.2 q; ⟨hk0, h⟩⟩⟩⟩⟩⟩)⟩)⟩, fun q => have h := h.2 q; ⟨hk0, h⟩⟩⟩⟩)⟩⟩⟩)⟩)⟩⟩⟩)⟩⟩)⟩)
set_option maxRecDepth 100000 in
theorem vc_X8_read_63 {kd : Nat → Nat} {K : zK} {X : zX} (hX : ∀ (n pc : Nat) (ls : zLS) (st : List zV) (M : zM), zrun (tb_X8_read kd K) [(63, [2]), (105, [])] n X pc ls st M → X pc ls st M) {n : Int32} {M : zM} (hk0 : kd 9 = 8) (h : (((M.1 9 0 19) = 0) → X 105 [some (zR 9 0), some (zI (n)), some (zI ((0 : Int32)))] [] M) ∧ ((¬ (M.1 9 0 19) = 0) → ∃ b1 : List Int, ∃ T1 : Tk, (RpY M b1) ∧ (RpT2 (M.1 9 0) b1 T1) ∧ ∃ a1 : Sk, (RpF (M.1 9 10) a1) ∧ ∀ v1 : Int32, (v1 = zp ((rdIt b1 T1 a1).1 = true)) → ∀ M1 : zM, (rdQ M M1 b1 (rdIt b1 T1 a1)) → ((v1 = 0) → K (some (zI ((-10 : Int32) - (M1.1 9 0 17)))) M1) ∧ ((¬ v1 = 0) → (((M1.1 9 0 19) = (3 : Int32)) → ∃ b2 : List Int, ∃ T2 : Tk, (RpY M1 b2) ∧ (RpT2 (M1.1 9 0) b2 T2) ∧ ∀ f2 : Nat → Int32, (RpT2 f2 b2 (tok b2 T2.2.2.2) ∧ ∀ j9, j9 ≤ 16 → f2 j9 = M1.1 9 0 j9) → ∀ M2 : zM, (M2 = zmw M1 9 0 f2) → X 63 [some (zR 9 0), some (zI (n + 1)), none] [] M2) ∧ ((¬ (M1.1 9 0 19) = (3 : Int32)) → K (some (zI ((-10 : Int32) - (M1.1 9 0 17)))) M1)))) : X 63 [some (zR 9 0), some (zI (n)), none] [] M := hX 16 63 _ [] M (show (kd 9 = 8) ∧ (((M.1 9 0 19) = 0) → X 105 [some (zR 9 0), some (zI (n)), some (zI ((0 : Int32)))] [] M) ∧ ((¬ (M.1 9 0 19) = 0) → (kd 9 = 8) ∧ ∃ b1 : List Int, ∃ T1 : Tk, (RpY M b1) ∧ (RpT2 (M.1 9 0) b1 T1) ∧ ∃ a1 : Sk, (RpF (M.1 9 10) a1) ∧ ∀ v1 : Int32, (v1 = zp ((rdIt b1 T1 a1).1 = true)) → ∀ M1 : zM, (rdQ M M1 b1 (rdIt b1 T1 a1)) → ((v1 = 0) → (kd 9 = 8) ∧ K (some (zI ((-10 : Int32) - (M1.1 9 0 17)))) M1) ∧ ((¬ v1 = 0) → (kd 9 = 8) ∧ (((M1.1 9 0 19) = (3 : Int32)) → (kd 9 = 8) ∧ ∃ b2 : List Int, ∃ T2 : Tk, (RpY M1 b2) ∧ (RpT2 (M1.1 9 0) b2 T2) ∧ ∀ f2 : Nat → Int32, (RpT2 f2 b2 (tok b2 T2.2.2.2) ∧ ∀ j9, j9 ≤ 16 → f2 j9 = M1.1 9 0 j9) → ∀ M2 : zM, (M2 = zmw M1 9 0 f2) → X 63 [some (zR 9 0), some (zI (n + 1)), none] [] M2) ∧ ((¬ (M1.1 9 0 19) = (3 : Int32)) → (kd 9 = 8) ∧ K (some (zI ((-10 : Int32) - (M1.1 9 0 17)))) M1))) from ⟨hk0, ⟨fun q => have h := h.1 q; h, fun q => have h := h.2 q; ⟨hk0, h.elim (fun b1 h => ⟨b1, h.elim (fun T1 h => ⟨T1, ⟨h.1, have h := h.2; ⟨h.1, have h := h.2; h.elim (fun a1 h => ⟨a1, ⟨h.1, have h := h.2; fun v1 => have h := h v1; fun q => have h := h q; fun M1 => have h := h M1; fun q => have h := h q; ⟨fun q => have h := h.1 q; ⟨hk0, h⟩, fun q => have h := h.2 q; ⟨hk0, ⟨fun q => have h := h.1 q; ⟨hk0, h.elim (fun b2 h => ⟨b2, h.elim (fun T2 h => ⟨T2, ⟨h.1, have h := h.2; ⟨h.1, have h := h.2; fun f2 => have h := h f2; fun q => have h := h q; fun M2 => have h := h M2; fun q => have h := h q; h⟩⟩⟩)⟩)⟩, fun q => have h := h.2 q; ⟨hk0, h⟩⟩⟩⟩⟩⟩)⟩⟩⟩)⟩)⟩⟩⟩)
set_option maxRecDepth 100000 in
theorem vc_X8_read_105 {kd : Nat → Nat} {K : zK} {X : zX} (hX : ∀ (n pc : Nat) (ls : zLS) (st : List zV) (M : zM), zrun (tb_X8_read kd K) [(63, [2]), (105, [])] n X pc ls st M → X pc ls st M) {n : Int32} {k : Int32} {M : zM} (hk0 : kd 9 = 8) (h : (((153 : Int32) ≤ k) → K (some (zI (n))) M) ∧ ((¬ (153 : Int32) ≤ k) → (zin (kd 9) 10 0 k) ∧ (zin (kd 9) 1 0 k) ∧ ∀ M1 : zM, (M1 = zmw M 9 1 (upd (M.1 9 1) (k).toNatClampNeg (M.1 9 10 (k).toNatClampNeg))) → X 105 [some (zR 9 0), some (zI (n)), some (zI (k + 1))] [] M1)) : X 105 [some (zR 9 0), some (zI (n)), some (zI (k))] [] M := hX 15 105 _ [] M (show (((153 : Int32) ≤ k) → K (some (zI (n))) M) ∧ ((¬ (153 : Int32) ≤ k) → (kd 9 = 8) ∧ (kd 9 = 8) ∧ (zin (kd 9) 10 0 k) ∧ (zin (kd 9) 1 0 k) ∧ ∀ M1 : zM, (M1 = zmw M 9 1 (upd (M.1 9 1) (k).toNatClampNeg (M.1 9 10 (k).toNatClampNeg))) → X 105 [some (zR 9 0), some (zI (n)), some (zI (k + 1))] [] M1) from ⟨fun q => have h := h.1 q; h, fun q => have h := h.2 q; ⟨hk0, ⟨hk0, ⟨h.1, have h := h.2; ⟨h.1, have h := h.2; fun M1 => have h := h M1; fun q => have h := h q; h⟩⟩⟩⟩⟩)
