theorem dX11_init_0 : decode cX11_init 0 = .ok (.aload_n 0, 1) := by decide +kernel
theorem dX11_init_1 : decode cX11_init 1 = .ok (.invokespecial 1, 3) := by decide +kernel
theorem dX11_init_4 : decode cX11_init 4 = .ok (.aload_n 0, 1) := by decide +kernel
theorem dX11_init_5 : decode cX11_init 5 = .ok (.iconst 3, 1) := by decide +kernel
theorem dX11_init_6 : decode cX11_init 6 = .ok (.anewarray 7, 3) := by decide +kernel
theorem dX11_init_9 : decode cX11_init 9 = .ok (.dup, 1) := by decide +kernel
theorem dX11_init_10 : decode cX11_init 10 = .ok (.iconst 0, 1) := by decide +kernel
theorem dX11_init_11 : decode cX11_init 11 = .ok (.new 7, 3) := by decide +kernel
theorem dX11_init_14 : decode cX11_init 14 = .ok (.dup, 1) := by decide +kernel
theorem dX11_init_15 : decode cX11_init 15 = .ok (.bipush 41, 2) := by decide +kernel
theorem dX11_init_17 : decode cX11_init 17 = .ok (.invokespecial 9, 3) := by decide +kernel
theorem dX11_init_20 : decode cX11_init 20 = .ok (.aastore, 1) := by decide +kernel
theorem dX11_init_21 : decode cX11_init 21 = .ok (.dup, 1) := by decide +kernel
theorem dX11_init_22 : decode cX11_init 22 = .ok (.iconst 1, 1) := by decide +kernel
theorem dX11_init_23 : decode cX11_init 23 = .ok (.new 7, 3) := by decide +kernel
theorem dX11_init_26 : decode cX11_init 26 = .ok (.dup, 1) := by decide +kernel
theorem dX11_init_27 : decode cX11_init 27 = .ok (.bipush 47, 2) := by decide +kernel
theorem dX11_init_29 : decode cX11_init 29 = .ok (.invokespecial 9, 3) := by decide +kernel
theorem dX11_init_32 : decode cX11_init 32 = .ok (.aastore, 1) := by decide +kernel
theorem dX11_init_33 : decode cX11_init 33 = .ok (.dup, 1) := by decide +kernel
theorem dX11_init_34 : decode cX11_init 34 = .ok (.iconst 2, 1) := by decide +kernel
theorem dX11_init_35 : decode cX11_init 35 = .ok (.new 7, 3) := by decide +kernel
theorem dX11_init_38 : decode cX11_init 38 = .ok (.dup, 1) := by decide +kernel
theorem dX11_init_39 : decode cX11_init 39 = .ok (.bipush 55, 2) := by decide +kernel
theorem dX11_init_41 : decode cX11_init 41 = .ok (.invokespecial 9, 3) := by decide +kernel
theorem dX11_init_44 : decode cX11_init 44 = .ok (.aastore, 1) := by decide +kernel
theorem dX11_init_45 : decode cX11_init 45 = .ok (.putfield 14, 3) := by decide +kernel
theorem dX11_init_48 : decode cX11_init 48 = .ok (.aload_n 0, 1) := by decide +kernel
theorem dX11_init_49 : decode cX11_init 49 = .ok (.iconst 3, 1) := by decide +kernel
theorem dX11_init_50 : decode cX11_init 50 = .ok (.newarray .int, 2) := by decide +kernel
theorem dX11_init_52 : decode cX11_init 52 = .ok (.dup, 1) := by decide +kernel
theorem dX11_init_53 : decode cX11_init 53 = .ok (.iconst 0, 1) := by decide +kernel
theorem dX11_init_54 : decode cX11_init 54 = .ok (.iconst (-1), 1) := by decide +kernel
theorem dX11_init_55 : decode cX11_init 55 = .ok (.iastore, 1) := by decide +kernel
theorem dX11_init_56 : decode cX11_init 56 = .ok (.dup, 1) := by decide +kernel
theorem dX11_init_57 : decode cX11_init 57 = .ok (.iconst 1, 1) := by decide +kernel
theorem dX11_init_58 : decode cX11_init 58 = .ok (.iconst (-1), 1) := by decide +kernel
theorem dX11_init_59 : decode cX11_init 59 = .ok (.iastore, 1) := by decide +kernel
theorem dX11_init_60 : decode cX11_init 60 = .ok (.dup, 1) := by decide +kernel
theorem dX11_init_61 : decode cX11_init 61 = .ok (.iconst 2, 1) := by decide +kernel
theorem dX11_init_62 : decode cX11_init 62 = .ok (.iconst (-1), 1) := by decide +kernel
theorem dX11_init_63 : decode cX11_init 63 = .ok (.iastore, 1) := by decide +kernel
theorem dX11_init_64 : decode cX11_init 64 = .ok (.putfield 18, 3) := by decide +kernel
theorem dX11_init_67 : decode cX11_init 67 = .ok (.aload_n 0, 1) := by decide +kernel
theorem dX11_init_68 : decode cX11_init 68 = .ok (.new 22, 3) := by decide +kernel
theorem dX11_init_71 : decode cX11_init 71 = .ok (.dup, 1) := by decide +kernel
theorem dX11_init_72 : decode cX11_init 72 = .ok (.invokespecial 24, 3) := by decide +kernel
theorem dX11_init_75 : decode cX11_init 75 = .ok (.putfield 25, 3) := by decide +kernel
theorem dX11_init_78 : decode cX11_init 78 = .ok (.aload_n 0, 1) := by decide +kernel
theorem dX11_init_79 : decode cX11_init 79 = .ok (.new 29, 3) := by decide +kernel
theorem dX11_init_82 : decode cX11_init 82 = .ok (.dup, 1) := by decide +kernel
theorem dX11_init_83 : decode cX11_init 83 = .ok (.invokespecial 31, 3) := by decide +kernel
theorem dX11_init_86 : decode cX11_init 86 = .ok (.putfield 32, 3) := by decide +kernel
theorem dX11_init_89 : decode cX11_init 89 = .ok (.aload_n 0, 1) := by decide +kernel
theorem dX11_init_90 : decode cX11_init 90 = .ok (.new 36, 3) := by decide +kernel
theorem dX11_init_93 : decode cX11_init 93 = .ok (.dup, 1) := by decide +kernel
theorem dX11_init_94 : decode cX11_init 94 = .ok (.invokespecial 38, 3) := by decide +kernel
theorem dX11_init_97 : decode cX11_init 97 = .ok (.putfield 39, 3) := by decide +kernel
theorem dX11_init_100 : decode cX11_init 100 = .ok (.aload_n 0, 1) := by decide +kernel
theorem dX11_init_101 : decode cX11_init 101 = .ok (.new 43, 3) := by decide +kernel
theorem dX11_init_104 : decode cX11_init 104 = .ok (.dup, 1) := by decide +kernel
theorem dX11_init_105 : decode cX11_init 105 = .ok (.invokespecial 45, 3) := by decide +kernel
theorem dX11_init_108 : decode cX11_init 108 = .ok (.putfield 46, 3) := by decide +kernel
theorem dX11_init_111 : decode cX11_init 111 = .ok (.aload_n 0, 1) := by decide +kernel
theorem dX11_init_112 : decode cX11_init 112 = .ok (.new 50, 3) := by decide +kernel
theorem dX11_init_115 : decode cX11_init 115 = .ok (.dup, 1) := by decide +kernel
theorem dX11_init_116 : decode cX11_init 116 = .ok (.invokespecial 52, 3) := by decide +kernel
theorem dX11_init_119 : decode cX11_init 119 = .ok (.putfield 53, 3) := by decide +kernel
theorem dX11_init_122 : decode cX11_init 122 = .ok (.aload_n 0, 1) := by decide +kernel
theorem dX11_init_123 : decode cX11_init 123 = .ok (.iconst 4, 1) := by decide +kernel
theorem dX11_init_124 : decode cX11_init 124 = .ok (.anewarray 57, 3) := by decide +kernel
theorem dX11_init_127 : decode cX11_init 127 = .ok (.putfield 59, 3) := by decide +kernel
theorem dX11_init_130 : decode cX11_init 130 = .ok (.iconst 0, 1) := by decide +kernel
theorem dX11_init_131 : decode cX11_init 131 = .ok (.istore_n 1, 1) := by decide +kernel
theorem dX11_init_132 : decode cX11_init 132 = .ok (.iload_n 1, 1) := by decide +kernel
theorem dX11_init_133 : decode cX11_init 133 = .ok (.iconst 4, 1) := by decide +kernel
theorem dX11_init_134 : decode cX11_init 134 = .ok (.if_icmp .ge 22, 3) := by decide +kernel
theorem dX11_init_137 : decode cX11_init 137 = .ok (.aload_n 0, 1) := by decide +kernel
theorem dX11_init_138 : decode cX11_init 138 = .ok (.getfield 59, 3) := by decide +kernel
theorem dX11_init_141 : decode cX11_init 141 = .ok (.iload_n 1, 1) := by decide +kernel
theorem dX11_init_142 : decode cX11_init 142 = .ok (.new 57, 3) := by decide +kernel
theorem dX11_init_145 : decode cX11_init 145 = .ok (.dup, 1) := by decide +kernel
theorem dX11_init_146 : decode cX11_init 146 = .ok (.invokespecial 63, 3) := by decide +kernel
theorem dX11_init_149 : decode cX11_init 149 = .ok (.aastore, 1) := by decide +kernel
theorem dX11_init_150 : decode cX11_init 150 = .ok (.iinc 1 1, 3) := by decide +kernel
theorem dX11_init_153 : decode cX11_init 153 = .ok (.goto (-21), 3) := by decide +kernel
theorem dX11_init_156 : decode cX11_init 156 = .ok (.aload_n 0, 1) := by decide +kernel
theorem dX11_init_157 : decode cX11_init 157 = .ok (.bipush 8, 2) := by decide +kernel
theorem dX11_init_159 : decode cX11_init 159 = .ok (.anewarray 64, 3) := by decide +kernel
theorem dX11_init_162 : decode cX11_init 162 = .ok (.putfield 66, 3) := by decide +kernel
theorem dX11_init_165 : decode cX11_init 165 = .ok (.iconst 0, 1) := by decide +kernel
theorem dX11_init_166 : decode cX11_init 166 = .ok (.istore_n 1, 1) := by decide +kernel
theorem dX11_init_167 : decode cX11_init 167 = .ok (.iload_n 1, 1) := by decide +kernel
theorem dX11_init_168 : decode cX11_init 168 = .ok (.bipush 8, 2) := by decide +kernel
theorem dX11_init_170 : decode cX11_init 170 = .ok (.if_icmp .ge 22, 3) := by decide +kernel
theorem dX11_init_173 : decode cX11_init 173 = .ok (.aload_n 0, 1) := by decide +kernel
theorem dX11_init_174 : decode cX11_init 174 = .ok (.getfield 66, 3) := by decide +kernel
theorem dX11_init_177 : decode cX11_init 177 = .ok (.iload_n 1, 1) := by decide +kernel
theorem dX11_init_178 : decode cX11_init 178 = .ok (.new 64, 3) := by decide +kernel
theorem dX11_init_181 : decode cX11_init 181 = .ok (.dup, 1) := by decide +kernel
theorem dX11_init_182 : decode cX11_init 182 = .ok (.invokespecial 70, 3) := by decide +kernel
theorem dX11_init_185 : decode cX11_init 185 = .ok (.aastore, 1) := by decide +kernel
theorem dX11_init_186 : decode cX11_init 186 = .ok (.iinc 1 1, 3) := by decide +kernel
theorem dX11_init_189 : decode cX11_init 189 = .ok (.goto (-22), 3) := by decide +kernel
theorem dX11_init_192 : decode cX11_init 192 = .ok (.aload_n 0, 1) := by decide +kernel
theorem dX11_init_193 : decode cX11_init 193 = .ok (.new 64, 3) := by decide +kernel
theorem dX11_init_196 : decode cX11_init 196 = .ok (.dup, 1) := by decide +kernel
theorem dX11_init_197 : decode cX11_init 197 = .ok (.invokespecial 70, 3) := by decide +kernel
theorem dX11_init_200 : decode cX11_init 200 = .ok (.putfield 71, 3) := by decide +kernel
theorem dX11_init_203 : decode cX11_init 203 = .ok (.aload_n 0, 1) := by decide +kernel
theorem dX11_init_204 : decode cX11_init 204 = .ok (.new 75, 3) := by decide +kernel
theorem dX11_init_207 : decode cX11_init 207 = .ok (.dup, 1) := by decide +kernel
theorem dX11_init_208 : decode cX11_init 208 = .ok (.aload_n 0, 1) := by decide +kernel
theorem dX11_init_209 : decode cX11_init 209 = .ok (.getfield 25, 3) := by decide +kernel
theorem dX11_init_212 : decode cX11_init 212 = .ok (.aload_n 0, 1) := by decide +kernel
theorem dX11_init_213 : decode cX11_init 213 = .ok (.getfield 32, 3) := by decide +kernel
theorem dX11_init_216 : decode cX11_init 216 = .ok (.invokespecial 77, 3) := by decide +kernel
theorem dX11_init_219 : decode cX11_init 219 = .ok (.putfield 80, 3) := by decide +kernel
theorem dX11_init_222 : decode cX11_init 222 = .ok (.aload_n 0, 1) := by decide +kernel
theorem dX11_init_223 : decode cX11_init 223 = .ok (.new 84, 3) := by decide +kernel
theorem dX11_init_226 : decode cX11_init 226 = .ok (.dup, 1) := by decide +kernel
theorem dX11_init_227 : decode cX11_init 227 = .ok (.aload_n 0, 1) := by decide +kernel
theorem dX11_init_228 : decode cX11_init 228 = .ok (.getfield 25, 3) := by decide +kernel
theorem dX11_init_231 : decode cX11_init 231 = .ok (.aload_n 0, 1) := by decide +kernel
theorem dX11_init_232 : decode cX11_init 232 = .ok (.getfield 32, 3) := by decide +kernel
theorem dX11_init_235 : decode cX11_init 235 = .ok (.invokespecial 86, 3) := by decide +kernel
theorem dX11_init_238 : decode cX11_init 238 = .ok (.putfield 87, 3) := by decide +kernel
theorem dX11_init_241 : decode cX11_init 241 = .ok (.aload_n 0, 1) := by decide +kernel
theorem dX11_init_242 : decode cX11_init 242 = .ok (.new 91, 3) := by decide +kernel
theorem dX11_init_245 : decode cX11_init 245 = .ok (.dup, 1) := by decide +kernel
theorem dX11_init_246 : decode cX11_init 246 = .ok (.invokespecial 93, 3) := by decide +kernel
theorem dX11_init_249 : decode cX11_init 249 = .ok (.putfield 94, 3) := by decide +kernel
theorem dX11_init_252 : decode cX11_init 252 = .ok (.aload_n 0, 1) := by decide +kernel
theorem dX11_init_253 : decode cX11_init 253 = .ok (.iconst 3, 1) := by decide +kernel
theorem dX11_init_254 : decode cX11_init 254 = .ok (.newarray .int, 2) := by decide +kernel
theorem dX11_init_256 : decode cX11_init 256 = .ok (.dup, 1) := by decide +kernel
theorem dX11_init_257 : decode cX11_init 257 = .ok (.iconst 0, 1) := by decide +kernel
theorem dX11_init_258 : decode cX11_init 258 = .ok (.iconst (-1), 1) := by decide +kernel
theorem dX11_init_259 : decode cX11_init 259 = .ok (.iastore, 1) := by decide +kernel
theorem dX11_init_260 : decode cX11_init 260 = .ok (.dup, 1) := by decide +kernel
theorem dX11_init_261 : decode cX11_init 261 = .ok (.iconst 1, 1) := by decide +kernel
theorem dX11_init_262 : decode cX11_init 262 = .ok (.iconst (-1), 1) := by decide +kernel
theorem dX11_init_263 : decode cX11_init 263 = .ok (.iastore, 1) := by decide +kernel
theorem dX11_init_264 : decode cX11_init 264 = .ok (.dup, 1) := by decide +kernel
theorem dX11_init_265 : decode cX11_init 265 = .ok (.iconst 2, 1) := by decide +kernel
theorem dX11_init_266 : decode cX11_init 266 = .ok (.iconst (-1), 1) := by decide +kernel
theorem dX11_init_267 : decode cX11_init 267 = .ok (.iastore, 1) := by decide +kernel
theorem dX11_init_268 : decode cX11_init 268 = .ok (.putfield 98, 3) := by decide +kernel
theorem dX11_init_271 : decode cX11_init 271 = .ok (.aload_n 0, 1) := by decide +kernel
theorem dX11_init_272 : decode cX11_init 272 = .ok (.iconst 2, 1) := by decide +kernel
theorem dX11_init_273 : decode cX11_init 273 = .ok (.newarray .int, 2) := by decide +kernel
theorem dX11_init_275 : decode cX11_init 275 = .ok (.dup, 1) := by decide +kernel
theorem dX11_init_276 : decode cX11_init 276 = .ok (.iconst 0, 1) := by decide +kernel
theorem dX11_init_277 : decode cX11_init 277 = .ok (.iconst (-1), 1) := by decide +kernel
theorem dX11_init_278 : decode cX11_init 278 = .ok (.iastore, 1) := by decide +kernel
theorem dX11_init_279 : decode cX11_init 279 = .ok (.dup, 1) := by decide +kernel
theorem dX11_init_280 : decode cX11_init 280 = .ok (.iconst 1, 1) := by decide +kernel
theorem dX11_init_281 : decode cX11_init 281 = .ok (.iconst (-1), 1) := by decide +kernel
theorem dX11_init_282 : decode cX11_init 282 = .ok (.iastore, 1) := by decide +kernel
theorem dX11_init_283 : decode cX11_init 283 = .ok (.putfield 101, 3) := by decide +kernel
theorem dX11_init_286 : decode cX11_init 286 = .ok (.aload_n 0, 1) := by decide +kernel
theorem dX11_init_287 : decode cX11_init 287 = .ok (.sipush 240, 3) := by decide +kernel
theorem dX11_init_290 : decode cX11_init 290 = .ok (.newarray .int, 2) := by decide +kernel
theorem dX11_init_292 : decode cX11_init 292 = .ok (.putfield 104, 3) := by decide +kernel
theorem dX11_init_295 : decode cX11_init 295 = .ok (.aload_n 0, 1) := by decide +kernel
theorem dX11_init_296 : decode cX11_init 296 = .ok (.iconst 0, 1) := by decide +kernel
theorem dX11_init_297 : decode cX11_init 297 = .ok (.putfield 107, 3) := by decide +kernel
theorem dX11_init_300 : decode cX11_init 300 = .ok (.aload_n 0, 1) := by decide +kernel
theorem dX11_init_301 : decode cX11_init 301 = .ok (.iconst 1, 1) := by decide +kernel
theorem dX11_init_302 : decode cX11_init 302 = .ok (.putfield 111, 3) := by decide +kernel
theorem dX11_init_305 : decode cX11_init 305 = .ok (.aload_n 0, 1) := by decide +kernel
theorem dX11_init_306 : decode cX11_init 306 = .ok (.iconst (-1), 1) := by decide +kernel
theorem dX11_init_307 : decode cX11_init 307 = .ok (.putfield 115, 3) := by decide +kernel
theorem dX11_init_310 : decode cX11_init 310 = .ok (.aload_n 0, 1) := by decide +kernel
theorem dX11_init_311 : decode cX11_init 311 = .ok (.bipush (-2), 2) := by decide +kernel
theorem dX11_init_313 : decode cX11_init 313 = .ok (.putfield 118, 3) := by decide +kernel
theorem dX11_init_316 : decode cX11_init 316 = .ok (.return_, 1) := by decide +kernel
set_option maxHeartbeats 4000000 in
set_option maxRecDepth 100000 in
theorem kk_X11 (l : Launch) (D : va_G) (cA : Nat → ClassId) (sa : Nat → Nat) : kC l D cA yX11_init cX11_init 2 3 71 2303 11 [.null, .null, .null, .null, .null, .null, .null, .null, .null, .null, .null, .null, .null, .null, .null, .null, .int 0, .int 0, .int 0, .int 0] [] kX11 (fun u h => am_w shC cA (kAd sa h u) w0C) := by
  intro h sz
  refine Met.ofW (cc := cX11_init) (maxL := 2) (ret := none) (by decide +kernel) rfl ?_
  intro p e s m args below meth c s₁ Bd hml hv0
  obtain ⟨rfl, hsz, hP, hK, hX⟩ := hv0
  have hx := Bd.exec
  have hb := Bd.bytes
  have hr := Bd.returns
  have hts0 := atoms_spec (ws := .code yX11_init cX11_init 2 none :: am_GT) Bd.pre
  have hts : ∀ w ∈ am_GT, w.before _ s = true := fun w hw => hts0 w (List.mem_cons_of_mem _ hw)
  have hown : s.vm.findClass RX11 = some m.cls := findClass_of_methodNamed Bd.named
  have hlocks := Bd.notSynchronized
  have hin : meth.name = "<init>" := (name_of_methodNamed Bd.named Bd.method).1
  subst hsz
  have hQ : vQ D (va_A [(h, .inr (11, [.null, .null, .null, .null, .null, .null, .null, .null, .null, .null, .null, .null, .null, .null, .null, .null, .int 0, .int 0, .int 0, .int 0]))] s.heap.size) [(h, .inr (11, [.null, .null, .null, .null, .null, .null, .null, .null, .null, .null, .null, .null, .null, .null, .null, .null, .int 0, .int 0, .int 0, .int 0]))] s.heap := ⟨hP, vD_one⟩
  clear hP
  generalize hAe : va_A [(h, .inr (11, [.null, .null, .null, .null, .null, .null, .null, .null, .null, .null, .null, .null, .null, .null, .null, .null, .int 0, .int 0, .int 0, .int 0]))] s.heap.size = A at hQ ⊢
  have hA : ∀ q : Nat, s.heap.size ≤ q → A q := fun q hq => by rw [← hAe]; exact Or.inr hq
  have hS : va_S A s.heap s.heap [] := va_S.rf
  have hl := lv_entry ([.ref h]) (n := 2) (Nat.le_of_ble_eq_true rfl)
  rw [lg_entry_eq]
  generalize (lg_sl ([.ref h]) ++ List.replicate (2 - (lg_sl ([.ref h])).length) Slot.unset).toArray = ls at hl ⊢
  have hl : lv_has ls 2 [(0, .ref h)] := hl
  refine lv_aload_n hx hb dX11_init_0 rfl (lv_at hl 0 rfl) ?_
  refine W.objInit hx hb hown (hts _ (am_ig (i := 91) (by decide +kernel) rfl)) (hts _ kw_oi) (hts _ kw_oc) rfl (by rw [hml]; exact hl.1) rfl dX11_init_1 (Nat.le_of_ble_eq_true rfl) (Nat.le_of_ble_eq_true rfl) ?_
  refine W.eq (g2 := F0 m 4 ls []) rfl ?_
  refine lv_aload_n hx hb dX11_init_4 rfl (lv_at hl 0 rfl) ?_
  refine lv_iconst (v := 3) hx hb dX11_init_5 (by decide) ?_
  refine vQ_newq (C := "DeadLasts$Text") hx hb 1 rfl hown (hts _ (am_ig (i := 94) (by decide +kernel) rfl)) hX.2.1 hK hQ hS hA 3 (by decide) (by decide) (by decide) (Nat.le_of_ble_eq_true rfl) (Nat.le_of_ble_eq_true rfl) dX11_init_6 (fun q1 H hQ hS => ?_)
  refine W.widen (k := 1) (n := 3) (by omega) (by omega) ?_
  refine lv_dup hx hb dX11_init_9 rfl ?_
  refine lv_iconst (v := 0) hx hb dX11_init_10 (by decide) ?_
  refine vQ_new hx hb 7 rfl hts tyX7 tyX7_ok hown (am_ig (i := 94) (by decide +kernel) rfl) (am_ig (i := 96) (by decide +kernel) rfl) hK hQ hS hA (fs := [.null, .int 0, .int 0]) (kz_7) (Nat.le_of_ble_eq_true rfl) (Nat.le_of_ble_eq_true rfl) dX11_init_11 (fun q2 H hQ hS => ?_)
  refine W.widen (k := 2) (n := 6) (by omega) (by omega) ?_
  refine lv_dup hx hb dX11_init_14 rfl ?_
  refine lv_bipush (v := 41) hx hb dX11_init_15 (by decide) ?_
  refine kC_call (rest := [.ref q2, .int 0, .ref q1, .ref q1, .ref h]) (kk_X7 l D cA (v := 41) (by decide)) kX_t trivial hx hb hml hown hts hK kc_7 ki_7 (am_ig (i := 97) (by decide +kernel) rfl) kn_7 rfl ke_7 ⟨Nat.le_of_ble_eq_true rfl, Nat.le_of_ble_eq_true rfl⟩ hQ hS hA hl.1 (Nat.le_of_ble_eq_true rfl) dX11_init_17 ⟨Nat.le_of_ble_eq_true rfl, Nat.le_of_ble_eq_true rfl⟩ (fun u3 H locs hQ hS => ?_)
  have hQ : vQ D A ((u3 0, .inl (cA 0, 55, .inl (fun _ => 0))) :: (q2, .inr (7, [.ref (u3 0), .int 41, .int 0])) :: (q1, .inl (cA 1, 3, .inr (.inr (.inr (.inr (fun _ => none)))))) :: (h, .inr (11, [.null, .null, .null, .null, .null, .null, .null, .null, .null, .null, .null, .null, .null, .null, .null, .null, .int 0, .int 0, .int 0, .int 0])) :: []) H := hQ
  refine W.widen (k := 3) (n := 61) (by omega) (by omega) ?_
  refine va_astq hx hb hK hQ.1 hQ.2 hS 2 1 1 7 rfl rfl rfl rfl (by unfold vp_in; decide) dX11_init_20 (fun H locs hP hD hS => ?_)
  have hQ : vQ D A ((u3 0, .inl (cA 0, 55, .inl (fun _ => 0))) :: (q2, .inr (7, [.ref (u3 0), .int 41, .int 0])) :: (q1, .inl (cA 1, 3, .inr (.inr (.inr (.inr (va_up (fun _ => none) 0 (some q2))))))) :: (h, .inr (11, [.null, .null, .null, .null, .null, .null, .null, .null, .null, .null, .null, .null, .null, .null, .null, .null, .int 0, .int 0, .int 0, .int 0])) :: []) H := ⟨hP, hD⟩
  refine lv_dup hx hb dX11_init_21 rfl ?_
  refine lv_iconst (v := 1) hx hb dX11_init_22 (by decide) ?_
  refine vQ_new hx hb 7 rfl hts tyX7 tyX7_ok hown (am_ig (i := 94) (by decide +kernel) rfl) (am_ig (i := 96) (by decide +kernel) rfl) hK hQ hS hA (fs := [.null, .int 0, .int 0]) (kz_7) (Nat.le_of_ble_eq_true rfl) (Nat.le_of_ble_eq_true rfl) dX11_init_23 (fun q4 H hQ hS => ?_)
  refine W.widen (k := 4) (n := 64) (by omega) (by omega) ?_
  refine lv_dup hx hb dX11_init_26 rfl ?_
  refine lv_bipush (v := 47) hx hb dX11_init_27 (by decide) ?_
  refine kC_call (rest := [.ref q4, .int 1, .ref q1, .ref q1, .ref h]) (kk_X7 l D cA (v := 47) (by decide)) kX_t trivial hx hb hml hown hts hK kc_7 ki_7 (am_ig (i := 97) (by decide +kernel) rfl) kn_7 rfl ke_7 ⟨Nat.le_of_ble_eq_true rfl, Nat.le_of_ble_eq_true rfl⟩ hQ hS hA hl.1 (Nat.le_of_ble_eq_true rfl) dX11_init_29 ⟨Nat.le_of_ble_eq_true rfl, Nat.le_of_ble_eq_true rfl⟩ (fun u5 H locs hQ hS => ?_)
  have hQ : vQ D A ((u5 0, .inl (cA 0, 55, .inl (fun _ => 0))) :: (q4, .inr (7, [.ref (u5 0), .int 47, .int 0])) :: (u3 0, .inl (cA 0, 55, .inl (fun _ => 0))) :: (q2, .inr (7, [.ref (u3 0), .int 41, .int 0])) :: (q1, .inl (cA 1, 3, .inr (.inr (.inr (.inr (va_up (fun _ => none) 0 (some q2))))))) :: (h, .inr (11, [.null, .null, .null, .null, .null, .null, .null, .null, .null, .null, .null, .null, .null, .null, .null, .null, .int 0, .int 0, .int 0, .int 0])) :: []) H := hQ
  refine W.widen (k := 5) (n := 119) (by omega) (by omega) ?_
  refine va_astq hx hb hK hQ.1 hQ.2 hS 4 1 1 7 rfl rfl rfl rfl (by unfold vp_in; decide) dX11_init_32 (fun H locs hP hD hS => ?_)
  have hQ : vQ D A ((u5 0, .inl (cA 0, 55, .inl (fun _ => 0))) :: (q4, .inr (7, [.ref (u5 0), .int 47, .int 0])) :: (u3 0, .inl (cA 0, 55, .inl (fun _ => 0))) :: (q2, .inr (7, [.ref (u3 0), .int 41, .int 0])) :: (q1, .inl (cA 1, 3, .inr (.inr (.inr (.inr (va_up (va_up (fun _ => none) 0 (some q2)) 1 (some q4))))))) :: (h, .inr (11, [.null, .null, .null, .null, .null, .null, .null, .null, .null, .null, .null, .null, .null, .null, .null, .null, .int 0, .int 0, .int 0, .int 0])) :: []) H := ⟨hP, hD⟩
  refine lv_dup hx hb dX11_init_33 rfl ?_
  refine lv_iconst (v := 2) hx hb dX11_init_34 (by decide) ?_
  refine vQ_new hx hb 7 rfl hts tyX7 tyX7_ok hown (am_ig (i := 94) (by decide +kernel) rfl) (am_ig (i := 96) (by decide +kernel) rfl) hK hQ hS hA (fs := [.null, .int 0, .int 0]) (kz_7) (Nat.le_of_ble_eq_true rfl) (Nat.le_of_ble_eq_true rfl) dX11_init_35 (fun q6 H hQ hS => ?_)
  refine W.widen (k := 6) (n := 122) (by omega) (by omega) ?_
  refine lv_dup hx hb dX11_init_38 rfl ?_
  refine lv_bipush (v := 55) hx hb dX11_init_39 (by decide) ?_
  refine kC_call (rest := [.ref q6, .int 2, .ref q1, .ref q1, .ref h]) (kk_X7 l D cA (v := 55) (by decide)) kX_t trivial hx hb hml hown hts hK kc_7 ki_7 (am_ig (i := 97) (by decide +kernel) rfl) kn_7 rfl ke_7 ⟨Nat.le_of_ble_eq_true rfl, Nat.le_of_ble_eq_true rfl⟩ hQ hS hA hl.1 (Nat.le_of_ble_eq_true rfl) dX11_init_41 ⟨Nat.le_of_ble_eq_true rfl, Nat.le_of_ble_eq_true rfl⟩ (fun u7 H locs hQ hS => ?_)
  have hQ : vQ D A ((u7 0, .inl (cA 0, 55, .inl (fun _ => 0))) :: (q6, .inr (7, [.ref (u7 0), .int 55, .int 0])) :: (u5 0, .inl (cA 0, 55, .inl (fun _ => 0))) :: (q4, .inr (7, [.ref (u5 0), .int 47, .int 0])) :: (u3 0, .inl (cA 0, 55, .inl (fun _ => 0))) :: (q2, .inr (7, [.ref (u3 0), .int 41, .int 0])) :: (q1, .inl (cA 1, 3, .inr (.inr (.inr (.inr (va_up (va_up (fun _ => none) 0 (some q2)) 1 (some q4))))))) :: (h, .inr (11, [.null, .null, .null, .null, .null, .null, .null, .null, .null, .null, .null, .null, .null, .null, .null, .null, .int 0, .int 0, .int 0, .int 0])) :: []) H := hQ
  refine W.widen (k := 7) (n := 177) (by omega) (by omega) ?_
  refine va_astq hx hb hK hQ.1 hQ.2 hS 6 1 1 7 rfl rfl rfl rfl (by unfold vp_in; decide) dX11_init_44 (fun H locs hP hD hS => ?_)
  have hQ : vQ D A ((u7 0, .inl (cA 0, 55, .inl (fun _ => 0))) :: (q6, .inr (7, [.ref (u7 0), .int 55, .int 0])) :: (u5 0, .inl (cA 0, 55, .inl (fun _ => 0))) :: (q4, .inr (7, [.ref (u5 0), .int 47, .int 0])) :: (u3 0, .inl (cA 0, 55, .inl (fun _ => 0))) :: (q2, .inr (7, [.ref (u3 0), .int 41, .int 0])) :: (q1, .inl (cA 1, 3, .inr (.inr (.inr (.inr (va_up (va_up (va_up (fun _ => none) 0 (some q2)) 1 (some q4)) 2 (some q6))))))) :: (h, .inr (11, [.null, .null, .null, .null, .null, .null, .null, .null, .null, .null, .null, .null, .null, .null, .null, .null, .int 0, .int 0, .int 0, .int 0])) :: []) H := ⟨hP, hD⟩
  refine va_putF (D := D) (ci := 11) (v := .ref q1) (ty := .array (.object "DeadLasts$Text")) (C := RX11) (T := TX11) (N := 20) hx hb hts (am_uin (ci := 11) rfl) tyX11 tyX11_ok nmX11 hown hK hQ.1 hQ.2 hS 7 rfl rfl 0 (by decide) (hts _ (am_ig (i := 344) (by decide +kernel) rfl)) (fun _ h9 => h9) rfl hin rfl (by decide +kernel) rfl rfl (Nat.le_of_ble_eq_true rfl) dX11_init_45 (fun H locs hP hD hS => ?_)
  have hQ : vQ D A ((u7 0, .inl (cA 0, 55, .inl (fun _ => 0))) :: (q6, .inr (7, [.ref (u7 0), .int 55, .int 0])) :: (u5 0, .inl (cA 0, 55, .inl (fun _ => 0))) :: (q4, .inr (7, [.ref (u5 0), .int 47, .int 0])) :: (u3 0, .inl (cA 0, 55, .inl (fun _ => 0))) :: (q2, .inr (7, [.ref (u3 0), .int 41, .int 0])) :: (q1, .inl (cA 1, 3, .inr (.inr (.inr (.inr (va_up (va_up (va_up (fun _ => none) 0 (some q2)) 1 (some q4)) 2 (some q6))))))) :: (h, .inr (11, [.ref q1, .null, .null, .null, .null, .null, .null, .null, .null, .null, .null, .null, .null, .null, .null, .null, .int 0, .int 0, .int 0, .int 0])) :: []) H := ⟨hP, hD⟩
  have hQ := vQ.perm (ws' := (h, .inr (11, [.ref q1, .null, .null, .null, .null, .null, .null, .null, .null, .null, .null, .null, .null, .null, .null, .null, .int 0, .int 0, .int 0, .int 0])) :: ([(u7 0, .inl (cA 0, 55, .inl (fun _ => 0))), (q6, .inr (7, [.ref (u7 0), .int 55, .int 0])), (u5 0, .inl (cA 0, 55, .inl (fun _ => 0))), (q4, .inr (7, [.ref (u5 0), .int 47, .int 0])), (u3 0, .inl (cA 0, 55, .inl (fun _ => 0))), (q2, .inr (7, [.ref (u3 0), .int 41, .int 0])), (q1, .inl (cA 1, 3, .inr (.inr (.inr (.inr (va_up (va_up (va_up (fun _ => none) 0 (some q2)) 1 (some q4)) 2 (some q6)))))))] ++ [])) (show vQ D A ([(u7 0, .inl (cA 0, 55, .inl (fun _ => 0))), (q6, .inr (7, [.ref (u7 0), .int 55, .int 0])), (u5 0, .inl (cA 0, 55, .inl (fun _ => 0))), (q4, .inr (7, [.ref (u5 0), .int 47, .int 0])), (u3 0, .inl (cA 0, 55, .inl (fun _ => 0))), (q2, .inr (7, [.ref (u3 0), .int 41, .int 0])), (q1, .inl (cA 1, 3, .inr (.inr (.inr (.inr (va_up (va_up (va_up (fun _ => none) 0 (some q2)) 1 (some q4)) 2 (some q6)))))))] ++ (h, .inr (11, [.ref q1, .null, .null, .null, .null, .null, .null, .null, .null, .null, .null, .null, .null, .null, .null, .null, .int 0, .int 0, .int 0, .int 0])) :: []) H from hQ) List.perm_middle.symm
  obtain ⟨R1, hR1⟩ : ∃ R : va_W, R = [(u7 0, .inl (cA 0, 55, .inl (fun _ => 0))), (q6, .inr (7, [.ref (u7 0), .int 55, .int 0])), (u5 0, .inl (cA 0, 55, .inl (fun _ => 0))), (q4, .inr (7, [.ref (u5 0), .int 47, .int 0])), (u3 0, .inl (cA 0, 55, .inl (fun _ => 0))), (q2, .inr (7, [.ref (u3 0), .int 41, .int 0])), (q1, .inl (cA 1, 3, .inr (.inr (.inr (.inr (va_up (va_up (va_up (fun _ => none) 0 (some q2)) 1 (some q4)) 2 (some q6)))))))] ++ [] := ⟨_, rfl⟩
  rw [← hR1] at hQ
  refine lv_aload_n hx hb dX11_init_48 rfl (lv_at hl 0 rfl) ?_
  refine lv_iconst (v := 3) hx hb dX11_init_49 (by decide) ?_
  refine vQ_newi hx hb (hts _ kw_arr) hK hQ hS hA 3 (by decide) (by decide) (by decide) (Nat.le_of_ble_eq_true rfl) (Nat.le_of_ble_eq_true rfl) dX11_init_50 (fun q8 H hQ hS => ?_)
  refine W.widen (k := 8) (n := 180) (by omega) (by omega) ?_
  refine lv_dup hx hb dX11_init_52 rfl ?_
  refine lv_iconst (v := 0) hx hb dX11_init_53 (by decide) ?_
  refine lv_iconst (v := (-1)) hx hb dX11_init_54 (by decide) ?_
  refine va_iast hx hb hK hQ.1 hQ.2 hS 0 0 rfl rfl (by unfold vp_in; decide) dX11_init_55 (fun H locs hP hD hS => ?_)
  have hQ : vQ D A ((q8, .inl (cA 0, 3, .inl (upd (fun _ => 0) 0 ((-1))))) :: (h, .inr (11, [.ref q1, .null, .null, .null, .null, .null, .null, .null, .null, .null, .null, .null, .null, .null, .null, .null, .int 0, .int 0, .int 0, .int 0])) :: R1) H := ⟨hP, hD⟩
  refine lv_dup hx hb dX11_init_56 rfl ?_
  refine lv_iconst (v := 1) hx hb dX11_init_57 (by decide) ?_
  refine lv_iconst (v := (-1)) hx hb dX11_init_58 (by decide) ?_
  refine va_iast hx hb hK hQ.1 hQ.2 hS 0 0 rfl rfl (by unfold vp_in; decide) dX11_init_59 (fun H locs hP hD hS => ?_)
  have hQ : vQ D A ((q8, .inl (cA 0, 3, .inl (upd (upd (fun _ => 0) 0 ((-1))) 1 ((-1))))) :: (h, .inr (11, [.ref q1, .null, .null, .null, .null, .null, .null, .null, .null, .null, .null, .null, .null, .null, .null, .null, .int 0, .int 0, .int 0, .int 0])) :: R1) H := ⟨hP, hD⟩
  refine lv_dup hx hb dX11_init_60 rfl ?_
  refine lv_iconst (v := 2) hx hb dX11_init_61 (by decide) ?_
  refine lv_iconst (v := (-1)) hx hb dX11_init_62 (by decide) ?_
  refine va_iast hx hb hK hQ.1 hQ.2 hS 0 0 rfl rfl (by unfold vp_in; decide) dX11_init_63 (fun H locs hP hD hS => ?_)
  have hQ : vQ D A ((q8, .inl (cA 0, 3, .inl (upd (upd (upd (fun _ => 0) 0 ((-1))) 1 ((-1))) 2 ((-1))))) :: (h, .inr (11, [.ref q1, .null, .null, .null, .null, .null, .null, .null, .null, .null, .null, .null, .null, .null, .null, .null, .int 0, .int 0, .int 0, .int 0])) :: R1) H := ⟨hP, hD⟩
  refine va_putF (D := D) (ci := 11) (v := .ref q8) (ty := .array .int) (C := RX11) (T := TX11) (N := 20) hx hb hts (am_uin (ci := 11) rfl) tyX11 tyX11_ok nmX11 hown hK hQ.1 hQ.2 hS 1 rfl rfl 1 (by decide) (hts _ (am_ig (i := 345) (by decide +kernel) rfl)) (fun _ h9 => h9) rfl hin rfl (by decide +kernel) rfl rfl (Nat.le_of_ble_eq_true rfl) dX11_init_64 (fun H locs hP hD hS => ?_)
  have hQ : vQ D A ((q8, .inl (cA 0, 3, .inl (upd (upd (upd (fun _ => 0) 0 ((-1))) 1 ((-1))) 2 ((-1))))) :: (h, .inr (11, [.ref q1, .ref q8, .null, .null, .null, .null, .null, .null, .null, .null, .null, .null, .null, .null, .null, .null, .int 0, .int 0, .int 0, .int 0])) :: R1) H := ⟨hP, hD⟩
  have hQ := vQ.perm (ws' := (h, .inr (11, [.ref q1, .ref q8, .null, .null, .null, .null, .null, .null, .null, .null, .null, .null, .null, .null, .null, .null, .int 0, .int 0, .int 0, .int 0])) :: ([(q8, .inl (cA 0, 3, .inl (upd (upd (upd (fun _ => 0) 0 ((-1))) 1 ((-1))) 2 ((-1)))))] ++ R1)) (show vQ D A ([(q8, .inl (cA 0, 3, .inl (upd (upd (upd (fun _ => 0) 0 ((-1))) 1 ((-1))) 2 ((-1)))))] ++ (h, .inr (11, [.ref q1, .ref q8, .null, .null, .null, .null, .null, .null, .null, .null, .null, .null, .null, .null, .null, .null, .int 0, .int 0, .int 0, .int 0])) :: R1) H from hQ) List.perm_middle.symm
  obtain ⟨R2, hR2⟩ : ∃ R : va_W, R = [(q8, .inl (cA 0, 3, .inl (upd (upd (upd (fun _ => 0) 0 ((-1))) 1 ((-1))) 2 ((-1)))))] ++ R1 := ⟨_, rfl⟩
  rw [← hR2] at hQ
  refine lv_aload_n hx hb dX11_init_67 rfl (lv_at hl 0 rfl) ?_
  refine vQ_new hx hb 8 rfl hts tyX8 tyX8_ok hown (am_ig (i := 119) (by decide +kernel) rfl) (am_ig (i := 120) (by decide +kernel) rfl) hK hQ hS hA (fs := [.null, .null, .int 0, .int 0]) (kz_8) (Nat.le_of_ble_eq_true rfl) (Nat.le_of_ble_eq_true rfl) dX11_init_68 (fun q9 H hQ hS => ?_)
  refine W.widen (k := 9) (n := 184) (by omega) (by omega) ?_
  refine lv_dup hx hb dX11_init_71 rfl ?_
  refine kC_callN (rest := [.ref q9, .ref h]) (kk_X8 l D cA) kX_t trivial hx hb hml hown hts hK kc_8 ki_8 (hX.1 _ (List.mem_filter.mpr ⟨List.mem_of_getElem? (i := 56) (by decide +kernel), rfl⟩)) kn_8 rfl ke_8 ⟨Nat.le_of_ble_eq_true rfl, Nat.le_of_ble_eq_true rfl⟩ hQ hS hA hl.1 (Nat.le_of_ble_eq_true rfl) dX11_init_72 ⟨Nat.le_of_ble_eq_true rfl, Nat.le_of_ble_eq_true rfl⟩ (fun u10 H locs hQ hS => ?_)
  have hQ : vQ D A ((u10 0, .inl (cA 0, 144, .inl (fun _ => 0))) :: (u10 1, .inl (cA 0, 36, .inl (fun _ => 0))) :: (q9, .inr (8, [.ref (u10 1), .ref (u10 0), .int 0, .int 0])) :: (h, .inr (11, [.ref q1, .ref q8, .null, .null, .null, .null, .null, .null, .null, .null, .null, .null, .null, .null, .null, .null, .int 0, .int 0, .int 0, .int 0])) :: R2) H := hQ
  refine W.widen (k := 11) (n := 364) (by omega) (by omega) ?_
  refine va_putF (D := D) (ci := 11) (v := .ref q9) (ty := .object "DeadLasts$Town") (C := RX11) (T := TX11) (N := 20) hx hb hts (am_uin (ci := 11) rfl) tyX11 tyX11_ok nmX11 hown hK hQ.1 hQ.2 hS 3 rfl rfl 2 (by decide) (hts _ (am_ig (i := 346) (by decide +kernel) rfl)) (fun _ h9 => h9) rfl hin rfl (by decide +kernel) rfl rfl (Nat.le_of_ble_eq_true rfl) dX11_init_75 (fun H locs hP hD hS => ?_)
  have hQ : vQ D A ((u10 0, .inl (cA 0, 144, .inl (fun _ => 0))) :: (u10 1, .inl (cA 0, 36, .inl (fun _ => 0))) :: (q9, .inr (8, [.ref (u10 1), .ref (u10 0), .int 0, .int 0])) :: (h, .inr (11, [.ref q1, .ref q8, .ref q9, .null, .null, .null, .null, .null, .null, .null, .null, .null, .null, .null, .null, .null, .int 0, .int 0, .int 0, .int 0])) :: R2) H := ⟨hP, hD⟩
  have hQ := vQ.perm (ws' := (h, .inr (11, [.ref q1, .ref q8, .ref q9, .null, .null, .null, .null, .null, .null, .null, .null, .null, .null, .null, .null, .null, .int 0, .int 0, .int 0, .int 0])) :: ([(u10 0, .inl (cA 0, 144, .inl (fun _ => 0))), (u10 1, .inl (cA 0, 36, .inl (fun _ => 0))), (q9, .inr (8, [.ref (u10 1), .ref (u10 0), .int 0, .int 0]))] ++ R2)) (show vQ D A ([(u10 0, .inl (cA 0, 144, .inl (fun _ => 0))), (u10 1, .inl (cA 0, 36, .inl (fun _ => 0))), (q9, .inr (8, [.ref (u10 1), .ref (u10 0), .int 0, .int 0]))] ++ (h, .inr (11, [.ref q1, .ref q8, .ref q9, .null, .null, .null, .null, .null, .null, .null, .null, .null, .null, .null, .null, .null, .int 0, .int 0, .int 0, .int 0])) :: R2) H from hQ) List.perm_middle.symm
  obtain ⟨R3, hR3⟩ : ∃ R : va_W, R = [(u10 0, .inl (cA 0, 144, .inl (fun _ => 0))), (u10 1, .inl (cA 0, 36, .inl (fun _ => 0))), (q9, .inr (8, [.ref (u10 1), .ref (u10 0), .int 0, .int 0]))] ++ R2 := ⟨_, rfl⟩
  rw [← hR3] at hQ
  refine lv_aload_n hx hb dX11_init_78 rfl (lv_at hl 0 rfl) ?_
  refine vQ_new hx hb 0 rfl hts tyX0 tyX0_ok hown (am_ig (i := 139) (by decide +kernel) rfl) (am_ig (i := 140) (by decide +kernel) rfl) hK hQ hS hA (fs := [.null, .null, .null, .int 0]) (kz_0) (Nat.le_of_ble_eq_true rfl) (Nat.le_of_ble_eq_true rfl) dX11_init_79 (fun q11 H hQ hS => ?_)
  refine W.widen (k := 12) (n := 368) (by omega) (by omega) ?_
  refine lv_dup hx hb dX11_init_82 rfl ?_
  refine kC_callN (rest := [.ref q11, .ref h]) (kk_X0 l D cA) kX_t trivial hx hb hml hown hts hK kc_0 ki_0 (hX.1 _ (List.mem_filter.mpr ⟨List.mem_of_getElem? (i := 76) (by decide +kernel), rfl⟩)) kn_0 rfl ke_0 ⟨Nat.le_of_ble_eq_true rfl, Nat.le_of_ble_eq_true rfl⟩ hQ hS hA hl.1 (Nat.le_of_ble_eq_true rfl) dX11_init_83 ⟨Nat.le_of_ble_eq_true rfl, Nat.le_of_ble_eq_true rfl⟩ (fun u12 H locs hQ hS => ?_)
  have hQ : vQ D A ((u12 0, .inl (cA 0, 32, .inl (fun _ => 0))) :: (u12 1, .inl (cA 0, 8, .inl (fun _ => 0))) :: (u12 2, .inl (cA 0, 8, .inl (fun _ => 0))) :: (q11, .inr (0, [.ref (u12 2), .ref (u12 1), .ref (u12 0), .int 0])) :: (h, .inr (11, [.ref q1, .ref q8, .ref q9, .null, .null, .null, .null, .null, .null, .null, .null, .null, .null, .null, .null, .null, .int 0, .int 0, .int 0, .int 0])) :: R3) H := hQ
  refine W.widen (k := 15) (n := 416) (by omega) (by omega) ?_
  refine va_putF (D := D) (ci := 11) (v := .ref q11) (ty := .object "DeadLasts$Lasts") (C := RX11) (T := TX11) (N := 20) hx hb hts (am_uin (ci := 11) rfl) tyX11 tyX11_ok nmX11 hown hK hQ.1 hQ.2 hS 4 rfl rfl 3 (by decide) (hts _ (am_ig (i := 347) (by decide +kernel) rfl)) (fun _ h9 => h9) rfl hin rfl (by decide +kernel) rfl rfl (Nat.le_of_ble_eq_true rfl) dX11_init_86 (fun H locs hP hD hS => ?_)
  have hQ : vQ D A ((u12 0, .inl (cA 0, 32, .inl (fun _ => 0))) :: (u12 1, .inl (cA 0, 8, .inl (fun _ => 0))) :: (u12 2, .inl (cA 0, 8, .inl (fun _ => 0))) :: (q11, .inr (0, [.ref (u12 2), .ref (u12 1), .ref (u12 0), .int 0])) :: (h, .inr (11, [.ref q1, .ref q8, .ref q9, .ref q11, .null, .null, .null, .null, .null, .null, .null, .null, .null, .null, .null, .null, .int 0, .int 0, .int 0, .int 0])) :: R3) H := ⟨hP, hD⟩
  have hQ := vQ.perm (ws' := (h, .inr (11, [.ref q1, .ref q8, .ref q9, .ref q11, .null, .null, .null, .null, .null, .null, .null, .null, .null, .null, .null, .null, .int 0, .int 0, .int 0, .int 0])) :: ([(u12 0, .inl (cA 0, 32, .inl (fun _ => 0))), (u12 1, .inl (cA 0, 8, .inl (fun _ => 0))), (u12 2, .inl (cA 0, 8, .inl (fun _ => 0))), (q11, .inr (0, [.ref (u12 2), .ref (u12 1), .ref (u12 0), .int 0]))] ++ R3)) (show vQ D A ([(u12 0, .inl (cA 0, 32, .inl (fun _ => 0))), (u12 1, .inl (cA 0, 8, .inl (fun _ => 0))), (u12 2, .inl (cA 0, 8, .inl (fun _ => 0))), (q11, .inr (0, [.ref (u12 2), .ref (u12 1), .ref (u12 0), .int 0]))] ++ (h, .inr (11, [.ref q1, .ref q8, .ref q9, .ref q11, .null, .null, .null, .null, .null, .null, .null, .null, .null, .null, .null, .null, .int 0, .int 0, .int 0, .int 0])) :: R3) H from hQ) List.perm_middle.symm
  obtain ⟨R4, hR4⟩ : ∃ R : va_W, R = [(u12 0, .inl (cA 0, 32, .inl (fun _ => 0))), (u12 1, .inl (cA 0, 8, .inl (fun _ => 0))), (u12 2, .inl (cA 0, 8, .inl (fun _ => 0))), (q11, .inr (0, [.ref (u12 2), .ref (u12 1), .ref (u12 0), .int 0]))] ++ R3 := ⟨_, rfl⟩
  rw [← hR4] at hQ
  refine lv_aload_n hx hb dX11_init_89 rfl (lv_at hl 0 rfl) ?_
  refine vQ_new hx hb 2 rfl hts tyX2 tyX2_ok hown (am_ig (i := 160) (by decide +kernel) rfl) (am_ig (i := 161) (by decide +kernel) rfl) hK hQ hS hA (fs := [.null, .int 0]) (kz_2) (Nat.le_of_ble_eq_true rfl) (Nat.le_of_ble_eq_true rfl) dX11_init_90 (fun q13 H hQ hS => ?_)
  refine W.widen (k := 16) (n := 418) (by omega) (by omega) ?_
  refine lv_dup hx hb dX11_init_93 rfl ?_
  refine kC_callN (rest := [.ref q13, .ref h]) (kk_X2 l D cA) kX_t trivial hx hb hml hown hts hK kc_2 ki_2 (hX.1 _ (List.mem_filter.mpr ⟨List.mem_of_getElem? (i := 97) (by decide +kernel), rfl⟩)) kn_2 rfl ke_2 ⟨Nat.le_of_ble_eq_true rfl, Nat.le_of_ble_eq_true rfl⟩ hQ hS hA hl.1 (Nat.le_of_ble_eq_true rfl) dX11_init_94 ⟨Nat.le_of_ble_eq_true rfl, Nat.le_of_ble_eq_true rfl⟩ (fun u14 H locs hQ hS => ?_)
  have hQ : vQ D A ((u14 0, .inl (cA 0, 40, .inl (fun _ => 0))) :: (q13, .inr (2, [.ref (u14 0), .int 0])) :: (h, .inr (11, [.ref q1, .ref q8, .ref q9, .ref q11, .null, .null, .null, .null, .null, .null, .null, .null, .null, .null, .null, .null, .int 0, .int 0, .int 0, .int 0])) :: R4) H := hQ
  refine W.widen (k := 17) (n := 458) (by omega) (by omega) ?_
  refine va_putF (D := D) (ci := 11) (v := .ref q13) (ty := .object "DeadLasts$People") (C := RX11) (T := TX11) (N := 20) hx hb hts (am_uin (ci := 11) rfl) tyX11 tyX11_ok nmX11 hown hK hQ.1 hQ.2 hS 2 rfl rfl 4 (by decide) (hts _ (am_ig (i := 348) (by decide +kernel) rfl)) (fun _ h9 => h9) rfl hin rfl (by decide +kernel) rfl rfl (Nat.le_of_ble_eq_true rfl) dX11_init_97 (fun H locs hP hD hS => ?_)
  have hQ : vQ D A ((u14 0, .inl (cA 0, 40, .inl (fun _ => 0))) :: (q13, .inr (2, [.ref (u14 0), .int 0])) :: (h, .inr (11, [.ref q1, .ref q8, .ref q9, .ref q11, .ref q13, .null, .null, .null, .null, .null, .null, .null, .null, .null, .null, .null, .int 0, .int 0, .int 0, .int 0])) :: R4) H := ⟨hP, hD⟩
  have hQ := vQ.perm (ws' := (h, .inr (11, [.ref q1, .ref q8, .ref q9, .ref q11, .ref q13, .null, .null, .null, .null, .null, .null, .null, .null, .null, .null, .null, .int 0, .int 0, .int 0, .int 0])) :: ([(u14 0, .inl (cA 0, 40, .inl (fun _ => 0))), (q13, .inr (2, [.ref (u14 0), .int 0]))] ++ R4)) (show vQ D A ([(u14 0, .inl (cA 0, 40, .inl (fun _ => 0))), (q13, .inr (2, [.ref (u14 0), .int 0]))] ++ (h, .inr (11, [.ref q1, .ref q8, .ref q9, .ref q11, .ref q13, .null, .null, .null, .null, .null, .null, .null, .null, .null, .null, .null, .int 0, .int 0, .int 0, .int 0])) :: R4) H from hQ) List.perm_middle.symm
  obtain ⟨R5, hR5⟩ : ∃ R : va_W, R = [(u14 0, .inl (cA 0, 40, .inl (fun _ => 0))), (q13, .inr (2, [.ref (u14 0), .int 0]))] ++ R4 := ⟨_, rfl⟩
  rw [← hR5] at hQ
  refine lv_aload_n hx hb dX11_init_100 rfl (lv_at hl 0 rfl) ?_
  refine vQ_new hx hb 3 rfl hts tyX3 tyX3_ok hown (am_ig (i := 174) (by decide +kernel) rfl) (am_ig (i := 175) (by decide +kernel) rfl) hK hQ hS hA (fs := [.null, .int 0]) (kz_3) (Nat.le_of_ble_eq_true rfl) (Nat.le_of_ble_eq_true rfl) dX11_init_101 (fun q15 H hQ hS => ?_)
  refine W.widen (k := 18) (n := 460) (by omega) (by omega) ?_
  refine lv_dup hx hb dX11_init_104 rfl ?_
  refine kC_callN (rest := [.ref q15, .ref h]) (kk_X3 l D cA) kX_t trivial hx hb hml hown hts hK kc_3 ki_3 (hX.1 _ (List.mem_filter.mpr ⟨List.mem_of_getElem? (i := 111) (by decide +kernel), rfl⟩)) kn_3 rfl ke_3 ⟨Nat.le_of_ble_eq_true rfl, Nat.le_of_ble_eq_true rfl⟩ hQ hS hA hl.1 (Nat.le_of_ble_eq_true rfl) dX11_init_105 ⟨Nat.le_of_ble_eq_true rfl, Nat.le_of_ble_eq_true rfl⟩ (fun u16 H locs hQ hS => ?_)
  have hQ : vQ D A ((u16 0, .inl (cA 0, 8, .inl (fun _ => 0))) :: (q15, .inr (3, [.ref (u16 0), .int 0])) :: (h, .inr (11, [.ref q1, .ref q8, .ref q9, .ref q11, .ref q13, .null, .null, .null, .null, .null, .null, .null, .null, .null, .null, .null, .int 0, .int 0, .int 0, .int 0])) :: R5) H := hQ
  refine W.widen (k := 19) (n := 468) (by omega) (by omega) ?_
  refine va_putF (D := D) (ci := 11) (v := .ref q15) (ty := .object "DeadLasts$Rains") (C := RX11) (T := TX11) (N := 20) hx hb hts (am_uin (ci := 11) rfl) tyX11 tyX11_ok nmX11 hown hK hQ.1 hQ.2 hS 2 rfl rfl 5 (by decide) (hts _ (am_ig (i := 349) (by decide +kernel) rfl)) (fun _ h9 => h9) rfl hin rfl (by decide +kernel) rfl rfl (Nat.le_of_ble_eq_true rfl) dX11_init_108 (fun H locs hP hD hS => ?_)
  have hQ : vQ D A ((u16 0, .inl (cA 0, 8, .inl (fun _ => 0))) :: (q15, .inr (3, [.ref (u16 0), .int 0])) :: (h, .inr (11, [.ref q1, .ref q8, .ref q9, .ref q11, .ref q13, .ref q15, .null, .null, .null, .null, .null, .null, .null, .null, .null, .null, .int 0, .int 0, .int 0, .int 0])) :: R5) H := ⟨hP, hD⟩
  have hQ := vQ.perm (ws' := (h, .inr (11, [.ref q1, .ref q8, .ref q9, .ref q11, .ref q13, .ref q15, .null, .null, .null, .null, .null, .null, .null, .null, .null, .null, .int 0, .int 0, .int 0, .int 0])) :: ([(u16 0, .inl (cA 0, 8, .inl (fun _ => 0))), (q15, .inr (3, [.ref (u16 0), .int 0]))] ++ R5)) (show vQ D A ([(u16 0, .inl (cA 0, 8, .inl (fun _ => 0))), (q15, .inr (3, [.ref (u16 0), .int 0]))] ++ (h, .inr (11, [.ref q1, .ref q8, .ref q9, .ref q11, .ref q13, .ref q15, .null, .null, .null, .null, .null, .null, .null, .null, .null, .null, .int 0, .int 0, .int 0, .int 0])) :: R5) H from hQ) List.perm_middle.symm
  obtain ⟨R6, hR6⟩ : ∃ R : va_W, R = [(u16 0, .inl (cA 0, 8, .inl (fun _ => 0))), (q15, .inr (3, [.ref (u16 0), .int 0]))] ++ R5 := ⟨_, rfl⟩
  rw [← hR6] at hQ
  refine lv_aload_n hx hb dX11_init_111 rfl (lv_at hl 0 rfl) ?_
  refine vQ_new hx hb 5 rfl hts tyX5 tyX5_ok hown (am_ig (i := 188) (by decide +kernel) rfl) (am_ig (i := 189) (by decide +kernel) rfl) hK hQ hS hA (fs := [.null, .null, .null, .int 0]) (kz_5) (Nat.le_of_ble_eq_true rfl) (Nat.le_of_ble_eq_true rfl) dX11_init_112 (fun q17 H hQ hS => ?_)
  refine W.widen (k := 20) (n := 472) (by omega) (by omega) ?_
  refine lv_dup hx hb dX11_init_115 rfl ?_
  refine kC_callN (rest := [.ref q17, .ref h]) (kk_X5 l D cA) kX_t trivial hx hb hml hown hts hK kc_5 ki_5 (hX.1 _ (List.mem_filter.mpr ⟨List.mem_of_getElem? (i := 125) (by decide +kernel), rfl⟩)) kn_5 rfl ke_5 ⟨Nat.le_of_ble_eq_true rfl, Nat.le_of_ble_eq_true rfl⟩ hQ hS hA hl.1 (Nat.le_of_ble_eq_true rfl) dX11_init_116 ⟨Nat.le_of_ble_eq_true rfl, Nat.le_of_ble_eq_true rfl⟩ (fun u18 H locs hQ hS => ?_)
  have hQ : vQ D A ((u18 0, .inl (cA 0, 8, .inl (fun _ => 0))) :: (u18 1, .inl (cA 0, 8, .inl (fun _ => 0))) :: (u18 2, .inl (cA 0, 8, .inl (fun _ => 0))) :: (q17, .inr (5, [.ref (u18 2), .ref (u18 1), .ref (u18 0), .int 0])) :: (h, .inr (11, [.ref q1, .ref q8, .ref q9, .ref q11, .ref q13, .ref q15, .null, .null, .null, .null, .null, .null, .null, .null, .null, .null, .int 0, .int 0, .int 0, .int 0])) :: R6) H := hQ
  refine W.widen (k := 23) (n := 496) (by omega) (by omega) ?_
  refine va_putF (D := D) (ci := 11) (v := .ref q17) (ty := .object "DeadLasts$Sightings") (C := RX11) (T := TX11) (N := 20) hx hb hts (am_uin (ci := 11) rfl) tyX11 tyX11_ok nmX11 hown hK hQ.1 hQ.2 hS 4 rfl rfl 6 (by decide) (hts _ (am_ig (i := 350) (by decide +kernel) rfl)) (fun _ h9 => h9) rfl hin rfl (by decide +kernel) rfl rfl (Nat.le_of_ble_eq_true rfl) dX11_init_119 (fun H locs hP hD hS => ?_)
  have hQ : vQ D A ((u18 0, .inl (cA 0, 8, .inl (fun _ => 0))) :: (u18 1, .inl (cA 0, 8, .inl (fun _ => 0))) :: (u18 2, .inl (cA 0, 8, .inl (fun _ => 0))) :: (q17, .inr (5, [.ref (u18 2), .ref (u18 1), .ref (u18 0), .int 0])) :: (h, .inr (11, [.ref q1, .ref q8, .ref q9, .ref q11, .ref q13, .ref q15, .ref q17, .null, .null, .null, .null, .null, .null, .null, .null, .null, .int 0, .int 0, .int 0, .int 0])) :: R6) H := ⟨hP, hD⟩
  have hQ := vQ.perm (ws' := (h, .inr (11, [.ref q1, .ref q8, .ref q9, .ref q11, .ref q13, .ref q15, .ref q17, .null, .null, .null, .null, .null, .null, .null, .null, .null, .int 0, .int 0, .int 0, .int 0])) :: ([(u18 0, .inl (cA 0, 8, .inl (fun _ => 0))), (u18 1, .inl (cA 0, 8, .inl (fun _ => 0))), (u18 2, .inl (cA 0, 8, .inl (fun _ => 0))), (q17, .inr (5, [.ref (u18 2), .ref (u18 1), .ref (u18 0), .int 0]))] ++ R6)) (show vQ D A ([(u18 0, .inl (cA 0, 8, .inl (fun _ => 0))), (u18 1, .inl (cA 0, 8, .inl (fun _ => 0))), (u18 2, .inl (cA 0, 8, .inl (fun _ => 0))), (q17, .inr (5, [.ref (u18 2), .ref (u18 1), .ref (u18 0), .int 0]))] ++ (h, .inr (11, [.ref q1, .ref q8, .ref q9, .ref q11, .ref q13, .ref q15, .ref q17, .null, .null, .null, .null, .null, .null, .null, .null, .null, .int 0, .int 0, .int 0, .int 0])) :: R6) H from hQ) List.perm_middle.symm
  obtain ⟨R7, hR7⟩ : ∃ R : va_W, R = [(u18 0, .inl (cA 0, 8, .inl (fun _ => 0))), (u18 1, .inl (cA 0, 8, .inl (fun _ => 0))), (u18 2, .inl (cA 0, 8, .inl (fun _ => 0))), (q17, .inr (5, [.ref (u18 2), .ref (u18 1), .ref (u18 0), .int 0]))] ++ R6 := ⟨_, rfl⟩
  rw [← hR7] at hQ
  refine lv_aload_n hx hb dX11_init_122 rfl (lv_at hl 0 rfl) ?_
  refine lv_iconst (v := 4) hx hb dX11_init_123 (by decide) ?_
  refine vQ_newq (C := "DeadLasts$Sheet") hx hb 2 rfl hown (hts _ (am_ig (i := 208) (by decide +kernel) rfl)) hX.2.2.1 hK hQ hS hA 4 (by decide) (by decide) (by decide) (Nat.le_of_ble_eq_true rfl) (Nat.le_of_ble_eq_true rfl) dX11_init_124 (fun q19 H hQ hS => ?_)
  refine W.widen (k := 24) (n := 500) (by omega) (by omega) ?_
  refine va_putF (D := D) (ci := 11) (v := .ref q19) (ty := .array (.object "DeadLasts$Sheet")) (C := RX11) (T := TX11) (N := 20) hx hb hts (am_uin (ci := 11) rfl) tyX11 tyX11_ok nmX11 hown hK hQ.1 hQ.2 hS 1 rfl rfl 7 (by decide) (hts _ (am_ig (i := 351) (by decide +kernel) rfl)) (fun _ h9 => h9) rfl hin rfl (by decide +kernel) rfl rfl (Nat.le_of_ble_eq_true rfl) dX11_init_127 (fun H locs hP hD hS => ?_)
  have hQ : vQ D A ((q19, .inl (cA 2, 4, .inr (.inr (.inr (.inr (fun _ => none)))))) :: (h, .inr (11, [.ref q1, .ref q8, .ref q9, .ref q11, .ref q13, .ref q15, .ref q17, .ref q19, .null, .null, .null, .null, .null, .null, .null, .null, .int 0, .int 0, .int 0, .int 0])) :: R7) H := ⟨hP, hD⟩
  refine lv_iconst (v := 0) hx hb dX11_init_130 (by decide) ?_
  refine lv_istore_n (lv' := [(1, .int 0), (0, .ref h)]) hx hb dX11_init_131 rfl hl (by decide) rfl (fun ls hl => ?_)
  refine lv_iload_n hx hb dX11_init_132 rfl (lv_at hl 0 rfl) ?_
  refine lv_iconst (v := 4) hx hb dX11_init_133 (by decide) ?_
  refine lv_icmp_ge (tgt := 156) hx hb dX11_init_134 (by decide) (fun z => absurd z (by decide)) (fun _ => ?_)
  refine lv_aload_n hx hb dX11_init_137 rfl (lv_at hl 1 rfl) ?_
  refine va_get (ci := 11) (C := RX11) (T := TX11) (N := 20) hx hb hts (am_uin (ci := 11) rfl) hown hK hQ.1 1 rfl rfl 7 (by decide) (hts _ (am_ig (i := 351) (by decide +kernel) rfl)) (fun _ h9 => h9) rfl dX11_init_138 ?_
  refine lv_iload_n hx hb dX11_init_141 rfl (lv_at hl 0 rfl) ?_
  refine vQ_new hx hb 4 rfl hts tyX4 tyX4_ok hown (am_ig (i := 208) (by decide +kernel) rfl) (am_ig (i := 210) (by decide +kernel) rfl) hK hQ hS hA (fs := [.null, .int 0, .int 0]) (kz_4) (Nat.le_of_ble_eq_true rfl) (Nat.le_of_ble_eq_true rfl) dX11_init_142 (fun q20 H hQ hS => ?_)
  refine W.widen (k := 25) (n := 503) (by omega) (by omega) ?_
  refine lv_dup hx hb dX11_init_145 rfl ?_
  refine kC_callN (rest := [.ref q20, .int 0, .ref q19]) (kk_X4 l D cA) kX_t trivial hx hb hml hown hts hK kc_4 ki_4 (hX.1 _ (List.mem_filter.mpr ⟨List.mem_of_getElem? (i := 146) (by decide +kernel), rfl⟩)) kn_4 rfl ke_4 ⟨Nat.le_of_ble_eq_true rfl, Nat.le_of_ble_eq_true rfl⟩ hQ hS hA hl.1 (Nat.le_of_ble_eq_true rfl) dX11_init_146 ⟨Nat.le_of_ble_eq_true rfl, Nat.le_of_ble_eq_true rfl⟩ (fun u21 H locs hQ hS => ?_)
  have hQ : vQ D A ((u21 0, .inl (cA 0, 60, .inl (fun _ => 0))) :: (q20, .inr (4, [.ref (u21 0), .int 0, .int (-1)])) :: (q19, .inl (cA 2, 4, .inr (.inr (.inr (.inr (fun _ => none)))))) :: (h, .inr (11, [.ref q1, .ref q8, .ref q9, .ref q11, .ref q13, .ref q15, .ref q17, .ref q19, .null, .null, .null, .null, .null, .null, .null, .null, .int 0, .int 0, .int 0, .int 0])) :: R7) H := hQ
  refine W.widen (k := 26) (n := 563) (by omega) (by omega) ?_
  refine va_astq hx hb hK hQ.1 hQ.2 hS 2 2 1 4 rfl rfl rfl rfl (by unfold vp_in; decide) dX11_init_149 (fun H locs hP hD hS => ?_)
  have hQ : vQ D A ((u21 0, .inl (cA 0, 60, .inl (fun _ => 0))) :: (q20, .inr (4, [.ref (u21 0), .int 0, .int (-1)])) :: (q19, .inl (cA 2, 4, .inr (.inr (.inr (.inr (va_up (fun _ => none) 0 (some q20))))))) :: (h, .inr (11, [.ref q1, .ref q8, .ref q9, .ref q11, .ref q13, .ref q15, .ref q17, .ref q19, .null, .null, .null, .null, .null, .null, .null, .null, .int 0, .int 0, .int 0, .int 0])) :: R7) H := ⟨hP, hD⟩
  refine lv_iinc (v := 1) (lv' := [(1, .int 1), (0, .ref h)]) hx hb dX11_init_150 hl (k := 0) rfl (by decide) (by decide) rfl (fun ls hl => ?_)
  refine lv_goto (tgt := 132) hx hb dX11_init_153 (by decide) ?_
  refine lv_iload_n hx hb dX11_init_132 rfl (lv_at hl 0 rfl) ?_
  refine lv_iconst (v := 4) hx hb dX11_init_133 (by decide) ?_
  refine lv_icmp_ge (tgt := 156) hx hb dX11_init_134 (by decide) (fun z => absurd z (by decide)) (fun _ => ?_)
  refine lv_aload_n hx hb dX11_init_137 rfl (lv_at hl 1 rfl) ?_
  refine va_get (ci := 11) (C := RX11) (T := TX11) (N := 20) hx hb hts (am_uin (ci := 11) rfl) hown hK hQ.1 3 rfl rfl 7 (by decide) (hts _ (am_ig (i := 351) (by decide +kernel) rfl)) (fun _ h9 => h9) rfl dX11_init_138 ?_
  refine lv_iload_n hx hb dX11_init_141 rfl (lv_at hl 0 rfl) ?_
  refine vQ_new hx hb 4 rfl hts tyX4 tyX4_ok hown (am_ig (i := 208) (by decide +kernel) rfl) (am_ig (i := 210) (by decide +kernel) rfl) hK hQ hS hA (fs := [.null, .int 0, .int 0]) (kz_4) (Nat.le_of_ble_eq_true rfl) (Nat.le_of_ble_eq_true rfl) dX11_init_142 (fun q22 H hQ hS => ?_)
  refine W.widen (k := 27) (n := 566) (by omega) (by omega) ?_
  refine lv_dup hx hb dX11_init_145 rfl ?_
  refine kC_callN (rest := [.ref q22, .int 1, .ref q19]) (kk_X4 l D cA) kX_t trivial hx hb hml hown hts hK kc_4 ki_4 (hX.1 _ (List.mem_filter.mpr ⟨List.mem_of_getElem? (i := 146) (by decide +kernel), rfl⟩)) kn_4 rfl ke_4 ⟨Nat.le_of_ble_eq_true rfl, Nat.le_of_ble_eq_true rfl⟩ hQ hS hA hl.1 (Nat.le_of_ble_eq_true rfl) dX11_init_146 ⟨Nat.le_of_ble_eq_true rfl, Nat.le_of_ble_eq_true rfl⟩ (fun u23 H locs hQ hS => ?_)
  have hQ : vQ D A ((u23 0, .inl (cA 0, 60, .inl (fun _ => 0))) :: (q22, .inr (4, [.ref (u23 0), .int 0, .int (-1)])) :: (u21 0, .inl (cA 0, 60, .inl (fun _ => 0))) :: (q20, .inr (4, [.ref (u21 0), .int 0, .int (-1)])) :: (q19, .inl (cA 2, 4, .inr (.inr (.inr (.inr (va_up (fun _ => none) 0 (some q20))))))) :: (h, .inr (11, [.ref q1, .ref q8, .ref q9, .ref q11, .ref q13, .ref q15, .ref q17, .ref q19, .null, .null, .null, .null, .null, .null, .null, .null, .int 0, .int 0, .int 0, .int 0])) :: R7) H := hQ
  refine W.widen (k := 28) (n := 626) (by omega) (by omega) ?_
  refine va_astq hx hb hK hQ.1 hQ.2 hS 4 2 1 4 rfl rfl rfl rfl (by unfold vp_in; decide) dX11_init_149 (fun H locs hP hD hS => ?_)
  have hQ : vQ D A ((u23 0, .inl (cA 0, 60, .inl (fun _ => 0))) :: (q22, .inr (4, [.ref (u23 0), .int 0, .int (-1)])) :: (u21 0, .inl (cA 0, 60, .inl (fun _ => 0))) :: (q20, .inr (4, [.ref (u21 0), .int 0, .int (-1)])) :: (q19, .inl (cA 2, 4, .inr (.inr (.inr (.inr (va_up (va_up (fun _ => none) 0 (some q20)) 1 (some q22))))))) :: (h, .inr (11, [.ref q1, .ref q8, .ref q9, .ref q11, .ref q13, .ref q15, .ref q17, .ref q19, .null, .null, .null, .null, .null, .null, .null, .null, .int 0, .int 0, .int 0, .int 0])) :: R7) H := ⟨hP, hD⟩
  refine lv_iinc (v := 2) (lv' := [(1, .int 2), (0, .ref h)]) hx hb dX11_init_150 hl (k := 0) rfl (by decide) (by decide) rfl (fun ls hl => ?_)
  refine lv_goto (tgt := 132) hx hb dX11_init_153 (by decide) ?_
  refine lv_iload_n hx hb dX11_init_132 rfl (lv_at hl 0 rfl) ?_
  refine lv_iconst (v := 4) hx hb dX11_init_133 (by decide) ?_
  refine lv_icmp_ge (tgt := 156) hx hb dX11_init_134 (by decide) (fun z => absurd z (by decide)) (fun _ => ?_)
  refine lv_aload_n hx hb dX11_init_137 rfl (lv_at hl 1 rfl) ?_
  refine va_get (ci := 11) (C := RX11) (T := TX11) (N := 20) hx hb hts (am_uin (ci := 11) rfl) hown hK hQ.1 5 rfl rfl 7 (by decide) (hts _ (am_ig (i := 351) (by decide +kernel) rfl)) (fun _ h9 => h9) rfl dX11_init_138 ?_
  refine lv_iload_n hx hb dX11_init_141 rfl (lv_at hl 0 rfl) ?_
  refine vQ_new hx hb 4 rfl hts tyX4 tyX4_ok hown (am_ig (i := 208) (by decide +kernel) rfl) (am_ig (i := 210) (by decide +kernel) rfl) hK hQ hS hA (fs := [.null, .int 0, .int 0]) (kz_4) (Nat.le_of_ble_eq_true rfl) (Nat.le_of_ble_eq_true rfl) dX11_init_142 (fun q24 H hQ hS => ?_)
  refine W.widen (k := 29) (n := 629) (by omega) (by omega) ?_
  refine lv_dup hx hb dX11_init_145 rfl ?_
  refine kC_callN (rest := [.ref q24, .int 2, .ref q19]) (kk_X4 l D cA) kX_t trivial hx hb hml hown hts hK kc_4 ki_4 (hX.1 _ (List.mem_filter.mpr ⟨List.mem_of_getElem? (i := 146) (by decide +kernel), rfl⟩)) kn_4 rfl ke_4 ⟨Nat.le_of_ble_eq_true rfl, Nat.le_of_ble_eq_true rfl⟩ hQ hS hA hl.1 (Nat.le_of_ble_eq_true rfl) dX11_init_146 ⟨Nat.le_of_ble_eq_true rfl, Nat.le_of_ble_eq_true rfl⟩ (fun u25 H locs hQ hS => ?_)
  have hQ : vQ D A ((u25 0, .inl (cA 0, 60, .inl (fun _ => 0))) :: (q24, .inr (4, [.ref (u25 0), .int 0, .int (-1)])) :: (u23 0, .inl (cA 0, 60, .inl (fun _ => 0))) :: (q22, .inr (4, [.ref (u23 0), .int 0, .int (-1)])) :: (u21 0, .inl (cA 0, 60, .inl (fun _ => 0))) :: (q20, .inr (4, [.ref (u21 0), .int 0, .int (-1)])) :: (q19, .inl (cA 2, 4, .inr (.inr (.inr (.inr (va_up (va_up (fun _ => none) 0 (some q20)) 1 (some q22))))))) :: (h, .inr (11, [.ref q1, .ref q8, .ref q9, .ref q11, .ref q13, .ref q15, .ref q17, .ref q19, .null, .null, .null, .null, .null, .null, .null, .null, .int 0, .int 0, .int 0, .int 0])) :: R7) H := hQ
  refine W.widen (k := 30) (n := 689) (by omega) (by omega) ?_
  refine va_astq hx hb hK hQ.1 hQ.2 hS 6 2 1 4 rfl rfl rfl rfl (by unfold vp_in; decide) dX11_init_149 (fun H locs hP hD hS => ?_)
  have hQ : vQ D A ((u25 0, .inl (cA 0, 60, .inl (fun _ => 0))) :: (q24, .inr (4, [.ref (u25 0), .int 0, .int (-1)])) :: (u23 0, .inl (cA 0, 60, .inl (fun _ => 0))) :: (q22, .inr (4, [.ref (u23 0), .int 0, .int (-1)])) :: (u21 0, .inl (cA 0, 60, .inl (fun _ => 0))) :: (q20, .inr (4, [.ref (u21 0), .int 0, .int (-1)])) :: (q19, .inl (cA 2, 4, .inr (.inr (.inr (.inr (va_up (va_up (va_up (fun _ => none) 0 (some q20)) 1 (some q22)) 2 (some q24))))))) :: (h, .inr (11, [.ref q1, .ref q8, .ref q9, .ref q11, .ref q13, .ref q15, .ref q17, .ref q19, .null, .null, .null, .null, .null, .null, .null, .null, .int 0, .int 0, .int 0, .int 0])) :: R7) H := ⟨hP, hD⟩
  refine lv_iinc (v := 3) (lv' := [(1, .int 3), (0, .ref h)]) hx hb dX11_init_150 hl (k := 0) rfl (by decide) (by decide) rfl (fun ls hl => ?_)
  refine lv_goto (tgt := 132) hx hb dX11_init_153 (by decide) ?_
  refine lv_iload_n hx hb dX11_init_132 rfl (lv_at hl 0 rfl) ?_
  refine lv_iconst (v := 4) hx hb dX11_init_133 (by decide) ?_
  refine lv_icmp_ge (tgt := 156) hx hb dX11_init_134 (by decide) (fun z => absurd z (by decide)) (fun _ => ?_)
  refine lv_aload_n hx hb dX11_init_137 rfl (lv_at hl 1 rfl) ?_
  refine va_get (ci := 11) (C := RX11) (T := TX11) (N := 20) hx hb hts (am_uin (ci := 11) rfl) hown hK hQ.1 7 rfl rfl 7 (by decide) (hts _ (am_ig (i := 351) (by decide +kernel) rfl)) (fun _ h9 => h9) rfl dX11_init_138 ?_
  refine lv_iload_n hx hb dX11_init_141 rfl (lv_at hl 0 rfl) ?_
  refine vQ_new hx hb 4 rfl hts tyX4 tyX4_ok hown (am_ig (i := 208) (by decide +kernel) rfl) (am_ig (i := 210) (by decide +kernel) rfl) hK hQ hS hA (fs := [.null, .int 0, .int 0]) (kz_4) (Nat.le_of_ble_eq_true rfl) (Nat.le_of_ble_eq_true rfl) dX11_init_142 (fun q26 H hQ hS => ?_)
  refine W.widen (k := 31) (n := 692) (by omega) (by omega) ?_
  refine lv_dup hx hb dX11_init_145 rfl ?_
  refine kC_callN (rest := [.ref q26, .int 3, .ref q19]) (kk_X4 l D cA) kX_t trivial hx hb hml hown hts hK kc_4 ki_4 (hX.1 _ (List.mem_filter.mpr ⟨List.mem_of_getElem? (i := 146) (by decide +kernel), rfl⟩)) kn_4 rfl ke_4 ⟨Nat.le_of_ble_eq_true rfl, Nat.le_of_ble_eq_true rfl⟩ hQ hS hA hl.1 (Nat.le_of_ble_eq_true rfl) dX11_init_146 ⟨Nat.le_of_ble_eq_true rfl, Nat.le_of_ble_eq_true rfl⟩ (fun u27 H locs hQ hS => ?_)
  have hQ : vQ D A ((u27 0, .inl (cA 0, 60, .inl (fun _ => 0))) :: (q26, .inr (4, [.ref (u27 0), .int 0, .int (-1)])) :: (u25 0, .inl (cA 0, 60, .inl (fun _ => 0))) :: (q24, .inr (4, [.ref (u25 0), .int 0, .int (-1)])) :: (u23 0, .inl (cA 0, 60, .inl (fun _ => 0))) :: (q22, .inr (4, [.ref (u23 0), .int 0, .int (-1)])) :: (u21 0, .inl (cA 0, 60, .inl (fun _ => 0))) :: (q20, .inr (4, [.ref (u21 0), .int 0, .int (-1)])) :: (q19, .inl (cA 2, 4, .inr (.inr (.inr (.inr (va_up (va_up (va_up (fun _ => none) 0 (some q20)) 1 (some q22)) 2 (some q24))))))) :: (h, .inr (11, [.ref q1, .ref q8, .ref q9, .ref q11, .ref q13, .ref q15, .ref q17, .ref q19, .null, .null, .null, .null, .null, .null, .null, .null, .int 0, .int 0, .int 0, .int 0])) :: R7) H := hQ
  refine W.widen (k := 32) (n := 752) (by omega) (by omega) ?_
  refine va_astq hx hb hK hQ.1 hQ.2 hS 8 2 1 4 rfl rfl rfl rfl (by unfold vp_in; decide) dX11_init_149 (fun H locs hP hD hS => ?_)
  have hQ : vQ D A ((u27 0, .inl (cA 0, 60, .inl (fun _ => 0))) :: (q26, .inr (4, [.ref (u27 0), .int 0, .int (-1)])) :: (u25 0, .inl (cA 0, 60, .inl (fun _ => 0))) :: (q24, .inr (4, [.ref (u25 0), .int 0, .int (-1)])) :: (u23 0, .inl (cA 0, 60, .inl (fun _ => 0))) :: (q22, .inr (4, [.ref (u23 0), .int 0, .int (-1)])) :: (u21 0, .inl (cA 0, 60, .inl (fun _ => 0))) :: (q20, .inr (4, [.ref (u21 0), .int 0, .int (-1)])) :: (q19, .inl (cA 2, 4, .inr (.inr (.inr (.inr (va_up (va_up (va_up (va_up (fun _ => none) 0 (some q20)) 1 (some q22)) 2 (some q24)) 3 (some q26))))))) :: (h, .inr (11, [.ref q1, .ref q8, .ref q9, .ref q11, .ref q13, .ref q15, .ref q17, .ref q19, .null, .null, .null, .null, .null, .null, .null, .null, .int 0, .int 0, .int 0, .int 0])) :: R7) H := ⟨hP, hD⟩
  refine lv_iinc (v := 4) (lv' := [(1, .int 4), (0, .ref h)]) hx hb dX11_init_150 hl (k := 0) rfl (by decide) (by decide) rfl (fun ls hl => ?_)
  refine lv_goto (tgt := 132) hx hb dX11_init_153 (by decide) ?_
  refine lv_iload_n hx hb dX11_init_132 rfl (lv_at hl 0 rfl) ?_
  refine lv_iconst (v := 4) hx hb dX11_init_133 (by decide) ?_
  refine lv_icmp_ge (tgt := 156) hx hb dX11_init_134 (by decide) (fun _ => ?_) (fun z => absurd (by decide) z)
  have hQ := vQ.perm (ws' := (h, .inr (11, [.ref q1, .ref q8, .ref q9, .ref q11, .ref q13, .ref q15, .ref q17, .ref q19, .null, .null, .null, .null, .null, .null, .null, .null, .int 0, .int 0, .int 0, .int 0])) :: ([(u27 0, .inl (cA 0, 60, .inl (fun _ => 0))), (q26, .inr (4, [.ref (u27 0), .int 0, .int (-1)])), (u25 0, .inl (cA 0, 60, .inl (fun _ => 0))), (q24, .inr (4, [.ref (u25 0), .int 0, .int (-1)])), (u23 0, .inl (cA 0, 60, .inl (fun _ => 0))), (q22, .inr (4, [.ref (u23 0), .int 0, .int (-1)])), (u21 0, .inl (cA 0, 60, .inl (fun _ => 0))), (q20, .inr (4, [.ref (u21 0), .int 0, .int (-1)])), (q19, .inl (cA 2, 4, .inr (.inr (.inr (.inr (va_up (va_up (va_up (va_up (fun _ => none) 0 (some q20)) 1 (some q22)) 2 (some q24)) 3 (some q26)))))))] ++ R7)) (show vQ D A ([(u27 0, .inl (cA 0, 60, .inl (fun _ => 0))), (q26, .inr (4, [.ref (u27 0), .int 0, .int (-1)])), (u25 0, .inl (cA 0, 60, .inl (fun _ => 0))), (q24, .inr (4, [.ref (u25 0), .int 0, .int (-1)])), (u23 0, .inl (cA 0, 60, .inl (fun _ => 0))), (q22, .inr (4, [.ref (u23 0), .int 0, .int (-1)])), (u21 0, .inl (cA 0, 60, .inl (fun _ => 0))), (q20, .inr (4, [.ref (u21 0), .int 0, .int (-1)])), (q19, .inl (cA 2, 4, .inr (.inr (.inr (.inr (va_up (va_up (va_up (va_up (fun _ => none) 0 (some q20)) 1 (some q22)) 2 (some q24)) 3 (some q26)))))))] ++ (h, .inr (11, [.ref q1, .ref q8, .ref q9, .ref q11, .ref q13, .ref q15, .ref q17, .ref q19, .null, .null, .null, .null, .null, .null, .null, .null, .int 0, .int 0, .int 0, .int 0])) :: R7) H from hQ) List.perm_middle.symm
  obtain ⟨R8, hR8⟩ : ∃ R : va_W, R = [(u27 0, .inl (cA 0, 60, .inl (fun _ => 0))), (q26, .inr (4, [.ref (u27 0), .int 0, .int (-1)])), (u25 0, .inl (cA 0, 60, .inl (fun _ => 0))), (q24, .inr (4, [.ref (u25 0), .int 0, .int (-1)])), (u23 0, .inl (cA 0, 60, .inl (fun _ => 0))), (q22, .inr (4, [.ref (u23 0), .int 0, .int (-1)])), (u21 0, .inl (cA 0, 60, .inl (fun _ => 0))), (q20, .inr (4, [.ref (u21 0), .int 0, .int (-1)])), (q19, .inl (cA 2, 4, .inr (.inr (.inr (.inr (va_up (va_up (va_up (va_up (fun _ => none) 0 (some q20)) 1 (some q22)) 2 (some q24)) 3 (some q26)))))))] ++ R7 := ⟨_, rfl⟩
  rw [← hR8] at hQ
  refine lv_aload_n hx hb dX11_init_156 rfl (lv_at hl 1 rfl) ?_
  refine lv_bipush (v := 8) hx hb dX11_init_157 (by decide) ?_
  refine vQ_newq (C := "DeadLasts$Trace") hx hb 3 rfl hown (hts _ (am_ig (i := 228) (by decide +kernel) rfl)) hX.2.2.2.1 hK hQ hS hA 8 (by decide) (by decide) (by decide) (Nat.le_of_ble_eq_true rfl) (Nat.le_of_ble_eq_true rfl) dX11_init_159 (fun q28 H hQ hS => ?_)
  refine W.widen (k := 33) (n := 760) (by omega) (by omega) ?_
  refine va_putF (D := D) (ci := 11) (v := .ref q28) (ty := .array (.object "DeadLasts$Trace")) (C := RX11) (T := TX11) (N := 20) hx hb hts (am_uin (ci := 11) rfl) tyX11 tyX11_ok nmX11 hown hK hQ.1 hQ.2 hS 1 rfl rfl 8 (by decide) (hts _ (am_ig (i := 352) (by decide +kernel) rfl)) (fun _ h9 => h9) rfl hin rfl (by decide +kernel) rfl rfl (Nat.le_of_ble_eq_true rfl) dX11_init_162 (fun H locs hP hD hS => ?_)
  have hQ : vQ D A ((q28, .inl (cA 3, 8, .inr (.inr (.inr (.inr (fun _ => none)))))) :: (h, .inr (11, [.ref q1, .ref q8, .ref q9, .ref q11, .ref q13, .ref q15, .ref q17, .ref q19, .ref q28, .null, .null, .null, .null, .null, .null, .null, .int 0, .int 0, .int 0, .int 0])) :: R8) H := ⟨hP, hD⟩
  refine lv_iconst (v := 0) hx hb dX11_init_165 (by decide) ?_
  refine lv_istore_n (lv' := [(1, .int 0), (0, .ref h)]) hx hb dX11_init_166 rfl hl (by decide) rfl (fun ls hl => ?_)
  refine lv_iload_n hx hb dX11_init_167 rfl (lv_at hl 0 rfl) ?_
  refine lv_bipush (v := 8) hx hb dX11_init_168 (by decide) ?_
  refine lv_icmp_ge (tgt := 192) hx hb dX11_init_170 (by decide) (fun z => absurd z (by decide)) (fun _ => ?_)
  refine lv_aload_n hx hb dX11_init_173 rfl (lv_at hl 1 rfl) ?_
  refine va_get (ci := 11) (C := RX11) (T := TX11) (N := 20) hx hb hts (am_uin (ci := 11) rfl) hown hK hQ.1 1 rfl rfl 8 (by decide) (hts _ (am_ig (i := 352) (by decide +kernel) rfl)) (fun _ h9 => h9) rfl dX11_init_174 ?_
  refine lv_iload_n hx hb dX11_init_177 rfl (lv_at hl 0 rfl) ?_
  refine vQ_new hx hb 9 rfl hts tyX9 tyX9_ok hown (am_ig (i := 228) (by decide +kernel) rfl) (am_ig (i := 230) (by decide +kernel) rfl) hK hQ hS hA (fs := [.null, .int 0, .int 0]) (kz_9) (Nat.le_of_ble_eq_true rfl) (Nat.le_of_ble_eq_true rfl) dX11_init_178 (fun q29 H hQ hS => ?_)
  refine W.widen (k := 34) (n := 763) (by omega) (by omega) ?_
  refine lv_dup hx hb dX11_init_181 rfl ?_
  refine kC_callN (rest := [.ref q29, .int 0, .ref q28]) (kk_X9 l D cA) kX_t trivial hx hb hml hown hts hK kc_9 ki_9 (hX.1 _ (List.mem_filter.mpr ⟨List.mem_of_getElem? (i := 166) (by decide +kernel), rfl⟩)) kn_9 rfl ke_9 ⟨Nat.le_of_ble_eq_true rfl, Nat.le_of_ble_eq_true rfl⟩ hQ hS hA hl.1 (Nat.le_of_ble_eq_true rfl) dX11_init_182 ⟨Nat.le_of_ble_eq_true rfl, Nat.le_of_ble_eq_true rfl⟩ (fun u30 H locs hQ hS => ?_)
  have hQ : vQ D A ((u30 0, .inl (cA 0, 120, .inl (fun _ => 0))) :: (q29, .inr (9, [.ref (u30 0), .int 0, .int 0])) :: (q28, .inl (cA 3, 8, .inr (.inr (.inr (.inr (fun _ => none)))))) :: (h, .inr (11, [.ref q1, .ref q8, .ref q9, .ref q11, .ref q13, .ref q15, .ref q17, .ref q19, .ref q28, .null, .null, .null, .null, .null, .null, .null, .int 0, .int 0, .int 0, .int 0])) :: R8) H := hQ
  refine W.widen (k := 35) (n := 883) (by omega) (by omega) ?_
  refine va_astq hx hb hK hQ.1 hQ.2 hS 2 3 1 9 rfl rfl rfl rfl (by unfold vp_in; decide) dX11_init_185 (fun H locs hP hD hS => ?_)
  have hQ : vQ D A ((u30 0, .inl (cA 0, 120, .inl (fun _ => 0))) :: (q29, .inr (9, [.ref (u30 0), .int 0, .int 0])) :: (q28, .inl (cA 3, 8, .inr (.inr (.inr (.inr (va_up (fun _ => none) 0 (some q29))))))) :: (h, .inr (11, [.ref q1, .ref q8, .ref q9, .ref q11, .ref q13, .ref q15, .ref q17, .ref q19, .ref q28, .null, .null, .null, .null, .null, .null, .null, .int 0, .int 0, .int 0, .int 0])) :: R8) H := ⟨hP, hD⟩
  refine lv_iinc (v := 1) (lv' := [(1, .int 1), (0, .ref h)]) hx hb dX11_init_186 hl (k := 0) rfl (by decide) (by decide) rfl (fun ls hl => ?_)
  refine lv_goto (tgt := 167) hx hb dX11_init_189 (by decide) ?_
  refine lv_iload_n hx hb dX11_init_167 rfl (lv_at hl 0 rfl) ?_
  refine lv_bipush (v := 8) hx hb dX11_init_168 (by decide) ?_
  refine lv_icmp_ge (tgt := 192) hx hb dX11_init_170 (by decide) (fun z => absurd z (by decide)) (fun _ => ?_)
  refine lv_aload_n hx hb dX11_init_173 rfl (lv_at hl 1 rfl) ?_
  refine va_get (ci := 11) (C := RX11) (T := TX11) (N := 20) hx hb hts (am_uin (ci := 11) rfl) hown hK hQ.1 3 rfl rfl 8 (by decide) (hts _ (am_ig (i := 352) (by decide +kernel) rfl)) (fun _ h9 => h9) rfl dX11_init_174 ?_
  refine lv_iload_n hx hb dX11_init_177 rfl (lv_at hl 0 rfl) ?_
  refine vQ_new hx hb 9 rfl hts tyX9 tyX9_ok hown (am_ig (i := 228) (by decide +kernel) rfl) (am_ig (i := 230) (by decide +kernel) rfl) hK hQ hS hA (fs := [.null, .int 0, .int 0]) (kz_9) (Nat.le_of_ble_eq_true rfl) (Nat.le_of_ble_eq_true rfl) dX11_init_178 (fun q31 H hQ hS => ?_)
  refine W.widen (k := 36) (n := 886) (by omega) (by omega) ?_
  refine lv_dup hx hb dX11_init_181 rfl ?_
  refine kC_callN (rest := [.ref q31, .int 1, .ref q28]) (kk_X9 l D cA) kX_t trivial hx hb hml hown hts hK kc_9 ki_9 (hX.1 _ (List.mem_filter.mpr ⟨List.mem_of_getElem? (i := 166) (by decide +kernel), rfl⟩)) kn_9 rfl ke_9 ⟨Nat.le_of_ble_eq_true rfl, Nat.le_of_ble_eq_true rfl⟩ hQ hS hA hl.1 (Nat.le_of_ble_eq_true rfl) dX11_init_182 ⟨Nat.le_of_ble_eq_true rfl, Nat.le_of_ble_eq_true rfl⟩ (fun u32 H locs hQ hS => ?_)
  have hQ : vQ D A ((u32 0, .inl (cA 0, 120, .inl (fun _ => 0))) :: (q31, .inr (9, [.ref (u32 0), .int 0, .int 0])) :: (u30 0, .inl (cA 0, 120, .inl (fun _ => 0))) :: (q29, .inr (9, [.ref (u30 0), .int 0, .int 0])) :: (q28, .inl (cA 3, 8, .inr (.inr (.inr (.inr (va_up (fun _ => none) 0 (some q29))))))) :: (h, .inr (11, [.ref q1, .ref q8, .ref q9, .ref q11, .ref q13, .ref q15, .ref q17, .ref q19, .ref q28, .null, .null, .null, .null, .null, .null, .null, .int 0, .int 0, .int 0, .int 0])) :: R8) H := hQ
  refine W.widen (k := 37) (n := 1006) (by omega) (by omega) ?_
  refine va_astq hx hb hK hQ.1 hQ.2 hS 4 3 1 9 rfl rfl rfl rfl (by unfold vp_in; decide) dX11_init_185 (fun H locs hP hD hS => ?_)
  have hQ : vQ D A ((u32 0, .inl (cA 0, 120, .inl (fun _ => 0))) :: (q31, .inr (9, [.ref (u32 0), .int 0, .int 0])) :: (u30 0, .inl (cA 0, 120, .inl (fun _ => 0))) :: (q29, .inr (9, [.ref (u30 0), .int 0, .int 0])) :: (q28, .inl (cA 3, 8, .inr (.inr (.inr (.inr (va_up (va_up (fun _ => none) 0 (some q29)) 1 (some q31))))))) :: (h, .inr (11, [.ref q1, .ref q8, .ref q9, .ref q11, .ref q13, .ref q15, .ref q17, .ref q19, .ref q28, .null, .null, .null, .null, .null, .null, .null, .int 0, .int 0, .int 0, .int 0])) :: R8) H := ⟨hP, hD⟩
  refine lv_iinc (v := 2) (lv' := [(1, .int 2), (0, .ref h)]) hx hb dX11_init_186 hl (k := 0) rfl (by decide) (by decide) rfl (fun ls hl => ?_)
  refine lv_goto (tgt := 167) hx hb dX11_init_189 (by decide) ?_
  refine lv_iload_n hx hb dX11_init_167 rfl (lv_at hl 0 rfl) ?_
  refine lv_bipush (v := 8) hx hb dX11_init_168 (by decide) ?_
  refine lv_icmp_ge (tgt := 192) hx hb dX11_init_170 (by decide) (fun z => absurd z (by decide)) (fun _ => ?_)
  refine lv_aload_n hx hb dX11_init_173 rfl (lv_at hl 1 rfl) ?_
  refine va_get (ci := 11) (C := RX11) (T := TX11) (N := 20) hx hb hts (am_uin (ci := 11) rfl) hown hK hQ.1 5 rfl rfl 8 (by decide) (hts _ (am_ig (i := 352) (by decide +kernel) rfl)) (fun _ h9 => h9) rfl dX11_init_174 ?_
  refine lv_iload_n hx hb dX11_init_177 rfl (lv_at hl 0 rfl) ?_
  refine vQ_new hx hb 9 rfl hts tyX9 tyX9_ok hown (am_ig (i := 228) (by decide +kernel) rfl) (am_ig (i := 230) (by decide +kernel) rfl) hK hQ hS hA (fs := [.null, .int 0, .int 0]) (kz_9) (Nat.le_of_ble_eq_true rfl) (Nat.le_of_ble_eq_true rfl) dX11_init_178 (fun q33 H hQ hS => ?_)
  refine W.widen (k := 38) (n := 1009) (by omega) (by omega) ?_
  refine lv_dup hx hb dX11_init_181 rfl ?_
  refine kC_callN (rest := [.ref q33, .int 2, .ref q28]) (kk_X9 l D cA) kX_t trivial hx hb hml hown hts hK kc_9 ki_9 (hX.1 _ (List.mem_filter.mpr ⟨List.mem_of_getElem? (i := 166) (by decide +kernel), rfl⟩)) kn_9 rfl ke_9 ⟨Nat.le_of_ble_eq_true rfl, Nat.le_of_ble_eq_true rfl⟩ hQ hS hA hl.1 (Nat.le_of_ble_eq_true rfl) dX11_init_182 ⟨Nat.le_of_ble_eq_true rfl, Nat.le_of_ble_eq_true rfl⟩ (fun u34 H locs hQ hS => ?_)
  have hQ : vQ D A ((u34 0, .inl (cA 0, 120, .inl (fun _ => 0))) :: (q33, .inr (9, [.ref (u34 0), .int 0, .int 0])) :: (u32 0, .inl (cA 0, 120, .inl (fun _ => 0))) :: (q31, .inr (9, [.ref (u32 0), .int 0, .int 0])) :: (u30 0, .inl (cA 0, 120, .inl (fun _ => 0))) :: (q29, .inr (9, [.ref (u30 0), .int 0, .int 0])) :: (q28, .inl (cA 3, 8, .inr (.inr (.inr (.inr (va_up (va_up (fun _ => none) 0 (some q29)) 1 (some q31))))))) :: (h, .inr (11, [.ref q1, .ref q8, .ref q9, .ref q11, .ref q13, .ref q15, .ref q17, .ref q19, .ref q28, .null, .null, .null, .null, .null, .null, .null, .int 0, .int 0, .int 0, .int 0])) :: R8) H := hQ
  refine W.widen (k := 39) (n := 1129) (by omega) (by omega) ?_
  refine va_astq hx hb hK hQ.1 hQ.2 hS 6 3 1 9 rfl rfl rfl rfl (by unfold vp_in; decide) dX11_init_185 (fun H locs hP hD hS => ?_)
  have hQ : vQ D A ((u34 0, .inl (cA 0, 120, .inl (fun _ => 0))) :: (q33, .inr (9, [.ref (u34 0), .int 0, .int 0])) :: (u32 0, .inl (cA 0, 120, .inl (fun _ => 0))) :: (q31, .inr (9, [.ref (u32 0), .int 0, .int 0])) :: (u30 0, .inl (cA 0, 120, .inl (fun _ => 0))) :: (q29, .inr (9, [.ref (u30 0), .int 0, .int 0])) :: (q28, .inl (cA 3, 8, .inr (.inr (.inr (.inr (va_up (va_up (va_up (fun _ => none) 0 (some q29)) 1 (some q31)) 2 (some q33))))))) :: (h, .inr (11, [.ref q1, .ref q8, .ref q9, .ref q11, .ref q13, .ref q15, .ref q17, .ref q19, .ref q28, .null, .null, .null, .null, .null, .null, .null, .int 0, .int 0, .int 0, .int 0])) :: R8) H := ⟨hP, hD⟩
  refine lv_iinc (v := 3) (lv' := [(1, .int 3), (0, .ref h)]) hx hb dX11_init_186 hl (k := 0) rfl (by decide) (by decide) rfl (fun ls hl => ?_)
  refine lv_goto (tgt := 167) hx hb dX11_init_189 (by decide) ?_
  refine lv_iload_n hx hb dX11_init_167 rfl (lv_at hl 0 rfl) ?_
  refine lv_bipush (v := 8) hx hb dX11_init_168 (by decide) ?_
  refine lv_icmp_ge (tgt := 192) hx hb dX11_init_170 (by decide) (fun z => absurd z (by decide)) (fun _ => ?_)
  refine lv_aload_n hx hb dX11_init_173 rfl (lv_at hl 1 rfl) ?_
  refine va_get (ci := 11) (C := RX11) (T := TX11) (N := 20) hx hb hts (am_uin (ci := 11) rfl) hown hK hQ.1 7 rfl rfl 8 (by decide) (hts _ (am_ig (i := 352) (by decide +kernel) rfl)) (fun _ h9 => h9) rfl dX11_init_174 ?_
  refine lv_iload_n hx hb dX11_init_177 rfl (lv_at hl 0 rfl) ?_
  refine vQ_new hx hb 9 rfl hts tyX9 tyX9_ok hown (am_ig (i := 228) (by decide +kernel) rfl) (am_ig (i := 230) (by decide +kernel) rfl) hK hQ hS hA (fs := [.null, .int 0, .int 0]) (kz_9) (Nat.le_of_ble_eq_true rfl) (Nat.le_of_ble_eq_true rfl) dX11_init_178 (fun q35 H hQ hS => ?_)
  refine W.widen (k := 40) (n := 1132) (by omega) (by omega) ?_
  refine lv_dup hx hb dX11_init_181 rfl ?_
  refine kC_callN (rest := [.ref q35, .int 3, .ref q28]) (kk_X9 l D cA) kX_t trivial hx hb hml hown hts hK kc_9 ki_9 (hX.1 _ (List.mem_filter.mpr ⟨List.mem_of_getElem? (i := 166) (by decide +kernel), rfl⟩)) kn_9 rfl ke_9 ⟨Nat.le_of_ble_eq_true rfl, Nat.le_of_ble_eq_true rfl⟩ hQ hS hA hl.1 (Nat.le_of_ble_eq_true rfl) dX11_init_182 ⟨Nat.le_of_ble_eq_true rfl, Nat.le_of_ble_eq_true rfl⟩ (fun u36 H locs hQ hS => ?_)
  have hQ : vQ D A ((u36 0, .inl (cA 0, 120, .inl (fun _ => 0))) :: (q35, .inr (9, [.ref (u36 0), .int 0, .int 0])) :: (u34 0, .inl (cA 0, 120, .inl (fun _ => 0))) :: (q33, .inr (9, [.ref (u34 0), .int 0, .int 0])) :: (u32 0, .inl (cA 0, 120, .inl (fun _ => 0))) :: (q31, .inr (9, [.ref (u32 0), .int 0, .int 0])) :: (u30 0, .inl (cA 0, 120, .inl (fun _ => 0))) :: (q29, .inr (9, [.ref (u30 0), .int 0, .int 0])) :: (q28, .inl (cA 3, 8, .inr (.inr (.inr (.inr (va_up (va_up (va_up (fun _ => none) 0 (some q29)) 1 (some q31)) 2 (some q33))))))) :: (h, .inr (11, [.ref q1, .ref q8, .ref q9, .ref q11, .ref q13, .ref q15, .ref q17, .ref q19, .ref q28, .null, .null, .null, .null, .null, .null, .null, .int 0, .int 0, .int 0, .int 0])) :: R8) H := hQ
  refine W.widen (k := 41) (n := 1252) (by omega) (by omega) ?_
  refine va_astq hx hb hK hQ.1 hQ.2 hS 8 3 1 9 rfl rfl rfl rfl (by unfold vp_in; decide) dX11_init_185 (fun H locs hP hD hS => ?_)
  have hQ : vQ D A ((u36 0, .inl (cA 0, 120, .inl (fun _ => 0))) :: (q35, .inr (9, [.ref (u36 0), .int 0, .int 0])) :: (u34 0, .inl (cA 0, 120, .inl (fun _ => 0))) :: (q33, .inr (9, [.ref (u34 0), .int 0, .int 0])) :: (u32 0, .inl (cA 0, 120, .inl (fun _ => 0))) :: (q31, .inr (9, [.ref (u32 0), .int 0, .int 0])) :: (u30 0, .inl (cA 0, 120, .inl (fun _ => 0))) :: (q29, .inr (9, [.ref (u30 0), .int 0, .int 0])) :: (q28, .inl (cA 3, 8, .inr (.inr (.inr (.inr (va_up (va_up (va_up (va_up (fun _ => none) 0 (some q29)) 1 (some q31)) 2 (some q33)) 3 (some q35))))))) :: (h, .inr (11, [.ref q1, .ref q8, .ref q9, .ref q11, .ref q13, .ref q15, .ref q17, .ref q19, .ref q28, .null, .null, .null, .null, .null, .null, .null, .int 0, .int 0, .int 0, .int 0])) :: R8) H := ⟨hP, hD⟩
  refine lv_iinc (v := 4) (lv' := [(1, .int 4), (0, .ref h)]) hx hb dX11_init_186 hl (k := 0) rfl (by decide) (by decide) rfl (fun ls hl => ?_)
  refine lv_goto (tgt := 167) hx hb dX11_init_189 (by decide) ?_
  refine lv_iload_n hx hb dX11_init_167 rfl (lv_at hl 0 rfl) ?_
  refine lv_bipush (v := 8) hx hb dX11_init_168 (by decide) ?_
  refine lv_icmp_ge (tgt := 192) hx hb dX11_init_170 (by decide) (fun z => absurd z (by decide)) (fun _ => ?_)
  refine lv_aload_n hx hb dX11_init_173 rfl (lv_at hl 1 rfl) ?_
  refine va_get (ci := 11) (C := RX11) (T := TX11) (N := 20) hx hb hts (am_uin (ci := 11) rfl) hown hK hQ.1 9 rfl rfl 8 (by decide) (hts _ (am_ig (i := 352) (by decide +kernel) rfl)) (fun _ h9 => h9) rfl dX11_init_174 ?_
  refine lv_iload_n hx hb dX11_init_177 rfl (lv_at hl 0 rfl) ?_
  refine vQ_new hx hb 9 rfl hts tyX9 tyX9_ok hown (am_ig (i := 228) (by decide +kernel) rfl) (am_ig (i := 230) (by decide +kernel) rfl) hK hQ hS hA (fs := [.null, .int 0, .int 0]) (kz_9) (Nat.le_of_ble_eq_true rfl) (Nat.le_of_ble_eq_true rfl) dX11_init_178 (fun q37 H hQ hS => ?_)
  refine W.widen (k := 42) (n := 1255) (by omega) (by omega) ?_
  refine lv_dup hx hb dX11_init_181 rfl ?_
  refine kC_callN (rest := [.ref q37, .int 4, .ref q28]) (kk_X9 l D cA) kX_t trivial hx hb hml hown hts hK kc_9 ki_9 (hX.1 _ (List.mem_filter.mpr ⟨List.mem_of_getElem? (i := 166) (by decide +kernel), rfl⟩)) kn_9 rfl ke_9 ⟨Nat.le_of_ble_eq_true rfl, Nat.le_of_ble_eq_true rfl⟩ hQ hS hA hl.1 (Nat.le_of_ble_eq_true rfl) dX11_init_182 ⟨Nat.le_of_ble_eq_true rfl, Nat.le_of_ble_eq_true rfl⟩ (fun u38 H locs hQ hS => ?_)
  have hQ : vQ D A ((u38 0, .inl (cA 0, 120, .inl (fun _ => 0))) :: (q37, .inr (9, [.ref (u38 0), .int 0, .int 0])) :: (u36 0, .inl (cA 0, 120, .inl (fun _ => 0))) :: (q35, .inr (9, [.ref (u36 0), .int 0, .int 0])) :: (u34 0, .inl (cA 0, 120, .inl (fun _ => 0))) :: (q33, .inr (9, [.ref (u34 0), .int 0, .int 0])) :: (u32 0, .inl (cA 0, 120, .inl (fun _ => 0))) :: (q31, .inr (9, [.ref (u32 0), .int 0, .int 0])) :: (u30 0, .inl (cA 0, 120, .inl (fun _ => 0))) :: (q29, .inr (9, [.ref (u30 0), .int 0, .int 0])) :: (q28, .inl (cA 3, 8, .inr (.inr (.inr (.inr (va_up (va_up (va_up (va_up (fun _ => none) 0 (some q29)) 1 (some q31)) 2 (some q33)) 3 (some q35))))))) :: (h, .inr (11, [.ref q1, .ref q8, .ref q9, .ref q11, .ref q13, .ref q15, .ref q17, .ref q19, .ref q28, .null, .null, .null, .null, .null, .null, .null, .int 0, .int 0, .int 0, .int 0])) :: R8) H := hQ
  refine W.widen (k := 43) (n := 1375) (by omega) (by omega) ?_
  refine va_astq hx hb hK hQ.1 hQ.2 hS 10 3 1 9 rfl rfl rfl rfl (by unfold vp_in; decide) dX11_init_185 (fun H locs hP hD hS => ?_)
  have hQ : vQ D A ((u38 0, .inl (cA 0, 120, .inl (fun _ => 0))) :: (q37, .inr (9, [.ref (u38 0), .int 0, .int 0])) :: (u36 0, .inl (cA 0, 120, .inl (fun _ => 0))) :: (q35, .inr (9, [.ref (u36 0), .int 0, .int 0])) :: (u34 0, .inl (cA 0, 120, .inl (fun _ => 0))) :: (q33, .inr (9, [.ref (u34 0), .int 0, .int 0])) :: (u32 0, .inl (cA 0, 120, .inl (fun _ => 0))) :: (q31, .inr (9, [.ref (u32 0), .int 0, .int 0])) :: (u30 0, .inl (cA 0, 120, .inl (fun _ => 0))) :: (q29, .inr (9, [.ref (u30 0), .int 0, .int 0])) :: (q28, .inl (cA 3, 8, .inr (.inr (.inr (.inr (va_up (va_up (va_up (va_up (va_up (fun _ => none) 0 (some q29)) 1 (some q31)) 2 (some q33)) 3 (some q35)) 4 (some q37))))))) :: (h, .inr (11, [.ref q1, .ref q8, .ref q9, .ref q11, .ref q13, .ref q15, .ref q17, .ref q19, .ref q28, .null, .null, .null, .null, .null, .null, .null, .int 0, .int 0, .int 0, .int 0])) :: R8) H := ⟨hP, hD⟩
  refine lv_iinc (v := 5) (lv' := [(1, .int 5), (0, .ref h)]) hx hb dX11_init_186 hl (k := 0) rfl (by decide) (by decide) rfl (fun ls hl => ?_)
  refine lv_goto (tgt := 167) hx hb dX11_init_189 (by decide) ?_
  refine lv_iload_n hx hb dX11_init_167 rfl (lv_at hl 0 rfl) ?_
  refine lv_bipush (v := 8) hx hb dX11_init_168 (by decide) ?_
  refine lv_icmp_ge (tgt := 192) hx hb dX11_init_170 (by decide) (fun z => absurd z (by decide)) (fun _ => ?_)
  refine lv_aload_n hx hb dX11_init_173 rfl (lv_at hl 1 rfl) ?_
  refine va_get (ci := 11) (C := RX11) (T := TX11) (N := 20) hx hb hts (am_uin (ci := 11) rfl) hown hK hQ.1 11 rfl rfl 8 (by decide) (hts _ (am_ig (i := 352) (by decide +kernel) rfl)) (fun _ h9 => h9) rfl dX11_init_174 ?_
  refine lv_iload_n hx hb dX11_init_177 rfl (lv_at hl 0 rfl) ?_
  refine vQ_new hx hb 9 rfl hts tyX9 tyX9_ok hown (am_ig (i := 228) (by decide +kernel) rfl) (am_ig (i := 230) (by decide +kernel) rfl) hK hQ hS hA (fs := [.null, .int 0, .int 0]) (kz_9) (Nat.le_of_ble_eq_true rfl) (Nat.le_of_ble_eq_true rfl) dX11_init_178 (fun q39 H hQ hS => ?_)
  refine W.widen (k := 44) (n := 1378) (by omega) (by omega) ?_
  refine lv_dup hx hb dX11_init_181 rfl ?_
  refine kC_callN (rest := [.ref q39, .int 5, .ref q28]) (kk_X9 l D cA) kX_t trivial hx hb hml hown hts hK kc_9 ki_9 (hX.1 _ (List.mem_filter.mpr ⟨List.mem_of_getElem? (i := 166) (by decide +kernel), rfl⟩)) kn_9 rfl ke_9 ⟨Nat.le_of_ble_eq_true rfl, Nat.le_of_ble_eq_true rfl⟩ hQ hS hA hl.1 (Nat.le_of_ble_eq_true rfl) dX11_init_182 ⟨Nat.le_of_ble_eq_true rfl, Nat.le_of_ble_eq_true rfl⟩ (fun u40 H locs hQ hS => ?_)
  have hQ : vQ D A ((u40 0, .inl (cA 0, 120, .inl (fun _ => 0))) :: (q39, .inr (9, [.ref (u40 0), .int 0, .int 0])) :: (u38 0, .inl (cA 0, 120, .inl (fun _ => 0))) :: (q37, .inr (9, [.ref (u38 0), .int 0, .int 0])) :: (u36 0, .inl (cA 0, 120, .inl (fun _ => 0))) :: (q35, .inr (9, [.ref (u36 0), .int 0, .int 0])) :: (u34 0, .inl (cA 0, 120, .inl (fun _ => 0))) :: (q33, .inr (9, [.ref (u34 0), .int 0, .int 0])) :: (u32 0, .inl (cA 0, 120, .inl (fun _ => 0))) :: (q31, .inr (9, [.ref (u32 0), .int 0, .int 0])) :: (u30 0, .inl (cA 0, 120, .inl (fun _ => 0))) :: (q29, .inr (9, [.ref (u30 0), .int 0, .int 0])) :: (q28, .inl (cA 3, 8, .inr (.inr (.inr (.inr (va_up (va_up (va_up (va_up (va_up (fun _ => none) 0 (some q29)) 1 (some q31)) 2 (some q33)) 3 (some q35)) 4 (some q37))))))) :: (h, .inr (11, [.ref q1, .ref q8, .ref q9, .ref q11, .ref q13, .ref q15, .ref q17, .ref q19, .ref q28, .null, .null, .null, .null, .null, .null, .null, .int 0, .int 0, .int 0, .int 0])) :: R8) H := hQ
  refine W.widen (k := 45) (n := 1498) (by omega) (by omega) ?_
  refine va_astq hx hb hK hQ.1 hQ.2 hS 12 3 1 9 rfl rfl rfl rfl (by unfold vp_in; decide) dX11_init_185 (fun H locs hP hD hS => ?_)
  have hQ : vQ D A ((u40 0, .inl (cA 0, 120, .inl (fun _ => 0))) :: (q39, .inr (9, [.ref (u40 0), .int 0, .int 0])) :: (u38 0, .inl (cA 0, 120, .inl (fun _ => 0))) :: (q37, .inr (9, [.ref (u38 0), .int 0, .int 0])) :: (u36 0, .inl (cA 0, 120, .inl (fun _ => 0))) :: (q35, .inr (9, [.ref (u36 0), .int 0, .int 0])) :: (u34 0, .inl (cA 0, 120, .inl (fun _ => 0))) :: (q33, .inr (9, [.ref (u34 0), .int 0, .int 0])) :: (u32 0, .inl (cA 0, 120, .inl (fun _ => 0))) :: (q31, .inr (9, [.ref (u32 0), .int 0, .int 0])) :: (u30 0, .inl (cA 0, 120, .inl (fun _ => 0))) :: (q29, .inr (9, [.ref (u30 0), .int 0, .int 0])) :: (q28, .inl (cA 3, 8, .inr (.inr (.inr (.inr (va_up (va_up (va_up (va_up (va_up (va_up (fun _ => none) 0 (some q29)) 1 (some q31)) 2 (some q33)) 3 (some q35)) 4 (some q37)) 5 (some q39))))))) :: (h, .inr (11, [.ref q1, .ref q8, .ref q9, .ref q11, .ref q13, .ref q15, .ref q17, .ref q19, .ref q28, .null, .null, .null, .null, .null, .null, .null, .int 0, .int 0, .int 0, .int 0])) :: R8) H := ⟨hP, hD⟩
  refine lv_iinc (v := 6) (lv' := [(1, .int 6), (0, .ref h)]) hx hb dX11_init_186 hl (k := 0) rfl (by decide) (by decide) rfl (fun ls hl => ?_)
  refine lv_goto (tgt := 167) hx hb dX11_init_189 (by decide) ?_
  refine lv_iload_n hx hb dX11_init_167 rfl (lv_at hl 0 rfl) ?_
  refine lv_bipush (v := 8) hx hb dX11_init_168 (by decide) ?_
  refine lv_icmp_ge (tgt := 192) hx hb dX11_init_170 (by decide) (fun z => absurd z (by decide)) (fun _ => ?_)
  refine lv_aload_n hx hb dX11_init_173 rfl (lv_at hl 1 rfl) ?_
  refine va_get (ci := 11) (C := RX11) (T := TX11) (N := 20) hx hb hts (am_uin (ci := 11) rfl) hown hK hQ.1 13 rfl rfl 8 (by decide) (hts _ (am_ig (i := 352) (by decide +kernel) rfl)) (fun _ h9 => h9) rfl dX11_init_174 ?_
  refine lv_iload_n hx hb dX11_init_177 rfl (lv_at hl 0 rfl) ?_
  refine vQ_new hx hb 9 rfl hts tyX9 tyX9_ok hown (am_ig (i := 228) (by decide +kernel) rfl) (am_ig (i := 230) (by decide +kernel) rfl) hK hQ hS hA (fs := [.null, .int 0, .int 0]) (kz_9) (Nat.le_of_ble_eq_true rfl) (Nat.le_of_ble_eq_true rfl) dX11_init_178 (fun q41 H hQ hS => ?_)
  refine W.widen (k := 46) (n := 1501) (by omega) (by omega) ?_
  refine lv_dup hx hb dX11_init_181 rfl ?_
  refine kC_callN (rest := [.ref q41, .int 6, .ref q28]) (kk_X9 l D cA) kX_t trivial hx hb hml hown hts hK kc_9 ki_9 (hX.1 _ (List.mem_filter.mpr ⟨List.mem_of_getElem? (i := 166) (by decide +kernel), rfl⟩)) kn_9 rfl ke_9 ⟨Nat.le_of_ble_eq_true rfl, Nat.le_of_ble_eq_true rfl⟩ hQ hS hA hl.1 (Nat.le_of_ble_eq_true rfl) dX11_init_182 ⟨Nat.le_of_ble_eq_true rfl, Nat.le_of_ble_eq_true rfl⟩ (fun u42 H locs hQ hS => ?_)
  have hQ : vQ D A ((u42 0, .inl (cA 0, 120, .inl (fun _ => 0))) :: (q41, .inr (9, [.ref (u42 0), .int 0, .int 0])) :: (u40 0, .inl (cA 0, 120, .inl (fun _ => 0))) :: (q39, .inr (9, [.ref (u40 0), .int 0, .int 0])) :: (u38 0, .inl (cA 0, 120, .inl (fun _ => 0))) :: (q37, .inr (9, [.ref (u38 0), .int 0, .int 0])) :: (u36 0, .inl (cA 0, 120, .inl (fun _ => 0))) :: (q35, .inr (9, [.ref (u36 0), .int 0, .int 0])) :: (u34 0, .inl (cA 0, 120, .inl (fun _ => 0))) :: (q33, .inr (9, [.ref (u34 0), .int 0, .int 0])) :: (u32 0, .inl (cA 0, 120, .inl (fun _ => 0))) :: (q31, .inr (9, [.ref (u32 0), .int 0, .int 0])) :: (u30 0, .inl (cA 0, 120, .inl (fun _ => 0))) :: (q29, .inr (9, [.ref (u30 0), .int 0, .int 0])) :: (q28, .inl (cA 3, 8, .inr (.inr (.inr (.inr (va_up (va_up (va_up (va_up (va_up (va_up (fun _ => none) 0 (some q29)) 1 (some q31)) 2 (some q33)) 3 (some q35)) 4 (some q37)) 5 (some q39))))))) :: (h, .inr (11, [.ref q1, .ref q8, .ref q9, .ref q11, .ref q13, .ref q15, .ref q17, .ref q19, .ref q28, .null, .null, .null, .null, .null, .null, .null, .int 0, .int 0, .int 0, .int 0])) :: R8) H := hQ
  refine W.widen (k := 47) (n := 1621) (by omega) (by omega) ?_
  refine va_astq hx hb hK hQ.1 hQ.2 hS 14 3 1 9 rfl rfl rfl rfl (by unfold vp_in; decide) dX11_init_185 (fun H locs hP hD hS => ?_)
  have hQ : vQ D A ((u42 0, .inl (cA 0, 120, .inl (fun _ => 0))) :: (q41, .inr (9, [.ref (u42 0), .int 0, .int 0])) :: (u40 0, .inl (cA 0, 120, .inl (fun _ => 0))) :: (q39, .inr (9, [.ref (u40 0), .int 0, .int 0])) :: (u38 0, .inl (cA 0, 120, .inl (fun _ => 0))) :: (q37, .inr (9, [.ref (u38 0), .int 0, .int 0])) :: (u36 0, .inl (cA 0, 120, .inl (fun _ => 0))) :: (q35, .inr (9, [.ref (u36 0), .int 0, .int 0])) :: (u34 0, .inl (cA 0, 120, .inl (fun _ => 0))) :: (q33, .inr (9, [.ref (u34 0), .int 0, .int 0])) :: (u32 0, .inl (cA 0, 120, .inl (fun _ => 0))) :: (q31, .inr (9, [.ref (u32 0), .int 0, .int 0])) :: (u30 0, .inl (cA 0, 120, .inl (fun _ => 0))) :: (q29, .inr (9, [.ref (u30 0), .int 0, .int 0])) :: (q28, .inl (cA 3, 8, .inr (.inr (.inr (.inr (va_up (va_up (va_up (va_up (va_up (va_up (va_up (fun _ => none) 0 (some q29)) 1 (some q31)) 2 (some q33)) 3 (some q35)) 4 (some q37)) 5 (some q39)) 6 (some q41))))))) :: (h, .inr (11, [.ref q1, .ref q8, .ref q9, .ref q11, .ref q13, .ref q15, .ref q17, .ref q19, .ref q28, .null, .null, .null, .null, .null, .null, .null, .int 0, .int 0, .int 0, .int 0])) :: R8) H := ⟨hP, hD⟩
  refine lv_iinc (v := 7) (lv' := [(1, .int 7), (0, .ref h)]) hx hb dX11_init_186 hl (k := 0) rfl (by decide) (by decide) rfl (fun ls hl => ?_)
  refine lv_goto (tgt := 167) hx hb dX11_init_189 (by decide) ?_
  refine lv_iload_n hx hb dX11_init_167 rfl (lv_at hl 0 rfl) ?_
  refine lv_bipush (v := 8) hx hb dX11_init_168 (by decide) ?_
  refine lv_icmp_ge (tgt := 192) hx hb dX11_init_170 (by decide) (fun z => absurd z (by decide)) (fun _ => ?_)
  refine lv_aload_n hx hb dX11_init_173 rfl (lv_at hl 1 rfl) ?_
  refine va_get (ci := 11) (C := RX11) (T := TX11) (N := 20) hx hb hts (am_uin (ci := 11) rfl) hown hK hQ.1 15 rfl rfl 8 (by decide) (hts _ (am_ig (i := 352) (by decide +kernel) rfl)) (fun _ h9 => h9) rfl dX11_init_174 ?_
  refine lv_iload_n hx hb dX11_init_177 rfl (lv_at hl 0 rfl) ?_
  refine vQ_new hx hb 9 rfl hts tyX9 tyX9_ok hown (am_ig (i := 228) (by decide +kernel) rfl) (am_ig (i := 230) (by decide +kernel) rfl) hK hQ hS hA (fs := [.null, .int 0, .int 0]) (kz_9) (Nat.le_of_ble_eq_true rfl) (Nat.le_of_ble_eq_true rfl) dX11_init_178 (fun q43 H hQ hS => ?_)
  refine W.widen (k := 48) (n := 1624) (by omega) (by omega) ?_
  refine lv_dup hx hb dX11_init_181 rfl ?_
  refine kC_callN (rest := [.ref q43, .int 7, .ref q28]) (kk_X9 l D cA) kX_t trivial hx hb hml hown hts hK kc_9 ki_9 (hX.1 _ (List.mem_filter.mpr ⟨List.mem_of_getElem? (i := 166) (by decide +kernel), rfl⟩)) kn_9 rfl ke_9 ⟨Nat.le_of_ble_eq_true rfl, Nat.le_of_ble_eq_true rfl⟩ hQ hS hA hl.1 (Nat.le_of_ble_eq_true rfl) dX11_init_182 ⟨Nat.le_of_ble_eq_true rfl, Nat.le_of_ble_eq_true rfl⟩ (fun u44 H locs hQ hS => ?_)
  have hQ : vQ D A ((u44 0, .inl (cA 0, 120, .inl (fun _ => 0))) :: (q43, .inr (9, [.ref (u44 0), .int 0, .int 0])) :: (u42 0, .inl (cA 0, 120, .inl (fun _ => 0))) :: (q41, .inr (9, [.ref (u42 0), .int 0, .int 0])) :: (u40 0, .inl (cA 0, 120, .inl (fun _ => 0))) :: (q39, .inr (9, [.ref (u40 0), .int 0, .int 0])) :: (u38 0, .inl (cA 0, 120, .inl (fun _ => 0))) :: (q37, .inr (9, [.ref (u38 0), .int 0, .int 0])) :: (u36 0, .inl (cA 0, 120, .inl (fun _ => 0))) :: (q35, .inr (9, [.ref (u36 0), .int 0, .int 0])) :: (u34 0, .inl (cA 0, 120, .inl (fun _ => 0))) :: (q33, .inr (9, [.ref (u34 0), .int 0, .int 0])) :: (u32 0, .inl (cA 0, 120, .inl (fun _ => 0))) :: (q31, .inr (9, [.ref (u32 0), .int 0, .int 0])) :: (u30 0, .inl (cA 0, 120, .inl (fun _ => 0))) :: (q29, .inr (9, [.ref (u30 0), .int 0, .int 0])) :: (q28, .inl (cA 3, 8, .inr (.inr (.inr (.inr (va_up (va_up (va_up (va_up (va_up (va_up (va_up (fun _ => none) 0 (some q29)) 1 (some q31)) 2 (some q33)) 3 (some q35)) 4 (some q37)) 5 (some q39)) 6 (some q41))))))) :: (h, .inr (11, [.ref q1, .ref q8, .ref q9, .ref q11, .ref q13, .ref q15, .ref q17, .ref q19, .ref q28, .null, .null, .null, .null, .null, .null, .null, .int 0, .int 0, .int 0, .int 0])) :: R8) H := hQ
  refine W.widen (k := 49) (n := 1744) (by omega) (by omega) ?_
  refine va_astq hx hb hK hQ.1 hQ.2 hS 16 3 1 9 rfl rfl rfl rfl (by unfold vp_in; decide) dX11_init_185 (fun H locs hP hD hS => ?_)
  have hQ : vQ D A ((u44 0, .inl (cA 0, 120, .inl (fun _ => 0))) :: (q43, .inr (9, [.ref (u44 0), .int 0, .int 0])) :: (u42 0, .inl (cA 0, 120, .inl (fun _ => 0))) :: (q41, .inr (9, [.ref (u42 0), .int 0, .int 0])) :: (u40 0, .inl (cA 0, 120, .inl (fun _ => 0))) :: (q39, .inr (9, [.ref (u40 0), .int 0, .int 0])) :: (u38 0, .inl (cA 0, 120, .inl (fun _ => 0))) :: (q37, .inr (9, [.ref (u38 0), .int 0, .int 0])) :: (u36 0, .inl (cA 0, 120, .inl (fun _ => 0))) :: (q35, .inr (9, [.ref (u36 0), .int 0, .int 0])) :: (u34 0, .inl (cA 0, 120, .inl (fun _ => 0))) :: (q33, .inr (9, [.ref (u34 0), .int 0, .int 0])) :: (u32 0, .inl (cA 0, 120, .inl (fun _ => 0))) :: (q31, .inr (9, [.ref (u32 0), .int 0, .int 0])) :: (u30 0, .inl (cA 0, 120, .inl (fun _ => 0))) :: (q29, .inr (9, [.ref (u30 0), .int 0, .int 0])) :: (q28, .inl (cA 3, 8, .inr (.inr (.inr (.inr (va_up (va_up (va_up (va_up (va_up (va_up (va_up (va_up (fun _ => none) 0 (some q29)) 1 (some q31)) 2 (some q33)) 3 (some q35)) 4 (some q37)) 5 (some q39)) 6 (some q41)) 7 (some q43))))))) :: (h, .inr (11, [.ref q1, .ref q8, .ref q9, .ref q11, .ref q13, .ref q15, .ref q17, .ref q19, .ref q28, .null, .null, .null, .null, .null, .null, .null, .int 0, .int 0, .int 0, .int 0])) :: R8) H := ⟨hP, hD⟩
  refine lv_iinc (v := 8) (lv' := [(1, .int 8), (0, .ref h)]) hx hb dX11_init_186 hl (k := 0) rfl (by decide) (by decide) rfl (fun ls hl => ?_)
  refine lv_goto (tgt := 167) hx hb dX11_init_189 (by decide) ?_
  refine lv_iload_n hx hb dX11_init_167 rfl (lv_at hl 0 rfl) ?_
  refine lv_bipush (v := 8) hx hb dX11_init_168 (by decide) ?_
  refine lv_icmp_ge (tgt := 192) hx hb dX11_init_170 (by decide) (fun _ => ?_) (fun z => absurd (by decide) z)
  have hQ := vQ.perm (ws' := (h, .inr (11, [.ref q1, .ref q8, .ref q9, .ref q11, .ref q13, .ref q15, .ref q17, .ref q19, .ref q28, .null, .null, .null, .null, .null, .null, .null, .int 0, .int 0, .int 0, .int 0])) :: ([(u44 0, .inl (cA 0, 120, .inl (fun _ => 0))), (q43, .inr (9, [.ref (u44 0), .int 0, .int 0])), (u42 0, .inl (cA 0, 120, .inl (fun _ => 0))), (q41, .inr (9, [.ref (u42 0), .int 0, .int 0])), (u40 0, .inl (cA 0, 120, .inl (fun _ => 0))), (q39, .inr (9, [.ref (u40 0), .int 0, .int 0])), (u38 0, .inl (cA 0, 120, .inl (fun _ => 0))), (q37, .inr (9, [.ref (u38 0), .int 0, .int 0])), (u36 0, .inl (cA 0, 120, .inl (fun _ => 0))), (q35, .inr (9, [.ref (u36 0), .int 0, .int 0])), (u34 0, .inl (cA 0, 120, .inl (fun _ => 0))), (q33, .inr (9, [.ref (u34 0), .int 0, .int 0])), (u32 0, .inl (cA 0, 120, .inl (fun _ => 0))), (q31, .inr (9, [.ref (u32 0), .int 0, .int 0])), (u30 0, .inl (cA 0, 120, .inl (fun _ => 0))), (q29, .inr (9, [.ref (u30 0), .int 0, .int 0])), (q28, .inl (cA 3, 8, .inr (.inr (.inr (.inr (va_up (va_up (va_up (va_up (va_up (va_up (va_up (va_up (fun _ => none) 0 (some q29)) 1 (some q31)) 2 (some q33)) 3 (some q35)) 4 (some q37)) 5 (some q39)) 6 (some q41)) 7 (some q43)))))))] ++ R8)) (show vQ D A ([(u44 0, .inl (cA 0, 120, .inl (fun _ => 0))), (q43, .inr (9, [.ref (u44 0), .int 0, .int 0])), (u42 0, .inl (cA 0, 120, .inl (fun _ => 0))), (q41, .inr (9, [.ref (u42 0), .int 0, .int 0])), (u40 0, .inl (cA 0, 120, .inl (fun _ => 0))), (q39, .inr (9, [.ref (u40 0), .int 0, .int 0])), (u38 0, .inl (cA 0, 120, .inl (fun _ => 0))), (q37, .inr (9, [.ref (u38 0), .int 0, .int 0])), (u36 0, .inl (cA 0, 120, .inl (fun _ => 0))), (q35, .inr (9, [.ref (u36 0), .int 0, .int 0])), (u34 0, .inl (cA 0, 120, .inl (fun _ => 0))), (q33, .inr (9, [.ref (u34 0), .int 0, .int 0])), (u32 0, .inl (cA 0, 120, .inl (fun _ => 0))), (q31, .inr (9, [.ref (u32 0), .int 0, .int 0])), (u30 0, .inl (cA 0, 120, .inl (fun _ => 0))), (q29, .inr (9, [.ref (u30 0), .int 0, .int 0])), (q28, .inl (cA 3, 8, .inr (.inr (.inr (.inr (va_up (va_up (va_up (va_up (va_up (va_up (va_up (va_up (fun _ => none) 0 (some q29)) 1 (some q31)) 2 (some q33)) 3 (some q35)) 4 (some q37)) 5 (some q39)) 6 (some q41)) 7 (some q43)))))))] ++ (h, .inr (11, [.ref q1, .ref q8, .ref q9, .ref q11, .ref q13, .ref q15, .ref q17, .ref q19, .ref q28, .null, .null, .null, .null, .null, .null, .null, .int 0, .int 0, .int 0, .int 0])) :: R8) H from hQ) List.perm_middle.symm
  obtain ⟨R9, hR9⟩ : ∃ R : va_W, R = [(u44 0, .inl (cA 0, 120, .inl (fun _ => 0))), (q43, .inr (9, [.ref (u44 0), .int 0, .int 0])), (u42 0, .inl (cA 0, 120, .inl (fun _ => 0))), (q41, .inr (9, [.ref (u42 0), .int 0, .int 0])), (u40 0, .inl (cA 0, 120, .inl (fun _ => 0))), (q39, .inr (9, [.ref (u40 0), .int 0, .int 0])), (u38 0, .inl (cA 0, 120, .inl (fun _ => 0))), (q37, .inr (9, [.ref (u38 0), .int 0, .int 0])), (u36 0, .inl (cA 0, 120, .inl (fun _ => 0))), (q35, .inr (9, [.ref (u36 0), .int 0, .int 0])), (u34 0, .inl (cA 0, 120, .inl (fun _ => 0))), (q33, .inr (9, [.ref (u34 0), .int 0, .int 0])), (u32 0, .inl (cA 0, 120, .inl (fun _ => 0))), (q31, .inr (9, [.ref (u32 0), .int 0, .int 0])), (u30 0, .inl (cA 0, 120, .inl (fun _ => 0))), (q29, .inr (9, [.ref (u30 0), .int 0, .int 0])), (q28, .inl (cA 3, 8, .inr (.inr (.inr (.inr (va_up (va_up (va_up (va_up (va_up (va_up (va_up (va_up (fun _ => none) 0 (some q29)) 1 (some q31)) 2 (some q33)) 3 (some q35)) 4 (some q37)) 5 (some q39)) 6 (some q41)) 7 (some q43)))))))] ++ R8 := ⟨_, rfl⟩
  rw [← hR9] at hQ
  refine lv_aload_n hx hb dX11_init_192 rfl (lv_at hl 1 rfl) ?_
  refine vQ_new hx hb 9 rfl hts tyX9 tyX9_ok hown (am_ig (i := 228) (by decide +kernel) rfl) (am_ig (i := 230) (by decide +kernel) rfl) hK hQ hS hA (fs := [.null, .int 0, .int 0]) (kz_9) (Nat.le_of_ble_eq_true rfl) (Nat.le_of_ble_eq_true rfl) dX11_init_193 (fun q45 H hQ hS => ?_)
  refine W.widen (k := 50) (n := 1747) (by omega) (by omega) ?_
  refine lv_dup hx hb dX11_init_196 rfl ?_
  refine kC_callN (rest := [.ref q45, .ref h]) (kk_X9 l D cA) kX_t trivial hx hb hml hown hts hK kc_9 ki_9 (hX.1 _ (List.mem_filter.mpr ⟨List.mem_of_getElem? (i := 166) (by decide +kernel), rfl⟩)) kn_9 rfl ke_9 ⟨Nat.le_of_ble_eq_true rfl, Nat.le_of_ble_eq_true rfl⟩ hQ hS hA hl.1 (Nat.le_of_ble_eq_true rfl) dX11_init_197 ⟨Nat.le_of_ble_eq_true rfl, Nat.le_of_ble_eq_true rfl⟩ (fun u46 H locs hQ hS => ?_)
  have hQ : vQ D A ((u46 0, .inl (cA 0, 120, .inl (fun _ => 0))) :: (q45, .inr (9, [.ref (u46 0), .int 0, .int 0])) :: (h, .inr (11, [.ref q1, .ref q8, .ref q9, .ref q11, .ref q13, .ref q15, .ref q17, .ref q19, .ref q28, .null, .null, .null, .null, .null, .null, .null, .int 0, .int 0, .int 0, .int 0])) :: R9) H := hQ
  refine W.widen (k := 51) (n := 1867) (by omega) (by omega) ?_
  refine va_putF (D := D) (ci := 11) (v := .ref q45) (ty := .object "DeadLasts$Trace") (C := RX11) (T := TX11) (N := 20) hx hb hts (am_uin (ci := 11) rfl) tyX11 tyX11_ok nmX11 hown hK hQ.1 hQ.2 hS 2 rfl rfl 9 (by decide) (hts _ (am_ig (i := 353) (by decide +kernel) rfl)) (fun _ h9 => h9) rfl hin rfl (by decide +kernel) rfl rfl (Nat.le_of_ble_eq_true rfl) dX11_init_200 (fun H locs hP hD hS => ?_)
  have hQ : vQ D A ((u46 0, .inl (cA 0, 120, .inl (fun _ => 0))) :: (q45, .inr (9, [.ref (u46 0), .int 0, .int 0])) :: (h, .inr (11, [.ref q1, .ref q8, .ref q9, .ref q11, .ref q13, .ref q15, .ref q17, .ref q19, .ref q28, .ref q45, .null, .null, .null, .null, .null, .null, .int 0, .int 0, .int 0, .int 0])) :: R9) H := ⟨hP, hD⟩
  have hQ := vQ.perm (ws' := (h, .inr (11, [.ref q1, .ref q8, .ref q9, .ref q11, .ref q13, .ref q15, .ref q17, .ref q19, .ref q28, .ref q45, .null, .null, .null, .null, .null, .null, .int 0, .int 0, .int 0, .int 0])) :: ([(u46 0, .inl (cA 0, 120, .inl (fun _ => 0))), (q45, .inr (9, [.ref (u46 0), .int 0, .int 0]))] ++ R9)) (show vQ D A ([(u46 0, .inl (cA 0, 120, .inl (fun _ => 0))), (q45, .inr (9, [.ref (u46 0), .int 0, .int 0]))] ++ (h, .inr (11, [.ref q1, .ref q8, .ref q9, .ref q11, .ref q13, .ref q15, .ref q17, .ref q19, .ref q28, .ref q45, .null, .null, .null, .null, .null, .null, .int 0, .int 0, .int 0, .int 0])) :: R9) H from hQ) List.perm_middle.symm
  obtain ⟨R10, hR10⟩ : ∃ R : va_W, R = [(u46 0, .inl (cA 0, 120, .inl (fun _ => 0))), (q45, .inr (9, [.ref (u46 0), .int 0, .int 0]))] ++ R9 := ⟨_, rfl⟩
  rw [← hR10] at hQ
  refine lv_aload_n hx hb dX11_init_203 rfl (lv_at hl 1 rfl) ?_
  refine vQ_new hx hb 10 rfl hts tyX10 tyX10_ok hown (am_ig (i := 247) (by decide +kernel) rfl) (am_ig (i := 248) (by decide +kernel) rfl) hK hQ hS hA (fs := [.null, .null, .int 0, .int 0, .int 0, .int 0, .int 0, .int 0, .int 0, .int 0, .int 0, .int 0, .int 0]) (kz_10) (Nat.le_of_ble_eq_true rfl) (Nat.le_of_ble_eq_true rfl) dX11_init_204 (fun q47 H hQ hS => ?_)
  refine W.widen (k := 52) (n := 1880) (by omega) (by omega) ?_
  refine lv_dup hx hb dX11_init_207 rfl ?_
  refine lv_aload_n hx hb dX11_init_208 rfl (lv_at hl 1 rfl) ?_
  refine va_get (ci := 11) (C := RX11) (T := TX11) (N := 20) hx hb hts (am_uin (ci := 11) rfl) hown hK hQ.1 1 rfl rfl 2 (by decide) (hts _ (am_ig (i := 346) (by decide +kernel) rfl)) (fun _ h9 => h9) rfl dX11_init_209 ?_
  refine lv_aload_n hx hb dX11_init_212 rfl (lv_at hl 1 rfl) ?_
  refine va_get (ci := 11) (C := RX11) (T := TX11) (N := 20) hx hb hts (am_uin (ci := 11) rfl) hown hK hQ.1 1 rfl rfl 3 (by decide) (hts _ (am_ig (i := 347) (by decide +kernel) rfl)) (fun _ h9 => h9) rfl dX11_init_213 ?_
  refine kC_call (rest := [.ref q47, .ref h]) (kk_X10 l D cA (g1 := q9) (g2 := q11)) kX_t trivial hx hb hml hown hts hK kc_10 ki_10 (am_ig (i := 249) (by decide +kernel) rfl) kn_10 rfl ke_10 ⟨Nat.le_of_ble_eq_true rfl, Nat.le_of_ble_eq_true rfl⟩ hQ hS hA hl.1 (Nat.le_of_ble_eq_true rfl) dX11_init_216 ⟨Nat.le_of_ble_eq_true rfl, Nat.le_of_ble_eq_true rfl⟩ (fun u48 H locs hQ hS => ?_)
  have hQ : vQ D A ((q47, .inr (10, [.ref q9, .ref q11, .int 0, .int 0, .int 0, .int 0, .int 0, .int 0, .int 0, .int 0, .int 0, .int 0, .int 0])) :: (h, .inr (11, [.ref q1, .ref q8, .ref q9, .ref q11, .ref q13, .ref q15, .ref q17, .ref q19, .ref q28, .ref q45, .null, .null, .null, .null, .null, .null, .int 0, .int 0, .int 0, .int 0])) :: R10) H := hQ
  refine W.widen (k := 52) (n := 1880) (by omega) (by omega) ?_
  refine va_putF (D := D) (ci := 11) (v := .ref q47) (ty := .object "DeadLasts$Walker") (C := RX11) (T := TX11) (N := 20) hx hb hts (am_uin (ci := 11) rfl) tyX11 tyX11_ok nmX11 hown hK hQ.1 hQ.2 hS 1 rfl rfl 10 (by decide) (hts _ (am_ig (i := 354) (by decide +kernel) rfl)) (fun _ h9 => h9) rfl hin rfl (by decide +kernel) rfl rfl (Nat.le_of_ble_eq_true rfl) dX11_init_219 (fun H locs hP hD hS => ?_)
  have hQ : vQ D A ((q47, .inr (10, [.ref q9, .ref q11, .int 0, .int 0, .int 0, .int 0, .int 0, .int 0, .int 0, .int 0, .int 0, .int 0, .int 0])) :: (h, .inr (11, [.ref q1, .ref q8, .ref q9, .ref q11, .ref q13, .ref q15, .ref q17, .ref q19, .ref q28, .ref q45, .ref q47, .null, .null, .null, .null, .null, .int 0, .int 0, .int 0, .int 0])) :: R10) H := ⟨hP, hD⟩
  have hQ := vQ.perm (ws' := (h, .inr (11, [.ref q1, .ref q8, .ref q9, .ref q11, .ref q13, .ref q15, .ref q17, .ref q19, .ref q28, .ref q45, .ref q47, .null, .null, .null, .null, .null, .int 0, .int 0, .int 0, .int 0])) :: ([(q47, .inr (10, [.ref q9, .ref q11, .int 0, .int 0, .int 0, .int 0, .int 0, .int 0, .int 0, .int 0, .int 0, .int 0, .int 0]))] ++ R10)) (show vQ D A ([(q47, .inr (10, [.ref q9, .ref q11, .int 0, .int 0, .int 0, .int 0, .int 0, .int 0, .int 0, .int 0, .int 0, .int 0, .int 0]))] ++ (h, .inr (11, [.ref q1, .ref q8, .ref q9, .ref q11, .ref q13, .ref q15, .ref q17, .ref q19, .ref q28, .ref q45, .ref q47, .null, .null, .null, .null, .null, .int 0, .int 0, .int 0, .int 0])) :: R10) H from hQ) List.perm_middle.symm
  obtain ⟨R11, hR11⟩ : ∃ R : va_W, R = [(q47, .inr (10, [.ref q9, .ref q11, .int 0, .int 0, .int 0, .int 0, .int 0, .int 0, .int 0, .int 0, .int 0, .int 0, .int 0]))] ++ R10 := ⟨_, rfl⟩
  rw [← hR11] at hQ
  refine lv_aload_n hx hb dX11_init_222 rfl (lv_at hl 1 rfl) ?_
  refine vQ_new hx hb 6 rfl hts tyX6 tyX6_ok hown (am_ig (i := 302) (by decide +kernel) rfl) (am_ig (i := 303) (by decide +kernel) rfl) hK hQ hS hA (fs := [.null, .int 0, .int 0, .int 0, .long 0]) (kz_6) (Nat.le_of_ble_eq_true rfl) (Nat.le_of_ble_eq_true rfl) dX11_init_223 (fun q49 H hQ hS => ?_)
  refine W.widen (k := 53) (n := 1885) (by omega) (by omega) ?_
  refine lv_dup hx hb dX11_init_226 rfl ?_
  refine lv_aload_n hx hb dX11_init_227 rfl (lv_at hl 1 rfl) ?_
  refine va_get (ci := 11) (C := RX11) (T := TX11) (N := 20) hx hb hts (am_uin (ci := 11) rfl) hown hK hQ.1 1 rfl rfl 2 (by decide) (hts _ (am_ig (i := 346) (by decide +kernel) rfl)) (fun _ h9 => h9) rfl dX11_init_228 ?_
  refine lv_aload_n hx hb dX11_init_231 rfl (lv_at hl 1 rfl) ?_
  refine va_get (ci := 11) (C := RX11) (T := TX11) (N := 20) hx hb hts (am_uin (ci := 11) rfl) hown hK hQ.1 1 rfl rfl 3 (by decide) (hts _ (am_ig (i := 347) (by decide +kernel) rfl)) (fun _ h9 => h9) rfl dX11_init_232 ?_
  refine kC_call (rest := [.ref q49, .ref h]) (kk_X6 l D cA (g1 := q9) (g2 := q11)) kX_W hX.2.2.2.2 hx hb hml hown hts hK kc_6 ki_6 (am_ig (i := 304) (by decide +kernel) rfl) kn_6 rfl ke_6 ⟨Nat.le_of_ble_eq_true rfl, Nat.le_of_ble_eq_true rfl⟩ hQ hS hA hl.1 (Nat.le_of_ble_eq_true rfl) dX11_init_235 ⟨Nat.le_of_ble_eq_true rfl, Nat.le_of_ble_eq_true rfl⟩ (fun u50 H locs hQ hS => ?_)
  have hQ : vQ D A ((u50 0, .inr (10, [.ref q9, .ref q11, .int 0, .int 0, .int 0, .int 0, .int 0, .int 0, .int 0, .int 0, .int 0, .int 0, .int 0])) :: (u50 1, .inr (10, [.ref q9, .ref q11, .int 0, .int 0, .int 0, .int 0, .int 0, .int 0, .int 0, .int 0, .int 0, .int 0, .int 0])) :: (u50 2, .inr (10, [.ref q9, .ref q11, .int 0, .int 0, .int 0, .int 0, .int 0, .int 0, .int 0, .int 0, .int 0, .int 0, .int 0])) :: (u50 3, .inr (10, [.ref q9, .ref q11, .int 0, .int 0, .int 0, .int 0, .int 0, .int 0, .int 0, .int 0, .int 0, .int 0, .int 0])) :: (u50 4, .inr (10, [.ref q9, .ref q11, .int 0, .int 0, .int 0, .int 0, .int 0, .int 0, .int 0, .int 0, .int 0, .int 0, .int 0])) :: (u50 5, .inr (10, [.ref q9, .ref q11, .int 0, .int 0, .int 0, .int 0, .int 0, .int 0, .int 0, .int 0, .int 0, .int 0, .int 0])) :: (u50 6, .inr (10, [.ref q9, .ref q11, .int 0, .int 0, .int 0, .int 0, .int 0, .int 0, .int 0, .int 0, .int 0, .int 0, .int 0])) :: (u50 7, .inr (10, [.ref q9, .ref q11, .int 0, .int 0, .int 0, .int 0, .int 0, .int 0, .int 0, .int 0, .int 0, .int 0, .int 0])) :: (u50 8, .inr (10, [.ref q9, .ref q11, .int 0, .int 0, .int 0, .int 0, .int 0, .int 0, .int 0, .int 0, .int 0, .int 0, .int 0])) :: (u50 9, .inr (10, [.ref q9, .ref q11, .int 0, .int 0, .int 0, .int 0, .int 0, .int 0, .int 0, .int 0, .int 0, .int 0, .int 0])) :: (u50 10, .inr (10, [.ref q9, .ref q11, .int 0, .int 0, .int 0, .int 0, .int 0, .int 0, .int 0, .int 0, .int 0, .int 0, .int 0])) :: (u50 11, .inl (cA 4, 11, .inr (.inr (.inr (.inr (va_up (va_up (va_up (va_up (va_up (va_up (va_up (va_up (va_up (va_up (va_up (fun _ => none) 0 (some (u50 10))) 1 (some (u50 9))) 2 (some (u50 8))) 3 (some (u50 7))) 4 (some (u50 6))) 5 (some (u50 5))) 6 (some (u50 4))) 7 (some (u50 3))) 8 (some (u50 2))) 9 (some (u50 1))) 10 (some (u50 0)))))))) :: (q49, .inr (6, [.ref (u50 11), .int 0, .int 0, .int (-1), .long 0])) :: (h, .inr (11, [.ref q1, .ref q8, .ref q9, .ref q11, .ref q13, .ref q15, .ref q17, .ref q19, .ref q28, .ref q45, .ref q47, .null, .null, .null, .null, .null, .int 0, .int 0, .int 0, .int 0])) :: R11) H := hQ
  refine W.widen (k := 65) (n := 2039) (by omega) (by omega) ?_
  refine va_putF (D := D) (ci := 11) (v := .ref q49) (ty := .object "DeadLasts$Storm") (C := RX11) (T := TX11) (N := 20) hx hb hts (am_uin (ci := 11) rfl) tyX11 tyX11_ok nmX11 hown hK hQ.1 hQ.2 hS 13 rfl rfl 11 (by decide) (hts _ (am_ig (i := 355) (by decide +kernel) rfl)) (fun _ h9 => h9) rfl hin rfl (by decide +kernel) rfl rfl (Nat.le_of_ble_eq_true rfl) dX11_init_238 (fun H locs hP hD hS => ?_)
  have hQ : vQ D A ((u50 0, .inr (10, [.ref q9, .ref q11, .int 0, .int 0, .int 0, .int 0, .int 0, .int 0, .int 0, .int 0, .int 0, .int 0, .int 0])) :: (u50 1, .inr (10, [.ref q9, .ref q11, .int 0, .int 0, .int 0, .int 0, .int 0, .int 0, .int 0, .int 0, .int 0, .int 0, .int 0])) :: (u50 2, .inr (10, [.ref q9, .ref q11, .int 0, .int 0, .int 0, .int 0, .int 0, .int 0, .int 0, .int 0, .int 0, .int 0, .int 0])) :: (u50 3, .inr (10, [.ref q9, .ref q11, .int 0, .int 0, .int 0, .int 0, .int 0, .int 0, .int 0, .int 0, .int 0, .int 0, .int 0])) :: (u50 4, .inr (10, [.ref q9, .ref q11, .int 0, .int 0, .int 0, .int 0, .int 0, .int 0, .int 0, .int 0, .int 0, .int 0, .int 0])) :: (u50 5, .inr (10, [.ref q9, .ref q11, .int 0, .int 0, .int 0, .int 0, .int 0, .int 0, .int 0, .int 0, .int 0, .int 0, .int 0])) :: (u50 6, .inr (10, [.ref q9, .ref q11, .int 0, .int 0, .int 0, .int 0, .int 0, .int 0, .int 0, .int 0, .int 0, .int 0, .int 0])) :: (u50 7, .inr (10, [.ref q9, .ref q11, .int 0, .int 0, .int 0, .int 0, .int 0, .int 0, .int 0, .int 0, .int 0, .int 0, .int 0])) :: (u50 8, .inr (10, [.ref q9, .ref q11, .int 0, .int 0, .int 0, .int 0, .int 0, .int 0, .int 0, .int 0, .int 0, .int 0, .int 0])) :: (u50 9, .inr (10, [.ref q9, .ref q11, .int 0, .int 0, .int 0, .int 0, .int 0, .int 0, .int 0, .int 0, .int 0, .int 0, .int 0])) :: (u50 10, .inr (10, [.ref q9, .ref q11, .int 0, .int 0, .int 0, .int 0, .int 0, .int 0, .int 0, .int 0, .int 0, .int 0, .int 0])) :: (u50 11, .inl (cA 4, 11, .inr (.inr (.inr (.inr (va_up (va_up (va_up (va_up (va_up (va_up (va_up (va_up (va_up (va_up (va_up (fun _ => none) 0 (some (u50 10))) 1 (some (u50 9))) 2 (some (u50 8))) 3 (some (u50 7))) 4 (some (u50 6))) 5 (some (u50 5))) 6 (some (u50 4))) 7 (some (u50 3))) 8 (some (u50 2))) 9 (some (u50 1))) 10 (some (u50 0)))))))) :: (q49, .inr (6, [.ref (u50 11), .int 0, .int 0, .int (-1), .long 0])) :: (h, .inr (11, [.ref q1, .ref q8, .ref q9, .ref q11, .ref q13, .ref q15, .ref q17, .ref q19, .ref q28, .ref q45, .ref q47, .ref q49, .null, .null, .null, .null, .int 0, .int 0, .int 0, .int 0])) :: R11) H := ⟨hP, hD⟩
  have hQ := vQ.perm (ws' := (h, .inr (11, [.ref q1, .ref q8, .ref q9, .ref q11, .ref q13, .ref q15, .ref q17, .ref q19, .ref q28, .ref q45, .ref q47, .ref q49, .null, .null, .null, .null, .int 0, .int 0, .int 0, .int 0])) :: ([(u50 0, .inr (10, [.ref q9, .ref q11, .int 0, .int 0, .int 0, .int 0, .int 0, .int 0, .int 0, .int 0, .int 0, .int 0, .int 0])), (u50 1, .inr (10, [.ref q9, .ref q11, .int 0, .int 0, .int 0, .int 0, .int 0, .int 0, .int 0, .int 0, .int 0, .int 0, .int 0])), (u50 2, .inr (10, [.ref q9, .ref q11, .int 0, .int 0, .int 0, .int 0, .int 0, .int 0, .int 0, .int 0, .int 0, .int 0, .int 0])), (u50 3, .inr (10, [.ref q9, .ref q11, .int 0, .int 0, .int 0, .int 0, .int 0, .int 0, .int 0, .int 0, .int 0, .int 0, .int 0])), (u50 4, .inr (10, [.ref q9, .ref q11, .int 0, .int 0, .int 0, .int 0, .int 0, .int 0, .int 0, .int 0, .int 0, .int 0, .int 0])), (u50 5, .inr (10, [.ref q9, .ref q11, .int 0, .int 0, .int 0, .int 0, .int 0, .int 0, .int 0, .int 0, .int 0, .int 0, .int 0])), (u50 6, .inr (10, [.ref q9, .ref q11, .int 0, .int 0, .int 0, .int 0, .int 0, .int 0, .int 0, .int 0, .int 0, .int 0, .int 0])), (u50 7, .inr (10, [.ref q9, .ref q11, .int 0, .int 0, .int 0, .int 0, .int 0, .int 0, .int 0, .int 0, .int 0, .int 0, .int 0])), (u50 8, .inr (10, [.ref q9, .ref q11, .int 0, .int 0, .int 0, .int 0, .int 0, .int 0, .int 0, .int 0, .int 0, .int 0, .int 0])), (u50 9, .inr (10, [.ref q9, .ref q11, .int 0, .int 0, .int 0, .int 0, .int 0, .int 0, .int 0, .int 0, .int 0, .int 0, .int 0])), (u50 10, .inr (10, [.ref q9, .ref q11, .int 0, .int 0, .int 0, .int 0, .int 0, .int 0, .int 0, .int 0, .int 0, .int 0, .int 0])), (u50 11, .inl (cA 4, 11, .inr (.inr (.inr (.inr (va_up (va_up (va_up (va_up (va_up (va_up (va_up (va_up (va_up (va_up (va_up (fun _ => none) 0 (some (u50 10))) 1 (some (u50 9))) 2 (some (u50 8))) 3 (some (u50 7))) 4 (some (u50 6))) 5 (some (u50 5))) 6 (some (u50 4))) 7 (some (u50 3))) 8 (some (u50 2))) 9 (some (u50 1))) 10 (some (u50 0)))))))), (q49, .inr (6, [.ref (u50 11), .int 0, .int 0, .int (-1), .long 0]))] ++ R11)) (show vQ D A ([(u50 0, .inr (10, [.ref q9, .ref q11, .int 0, .int 0, .int 0, .int 0, .int 0, .int 0, .int 0, .int 0, .int 0, .int 0, .int 0])), (u50 1, .inr (10, [.ref q9, .ref q11, .int 0, .int 0, .int 0, .int 0, .int 0, .int 0, .int 0, .int 0, .int 0, .int 0, .int 0])), (u50 2, .inr (10, [.ref q9, .ref q11, .int 0, .int 0, .int 0, .int 0, .int 0, .int 0, .int 0, .int 0, .int 0, .int 0, .int 0])), (u50 3, .inr (10, [.ref q9, .ref q11, .int 0, .int 0, .int 0, .int 0, .int 0, .int 0, .int 0, .int 0, .int 0, .int 0, .int 0])), (u50 4, .inr (10, [.ref q9, .ref q11, .int 0, .int 0, .int 0, .int 0, .int 0, .int 0, .int 0, .int 0, .int 0, .int 0, .int 0])), (u50 5, .inr (10, [.ref q9, .ref q11, .int 0, .int 0, .int 0, .int 0, .int 0, .int 0, .int 0, .int 0, .int 0, .int 0, .int 0])), (u50 6, .inr (10, [.ref q9, .ref q11, .int 0, .int 0, .int 0, .int 0, .int 0, .int 0, .int 0, .int 0, .int 0, .int 0, .int 0])), (u50 7, .inr (10, [.ref q9, .ref q11, .int 0, .int 0, .int 0, .int 0, .int 0, .int 0, .int 0, .int 0, .int 0, .int 0, .int 0])), (u50 8, .inr (10, [.ref q9, .ref q11, .int 0, .int 0, .int 0, .int 0, .int 0, .int 0, .int 0, .int 0, .int 0, .int 0, .int 0])), (u50 9, .inr (10, [.ref q9, .ref q11, .int 0, .int 0, .int 0, .int 0, .int 0, .int 0, .int 0, .int 0, .int 0, .int 0, .int 0])), (u50 10, .inr (10, [.ref q9, .ref q11, .int 0, .int 0, .int 0, .int 0, .int 0, .int 0, .int 0, .int 0, .int 0, .int 0, .int 0])), (u50 11, .inl (cA 4, 11, .inr (.inr (.inr (.inr (va_up (va_up (va_up (va_up (va_up (va_up (va_up (va_up (va_up (va_up (va_up (fun _ => none) 0 (some (u50 10))) 1 (some (u50 9))) 2 (some (u50 8))) 3 (some (u50 7))) 4 (some (u50 6))) 5 (some (u50 5))) 6 (some (u50 4))) 7 (some (u50 3))) 8 (some (u50 2))) 9 (some (u50 1))) 10 (some (u50 0)))))))), (q49, .inr (6, [.ref (u50 11), .int 0, .int 0, .int (-1), .long 0]))] ++ (h, .inr (11, [.ref q1, .ref q8, .ref q9, .ref q11, .ref q13, .ref q15, .ref q17, .ref q19, .ref q28, .ref q45, .ref q47, .ref q49, .null, .null, .null, .null, .int 0, .int 0, .int 0, .int 0])) :: R11) H from hQ) List.perm_middle.symm
  obtain ⟨R12, hR12⟩ : ∃ R : va_W, R = [(u50 0, .inr (10, [.ref q9, .ref q11, .int 0, .int 0, .int 0, .int 0, .int 0, .int 0, .int 0, .int 0, .int 0, .int 0, .int 0])), (u50 1, .inr (10, [.ref q9, .ref q11, .int 0, .int 0, .int 0, .int 0, .int 0, .int 0, .int 0, .int 0, .int 0, .int 0, .int 0])), (u50 2, .inr (10, [.ref q9, .ref q11, .int 0, .int 0, .int 0, .int 0, .int 0, .int 0, .int 0, .int 0, .int 0, .int 0, .int 0])), (u50 3, .inr (10, [.ref q9, .ref q11, .int 0, .int 0, .int 0, .int 0, .int 0, .int 0, .int 0, .int 0, .int 0, .int 0, .int 0])), (u50 4, .inr (10, [.ref q9, .ref q11, .int 0, .int 0, .int 0, .int 0, .int 0, .int 0, .int 0, .int 0, .int 0, .int 0, .int 0])), (u50 5, .inr (10, [.ref q9, .ref q11, .int 0, .int 0, .int 0, .int 0, .int 0, .int 0, .int 0, .int 0, .int 0, .int 0, .int 0])), (u50 6, .inr (10, [.ref q9, .ref q11, .int 0, .int 0, .int 0, .int 0, .int 0, .int 0, .int 0, .int 0, .int 0, .int 0, .int 0])), (u50 7, .inr (10, [.ref q9, .ref q11, .int 0, .int 0, .int 0, .int 0, .int 0, .int 0, .int 0, .int 0, .int 0, .int 0, .int 0])), (u50 8, .inr (10, [.ref q9, .ref q11, .int 0, .int 0, .int 0, .int 0, .int 0, .int 0, .int 0, .int 0, .int 0, .int 0, .int 0])), (u50 9, .inr (10, [.ref q9, .ref q11, .int 0, .int 0, .int 0, .int 0, .int 0, .int 0, .int 0, .int 0, .int 0, .int 0, .int 0])), (u50 10, .inr (10, [.ref q9, .ref q11, .int 0, .int 0, .int 0, .int 0, .int 0, .int 0, .int 0, .int 0, .int 0, .int 0, .int 0])), (u50 11, .inl (cA 4, 11, .inr (.inr (.inr (.inr (va_up (va_up (va_up (va_up (va_up (va_up (va_up (va_up (va_up (va_up (va_up (fun _ => none) 0 (some (u50 10))) 1 (some (u50 9))) 2 (some (u50 8))) 3 (some (u50 7))) 4 (some (u50 6))) 5 (some (u50 5))) 6 (some (u50 4))) 7 (some (u50 3))) 8 (some (u50 2))) 9 (some (u50 1))) 10 (some (u50 0)))))))), (q49, .inr (6, [.ref (u50 11), .int 0, .int 0, .int (-1), .long 0]))] ++ R11 := ⟨_, rfl⟩
  rw [← hR12] at hQ
  refine lv_aload_n hx hb dX11_init_241 rfl (lv_at hl 1 rfl) ?_
  refine vQ_new hx hb 1 rfl hts tyX1 tyX1_ok hown (am_ig (i := 328) (by decide +kernel) rfl) (am_ig (i := 329) (by decide +kernel) rfl) hK hQ hS hA (fs := [.null, .null, .int 0]) (kz_1) (Nat.le_of_ble_eq_true rfl) (Nat.le_of_ble_eq_true rfl) dX11_init_242 (fun q51 H hQ hS => ?_)
  refine W.widen (k := 66) (n := 2042) (by omega) (by omega) ?_
  refine lv_dup hx hb dX11_init_245 rfl ?_
  refine kC_callN (rest := [.ref q51, .ref h]) (kk_X1 l D cA) kX_t trivial hx hb hml hown hts hK kc_1 ki_1 (hX.1 _ (List.mem_filter.mpr ⟨List.mem_of_getElem? (i := 265) (by decide +kernel), rfl⟩)) kn_1 rfl ke_1 ⟨Nat.le_of_ble_eq_true rfl, Nat.le_of_ble_eq_true rfl⟩ hQ hS hA hl.1 (Nat.le_of_ble_eq_true rfl) dX11_init_246 ⟨Nat.le_of_ble_eq_true rfl, Nat.le_of_ble_eq_true rfl⟩ (fun u52 H locs hQ hS => ?_)
  have hQ : vQ D A ((u52 0, .inl (cA 0, 8, .inl (fun _ => 0))) :: (u52 1, .inl (cA 0, 8, .inl (fun _ => 0))) :: (q51, .inr (1, [.ref (u52 1), .ref (u52 0), .int 0])) :: (h, .inr (11, [.ref q1, .ref q8, .ref q9, .ref q11, .ref q13, .ref q15, .ref q17, .ref q19, .ref q28, .ref q45, .ref q47, .ref q49, .null, .null, .null, .null, .int 0, .int 0, .int 0, .int 0])) :: R12) H := hQ
  refine W.widen (k := 68) (n := 2058) (by omega) (by omega) ?_
  refine va_putF (D := D) (ci := 11) (v := .ref q51) (ty := .object "DeadLasts$Matching") (C := RX11) (T := TX11) (N := 20) hx hb hts (am_uin (ci := 11) rfl) tyX11 tyX11_ok nmX11 hown hK hQ.1 hQ.2 hS 3 rfl rfl 12 (by decide) (hts _ (am_ig (i := 356) (by decide +kernel) rfl)) (fun _ h9 => h9) rfl hin rfl (by decide +kernel) rfl rfl (Nat.le_of_ble_eq_true rfl) dX11_init_249 (fun H locs hP hD hS => ?_)
  have hQ : vQ D A ((u52 0, .inl (cA 0, 8, .inl (fun _ => 0))) :: (u52 1, .inl (cA 0, 8, .inl (fun _ => 0))) :: (q51, .inr (1, [.ref (u52 1), .ref (u52 0), .int 0])) :: (h, .inr (11, [.ref q1, .ref q8, .ref q9, .ref q11, .ref q13, .ref q15, .ref q17, .ref q19, .ref q28, .ref q45, .ref q47, .ref q49, .ref q51, .null, .null, .null, .int 0, .int 0, .int 0, .int 0])) :: R12) H := ⟨hP, hD⟩
  have hQ := vQ.perm (ws' := (h, .inr (11, [.ref q1, .ref q8, .ref q9, .ref q11, .ref q13, .ref q15, .ref q17, .ref q19, .ref q28, .ref q45, .ref q47, .ref q49, .ref q51, .null, .null, .null, .int 0, .int 0, .int 0, .int 0])) :: ([(u52 0, .inl (cA 0, 8, .inl (fun _ => 0))), (u52 1, .inl (cA 0, 8, .inl (fun _ => 0))), (q51, .inr (1, [.ref (u52 1), .ref (u52 0), .int 0]))] ++ R12)) (show vQ D A ([(u52 0, .inl (cA 0, 8, .inl (fun _ => 0))), (u52 1, .inl (cA 0, 8, .inl (fun _ => 0))), (q51, .inr (1, [.ref (u52 1), .ref (u52 0), .int 0]))] ++ (h, .inr (11, [.ref q1, .ref q8, .ref q9, .ref q11, .ref q13, .ref q15, .ref q17, .ref q19, .ref q28, .ref q45, .ref q47, .ref q49, .ref q51, .null, .null, .null, .int 0, .int 0, .int 0, .int 0])) :: R12) H from hQ) List.perm_middle.symm
  obtain ⟨R13, hR13⟩ : ∃ R : va_W, R = [(u52 0, .inl (cA 0, 8, .inl (fun _ => 0))), (u52 1, .inl (cA 0, 8, .inl (fun _ => 0))), (q51, .inr (1, [.ref (u52 1), .ref (u52 0), .int 0]))] ++ R12 := ⟨_, rfl⟩
  rw [← hR13] at hQ
  refine lv_aload_n hx hb dX11_init_252 rfl (lv_at hl 1 rfl) ?_
  refine lv_iconst (v := 3) hx hb dX11_init_253 (by decide) ?_
  refine vQ_newi hx hb (hts _ kw_arr) hK hQ hS hA 3 (by decide) (by decide) (by decide) (Nat.le_of_ble_eq_true rfl) (Nat.le_of_ble_eq_true rfl) dX11_init_254 (fun q53 H hQ hS => ?_)
  refine W.widen (k := 69) (n := 2061) (by omega) (by omega) ?_
  refine lv_dup hx hb dX11_init_256 rfl ?_
  refine lv_iconst (v := 0) hx hb dX11_init_257 (by decide) ?_
  refine lv_iconst (v := (-1)) hx hb dX11_init_258 (by decide) ?_
  refine va_iast hx hb hK hQ.1 hQ.2 hS 0 0 rfl rfl (by unfold vp_in; decide) dX11_init_259 (fun H locs hP hD hS => ?_)
  have hQ : vQ D A ((q53, .inl (cA 0, 3, .inl (upd (fun _ => 0) 0 ((-1))))) :: (h, .inr (11, [.ref q1, .ref q8, .ref q9, .ref q11, .ref q13, .ref q15, .ref q17, .ref q19, .ref q28, .ref q45, .ref q47, .ref q49, .ref q51, .null, .null, .null, .int 0, .int 0, .int 0, .int 0])) :: R13) H := ⟨hP, hD⟩
  refine lv_dup hx hb dX11_init_260 rfl ?_
  refine lv_iconst (v := 1) hx hb dX11_init_261 (by decide) ?_
  refine lv_iconst (v := (-1)) hx hb dX11_init_262 (by decide) ?_
  refine va_iast hx hb hK hQ.1 hQ.2 hS 0 0 rfl rfl (by unfold vp_in; decide) dX11_init_263 (fun H locs hP hD hS => ?_)
  have hQ : vQ D A ((q53, .inl (cA 0, 3, .inl (upd (upd (fun _ => 0) 0 ((-1))) 1 ((-1))))) :: (h, .inr (11, [.ref q1, .ref q8, .ref q9, .ref q11, .ref q13, .ref q15, .ref q17, .ref q19, .ref q28, .ref q45, .ref q47, .ref q49, .ref q51, .null, .null, .null, .int 0, .int 0, .int 0, .int 0])) :: R13) H := ⟨hP, hD⟩
  refine lv_dup hx hb dX11_init_264 rfl ?_
  refine lv_iconst (v := 2) hx hb dX11_init_265 (by decide) ?_
  refine lv_iconst (v := (-1)) hx hb dX11_init_266 (by decide) ?_
  refine va_iast hx hb hK hQ.1 hQ.2 hS 0 0 rfl rfl (by unfold vp_in; decide) dX11_init_267 (fun H locs hP hD hS => ?_)
  have hQ : vQ D A ((q53, .inl (cA 0, 3, .inl (upd (upd (upd (fun _ => 0) 0 ((-1))) 1 ((-1))) 2 ((-1))))) :: (h, .inr (11, [.ref q1, .ref q8, .ref q9, .ref q11, .ref q13, .ref q15, .ref q17, .ref q19, .ref q28, .ref q45, .ref q47, .ref q49, .ref q51, .null, .null, .null, .int 0, .int 0, .int 0, .int 0])) :: R13) H := ⟨hP, hD⟩
  refine va_putF (D := D) (ci := 11) (v := .ref q53) (ty := .array .int) (C := RX11) (T := TX11) (N := 20) hx hb hts (am_uin (ci := 11) rfl) tyX11 tyX11_ok nmX11 hown hK hQ.1 hQ.2 hS 1 rfl rfl 13 (by decide) (hts _ (am_ig (i := 357) (by decide +kernel) rfl)) (fun _ h9 => h9) rfl hin rfl (by decide +kernel) rfl rfl (Nat.le_of_ble_eq_true rfl) dX11_init_268 (fun H locs hP hD hS => ?_)
  have hQ : vQ D A ((q53, .inl (cA 0, 3, .inl (upd (upd (upd (fun _ => 0) 0 ((-1))) 1 ((-1))) 2 ((-1))))) :: (h, .inr (11, [.ref q1, .ref q8, .ref q9, .ref q11, .ref q13, .ref q15, .ref q17, .ref q19, .ref q28, .ref q45, .ref q47, .ref q49, .ref q51, .ref q53, .null, .null, .int 0, .int 0, .int 0, .int 0])) :: R13) H := ⟨hP, hD⟩
  have hQ := vQ.perm (ws' := (h, .inr (11, [.ref q1, .ref q8, .ref q9, .ref q11, .ref q13, .ref q15, .ref q17, .ref q19, .ref q28, .ref q45, .ref q47, .ref q49, .ref q51, .ref q53, .null, .null, .int 0, .int 0, .int 0, .int 0])) :: ([(q53, .inl (cA 0, 3, .inl (upd (upd (upd (fun _ => 0) 0 ((-1))) 1 ((-1))) 2 ((-1)))))] ++ R13)) (show vQ D A ([(q53, .inl (cA 0, 3, .inl (upd (upd (upd (fun _ => 0) 0 ((-1))) 1 ((-1))) 2 ((-1)))))] ++ (h, .inr (11, [.ref q1, .ref q8, .ref q9, .ref q11, .ref q13, .ref q15, .ref q17, .ref q19, .ref q28, .ref q45, .ref q47, .ref q49, .ref q51, .ref q53, .null, .null, .int 0, .int 0, .int 0, .int 0])) :: R13) H from hQ) List.perm_middle.symm
  obtain ⟨R14, hR14⟩ : ∃ R : va_W, R = [(q53, .inl (cA 0, 3, .inl (upd (upd (upd (fun _ => 0) 0 ((-1))) 1 ((-1))) 2 ((-1)))))] ++ R13 := ⟨_, rfl⟩
  rw [← hR14] at hQ
  refine lv_aload_n hx hb dX11_init_271 rfl (lv_at hl 1 rfl) ?_
  refine lv_iconst (v := 2) hx hb dX11_init_272 (by decide) ?_
  refine vQ_newi hx hb (hts _ kw_arr) hK hQ hS hA 2 (by decide) (by decide) (by decide) (Nat.le_of_ble_eq_true rfl) (Nat.le_of_ble_eq_true rfl) dX11_init_273 (fun q54 H hQ hS => ?_)
  refine W.widen (k := 70) (n := 2063) (by omega) (by omega) ?_
  refine lv_dup hx hb dX11_init_275 rfl ?_
  refine lv_iconst (v := 0) hx hb dX11_init_276 (by decide) ?_
  refine lv_iconst (v := (-1)) hx hb dX11_init_277 (by decide) ?_
  refine va_iast hx hb hK hQ.1 hQ.2 hS 0 0 rfl rfl (by unfold vp_in; decide) dX11_init_278 (fun H locs hP hD hS => ?_)
  have hQ : vQ D A ((q54, .inl (cA 0, 2, .inl (upd (fun _ => 0) 0 ((-1))))) :: (h, .inr (11, [.ref q1, .ref q8, .ref q9, .ref q11, .ref q13, .ref q15, .ref q17, .ref q19, .ref q28, .ref q45, .ref q47, .ref q49, .ref q51, .ref q53, .null, .null, .int 0, .int 0, .int 0, .int 0])) :: R14) H := ⟨hP, hD⟩
  refine lv_dup hx hb dX11_init_279 rfl ?_
  refine lv_iconst (v := 1) hx hb dX11_init_280 (by decide) ?_
  refine lv_iconst (v := (-1)) hx hb dX11_init_281 (by decide) ?_
  refine va_iast hx hb hK hQ.1 hQ.2 hS 0 0 rfl rfl (by unfold vp_in; decide) dX11_init_282 (fun H locs hP hD hS => ?_)
  have hQ : vQ D A ((q54, .inl (cA 0, 2, .inl (upd (upd (fun _ => 0) 0 ((-1))) 1 ((-1))))) :: (h, .inr (11, [.ref q1, .ref q8, .ref q9, .ref q11, .ref q13, .ref q15, .ref q17, .ref q19, .ref q28, .ref q45, .ref q47, .ref q49, .ref q51, .ref q53, .null, .null, .int 0, .int 0, .int 0, .int 0])) :: R14) H := ⟨hP, hD⟩
  refine va_putF (D := D) (ci := 11) (v := .ref q54) (ty := .array .int) (C := RX11) (T := TX11) (N := 20) hx hb hts (am_uin (ci := 11) rfl) tyX11 tyX11_ok nmX11 hown hK hQ.1 hQ.2 hS 1 rfl rfl 14 (by decide) (hts _ (am_ig (i := 358) (by decide +kernel) rfl)) (fun _ h9 => h9) rfl hin rfl (by decide +kernel) rfl rfl (Nat.le_of_ble_eq_true rfl) dX11_init_283 (fun H locs hP hD hS => ?_)
  have hQ : vQ D A ((q54, .inl (cA 0, 2, .inl (upd (upd (fun _ => 0) 0 ((-1))) 1 ((-1))))) :: (h, .inr (11, [.ref q1, .ref q8, .ref q9, .ref q11, .ref q13, .ref q15, .ref q17, .ref q19, .ref q28, .ref q45, .ref q47, .ref q49, .ref q51, .ref q53, .ref q54, .null, .int 0, .int 0, .int 0, .int 0])) :: R14) H := ⟨hP, hD⟩
  have hQ := vQ.perm (ws' := (h, .inr (11, [.ref q1, .ref q8, .ref q9, .ref q11, .ref q13, .ref q15, .ref q17, .ref q19, .ref q28, .ref q45, .ref q47, .ref q49, .ref q51, .ref q53, .ref q54, .null, .int 0, .int 0, .int 0, .int 0])) :: ([(q54, .inl (cA 0, 2, .inl (upd (upd (fun _ => 0) 0 ((-1))) 1 ((-1)))))] ++ R14)) (show vQ D A ([(q54, .inl (cA 0, 2, .inl (upd (upd (fun _ => 0) 0 ((-1))) 1 ((-1)))))] ++ (h, .inr (11, [.ref q1, .ref q8, .ref q9, .ref q11, .ref q13, .ref q15, .ref q17, .ref q19, .ref q28, .ref q45, .ref q47, .ref q49, .ref q51, .ref q53, .ref q54, .null, .int 0, .int 0, .int 0, .int 0])) :: R14) H from hQ) List.perm_middle.symm
  obtain ⟨R15, hR15⟩ : ∃ R : va_W, R = [(q54, .inl (cA 0, 2, .inl (upd (upd (fun _ => 0) 0 ((-1))) 1 ((-1)))))] ++ R14 := ⟨_, rfl⟩
  rw [← hR15] at hQ
  refine lv_aload_n hx hb dX11_init_286 rfl (lv_at hl 1 rfl) ?_
  refine lv_sipush (v := 240) hx hb dX11_init_287 (by decide) ?_
  refine vQ_newi hx hb (hts _ kw_arr) hK hQ hS hA 240 (by decide) (by decide) (by decide) (Nat.le_of_ble_eq_true rfl) (Nat.le_of_ble_eq_true rfl) dX11_init_290 (fun q55 H hQ hS => ?_)
  refine W.widen (k := 71) (n := 2303) (by omega) (by omega) ?_
  refine va_putF (D := D) (ci := 11) (v := .ref q55) (ty := .array .int) (C := RX11) (T := TX11) (N := 20) hx hb hts (am_uin (ci := 11) rfl) tyX11 tyX11_ok nmX11 hown hK hQ.1 hQ.2 hS 1 rfl rfl 15 (by decide) (hts _ (am_ig (i := 359) (by decide +kernel) rfl)) (fun _ h9 => h9) rfl hin rfl (by decide +kernel) rfl rfl (Nat.le_of_ble_eq_true rfl) dX11_init_292 (fun H locs hP hD hS => ?_)
  have hQ : vQ D A ((q55, .inl (cA 0, 240, .inl (fun _ => 0))) :: (h, .inr (11, [.ref q1, .ref q8, .ref q9, .ref q11, .ref q13, .ref q15, .ref q17, .ref q19, .ref q28, .ref q45, .ref q47, .ref q49, .ref q51, .ref q53, .ref q54, .ref q55, .int 0, .int 0, .int 0, .int 0])) :: R15) H := ⟨hP, hD⟩
  have hQ := vQ.perm (ws' := (h, .inr (11, [.ref q1, .ref q8, .ref q9, .ref q11, .ref q13, .ref q15, .ref q17, .ref q19, .ref q28, .ref q45, .ref q47, .ref q49, .ref q51, .ref q53, .ref q54, .ref q55, .int 0, .int 0, .int 0, .int 0])) :: ([(q55, .inl (cA 0, 240, .inl (fun _ => 0)))] ++ R15)) (show vQ D A ([(q55, .inl (cA 0, 240, .inl (fun _ => 0)))] ++ (h, .inr (11, [.ref q1, .ref q8, .ref q9, .ref q11, .ref q13, .ref q15, .ref q17, .ref q19, .ref q28, .ref q45, .ref q47, .ref q49, .ref q51, .ref q53, .ref q54, .ref q55, .int 0, .int 0, .int 0, .int 0])) :: R15) H from hQ) List.perm_middle.symm
  obtain ⟨R16, hR16⟩ : ∃ R : va_W, R = [(q55, .inl (cA 0, 240, .inl (fun _ => 0)))] ++ R15 := ⟨_, rfl⟩
  rw [← hR16] at hQ
  refine lv_aload_n hx hb dX11_init_295 rfl (lv_at hl 1 rfl) ?_
  refine lv_iconst (v := 0) hx hb dX11_init_296 (by decide) ?_
  refine va_put (D := D) (ci := 11) (v := .int 0) (ty := .int) (C := RX11) (T := TX11) (N := 20) hx hb hts (am_uin (ci := 11) rfl) tyX11 tyX11_ok nmX11 hown hK hQ.1 hQ.2 hS 0 rfl rfl 16 (by decide) (hts _ (am_ig (i := 360) (by decide +kernel) rfl)) (fun _ h9 => h9) rfl (by decide +kernel) rfl rfl (Nat.le_of_ble_eq_true rfl) dX11_init_297 (fun H locs hP hD hS => ?_)
  have hQ : vQ D A ((h, .inr (11, [.ref q1, .ref q8, .ref q9, .ref q11, .ref q13, .ref q15, .ref q17, .ref q19, .ref q28, .ref q45, .ref q47, .ref q49, .ref q51, .ref q53, .ref q54, .ref q55, .int 0, .int 0, .int 0, .int 0])) :: R16) H := ⟨hP, hD⟩
  refine lv_aload_n hx hb dX11_init_300 rfl (lv_at hl 1 rfl) ?_
  refine lv_iconst (v := 1) hx hb dX11_init_301 (by decide) ?_
  refine va_put (D := D) (ci := 11) (v := .int 1) (ty := .boolean) (C := RX11) (T := TX11) (N := 20) hx hb hts (am_uin (ci := 11) rfl) tyX11 tyX11_ok nmX11 hown hK hQ.1 hQ.2 hS 0 rfl rfl 17 (by decide) (hts _ (am_ig (i := 361) (by decide +kernel) rfl)) (fun _ h9 => h9) rfl (by decide +kernel) rfl rfl (Nat.le_of_ble_eq_true rfl) dX11_init_302 (fun H locs hP hD hS => ?_)
  have hQ : vQ D A ((h, .inr (11, [.ref q1, .ref q8, .ref q9, .ref q11, .ref q13, .ref q15, .ref q17, .ref q19, .ref q28, .ref q45, .ref q47, .ref q49, .ref q51, .ref q53, .ref q54, .ref q55, .int 0, .int 1, .int 0, .int 0])) :: R16) H := ⟨hP, hD⟩
  refine lv_aload_n hx hb dX11_init_305 rfl (lv_at hl 1 rfl) ?_
  refine lv_iconst (v := (-1)) hx hb dX11_init_306 (by decide) ?_
  refine va_put (D := D) (ci := 11) (v := .int (-1)) (ty := .int) (C := RX11) (T := TX11) (N := 20) hx hb hts (am_uin (ci := 11) rfl) tyX11 tyX11_ok nmX11 hown hK hQ.1 hQ.2 hS 0 rfl rfl 18 (by decide) (hts _ (am_ig (i := 362) (by decide +kernel) rfl)) (fun _ h9 => h9) rfl (by decide +kernel) rfl rfl (Nat.le_of_ble_eq_true rfl) dX11_init_307 (fun H locs hP hD hS => ?_)
  have hQ : vQ D A ((h, .inr (11, [.ref q1, .ref q8, .ref q9, .ref q11, .ref q13, .ref q15, .ref q17, .ref q19, .ref q28, .ref q45, .ref q47, .ref q49, .ref q51, .ref q53, .ref q54, .ref q55, .int 0, .int 1, .int (-1), .int 0])) :: R16) H := ⟨hP, hD⟩
  refine lv_aload_n hx hb dX11_init_310 rfl (lv_at hl 1 rfl) ?_
  refine lv_bipush (v := (-2)) hx hb dX11_init_311 (by decide) ?_
  refine va_put (D := D) (ci := 11) (v := .int (-2)) (ty := .int) (C := RX11) (T := TX11) (N := 20) hx hb hts (am_uin (ci := 11) rfl) tyX11 tyX11_ok nmX11 hown hK hQ.1 hQ.2 hS 0 rfl rfl 19 (by decide) (hts _ (am_ig (i := 363) (by decide +kernel) rfl)) (fun _ h9 => h9) rfl (by decide +kernel) rfl rfl (Nat.le_of_ble_eq_true rfl) dX11_init_313 (fun H locs hP hD hS => ?_)
  have hQ : vQ D A ((h, .inr (11, [.ref q1, .ref q8, .ref q9, .ref q11, .ref q13, .ref q15, .ref q17, .ref q19, .ref q28, .ref q45, .ref q47, .ref q49, .ref q51, .ref q53, .ref q54, .ref q55, .int 0, .int 1, .int (-1), .int (-2)])) :: R16) H := ⟨hP, hD⟩
  subst hR16
  subst hR15
  subst hR14
  subst hR13
  subst hR12
  subst hR11
  subst hR10
  subst hR9
  subst hR8
  subst hR7
  subst hR6
  subst hR5
  subst hR4
  subst hR3
  subst hR2
  subst hR1
  obtain ⟨u, hu⟩ : ∃ u : Nat → Nat, u = fun k => ([h, q1, q2, q4, q6, (u3 0), (u5 0), (u7 0), q8, q9, (u10 1), (u10 0), q11, (u12 2), (u12 1), (u12 0), q13, (u14 0), q15, (u16 0), q17, (u18 2), (u18 1), (u18 0), q19, q20, q22, q24, q26, (u21 0), (u23 0), (u25 0), (u27 0), q28, q29, q31, q33, q35, q37, q39, q41, q43, (u30 0), (u32 0), (u34 0), (u36 0), (u38 0), (u40 0), (u42 0), (u44 0), q45, (u46 0), q47, q49, (u50 11), (u50 10), (u50 9), (u50 8), (u50 7), (u50 6), (u50 5), (u50 4), (u50 3), (u50 2), (u50 1), (u50 0), q51, (u52 1), (u52 0), q53, q54, q55] : List Nat).getD k 0 := ⟨_, rfl⟩
  have hQ : vQ D A [(h, .inr (11, [.ref q1, .ref q8, .ref q9, .ref q11, .ref q13, .ref q15, .ref q17, .ref q19, .ref q28, .ref q45, .ref q47, .ref q49, .ref q51, .ref q53, .ref q54, .ref q55, .int 0, .int 1, .int (-1), .int (-2)])), (q55, .inl (cA 0, 240, .inl (fun _ => 0))), (q54, .inl (cA 0, 2, .inl (upd (upd (fun _ => 0) 0 ((-1))) 1 ((-1))))), (q53, .inl (cA 0, 3, .inl (upd (upd (upd (fun _ => 0) 0 ((-1))) 1 ((-1))) 2 ((-1))))), (u52 0, .inl (cA 0, 8, .inl (fun _ => 0))), (u52 1, .inl (cA 0, 8, .inl (fun _ => 0))), (q51, .inr (1, [.ref (u52 1), .ref (u52 0), .int 0])), (u50 0, .inr (10, [.ref q9, .ref q11, .int 0, .int 0, .int 0, .int 0, .int 0, .int 0, .int 0, .int 0, .int 0, .int 0, .int 0])), (u50 1, .inr (10, [.ref q9, .ref q11, .int 0, .int 0, .int 0, .int 0, .int 0, .int 0, .int 0, .int 0, .int 0, .int 0, .int 0])), (u50 2, .inr (10, [.ref q9, .ref q11, .int 0, .int 0, .int 0, .int 0, .int 0, .int 0, .int 0, .int 0, .int 0, .int 0, .int 0])), (u50 3, .inr (10, [.ref q9, .ref q11, .int 0, .int 0, .int 0, .int 0, .int 0, .int 0, .int 0, .int 0, .int 0, .int 0, .int 0])), (u50 4, .inr (10, [.ref q9, .ref q11, .int 0, .int 0, .int 0, .int 0, .int 0, .int 0, .int 0, .int 0, .int 0, .int 0, .int 0])), (u50 5, .inr (10, [.ref q9, .ref q11, .int 0, .int 0, .int 0, .int 0, .int 0, .int 0, .int 0, .int 0, .int 0, .int 0, .int 0])), (u50 6, .inr (10, [.ref q9, .ref q11, .int 0, .int 0, .int 0, .int 0, .int 0, .int 0, .int 0, .int 0, .int 0, .int 0, .int 0])), (u50 7, .inr (10, [.ref q9, .ref q11, .int 0, .int 0, .int 0, .int 0, .int 0, .int 0, .int 0, .int 0, .int 0, .int 0, .int 0])), (u50 8, .inr (10, [.ref q9, .ref q11, .int 0, .int 0, .int 0, .int 0, .int 0, .int 0, .int 0, .int 0, .int 0, .int 0, .int 0])), (u50 9, .inr (10, [.ref q9, .ref q11, .int 0, .int 0, .int 0, .int 0, .int 0, .int 0, .int 0, .int 0, .int 0, .int 0, .int 0])), (u50 10, .inr (10, [.ref q9, .ref q11, .int 0, .int 0, .int 0, .int 0, .int 0, .int 0, .int 0, .int 0, .int 0, .int 0, .int 0])), (u50 11, .inl (cA 4, 11, .inr (.inr (.inr (.inr (va_up (va_up (va_up (va_up (va_up (va_up (va_up (va_up (va_up (va_up (va_up (fun _ => none) 0 (some (u50 10))) 1 (some (u50 9))) 2 (some (u50 8))) 3 (some (u50 7))) 4 (some (u50 6))) 5 (some (u50 5))) 6 (some (u50 4))) 7 (some (u50 3))) 8 (some (u50 2))) 9 (some (u50 1))) 10 (some (u50 0)))))))), (q49, .inr (6, [.ref (u50 11), .int 0, .int 0, .int (-1), .long 0])), (q47, .inr (10, [.ref q9, .ref q11, .int 0, .int 0, .int 0, .int 0, .int 0, .int 0, .int 0, .int 0, .int 0, .int 0, .int 0])), (u46 0, .inl (cA 0, 120, .inl (fun _ => 0))), (q45, .inr (9, [.ref (u46 0), .int 0, .int 0])), (u44 0, .inl (cA 0, 120, .inl (fun _ => 0))), (q43, .inr (9, [.ref (u44 0), .int 0, .int 0])), (u42 0, .inl (cA 0, 120, .inl (fun _ => 0))), (q41, .inr (9, [.ref (u42 0), .int 0, .int 0])), (u40 0, .inl (cA 0, 120, .inl (fun _ => 0))), (q39, .inr (9, [.ref (u40 0), .int 0, .int 0])), (u38 0, .inl (cA 0, 120, .inl (fun _ => 0))), (q37, .inr (9, [.ref (u38 0), .int 0, .int 0])), (u36 0, .inl (cA 0, 120, .inl (fun _ => 0))), (q35, .inr (9, [.ref (u36 0), .int 0, .int 0])), (u34 0, .inl (cA 0, 120, .inl (fun _ => 0))), (q33, .inr (9, [.ref (u34 0), .int 0, .int 0])), (u32 0, .inl (cA 0, 120, .inl (fun _ => 0))), (q31, .inr (9, [.ref (u32 0), .int 0, .int 0])), (u30 0, .inl (cA 0, 120, .inl (fun _ => 0))), (q29, .inr (9, [.ref (u30 0), .int 0, .int 0])), (q28, .inl (cA 3, 8, .inr (.inr (.inr (.inr (va_up (va_up (va_up (va_up (va_up (va_up (va_up (va_up (fun _ => none) 0 (some q29)) 1 (some q31)) 2 (some q33)) 3 (some q35)) 4 (some q37)) 5 (some q39)) 6 (some q41)) 7 (some q43))))))), (u27 0, .inl (cA 0, 60, .inl (fun _ => 0))), (q26, .inr (4, [.ref (u27 0), .int 0, .int (-1)])), (u25 0, .inl (cA 0, 60, .inl (fun _ => 0))), (q24, .inr (4, [.ref (u25 0), .int 0, .int (-1)])), (u23 0, .inl (cA 0, 60, .inl (fun _ => 0))), (q22, .inr (4, [.ref (u23 0), .int 0, .int (-1)])), (u21 0, .inl (cA 0, 60, .inl (fun _ => 0))), (q20, .inr (4, [.ref (u21 0), .int 0, .int (-1)])), (q19, .inl (cA 2, 4, .inr (.inr (.inr (.inr (va_up (va_up (va_up (va_up (fun _ => none) 0 (some q20)) 1 (some q22)) 2 (some q24)) 3 (some q26))))))), (u18 0, .inl (cA 0, 8, .inl (fun _ => 0))), (u18 1, .inl (cA 0, 8, .inl (fun _ => 0))), (u18 2, .inl (cA 0, 8, .inl (fun _ => 0))), (q17, .inr (5, [.ref (u18 2), .ref (u18 1), .ref (u18 0), .int 0])), (u16 0, .inl (cA 0, 8, .inl (fun _ => 0))), (q15, .inr (3, [.ref (u16 0), .int 0])), (u14 0, .inl (cA 0, 40, .inl (fun _ => 0))), (q13, .inr (2, [.ref (u14 0), .int 0])), (u12 0, .inl (cA 0, 32, .inl (fun _ => 0))), (u12 1, .inl (cA 0, 8, .inl (fun _ => 0))), (u12 2, .inl (cA 0, 8, .inl (fun _ => 0))), (q11, .inr (0, [.ref (u12 2), .ref (u12 1), .ref (u12 0), .int 0])), (u10 0, .inl (cA 0, 144, .inl (fun _ => 0))), (u10 1, .inl (cA 0, 36, .inl (fun _ => 0))), (q9, .inr (8, [.ref (u10 1), .ref (u10 0), .int 0, .int 0])), (q8, .inl (cA 0, 3, .inl (upd (upd (upd (fun _ => 0) 0 ((-1))) 1 ((-1))) 2 ((-1))))), (u7 0, .inl (cA 0, 55, .inl (fun _ => 0))), (q6, .inr (7, [.ref (u7 0), .int 55, .int 0])), (u5 0, .inl (cA 0, 55, .inl (fun _ => 0))), (q4, .inr (7, [.ref (u5 0), .int 47, .int 0])), (u3 0, .inl (cA 0, 55, .inl (fun _ => 0))), (q2, .inr (7, [.ref (u3 0), .int 41, .int 0])), (q1, .inl (cA 1, 3, .inr (.inr (.inr (.inr (va_up (va_up (va_up (fun _ => none) 0 (some q2)) 1 (some q4)) 2 (some q6)))))))] H := hQ
  have er54 : (va_up (va_up (va_up (va_up (va_up (va_up (va_up (va_up (va_up (va_up (va_up (fun _ => none) 0 (some (u50 10))) 1 (some (u50 9))) 2 (some (u50 8))) 3 (some (u50 7))) 4 (some (u50 6))) 5 (some (u50 5))) 6 (some (u50 4))) 7 (some (u50 3))) 8 (some (u50 2))) 9 (some (u50 1))) 10 (some (u50 0)) : Nat → Option Nat) = fun j => (([55, 56, 57, 58, 59, 60, 61, 62, 63, 64, 65] : List Nat)[j]?).map (kAd sa h u) := by
    rw [hu]
    funext j
    match j with
    | 0 => rfl
    | 1 => rfl
    | 2 => rfl
    | 3 => rfl
    | 4 => rfl
    | 5 => rfl
    | 6 => rfl
    | 7 => rfl
    | 8 => rfl
    | 9 => rfl
    | 10 => rfl
    | j + 11 => simp [va_up]
  rw [er54] at hQ
  have er33 : (va_up (va_up (va_up (va_up (va_up (va_up (va_up (va_up (fun _ => none) 0 (some q29)) 1 (some q31)) 2 (some q33)) 3 (some q35)) 4 (some q37)) 5 (some q39)) 6 (some q41)) 7 (some q43) : Nat → Option Nat) = fun j => (([34, 35, 36, 37, 38, 39, 40, 41] : List Nat)[j]?).map (kAd sa h u) := by
    rw [hu]
    funext j
    match j with
    | 0 => rfl
    | 1 => rfl
    | 2 => rfl
    | 3 => rfl
    | 4 => rfl
    | 5 => rfl
    | 6 => rfl
    | 7 => rfl
    | j + 8 => simp [va_up]
  rw [er33] at hQ
  have er24 : (va_up (va_up (va_up (va_up (fun _ => none) 0 (some q20)) 1 (some q22)) 2 (some q24)) 3 (some q26) : Nat → Option Nat) = fun j => (([25, 26, 27, 28] : List Nat)[j]?).map (kAd sa h u) := by
    rw [hu]
    funext j
    match j with
    | 0 => rfl
    | 1 => rfl
    | 2 => rfl
    | 3 => rfl
    | j + 4 => simp [va_up]
  rw [er24] at hQ
  have er1 : (va_up (va_up (va_up (fun _ => none) 0 (some q2)) 1 (some q4)) 2 (some q6) : Nat → Option Nat) = fun j => (([2, 3, 4] : List Nat)[j]?).map (kAd sa h u) := by
    rw [hu]
    funext j
    match j with
    | 0 => rfl
    | 1 => rfl
    | 2 => rfl
    | j + 3 => simp [va_up]
  rw [er1] at hQ
  have hW := hQ.1.sub (ws' := am_w shC cA (kAd sa h u) w0C) [0, 71, 70, 68, 66, 69, 67, 65, 64, 63, 62, 61, 60, 59, 58, 57, 56, 55, 54, 53, 52, 51, 50, 49, 48, 47, 45, 43, 41, 46, 44, 42, 40, 39, 38, 36, 34, 32, 30, 28, 26, 24, 37, 35, 33, 31, 29, 27, 25, 23, 22, 21, 20, 19, 18, 17, 16, 15, 14, 13, 12, 11, 10, 9, 8, 7, 6, 5, 4, 3, 2, 1] (by rw [hu]; rfl)
  have hWD := hQ.2.sub (ws' := am_w shC cA (kAd sa h u) w0C) [0, 71, 70, 68, 66, 69, 67, 65, 64, 63, 62, 61, 60, 59, 58, 57, 56, 55, 54, 53, 52, 51, 50, 49, 48, 47, 45, 43, 41, 46, 44, 42, 40, 39, 38, 36, 34, 32, 30, 28, 26, 24, 37, 35, 33, 31, 29, 27, 25, 23, 22, 21, 20, 19, 18, 17, 16, 15, 14, 13, 12, 11, 10, 9, 8, 7, 6, 5, 4, 3, 2, 1] (by decide) (by rw [hu]; rfl)
  exact W.vret hx hb hr (fun t ht hW2 => ⟨⟨u, rfl, trivial, by rw [ht]; exact hW, hWD⟩, hS.F ht⟩) hS.2.2 dX11_init_316
