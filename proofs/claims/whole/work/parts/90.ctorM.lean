/-! the two constructors that the law calls -/
def kAd (sa : Nat → Nat) (h : Nat) (u : Nat → Nat) : Nat → Nat := fun k => if k = 0 then h else if 1000 ≤ k then sa (k - 1000) else u k
def w0C : am_M := (fun k => ([fun j => ([0, 0, 0, 0, 0, 0, 0, 0, 0, 0, 0, 0, 0, 0, 0, 0, 0, 1, (-1), (-2)] : List Int32).getD j 0, fun _ => 0, fun j => ([0, 41, 0] : List Int32).getD j 0, fun j => ([0, 47, 0] : List Int32).getD j 0, fun j => ([0, 55, 0] : List Int32).getD j 0, fun _ => 0, fun _ => 0, fun _ => 0, upd (upd (upd (fun _ => 0) 0 ((-1))) 1 ((-1))) 2 ((-1)), fun j => ([0, 0, 0, 0] : List Int32).getD j 0, fun _ => 0, fun _ => 0, fun j => ([0, 0, 0, 0] : List Int32).getD j 0, fun _ => 0, fun _ => 0, fun _ => 0, fun j => ([0, 0] : List Int32).getD j 0, fun _ => 0, fun j => ([0, 0] : List Int32).getD j 0, fun _ => 0, fun j => ([0, 0, 0, 0] : List Int32).getD j 0, fun _ => 0, fun _ => 0, fun _ => 0, fun _ => 0, fun j => ([0, 0, (-1)] : List Int32).getD j 0, fun j => ([0, 0, (-1)] : List Int32).getD j 0, fun j => ([0, 0, (-1)] : List Int32).getD j 0, fun j => ([0, 0, (-1)] : List Int32).getD j 0, fun _ => 0, fun _ => 0, fun _ => 0, fun _ => 0, fun _ => 0, fun j => ([0, 0, 0] : List Int32).getD j 0, fun j => ([0, 0, 0] : List Int32).getD j 0, fun j => ([0, 0, 0] : List Int32).getD j 0, fun j => ([0, 0, 0] : List Int32).getD j 0, fun j => ([0, 0, 0] : List Int32).getD j 0, fun j => ([0, 0, 0] : List Int32).getD j 0, fun j => ([0, 0, 0] : List Int32).getD j 0, fun j => ([0, 0, 0] : List Int32).getD j 0, fun _ => 0, fun _ => 0, fun _ => 0, fun _ => 0, fun _ => 0, fun _ => 0, fun _ => 0, fun _ => 0, fun j => ([0, 0, 0] : List Int32).getD j 0, fun _ => 0, fun j => ([0, 0, 0, 0, 0, 0, 0, 0, 0, 0, 0, 0, 0] : List Int32).getD j 0, fun j => ([0, 0, 0, (-1), 0] : List Int32).getD j 0, fun _ => 0, fun j => ([0, 0, 0, 0, 0, 0, 0, 0, 0, 0, 0, 0, 0] : List Int32).getD j 0, fun j => ([0, 0, 0, 0, 0, 0, 0, 0, 0, 0, 0, 0, 0] : List Int32).getD j 0, fun j => ([0, 0, 0, 0, 0, 0, 0, 0, 0, 0, 0, 0, 0] : List Int32).getD j 0, fun j => ([0, 0, 0, 0, 0, 0, 0, 0, 0, 0, 0, 0, 0] : List Int32).getD j 0, fun j => ([0, 0, 0, 0, 0, 0, 0, 0, 0, 0, 0, 0, 0] : List Int32).getD j 0, fun j => ([0, 0, 0, 0, 0, 0, 0, 0, 0, 0, 0, 0, 0] : List Int32).getD j 0, fun j => ([0, 0, 0, 0, 0, 0, 0, 0, 0, 0, 0, 0, 0] : List Int32).getD j 0, fun j => ([0, 0, 0, 0, 0, 0, 0, 0, 0, 0, 0, 0, 0] : List Int32).getD j 0, fun j => ([0, 0, 0, 0, 0, 0, 0, 0, 0, 0, 0, 0, 0] : List Int32).getD j 0, fun j => ([0, 0, 0, 0, 0, 0, 0, 0, 0, 0, 0, 0, 0] : List Int32).getD j 0, fun j => ([0, 0, 0, 0, 0, 0, 0, 0, 0, 0, 0, 0, 0] : List Int32).getD j 0, fun j => ([0, 0, 0] : List Int32).getD j 0, fun _ => 0, fun _ => 0, upd (upd (upd (fun _ => 0) 0 ((-1))) 1 ((-1))) 2 ((-1)), upd (upd (fun _ => 0) 0 ((-1))) 1 ((-1)), fun _ => 0] : List (Nat → Int32)).getD k (fun _ => 0), fun _ => 0)
def w0M : am_M := (fun k => ([fun j => ([0, 0, 0, 0, 0, 0, 0, 0, 0, 0, 0, 0, 0, 0, 0, 0, 0, 0, 0, (-1), 0, 0, 0, 0, 0, 0, 0, 0, 0, 0, 0, 0, 0, 0, 0, 0] : List Int32).getD j 0, upd (upd (upd (upd (fun _ => 0) 0 ((-1))) 1 ((-1))) 2 ((-1))) 3 ((-1)), fun _ => 0, fun _ => 0, fun _ => 0, fun _ => 0, fun _ => 0, fun _ => 0, fun _ => 0, fun _ => 0, fun _ => 0, fun _ => 0, fun _ => 0, fun _ => 0, fun _ => 0, fun _ => 0, fun _ => 0, fun _ => 0, fun _ => 0, fun _ => 0, fun _ => 0, fun _ => 0, fun _ => 0, fun _ => 0] : List (Nat → Int32)).getD k (fun _ => 0), fun _ => 0)
def kX11 (U : State) : Prop := (∀ x ∈ am_NW, va_Nw x U) ∧ va_AO "DeadLasts$Text" U ∧ va_AO "DeadLasts$Sheet" U ∧ va_AO "DeadLasts$Trace" U ∧ va_AO "DeadLasts$Walker" U
theorem dX12_init_0 : decode cX12_init 0 = .ok (.aload_n 0, 1) := by decide +kernel
theorem dX12_init_1 : decode cX12_init 1 = .ok (.invokespecial 1, 3) := by decide +kernel
theorem dX12_init_4 : decode cX12_init 4 = .ok (.aload_n 0, 1) := by decide +kernel
theorem dX12_init_5 : decode cX12_init 5 = .ok (.iconst 4, 1) := by decide +kernel
theorem dX12_init_6 : decode cX12_init 6 = .ok (.newarray .int, 2) := by decide +kernel
theorem dX12_init_8 : decode cX12_init 8 = .ok (.putfield 7, 3) := by decide +kernel
theorem dX12_init_11 : decode cX12_init 11 = .ok (.aload_n 0, 1) := by decide +kernel
theorem dX12_init_12 : decode cX12_init 12 = .ok (.iconst 4, 1) := by decide +kernel
theorem dX12_init_13 : decode cX12_init 13 = .ok (.newarray .int, 2) := by decide +kernel
theorem dX12_init_15 : decode cX12_init 15 = .ok (.putfield 13, 3) := by decide +kernel
theorem dX12_init_18 : decode cX12_init 18 = .ok (.aload_n 0, 1) := by decide +kernel
theorem dX12_init_19 : decode cX12_init 19 = .ok (.sipush 240, 3) := by decide +kernel
theorem dX12_init_22 : decode cX12_init 22 = .ok (.newarray .int, 2) := by decide +kernel
theorem dX12_init_24 : decode cX12_init 24 = .ok (.putfield 16, 3) := by decide +kernel
theorem dX12_init_27 : decode cX12_init 27 = .ok (.aload_n 0, 1) := by decide +kernel
theorem dX12_init_28 : decode cX12_init 28 = .ok (.bipush 60, 2) := by decide +kernel
theorem dX12_init_30 : decode cX12_init 30 = .ok (.newarray .int, 2) := by decide +kernel
theorem dX12_init_32 : decode cX12_init 32 = .ok (.putfield 19, 3) := by decide +kernel
theorem dX12_init_35 : decode cX12_init 35 = .ok (.aload_n 0, 1) := by decide +kernel
theorem dX12_init_36 : decode cX12_init 36 = .ok (.sipush 168, 3) := by decide +kernel
theorem dX12_init_39 : decode cX12_init 39 = .ok (.newarray .int, 2) := by decide +kernel
theorem dX12_init_41 : decode cX12_init 41 = .ok (.putfield 22, 3) := by decide +kernel
theorem dX12_init_44 : decode cX12_init 44 = .ok (.aload_n 0, 1) := by decide +kernel
theorem dX12_init_45 : decode cX12_init 45 = .ok (.iconst 3, 1) := by decide +kernel
theorem dX12_init_46 : decode cX12_init 46 = .ok (.newarray .int, 2) := by decide +kernel
theorem dX12_init_48 : decode cX12_init 48 = .ok (.putfield 25, 3) := by decide +kernel
theorem dX12_init_51 : decode cX12_init 51 = .ok (.aload_n 0, 1) := by decide +kernel
theorem dX12_init_52 : decode cX12_init 52 = .ok (.bipush 36, 2) := by decide +kernel
theorem dX12_init_54 : decode cX12_init 54 = .ok (.newarray .int, 2) := by decide +kernel
theorem dX12_init_56 : decode cX12_init 56 = .ok (.putfield 28, 3) := by decide +kernel
theorem dX12_init_59 : decode cX12_init 59 = .ok (.aload_n 0, 1) := by decide +kernel
theorem dX12_init_60 : decode cX12_init 60 = .ok (.bipush 8, 2) := by decide +kernel
theorem dX12_init_62 : decode cX12_init 62 = .ok (.newarray .int, 2) := by decide +kernel
theorem dX12_init_64 : decode cX12_init 64 = .ok (.putfield 31, 3) := by decide +kernel
theorem dX12_init_67 : decode cX12_init 67 = .ok (.aload_n 0, 1) := by decide +kernel
theorem dX12_init_68 : decode cX12_init 68 = .ok (.bipush 8, 2) := by decide +kernel
theorem dX12_init_70 : decode cX12_init 70 = .ok (.newarray .int, 2) := by decide +kernel
theorem dX12_init_72 : decode cX12_init 72 = .ok (.putfield 34, 3) := by decide +kernel
theorem dX12_init_75 : decode cX12_init 75 = .ok (.aload_n 0, 1) := by decide +kernel
theorem dX12_init_76 : decode cX12_init 76 = .ok (.bipush 32, 2) := by decide +kernel
theorem dX12_init_78 : decode cX12_init 78 = .ok (.newarray .int, 2) := by decide +kernel
theorem dX12_init_80 : decode cX12_init 80 = .ok (.putfield 37, 3) := by decide +kernel
theorem dX12_init_83 : decode cX12_init 83 = .ok (.aload_n 0, 1) := by decide +kernel
theorem dX12_init_84 : decode cX12_init 84 = .ok (.bipush 40, 2) := by decide +kernel
theorem dX12_init_86 : decode cX12_init 86 = .ok (.newarray .int, 2) := by decide +kernel
theorem dX12_init_88 : decode cX12_init 88 = .ok (.putfield 40, 3) := by decide +kernel
theorem dX12_init_91 : decode cX12_init 91 = .ok (.aload_n 0, 1) := by decide +kernel
theorem dX12_init_92 : decode cX12_init 92 = .ok (.bipush 8, 2) := by decide +kernel
theorem dX12_init_94 : decode cX12_init 94 = .ok (.newarray .int, 2) := by decide +kernel
theorem dX12_init_96 : decode cX12_init 96 = .ok (.putfield 43, 3) := by decide +kernel
theorem dX12_init_99 : decode cX12_init 99 = .ok (.aload_n 0, 1) := by decide +kernel
theorem dX12_init_100 : decode cX12_init 100 = .ok (.bipush 8, 2) := by decide +kernel
theorem dX12_init_102 : decode cX12_init 102 = .ok (.newarray .int, 2) := by decide +kernel
theorem dX12_init_104 : decode cX12_init 104 = .ok (.putfield 46, 3) := by decide +kernel
theorem dX12_init_107 : decode cX12_init 107 = .ok (.aload_n 0, 1) := by decide +kernel
theorem dX12_init_108 : decode cX12_init 108 = .ok (.bipush 8, 2) := by decide +kernel
theorem dX12_init_110 : decode cX12_init 110 = .ok (.newarray .int, 2) := by decide +kernel
theorem dX12_init_112 : decode cX12_init 112 = .ok (.putfield 49, 3) := by decide +kernel
theorem dX12_init_115 : decode cX12_init 115 = .ok (.aload_n 0, 1) := by decide +kernel
theorem dX12_init_116 : decode cX12_init 116 = .ok (.bipush 8, 2) := by decide +kernel
theorem dX12_init_118 : decode cX12_init 118 = .ok (.newarray .int, 2) := by decide +kernel
theorem dX12_init_120 : decode cX12_init 120 = .ok (.putfield 52, 3) := by decide +kernel
theorem dX12_init_123 : decode cX12_init 123 = .ok (.aload_n 0, 1) := by decide +kernel
theorem dX12_init_124 : decode cX12_init 124 = .ok (.bipush 8, 2) := by decide +kernel
theorem dX12_init_126 : decode cX12_init 126 = .ok (.newarray .int, 2) := by decide +kernel
theorem dX12_init_128 : decode cX12_init 128 = .ok (.putfield 55, 3) := by decide +kernel
theorem dX12_init_131 : decode cX12_init 131 = .ok (.aload_n 0, 1) := by decide +kernel
theorem dX12_init_132 : decode cX12_init 132 = .ok (.bipush 16, 2) := by decide +kernel
theorem dX12_init_134 : decode cX12_init 134 = .ok (.newarray .int, 2) := by decide +kernel
theorem dX12_init_136 : decode cX12_init 136 = .ok (.putfield 58, 3) := by decide +kernel
theorem dX12_init_139 : decode cX12_init 139 = .ok (.aload_n 0, 1) := by decide +kernel
theorem dX12_init_140 : decode cX12_init 140 = .ok (.sipush 960, 3) := by decide +kernel
theorem dX12_init_143 : decode cX12_init 143 = .ok (.newarray .int, 2) := by decide +kernel
theorem dX12_init_145 : decode cX12_init 145 = .ok (.putfield 61, 3) := by decide +kernel
theorem dX12_init_148 : decode cX12_init 148 = .ok (.aload_n 0, 1) := by decide +kernel
theorem dX12_init_149 : decode cX12_init 149 = .ok (.bipush 16, 2) := by decide +kernel
theorem dX12_init_151 : decode cX12_init 151 = .ok (.newarray .int, 2) := by decide +kernel
theorem dX12_init_153 : decode cX12_init 153 = .ok (.putfield 64, 3) := by decide +kernel
theorem dX12_init_156 : decode cX12_init 156 = .ok (.aload_n 0, 1) := by decide +kernel
theorem dX12_init_157 : decode cX12_init 157 = .ok (.bipush 8, 2) := by decide +kernel
theorem dX12_init_159 : decode cX12_init 159 = .ok (.newarray .int, 2) := by decide +kernel
theorem dX12_init_161 : decode cX12_init 161 = .ok (.putfield 67, 3) := by decide +kernel
theorem dX12_init_164 : decode cX12_init 164 = .ok (.aload_n 0, 1) := by decide +kernel
theorem dX12_init_165 : decode cX12_init 165 = .ok (.sipush 256, 3) := by decide +kernel
theorem dX12_init_168 : decode cX12_init 168 = .ok (.newarray .int, 2) := by decide +kernel
theorem dX12_init_170 : decode cX12_init 170 = .ok (.putfield 70, 3) := by decide +kernel
theorem dX12_init_173 : decode cX12_init 173 = .ok (.aload_n 0, 1) := by decide +kernel
theorem dX12_init_174 : decode cX12_init 174 = .ok (.bipush 24, 2) := by decide +kernel
theorem dX12_init_176 : decode cX12_init 176 = .ok (.newarray .int, 2) := by decide +kernel
theorem dX12_init_178 : decode cX12_init 178 = .ok (.putfield 73, 3) := by decide +kernel
theorem dX12_init_181 : decode cX12_init 181 = .ok (.aload_n 0, 1) := by decide +kernel
theorem dX12_init_182 : decode cX12_init 182 = .ok (.sipush 240, 3) := by decide +kernel
theorem dX12_init_185 : decode cX12_init 185 = .ok (.newarray .int, 2) := by decide +kernel
theorem dX12_init_187 : decode cX12_init 187 = .ok (.putfield 76, 3) := by decide +kernel
theorem dX12_init_190 : decode cX12_init 190 = .ok (.iconst 0, 1) := by decide +kernel
theorem dX12_init_191 : decode cX12_init 191 = .ok (.istore_n 1, 1) := by decide +kernel
theorem dX12_init_192 : decode cX12_init 192 = .ok (.iload_n 1, 1) := by decide +kernel
theorem dX12_init_193 : decode cX12_init 193 = .ok (.iconst 4, 1) := by decide +kernel
theorem dX12_init_194 : decode cX12_init 194 = .ok (.if_icmp .ge 16, 3) := by decide +kernel
theorem dX12_init_197 : decode cX12_init 197 = .ok (.aload_n 0, 1) := by decide +kernel
theorem dX12_init_198 : decode cX12_init 198 = .ok (.getfield 7, 3) := by decide +kernel
theorem dX12_init_201 : decode cX12_init 201 = .ok (.iload_n 1, 1) := by decide +kernel
theorem dX12_init_202 : decode cX12_init 202 = .ok (.iconst (-1), 1) := by decide +kernel
theorem dX12_init_203 : decode cX12_init 203 = .ok (.iastore, 1) := by decide +kernel
theorem dX12_init_204 : decode cX12_init 204 = .ok (.iinc 1 1, 3) := by decide +kernel
theorem dX12_init_207 : decode cX12_init 207 = .ok (.goto (-15), 3) := by decide +kernel
theorem dX12_init_210 : decode cX12_init 210 = .ok (.aload_n 0, 1) := by decide +kernel
theorem dX12_init_211 : decode cX12_init 211 = .ok (.iconst (-1), 1) := by decide +kernel
theorem dX12_init_212 : decode cX12_init 212 = .ok (.putfield 79, 3) := by decide +kernel
theorem dX12_init_215 : decode cX12_init 215 = .ok (.return_, 1) := by decide +kernel
set_option maxHeartbeats 4000000 in
set_option maxRecDepth 100000 in
theorem kk_X12 (l : Launch) (D : va_G) (cA : Nat → ClassId) (sa : Nat → Nat) : kC l D cA yX12_init cX12_init 2 1 23 2163 12 [.null, .null, .null, .null, .int 0, .null, .null, .int 0, .int 0, .null, .int 0, .null, .null, .null, .int 0, .null, .int 0, .null, .int 0, .int 0, .null, .null, .null, .null, .null, .null, .null, .null, .int 0, .int 0, .int 0, .null, .int 0, .null, .null, .int 0] [] (fun _ => True) (fun u h => am_w shM cA (kAd sa h u) w0M) := by
  intro h sz
  refine Met.ofW (cc := cX12_init) (maxL := 2) (ret := none) (by decide +kernel) rfl ?_
  intro p e s m args below meth c s₁ Bd hml hv0
  obtain ⟨rfl, hsz, hP, hK, hX⟩ := hv0
  have hx := Bd.exec
  have hb := Bd.bytes
  have hr := Bd.returns
  have hts0 := atoms_spec (ws := .code yX12_init cX12_init 2 none :: am_GT) Bd.pre
  have hts : ∀ w ∈ am_GT, w.before _ s = true := fun w hw => hts0 w (List.mem_cons_of_mem _ hw)
  have hown : s.vm.findClass RX12 = some m.cls := findClass_of_methodNamed Bd.named
  have hlocks := Bd.notSynchronized
  have hin : meth.name = "<init>" := (name_of_methodNamed Bd.named Bd.method).1
  subst hsz
  have hQ : vQ D (va_A [(h, .inr (12, [.null, .null, .null, .null, .int 0, .null, .null, .int 0, .int 0, .null, .int 0, .null, .null, .null, .int 0, .null, .int 0, .null, .int 0, .int 0, .null, .null, .null, .null, .null, .null, .null, .null, .int 0, .int 0, .int 0, .null, .int 0, .null, .null, .int 0]))] s.heap.size) [(h, .inr (12, [.null, .null, .null, .null, .int 0, .null, .null, .int 0, .int 0, .null, .int 0, .null, .null, .null, .int 0, .null, .int 0, .null, .int 0, .int 0, .null, .null, .null, .null, .null, .null, .null, .null, .int 0, .int 0, .int 0, .null, .int 0, .null, .null, .int 0]))] s.heap := ⟨hP, vD_one⟩
  clear hP
  generalize hAe : va_A [(h, .inr (12, [.null, .null, .null, .null, .int 0, .null, .null, .int 0, .int 0, .null, .int 0, .null, .null, .null, .int 0, .null, .int 0, .null, .int 0, .int 0, .null, .null, .null, .null, .null, .null, .null, .null, .int 0, .int 0, .int 0, .null, .int 0, .null, .null, .int 0]))] s.heap.size = A at hQ ⊢
  have hA : ∀ q : Nat, s.heap.size ≤ q → A q := fun q hq => by rw [← hAe]; exact Or.inr hq
  have hS : va_S A s.heap s.heap [] := va_S.rf
  have hl := lv_entry ([.ref h]) (n := 2) (Nat.le_of_ble_eq_true rfl)
  rw [lg_entry_eq]
  generalize (lg_sl ([.ref h]) ++ List.replicate (2 - (lg_sl ([.ref h])).length) Slot.unset).toArray = ls at hl ⊢
  have hl : lv_has ls 2 [(0, .ref h)] := hl
  refine lv_aload_n hx hb dX12_init_0 rfl (lv_at hl 0 rfl) ?_
  refine W.objInit hx hb hown (hts _ (am_ig (i := 952) (by decide +kernel) rfl)) (hts _ kw_oi) (hts _ kw_oc) rfl (by rw [hml]; exact hl.1) rfl dX12_init_1 (Nat.le_of_ble_eq_true rfl) (Nat.le_of_ble_eq_true rfl) ?_
  refine W.eq (g2 := F0 m 4 ls []) rfl ?_
  refine lv_aload_n hx hb dX12_init_4 rfl (lv_at hl 0 rfl) ?_
  refine lv_iconst (v := 4) hx hb dX12_init_5 (by decide) ?_
  refine vQ_newi hx hb (hts _ kw_arr) hK hQ hS hA 4 (by decide) (by decide) (by decide) (Nat.le_of_ble_eq_true rfl) (Nat.le_of_ble_eq_true rfl) dX12_init_6 (fun q1 H hQ hS => ?_)
  refine W.widen (k := 1) (n := 4) (by omega) (by omega) ?_
  refine va_putF (D := D) (ci := 12) (v := .ref q1) (ty := .array .int) (C := RX12) (T := TX12) (N := 36) hx hb hts (am_uin (ci := 12) rfl) tyX12 tyX12_ok nmX12 hown hK hQ.1 hQ.2 hS 1 rfl rfl 0 (by decide) (hts _ (am_ig (i := 953) (by decide +kernel) rfl)) (fun _ h9 => h9) rfl hin rfl (by decide +kernel) rfl rfl (Nat.le_of_ble_eq_true rfl) dX12_init_8 (fun H locs hP hD hS => ?_)
  have hQ : vQ D A ([(q1, .inl (cA 0, 4, .inl (fun _ => 0))), (h, .inr (12, [.ref q1, .null, .null, .null, .int 0, .null, .null, .int 0, .int 0, .null, .int 0, .null, .null, .null, .int 0, .null, .int 0, .null, .int 0, .int 0, .null, .null, .null, .null, .null, .null, .null, .null, .int 0, .int 0, .int 0, .null, .int 0, .null, .null, .int 0]))]) H := ⟨hP, hD⟩
  refine lv_aload_n hx hb dX12_init_11 rfl (lv_at hl 0 rfl) ?_
  refine lv_iconst (v := 4) hx hb dX12_init_12 (by decide) ?_
  refine vQ_newi hx hb (hts _ kw_arr) hK hQ hS hA 4 (by decide) (by decide) (by decide) (Nat.le_of_ble_eq_true rfl) (Nat.le_of_ble_eq_true rfl) dX12_init_13 (fun q2 H hQ hS => ?_)
  refine W.widen (k := 2) (n := 8) (by omega) (by omega) ?_
  refine va_putF (D := D) (ci := 12) (v := .ref q2) (ty := .array .int) (C := RX12) (T := TX12) (N := 36) hx hb hts (am_uin (ci := 12) rfl) tyX12 tyX12_ok nmX12 hown hK hQ.1 hQ.2 hS 2 rfl rfl 1 (by decide) (hts _ (am_ig (i := 954) (by decide +kernel) rfl)) (fun _ h9 => h9) rfl hin rfl (by decide +kernel) rfl rfl (Nat.le_of_ble_eq_true rfl) dX12_init_15 (fun H locs hP hD hS => ?_)
  have hQ : vQ D A ([(q2, .inl (cA 0, 4, .inl (fun _ => 0))), (q1, .inl (cA 0, 4, .inl (fun _ => 0))), (h, .inr (12, [.ref q1, .ref q2, .null, .null, .int 0, .null, .null, .int 0, .int 0, .null, .int 0, .null, .null, .null, .int 0, .null, .int 0, .null, .int 0, .int 0, .null, .null, .null, .null, .null, .null, .null, .null, .int 0, .int 0, .int 0, .null, .int 0, .null, .null, .int 0]))]) H := ⟨hP, hD⟩
  refine lv_aload_n hx hb dX12_init_18 rfl (lv_at hl 0 rfl) ?_
  refine lv_sipush (v := 240) hx hb dX12_init_19 (by decide) ?_
  refine vQ_newi hx hb (hts _ kw_arr) hK hQ hS hA 240 (by decide) (by decide) (by decide) (Nat.le_of_ble_eq_true rfl) (Nat.le_of_ble_eq_true rfl) dX12_init_22 (fun q3 H hQ hS => ?_)
  refine W.widen (k := 3) (n := 248) (by omega) (by omega) ?_
  refine va_putF (D := D) (ci := 12) (v := .ref q3) (ty := .array .int) (C := RX12) (T := TX12) (N := 36) hx hb hts (am_uin (ci := 12) rfl) tyX12 tyX12_ok nmX12 hown hK hQ.1 hQ.2 hS 3 rfl rfl 2 (by decide) (hts _ (am_ig (i := 955) (by decide +kernel) rfl)) (fun _ h9 => h9) rfl hin rfl (by decide +kernel) rfl rfl (Nat.le_of_ble_eq_true rfl) dX12_init_24 (fun H locs hP hD hS => ?_)
  have hQ : vQ D A ([(q3, .inl (cA 0, 240, .inl (fun _ => 0))), (q2, .inl (cA 0, 4, .inl (fun _ => 0))), (q1, .inl (cA 0, 4, .inl (fun _ => 0))), (h, .inr (12, [.ref q1, .ref q2, .ref q3, .null, .int 0, .null, .null, .int 0, .int 0, .null, .int 0, .null, .null, .null, .int 0, .null, .int 0, .null, .int 0, .int 0, .null, .null, .null, .null, .null, .null, .null, .null, .int 0, .int 0, .int 0, .null, .int 0, .null, .null, .int 0]))]) H := ⟨hP, hD⟩
  refine lv_aload_n hx hb dX12_init_27 rfl (lv_at hl 0 rfl) ?_
  refine lv_bipush (v := 60) hx hb dX12_init_28 (by decide) ?_
  refine vQ_newi hx hb (hts _ kw_arr) hK hQ hS hA 60 (by decide) (by decide) (by decide) (Nat.le_of_ble_eq_true rfl) (Nat.le_of_ble_eq_true rfl) dX12_init_30 (fun q4 H hQ hS => ?_)
  refine W.widen (k := 4) (n := 308) (by omega) (by omega) ?_
  refine va_putF (D := D) (ci := 12) (v := .ref q4) (ty := .array .int) (C := RX12) (T := TX12) (N := 36) hx hb hts (am_uin (ci := 12) rfl) tyX12 tyX12_ok nmX12 hown hK hQ.1 hQ.2 hS 4 rfl rfl 3 (by decide) (hts _ (am_ig (i := 956) (by decide +kernel) rfl)) (fun _ h9 => h9) rfl hin rfl (by decide +kernel) rfl rfl (Nat.le_of_ble_eq_true rfl) dX12_init_32 (fun H locs hP hD hS => ?_)
  have hQ : vQ D A ([(q4, .inl (cA 0, 60, .inl (fun _ => 0))), (q3, .inl (cA 0, 240, .inl (fun _ => 0))), (q2, .inl (cA 0, 4, .inl (fun _ => 0))), (q1, .inl (cA 0, 4, .inl (fun _ => 0))), (h, .inr (12, [.ref q1, .ref q2, .ref q3, .ref q4, .int 0, .null, .null, .int 0, .int 0, .null, .int 0, .null, .null, .null, .int 0, .null, .int 0, .null, .int 0, .int 0, .null, .null, .null, .null, .null, .null, .null, .null, .int 0, .int 0, .int 0, .null, .int 0, .null, .null, .int 0]))]) H := ⟨hP, hD⟩
  refine lv_aload_n hx hb dX12_init_35 rfl (lv_at hl 0 rfl) ?_
  refine lv_sipush (v := 168) hx hb dX12_init_36 (by decide) ?_
  refine vQ_newi hx hb (hts _ kw_arr) hK hQ hS hA 168 (by decide) (by decide) (by decide) (Nat.le_of_ble_eq_true rfl) (Nat.le_of_ble_eq_true rfl) dX12_init_39 (fun q5 H hQ hS => ?_)
  refine W.widen (k := 5) (n := 476) (by omega) (by omega) ?_
  refine va_putF (D := D) (ci := 12) (v := .ref q5) (ty := .array .int) (C := RX12) (T := TX12) (N := 36) hx hb hts (am_uin (ci := 12) rfl) tyX12 tyX12_ok nmX12 hown hK hQ.1 hQ.2 hS 5 rfl rfl 5 (by decide) (hts _ (am_ig (i := 958) (by decide +kernel) rfl)) (fun _ h9 => h9) rfl hin rfl (by decide +kernel) rfl rfl (Nat.le_of_ble_eq_true rfl) dX12_init_41 (fun H locs hP hD hS => ?_)
  have hQ : vQ D A ([(q5, .inl (cA 0, 168, .inl (fun _ => 0))), (q4, .inl (cA 0, 60, .inl (fun _ => 0))), (q3, .inl (cA 0, 240, .inl (fun _ => 0))), (q2, .inl (cA 0, 4, .inl (fun _ => 0))), (q1, .inl (cA 0, 4, .inl (fun _ => 0))), (h, .inr (12, [.ref q1, .ref q2, .ref q3, .ref q4, .int 0, .ref q5, .null, .int 0, .int 0, .null, .int 0, .null, .null, .null, .int 0, .null, .int 0, .null, .int 0, .int 0, .null, .null, .null, .null, .null, .null, .null, .null, .int 0, .int 0, .int 0, .null, .int 0, .null, .null, .int 0]))]) H := ⟨hP, hD⟩
  refine lv_aload_n hx hb dX12_init_44 rfl (lv_at hl 0 rfl) ?_
  refine lv_iconst (v := 3) hx hb dX12_init_45 (by decide) ?_
  refine vQ_newi hx hb (hts _ kw_arr) hK hQ hS hA 3 (by decide) (by decide) (by decide) (Nat.le_of_ble_eq_true rfl) (Nat.le_of_ble_eq_true rfl) dX12_init_46 (fun q6 H hQ hS => ?_)
  refine W.widen (k := 6) (n := 479) (by omega) (by omega) ?_
  refine va_putF (D := D) (ci := 12) (v := .ref q6) (ty := .array .int) (C := RX12) (T := TX12) (N := 36) hx hb hts (am_uin (ci := 12) rfl) tyX12 tyX12_ok nmX12 hown hK hQ.1 hQ.2 hS 6 rfl rfl 6 (by decide) (hts _ (am_ig (i := 959) (by decide +kernel) rfl)) (fun _ h9 => h9) rfl hin rfl (by decide +kernel) rfl rfl (Nat.le_of_ble_eq_true rfl) dX12_init_48 (fun H locs hP hD hS => ?_)
  have hQ : vQ D A ([(q6, .inl (cA 0, 3, .inl (fun _ => 0))), (q5, .inl (cA 0, 168, .inl (fun _ => 0))), (q4, .inl (cA 0, 60, .inl (fun _ => 0))), (q3, .inl (cA 0, 240, .inl (fun _ => 0))), (q2, .inl (cA 0, 4, .inl (fun _ => 0))), (q1, .inl (cA 0, 4, .inl (fun _ => 0))), (h, .inr (12, [.ref q1, .ref q2, .ref q3, .ref q4, .int 0, .ref q5, .ref q6, .int 0, .int 0, .null, .int 0, .null, .null, .null, .int 0, .null, .int 0, .null, .int 0, .int 0, .null, .null, .null, .null, .null, .null, .null, .null, .int 0, .int 0, .int 0, .null, .int 0, .null, .null, .int 0]))]) H := ⟨hP, hD⟩
  refine lv_aload_n hx hb dX12_init_51 rfl (lv_at hl 0 rfl) ?_
  refine lv_bipush (v := 36) hx hb dX12_init_52 (by decide) ?_
  refine vQ_newi hx hb (hts _ kw_arr) hK hQ hS hA 36 (by decide) (by decide) (by decide) (Nat.le_of_ble_eq_true rfl) (Nat.le_of_ble_eq_true rfl) dX12_init_54 (fun q7 H hQ hS => ?_)
  refine W.widen (k := 7) (n := 515) (by omega) (by omega) ?_
  refine va_putF (D := D) (ci := 12) (v := .ref q7) (ty := .array .int) (C := RX12) (T := TX12) (N := 36) hx hb hts (am_uin (ci := 12) rfl) tyX12 tyX12_ok nmX12 hown hK hQ.1 hQ.2 hS 7 rfl rfl 9 (by decide) (hts _ (am_ig (i := 962) (by decide +kernel) rfl)) (fun _ h9 => h9) rfl hin rfl (by decide +kernel) rfl rfl (Nat.le_of_ble_eq_true rfl) dX12_init_56 (fun H locs hP hD hS => ?_)
  have hQ : vQ D A ([(q7, .inl (cA 0, 36, .inl (fun _ => 0))), (q6, .inl (cA 0, 3, .inl (fun _ => 0))), (q5, .inl (cA 0, 168, .inl (fun _ => 0))), (q4, .inl (cA 0, 60, .inl (fun _ => 0))), (q3, .inl (cA 0, 240, .inl (fun _ => 0))), (q2, .inl (cA 0, 4, .inl (fun _ => 0))), (q1, .inl (cA 0, 4, .inl (fun _ => 0))), (h, .inr (12, [.ref q1, .ref q2, .ref q3, .ref q4, .int 0, .ref q5, .ref q6, .int 0, .int 0, .ref q7, .int 0, .null, .null, .null, .int 0, .null, .int 0, .null, .int 0, .int 0, .null, .null, .null, .null, .null, .null, .null, .null, .int 0, .int 0, .int 0, .null, .int 0, .null, .null, .int 0]))]) H := ⟨hP, hD⟩
  refine lv_aload_n hx hb dX12_init_59 rfl (lv_at hl 0 rfl) ?_
  refine lv_bipush (v := 8) hx hb dX12_init_60 (by decide) ?_
  refine vQ_newi hx hb (hts _ kw_arr) hK hQ hS hA 8 (by decide) (by decide) (by decide) (Nat.le_of_ble_eq_true rfl) (Nat.le_of_ble_eq_true rfl) dX12_init_62 (fun q8 H hQ hS => ?_)
  refine W.widen (k := 8) (n := 523) (by omega) (by omega) ?_
  refine va_putF (D := D) (ci := 12) (v := .ref q8) (ty := .array .int) (C := RX12) (T := TX12) (N := 36) hx hb hts (am_uin (ci := 12) rfl) tyX12 tyX12_ok nmX12 hown hK hQ.1 hQ.2 hS 8 rfl rfl 11 (by decide) (hts _ (am_ig (i := 964) (by decide +kernel) rfl)) (fun _ h9 => h9) rfl hin rfl (by decide +kernel) rfl rfl (Nat.le_of_ble_eq_true rfl) dX12_init_64 (fun H locs hP hD hS => ?_)
  have hQ : vQ D A ([(q8, .inl (cA 0, 8, .inl (fun _ => 0))), (q7, .inl (cA 0, 36, .inl (fun _ => 0))), (q6, .inl (cA 0, 3, .inl (fun _ => 0))), (q5, .inl (cA 0, 168, .inl (fun _ => 0))), (q4, .inl (cA 0, 60, .inl (fun _ => 0))), (q3, .inl (cA 0, 240, .inl (fun _ => 0))), (q2, .inl (cA 0, 4, .inl (fun _ => 0))), (q1, .inl (cA 0, 4, .inl (fun _ => 0))), (h, .inr (12, [.ref q1, .ref q2, .ref q3, .ref q4, .int 0, .ref q5, .ref q6, .int 0, .int 0, .ref q7, .int 0, .ref q8, .null, .null, .int 0, .null, .int 0, .null, .int 0, .int 0, .null, .null, .null, .null, .null, .null, .null, .null, .int 0, .int 0, .int 0, .null, .int 0, .null, .null, .int 0]))]) H := ⟨hP, hD⟩
  refine lv_aload_n hx hb dX12_init_67 rfl (lv_at hl 0 rfl) ?_
  refine lv_bipush (v := 8) hx hb dX12_init_68 (by decide) ?_
  refine vQ_newi hx hb (hts _ kw_arr) hK hQ hS hA 8 (by decide) (by decide) (by decide) (Nat.le_of_ble_eq_true rfl) (Nat.le_of_ble_eq_true rfl) dX12_init_70 (fun q9 H hQ hS => ?_)
  refine W.widen (k := 9) (n := 531) (by omega) (by omega) ?_
  refine va_putF (D := D) (ci := 12) (v := .ref q9) (ty := .array .int) (C := RX12) (T := TX12) (N := 36) hx hb hts (am_uin (ci := 12) rfl) tyX12 tyX12_ok nmX12 hown hK hQ.1 hQ.2 hS 9 rfl rfl 12 (by decide) (hts _ (am_ig (i := 965) (by decide +kernel) rfl)) (fun _ h9 => h9) rfl hin rfl (by decide +kernel) rfl rfl (Nat.le_of_ble_eq_true rfl) dX12_init_72 (fun H locs hP hD hS => ?_)
  have hQ : vQ D A ([(q9, .inl (cA 0, 8, .inl (fun _ => 0))), (q8, .inl (cA 0, 8, .inl (fun _ => 0))), (q7, .inl (cA 0, 36, .inl (fun _ => 0))), (q6, .inl (cA 0, 3, .inl (fun _ => 0))), (q5, .inl (cA 0, 168, .inl (fun _ => 0))), (q4, .inl (cA 0, 60, .inl (fun _ => 0))), (q3, .inl (cA 0, 240, .inl (fun _ => 0))), (q2, .inl (cA 0, 4, .inl (fun _ => 0))), (q1, .inl (cA 0, 4, .inl (fun _ => 0))), (h, .inr (12, [.ref q1, .ref q2, .ref q3, .ref q4, .int 0, .ref q5, .ref q6, .int 0, .int 0, .ref q7, .int 0, .ref q8, .ref q9, .null, .int 0, .null, .int 0, .null, .int 0, .int 0, .null, .null, .null, .null, .null, .null, .null, .null, .int 0, .int 0, .int 0, .null, .int 0, .null, .null, .int 0]))]) H := ⟨hP, hD⟩
  refine lv_aload_n hx hb dX12_init_75 rfl (lv_at hl 0 rfl) ?_
  refine lv_bipush (v := 32) hx hb dX12_init_76 (by decide) ?_
  refine vQ_newi hx hb (hts _ kw_arr) hK hQ hS hA 32 (by decide) (by decide) (by decide) (Nat.le_of_ble_eq_true rfl) (Nat.le_of_ble_eq_true rfl) dX12_init_78 (fun q10 H hQ hS => ?_)
  refine W.widen (k := 10) (n := 563) (by omega) (by omega) ?_
  refine va_putF (D := D) (ci := 12) (v := .ref q10) (ty := .array .int) (C := RX12) (T := TX12) (N := 36) hx hb hts (am_uin (ci := 12) rfl) tyX12 tyX12_ok nmX12 hown hK hQ.1 hQ.2 hS 10 rfl rfl 13 (by decide) (hts _ (am_ig (i := 966) (by decide +kernel) rfl)) (fun _ h9 => h9) rfl hin rfl (by decide +kernel) rfl rfl (Nat.le_of_ble_eq_true rfl) dX12_init_80 (fun H locs hP hD hS => ?_)
  have hQ : vQ D A ([(q10, .inl (cA 0, 32, .inl (fun _ => 0))), (q9, .inl (cA 0, 8, .inl (fun _ => 0))), (q8, .inl (cA 0, 8, .inl (fun _ => 0))), (q7, .inl (cA 0, 36, .inl (fun _ => 0))), (q6, .inl (cA 0, 3, .inl (fun _ => 0))), (q5, .inl (cA 0, 168, .inl (fun _ => 0))), (q4, .inl (cA 0, 60, .inl (fun _ => 0))), (q3, .inl (cA 0, 240, .inl (fun _ => 0))), (q2, .inl (cA 0, 4, .inl (fun _ => 0))), (q1, .inl (cA 0, 4, .inl (fun _ => 0))), (h, .inr (12, [.ref q1, .ref q2, .ref q3, .ref q4, .int 0, .ref q5, .ref q6, .int 0, .int 0, .ref q7, .int 0, .ref q8, .ref q9, .ref q10, .int 0, .null, .int 0, .null, .int 0, .int 0, .null, .null, .null, .null, .null, .null, .null, .null, .int 0, .int 0, .int 0, .null, .int 0, .null, .null, .int 0]))]) H := ⟨hP, hD⟩
  refine lv_aload_n hx hb dX12_init_83 rfl (lv_at hl 0 rfl) ?_
  refine lv_bipush (v := 40) hx hb dX12_init_84 (by decide) ?_
  refine vQ_newi hx hb (hts _ kw_arr) hK hQ hS hA 40 (by decide) (by decide) (by decide) (Nat.le_of_ble_eq_true rfl) (Nat.le_of_ble_eq_true rfl) dX12_init_86 (fun q11 H hQ hS => ?_)
  refine W.widen (k := 11) (n := 603) (by omega) (by omega) ?_
  refine va_putF (D := D) (ci := 12) (v := .ref q11) (ty := .array .int) (C := RX12) (T := TX12) (N := 36) hx hb hts (am_uin (ci := 12) rfl) tyX12 tyX12_ok nmX12 hown hK hQ.1 hQ.2 hS 11 rfl rfl 15 (by decide) (hts _ (am_ig (i := 968) (by decide +kernel) rfl)) (fun _ h9 => h9) rfl hin rfl (by decide +kernel) rfl rfl (Nat.le_of_ble_eq_true rfl) dX12_init_88 (fun H locs hP hD hS => ?_)
  have hQ : vQ D A ([(q11, .inl (cA 0, 40, .inl (fun _ => 0))), (q10, .inl (cA 0, 32, .inl (fun _ => 0))), (q9, .inl (cA 0, 8, .inl (fun _ => 0))), (q8, .inl (cA 0, 8, .inl (fun _ => 0))), (q7, .inl (cA 0, 36, .inl (fun _ => 0))), (q6, .inl (cA 0, 3, .inl (fun _ => 0))), (q5, .inl (cA 0, 168, .inl (fun _ => 0))), (q4, .inl (cA 0, 60, .inl (fun _ => 0))), (q3, .inl (cA 0, 240, .inl (fun _ => 0))), (q2, .inl (cA 0, 4, .inl (fun _ => 0))), (q1, .inl (cA 0, 4, .inl (fun _ => 0))), (h, .inr (12, [.ref q1, .ref q2, .ref q3, .ref q4, .int 0, .ref q5, .ref q6, .int 0, .int 0, .ref q7, .int 0, .ref q8, .ref q9, .ref q10, .int 0, .ref q11, .int 0, .null, .int 0, .int 0, .null, .null, .null, .null, .null, .null, .null, .null, .int 0, .int 0, .int 0, .null, .int 0, .null, .null, .int 0]))]) H := ⟨hP, hD⟩
  refine lv_aload_n hx hb dX12_init_91 rfl (lv_at hl 0 rfl) ?_
  refine lv_bipush (v := 8) hx hb dX12_init_92 (by decide) ?_
  refine vQ_newi hx hb (hts _ kw_arr) hK hQ hS hA 8 (by decide) (by decide) (by decide) (Nat.le_of_ble_eq_true rfl) (Nat.le_of_ble_eq_true rfl) dX12_init_94 (fun q12 H hQ hS => ?_)
  refine W.widen (k := 12) (n := 611) (by omega) (by omega) ?_
  refine va_putF (D := D) (ci := 12) (v := .ref q12) (ty := .array .int) (C := RX12) (T := TX12) (N := 36) hx hb hts (am_uin (ci := 12) rfl) tyX12 tyX12_ok nmX12 hown hK hQ.1 hQ.2 hS 12 rfl rfl 17 (by decide) (hts _ (am_ig (i := 970) (by decide +kernel) rfl)) (fun _ h9 => h9) rfl hin rfl (by decide +kernel) rfl rfl (Nat.le_of_ble_eq_true rfl) dX12_init_96 (fun H locs hP hD hS => ?_)
  have hQ : vQ D A ([(q12, .inl (cA 0, 8, .inl (fun _ => 0))), (q11, .inl (cA 0, 40, .inl (fun _ => 0))), (q10, .inl (cA 0, 32, .inl (fun _ => 0))), (q9, .inl (cA 0, 8, .inl (fun _ => 0))), (q8, .inl (cA 0, 8, .inl (fun _ => 0))), (q7, .inl (cA 0, 36, .inl (fun _ => 0))), (q6, .inl (cA 0, 3, .inl (fun _ => 0))), (q5, .inl (cA 0, 168, .inl (fun _ => 0))), (q4, .inl (cA 0, 60, .inl (fun _ => 0))), (q3, .inl (cA 0, 240, .inl (fun _ => 0))), (q2, .inl (cA 0, 4, .inl (fun _ => 0))), (q1, .inl (cA 0, 4, .inl (fun _ => 0))), (h, .inr (12, [.ref q1, .ref q2, .ref q3, .ref q4, .int 0, .ref q5, .ref q6, .int 0, .int 0, .ref q7, .int 0, .ref q8, .ref q9, .ref q10, .int 0, .ref q11, .int 0, .ref q12, .int 0, .int 0, .null, .null, .null, .null, .null, .null, .null, .null, .int 0, .int 0, .int 0, .null, .int 0, .null, .null, .int 0]))]) H := ⟨hP, hD⟩
  refine lv_aload_n hx hb dX12_init_99 rfl (lv_at hl 0 rfl) ?_
  refine lv_bipush (v := 8) hx hb dX12_init_100 (by decide) ?_
  refine vQ_newi hx hb (hts _ kw_arr) hK hQ hS hA 8 (by decide) (by decide) (by decide) (Nat.le_of_ble_eq_true rfl) (Nat.le_of_ble_eq_true rfl) dX12_init_102 (fun q13 H hQ hS => ?_)
  refine W.widen (k := 13) (n := 619) (by omega) (by omega) ?_
  refine va_putF (D := D) (ci := 12) (v := .ref q13) (ty := .array .int) (C := RX12) (T := TX12) (N := 36) hx hb hts (am_uin (ci := 12) rfl) tyX12 tyX12_ok nmX12 hown hK hQ.1 hQ.2 hS 13 rfl rfl 20 (by decide) (hts _ (am_ig (i := 973) (by decide +kernel) rfl)) (fun _ h9 => h9) rfl hin rfl (by decide +kernel) rfl rfl (Nat.le_of_ble_eq_true rfl) dX12_init_104 (fun H locs hP hD hS => ?_)
  have hQ : vQ D A ([(q13, .inl (cA 0, 8, .inl (fun _ => 0))), (q12, .inl (cA 0, 8, .inl (fun _ => 0))), (q11, .inl (cA 0, 40, .inl (fun _ => 0))), (q10, .inl (cA 0, 32, .inl (fun _ => 0))), (q9, .inl (cA 0, 8, .inl (fun _ => 0))), (q8, .inl (cA 0, 8, .inl (fun _ => 0))), (q7, .inl (cA 0, 36, .inl (fun _ => 0))), (q6, .inl (cA 0, 3, .inl (fun _ => 0))), (q5, .inl (cA 0, 168, .inl (fun _ => 0))), (q4, .inl (cA 0, 60, .inl (fun _ => 0))), (q3, .inl (cA 0, 240, .inl (fun _ => 0))), (q2, .inl (cA 0, 4, .inl (fun _ => 0))), (q1, .inl (cA 0, 4, .inl (fun _ => 0))), (h, .inr (12, [.ref q1, .ref q2, .ref q3, .ref q4, .int 0, .ref q5, .ref q6, .int 0, .int 0, .ref q7, .int 0, .ref q8, .ref q9, .ref q10, .int 0, .ref q11, .int 0, .ref q12, .int 0, .int 0, .ref q13, .null, .null, .null, .null, .null, .null, .null, .int 0, .int 0, .int 0, .null, .int 0, .null, .null, .int 0]))]) H := ⟨hP, hD⟩
  refine lv_aload_n hx hb dX12_init_107 rfl (lv_at hl 0 rfl) ?_
  refine lv_bipush (v := 8) hx hb dX12_init_108 (by decide) ?_
  refine vQ_newi hx hb (hts _ kw_arr) hK hQ hS hA 8 (by decide) (by decide) (by decide) (Nat.le_of_ble_eq_true rfl) (Nat.le_of_ble_eq_true rfl) dX12_init_110 (fun q14 H hQ hS => ?_)
  refine W.widen (k := 14) (n := 627) (by omega) (by omega) ?_
  refine va_putF (D := D) (ci := 12) (v := .ref q14) (ty := .array .int) (C := RX12) (T := TX12) (N := 36) hx hb hts (am_uin (ci := 12) rfl) tyX12 tyX12_ok nmX12 hown hK hQ.1 hQ.2 hS 14 rfl rfl 21 (by decide) (hts _ (am_ig (i := 974) (by decide +kernel) rfl)) (fun _ h9 => h9) rfl hin rfl (by decide +kernel) rfl rfl (Nat.le_of_ble_eq_true rfl) dX12_init_112 (fun H locs hP hD hS => ?_)
  have hQ : vQ D A ([(q14, .inl (cA 0, 8, .inl (fun _ => 0))), (q13, .inl (cA 0, 8, .inl (fun _ => 0))), (q12, .inl (cA 0, 8, .inl (fun _ => 0))), (q11, .inl (cA 0, 40, .inl (fun _ => 0))), (q10, .inl (cA 0, 32, .inl (fun _ => 0))), (q9, .inl (cA 0, 8, .inl (fun _ => 0))), (q8, .inl (cA 0, 8, .inl (fun _ => 0))), (q7, .inl (cA 0, 36, .inl (fun _ => 0))), (q6, .inl (cA 0, 3, .inl (fun _ => 0))), (q5, .inl (cA 0, 168, .inl (fun _ => 0))), (q4, .inl (cA 0, 60, .inl (fun _ => 0))), (q3, .inl (cA 0, 240, .inl (fun _ => 0))), (q2, .inl (cA 0, 4, .inl (fun _ => 0))), (q1, .inl (cA 0, 4, .inl (fun _ => 0))), (h, .inr (12, [.ref q1, .ref q2, .ref q3, .ref q4, .int 0, .ref q5, .ref q6, .int 0, .int 0, .ref q7, .int 0, .ref q8, .ref q9, .ref q10, .int 0, .ref q11, .int 0, .ref q12, .int 0, .int 0, .ref q13, .ref q14, .null, .null, .null, .null, .null, .null, .int 0, .int 0, .int 0, .null, .int 0, .null, .null, .int 0]))]) H := ⟨hP, hD⟩
  refine lv_aload_n hx hb dX12_init_115 rfl (lv_at hl 0 rfl) ?_
  refine lv_bipush (v := 8) hx hb dX12_init_116 (by decide) ?_
  refine vQ_newi hx hb (hts _ kw_arr) hK hQ hS hA 8 (by decide) (by decide) (by decide) (Nat.le_of_ble_eq_true rfl) (Nat.le_of_ble_eq_true rfl) dX12_init_118 (fun q15 H hQ hS => ?_)
  refine W.widen (k := 15) (n := 635) (by omega) (by omega) ?_
  refine va_putF (D := D) (ci := 12) (v := .ref q15) (ty := .array .int) (C := RX12) (T := TX12) (N := 36) hx hb hts (am_uin (ci := 12) rfl) tyX12 tyX12_ok nmX12 hown hK hQ.1 hQ.2 hS 15 rfl rfl 22 (by decide) (hts _ (am_ig (i := 975) (by decide +kernel) rfl)) (fun _ h9 => h9) rfl hin rfl (by decide +kernel) rfl rfl (Nat.le_of_ble_eq_true rfl) dX12_init_120 (fun H locs hP hD hS => ?_)
  have hQ : vQ D A ([(q15, .inl (cA 0, 8, .inl (fun _ => 0))), (q14, .inl (cA 0, 8, .inl (fun _ => 0))), (q13, .inl (cA 0, 8, .inl (fun _ => 0))), (q12, .inl (cA 0, 8, .inl (fun _ => 0))), (q11, .inl (cA 0, 40, .inl (fun _ => 0))), (q10, .inl (cA 0, 32, .inl (fun _ => 0))), (q9, .inl (cA 0, 8, .inl (fun _ => 0))), (q8, .inl (cA 0, 8, .inl (fun _ => 0))), (q7, .inl (cA 0, 36, .inl (fun _ => 0))), (q6, .inl (cA 0, 3, .inl (fun _ => 0))), (q5, .inl (cA 0, 168, .inl (fun _ => 0))), (q4, .inl (cA 0, 60, .inl (fun _ => 0))), (q3, .inl (cA 0, 240, .inl (fun _ => 0))), (q2, .inl (cA 0, 4, .inl (fun _ => 0))), (q1, .inl (cA 0, 4, .inl (fun _ => 0))), (h, .inr (12, [.ref q1, .ref q2, .ref q3, .ref q4, .int 0, .ref q5, .ref q6, .int 0, .int 0, .ref q7, .int 0, .ref q8, .ref q9, .ref q10, .int 0, .ref q11, .int 0, .ref q12, .int 0, .int 0, .ref q13, .ref q14, .ref q15, .null, .null, .null, .null, .null, .int 0, .int 0, .int 0, .null, .int 0, .null, .null, .int 0]))]) H := ⟨hP, hD⟩
  refine lv_aload_n hx hb dX12_init_123 rfl (lv_at hl 0 rfl) ?_
  refine lv_bipush (v := 8) hx hb dX12_init_124 (by decide) ?_
  refine vQ_newi hx hb (hts _ kw_arr) hK hQ hS hA 8 (by decide) (by decide) (by decide) (Nat.le_of_ble_eq_true rfl) (Nat.le_of_ble_eq_true rfl) dX12_init_126 (fun q16 H hQ hS => ?_)
  refine W.widen (k := 16) (n := 643) (by omega) (by omega) ?_
  refine va_putF (D := D) (ci := 12) (v := .ref q16) (ty := .array .int) (C := RX12) (T := TX12) (N := 36) hx hb hts (am_uin (ci := 12) rfl) tyX12 tyX12_ok nmX12 hown hK hQ.1 hQ.2 hS 16 rfl rfl 23 (by decide) (hts _ (am_ig (i := 976) (by decide +kernel) rfl)) (fun _ h9 => h9) rfl hin rfl (by decide +kernel) rfl rfl (Nat.le_of_ble_eq_true rfl) dX12_init_128 (fun H locs hP hD hS => ?_)
  have hQ : vQ D A ([(q16, .inl (cA 0, 8, .inl (fun _ => 0))), (q15, .inl (cA 0, 8, .inl (fun _ => 0))), (q14, .inl (cA 0, 8, .inl (fun _ => 0))), (q13, .inl (cA 0, 8, .inl (fun _ => 0))), (q12, .inl (cA 0, 8, .inl (fun _ => 0))), (q11, .inl (cA 0, 40, .inl (fun _ => 0))), (q10, .inl (cA 0, 32, .inl (fun _ => 0))), (q9, .inl (cA 0, 8, .inl (fun _ => 0))), (q8, .inl (cA 0, 8, .inl (fun _ => 0))), (q7, .inl (cA 0, 36, .inl (fun _ => 0))), (q6, .inl (cA 0, 3, .inl (fun _ => 0))), (q5, .inl (cA 0, 168, .inl (fun _ => 0))), (q4, .inl (cA 0, 60, .inl (fun _ => 0))), (q3, .inl (cA 0, 240, .inl (fun _ => 0))), (q2, .inl (cA 0, 4, .inl (fun _ => 0))), (q1, .inl (cA 0, 4, .inl (fun _ => 0))), (h, .inr (12, [.ref q1, .ref q2, .ref q3, .ref q4, .int 0, .ref q5, .ref q6, .int 0, .int 0, .ref q7, .int 0, .ref q8, .ref q9, .ref q10, .int 0, .ref q11, .int 0, .ref q12, .int 0, .int 0, .ref q13, .ref q14, .ref q15, .ref q16, .null, .null, .null, .null, .int 0, .int 0, .int 0, .null, .int 0, .null, .null, .int 0]))]) H := ⟨hP, hD⟩
  refine lv_aload_n hx hb dX12_init_131 rfl (lv_at hl 0 rfl) ?_
  refine lv_bipush (v := 16) hx hb dX12_init_132 (by decide) ?_
  refine vQ_newi hx hb (hts _ kw_arr) hK hQ hS hA 16 (by decide) (by decide) (by decide) (Nat.le_of_ble_eq_true rfl) (Nat.le_of_ble_eq_true rfl) dX12_init_134 (fun q17 H hQ hS => ?_)
  refine W.widen (k := 17) (n := 659) (by omega) (by omega) ?_
  refine va_putF (D := D) (ci := 12) (v := .ref q17) (ty := .array .int) (C := RX12) (T := TX12) (N := 36) hx hb hts (am_uin (ci := 12) rfl) tyX12 tyX12_ok nmX12 hown hK hQ.1 hQ.2 hS 17 rfl rfl 24 (by decide) (hts _ (am_ig (i := 977) (by decide +kernel) rfl)) (fun _ h9 => h9) rfl hin rfl (by decide +kernel) rfl rfl (Nat.le_of_ble_eq_true rfl) dX12_init_136 (fun H locs hP hD hS => ?_)
  have hQ : vQ D A ([(q17, .inl (cA 0, 16, .inl (fun _ => 0))), (q16, .inl (cA 0, 8, .inl (fun _ => 0))), (q15, .inl (cA 0, 8, .inl (fun _ => 0))), (q14, .inl (cA 0, 8, .inl (fun _ => 0))), (q13, .inl (cA 0, 8, .inl (fun _ => 0))), (q12, .inl (cA 0, 8, .inl (fun _ => 0))), (q11, .inl (cA 0, 40, .inl (fun _ => 0))), (q10, .inl (cA 0, 32, .inl (fun _ => 0))), (q9, .inl (cA 0, 8, .inl (fun _ => 0))), (q8, .inl (cA 0, 8, .inl (fun _ => 0))), (q7, .inl (cA 0, 36, .inl (fun _ => 0))), (q6, .inl (cA 0, 3, .inl (fun _ => 0))), (q5, .inl (cA 0, 168, .inl (fun _ => 0))), (q4, .inl (cA 0, 60, .inl (fun _ => 0))), (q3, .inl (cA 0, 240, .inl (fun _ => 0))), (q2, .inl (cA 0, 4, .inl (fun _ => 0))), (q1, .inl (cA 0, 4, .inl (fun _ => 0))), (h, .inr (12, [.ref q1, .ref q2, .ref q3, .ref q4, .int 0, .ref q5, .ref q6, .int 0, .int 0, .ref q7, .int 0, .ref q8, .ref q9, .ref q10, .int 0, .ref q11, .int 0, .ref q12, .int 0, .int 0, .ref q13, .ref q14, .ref q15, .ref q16, .ref q17, .null, .null, .null, .int 0, .int 0, .int 0, .null, .int 0, .null, .null, .int 0]))]) H := ⟨hP, hD⟩
  refine lv_aload_n hx hb dX12_init_139 rfl (lv_at hl 0 rfl) ?_
  refine lv_sipush (v := 960) hx hb dX12_init_140 (by decide) ?_
  refine vQ_newi hx hb (hts _ kw_arr) hK hQ hS hA 960 (by decide) (by decide) (by decide) (Nat.le_of_ble_eq_true rfl) (Nat.le_of_ble_eq_true rfl) dX12_init_143 (fun q18 H hQ hS => ?_)
  refine W.widen (k := 18) (n := 1619) (by omega) (by omega) ?_
  refine va_putF (D := D) (ci := 12) (v := .ref q18) (ty := .array .int) (C := RX12) (T := TX12) (N := 36) hx hb hts (am_uin (ci := 12) rfl) tyX12 tyX12_ok nmX12 hown hK hQ.1 hQ.2 hS 18 rfl rfl 25 (by decide) (hts _ (am_ig (i := 978) (by decide +kernel) rfl)) (fun _ h9 => h9) rfl hin rfl (by decide +kernel) rfl rfl (Nat.le_of_ble_eq_true rfl) dX12_init_145 (fun H locs hP hD hS => ?_)
  have hQ : vQ D A ([(q18, .inl (cA 0, 960, .inl (fun _ => 0))), (q17, .inl (cA 0, 16, .inl (fun _ => 0))), (q16, .inl (cA 0, 8, .inl (fun _ => 0))), (q15, .inl (cA 0, 8, .inl (fun _ => 0))), (q14, .inl (cA 0, 8, .inl (fun _ => 0))), (q13, .inl (cA 0, 8, .inl (fun _ => 0))), (q12, .inl (cA 0, 8, .inl (fun _ => 0))), (q11, .inl (cA 0, 40, .inl (fun _ => 0))), (q10, .inl (cA 0, 32, .inl (fun _ => 0))), (q9, .inl (cA 0, 8, .inl (fun _ => 0))), (q8, .inl (cA 0, 8, .inl (fun _ => 0))), (q7, .inl (cA 0, 36, .inl (fun _ => 0))), (q6, .inl (cA 0, 3, .inl (fun _ => 0))), (q5, .inl (cA 0, 168, .inl (fun _ => 0))), (q4, .inl (cA 0, 60, .inl (fun _ => 0))), (q3, .inl (cA 0, 240, .inl (fun _ => 0))), (q2, .inl (cA 0, 4, .inl (fun _ => 0))), (q1, .inl (cA 0, 4, .inl (fun _ => 0))), (h, .inr (12, [.ref q1, .ref q2, .ref q3, .ref q4, .int 0, .ref q5, .ref q6, .int 0, .int 0, .ref q7, .int 0, .ref q8, .ref q9, .ref q10, .int 0, .ref q11, .int 0, .ref q12, .int 0, .int 0, .ref q13, .ref q14, .ref q15, .ref q16, .ref q17, .ref q18, .null, .null, .int 0, .int 0, .int 0, .null, .int 0, .null, .null, .int 0]))]) H := ⟨hP, hD⟩
  refine lv_aload_n hx hb dX12_init_148 rfl (lv_at hl 0 rfl) ?_
  refine lv_bipush (v := 16) hx hb dX12_init_149 (by decide) ?_
  refine vQ_newi hx hb (hts _ kw_arr) hK hQ hS hA 16 (by decide) (by decide) (by decide) (Nat.le_of_ble_eq_true rfl) (Nat.le_of_ble_eq_true rfl) dX12_init_151 (fun q19 H hQ hS => ?_)
  refine W.widen (k := 19) (n := 1635) (by omega) (by omega) ?_
  refine va_putF (D := D) (ci := 12) (v := .ref q19) (ty := .array .int) (C := RX12) (T := TX12) (N := 36) hx hb hts (am_uin (ci := 12) rfl) tyX12 tyX12_ok nmX12 hown hK hQ.1 hQ.2 hS 19 rfl rfl 26 (by decide) (hts _ (am_ig (i := 979) (by decide +kernel) rfl)) (fun _ h9 => h9) rfl hin rfl (by decide +kernel) rfl rfl (Nat.le_of_ble_eq_true rfl) dX12_init_153 (fun H locs hP hD hS => ?_)
  have hQ : vQ D A ([(q19, .inl (cA 0, 16, .inl (fun _ => 0))), (q18, .inl (cA 0, 960, .inl (fun _ => 0))), (q17, .inl (cA 0, 16, .inl (fun _ => 0))), (q16, .inl (cA 0, 8, .inl (fun _ => 0))), (q15, .inl (cA 0, 8, .inl (fun _ => 0))), (q14, .inl (cA 0, 8, .inl (fun _ => 0))), (q13, .inl (cA 0, 8, .inl (fun _ => 0))), (q12, .inl (cA 0, 8, .inl (fun _ => 0))), (q11, .inl (cA 0, 40, .inl (fun _ => 0))), (q10, .inl (cA 0, 32, .inl (fun _ => 0))), (q9, .inl (cA 0, 8, .inl (fun _ => 0))), (q8, .inl (cA 0, 8, .inl (fun _ => 0))), (q7, .inl (cA 0, 36, .inl (fun _ => 0))), (q6, .inl (cA 0, 3, .inl (fun _ => 0))), (q5, .inl (cA 0, 168, .inl (fun _ => 0))), (q4, .inl (cA 0, 60, .inl (fun _ => 0))), (q3, .inl (cA 0, 240, .inl (fun _ => 0))), (q2, .inl (cA 0, 4, .inl (fun _ => 0))), (q1, .inl (cA 0, 4, .inl (fun _ => 0))), (h, .inr (12, [.ref q1, .ref q2, .ref q3, .ref q4, .int 0, .ref q5, .ref q6, .int 0, .int 0, .ref q7, .int 0, .ref q8, .ref q9, .ref q10, .int 0, .ref q11, .int 0, .ref q12, .int 0, .int 0, .ref q13, .ref q14, .ref q15, .ref q16, .ref q17, .ref q18, .ref q19, .null, .int 0, .int 0, .int 0, .null, .int 0, .null, .null, .int 0]))]) H := ⟨hP, hD⟩
  refine lv_aload_n hx hb dX12_init_156 rfl (lv_at hl 0 rfl) ?_
  refine lv_bipush (v := 8) hx hb dX12_init_157 (by decide) ?_
  refine vQ_newi hx hb (hts _ kw_arr) hK hQ hS hA 8 (by decide) (by decide) (by decide) (Nat.le_of_ble_eq_true rfl) (Nat.le_of_ble_eq_true rfl) dX12_init_159 (fun q20 H hQ hS => ?_)
  refine W.widen (k := 20) (n := 1643) (by omega) (by omega) ?_
  refine va_putF (D := D) (ci := 12) (v := .ref q20) (ty := .array .int) (C := RX12) (T := TX12) (N := 36) hx hb hts (am_uin (ci := 12) rfl) tyX12 tyX12_ok nmX12 hown hK hQ.1 hQ.2 hS 20 rfl rfl 27 (by decide) (hts _ (am_ig (i := 980) (by decide +kernel) rfl)) (fun _ h9 => h9) rfl hin rfl (by decide +kernel) rfl rfl (Nat.le_of_ble_eq_true rfl) dX12_init_161 (fun H locs hP hD hS => ?_)
  have hQ : vQ D A ([(q20, .inl (cA 0, 8, .inl (fun _ => 0))), (q19, .inl (cA 0, 16, .inl (fun _ => 0))), (q18, .inl (cA 0, 960, .inl (fun _ => 0))), (q17, .inl (cA 0, 16, .inl (fun _ => 0))), (q16, .inl (cA 0, 8, .inl (fun _ => 0))), (q15, .inl (cA 0, 8, .inl (fun _ => 0))), (q14, .inl (cA 0, 8, .inl (fun _ => 0))), (q13, .inl (cA 0, 8, .inl (fun _ => 0))), (q12, .inl (cA 0, 8, .inl (fun _ => 0))), (q11, .inl (cA 0, 40, .inl (fun _ => 0))), (q10, .inl (cA 0, 32, .inl (fun _ => 0))), (q9, .inl (cA 0, 8, .inl (fun _ => 0))), (q8, .inl (cA 0, 8, .inl (fun _ => 0))), (q7, .inl (cA 0, 36, .inl (fun _ => 0))), (q6, .inl (cA 0, 3, .inl (fun _ => 0))), (q5, .inl (cA 0, 168, .inl (fun _ => 0))), (q4, .inl (cA 0, 60, .inl (fun _ => 0))), (q3, .inl (cA 0, 240, .inl (fun _ => 0))), (q2, .inl (cA 0, 4, .inl (fun _ => 0))), (q1, .inl (cA 0, 4, .inl (fun _ => 0))), (h, .inr (12, [.ref q1, .ref q2, .ref q3, .ref q4, .int 0, .ref q5, .ref q6, .int 0, .int 0, .ref q7, .int 0, .ref q8, .ref q9, .ref q10, .int 0, .ref q11, .int 0, .ref q12, .int 0, .int 0, .ref q13, .ref q14, .ref q15, .ref q16, .ref q17, .ref q18, .ref q19, .ref q20, .int 0, .int 0, .int 0, .null, .int 0, .null, .null, .int 0]))]) H := ⟨hP, hD⟩
  refine lv_aload_n hx hb dX12_init_164 rfl (lv_at hl 0 rfl) ?_
  refine lv_sipush (v := 256) hx hb dX12_init_165 (by decide) ?_
  refine vQ_newi hx hb (hts _ kw_arr) hK hQ hS hA 256 (by decide) (by decide) (by decide) (Nat.le_of_ble_eq_true rfl) (Nat.le_of_ble_eq_true rfl) dX12_init_168 (fun q21 H hQ hS => ?_)
  refine W.widen (k := 21) (n := 1899) (by omega) (by omega) ?_
  refine va_putF (D := D) (ci := 12) (v := .ref q21) (ty := .array .int) (C := RX12) (T := TX12) (N := 36) hx hb hts (am_uin (ci := 12) rfl) tyX12 tyX12_ok nmX12 hown hK hQ.1 hQ.2 hS 21 rfl rfl 31 (by decide) (hts _ (am_ig (i := 984) (by decide +kernel) rfl)) (fun _ h9 => h9) rfl hin rfl (by decide +kernel) rfl rfl (Nat.le_of_ble_eq_true rfl) dX12_init_170 (fun H locs hP hD hS => ?_)
  have hQ : vQ D A ([(q21, .inl (cA 0, 256, .inl (fun _ => 0))), (q20, .inl (cA 0, 8, .inl (fun _ => 0))), (q19, .inl (cA 0, 16, .inl (fun _ => 0))), (q18, .inl (cA 0, 960, .inl (fun _ => 0))), (q17, .inl (cA 0, 16, .inl (fun _ => 0))), (q16, .inl (cA 0, 8, .inl (fun _ => 0))), (q15, .inl (cA 0, 8, .inl (fun _ => 0))), (q14, .inl (cA 0, 8, .inl (fun _ => 0))), (q13, .inl (cA 0, 8, .inl (fun _ => 0))), (q12, .inl (cA 0, 8, .inl (fun _ => 0))), (q11, .inl (cA 0, 40, .inl (fun _ => 0))), (q10, .inl (cA 0, 32, .inl (fun _ => 0))), (q9, .inl (cA 0, 8, .inl (fun _ => 0))), (q8, .inl (cA 0, 8, .inl (fun _ => 0))), (q7, .inl (cA 0, 36, .inl (fun _ => 0))), (q6, .inl (cA 0, 3, .inl (fun _ => 0))), (q5, .inl (cA 0, 168, .inl (fun _ => 0))), (q4, .inl (cA 0, 60, .inl (fun _ => 0))), (q3, .inl (cA 0, 240, .inl (fun _ => 0))), (q2, .inl (cA 0, 4, .inl (fun _ => 0))), (q1, .inl (cA 0, 4, .inl (fun _ => 0))), (h, .inr (12, [.ref q1, .ref q2, .ref q3, .ref q4, .int 0, .ref q5, .ref q6, .int 0, .int 0, .ref q7, .int 0, .ref q8, .ref q9, .ref q10, .int 0, .ref q11, .int 0, .ref q12, .int 0, .int 0, .ref q13, .ref q14, .ref q15, .ref q16, .ref q17, .ref q18, .ref q19, .ref q20, .int 0, .int 0, .int 0, .ref q21, .int 0, .null, .null, .int 0]))]) H := ⟨hP, hD⟩
  refine lv_aload_n hx hb dX12_init_173 rfl (lv_at hl 0 rfl) ?_
  refine lv_bipush (v := 24) hx hb dX12_init_174 (by decide) ?_
  refine vQ_newi hx hb (hts _ kw_arr) hK hQ hS hA 24 (by decide) (by decide) (by decide) (Nat.le_of_ble_eq_true rfl) (Nat.le_of_ble_eq_true rfl) dX12_init_176 (fun q22 H hQ hS => ?_)
  refine W.widen (k := 22) (n := 1923) (by omega) (by omega) ?_
  refine va_putF (D := D) (ci := 12) (v := .ref q22) (ty := .array .int) (C := RX12) (T := TX12) (N := 36) hx hb hts (am_uin (ci := 12) rfl) tyX12 tyX12_ok nmX12 hown hK hQ.1 hQ.2 hS 22 rfl rfl 33 (by decide) (hts _ (am_ig (i := 986) (by decide +kernel) rfl)) (fun _ h9 => h9) rfl hin rfl (by decide +kernel) rfl rfl (Nat.le_of_ble_eq_true rfl) dX12_init_178 (fun H locs hP hD hS => ?_)
  have hQ : vQ D A ([(q22, .inl (cA 0, 24, .inl (fun _ => 0))), (q21, .inl (cA 0, 256, .inl (fun _ => 0))), (q20, .inl (cA 0, 8, .inl (fun _ => 0))), (q19, .inl (cA 0, 16, .inl (fun _ => 0))), (q18, .inl (cA 0, 960, .inl (fun _ => 0))), (q17, .inl (cA 0, 16, .inl (fun _ => 0))), (q16, .inl (cA 0, 8, .inl (fun _ => 0))), (q15, .inl (cA 0, 8, .inl (fun _ => 0))), (q14, .inl (cA 0, 8, .inl (fun _ => 0))), (q13, .inl (cA 0, 8, .inl (fun _ => 0))), (q12, .inl (cA 0, 8, .inl (fun _ => 0))), (q11, .inl (cA 0, 40, .inl (fun _ => 0))), (q10, .inl (cA 0, 32, .inl (fun _ => 0))), (q9, .inl (cA 0, 8, .inl (fun _ => 0))), (q8, .inl (cA 0, 8, .inl (fun _ => 0))), (q7, .inl (cA 0, 36, .inl (fun _ => 0))), (q6, .inl (cA 0, 3, .inl (fun _ => 0))), (q5, .inl (cA 0, 168, .inl (fun _ => 0))), (q4, .inl (cA 0, 60, .inl (fun _ => 0))), (q3, .inl (cA 0, 240, .inl (fun _ => 0))), (q2, .inl (cA 0, 4, .inl (fun _ => 0))), (q1, .inl (cA 0, 4, .inl (fun _ => 0))), (h, .inr (12, [.ref q1, .ref q2, .ref q3, .ref q4, .int 0, .ref q5, .ref q6, .int 0, .int 0, .ref q7, .int 0, .ref q8, .ref q9, .ref q10, .int 0, .ref q11, .int 0, .ref q12, .int 0, .int 0, .ref q13, .ref q14, .ref q15, .ref q16, .ref q17, .ref q18, .ref q19, .ref q20, .int 0, .int 0, .int 0, .ref q21, .int 0, .ref q22, .null, .int 0]))]) H := ⟨hP, hD⟩
  refine lv_aload_n hx hb dX12_init_181 rfl (lv_at hl 0 rfl) ?_
  refine lv_sipush (v := 240) hx hb dX12_init_182 (by decide) ?_
  refine vQ_newi hx hb (hts _ kw_arr) hK hQ hS hA 240 (by decide) (by decide) (by decide) (Nat.le_of_ble_eq_true rfl) (Nat.le_of_ble_eq_true rfl) dX12_init_185 (fun q23 H hQ hS => ?_)
  refine W.widen (k := 23) (n := 2163) (by omega) (by omega) ?_
  refine va_putF (D := D) (ci := 12) (v := .ref q23) (ty := .array .int) (C := RX12) (T := TX12) (N := 36) hx hb hts (am_uin (ci := 12) rfl) tyX12 tyX12_ok nmX12 hown hK hQ.1 hQ.2 hS 23 rfl rfl 34 (by decide) (hts _ (am_ig (i := 987) (by decide +kernel) rfl)) (fun _ h9 => h9) rfl hin rfl (by decide +kernel) rfl rfl (Nat.le_of_ble_eq_true rfl) dX12_init_187 (fun H locs hP hD hS => ?_)
  have hQ : vQ D A ([(q23, .inl (cA 0, 240, .inl (fun _ => 0))), (q22, .inl (cA 0, 24, .inl (fun _ => 0))), (q21, .inl (cA 0, 256, .inl (fun _ => 0))), (q20, .inl (cA 0, 8, .inl (fun _ => 0))), (q19, .inl (cA 0, 16, .inl (fun _ => 0))), (q18, .inl (cA 0, 960, .inl (fun _ => 0))), (q17, .inl (cA 0, 16, .inl (fun _ => 0))), (q16, .inl (cA 0, 8, .inl (fun _ => 0))), (q15, .inl (cA 0, 8, .inl (fun _ => 0))), (q14, .inl (cA 0, 8, .inl (fun _ => 0))), (q13, .inl (cA 0, 8, .inl (fun _ => 0))), (q12, .inl (cA 0, 8, .inl (fun _ => 0))), (q11, .inl (cA 0, 40, .inl (fun _ => 0))), (q10, .inl (cA 0, 32, .inl (fun _ => 0))), (q9, .inl (cA 0, 8, .inl (fun _ => 0))), (q8, .inl (cA 0, 8, .inl (fun _ => 0))), (q7, .inl (cA 0, 36, .inl (fun _ => 0))), (q6, .inl (cA 0, 3, .inl (fun _ => 0))), (q5, .inl (cA 0, 168, .inl (fun _ => 0))), (q4, .inl (cA 0, 60, .inl (fun _ => 0))), (q3, .inl (cA 0, 240, .inl (fun _ => 0))), (q2, .inl (cA 0, 4, .inl (fun _ => 0))), (q1, .inl (cA 0, 4, .inl (fun _ => 0))), (h, .inr (12, [.ref q1, .ref q2, .ref q3, .ref q4, .int 0, .ref q5, .ref q6, .int 0, .int 0, .ref q7, .int 0, .ref q8, .ref q9, .ref q10, .int 0, .ref q11, .int 0, .ref q12, .int 0, .int 0, .ref q13, .ref q14, .ref q15, .ref q16, .ref q17, .ref q18, .ref q19, .ref q20, .int 0, .int 0, .int 0, .ref q21, .int 0, .ref q22, .ref q23, .int 0]))]) H := ⟨hP, hD⟩
  refine lv_iconst (v := 0) hx hb dX12_init_190 (by decide) ?_
  refine lv_istore_n (lv' := [(1, .int 0), (0, .ref h)]) hx hb dX12_init_191 rfl hl (by decide) rfl (fun ls hl => ?_)
  refine lv_iload_n hx hb dX12_init_192 rfl (lv_at hl 0 rfl) ?_
  refine lv_iconst (v := 4) hx hb dX12_init_193 (by decide) ?_
  refine lv_icmp_ge (tgt := 210) hx hb dX12_init_194 (by decide) (fun z => absurd z (by decide)) (fun _ => ?_)
  refine lv_aload_n hx hb dX12_init_197 rfl (lv_at hl 1 rfl) ?_
  refine va_get (ci := 12) (C := RX12) (T := TX12) (N := 36) hx hb hts (am_uin (ci := 12) rfl) hown hK hQ.1 23 rfl rfl 0 (by decide) (hts _ (am_ig (i := 953) (by decide +kernel) rfl)) (fun _ h9 => h9) rfl dX12_init_198 ?_
  refine lv_iload_n hx hb dX12_init_201 rfl (lv_at hl 0 rfl) ?_
  refine lv_iconst (v := (-1)) hx hb dX12_init_202 (by decide) ?_
  refine va_iast hx hb hK hQ.1 hQ.2 hS 22 0 rfl rfl (by unfold vp_in; decide) dX12_init_203 (fun H locs hP hD hS => ?_)
  have hQ : vQ D A ([(q23, .inl (cA 0, 240, .inl (fun _ => 0))), (q22, .inl (cA 0, 24, .inl (fun _ => 0))), (q21, .inl (cA 0, 256, .inl (fun _ => 0))), (q20, .inl (cA 0, 8, .inl (fun _ => 0))), (q19, .inl (cA 0, 16, .inl (fun _ => 0))), (q18, .inl (cA 0, 960, .inl (fun _ => 0))), (q17, .inl (cA 0, 16, .inl (fun _ => 0))), (q16, .inl (cA 0, 8, .inl (fun _ => 0))), (q15, .inl (cA 0, 8, .inl (fun _ => 0))), (q14, .inl (cA 0, 8, .inl (fun _ => 0))), (q13, .inl (cA 0, 8, .inl (fun _ => 0))), (q12, .inl (cA 0, 8, .inl (fun _ => 0))), (q11, .inl (cA 0, 40, .inl (fun _ => 0))), (q10, .inl (cA 0, 32, .inl (fun _ => 0))), (q9, .inl (cA 0, 8, .inl (fun _ => 0))), (q8, .inl (cA 0, 8, .inl (fun _ => 0))), (q7, .inl (cA 0, 36, .inl (fun _ => 0))), (q6, .inl (cA 0, 3, .inl (fun _ => 0))), (q5, .inl (cA 0, 168, .inl (fun _ => 0))), (q4, .inl (cA 0, 60, .inl (fun _ => 0))), (q3, .inl (cA 0, 240, .inl (fun _ => 0))), (q2, .inl (cA 0, 4, .inl (fun _ => 0))), (q1, .inl (cA 0, 4, .inl (upd (fun _ => 0) 0 ((-1))))), (h, .inr (12, [.ref q1, .ref q2, .ref q3, .ref q4, .int 0, .ref q5, .ref q6, .int 0, .int 0, .ref q7, .int 0, .ref q8, .ref q9, .ref q10, .int 0, .ref q11, .int 0, .ref q12, .int 0, .int 0, .ref q13, .ref q14, .ref q15, .ref q16, .ref q17, .ref q18, .ref q19, .ref q20, .int 0, .int 0, .int 0, .ref q21, .int 0, .ref q22, .ref q23, .int 0]))]) H := ⟨hP, hD⟩
  refine lv_iinc (v := 1) (lv' := [(1, .int 1), (0, .ref h)]) hx hb dX12_init_204 hl (k := 0) rfl (by decide) (by decide) rfl (fun ls hl => ?_)
  refine lv_goto (tgt := 192) hx hb dX12_init_207 (by decide) ?_
  refine lv_iload_n hx hb dX12_init_192 rfl (lv_at hl 0 rfl) ?_
  refine lv_iconst (v := 4) hx hb dX12_init_193 (by decide) ?_
  refine lv_icmp_ge (tgt := 210) hx hb dX12_init_194 (by decide) (fun z => absurd z (by decide)) (fun _ => ?_)
  refine lv_aload_n hx hb dX12_init_197 rfl (lv_at hl 1 rfl) ?_
  refine va_get (ci := 12) (C := RX12) (T := TX12) (N := 36) hx hb hts (am_uin (ci := 12) rfl) hown hK hQ.1 23 rfl rfl 0 (by decide) (hts _ (am_ig (i := 953) (by decide +kernel) rfl)) (fun _ h9 => h9) rfl dX12_init_198 ?_
  refine lv_iload_n hx hb dX12_init_201 rfl (lv_at hl 0 rfl) ?_
  refine lv_iconst (v := (-1)) hx hb dX12_init_202 (by decide) ?_
  refine va_iast hx hb hK hQ.1 hQ.2 hS 22 0 rfl rfl (by unfold vp_in; decide) dX12_init_203 (fun H locs hP hD hS => ?_)
  have hQ : vQ D A ([(q23, .inl (cA 0, 240, .inl (fun _ => 0))), (q22, .inl (cA 0, 24, .inl (fun _ => 0))), (q21, .inl (cA 0, 256, .inl (fun _ => 0))), (q20, .inl (cA 0, 8, .inl (fun _ => 0))), (q19, .inl (cA 0, 16, .inl (fun _ => 0))), (q18, .inl (cA 0, 960, .inl (fun _ => 0))), (q17, .inl (cA 0, 16, .inl (fun _ => 0))), (q16, .inl (cA 0, 8, .inl (fun _ => 0))), (q15, .inl (cA 0, 8, .inl (fun _ => 0))), (q14, .inl (cA 0, 8, .inl (fun _ => 0))), (q13, .inl (cA 0, 8, .inl (fun _ => 0))), (q12, .inl (cA 0, 8, .inl (fun _ => 0))), (q11, .inl (cA 0, 40, .inl (fun _ => 0))), (q10, .inl (cA 0, 32, .inl (fun _ => 0))), (q9, .inl (cA 0, 8, .inl (fun _ => 0))), (q8, .inl (cA 0, 8, .inl (fun _ => 0))), (q7, .inl (cA 0, 36, .inl (fun _ => 0))), (q6, .inl (cA 0, 3, .inl (fun _ => 0))), (q5, .inl (cA 0, 168, .inl (fun _ => 0))), (q4, .inl (cA 0, 60, .inl (fun _ => 0))), (q3, .inl (cA 0, 240, .inl (fun _ => 0))), (q2, .inl (cA 0, 4, .inl (fun _ => 0))), (q1, .inl (cA 0, 4, .inl (upd (upd (fun _ => 0) 0 ((-1))) 1 ((-1))))), (h, .inr (12, [.ref q1, .ref q2, .ref q3, .ref q4, .int 0, .ref q5, .ref q6, .int 0, .int 0, .ref q7, .int 0, .ref q8, .ref q9, .ref q10, .int 0, .ref q11, .int 0, .ref q12, .int 0, .int 0, .ref q13, .ref q14, .ref q15, .ref q16, .ref q17, .ref q18, .ref q19, .ref q20, .int 0, .int 0, .int 0, .ref q21, .int 0, .ref q22, .ref q23, .int 0]))]) H := ⟨hP, hD⟩
  refine lv_iinc (v := 2) (lv' := [(1, .int 2), (0, .ref h)]) hx hb dX12_init_204 hl (k := 0) rfl (by decide) (by decide) rfl (fun ls hl => ?_)
  refine lv_goto (tgt := 192) hx hb dX12_init_207 (by decide) ?_
  refine lv_iload_n hx hb dX12_init_192 rfl (lv_at hl 0 rfl) ?_
  refine lv_iconst (v := 4) hx hb dX12_init_193 (by decide) ?_
  refine lv_icmp_ge (tgt := 210) hx hb dX12_init_194 (by decide) (fun z => absurd z (by decide)) (fun _ => ?_)
  refine lv_aload_n hx hb dX12_init_197 rfl (lv_at hl 1 rfl) ?_
  refine va_get (ci := 12) (C := RX12) (T := TX12) (N := 36) hx hb hts (am_uin (ci := 12) rfl) hown hK hQ.1 23 rfl rfl 0 (by decide) (hts _ (am_ig (i := 953) (by decide +kernel) rfl)) (fun _ h9 => h9) rfl dX12_init_198 ?_
  refine lv_iload_n hx hb dX12_init_201 rfl (lv_at hl 0 rfl) ?_
  refine lv_iconst (v := (-1)) hx hb dX12_init_202 (by decide) ?_
  refine va_iast hx hb hK hQ.1 hQ.2 hS 22 0 rfl rfl (by unfold vp_in; decide) dX12_init_203 (fun H locs hP hD hS => ?_)
  have hQ : vQ D A ([(q23, .inl (cA 0, 240, .inl (fun _ => 0))), (q22, .inl (cA 0, 24, .inl (fun _ => 0))), (q21, .inl (cA 0, 256, .inl (fun _ => 0))), (q20, .inl (cA 0, 8, .inl (fun _ => 0))), (q19, .inl (cA 0, 16, .inl (fun _ => 0))), (q18, .inl (cA 0, 960, .inl (fun _ => 0))), (q17, .inl (cA 0, 16, .inl (fun _ => 0))), (q16, .inl (cA 0, 8, .inl (fun _ => 0))), (q15, .inl (cA 0, 8, .inl (fun _ => 0))), (q14, .inl (cA 0, 8, .inl (fun _ => 0))), (q13, .inl (cA 0, 8, .inl (fun _ => 0))), (q12, .inl (cA 0, 8, .inl (fun _ => 0))), (q11, .inl (cA 0, 40, .inl (fun _ => 0))), (q10, .inl (cA 0, 32, .inl (fun _ => 0))), (q9, .inl (cA 0, 8, .inl (fun _ => 0))), (q8, .inl (cA 0, 8, .inl (fun _ => 0))), (q7, .inl (cA 0, 36, .inl (fun _ => 0))), (q6, .inl (cA 0, 3, .inl (fun _ => 0))), (q5, .inl (cA 0, 168, .inl (fun _ => 0))), (q4, .inl (cA 0, 60, .inl (fun _ => 0))), (q3, .inl (cA 0, 240, .inl (fun _ => 0))), (q2, .inl (cA 0, 4, .inl (fun _ => 0))), (q1, .inl (cA 0, 4, .inl (upd (upd (upd (fun _ => 0) 0 ((-1))) 1 ((-1))) 2 ((-1))))), (h, .inr (12, [.ref q1, .ref q2, .ref q3, .ref q4, .int 0, .ref q5, .ref q6, .int 0, .int 0, .ref q7, .int 0, .ref q8, .ref q9, .ref q10, .int 0, .ref q11, .int 0, .ref q12, .int 0, .int 0, .ref q13, .ref q14, .ref q15, .ref q16, .ref q17, .ref q18, .ref q19, .ref q20, .int 0, .int 0, .int 0, .ref q21, .int 0, .ref q22, .ref q23, .int 0]))]) H := ⟨hP, hD⟩
  refine lv_iinc (v := 3) (lv' := [(1, .int 3), (0, .ref h)]) hx hb dX12_init_204 hl (k := 0) rfl (by decide) (by decide) rfl (fun ls hl => ?_)
  refine lv_goto (tgt := 192) hx hb dX12_init_207 (by decide) ?_
  refine lv_iload_n hx hb dX12_init_192 rfl (lv_at hl 0 rfl) ?_
  refine lv_iconst (v := 4) hx hb dX12_init_193 (by decide) ?_
  refine lv_icmp_ge (tgt := 210) hx hb dX12_init_194 (by decide) (fun z => absurd z (by decide)) (fun _ => ?_)
  refine lv_aload_n hx hb dX12_init_197 rfl (lv_at hl 1 rfl) ?_
  refine va_get (ci := 12) (C := RX12) (T := TX12) (N := 36) hx hb hts (am_uin (ci := 12) rfl) hown hK hQ.1 23 rfl rfl 0 (by decide) (hts _ (am_ig (i := 953) (by decide +kernel) rfl)) (fun _ h9 => h9) rfl dX12_init_198 ?_
  refine lv_iload_n hx hb dX12_init_201 rfl (lv_at hl 0 rfl) ?_
  refine lv_iconst (v := (-1)) hx hb dX12_init_202 (by decide) ?_
  refine va_iast hx hb hK hQ.1 hQ.2 hS 22 0 rfl rfl (by unfold vp_in; decide) dX12_init_203 (fun H locs hP hD hS => ?_)
  have hQ : vQ D A ([(q23, .inl (cA 0, 240, .inl (fun _ => 0))), (q22, .inl (cA 0, 24, .inl (fun _ => 0))), (q21, .inl (cA 0, 256, .inl (fun _ => 0))), (q20, .inl (cA 0, 8, .inl (fun _ => 0))), (q19, .inl (cA 0, 16, .inl (fun _ => 0))), (q18, .inl (cA 0, 960, .inl (fun _ => 0))), (q17, .inl (cA 0, 16, .inl (fun _ => 0))), (q16, .inl (cA 0, 8, .inl (fun _ => 0))), (q15, .inl (cA 0, 8, .inl (fun _ => 0))), (q14, .inl (cA 0, 8, .inl (fun _ => 0))), (q13, .inl (cA 0, 8, .inl (fun _ => 0))), (q12, .inl (cA 0, 8, .inl (fun _ => 0))), (q11, .inl (cA 0, 40, .inl (fun _ => 0))), (q10, .inl (cA 0, 32, .inl (fun _ => 0))), (q9, .inl (cA 0, 8, .inl (fun _ => 0))), (q8, .inl (cA 0, 8, .inl (fun _ => 0))), (q7, .inl (cA 0, 36, .inl (fun _ => 0))), (q6, .inl (cA 0, 3, .inl (fun _ => 0))), (q5, .inl (cA 0, 168, .inl (fun _ => 0))), (q4, .inl (cA 0, 60, .inl (fun _ => 0))), (q3, .inl (cA 0, 240, .inl (fun _ => 0))), (q2, .inl (cA 0, 4, .inl (fun _ => 0))), (q1, .inl (cA 0, 4, .inl (upd (upd (upd (upd (fun _ => 0) 0 ((-1))) 1 ((-1))) 2 ((-1))) 3 ((-1))))), (h, .inr (12, [.ref q1, .ref q2, .ref q3, .ref q4, .int 0, .ref q5, .ref q6, .int 0, .int 0, .ref q7, .int 0, .ref q8, .ref q9, .ref q10, .int 0, .ref q11, .int 0, .ref q12, .int 0, .int 0, .ref q13, .ref q14, .ref q15, .ref q16, .ref q17, .ref q18, .ref q19, .ref q20, .int 0, .int 0, .int 0, .ref q21, .int 0, .ref q22, .ref q23, .int 0]))]) H := ⟨hP, hD⟩
  refine lv_iinc (v := 4) (lv' := [(1, .int 4), (0, .ref h)]) hx hb dX12_init_204 hl (k := 0) rfl (by decide) (by decide) rfl (fun ls hl => ?_)
  refine lv_goto (tgt := 192) hx hb dX12_init_207 (by decide) ?_
  refine lv_iload_n hx hb dX12_init_192 rfl (lv_at hl 0 rfl) ?_
  refine lv_iconst (v := 4) hx hb dX12_init_193 (by decide) ?_
  refine lv_icmp_ge (tgt := 210) hx hb dX12_init_194 (by decide) (fun _ => ?_) (fun z => absurd (by decide) z)
  refine lv_aload_n hx hb dX12_init_210 rfl (lv_at hl 1 rfl) ?_
  refine lv_iconst (v := (-1)) hx hb dX12_init_211 (by decide) ?_
  refine va_put (D := D) (ci := 12) (v := .int (-1)) (ty := .int) (C := RX12) (T := TX12) (N := 36) hx hb hts (am_uin (ci := 12) rfl) tyX12 tyX12_ok nmX12 hown hK hQ.1 hQ.2 hS 23 rfl rfl 19 (by decide) (hts _ (am_ig (i := 972) (by decide +kernel) rfl)) (fun _ h9 => h9) rfl (by decide +kernel) rfl rfl (Nat.le_of_ble_eq_true rfl) dX12_init_212 (fun H locs hP hD hS => ?_)
  have hQ : vQ D A ([(q23, .inl (cA 0, 240, .inl (fun _ => 0))), (q22, .inl (cA 0, 24, .inl (fun _ => 0))), (q21, .inl (cA 0, 256, .inl (fun _ => 0))), (q20, .inl (cA 0, 8, .inl (fun _ => 0))), (q19, .inl (cA 0, 16, .inl (fun _ => 0))), (q18, .inl (cA 0, 960, .inl (fun _ => 0))), (q17, .inl (cA 0, 16, .inl (fun _ => 0))), (q16, .inl (cA 0, 8, .inl (fun _ => 0))), (q15, .inl (cA 0, 8, .inl (fun _ => 0))), (q14, .inl (cA 0, 8, .inl (fun _ => 0))), (q13, .inl (cA 0, 8, .inl (fun _ => 0))), (q12, .inl (cA 0, 8, .inl (fun _ => 0))), (q11, .inl (cA 0, 40, .inl (fun _ => 0))), (q10, .inl (cA 0, 32, .inl (fun _ => 0))), (q9, .inl (cA 0, 8, .inl (fun _ => 0))), (q8, .inl (cA 0, 8, .inl (fun _ => 0))), (q7, .inl (cA 0, 36, .inl (fun _ => 0))), (q6, .inl (cA 0, 3, .inl (fun _ => 0))), (q5, .inl (cA 0, 168, .inl (fun _ => 0))), (q4, .inl (cA 0, 60, .inl (fun _ => 0))), (q3, .inl (cA 0, 240, .inl (fun _ => 0))), (q2, .inl (cA 0, 4, .inl (fun _ => 0))), (q1, .inl (cA 0, 4, .inl (upd (upd (upd (upd (fun _ => 0) 0 ((-1))) 1 ((-1))) 2 ((-1))) 3 ((-1))))), (h, .inr (12, [.ref q1, .ref q2, .ref q3, .ref q4, .int 0, .ref q5, .ref q6, .int 0, .int 0, .ref q7, .int 0, .ref q8, .ref q9, .ref q10, .int 0, .ref q11, .int 0, .ref q12, .int 0, .int (-1), .ref q13, .ref q14, .ref q15, .ref q16, .ref q17, .ref q18, .ref q19, .ref q20, .int 0, .int 0, .int 0, .ref q21, .int 0, .ref q22, .ref q23, .int 0]))]) H := ⟨hP, hD⟩
  obtain ⟨u, hu⟩ : ∃ u : Nat → Nat, u = fun k => ([h, q1, q2, q3, q4, q5, q6, q7, q8, q9, q10, q11, q12, q13, q14, q15, q16, q17, q18, q19, q20, q21, q22, q23] : List Nat).getD k 0 := ⟨_, rfl⟩
  have hQ : vQ D A [(q23, .inl (cA 0, 240, .inl (fun _ => 0))), (q22, .inl (cA 0, 24, .inl (fun _ => 0))), (q21, .inl (cA 0, 256, .inl (fun _ => 0))), (q20, .inl (cA 0, 8, .inl (fun _ => 0))), (q19, .inl (cA 0, 16, .inl (fun _ => 0))), (q18, .inl (cA 0, 960, .inl (fun _ => 0))), (q17, .inl (cA 0, 16, .inl (fun _ => 0))), (q16, .inl (cA 0, 8, .inl (fun _ => 0))), (q15, .inl (cA 0, 8, .inl (fun _ => 0))), (q14, .inl (cA 0, 8, .inl (fun _ => 0))), (q13, .inl (cA 0, 8, .inl (fun _ => 0))), (q12, .inl (cA 0, 8, .inl (fun _ => 0))), (q11, .inl (cA 0, 40, .inl (fun _ => 0))), (q10, .inl (cA 0, 32, .inl (fun _ => 0))), (q9, .inl (cA 0, 8, .inl (fun _ => 0))), (q8, .inl (cA 0, 8, .inl (fun _ => 0))), (q7, .inl (cA 0, 36, .inl (fun _ => 0))), (q6, .inl (cA 0, 3, .inl (fun _ => 0))), (q5, .inl (cA 0, 168, .inl (fun _ => 0))), (q4, .inl (cA 0, 60, .inl (fun _ => 0))), (q3, .inl (cA 0, 240, .inl (fun _ => 0))), (q2, .inl (cA 0, 4, .inl (fun _ => 0))), (q1, .inl (cA 0, 4, .inl (upd (upd (upd (upd (fun _ => 0) 0 ((-1))) 1 ((-1))) 2 ((-1))) 3 ((-1))))), (h, .inr (12, [.ref q1, .ref q2, .ref q3, .ref q4, .int 0, .ref q5, .ref q6, .int 0, .int 0, .ref q7, .int 0, .ref q8, .ref q9, .ref q10, .int 0, .ref q11, .int 0, .ref q12, .int 0, .int (-1), .ref q13, .ref q14, .ref q15, .ref q16, .ref q17, .ref q18, .ref q19, .ref q20, .int 0, .int 0, .int 0, .ref q21, .int 0, .ref q22, .ref q23, .int 0]))] H := hQ
  have hW := hQ.1.sub (ws' := am_w shM cA (kAd sa h u) w0M) [23, 22, 21, 20, 19, 18, 17, 16, 15, 14, 13, 12, 11, 10, 9, 8, 7, 6, 5, 4, 3, 2, 1, 0] (by rw [hu]; rfl)
  have hWD := hQ.2.sub (ws' := am_w shM cA (kAd sa h u) w0M) [23, 22, 21, 20, 19, 18, 17, 16, 15, 14, 13, 12, 11, 10, 9, 8, 7, 6, 5, 4, 3, 2, 1, 0] (by decide) (by rw [hu]; rfl)
  exact W.vret hx hb hr (fun t ht hW2 => ⟨⟨u, rfl, trivial, by rw [ht]; exact hW, hWD⟩, hS.F ht⟩) hS.2.2 dX12_init_215
