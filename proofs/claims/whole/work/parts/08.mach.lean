/-! a step of each instruction, in continuation form -/
/-- how long a row that nobody writes is -/
def am_sl (b : Nat) : Option Nat := match am_sb b with
  | some l => some l.length
  | none => match am_si b with
    | some l => some l.length
    | none => none
theorem am_sl_b {b : Nat} {l : List Int32} (h : am_sb b = some l) : am_sl b = some l.length := by unfold am_sl; rw [h]
theorem am_sl_s {b n : Nat} (h : am_sl b = some n) : (∃ l, am_sb b = some l ∧ n = l.length) ∨ ∃ l, am_si b = some l ∧ n = l.length := by
  unfold am_sl at h
  split at h
  · rename_i l hl
    cases h
    exact Or.inl ⟨l, hl, rfl⟩
  · split at h
    · rename_i l hl
      cases h
      exact Or.inr ⟨l, hl, rfl⟩
    · cases h
def am_i1 (st : List Value) (f : Int32 → List Value → Prop) : Prop := match st with
  | .int x :: r => f x r
  | _ => False
def am_i2 (st : List Value) (f : Int32 → Int32 → List Value → Prop) : Prop := match st with
  | .int y :: .int x :: r => f x y r
  | _ => False
def am_l1 (st : List Value) (f : Int64 → List Value → Prop) : Prop := match st with
  | .long x :: r => f x r
  | _ => False
def am_l2 (st : List Value) (f : Int64 → Int64 → List Value → Prop) : Prop := match st with
  | .long y :: .long x :: r => f x y r
  | _ => False
def am_li (st : List Value) (f : Int64 → Int32 → List Value → Prop) : Prop := match st with
  | .int y :: .long x :: r => f x y r
  | _ => False
def am_r1 (st : List Value) (f : Nat → List Value → Prop) : Prop := match st with
  | .ref b :: r => f b r
  | _ => False
def am_ri (st : List Value) (f : Nat → Int32 → List Value → Prop) : Prop := match st with
  | .int i :: .ref b :: r => f b i r
  | _ => False
def am_rii (st : List Value) (f : Nat → Int32 → Int32 → List Value → Prop) : Prop := match st with
  | .int x :: .int i :: .ref b :: r => f b i x r
  | _ => False
def am_rl1 (st : List Value) (f : Nat → Int64 → List Value → Prop) : Prop := match st with
  | .long x :: .ref b :: r => f b x r
  | _ => False
def am_v1 (st : List Value) (f : Value → List Value → Prop) : Prop := match st with
  | .int x :: r => f (.int x) r
  | .ref x :: r => f (.ref x) r
  | _ => False
def am_v2 (st : List Value) (f : Value → Value → List Value → Prop) : Prop := match st with
  | .int y :: .int x :: r => f (.int x) (.int y) r
  | .int y :: .ref x :: r => f (.ref x) (.int y) r
  | _ => False
def am_cp (st : List Value) (f : Nat → Int32 → Nat → Int32 → Int32 → List Value → Prop) : Prop := match st with
  | .int n :: .int dp :: .ref a :: .int sp :: .ref a0 :: r => f a0 sp a dp n r
  | _ => False
def am_li1 (lv : am_L) (i : Nat) (f : Int32 → Prop) : Prop := match am_lk lv i with
  | some (.int x) => f x
  | _ => False
def am_ll1 (lv : am_L) (i : Nat) (f : Int64 → Prop) : Prop := match am_lk lv i with
  | some (.long x) => f x
  | _ => False
def am_lr1 (lv : am_L) (i : Nat) (f : Nat → Prop) : Prop := match am_lk lv i with
  | some (.ref x) => f x
  | _ => False
/-- n arguments off the stack, in their order -/
def am_args : Nat → List Value → List Value → Option (List Value × List Value)
  | 0, acc, st => some (acc, st)
  | n + 1, acc, v :: st => am_args n (v :: acc) st
  | _ + 1, _, [] => none
def am_cat : List Value → Nat
  | [] => 0
  | v :: l => v.category + am_cat l
def am_oob (i : Int32) (n : Nat) : Prop := i < 0 ∨ n ≤ i.toNatClampNeg
def am_test (b : Bool) (P : Prop) : Prop := match b with
  | true => P
  | false => False
def am_opt {α : Type} (x : Option α) (f : α → Prop) : Prop := match x with
  | some a => f a
  | none => False
def am_sw (x : Int32) (pc : Nat) (dflt lo hi : Int) (offs : Array Int) (t : Nat) : Prop :=
  ((x.toInt < lo ∨ hi < x.toInt) ∧ (pc : Int) + dflt = (t : Int)) ∨ (¬ x.toInt < lo ∧ ¬ hi < x.toInt ∧ ∃ off : Int, offs[(x.toInt - lo).toNat]? = some off ∧ (pc : Int) + off = (t : Int))
/-- an answer that is no reference -/
def am_nr : Option Value → Bool
  | none => true
  | some (.int _) => true
  | some (.long _) => true
  | _ => false
def am_getf (sh : List am_S) (ci j b : Nat) (w : am_M) (f : Value → Prop) : Prop := match Nat.beq ci 13 with
  | true => am_opt (am_sv b) fun v => match j with
    | 0 => f (.ref (1000 + v))
    | _ => f (.int 0)
  | false => am_test (am_isb sh b ci) (match am_kd ci j with
    | 0 => f (.int (w.1 b j))
    | 1 => am_opt (am_tg sh b j) fun t => f (.ref t)
    | 2 => f (.long (w.2 b))
    | _ => False)
def am_step (sh : List am_S) (mid : Nat) (call : Nat → List Value → am_M → am_O → Prop) (post : am_O → Prop) (k : Nat → am_L → List Value → am_M → Prop) (pc : Nat) (e : Instr × Int32 × Nat × Nat) (lv : am_L) (st : List Value) (w : am_M) : Prop :=
  match e with
  | (i, v, nx, tg) => match i with
    | .iconst _ => k nx lv (.int v :: st) w
    | .bipush _ => k nx lv (.int v :: st) w
    | .sipush _ => k nx lv (.int v :: st) w
    | .ldc x => match am_fnd (am_LSL.getD (am_o mid) []) x with
      | some j => k nx lv (.ref (1000 + j) :: st) w
      | none => am_opt (am_fnd (am_LIL.getD (am_o mid) []) x) fun c => k nx lv (.int c :: st) w
    | .ldc_w x => am_opt (am_fnd (am_LIL.getD (am_o mid) []) x) fun c => k nx lv (.int c :: st) w
    | .ldc2_w x => am_opt (am_fnd (am_LLL.getD (am_o mid) []) x) fun c => k nx lv (.long c :: st) w
    | .lconst n => match n.val with
      | 0 => k nx lv (.long 0 :: st) w
      | _ => k nx lv (.long 1 :: st) w
    | .iload_n i => am_li1 lv i.val fun x => k nx lv (.int x :: st) w
    | .iload i => am_li1 lv i fun x => k nx lv (.int x :: st) w
    | .lload_n i => am_ll1 lv i.val fun x => k nx lv (.long x :: st) w
    | .lload i => am_ll1 lv i fun x => k nx lv (.long x :: st) w
    | .aload_n i => am_lr1 lv i.val fun x => k nx lv (.ref x :: st) w
    | .aload i => am_lr1 lv i fun x => k nx lv (.ref x :: st) w
    | .istore_n i => am_i1 st fun x r => k nx (am_ins i.val (.int x) (am_cut1 i.val lv)) r w
    | .istore i => am_i1 st fun x r => k nx (am_ins i (.int x) (am_cut1 i lv)) r w
    | .lstore_n i => am_l1 st fun x r => k nx (am_ins i.val (.long x) (am_cut2 i.val lv)) r w
    | .lstore i => am_l1 st fun x r => k nx (am_ins i (.long x) (am_cut2 i lv)) r w
    | .astore_n i => am_r1 st fun x r => k nx (am_ins i.val (.ref x) (am_cut1 i.val lv)) r w
    | .astore i => am_r1 st fun x r => k nx (am_ins i (.ref x) (am_cut1 i lv)) r w
    | .iinc i _ => am_li1 lv i fun x => k nx (am_ins i (.int (x + v)) (am_cut1 i lv)) st w
    | .iadd => am_i2 st fun x y r => k nx lv (.int (x + y) :: r) w
    | .isub => am_i2 st fun x y r => k nx lv (.int (x - y) :: r) w
    | .imul => am_i2 st fun x y r => k nx lv (.int (x * y) :: r) w
    | .iand => am_i2 st fun x y r => k nx lv (.int (x &&& y) :: r) w
    | .ior => am_i2 st fun x y r => k nx lv (.int (x ||| y) :: r) w
    | .ixor => am_i2 st fun x y r => k nx lv (.int (x ^^^ y) :: r) w
    | .ishl => am_i2 st fun x y r => k nx lv (.int (x <<< (y &&& 31)) :: r) w
    | .ishr => am_i2 st fun x y r => k nx lv (.int (x >>> (y &&& 31)) :: r) w
    | .iushr => am_i2 st fun x y r => k nx lv (.int (x.toUInt32 >>> (y.toUInt32 &&& Int32.toUInt32 31)).toInt32 :: r) w
    | .idiv => am_i2 st fun x y r => if y = 0 then False else k nx lv (.int (x / y) :: r) w
    | .irem => am_i2 st fun x y r => if y = 0 then False else k nx lv (.int (x - x / y * y) :: r) w
    | .i2l => am_i1 st fun x r => k nx lv (.long x.toInt64 :: r) w
    | .i2b => am_i1 st fun x r => k nx lv (.int x.toInt8.toInt32 :: r) w
    | .i2s => am_i1 st fun x r => k nx lv (.int x.toInt16.toInt32 :: r) w
    | .i2c => am_i1 st fun x r => k nx lv (.int (x.toUInt32 % 65536).toInt32 :: r) w
    | .ladd => am_l2 st fun x y r => k nx lv (.long (x + y) :: r) w
    | .lsub => am_l2 st fun x y r => k nx lv (.long (x - y) :: r) w
    | .lmul => am_l2 st fun x y r => k nx lv (.long (x * y) :: r) w
    | .land => am_l2 st fun x y r => k nx lv (.long (x &&& y) :: r) w
    | .ldiv => am_l2 st fun x y r => if y = 0 then False else k nx lv (.long (x / y) :: r) w
    | .lrem => am_l2 st fun x y r => if y = 0 then False else k nx lv (.long (x - x / y * y) :: r) w
    | .lshl => am_li st fun x y r => k nx lv (.long (x <<< (y.toInt64 &&& 63)) :: r) w
    | .lshr => am_li st fun x y r => k nx lv (.long (x >>> (y.toInt64 &&& 63)) :: r) w
    | .lcmp => am_l2 st fun x y r => k nx lv (.int (lg_cmp x y) :: r) w
    | .dup => am_v1 st fun v r => k nx lv (v :: v :: r) w
    | .pop => am_v1 st fun _ r => k nx lv r w
    | .dup2 => am_v2 st fun a b r => k nx lv (b :: a :: b :: a :: r) w
    | .goto _ => k tg lv st w
    | .ifCond c _ => am_i1 st fun x r => match c with
      | .eq => if x = 0 then k tg lv r w else k nx lv r w
      | .ne => if x = 0 then k nx lv r w else k tg lv r w
      | .lt => if x < 0 then k tg lv r w else k nx lv r w
      | .ge => if 0 ≤ x then k tg lv r w else k nx lv r w
      | .gt => if 0 < x then k tg lv r w else k nx lv r w
      | .le => if x ≤ 0 then k tg lv r w else k nx lv r w
    | .if_icmp c _ => am_i2 st fun x y r => match c with
      | .eq => if x = y then k tg lv r w else k nx lv r w
      | .ne => if x = y then k nx lv r w else k tg lv r w
      | .lt => if x < y then k tg lv r w else k nx lv r w
      | .ge => if y ≤ x then k tg lv r w else k nx lv r w
      | .gt => if y < x then k tg lv r w else k nx lv r w
      | .le => if x ≤ y then k tg lv r w else k nx lv r w
    | .tableswitch dflt lo hi offs => am_i1 st fun x r => ∃ t : Nat, am_sw x pc dflt lo hi offs t ∧ k t lv r w
    | .getfield x => am_opt (am_fnd (am_FTL.getD (am_o mid) []) x) fun (ci, j, _) => am_r1 st fun b r => am_getf sh ci j b w fun c => k nx lv (c :: r) w
    | .putfield x => am_opt (am_fnd (am_FTL.getD (am_o mid) []) x) fun (ci, j, _) => match am_kd ci j with
      | 0 => am_v2 st fun a c r => match a, c with
        | .ref b, .int c => am_test (am_isb sh b ci && am_wr ci j) (match am_bl ci j with
          | false => k nx lv r (am_pi w b j c)
          | true => (c = 0 ∨ c = 1) ∧ k nx lv r (am_pi w b j c))
        | _, _ => False
      | 2 => am_rl1 st fun b c r => am_test (am_isb sh b ci && am_wr ci j) (k nx lv r (am_pl w b c))
      | _ => False
    | .getstatic x => am_opt (am_fnd (am_GSL.getD (am_o mid) []) x) fun (j, _) => match Nat.ble 4 j with
      | true => k nx lv (.int 1 :: st) w
      | false => k nx lv (.ref (1000 + j) :: st) w
    | .iaload => am_ri st fun b i r => match am_ln sh b with
      | some n => if i < 0 ∨ n ≤ i.toNatClampNeg then False else k nx lv (.int (w.1 b i.toNatClampNeg) :: r) w
      | none => am_opt (am_si b) fun l => if i < 0 ∨ l.length ≤ i.toNatClampNeg then False else k nx lv (.int (l.getD i.toNatClampNeg 0) :: r) w
    | .baload => am_ri st fun b i r => am_opt (am_sb b) fun l => if i < 0 ∨ l.length ≤ i.toNatClampNeg then False else k nx lv (.int (l.getD i.toNatClampNeg 0) :: r) w
    | .iastore => am_rii st fun b i x r => am_opt (am_ln sh b) fun n => if i < 0 ∨ n ≤ i.toNatClampNeg then False else k nx lv r (am_pi w b i.toNatClampNeg x)
    | .aaload => am_ri st fun b i r => am_opt (am_rl sh b) fun (_, l) => if i < 0 then False else am_opt (l[i.toNatClampNeg]?) fun t => k nx lv (.ref t :: r) w
    | .arraylength => am_r1 st fun b r => am_opt (am_sl b) fun n => k nx lv (.int (Int32.ofNat n) :: r) w
    | .invokevirtual x => am_opt (am_fnd (am_MTL.getD (am_o mid) []) x) fun (y, n, z, _) => am_opt (am_args n [] st) fun (as, r0) => am_r1 r0 fun b r =>
        am_test (Nat.beq z 0 && (Nat.ble (am_cat r) 8 && (match Nat.beq (am_o y) 13 with | true => am_isstr b | false => am_isb sh b (am_o y)))) (∃ o : am_O, call y (.ref b :: as) w o ∧ am_test (am_nr o.1) (k nx lv (o.1.toList ++ r) o.2))
    | .invokestatic x => am_opt (am_fnd (am_MTL.getD (am_o mid) []) x) fun (y, n, z, _) => match Nat.ble 1000 y with
      | false => am_opt (am_args n [] st) fun (as, r) => am_test (Nat.beq z 1 && Nat.ble (am_cat r) 8) (∃ o : am_O, call y as w o ∧ am_test (am_nr o.1) (k nx lv (o.1.toList ++ r) o.2))
      | true => match y with
      | 1000 => am_i2 st fun x y r => am_test (Nat.ble (am_cat r) 8) (k nx lv (.int (if y < x then y else x) :: r) w)
        | 1001 => am_i2 st fun x y r => am_test (Nat.ble (am_cat r) 8) (k nx lv (.int (if x < y then y else x) :: r) w)
        | 1002 => am_cp st fun a0 sp a dp n r => am_test (Nat.ble (am_cat r) 8) (am_opt (am_ln sh a0) fun n0 => am_opt (am_ln sh a) fun n1 => ¬ sp < 0 ∧ ¬ dp < 0 ∧ ¬ n < 0 ∧ sp.toNatClampNeg + n.toNatClampNeg ≤ n0 ∧ dp.toNatClampNeg + n.toNatClampNeg ≤ n1 ∧ k nx lv r (am_pa w a (va_cpy (w.1 a0) (w.1 a) sp.toNatClampNeg dp.toNatClampNeg n.toNatClampNeg)))
        | _ => False
    | .ireturn => am_i1 st fun x r => match r with
      | [] => am_opt (am_rt mid) fun t => narrow t (.int x) = .int x ∧ post (some (.int x), w)
      | _ => False
    | .lreturn => am_l1 st fun x r => match r with
      | [] => am_rt mid = some .long ∧ post (some (.long x), w)
      | _ => False
    | .return_ => match st with
      | [] => am_rt mid = none ∧ post (none, w)
      | _ => False
    | _ => False
