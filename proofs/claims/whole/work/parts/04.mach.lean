/-! THE ABSTRACT MACHINE: memory as numbers by cell and slot, references as cell numbers; a step of each instruction in continuation form -/
abbrev am_M : Type := (Nat → Nat → Int32) × (Nat → Int64)
/-- a cell's kind: a row of ints, a row of references, an object (class number; field: none an int, some none a long, some (some t) a reference to cell t) -/
abbrev am_S : Type := (Nat ⊕ (Nat × List Nat)) ⊕ (Nat × List (Option (Option Nat)))
abbrev am_L : Type := List (Nat × Value)
abbrev am_O : Type := Option Value × am_M
/-- cells that nobody writes: rows of ints, rows of bytes, Strings -/
def am_ST : List ((List Int32 ⊕ List Int32) ⊕ Nat) := [
  .inl (.inl [3, 9, 7, 7, 5]), .inl (.inl [0, 3, 1, 2]), .inl (.inl [1, 3, 9, 27, 81, 243]), .inl (.inl [0, 5, 12, 29]),
  .inr 8, .inr 9, .inr 10, .inr 11,
  .inl (.inr [46, 35, 99, 114]), .inl (.inr [112, 100, 116]), .inl (.inr [110, 101, 115, 119]), .inl (.inr [110, 101, 115, 119])]
def am_fnd {α : Type} : List (Nat × α) → Nat → Option α
  | [], _ => none
  | a :: l, n => match Nat.beq a.1 n with
    | true => some a.2
    | false => am_fnd l n
def am_y (mid : Nat) : MethodName := match am_MI[mid]? with
  | some q => q.1
  | none => ⟨"", "", ""⟩
def am_b (mid : Nat) : ByteArray := match am_MI[mid]? with
  | some q => q.2.1
  | none => ByteArray.empty
def am_ml (mid : Nat) : Nat := match am_MI[mid]? with
  | some q => q.2.2.1
  | none => 0
def am_rt (mid : Nat) : Option FieldType := match am_MI[mid]? with
  | some q => q.2.2.2.1
  | none => none
def am_o (mid : Nat) : Nat := match am_MI[mid]? with
  | some q => q.2.2.2.2
  | none => 99
def am_at (mid pc : Nat) : Option (Instr × Int32 × Nat × Nat) := match am_CD[mid]? with
  | some l => am_fnd l pc
  | none => none
def am_mem (n : Nat) : List Nat → Bool
  | [] => false
  | a :: l => match Nat.beq a n with
    | true => true
    | false => am_mem n l
def am_keep (ks : List Nat) : am_L → am_L
  | [] => []
  | q :: l => match am_mem q.1 ks with
    | true => q :: am_keep ks l
    | false => am_keep ks l
def am_kill (mid pc : Nat) (lv : am_L) : am_L := match am_LV[mid]? with
  | some l => match am_fnd l pc with
    | some ks => am_keep ks lv
    | none => lv
  | none => lv
def am_lk : am_L → Nat → Option Value
  | [], _ => none
  | q :: l, n => match Nat.beq q.1 n with
    | true => some q.2
    | false => am_lk l n
def am_ins (i : Nat) (v : Value) : am_L → am_L
  | [] => [(i, v)]
  | q :: l => match Nat.ble i q.1 with
    | true => (i, v) :: q :: l
    | false => q :: am_ins i v l
/-- a local of one slot is stored -/
def am_cut1 (i : Nat) : am_L → am_L
  | [] => []
  | q :: l => match Nat.beq q.1 i || (Nat.beq (q.1 + 1) i && Nat.beq q.2.category 2) with
    | true => am_cut1 i l
    | false => q :: am_cut1 i l
def am_cut2 (i : Nat) : am_L → am_L
  | [] => []
  | q :: l => match Nat.beq q.1 i || (Nat.beq q.1 (i + 1) || (Nat.beq (q.1 + 1) i && Nat.beq q.2.category 2)) with
    | true => am_cut2 i l
    | false => q :: am_cut2 i l
def am_isb (sh : List am_S) (b ci : Nat) : Bool := match sh[b]? with
  | some (.inr q) => Nat.beq q.1 ci
  | _ => false
def am_isstr (b : Nat) : Bool := match Nat.ble 1000 b with
  | true => match am_ST[b - 1000]? with
    | some (.inr _) => true
    | _ => false
  | false => false
def am_tg (sh : List am_S) (b j : Nat) : Nat := match sh[b]? with
  | some (.inr q) => match q.2[j]? with
    | some (some (some t)) => t
    | _ => 0
  | _ => 0
def am_ln (sh : List am_S) (b : Nat) : Option Nat := match sh[b]? with
  | some (.inl (.inl n)) => some n
  | _ => none
def am_rl (sh : List am_S) (b : Nat) : Option (Nat × List Nat) := match sh[b]? with
  | some (.inl (.inr q)) => some q
  | _ => none
def am_si (b : Nat) : Option (List Int32) := match Nat.ble 1000 b with
  | true => match am_ST[b - 1000]? with
    | some (.inl (.inl l)) => some l
    | _ => none
  | false => none
def am_sb (b : Nat) : Option (List Int32) := match Nat.ble 1000 b with
  | true => match am_ST[b - 1000]? with
    | some (.inl (.inr l)) => some l
    | _ => none
  | false => none
def am_sv (b : Nat) : Option Nat := match Nat.ble 1000 b with
  | true => match am_ST[b - 1000]? with
    | some (.inr v) => some v
    | _ => none
  | false => none
def am_kd (ci j : Nat) : Nat := match am_KD[ci]? with
  | some l => match l[j]? with
    | some n => n
    | none => 9
  | none => 9
/-- a field that a method other than a constructor may write -/
def am_wr (ci j : Nat) : Bool := match vwCl[ci]? with
  | some q => !(q.2.1 j).2.2.2
  | none => false
def am_bl (ci j : Nat) : Bool := Nat.beq ci 11 && Nat.beq j 17
def am_pi (w : am_M) (k j : Nat) (x : Int32) : am_M := (fun a b => if a = k ∧ b = j then x else w.1 a b, w.2)
def am_pl (w : am_M) (k : Nat) (x : Int64) : am_M := (w.1, fun a => if a = k then x else w.2 a)
def am_pa (w : am_M) (k : Nat) (f : Nat → Int32) : am_M := (fun a b => if a = k then f b else w.1 a b, w.2)
def am_i1 (st : List Value) (f : Int32 → List Value → Prop) : Prop := match st with
  | .int x :: r => f x r
  | _ => False
def am_i2 (st : List Value) (f : Int32 → Int32 → List Value → Prop) : Prop := match st with
  | .int y :: .int x :: r => f x y r
  | _ => False
def am_l1 (st : List Value) (f : Int64 → List Value → Prop) : Prop := match st with
  | .long x :: r => f x r
  | _ => False
def am_l2 (st : List Value) (f : Int64 → Int64 → List Value → Prop) : Prop := match st with
  | .long y :: .long x :: r => f x y r
  | _ => False
def am_li (st : List Value) (f : Int64 → Int32 → List Value → Prop) : Prop := match st with
  | .int y :: .long x :: r => f x y r
  | _ => False
def am_r1 (st : List Value) (f : Nat → List Value → Prop) : Prop := match st with
  | .ref b :: r => f b r
  | _ => False
def am_ri (st : List Value) (f : Nat → Int32 → List Value → Prop) : Prop := match st with
  | .int i :: .ref b :: r => f b i r
  | _ => False
def am_rii (st : List Value) (f : Nat → Int32 → Int32 → List Value → Prop) : Prop := match st with
  | .int x :: .int i :: .ref b :: r => f b i x r
  | _ => False
def am_rl1 (st : List Value) (f : Nat → Int64 → List Value → Prop) : Prop := match st with
  | .long x :: .ref b :: r => f b x r
  | _ => False
def am_v1 (st : List Value) (f : Value → List Value → Prop) : Prop := match st with
  | .int x :: r => f (.int x) r
  | .ref x :: r => f (.ref x) r
  | _ => False
def am_v2 (st : List Value) (f : Value → Value → List Value → Prop) : Prop := match st with
  | .int y :: .int x :: r => f (.int x) (.int y) r
  | .int y :: .ref x :: r => f (.ref x) (.int y) r
  | _ => False
def am_cp (st : List Value) (f : Nat → Int32 → Nat → Int32 → Int32 → List Value → Prop) : Prop := match st with
  | .int n :: .int dp :: .ref a :: .int sp :: .ref a0 :: r => f a0 sp a dp n r
  | _ => False
def am_li1 (lv : am_L) (i : Nat) (f : Int32 → Prop) : Prop := match am_lk lv i with
  | some (.int x) => f x
  | _ => False
def am_ll1 (lv : am_L) (i : Nat) (f : Int64 → Prop) : Prop := match am_lk lv i with
  | some (.long x) => f x
  | _ => False
def am_lr1 (lv : am_L) (i : Nat) (f : Nat → Prop) : Prop := match am_lk lv i with
  | some (.ref x) => f x
  | _ => False
/-- n arguments off the stack, in their order -/
def am_args : Nat → List Value → List Value → Option (List Value × List Value)
  | 0, acc, st => some (acc, st)
  | n + 1, acc, v :: st => am_args n (v :: acc) st
  | _ + 1, _, [] => none
def am_cat : List Value → Nat
  | [] => 0
  | v :: l => v.category + am_cat l
def am_oob (i : Int32) (n : Nat) : Prop := i < 0 ∨ n ≤ i.toNatClampNeg
def am_test (b : Bool) (P : Prop) : Prop := match b with
  | true => P
  | false => False
def am_opt {α : Type} (x : Option α) (f : α → Prop) : Prop := match x with
  | some a => f a
  | none => False
def am_sw (x : Int32) (pc : Nat) (dflt lo hi : Int) (offs : Array Int) (t : Nat) : Prop :=
  ((x.toInt < lo ∨ hi < x.toInt) ∧ (pc : Int) + dflt = (t : Int)) ∨ (¬ x.toInt < lo ∧ ¬ hi < x.toInt ∧ ∃ off : Int, offs[(x.toInt - lo).toNat]? = some off ∧ (pc : Int) + off = (t : Int))
def am_getf (sh : List am_S) (ci j b : Nat) (w : am_M) (f : Value → Prop) : Prop := match Nat.beq ci 13 with
  | true => am_opt (am_sv b) fun v => match j with
    | 0 => f (.ref (1000 + v))
    | _ => f (.int 0)
  | false => am_test (am_isb sh b ci) (match am_kd ci j with
    | 0 => f (.int (w.1 b j))
    | 1 => f (.ref (am_tg sh b j))
    | 2 => f (.long (w.2 b))
    | _ => False)
def am_step (sh : List am_S) (mid : Nat) (call : Nat → List Value → am_M → am_O → Prop) (post : am_O → Prop) (k : Nat → am_L → List Value → am_M → Prop) (pc : Nat) (e : Instr × Int32 × Nat × Nat) (lv : am_L) (st : List Value) (w : am_M) : Prop :=
  match e.1 with
  | .iconst _ => k e.2.2.1 lv (.int e.2.1 :: st) w
  | .bipush _ => k e.2.2.1 lv (.int e.2.1 :: st) w
  | .sipush _ => k e.2.2.1 lv (.int e.2.1 :: st) w
  | .ldc x => match am_fnd (am_LSL.getD (am_o mid) []) x with
    | some j => k e.2.2.1 lv (.ref (1000 + j) :: st) w
    | none => am_opt (am_fnd (am_LIL.getD (am_o mid) []) x) fun v => k e.2.2.1 lv (.int v :: st) w
  | .ldc_w x => am_opt (am_fnd (am_LIL.getD (am_o mid) []) x) fun v => k e.2.2.1 lv (.int v :: st) w
  | .ldc2_w x => am_opt (am_fnd (am_LLL.getD (am_o mid) []) x) fun v => k e.2.2.1 lv (.long v :: st) w
  | .lconst n => k e.2.2.1 lv (.long (match n.val with | 0 => 0 | _ => 1) :: st) w
  | .iload_n i => am_li1 lv i.val fun x => k e.2.2.1 lv (.int x :: st) w
  | .iload i => am_li1 lv i fun x => k e.2.2.1 lv (.int x :: st) w
  | .lload_n i => am_ll1 lv i.val fun x => k e.2.2.1 lv (.long x :: st) w
  | .lload i => am_ll1 lv i fun x => k e.2.2.1 lv (.long x :: st) w
  | .aload_n i => am_lr1 lv i.val fun x => k e.2.2.1 lv (.ref x :: st) w
  | .aload i => am_lr1 lv i fun x => k e.2.2.1 lv (.ref x :: st) w
  | .istore_n i => am_i1 st fun x r => k e.2.2.1 (am_ins i.val (.int x) (am_cut1 i.val lv)) r w
  | .istore i => am_i1 st fun x r => k e.2.2.1 (am_ins i (.int x) (am_cut1 i lv)) r w
  | .lstore_n i => am_l1 st fun x r => k e.2.2.1 (am_ins i.val (.long x) (am_cut2 i.val lv)) r w
  | .lstore i => am_l1 st fun x r => k e.2.2.1 (am_ins i (.long x) (am_cut2 i lv)) r w
  | .astore_n i => am_r1 st fun x r => k e.2.2.1 (am_ins i.val (.ref x) (am_cut1 i.val lv)) r w
  | .astore i => am_r1 st fun x r => k e.2.2.1 (am_ins i (.ref x) (am_cut1 i lv)) r w
  | .iinc i _ => am_li1 lv i fun x => k e.2.2.1 (am_ins i (.int (x + e.2.1)) (am_cut1 i lv)) st w
  | .iadd => am_i2 st fun x y r => k e.2.2.1 lv (.int (x + y) :: r) w
  | .isub => am_i2 st fun x y r => k e.2.2.1 lv (.int (x - y) :: r) w
  | .imul => am_i2 st fun x y r => k e.2.2.1 lv (.int (x * y) :: r) w
  | .iand => am_i2 st fun x y r => k e.2.2.1 lv (.int (x &&& y) :: r) w
  | .ior => am_i2 st fun x y r => k e.2.2.1 lv (.int (x ||| y) :: r) w
  | .ixor => am_i2 st fun x y r => k e.2.2.1 lv (.int (x ^^^ y) :: r) w
  | .ishl => am_i2 st fun x y r => k e.2.2.1 lv (.int (x <<< (y &&& 31)) :: r) w
  | .ishr => am_i2 st fun x y r => k e.2.2.1 lv (.int (x >>> (y &&& 31)) :: r) w
  | .iushr => am_i2 st fun x y r => k e.2.2.1 lv (.int (x.toUInt32 >>> (y.toUInt32 &&& Int32.toUInt32 31)).toInt32 :: r) w
  | .idiv => am_i2 st fun x y r => if y = 0 then False else k e.2.2.1 lv (.int (x / y) :: r) w
  | .irem => am_i2 st fun x y r => if y = 0 then False else k e.2.2.1 lv (.int (x - x / y * y) :: r) w
  | .i2l => am_i1 st fun x r => k e.2.2.1 lv (.long x.toInt64 :: r) w
  | .i2b => am_i1 st fun x r => k e.2.2.1 lv (.int x.toInt8.toInt32 :: r) w
  | .i2s => am_i1 st fun x r => k e.2.2.1 lv (.int x.toInt16.toInt32 :: r) w
  | .i2c => am_i1 st fun x r => k e.2.2.1 lv (.int (x.toUInt32 % 65536).toInt32 :: r) w
  | .ladd => am_l2 st fun x y r => k e.2.2.1 lv (.long (x + y) :: r) w
  | .lsub => am_l2 st fun x y r => k e.2.2.1 lv (.long (x - y) :: r) w
  | .lmul => am_l2 st fun x y r => k e.2.2.1 lv (.long (x * y) :: r) w
  | .land => am_l2 st fun x y r => k e.2.2.1 lv (.long (x &&& y) :: r) w
  | .ldiv => am_l2 st fun x y r => if y = 0 then False else k e.2.2.1 lv (.long (x / y) :: r) w
  | .lrem => am_l2 st fun x y r => if y = 0 then False else k e.2.2.1 lv (.long (x - x / y * y) :: r) w
  | .lshl => am_li st fun x y r => k e.2.2.1 lv (.long (x <<< (y.toInt64 &&& 63)) :: r) w
  | .lshr => am_li st fun x y r => k e.2.2.1 lv (.long (x >>> (y.toInt64 &&& 63)) :: r) w
  | .lcmp => am_l2 st fun x y r => k e.2.2.1 lv (.int (lg_cmp x y) :: r) w
  | .dup => am_v1 st fun v r => k e.2.2.1 lv (v :: v :: r) w
  | .pop => am_v1 st fun _ r => k e.2.2.1 lv r w
  | .dup2 => am_v2 st fun a b r => k e.2.2.1 lv (b :: a :: b :: a :: r) w
  | .goto _ => k e.2.2.2 lv st w
  | .ifCond c _ => am_i1 st fun x r => match c with
    | .eq => if x = 0 then k e.2.2.2 lv r w else k e.2.2.1 lv r w
    | .ne => if x = 0 then k e.2.2.1 lv r w else k e.2.2.2 lv r w
    | .lt => if x < 0 then k e.2.2.2 lv r w else k e.2.2.1 lv r w
    | .ge => if 0 ≤ x then k e.2.2.2 lv r w else k e.2.2.1 lv r w
    | .gt => if 0 < x then k e.2.2.2 lv r w else k e.2.2.1 lv r w
    | .le => if x ≤ 0 then k e.2.2.2 lv r w else k e.2.2.1 lv r w
  | .if_icmp c _ => am_i2 st fun x y r => match c with
    | .eq => if x = y then k e.2.2.2 lv r w else k e.2.2.1 lv r w
    | .ne => if x = y then k e.2.2.1 lv r w else k e.2.2.2 lv r w
    | .lt => if x < y then k e.2.2.2 lv r w else k e.2.2.1 lv r w
    | .ge => if y ≤ x then k e.2.2.2 lv r w else k e.2.2.1 lv r w
    | .gt => if y < x then k e.2.2.2 lv r w else k e.2.2.1 lv r w
    | .le => if x ≤ y then k e.2.2.2 lv r w else k e.2.2.1 lv r w
  | .tableswitch dflt lo hi offs => am_i1 st fun x r => ∃ t : Nat, am_sw x pc dflt lo hi offs t ∧ k t lv r w
  | .getfield x => am_opt (am_fnd (am_FTL.getD (am_o mid) []) x) fun q => am_r1 st fun b r => am_getf sh q.1 q.2.1 b w fun v => k e.2.2.1 lv (v :: r) w
  | .putfield x => am_opt (am_fnd (am_FTL.getD (am_o mid) []) x) fun q => match am_kd q.1 q.2.1 with
    | 0 => am_v2 st fun a v r => match a, v with
      | .ref b, .int v => am_test (am_isb sh b q.1 && am_wr q.1 q.2.1) (match am_bl q.1 q.2.1 with
        | false => k e.2.2.1 lv r (am_pi w b q.2.1 v)
        | true => (v = 0 ∨ v = 1) ∧ k e.2.2.1 lv r (am_pi w b q.2.1 v))
      | _, _ => False
    | 2 => am_rl1 st fun b v r => am_test (am_isb sh b q.1 && am_wr q.1 q.2.1) (k e.2.2.1 lv r (am_pl w b v))
    | _ => False
  | .getstatic x => am_opt (am_fnd (am_GSL.getD (am_o mid) []) x) fun q => match Nat.ble 4 q.1 with
    | true => k e.2.2.1 lv (.int 1 :: st) w
    | false => k e.2.2.1 lv (.ref (1000 + q.1) :: st) w
  | .iaload => am_ri st fun b i r => match am_ln sh b with
    | some n => if i < 0 ∨ n ≤ i.toNatClampNeg then False else k e.2.2.1 lv (.int (w.1 b i.toNatClampNeg) :: r) w
    | none => am_opt (am_si b) fun l => if i < 0 ∨ l.length ≤ i.toNatClampNeg then False else k e.2.2.1 lv (.int (l.getD i.toNatClampNeg 0) :: r) w
  | .baload => am_ri st fun b i r => am_opt (am_sb b) fun l => if i < 0 ∨ l.length ≤ i.toNatClampNeg then False else k e.2.2.1 lv (.int (l.getD i.toNatClampNeg 0) :: r) w
  | .iastore => am_rii st fun b i x r => am_opt (am_ln sh b) fun n => if i < 0 ∨ n ≤ i.toNatClampNeg then False else k e.2.2.1 lv r (am_pi w b i.toNatClampNeg x)
  | .aaload => am_ri st fun b i r => am_opt (am_rl sh b) fun q => if i < 0 ∨ q.2.length ≤ i.toNatClampNeg then False else k e.2.2.1 lv (.ref (q.2.getD i.toNatClampNeg 0) :: r) w
  | .arraylength => am_r1 st fun b r => am_opt (am_sb b) fun l => k e.2.2.1 lv (.int (Int32.ofNat l.length) :: r) w
  | .invokevirtual x => am_opt (am_fnd (am_MTL.getD (am_o mid) []) x) fun q => am_opt (am_args q.2.1 [] st) fun p => am_r1 p.2 fun b r =>
      am_test (Nat.beq q.2.2.1 0 && (Nat.ble (am_cat r) 8 && (match Nat.beq (am_o q.1) 13 with | true => am_isstr b | false => am_isb sh b (am_o q.1)))) (∃ o : am_O, call q.1 (.ref b :: p.1) w o ∧ k e.2.2.1 lv (o.1.toList ++ r) o.2)
  | .invokestatic x => am_opt (am_fnd (am_MTL.getD (am_o mid) []) x) fun q => match Nat.ble 1000 q.1 with
    | false => am_opt (am_args q.2.1 [] st) fun p => am_test (Nat.beq q.2.2.1 1 && Nat.ble (am_cat p.2) 8) (∃ o : am_O, call q.1 p.1 w o ∧ k e.2.2.1 lv (o.1.toList ++ p.2) o.2)
    | true => match q.1 with
      | 1000 => am_i2 st fun x y r => am_test (Nat.ble (am_cat r) 8) (k e.2.2.1 lv (.int (if y < x then y else x) :: r) w)
      | 1001 => am_i2 st fun x y r => am_test (Nat.ble (am_cat r) 8) (k e.2.2.1 lv (.int (if x < y then y else x) :: r) w)
      | 1002 => am_cp st fun a0 sp a dp n r => am_test (Nat.ble (am_cat r) 8) (am_opt (am_ln sh a0) fun n0 => am_opt (am_ln sh a) fun n1 => ¬ sp < 0 ∧ ¬ dp < 0 ∧ ¬ n < 0 ∧ sp.toNatClampNeg + n.toNatClampNeg ≤ n0 ∧ dp.toNatClampNeg + n.toNatClampNeg ≤ n1 ∧ k e.2.2.1 lv r (am_pa w a (va_cpy (w.1 a0) (w.1 a) sp.toNatClampNeg dp.toNatClampNeg n.toNatClampNeg)))
      | _ => False
  | .ireturn => am_i1 st fun x r => match r with
    | [] => am_opt (am_rt mid) fun t => narrow t (.int x) = .int x ∧ post (some (.int x), w)
    | _ => False
  | .lreturn => am_l1 st fun x r => match r with
    | [] => am_rt mid = some .long ∧ post (some (.long x), w)
    | _ => False
  | .return_ => match st with
    | [] => am_rt mid = none ∧ post (none, w)
    | _ => False
  | _ => False
