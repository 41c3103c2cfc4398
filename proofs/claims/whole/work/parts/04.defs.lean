/-! THE ABSTRACT MACHINE: memory as numbers by cell and slot, references as cell numbers; a step of each instruction in continuation form -/
abbrev am_M : Type := (Nat → Nat → Int32) × (Nat → Int64)
/-- a cell's kind: a row of ints, a row of references, an object (class number; field: none an int, some none a long, some (some t) a reference to cell t) -/
abbrev am_S : Type := (Nat ⊕ (Nat × List Nat)) ⊕ (Nat × List (Option (Option Nat)))
abbrev am_L : Type := List (Nat × Value)
abbrev am_O : Type := Option Value × am_M
/-- cells that nobody writes: rows of ints, rows of bytes, Strings -/
def am_ST : List ((List Int32 ⊕ List Int32) ⊕ Nat) := [
  .inl (.inl [3, 9, 7, 7, 5]), .inl (.inl [0, 3, 1, 2]), .inl (.inl [1, 3, 9, 27, 81, 243]), .inl (.inl [0, 5, 12, 29]),
  .inr 8, .inr 9, .inr 10, .inr 11,
  .inl (.inr [46, 35, 99, 114]), .inl (.inr [112, 100, 116]), .inl (.inr [110, 101, 115, 119]), .inl (.inr [110, 101, 115, 119])]
def am_fnd {α : Type} : List (Nat × α) → Nat → Option α
  | [], _ => none
  | a :: l, n => match Nat.beq a.1 n with
    | true => some a.2
    | false => am_fnd l n
def am_y (mid : Nat) : MethodName := match am_MI[mid]? with
  | some q => q.1
  | none => ⟨"", "", ""⟩
def am_b (mid : Nat) : ByteArray := match am_MI[mid]? with
  | some q => q.2.1
  | none => ByteArray.empty
def am_ml (mid : Nat) : Nat := match am_MI[mid]? with
  | some q => q.2.2.1
  | none => 0
def am_rt (mid : Nat) : Option FieldType := match am_MI[mid]? with
  | some q => q.2.2.2.1
  | none => none
def am_o (mid : Nat) : Nat := match am_MI[mid]? with
  | some q => q.2.2.2.2
  | none => 99
def am_at (mid pc : Nat) : Option (Instr × Int32 × Nat × Nat) := match am_CD[mid]? with
  | some l => am_fnd l pc
  | none => none
def am_mem (n : Nat) : List Nat → Bool
  | [] => false
  | a :: l => match Nat.beq a n with
    | true => true
    | false => am_mem n l
def am_keep (ks : List Nat) : am_L → am_L
  | [] => []
  | q :: l => match am_mem q.1 ks with
    | true => q :: am_keep ks l
    | false => am_keep ks l
def am_kill (mid pc : Nat) (lv : am_L) : am_L := match am_LV[mid]? with
  | some l => match am_fnd l pc with
    | some ks => am_keep ks lv
    | none => lv
  | none => lv
def am_lk : am_L → Nat → Option Value
  | [], _ => none
  | q :: l, n => match Nat.beq q.1 n with
    | true => some q.2
    | false => am_lk l n
def am_ins (i : Nat) (v : Value) : am_L → am_L
  | [] => [(i, v)]
  | q :: l => match Nat.ble i q.1 with
    | true => (i, v) :: q :: l
    | false => q :: am_ins i v l
/-- a local of one slot is stored -/
def am_cut1 (i : Nat) : am_L → am_L
  | [] => []
  | q :: l => match Nat.beq q.1 i || (Nat.beq (q.1 + 1) i && Nat.beq q.2.category 2) with
    | true => am_cut1 i l
    | false => q :: am_cut1 i l
def am_cut2 (i : Nat) : am_L → am_L
  | [] => []
  | q :: l => match Nat.beq q.1 i || (Nat.beq q.1 (i + 1) || (Nat.beq (q.1 + 1) i && Nat.beq q.2.category 2)) with
    | true => am_cut2 i l
    | false => q :: am_cut2 i l
def am_isb (sh : List am_S) (b ci : Nat) : Bool := match sh[b]? with
  | some (.inr q) => Nat.beq q.1 ci
  | _ => false
def am_isstr (b : Nat) : Bool := match Nat.ble 1000 b with
  | true => match am_ST[b - 1000]? with
    | some (.inr _) => true
    | _ => false
  | false => false
def am_tg (sh : List am_S) (b j : Nat) : Option Nat := match sh[b]? with
  | some (.inr q) => match q.2[j]? with
    | some (some (some t)) => some t
    | _ => none
  | _ => none
def am_ln (sh : List am_S) (b : Nat) : Option Nat := match sh[b]? with
  | some (.inl (.inl n)) => some n
  | _ => none
def am_rl (sh : List am_S) (b : Nat) : Option (Nat × List Nat) := match sh[b]? with
  | some (.inl (.inr q)) => some q
  | _ => none
def am_si (b : Nat) : Option (List Int32) := match Nat.ble 1000 b with
  | true => match am_ST[b - 1000]? with
    | some (.inl (.inl l)) => some l
    | _ => none
  | false => none
def am_sb (b : Nat) : Option (List Int32) := match Nat.ble 1000 b with
  | true => match am_ST[b - 1000]? with
    | some (.inl (.inr l)) => some l
    | _ => none
  | false => none
def am_sv (b : Nat) : Option Nat := match Nat.ble 1000 b with
  | true => match am_ST[b - 1000]? with
    | some (.inr v) => some v
    | _ => none
  | false => none
def am_kd (ci j : Nat) : Nat := match am_KD[ci]? with
  | some l => match l[j]? with
    | some n => n
    | none => 9
  | none => 9
/-- a field that a method other than a constructor may write -/
def am_wr (ci j : Nat) : Bool := match vwCl[ci]? with
  | some q => !(q.2.1 j).2.2.2
  | none => false
def am_bl (ci j : Nat) : Bool := Nat.beq ci 11 && Nat.beq j 17
def am_pi (w : am_M) (k j : Nat) (x : Int32) : am_M := (fun a b => if a = k ∧ b = j then x else w.1 a b, w.2)
def am_pl (w : am_M) (k : Nat) (x : Int64) : am_M := (w.1, fun a => if a = k then x else w.2 a)
def am_pa (w : am_M) (k : Nat) (f : Nat → Int32) : am_M := (fun a b => if a = k then f b else w.1 a b, w.2)
