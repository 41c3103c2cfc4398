/-! both sides, call by call -/
def OpI (mc mm : Nat) (as : List Value) : Prop := ∀ (S : Sp) (wC wM : am_M), RC wC S → RM wM S → ∃ (r : Int32) (S' : Sp) (uC uM : am_M), RC uC S' ∧ RM uM S' ∧ am_D shC 30 mc (.ref 0 :: as) wC (some (.int r), uC) ∧ am_D shM 30 mm (.ref 0 :: as) wM (some (.int r), uM)
def OpJ (mc mm : Nat) (as : List Value) : Prop := ∀ (S : Sp) (wC wM : am_M), RC wC S → RM wM S → ∃ (r : Int64) (S' : Sp) (uC uM : am_M), RC uC S' ∧ RM uM S' ∧ am_D shC 30 mc (.ref 0 :: as) wC (some (.long r), uC) ∧ am_D shM 30 mm (.ref 0 :: as) wM (some (.long r), uM)
theorem op_type (x y : Int32) : OpI mi_X11_type mi_X12_type [.int x, .int y] := fun S wC wM rc rm => by
  obtain ⟨⟨a, u'⟩, ⟨e1, r1⟩, h1⟩ := d_type (d := 30) (x := x) (y := y) (by omega) rc
  obtain ⟨⟨b, v'⟩, ⟨e2, r2⟩, h2⟩ := m_type (d := 30) (x := x) (y := y) (by omega) rm rc.sg
  dsimp only at e1 r1 e2 r2
  subst e1
  subst e2
  exact ⟨_, _, u', v', r1, r2, h1, h2⟩
theorem op_wipe (x : Int32) : OpI mi_X11_wipe mi_X12_wipe [.int x] := fun S wC wM rc rm => by
  obtain ⟨⟨a, u'⟩, ⟨e1, r1⟩, h1⟩ := d_wipe (d := 30) (x := x) (by omega) rc
  obtain ⟨⟨b, v'⟩, ⟨e2, r2⟩, h2⟩ := m_wipe (d := 30) (x := x) (by omega) rm rc.sg
  dsimp only at e1 r1 e2 r2
  subst e1
  subst e2
  exact ⟨_, _, u', v', r1, r2, h1, h2⟩
theorem op_undo (x : Int32) : OpI mi_X11_undo mi_X12_undo [.int x] := fun S wC wM rc rm => by
  obtain ⟨⟨a, u'⟩, ⟨e1, r1⟩, h1⟩ := d_undo (d := 30) (x := x) (by omega) rc
  obtain ⟨⟨b, v'⟩, ⟨e2, r2⟩, h2⟩ := m_undo (d := 30) (x := x) (by omega) rm rc.sg
  dsimp only at e1 r1 e2 r2
  subst e1
  subst e2
  exact ⟨_, _, u', v', r1, r2, h1, h2⟩
theorem op_fault (x : Int32) : OpI mi_X11_fault mi_X12_fault [.int x] := fun S wC wM rc rm => by
  have h1 := d_fault (d := 30) (x := x) (by omega) rc
  obtain ⟨⟨b, v'⟩, ⟨e2, r2⟩, h2⟩ := m_fault (d := 30) (x := x) (by omega) rm rc.sg
  dsimp only at e2 r2
  subst e2
  exact ⟨_, _, wC, v', rc, r2, h1, h2⟩
theorem op_cell (x : Int32) : OpI mi_X11_cell mi_X12_cell [.int x] := fun S wC wM rc rm => by
  have h1 := d_cell (d := 30) (x := x) (by omega) rc
  obtain ⟨⟨b, v'⟩, ⟨e2, r2⟩, h2⟩ := m_cell (d := 30) (x := x) (by omega) rm rc.sg
  dsimp only at e2 r2
  subst e2
  exact ⟨_, _, wC, v', rc, r2, h1, h2⟩
theorem op_last (x y : Int32) : OpI mi_X11_last mi_X12_last [.int x, .int y] := fun S wC wM rc rm => by
  have h1 := d_last (d := 30) (x := x) (y := y) (by omega) rc
  obtain ⟨⟨b, v'⟩, ⟨e2, r2⟩, h2⟩ := m_last (d := 30) (x := x) (y := y) (by omega) rm rc.sg
  dsimp only at e2 r2
  subst e2
  exact ⟨_, _, wC, v', rc, r2, h1, h2⟩
theorem op_person (x y : Int32) : OpI mi_X11_person mi_X12_person [.int x, .int y] := fun S wC wM rc rm => by
  have h1 := d_person (d := 30) (x := x) (y := y) (by omega) rc
  obtain ⟨⟨b, v'⟩, ⟨e2, r2⟩, h2⟩ := m_person (d := 30) (x := x) (y := y) (by omega) rm rc.sg
  dsimp only at e2 r2
  subst e2
  exact ⟨_, _, wC, v', rc, r2, h1, h2⟩
theorem op_rain (x : Int32) : OpI mi_X11_rain mi_X12_rain [.int x] := fun S wC wM rc rm => by
  obtain ⟨⟨a, u'⟩, ⟨e1, r1⟩, h1⟩ := d_rain (d := 30) (x := x) (by omega) rc
  obtain ⟨⟨b, v'⟩, ⟨e2, r2⟩, h2⟩ := m_rain (d := 30) (x := x) (by omega) rm rc.sg.1.2.1.1
  dsimp only at e1 r1 e2 r2
  subst e1
  subst e2
  exact ⟨_, _, u', v', r1, r2, h1, h2⟩
theorem op_back : OpI mi_X11_back mi_X12_back [] := fun S wC wM rc rm => by
  obtain ⟨⟨a, u'⟩, ⟨e1, r1⟩, h1⟩ := d_back (d := 30) (by omega) rc
  obtain ⟨⟨b, v'⟩, ⟨e2, r2⟩, h2⟩ := m_back (d := 30) (by omega) rm rc.sg
  dsimp only at e1 r1 e2 r2
  subst e1
  subst e2
  exact ⟨_, _, u', v', r1, r2, h1, h2⟩
theorem op_read (x : Int32) : OpI mi_X11_read mi_X12_read [.int x] := fun S wC wM rc rm => by
  obtain ⟨⟨a, u'⟩, ⟨e1, r1⟩, h1⟩ := d_read (d := 30) (x := x) (by omega) rc
  obtain ⟨⟨b, v'⟩, ⟨e2, r2⟩, h2⟩ := m_read (d := 30) (x := x) (by omega) rm rc.sg
  dsimp only at e1 r1 e2 r2
  subst e1
  subst e2
  exact ⟨_, _, u', v', r1, r2, h1, h2⟩
theorem op_at (x y z : Int32) : OpI mi_X11_at mi_X12_at [.int x, .int y, .int z] := fun S wC wM rc rm => by
  obtain ⟨⟨a, u'⟩, ⟨e1, r1⟩, h1⟩ := d_at (d := 30) (x := x) (y := y) (z := z) (by omega) rc
  obtain ⟨⟨b, v'⟩, ⟨e2, r2⟩, h2⟩ := m_at (d := 30) (x := x) (y := y) (z := z) (by omega) rm rc.sg
  dsimp only at e1 r1 e2 r2
  subst e1
  subst e2
  exact ⟨_, _, u', v', r1, r2, h1, h2⟩
theorem op_ends (x y : Int32) : OpI mi_X11_ends mi_X12_ends [.int x, .int y] := fun S wC wM rc rm => by
  obtain ⟨⟨a, u'⟩, ⟨e1, r1⟩, h1⟩ := d_ends (d := 30) (x := x) (y := y) (by omega) rc
  obtain ⟨⟨b, v'⟩, ⟨e2, r2⟩, h2⟩ := m_ends (d := 30) (x := x) (y := y) (by omega) rm rc.sg
  dsimp only at e1 r1 e2 r2
  subst e1
  subst e2
  exact ⟨_, _, u', v', r1, r2, h1, h2⟩
theorem op_who (x : Int32) : OpI mi_X11_who mi_X12_who [.int x] := fun S wC wM rc rm => by
  obtain ⟨⟨a, u'⟩, ⟨e1, r1⟩, h1⟩ := d_who (d := 30) (x := x) (by omega) rc
  obtain ⟨⟨b, v'⟩, ⟨e2, r2⟩, h2⟩ := m_who (d := 30) (x := x) (by omega) rm rc.sg
  dsimp only at e1 r1 e2 r2
  subst e1
  subst e2
  exact ⟨_, _, u', v', r1, r2, h1, h2⟩
theorem op_met (x : Int32) : OpI mi_X11_met mi_X12_met [.int x] := fun S wC wM rc rm => by
  obtain ⟨⟨a, u'⟩, ⟨e1, r1⟩, h1⟩ := d_met (d := 30) (x := x) (by omega) rc
  obtain ⟨⟨b, v'⟩, ⟨e2, r2⟩, h2⟩ := m_met (d := 30) (x := x) (by omega) rm rc.sg
  dsimp only at e1 r1 e2 r2
  subst e1
  subst e2
  exact ⟨_, _, u', v', r1, r2, h1, h2⟩
theorem op_worn (x : Int32) : OpI mi_X11_worn mi_X12_worn [.int x] := fun S wC wM rc rm => by
  obtain ⟨⟨a, u'⟩, ⟨e1, r1⟩, h1⟩ := d_worn (d := 30) (x := x) (by omega) rc
  obtain ⟨⟨b, v'⟩, ⟨e2, r2⟩, h2⟩ := m_worn (d := 30) (x := x) (by omega) rm rc.sg
  dsimp only at e1 r1 e2 r2
  subst e1
  subst e2
  exact ⟨_, _, u', v', r1, r2, h1, h2⟩
theorem op_rifest : OpI mi_X11_rifest mi_X12_rifest [] := fun S wC wM rc rm => by
  obtain ⟨⟨a, u'⟩, ⟨e1, r1⟩, h1⟩ := d_rifest (d := 30) (by omega) rc
  obtain ⟨⟨b, v'⟩, ⟨e2, r2⟩, h2⟩ := m_rifest (d := 30) (by omega) rm rc.sg
  dsimp only at e1 r1 e2 r2
  subst e1
  subst e2
  exact ⟨_, _, u', v', r1, r2, h1, h2⟩
theorem op_pair (x y : Int32) : OpI mi_X11_pair mi_X12_pair [.int x, .int y] := fun S wC wM rc rm => by
  obtain ⟨⟨a, u'⟩, ⟨e1, r1⟩, h1⟩ := d_pair (d := 30) (x := x) (y := y) (by omega) rc
  obtain ⟨⟨b, v'⟩, ⟨e2, r2⟩, h2⟩ := m_pair (d := 30) (x := x) (y := y) (by omega) rm rc.sg
  dsimp only at e1 r1 e2 r2
  subst e1
  subst e2
  exact ⟨_, _, u', v', r1, r2, h1, h2⟩
theorem op_soles (x : Int32) : OpI mi_X11_soles mi_X12_soles [.int x] := fun S wC wM rc rm => by
  obtain ⟨⟨a, u'⟩, ⟨e1, r1⟩, h1⟩ := d_soles (d := 30) (x := x) (by omega) rc
  obtain ⟨⟨b, v'⟩, ⟨e2, r2⟩, h2⟩ := m_soles (d := 30) (x := x) (by omega) rm rc.sg
  dsimp only at e1 r1 e2 r2
  subst e1
  subst e2
  exact ⟨_, _, u', v', r1, r2, h1, h2⟩
theorem op_match : OpI mi_X11_match mi_X12_match [] := fun S wC wM rc rm => by
  obtain ⟨⟨a, u'⟩, ⟨e1, r1⟩, h1⟩ := d_match (d := 30) (by omega) rc
  obtain ⟨⟨b, v'⟩, ⟨e2, r2⟩, h2⟩ := m_match (d := 30) (by omega) rm rc.sg
  dsimp only at e1 r1 e2 r2
  subst e1
  subst e2
  exact ⟨_, _, u', v', r1, r2, h1, h2⟩
theorem op_dry (x : Int32) : OpI mi_X11_dry mi_X12_dry [.int x] := fun S wC wM rc rm => by
  obtain ⟨⟨a, u'⟩, ⟨e1, r1⟩, h1⟩ := d_dry (d := 30) (x := x) (by omega) rc
  obtain ⟨⟨b, v'⟩, ⟨e2, r2⟩, h2⟩ := m_dry (d := 30) (x := x) (by omega) rm rc.sg
  dsimp only at e1 r1 e2 r2
  subst e1
  subst e2
  exact ⟨_, _, u', v', r1, r2, h1, h2⟩
theorem op_seen (x y z : Int32) : OpI mi_X11_seen mi_X12_seen [.int x, .int y, .int z] := fun S wC wM rc rm => by
  obtain ⟨⟨a, u'⟩, ⟨e1, r1⟩, h1⟩ := d_seen (d := 30) (x := x) (y := y) (z := z) (by omega) rc
  obtain ⟨⟨b, v'⟩, ⟨e2, r2⟩, h2⟩ := m_seen (d := 30) (x := x) (y := y) (z := z) (by omega) rm rc.sg
  dsimp only at e1 r1 e2 r2
  subst e1
  subst e2
  exact ⟨_, _, u', v', r1, r2, h1, h2⟩
theorem op_forget : OpI mi_X11_forget mi_X12_forget [] := fun S wC wM rc rm => by
  obtain ⟨⟨a, u'⟩, ⟨e1, r1⟩, h1⟩ := d_forget (d := 30) (by omega) rc
  obtain ⟨⟨b, v'⟩, ⟨e2, r2⟩, h2⟩ := m_forget (d := 30) (by omega) rm rc.sg
  dsimp only at e1 r1 e2 r2
  subst e1
  subst e2
  exact ⟨_, _, u', v', r1, r2, h1, h2⟩
theorem op_never : OpI mi_X11_never mi_X12_never [] := fun S wC wM rc rm => by
  obtain ⟨⟨a, u'⟩, ⟨e1, r1⟩, h1⟩ := d_never (d := 30) (by omega) rc
  obtain ⟨⟨b, v'⟩, ⟨e2, r2⟩, h2⟩ := m_never (d := 30) (by omega) rm rc.sg
  dsimp only at e1 r1 e2 r2
  subst e1
  subst e2
  exact ⟨_, _, u', v', r1, r2, h1, h2⟩
theorem op_wore (x y : Int32) : OpI mi_X11_wore mi_X12_wore [.int x, .int y] := fun S wC wM rc rm => by
  obtain ⟨⟨a, u'⟩, ⟨e1, r1⟩, h1⟩ := d_wore (d := 30) (x := x) (y := y) (by omega) rc
  obtain ⟨⟨b, v'⟩, ⟨e2, r2⟩, h2⟩ := m_wore (d := 30) (x := x) (y := y) (by omega) rm rc.sg
  dsimp only at e1 r1 e2 r2
  subst e1
  subst e2
  exact ⟨_, _, u', v', r1, r2, h1, h2⟩
theorem op_ask (x : Int32) : OpI mi_X11_ask mi_X12_ask [.int x] := fun S wC wM rc rm => by
  obtain ⟨⟨a, u'⟩, ⟨e1, r1⟩, h1⟩ := d_ask (d := 30) (x := x) (by omega) rc
  obtain ⟨⟨b, v'⟩, ⟨e2, r2⟩, h2⟩ := m_ask (d := 30) (x := x) (by omega) rm rc.sg
  dsimp only at e1 r1 e2 r2
  subst e1
  subst e2
  exact ⟨_, _, u', v', r1, r2, h1, h2⟩
theorem op_storm (x y z t : Int32) : OpJ mi_X11_storm mi_X12_storm [.int x, .int y, .int z, .int t] := fun S wC wM rc rm => by
  obtain ⟨⟨a, u'⟩, ⟨e1, r1⟩, h1⟩ := d_storm (d := 30) (x := x) (y := y) (z := z) (t := t) (by omega) rc
  obtain ⟨⟨b, v'⟩, ⟨e2, r2⟩, h2⟩ := m_storm (d := 30) (x := x) (y := y) (z := z) (t := t) (by omega) rm rc.sg
  dsimp only at e1 r1 e2 r2
  subst e1
  subst e2
  exact ⟨_, _, u', v', r1, r2, h1, h2⟩
theorem op_shelves (x y : Int32) : OpI mi_X11_shelves mi_X12_shelves [.int x, .int y] := fun S wC wM rc rm => by
  obtain ⟨⟨a, u'⟩, ⟨e1, r1⟩, h1⟩ := d_shelves (d := 30) (x := x) (y := y) (by omega) rc
  obtain ⟨⟨b, v'⟩, ⟨e2, r2⟩, h2⟩ := m_shelves (d := 30) (x := x) (y := y) (by omega) rm rc.sg
  dsimp only at e1 r1 e2 r2
  subst e1
  subst e2
  exact ⟨_, _, u', v', r1, r2, h1, h2⟩
theorem op_sheet (x f n : Int32) : OpI mi_X11_sheet mi_X12_sheet [.int x, .int f, .int n] := fun S wC wM rc rm => by
  obtain ⟨⟨a, u'⟩, ⟨e1, r1⟩, h1⟩ := d_sheet (d := 30) (x := x) (f := f) (n := n) (by omega) rc
  obtain ⟨⟨b, v'⟩, ⟨e2, r2⟩, h2⟩ := m_sheet (d := 30) (x := x) (f := f) (n := n) (by omega) rm rc.sg
  dsimp only at e1 r1 e2 r2
  subst e1
  subst e2
  exact ⟨_, _, u', v', r1, r2, h1, h2⟩
theorem op_lose (x : Int32) : OpI mi_X11_lose mi_X12_lose [.int x] := fun S wC wM rc rm => by
  obtain ⟨⟨a, u'⟩, ⟨e1, r1⟩, h1⟩ := d_lose (d := 30) (x := x) (by omega) rc
  obtain ⟨⟨b, v'⟩, ⟨e2, r2⟩, h2⟩ := m_lose (d := 30) (x := x) (by omega) rm rc.sg
  dsimp only at e1 r1 e2 r2
  subst e1
  subst e2
  exact ⟨_, _, u', v', r1, r2, h1, h2⟩
theorem op_lay (x f i v : Int32) : OpI mi_X11_lay mi_X12_lay [.int x, .int f, .int i, .int v] := fun S wC wM rc rm => by
  obtain ⟨⟨a, u'⟩, ⟨e1, r1⟩, h1⟩ := d_lay (d := 30) (x := x) (f := f) (i := i) (v := v) (by omega) rc
  obtain ⟨⟨b, v'⟩, ⟨e2, r2⟩, h2⟩ := m_lay (d := 30) (x := x) (f := f) (i := i) (v := v) (by omega) rm rc.sg
  dsimp only at e1 r1 e2 r2
  subst e1
  subst e2
  exact ⟨_, _, u', v', r1, r2, h1, h2⟩
theorem op_get (x f i : Int32) : OpI mi_X11_get mi_X12_get [.int x, .int f, .int i] := fun S wC wM rc rm => by
  obtain ⟨⟨a, u'⟩, ⟨e1, r1⟩, h1⟩ := d_get (d := 30) (x := x) (f := f) (i := i) (by omega) rc
  obtain ⟨⟨b, v'⟩, ⟨e2, r2⟩, h2⟩ := m_get (d := 30) (x := x) (f := f) (i := i) (by omega) rm rc.sg
  dsimp only at e1 r1 e2 r2
  subst e1
  subst e2
  exact ⟨_, _, u', v', r1, r2, h1, h2⟩
theorem op_copy (x i y j n : Int32) : OpI mi_X11_copy mi_X12_copy [.int x, .int i, .int y, .int j, .int n] := fun S wC wM rc rm => by
  obtain ⟨⟨a, u'⟩, ⟨e1, r1⟩, h1⟩ := d_copy (d := 30) (x := x) (i := i) (y := y) (j := j) (n := n) (by omega) rc
  obtain ⟨⟨b, v'⟩, ⟨e2, r2⟩, h2⟩ := m_copy (d := 30) (x := x) (i := i) (y := y) (j := j) (n := n) (by omega) rm rc.sg
  dsimp only at e1 r1 e2 r2
  subst e1
  subst e2
  exact ⟨_, _, u', v', r1, r2, h1, h2⟩
theorem op_write (x y : Int32) : OpI mi_X11_write mi_X12_write [.int x, .int y] := fun S wC wM rc rm => by
  obtain ⟨⟨a, u'⟩, ⟨e1, r1⟩, h1⟩ := d_write (d := 30) (x := x) (y := y) (by omega) rc
  obtain ⟨⟨b, v'⟩, ⟨e2, r2⟩, h2⟩ := m_write (d := 30) (x := x) (y := y) (by omega) rm rc.sg
  dsimp only at e1 r1 e2 r2
  subst e1
  subst e2
  exact ⟨_, _, u', v', r1, r2, h1, h2⟩
theorem op_count (x : Int32) : OpI mi_X11_count mi_X12_count [.int x] := fun S wC wM rc rm => by
  have h1 := d_count (d := 30) (x := x) (by omega) rc
  obtain ⟨⟨b, v'⟩, ⟨e2, r2⟩, h2⟩ := m_count (d := 30) (x := x) (by omega) rm rc.sg
  dsimp only at e2 r2
  subst e2
  exact ⟨_, _, wC, v', rc, r2.1, h1, h2⟩
theorem op_digest : OpJ mi_X11_digest mi_X12_digest [] := fun S wC wM rc rm => by
  obtain ⟨⟨a, u'⟩, ⟨e1, r1⟩, h1⟩ := d_digest (d := 30) (by omega) rc
  obtain ⟨⟨b, v'⟩, ⟨e2, r2⟩, h2⟩ := m_digest (d := 30) (by omega) rm rc.sg
  dsimp only at e1 r1 e2 r2
  subst e1
  subst e2
  exact ⟨_, _, u', v', r1, r2, h1, h2⟩
