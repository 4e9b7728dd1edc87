/-! THE WORLDS: the cells of the system (94) and of the reference (60), by numbers -/
abbrev xG : Type := va_G × (ClassId × ClassId × ClassId) × (Nat → Nat) × (Nat → Nat) × (Nat → Nat) × Nat
abbrev gD (g : xG) : va_G := g.1
abbrev gI (g : xG) : ClassId := g.2.1.1
abbrev gJ (g : xG) : ClassId := g.2.1.2.1
abbrev gS (g : xG) : ClassId := g.2.1.2.2
abbrev ga (g : xG) : Nat → Nat := g.2.2.1
abbrev gK (g : xG) : Nat → Nat := g.2.2.2.1
abbrev gV (g : xG) : Nat → Nat := g.2.2.2.2.1
abbrev gB (g : xG) : Nat := g.2.2.2.2.2
def kC_ : List Nat := [11, 20, 22, 9, 20, 9, 20, 9, 20, 9, 20, 9, 20, 9, 20, 10, 20, 20, 5, 20, 20, 20, 20, 20, 20, 5, 20, 20, 20, 20, 20, 20, 6, 5, 20, 20, 20, 20, 20, 20, 20, 2, 20, 20, 20, 20, 20, 20, 20, 4, 20, 20, 20, 20, 20, 20, 20, 20, 4, 20, 20, 20, 20, 20, 20, 20, 20, 4, 20, 20, 20, 20, 20, 20, 20, 20, 0, 20, 1, 3, 20, 20, 20, 21, 21, 20, 8, 20, 20, 7, 20, 20, 20, 20]
def lC_ : List Nat := [0, 260, 6, 0, 72, 0, 72, 0, 72, 0, 72, 0, 72, 0, 72, 0, 73, 0, 0, 16, 16, 16, 16, 240, 64, 0, 16, 16, 16, 16, 240, 64, 0, 0, 16, 16, 16, 16, 240, 64, 0, 0, 10, 10, 10, 10, 10, 1024, 1024, 0, 4, 4, 4, 4, 10, 10, 10, 10, 0, 4, 4, 4, 4, 10, 10, 10, 10, 0, 4, 4, 4, 4, 10, 10, 10, 10, 0, 12, 0, 0, 1024, 1024, 1024, 1024, 1024, 72, 0, 5, 5, 0, 8, 8, 8, 100]
def kC (c : Nat) : Nat := kC_.getD c 99
def lC (c : Nat) : Nat := lC_.getD c 0
def kM_ : List Nat := [12, 23, 24, 20, 20, 20, 20, 20, 20, 20, 20, 20, 20, 20, 20, 20, 20, 20, 20, 20, 20, 20, 20, 20, 24, 24, 20, 20, 20, 20, 24, 20, 20, 20, 20, 24, 20, 20, 20, 20, 20, 24, 20, 20, 20, 20, 24, 20, 20, 20, 20, 20, 20, 20, 20, 20, 20, 20, 20, 24]
def lM_ : List Nat := [0, 260, 6, 6, 432, 72, 2, 2, 2, 32, 32, 32, 32, 480, 480, 2, 16, 16, 16, 16, 240, 240, 240, 240, 240, 10, 10, 10, 10, 10, 4, 4, 4, 4, 4, 10, 10, 10, 10, 10, 10, 8, 8, 8, 8, 8, 20, 20, 20, 20, 20, 2, 2, 2, 2, 74752, 10, 8, 8, 100]
def kM (c : Nat) : Nat := kM_.getD c 99
def lM (c : Nat) : Nat := lM_.getD c 0
def flX0 (ad : Nat → Nat) (c : Nat) (r : Nat → Int32) : List Value := [.ref (ad 41), .ref (ad (c + 1))]
def flX1 (ad : Nat → Nat) (c : Nat) (r : Nat → Int32) : List Value := [.ref (ad 2), .ref (ad 41), .ref (ad 76), .ref (ad (r 3).toNatClampNeg), .ref (ad (r 4).toNatClampNeg), .int (r 5), .int (r 6), .int (r 7), .int (r 8), .int (r 9), .int (r 10), .int (r 11), .int (r 12), .int (r 13), .int (r 14)]
theorem stX1_3 (ad : Nat → Nat) (c t : Nat) (v : Int32) (hv : v.toNatClampNeg = t) : ∀ r, (flX1 ad c r).set 3 (.ref (ad t)) = flX1 ad c (upd r 3 v) := fun _ => by subst hv; rfl
theorem stX1_4 (ad : Nat → Nat) (c t : Nat) (v : Int32) (hv : v.toNatClampNeg = t) : ∀ r, (flX1 ad c r).set 4 (.ref (ad t)) = flX1 ad c (upd r 4 v) := fun _ => by subst hv; rfl
theorem stX1_5 (ad : Nat → Nat) (c : Nat) (v : Int32) : ∀ r, (flX1 ad c r).set 5 (.int v) = flX1 ad c (upd r 5 v) := fun _ => rfl
theorem stX1_6 (ad : Nat → Nat) (c : Nat) (v : Int32) : ∀ r, (flX1 ad c r).set 6 (.int v) = flX1 ad c (upd r 6 v) := fun _ => rfl
theorem stX1_7 (ad : Nat → Nat) (c : Nat) (v : Int32) : ∀ r, (flX1 ad c r).set 7 (.int v) = flX1 ad c (upd r 7 v) := fun _ => rfl
theorem stX1_8 (ad : Nat → Nat) (c : Nat) (v : Int32) : ∀ r, (flX1 ad c r).set 8 (.int v) = flX1 ad c (upd r 8 v) := fun _ => rfl
theorem stX1_9 (ad : Nat → Nat) (c : Nat) (v : Int32) : ∀ r, (flX1 ad c r).set 9 (.int v) = flX1 ad c (upd r 9 v) := fun _ => rfl
theorem stX1_10 (ad : Nat → Nat) (c : Nat) (v : Int32) : ∀ r, (flX1 ad c r).set 10 (.int v) = flX1 ad c (upd r 10 v) := fun _ => rfl
theorem stX1_11 (ad : Nat → Nat) (c : Nat) (v : Int32) : ∀ r, (flX1 ad c r).set 11 (.int v) = flX1 ad c (upd r 11 v) := fun _ => rfl
theorem stX1_12 (ad : Nat → Nat) (c : Nat) (v : Int32) : ∀ r, (flX1 ad c r).set 12 (.int v) = flX1 ad c (upd r 12 v) := fun _ => rfl
theorem stX1_13 (ad : Nat → Nat) (c : Nat) (v : Int32) : ∀ r, (flX1 ad c r).set 13 (.int v) = flX1 ad c (upd r 13 v) := fun _ => rfl
theorem stX1_14 (ad : Nat → Nat) (c : Nat) (v : Int32) : ∀ r, (flX1 ad c r).set 14 (.int v) = flX1 ad c (upd r 14 v) := fun _ => rfl
def flX2 (ad : Nat → Nat) (c : Nat) (r : Nat → Int32) : List Value := [.int (r 0), .ref (ad (c + 1)), .ref (ad (c + 2)), .ref (ad (c + 3)), .ref (ad (c + 4)), .ref (ad (c + 5)), .ref (ad (c + 6)), .ref (ad (c + 7)), .int (r 8), .int (r 9), .int (r 10), .int (r 11), .int (r 12)]
theorem stX2_0 (ad : Nat → Nat) (c : Nat) (v : Int32) : ∀ r, (flX2 ad c r).set 0 (.int v) = flX2 ad c (upd r 0 v) := fun _ => rfl
theorem stX2_8 (ad : Nat → Nat) (c : Nat) (v : Int32) : ∀ r, (flX2 ad c r).set 8 (.int v) = flX2 ad c (upd r 8 v) := fun _ => rfl
theorem stX2_9 (ad : Nat → Nat) (c : Nat) (v : Int32) : ∀ r, (flX2 ad c r).set 9 (.int v) = flX2 ad c (upd r 9 v) := fun _ => rfl
theorem stX2_10 (ad : Nat → Nat) (c : Nat) (v : Int32) : ∀ r, (flX2 ad c r).set 10 (.int v) = flX2 ad c (upd r 10 v) := fun _ => rfl
theorem stX2_11 (ad : Nat → Nat) (c : Nat) (v : Int32) : ∀ r, (flX2 ad c r).set 11 (.int v) = flX2 ad c (upd r 11 v) := fun _ => rfl
theorem stX2_12 (ad : Nat → Nat) (c : Nat) (v : Int32) : ∀ r, (flX2 ad c r).set 12 (.int v) = flX2 ad c (upd r 12 v) := fun _ => rfl
def flX3 (ad : Nat → Nat) (c : Nat) (r : Nat → Int32) : List Value := [.ref (ad (c + 1)), .int (r 1), .ref (ad (r 2).toNatClampNeg), .ref (ad (r 3).toNatClampNeg), .ref (ad (c + 4)), .ref (ad (c + 5)), .ref (ad (c + 6)), .int (r 7)]
theorem stX3_1 (ad : Nat → Nat) (c : Nat) (v : Int32) : ∀ r, (flX3 ad c r).set 1 (.int v) = flX3 ad c (upd r 1 v) := fun _ => rfl
theorem stX3_2 (ad : Nat → Nat) (c t : Nat) (v : Int32) (hv : v.toNatClampNeg = t) : ∀ r, (flX3 ad c r).set 2 (.ref (ad t)) = flX3 ad c (upd r 2 v) := fun _ => by subst hv; rfl
theorem stX3_3 (ad : Nat → Nat) (c t : Nat) (v : Int32) (hv : v.toNatClampNeg = t) : ∀ r, (flX3 ad c r).set 3 (.ref (ad t)) = flX3 ad c (upd r 3 v) := fun _ => by subst hv; rfl
theorem stX3_7 (ad : Nat → Nat) (c : Nat) (v : Int32) : ∀ r, (flX3 ad c r).set 7 (.int v) = flX3 ad c (upd r 7 v) := fun _ => rfl
def flX4 (ad : Nat → Nat) (c : Nat) (r : Nat → Int32) : List Value := [.int (r 0), .ref (ad (c + 1)), .ref (ad (c + 2)), .ref (ad (c + 3)), .ref (ad (c + 4)), .int (r 5), .ref (ad (c + 5)), .ref (ad (c + 6)), .ref (ad (c + 7)), .ref (ad (c + 8)), .int (r 10), .int (r 11), .int (r 12), .int (r 13)]
theorem stX4_0 (ad : Nat → Nat) (c : Nat) (v : Int32) : ∀ r, (flX4 ad c r).set 0 (.int v) = flX4 ad c (upd r 0 v) := fun _ => rfl
theorem stX4_5 (ad : Nat → Nat) (c : Nat) (v : Int32) : ∀ r, (flX4 ad c r).set 5 (.int v) = flX4 ad c (upd r 5 v) := fun _ => rfl
theorem stX4_10 (ad : Nat → Nat) (c : Nat) (v : Int32) : ∀ r, (flX4 ad c r).set 10 (.int v) = flX4 ad c (upd r 10 v) := fun _ => rfl
theorem stX4_11 (ad : Nat → Nat) (c : Nat) (v : Int32) : ∀ r, (flX4 ad c r).set 11 (.int v) = flX4 ad c (upd r 11 v) := fun _ => rfl
theorem stX4_12 (ad : Nat → Nat) (c : Nat) (v : Int32) : ∀ r, (flX4 ad c r).set 12 (.int v) = flX4 ad c (upd r 12 v) := fun _ => rfl
theorem stX4_13 (ad : Nat → Nat) (c : Nat) (v : Int32) : ∀ r, (flX4 ad c r).set 13 (.int v) = flX4 ad c (upd r 13 v) := fun _ => rfl
def flX5 (ad : Nat → Nat) (c : Nat) (r : Nat → Int32) : List Value := [.int (r 0), .ref (ad (c + 1)), .ref (ad (c + 2)), .ref (ad (c + 3)), .ref (ad (c + 4)), .int (r 5), .ref (ad (c + 5)), .ref (ad (c + 6)), .int (r 8)]
theorem stX5_0 (ad : Nat → Nat) (c : Nat) (v : Int32) : ∀ r, (flX5 ad c r).set 0 (.int v) = flX5 ad c (upd r 0 v) := fun _ => rfl
theorem stX5_5 (ad : Nat → Nat) (c : Nat) (v : Int32) : ∀ r, (flX5 ad c r).set 5 (.int v) = flX5 ad c (upd r 5 v) := fun _ => rfl
theorem stX5_8 (ad : Nat → Nat) (c : Nat) (v : Int32) : ∀ r, (flX5 ad c r).set 8 (.int v) = flX5 ad c (upd r 8 v) := fun _ => rfl
def flX6 (ad : Nat → Nat) (c : Nat) (r : Nat → Int32) : List Value := [.ref (ad 33), .ref (ad (r 1).toNatClampNeg), .int (r 2), .int (r 3), .int (r 4)]
theorem stX6_1 (ad : Nat → Nat) (c t : Nat) (v : Int32) (hv : v.toNatClampNeg = t) : ∀ r, (flX6 ad c r).set 1 (.ref (ad t)) = flX6 ad c (upd r 1 v) := fun _ => by subst hv; rfl
theorem stX6_2 (ad : Nat → Nat) (c : Nat) (v : Int32) : ∀ r, (flX6 ad c r).set 2 (.int v) = flX6 ad c (upd r 2 v) := fun _ => rfl
theorem stX6_3 (ad : Nat → Nat) (c : Nat) (v : Int32) : ∀ r, (flX6 ad c r).set 3 (.int v) = flX6 ad c (upd r 3 v) := fun _ => rfl
theorem stX6_4 (ad : Nat → Nat) (c : Nat) (v : Int32) : ∀ r, (flX6 ad c r).set 4 (.int v) = flX6 ad c (upd r 4 v) := fun _ => rfl
def flX7 (ad : Nat → Nat) (c : Nat) (r : Nat → Int32) : List Value := [.ref (ad (c + 1)), .ref (ad (c + 2)), .ref (ad (c + 3)), .ref (ad (c + 4)), .int (r 4), .int (r 5)]
theorem stX7_4 (ad : Nat → Nat) (c : Nat) (v : Int32) : ∀ r, (flX7 ad c r).set 4 (.int v) = flX7 ad c (upd r 4 v) := fun _ => rfl
theorem stX7_5 (ad : Nat → Nat) (c : Nat) (v : Int32) : ∀ r, (flX7 ad c r).set 5 (.int v) = flX7 ad c (upd r 5 v) := fun _ => rfl
def flX8 (ad : Nat → Nat) (c : Nat) (r : Nat → Int32) : List Value := [.ref (ad (c + 1)), .ref (ad (c + 2)), .int (r 2), .int (r 3)]
theorem stX8_2 (ad : Nat → Nat) (c : Nat) (v : Int32) : ∀ r, (flX8 ad c r).set 2 (.int v) = flX8 ad c (upd r 2 v) := fun _ => rfl
theorem stX8_3 (ad : Nat → Nat) (c : Nat) (v : Int32) : ∀ r, (flX8 ad c r).set 3 (.int v) = flX8 ad c (upd r 3 v) := fun _ => rfl
def flX9 (ad : Nat → Nat) (c : Nat) (r : Nat → Int32) : List Value := [.ref (ad (c + 1)), .int (r 1), .int (r 2), .int (r 3), .int (r 4)]
theorem stX9_1 (ad : Nat → Nat) (c : Nat) (v : Int32) : ∀ r, (flX9 ad c r).set 1 (.int v) = flX9 ad c (upd r 1 v) := fun _ => rfl
theorem stX9_2 (ad : Nat → Nat) (c : Nat) (v : Int32) : ∀ r, (flX9 ad c r).set 2 (.int v) = flX9 ad c (upd r 2 v) := fun _ => rfl
theorem stX9_3 (ad : Nat → Nat) (c : Nat) (v : Int32) : ∀ r, (flX9 ad c r).set 3 (.int v) = flX9 ad c (upd r 3 v) := fun _ => rfl
theorem stX9_4 (ad : Nat → Nat) (c : Nat) (v : Int32) : ∀ r, (flX9 ad c r).set 4 (.int v) = flX9 ad c (upd r 4 v) := fun _ => rfl
def flX10 (ad : Nat → Nat) (c : Nat) (r : Nat → Int32) : List Value := [.ref (ad (c + 1)), .int (r 1), .ref (ad (r 2).toNatClampNeg), .int (r 3), .int (r 4), .int (r 5)]
theorem stX10_1 (ad : Nat → Nat) (c : Nat) (v : Int32) : ∀ r, (flX10 ad c r).set 1 (.int v) = flX10 ad c (upd r 1 v) := fun _ => rfl
theorem stX10_2 (ad : Nat → Nat) (c t : Nat) (v : Int32) (hv : v.toNatClampNeg = t) : ∀ r, (flX10 ad c r).set 2 (.ref (ad t)) = flX10 ad c (upd r 2 v) := fun _ => by subst hv; rfl
theorem stX10_3 (ad : Nat → Nat) (c : Nat) (v : Int32) : ∀ r, (flX10 ad c r).set 3 (.int v) = flX10 ad c (upd r 3 v) := fun _ => rfl
theorem stX10_4 (ad : Nat → Nat) (c : Nat) (v : Int32) : ∀ r, (flX10 ad c r).set 4 (.int v) = flX10 ad c (upd r 4 v) := fun _ => rfl
theorem stX10_5 (ad : Nat → Nat) (c : Nat) (v : Int32) : ∀ r, (flX10 ad c r).set 5 (.int v) = flX10 ad c (upd r 5 v) := fun _ => rfl
def flX11 (ad : Nat → Nat) (c : Nat) (r : Nat → Int32) : List Value := [.ref (ad 1), .int (r 1), .ref (ad 2), .ref (ad 15), .ref (ad 18), .ref (ad 25), .ref (ad 32), .ref (ad 41), .ref (ad 49), .ref (ad 58), .ref (ad 67), .int (r 11), .ref (ad 76), .ref (ad 78), .ref (ad 79), .ref (ad 86), .ref (ad 89)]
theorem stX11_1 (ad : Nat → Nat) (c : Nat) (v : Int32) : ∀ r, (flX11 ad c r).set 1 (.int v) = flX11 ad c (upd r 1 v) := fun _ => rfl
theorem stX11_11 (ad : Nat → Nat) (c : Nat) (v : Int32) : ∀ r, (flX11 ad c r).set 11 (.int v) = flX11 ad c (upd r 11 v) := fun _ => rfl
def flX12 (ad : Nat → Nat) (c : Nat) (r : Nat → Int32) : List Value := [.ref (ad 1), .int (r 1), .int (r 2), .int (r 3), .int (r 4), .int (r 5), .int (r 6), .int (r 7), .int (r 8), .int (r 9), .ref (ad 2), .ref (ad 3), .ref (ad 4), .ref (ad 5), .int (r 14), .int (r 15), .int (r 16), .ref (ad 6), .ref (ad 7), .ref (ad 8), .ref (ad 9), .ref (ad 10), .ref (ad 11), .ref (ad 12), .ref (ad 13), .ref (ad 14), .ref (ad 15), .int (r 27), .int (r 28), .ref (ad 16), .ref (ad 17), .ref (ad 18), .ref (ad 19), .ref (ad 20), .ref (ad 21), .int (r 35), .int (r 36), .ref (ad 22), .int (r 38), .int (r 39), .int (r 40), .int (r 41), .int (r 42), .int (r 43), .int (r 44), .int (r 45), .int (r 46), .int (r 47), .int (r 48), .ref (ad 23), .ref (ad 24), .ref (ad 25), .ref (ad 26), .ref (ad 27), .ref (ad 28), .ref (ad 29), .ref (ad 30), .ref (ad 31), .ref (ad 32), .ref (ad 33), .ref (ad 34), .ref (ad 35), .ref (ad 36), .ref (ad 37), .ref (ad 38), .int (r 65), .int (r 66), .int (r 67), .ref (ad 39), .int (r 69), .int (r 70), .int (r 71), .int (r 72), .int (r 73), .int (r 74), .int (r 75), .int (r 76), .int (r 77), .int (r 78), .int (r 79), .ref (ad 40), .ref (ad 41), .ref (ad 42), .ref (ad 43), .ref (ad 44), .ref (ad 45), .ref (ad 46), .ref (ad 47), .ref (ad 48), .ref (ad 49), .ref (ad 50), .ref (ad 51), .ref (ad 52), .ref (ad 53), .ref (ad 54), .int (r 95), .ref (ad 55), .ref (ad 56), .ref (ad 57), .ref (ad 58), .ref (ad 59)]
theorem stX12_1 (ad : Nat → Nat) (c : Nat) (v : Int32) : ∀ r, (flX12 ad c r).set 1 (.int v) = flX12 ad c (upd r 1 v) := fun _ => rfl
theorem stX12_2 (ad : Nat → Nat) (c : Nat) (v : Int32) : ∀ r, (flX12 ad c r).set 2 (.int v) = flX12 ad c (upd r 2 v) := fun _ => rfl
theorem stX12_3 (ad : Nat → Nat) (c : Nat) (v : Int32) : ∀ r, (flX12 ad c r).set 3 (.int v) = flX12 ad c (upd r 3 v) := fun _ => rfl
theorem stX12_4 (ad : Nat → Nat) (c : Nat) (v : Int32) : ∀ r, (flX12 ad c r).set 4 (.int v) = flX12 ad c (upd r 4 v) := fun _ => rfl
theorem stX12_5 (ad : Nat → Nat) (c : Nat) (v : Int32) : ∀ r, (flX12 ad c r).set 5 (.int v) = flX12 ad c (upd r 5 v) := fun _ => rfl
theorem stX12_6 (ad : Nat → Nat) (c : Nat) (v : Int32) : ∀ r, (flX12 ad c r).set 6 (.int v) = flX12 ad c (upd r 6 v) := fun _ => rfl
theorem stX12_7 (ad : Nat → Nat) (c : Nat) (v : Int32) : ∀ r, (flX12 ad c r).set 7 (.int v) = flX12 ad c (upd r 7 v) := fun _ => rfl
theorem stX12_8 (ad : Nat → Nat) (c : Nat) (v : Int32) : ∀ r, (flX12 ad c r).set 8 (.int v) = flX12 ad c (upd r 8 v) := fun _ => rfl
theorem stX12_9 (ad : Nat → Nat) (c : Nat) (v : Int32) : ∀ r, (flX12 ad c r).set 9 (.int v) = flX12 ad c (upd r 9 v) := fun _ => rfl
theorem stX12_14 (ad : Nat → Nat) (c : Nat) (v : Int32) : ∀ r, (flX12 ad c r).set 14 (.int v) = flX12 ad c (upd r 14 v) := fun _ => rfl
theorem stX12_15 (ad : Nat → Nat) (c : Nat) (v : Int32) : ∀ r, (flX12 ad c r).set 15 (.int v) = flX12 ad c (upd r 15 v) := fun _ => rfl
theorem stX12_16 (ad : Nat → Nat) (c : Nat) (v : Int32) : ∀ r, (flX12 ad c r).set 16 (.int v) = flX12 ad c (upd r 16 v) := fun _ => rfl
theorem stX12_27 (ad : Nat → Nat) (c : Nat) (v : Int32) : ∀ r, (flX12 ad c r).set 27 (.int v) = flX12 ad c (upd r 27 v) := fun _ => rfl
theorem stX12_28 (ad : Nat → Nat) (c : Nat) (v : Int32) : ∀ r, (flX12 ad c r).set 28 (.int v) = flX12 ad c (upd r 28 v) := fun _ => rfl
theorem stX12_35 (ad : Nat → Nat) (c : Nat) (v : Int32) : ∀ r, (flX12 ad c r).set 35 (.int v) = flX12 ad c (upd r 35 v) := fun _ => rfl
theorem stX12_36 (ad : Nat → Nat) (c : Nat) (v : Int32) : ∀ r, (flX12 ad c r).set 36 (.int v) = flX12 ad c (upd r 36 v) := fun _ => rfl
theorem stX12_38 (ad : Nat → Nat) (c : Nat) (v : Int32) : ∀ r, (flX12 ad c r).set 38 (.int v) = flX12 ad c (upd r 38 v) := fun _ => rfl
theorem stX12_39 (ad : Nat → Nat) (c : Nat) (v : Int32) : ∀ r, (flX12 ad c r).set 39 (.int v) = flX12 ad c (upd r 39 v) := fun _ => rfl
theorem stX12_40 (ad : Nat → Nat) (c : Nat) (v : Int32) : ∀ r, (flX12 ad c r).set 40 (.int v) = flX12 ad c (upd r 40 v) := fun _ => rfl
theorem stX12_41 (ad : Nat → Nat) (c : Nat) (v : Int32) : ∀ r, (flX12 ad c r).set 41 (.int v) = flX12 ad c (upd r 41 v) := fun _ => rfl
theorem stX12_42 (ad : Nat → Nat) (c : Nat) (v : Int32) : ∀ r, (flX12 ad c r).set 42 (.int v) = flX12 ad c (upd r 42 v) := fun _ => rfl
theorem stX12_43 (ad : Nat → Nat) (c : Nat) (v : Int32) : ∀ r, (flX12 ad c r).set 43 (.int v) = flX12 ad c (upd r 43 v) := fun _ => rfl
theorem stX12_44 (ad : Nat → Nat) (c : Nat) (v : Int32) : ∀ r, (flX12 ad c r).set 44 (.int v) = flX12 ad c (upd r 44 v) := fun _ => rfl
theorem stX12_45 (ad : Nat → Nat) (c : Nat) (v : Int32) : ∀ r, (flX12 ad c r).set 45 (.int v) = flX12 ad c (upd r 45 v) := fun _ => rfl
theorem stX12_46 (ad : Nat → Nat) (c : Nat) (v : Int32) : ∀ r, (flX12 ad c r).set 46 (.int v) = flX12 ad c (upd r 46 v) := fun _ => rfl
theorem stX12_47 (ad : Nat → Nat) (c : Nat) (v : Int32) : ∀ r, (flX12 ad c r).set 47 (.int v) = flX12 ad c (upd r 47 v) := fun _ => rfl
theorem stX12_48 (ad : Nat → Nat) (c : Nat) (v : Int32) : ∀ r, (flX12 ad c r).set 48 (.int v) = flX12 ad c (upd r 48 v) := fun _ => rfl
theorem stX12_65 (ad : Nat → Nat) (c : Nat) (v : Int32) : ∀ r, (flX12 ad c r).set 65 (.int v) = flX12 ad c (upd r 65 v) := fun _ => rfl
theorem stX12_66 (ad : Nat → Nat) (c : Nat) (v : Int32) : ∀ r, (flX12 ad c r).set 66 (.int v) = flX12 ad c (upd r 66 v) := fun _ => rfl
theorem stX12_67 (ad : Nat → Nat) (c : Nat) (v : Int32) : ∀ r, (flX12 ad c r).set 67 (.int v) = flX12 ad c (upd r 67 v) := fun _ => rfl
theorem stX12_69 (ad : Nat → Nat) (c : Nat) (v : Int32) : ∀ r, (flX12 ad c r).set 69 (.int v) = flX12 ad c (upd r 69 v) := fun _ => rfl
theorem stX12_70 (ad : Nat → Nat) (c : Nat) (v : Int32) : ∀ r, (flX12 ad c r).set 70 (.int v) = flX12 ad c (upd r 70 v) := fun _ => rfl
theorem stX12_71 (ad : Nat → Nat) (c : Nat) (v : Int32) : ∀ r, (flX12 ad c r).set 71 (.int v) = flX12 ad c (upd r 71 v) := fun _ => rfl
theorem stX12_72 (ad : Nat → Nat) (c : Nat) (v : Int32) : ∀ r, (flX12 ad c r).set 72 (.int v) = flX12 ad c (upd r 72 v) := fun _ => rfl
theorem stX12_73 (ad : Nat → Nat) (c : Nat) (v : Int32) : ∀ r, (flX12 ad c r).set 73 (.int v) = flX12 ad c (upd r 73 v) := fun _ => rfl
theorem stX12_74 (ad : Nat → Nat) (c : Nat) (v : Int32) : ∀ r, (flX12 ad c r).set 74 (.int v) = flX12 ad c (upd r 74 v) := fun _ => rfl
theorem stX12_75 (ad : Nat → Nat) (c : Nat) (v : Int32) : ∀ r, (flX12 ad c r).set 75 (.int v) = flX12 ad c (upd r 75 v) := fun _ => rfl
theorem stX12_76 (ad : Nat → Nat) (c : Nat) (v : Int32) : ∀ r, (flX12 ad c r).set 76 (.int v) = flX12 ad c (upd r 76 v) := fun _ => rfl
theorem stX12_77 (ad : Nat → Nat) (c : Nat) (v : Int32) : ∀ r, (flX12 ad c r).set 77 (.int v) = flX12 ad c (upd r 77 v) := fun _ => rfl
theorem stX12_78 (ad : Nat → Nat) (c : Nat) (v : Int32) : ∀ r, (flX12 ad c r).set 78 (.int v) = flX12 ad c (upd r 78 v) := fun _ => rfl
theorem stX12_79 (ad : Nat → Nat) (c : Nat) (v : Int32) : ∀ r, (flX12 ad c r).set 79 (.int v) = flX12 ad c (upd r 79 v) := fun _ => rfl
theorem stX12_95 (ad : Nat → Nat) (c : Nat) (v : Int32) : ∀ r, (flX12 ad c r).set 95 (.int v) = flX12 ad c (upd r 95 v) := fun _ => rfl
def enC (g : xG) (c : Nat) (r : Nat → Int32) (r2 : Nat → Int64) : va_E :=
  if kC c = 20 then .inl (gI g, lC c, .inl r) else if kC c = 21 then .inl (gJ g, lC c, .inr (.inl r2)) else if kC c = 22 then .inl (gS g, 6, .inr (.inr (.inr (.inr (fun k => some (ga g (3 + 2 * k))))))) else
  if kC c = 0 then .inr (0, flX0 (ga g) c r) else
  if kC c = 1 then .inr (1, flX1 (ga g) c r) else
  if kC c = 2 then .inr (2, flX2 (ga g) c r) else
  if kC c = 3 then .inr (3, flX3 (ga g) c r) else
  if kC c = 4 then .inr (4, flX4 (ga g) c r) else
  if kC c = 5 then .inr (5, flX5 (ga g) c r) else
  if kC c = 6 then .inr (6, flX6 (ga g) c r) else
  if kC c = 7 then .inr (7, flX7 (ga g) c r) else
  if kC c = 8 then .inr (8, flX8 (ga g) c r) else
  if kC c = 9 then .inr (9, flX9 (ga g) c r) else
  if kC c = 10 then .inr (10, flX10 (ga g) c r) else
  if kC c = 11 then .inr (11, flX11 (ga g) c r) else
  .inl (gI g, 0, .inl r)
def enM (g : xG) (c : Nat) (r : Nat → Int32) (r2 : Nat → Int64) : va_E :=
  if kM c = 20 then .inl (gI g, lM c, .inl r) else if kM c = 23 then .inl (gJ g, lM c, .inl r) else if kM c = 24 then .inl (gS g, lM c, .inl r) else .inr (12, flX12 (ga g) c r)
theorem enC_20 {g : xG} {c : Nat} (h : kC c = 20) : ∀ r r2, enC g c r r2 = .inl (gI g, lC c, .inl r) := fun r r2 => by simp [enC, h]
theorem enC_21 {g : xG} {c : Nat} (h : kC c = 21) : ∀ r r2, enC g c r r2 = .inl (gJ g, lC c, .inr (.inl r2)) := fun r r2 => by simp [enC, h]
theorem enC_22 {g : xG} {c : Nat} (h : kC c = 22) : ∀ r r2, enC g c r r2 = .inl (gS g, 6, .inr (.inr (.inr (.inr (fun k => some (ga g (3 + 2 * k))))))) := fun r r2 => by simp [enC, h]
theorem enC_0 {g : xG} {c : Nat} (h : kC c = 0) : ∀ r r2, enC g c r r2 = .inr (0, flX0 (ga g) c r) := fun r r2 => by simp [enC, h]
theorem enC_1 {g : xG} {c : Nat} (h : kC c = 1) : ∀ r r2, enC g c r r2 = .inr (1, flX1 (ga g) c r) := fun r r2 => by simp [enC, h]
theorem enC_2 {g : xG} {c : Nat} (h : kC c = 2) : ∀ r r2, enC g c r r2 = .inr (2, flX2 (ga g) c r) := fun r r2 => by simp [enC, h]
theorem enC_3 {g : xG} {c : Nat} (h : kC c = 3) : ∀ r r2, enC g c r r2 = .inr (3, flX3 (ga g) c r) := fun r r2 => by simp [enC, h]
theorem enC_4 {g : xG} {c : Nat} (h : kC c = 4) : ∀ r r2, enC g c r r2 = .inr (4, flX4 (ga g) c r) := fun r r2 => by simp [enC, h]
theorem enC_5 {g : xG} {c : Nat} (h : kC c = 5) : ∀ r r2, enC g c r r2 = .inr (5, flX5 (ga g) c r) := fun r r2 => by simp [enC, h]
theorem enC_6 {g : xG} {c : Nat} (h : kC c = 6) : ∀ r r2, enC g c r r2 = .inr (6, flX6 (ga g) c r) := fun r r2 => by simp [enC, h]
theorem enC_7 {g : xG} {c : Nat} (h : kC c = 7) : ∀ r r2, enC g c r r2 = .inr (7, flX7 (ga g) c r) := fun r r2 => by simp [enC, h]
theorem enC_8 {g : xG} {c : Nat} (h : kC c = 8) : ∀ r r2, enC g c r r2 = .inr (8, flX8 (ga g) c r) := fun r r2 => by simp [enC, h]
theorem enC_9 {g : xG} {c : Nat} (h : kC c = 9) : ∀ r r2, enC g c r r2 = .inr (9, flX9 (ga g) c r) := fun r r2 => by simp [enC, h]
theorem enC_10 {g : xG} {c : Nat} (h : kC c = 10) : ∀ r r2, enC g c r r2 = .inr (10, flX10 (ga g) c r) := fun r r2 => by simp [enC, h]
theorem enC_11 {g : xG} {c : Nat} (h : kC c = 11) : ∀ r r2, enC g c r r2 = .inr (11, flX11 (ga g) c r) := fun r r2 => by simp [enC, h]
theorem enM_20 {g : xG} {c : Nat} (h : kM c = 20) : ∀ r r2, enM g c r r2 = .inl (gI g, lM c, .inl r) := fun r r2 => by simp [enM, h]
theorem enM_23 {g : xG} {c : Nat} (h : kM c = 23) : ∀ r r2, enM g c r r2 = .inl (gJ g, lM c, .inl r) := fun r r2 => by simp [enM, h]
theorem enM_24 {g : xG} {c : Nat} (h : kM c = 24) : ∀ r r2, enM g c r r2 = .inl (gS g, lM c, .inl r) := fun r r2 => by simp [enM, h]
theorem enM_12 {g : xG} {c : Nat} (h : kM c = 12) : ∀ r r2, enM g c r r2 = .inr (12, flX12 (ga g) c r) := fun r r2 => by simp [enM, h]
theorem kC_lt {c k : Nat} (h : kC c = k) (hk : ¬ k = 99) : c < 94 := by
  rcases Nat.lt_or_ge c 94 with q | q
  · exact q
  · exfalso
    apply hk
    rw [← h]
    unfold kC
    rw [List.getD_eq_getElem?_getD, List.getElem?_eq_none (by simpa [kC_] using q)]
    rfl
theorem kM_lt {c k : Nat} (h : kM c = k) (hk : ¬ k = 99) : c < 60 := by
  rcases Nat.lt_or_ge c 60 with q | q
  · exact q
  · exfalso
    apply hk
    rw [← h]
    unfold kM
    rw [List.getD_eq_getElem?_getD, List.getElem?_eq_none (by simpa [kM_] using q)]
    rfl
theorem enC_20n {g : xG} {c n : Nat} (h : kC c = 20) (hl : lC c = n) : ∀ r r2, enC g c r r2 = .inl (gI g, n, .inl r) := fun r r2 => by subst hl; exact enC_20 h r r2
theorem enM_20n {g : xG} {c n : Nat} (h : kM c = 20) (hl : lM c = n) : ∀ r r2, enM g c r r2 = .inl (gI g, n, .inl r) := fun r r2 => by subst hl; exact enM_20 h r r2
theorem enM_23n {g : xG} {c n : Nat} (h : kM c = 23) (hl : lM c = n) : ∀ r r2, enM g c r r2 = .inl (gJ g, n, .inl r) := fun r r2 => by subst hl; exact enM_23 h r r2
theorem enM_24n {g : xG} {c n : Nat} (h : kM c = 24) (hl : lM c = n) : ∀ r r2, enM g c r r2 = .inl (gS g, n, .inl r) := fun r r2 => by subst hl; exact enM_24 h r r2
theorem enC_21n {g : xG} {c n : Nat} (h : kC c = 21) (hl : lC c = n) : ∀ r r2, enC g c r r2 = .inl (gJ g, n, .inr (.inl r2)) := fun r r2 => by subst hl; exact enC_21 h r r2
theorem kdX4 {o : Nat} (h : kC o = 4) : o = 49 ∨ o = 58 ∨ o = 67 := by
  have hlt := kC_lt h (by decide)
  have key : ∀ i : Fin 94, kC i.1 = 4 → i.1 = 49 ∨ i.1 = 58 ∨ i.1 = 67 := by decide +kernel
  exact key ⟨o, hlt⟩ h
theorem krX4_1 {o : Nat} (h : kC o = 4) : kC (o + 1) = 20 := by rcases kdX4 h with rfl | rfl | rfl <;> rfl
theorem lrX4_1 {o : Nat} (h : kC o = 4) : lC (o + 1) = 4 := by rcases kdX4 h with rfl | rfl | rfl <;> rfl
theorem krX4_2 {o : Nat} (h : kC o = 4) : kC (o + 2) = 20 := by rcases kdX4 h with rfl | rfl | rfl <;> rfl
theorem lrX4_2 {o : Nat} (h : kC o = 4) : lC (o + 2) = 4 := by rcases kdX4 h with rfl | rfl | rfl <;> rfl
theorem krX4_3 {o : Nat} (h : kC o = 4) : kC (o + 3) = 20 := by rcases kdX4 h with rfl | rfl | rfl <;> rfl
theorem lrX4_3 {o : Nat} (h : kC o = 4) : lC (o + 3) = 4 := by rcases kdX4 h with rfl | rfl | rfl <;> rfl
theorem krX4_4 {o : Nat} (h : kC o = 4) : kC (o + 4) = 20 := by rcases kdX4 h with rfl | rfl | rfl <;> rfl
theorem lrX4_4 {o : Nat} (h : kC o = 4) : lC (o + 4) = 4 := by rcases kdX4 h with rfl | rfl | rfl <;> rfl
theorem krX4_5 {o : Nat} (h : kC o = 4) : kC (o + 5) = 20 := by rcases kdX4 h with rfl | rfl | rfl <;> rfl
theorem lrX4_5 {o : Nat} (h : kC o = 4) : lC (o + 5) = 10 := by rcases kdX4 h with rfl | rfl | rfl <;> rfl
theorem krX4_6 {o : Nat} (h : kC o = 4) : kC (o + 6) = 20 := by rcases kdX4 h with rfl | rfl | rfl <;> rfl
theorem lrX4_6 {o : Nat} (h : kC o = 4) : lC (o + 6) = 10 := by rcases kdX4 h with rfl | rfl | rfl <;> rfl
theorem krX4_7 {o : Nat} (h : kC o = 4) : kC (o + 7) = 20 := by rcases kdX4 h with rfl | rfl | rfl <;> rfl
theorem lrX4_7 {o : Nat} (h : kC o = 4) : lC (o + 7) = 10 := by rcases kdX4 h with rfl | rfl | rfl <;> rfl
theorem krX4_8 {o : Nat} (h : kC o = 4) : kC (o + 8) = 20 := by rcases kdX4 h with rfl | rfl | rfl <;> rfl
theorem lrX4_8 {o : Nat} (h : kC o = 4) : lC (o + 8) = 10 := by rcases kdX4 h with rfl | rfl | rfl <;> rfl
theorem kdX5 {o : Nat} (h : kC o = 5) : o = 18 ∨ o = 25 ∨ o = 33 := by
  have hlt := kC_lt h (by decide)
  have key : ∀ i : Fin 94, kC i.1 = 5 → i.1 = 18 ∨ i.1 = 25 ∨ i.1 = 33 := by decide +kernel
  exact key ⟨o, hlt⟩ h
theorem krX5_1 {o : Nat} (h : kC o = 5) : kC (o + 1) = 20 := by rcases kdX5 h with rfl | rfl | rfl <;> rfl
theorem lrX5_1 {o : Nat} (h : kC o = 5) : lC (o + 1) = 16 := by rcases kdX5 h with rfl | rfl | rfl <;> rfl
theorem krX5_2 {o : Nat} (h : kC o = 5) : kC (o + 2) = 20 := by rcases kdX5 h with rfl | rfl | rfl <;> rfl
theorem lrX5_2 {o : Nat} (h : kC o = 5) : lC (o + 2) = 16 := by rcases kdX5 h with rfl | rfl | rfl <;> rfl
theorem krX5_3 {o : Nat} (h : kC o = 5) : kC (o + 3) = 20 := by rcases kdX5 h with rfl | rfl | rfl <;> rfl
theorem lrX5_3 {o : Nat} (h : kC o = 5) : lC (o + 3) = 16 := by rcases kdX5 h with rfl | rfl | rfl <;> rfl
theorem krX5_4 {o : Nat} (h : kC o = 5) : kC (o + 4) = 20 := by rcases kdX5 h with rfl | rfl | rfl <;> rfl
theorem lrX5_4 {o : Nat} (h : kC o = 5) : lC (o + 4) = 16 := by rcases kdX5 h with rfl | rfl | rfl <;> rfl
theorem krX5_5 {o : Nat} (h : kC o = 5) : kC (o + 5) = 20 := by rcases kdX5 h with rfl | rfl | rfl <;> rfl
theorem lrX5_5 {o : Nat} (h : kC o = 5) : lC (o + 5) = 240 := by rcases kdX5 h with rfl | rfl | rfl <;> rfl
theorem krX5_6 {o : Nat} (h : kC o = 5) : kC (o + 6) = 20 := by rcases kdX5 h with rfl | rfl | rfl <;> rfl
theorem lrX5_6 {o : Nat} (h : kC o = 5) : lC (o + 6) = 64 := by rcases kdX5 h with rfl | rfl | rfl <;> rfl
theorem kdX9 {o : Nat} (h : kC o = 9) : o = 3 ∨ o = 5 ∨ o = 7 ∨ o = 9 ∨ o = 11 ∨ o = 13 := by
  have hlt := kC_lt h (by decide)
  have key : ∀ i : Fin 94, kC i.1 = 9 → i.1 = 3 ∨ i.1 = 5 ∨ i.1 = 7 ∨ i.1 = 9 ∨ i.1 = 11 ∨ i.1 = 13 := by decide +kernel
  exact key ⟨o, hlt⟩ h
theorem krX9_1 {o : Nat} (h : kC o = 9) : kC (o + 1) = 20 := by rcases kdX9 h with rfl | rfl | rfl | rfl | rfl | rfl <;> rfl
theorem lrX9_1 {o : Nat} (h : kC o = 9) : lC (o + 1) = 72 := by rcases kdX9 h with rfl | rfl | rfl | rfl | rfl | rfl <;> rfl
theorem kst {i : Int32} (h : vp_in i 6) : kC (3 + 2 * i.toNatClampNeg) = 9 := by
  have hlt : i.toNatClampNeg < 6 := Nat.not_le.mp fun q => h (Or.inr q)
  have key : ∀ j : Fin 6, kC (3 + 2 * j.1) = 9 := by decide +kernel
  exact key ⟨_, hlt⟩
def sg_len : List Nat := [22, 7, 12, 3, 8, 2, 3]
def sg_byt : List (List Int32) := [[97, 98, 99, 100, 101, 102, 103, 104, 105, 106, 65, 66, 67, 68, 69, 70, 71, 72, 73, 74, 42, 46], [110, 112, 116, 115, 102, 103, 120], [107, 117, 109, 111, 108, 97, 114, 101, 99, 122, 104, 118], [42, 47, 37], [43, 45, 42, 47, 37, 60, 62, 61], [43, 45], [60, 62, 61]]
def sg_own : List (String × Nat × String) := [("LineGuild$StoryReader", 63, "abcdefghijABCDEFGHIJ*."), ("LineGuild$LawReader", 51, "nptsfgx"), ("LineGuild$LawReader", 107, "kumolareczhv"), ("LineGuild$LawReader", 103, "*/%"), ("LineGuild$LawReader", 93, "+-*/%<>="), ("LineGuild$LawReader", 98, "+-"), ("LineGuild$LawReader", 91, "<>=")]
def sg_R (adK : Nat → Nat) (U : State) : Prop := ∀ (i : Nat) (q : String × Nat × String), sg_own[i]? = some q → vk_R q.1 q.2.1 q.2.2 (adK i) U
def bd_v : Nat → Value := fun j => .int (([20, 999, 9, 9, 99, 10, 1] : List Int32).getD j 0)
/-- what the system reads of the start: its texts, String's own switch, the bounds of a law -/
def exC (g : xG) (A : Nat → Prop) (U : State) (H : Heap) : Prop := vk_S 7 sg_len sg_byt (gK g) (gV g) A U H ∧ sg_R (gK g) U ∧ va_Z "java/lang/String" "COMPACT_STRINGS" "Z" (.int 1) A U H ∧ va_Zq "jdk/internal/util/Preconditions" "SIOOBE_FORMATTER" "Ljava/util/function/BiFunction;" A U H ∧ va_Z "LineGuild$Law" "BOUNDS" "[I" (.ref (gB g)) A U H ∧ va_T .int (gB g) 7 bd_v A U H
abbrev WC (g : xG) : xWd := (gD g, vwCl, [(gI g, .int), (gJ g, .long), (gS g, .object "LineGuild$Story")], ga g, enC g, 94, exC g)
abbrev WM (g : xG) : xWd := (gD g, vwCl, [(gI g, .int), (gJ g, .byte), (gS g, .boolean)], ga g, enM g, 60, fun _ _ _ => True)
theorem x_stM (g : xG) : x_st (WM g) := ⟨fun _ _ _ _ _ _ => trivial, fun _ _ _ _ _ => trivial⟩
theorem x_stC (g : xG) : x_st (WC g) := by
  refine ⟨fun s U H h hW hk => ?_, fun u U H hv h => ?_⟩
  · obtain ⟨h1, h2, h3, h4, h5, h6⟩ := h
    exact ⟨(h1.kept hk).moved hW.alike, fun i q hq => (h2 i q hq).warm hW, (h3.kept hk).moved hW.alike, (h4.kept hk).moved hW.alike, (h5.kept hk).moved hW.alike, (h6.kept hk).moved hW.alike⟩
  · obtain ⟨h1, h2, h3, h4, h5, h6⟩ := h
    have ha : u.vm.Alike U.vm := hv ▸ Vm.Alike.refl u.vm
    exact ⟨h1.moved ha, fun i q hq => (h2 i q hq).same hv.symm, h3.moved ha, h4.moved ha, h5.moved ha, h6.moved ha⟩
