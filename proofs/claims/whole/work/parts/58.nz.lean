theorem z_lt_t {a b : Nat} (h : a < b ∧ b < 2 ^ 31) : (nI a < nI b) = True := eq_true (nI_lt h.1 h.2)
theorem z_lt_f {a b : Nat} (h : b ≤ a ∧ a < 2 ^ 31) : (nI a < nI b) = False := eq_false (nI_nlt h.1 h.2)
theorem z_le_t {a b : Nat} (h : a ≤ b ∧ b < 2 ^ 31) : (nI a ≤ nI b) = True := eq_true (nI_le h.1 h.2)
theorem z_le_f {a b : Nat} (h : b < a ∧ a < 2 ^ 31) : (nI a ≤ nI b) = False := eq_false (nI_ge h.1 h.2)
theorem z_lt {a b : Nat} (h : a < 2 ^ 31 ∧ b < 2 ^ 31) : (nI a < nI b) = (a < b) := by
  by_cases q : a < b
  · rw [eq_true (nI_lt q h.2), eq_true q]
  · rw [eq_false (nI_nlt (Nat.le_of_not_lt q) h.1), eq_false q]
theorem z_le {a b : Nat} (h : a < 2 ^ 31 ∧ b < 2 ^ 31) : (nI a ≤ nI b) = (a ≤ b) := by
  by_cases q : a ≤ b
  · rw [eq_true (nI_le q h.2), eq_true q]
  · rw [eq_false (nI_ge (Nat.lt_of_not_le q) h.1), eq_false q]
theorem z_eq {a b : Nat} (h : a < 2 ^ 31 ∧ b < 2 ^ 31) : (nI a = nI b) = (a = b) := propext (nI_eq h.1 h.2)
theorem z_eq_t {a b : Nat} (h : a = b) : (nI a = nI b) = True := by rw [h]; exact eq_true rfl
theorem z_eq_f {a b : Nat} (h : a ≠ b ∧ a < 2 ^ 31 ∧ b < 2 ^ 31) : (nI a = nI b) = False := by rw [z_eq h.2]; exact eq_false h.1
/-- with a number written out -/
theorem z_ofN (n : Nat) : (OfNat.ofNat n : Int32) = nI (OfNat.ofNat n) := rfl
theorem z_lt0 {a : Nat} (h : a < 2 ^ 31) : (nI a < 0) = False := eq_false (nI_pos h)
theorem z_lt1 {a n : Nat} (h : a < 2 ^ 31 ∧ (OfNat.ofNat n : Nat) < 2 ^ 31) : (nI a < (no_index (OfNat.ofNat n : Int32))) = (a < OfNat.ofNat n) := z_lt h
theorem z_lt2 {a n : Nat} (h : a < 2 ^ 31 ∧ (OfNat.ofNat n : Nat) < 2 ^ 31) : ((no_index (OfNat.ofNat n : Int32)) < nI a) = (OfNat.ofNat n < a) := z_lt ⟨h.2, h.1⟩
theorem z_le1 {a n : Nat} (h : a < 2 ^ 31 ∧ (OfNat.ofNat n : Nat) < 2 ^ 31) : (nI a ≤ (no_index (OfNat.ofNat n : Int32))) = (a ≤ OfNat.ofNat n) := z_le h
theorem z_le2 {a n : Nat} (h : a < 2 ^ 31 ∧ (OfNat.ofNat n : Nat) < 2 ^ 31) : ((no_index (OfNat.ofNat n : Int32)) ≤ nI a) = (OfNat.ofNat n ≤ a) := z_le ⟨h.2, h.1⟩
theorem z_eq1 {a n : Nat} (h : a < 2 ^ 31 ∧ (OfNat.ofNat n : Nat) < 2 ^ 31) : (nI a = (no_index (OfNat.ofNat n : Int32))) = (a = OfNat.ofNat n) := z_eq h
theorem z_eq2 {a n : Nat} (h : a < 2 ^ 31 ∧ (OfNat.ofNat n : Nat) < 2 ^ 31) : ((no_index (OfNat.ofNat n : Int32)) = nI a) = (OfNat.ofNat n = a) := z_eq ⟨h.2, h.1⟩
theorem z_lt1_t {a n : Nat} (h : (a < (OfNat.ofNat n : Nat)) ∧ a < 2 ^ 31 ∧ (OfNat.ofNat n : Nat) < 2 ^ 31) : (nI a < (no_index (OfNat.ofNat n : Int32))) = True := by rw [z_lt1 h.2]; exact eq_true h.1
theorem z_lt1_f {a n : Nat} (h : ((OfNat.ofNat n : Nat) ≤ a) ∧ a < 2 ^ 31 ∧ (OfNat.ofNat n : Nat) < 2 ^ 31) : (nI a < (no_index (OfNat.ofNat n : Int32))) = False := by rw [z_lt1 h.2]; exact eq_false (fun q => by have q2 : a < (OfNat.ofNat n : Nat) := q; omega)
theorem z_lt2_t {a n : Nat} (h : ((OfNat.ofNat n : Nat) < a) ∧ a < 2 ^ 31 ∧ (OfNat.ofNat n : Nat) < 2 ^ 31) : ((no_index (OfNat.ofNat n : Int32)) < nI a) = True := by rw [z_lt2 h.2]; exact eq_true h.1
theorem z_lt2_f {a n : Nat} (h : (a ≤ (OfNat.ofNat n : Nat)) ∧ a < 2 ^ 31 ∧ (OfNat.ofNat n : Nat) < 2 ^ 31) : ((no_index (OfNat.ofNat n : Int32)) < nI a) = False := by rw [z_lt2 h.2]; exact eq_false (fun q => by have q2 : (OfNat.ofNat n : Nat) < a := q; omega)
theorem z_le1_t {a n : Nat} (h : (a ≤ (OfNat.ofNat n : Nat)) ∧ a < 2 ^ 31 ∧ (OfNat.ofNat n : Nat) < 2 ^ 31) : (nI a ≤ (no_index (OfNat.ofNat n : Int32))) = True := by rw [z_le1 h.2]; exact eq_true h.1
theorem z_le1_f {a n : Nat} (h : ((OfNat.ofNat n : Nat) < a) ∧ a < 2 ^ 31 ∧ (OfNat.ofNat n : Nat) < 2 ^ 31) : (nI a ≤ (no_index (OfNat.ofNat n : Int32))) = False := by rw [z_le1 h.2]; exact eq_false (fun q => by have q2 : a ≤ (OfNat.ofNat n : Nat) := q; omega)
theorem z_le2_t {a n : Nat} (h : ((OfNat.ofNat n : Nat) ≤ a) ∧ a < 2 ^ 31 ∧ (OfNat.ofNat n : Nat) < 2 ^ 31) : ((no_index (OfNat.ofNat n : Int32)) ≤ nI a) = True := by rw [z_le2 h.2]; exact eq_true h.1
theorem z_le2_f {a n : Nat} (h : (a < (OfNat.ofNat n : Nat)) ∧ a < 2 ^ 31 ∧ (OfNat.ofNat n : Nat) < 2 ^ 31) : ((no_index (OfNat.ofNat n : Int32)) ≤ nI a) = False := by rw [z_le2 h.2]; exact eq_false (fun q => by have q2 : (OfNat.ofNat n : Nat) ≤ a := q; omega)
theorem z_eq1_t {a n : Nat} (h : (a = (OfNat.ofNat n : Nat)) ∧ a < 2 ^ 31 ∧ (OfNat.ofNat n : Nat) < 2 ^ 31) : (nI a = (no_index (OfNat.ofNat n : Int32))) = True := by rw [z_eq1 h.2]; exact eq_true h.1
theorem z_eq1_f {a n : Nat} (h : (a ≠ (OfNat.ofNat n : Nat)) ∧ a < 2 ^ 31 ∧ (OfNat.ofNat n : Nat) < 2 ^ 31) : (nI a = (no_index (OfNat.ofNat n : Int32))) = False := by rw [z_eq1 h.2]; exact eq_false (fun q => by have q2 : a = (OfNat.ofNat n : Nat) := q; omega)
theorem z_eq2_t {a n : Nat} (h : ((OfNat.ofNat n : Nat) = a) ∧ a < 2 ^ 31 ∧ (OfNat.ofNat n : Nat) < 2 ^ 31) : ((no_index (OfNat.ofNat n : Int32)) = nI a) = True := by rw [z_eq2 h.2]; exact eq_true h.1
theorem z_eq2_f {a n : Nat} (h : (a ≠ (OfNat.ofNat n : Nat)) ∧ a < 2 ^ 31 ∧ (OfNat.ofNat n : Nat) < 2 ^ 31) : ((no_index (OfNat.ofNat n : Int32)) = nI a) = False := by rw [z_eq2 h.2]; exact eq_false (fun q => by have q2 : (OfNat.ofNat n : Nat) = a := q; omega)
theorem z_in {a n : Nat} (h : a < n ∧ n < 2 ^ 31) : vp_in (nI a) n = True := eq_true (vp_in_nI h.1 h.2)
theorem z_cl {a : Nat} (h : a < 2 ^ 31) : (nI a).toNatClampNeg = a := nI_clamp h
theorem z_cl1 {n : Nat} (h : (OfNat.ofNat n : Nat) < 2 ^ 31) : (no_index (OfNat.ofNat n : Int32)).toNatClampNeg = OfNat.ofNat n := nI_clamp h
theorem z_add (a b : Nat) : nI a + nI b = nI (a + b) := nI_add a b
theorem z_add1 (a n : Nat) : nI a + (no_index (OfNat.ofNat n : Int32)) = nI (a + OfNat.ofNat n) := nI_add a n
theorem z_sub {a b : Nat} (h : b ≤ a) : nI a - nI b = nI (a - b) := by
  obtain ⟨c, rfl⟩ := Nat.exists_eq_add_of_le h
  rw [← nI_add, Nat.add_sub_cancel_left, Int32.add_comm, Int32.sub_eq_add_neg, Int32.add_assoc, Int32.add_right_neg, Int32.add_zero]
theorem z_subl {a n : Nat} (h : (OfNat.ofNat n : Nat) ≤ a) : nI a - (no_index (OfNat.ofNat n : Int32)) = nI (a - OfNat.ofNat n) := z_sub h
theorem z_addm {a n : Nat} (h : (OfNat.ofNat n : Nat) ≤ a) : nI a + (-(no_index (OfNat.ofNat n : Int32))) = nI (a - OfNat.ofNat n) := by rw [← Int32.sub_eq_add_neg]; exact z_sub h
theorem z_mul (a b : Nat) : nI a * nI b = nI (a * b) := pk_mul a b
theorem z_mull (n a : Nat) : (no_index (OfNat.ofNat n : Int32)) * nI a = nI (OfNat.ofNat n * a) := pk_mul n a
theorem z_or (a b : Nat) : nI a ||| nI b = nI (a ||| b) := or_n a b
theorem z_and (a b : Nat) : nI a &&& nI b = nI (a &&& b) := and_n a b
theorem z_shl {k : Nat} (h : k < 31) : (1 : Int32) <<< (nI k &&& 31) = nI (2 ^ k) := shl1_n h
/-- memory -/
theorem g_same (M : xMem) (c i : Nat) (v : Int32) : gi (si M c i v) c i = v := by rw [gi_si, if_pos ⟨rfl, rfl⟩]
theorem g_c {M : xMem} {c i : Nat} {v : Int32} {c' i' : Nat} (h : c' ≠ c) : gi (si M c i v) c' i' = gi M c' i' := gi_si_c M h i v i'
theorem g_i {M : xMem} {c i : Nat} {v : Int32} {c' i' : Nat} (h : i' ≠ i) : gi (si M c i v) c' i' = gi M c' i' := by rw [gi_si, if_neg (fun q => h q.2)]
theorem le_in {b c : Nat} (h : (OfNat.ofNat b : Nat) < 2 ^ 31 ∧ (OfNat.ofNat c : Nat) < 2 ^ 31) (x : Int32) : (((no_index (OfNat.ofNat b : Int32)).toInt ≤ x.toInt ∧ x.toInt ≤ (no_index (OfNat.ofNat c : Int32)).toInt)) = ((OfNat.ofNat b : Int) ≤ x.toInt ∧ x.toInt ≤ (OfNat.ofNat c : Int)) := by
  rw [show (OfNat.ofNat b : Int32).toInt = (b : Int) from nI_toInt h.1, show (OfNat.ofNat c : Int32).toInt = (c : Int) from nI_toInt h.2]
  rfl
theorem zi0 : (0 : Int32).toInt = 0 := by decide
theorem zj0 : (0 : Int64).toInt = 0 := by decide
theorem zi1 : (1 : Int32).toInt = 1 := by decide
theorem zj1 : (1 : Int64).toInt = 1 := by decide
theorem zi2 : (2 : Int32).toInt = 2 := by decide
theorem zj2 : (2 : Int64).toInt = 2 := by decide
theorem zi3 : (3 : Int32).toInt = 3 := by decide
theorem zj3 : (3 : Int64).toInt = 3 := by decide
theorem zi4 : (4 : Int32).toInt = 4 := by decide
theorem zj4 : (4 : Int64).toInt = 4 := by decide
theorem zi5 : (5 : Int32).toInt = 5 := by decide
theorem zj5 : (5 : Int64).toInt = 5 := by decide
theorem zi6 : (6 : Int32).toInt = 6 := by decide
theorem zj6 : (6 : Int64).toInt = 6 := by decide
theorem zi7 : (7 : Int32).toInt = 7 := by decide
theorem zj7 : (7 : Int64).toInt = 7 := by decide
theorem zi8 : (8 : Int32).toInt = 8 := by decide
theorem zj8 : (8 : Int64).toInt = 8 := by decide
theorem zi9 : (9 : Int32).toInt = 9 := by decide
theorem zj9 : (9 : Int64).toInt = 9 := by decide
theorem zi10 : (10 : Int32).toInt = 10 := by decide
theorem zj10 : (10 : Int64).toInt = 10 := by decide
theorem zi12 : (12 : Int32).toInt = 12 := by decide
theorem zj12 : (12 : Int64).toInt = 12 := by decide
theorem zi13 : (13 : Int32).toInt = 13 := by decide
theorem zj13 : (13 : Int64).toInt = 13 := by decide
theorem zi19 : (19 : Int32).toInt = 19 := by decide
theorem zj19 : (19 : Int64).toInt = 19 := by decide
theorem zi20 : (20 : Int32).toInt = 20 := by decide
theorem zj20 : (20 : Int64).toInt = 20 := by decide
theorem zi21 : (21 : Int32).toInt = 21 := by decide
theorem zj21 : (21 : Int64).toInt = 21 := by decide
theorem zi29 : (29 : Int32).toInt = 29 := by decide
theorem zj29 : (29 : Int64).toInt = 29 := by decide
theorem zi30 : (30 : Int32).toInt = 30 := by decide
theorem zj30 : (30 : Int64).toInt = 30 := by decide
theorem zi39 : (39 : Int32).toInt = 39 := by decide
theorem zj39 : (39 : Int64).toInt = 39 := by decide
theorem zi48 : (48 : Int32).toInt = 48 := by decide
theorem zj48 : (48 : Int64).toInt = 48 := by decide
theorem zi50 : (50 : Int32).toInt = 50 := by decide
theorem zj50 : (50 : Int64).toInt = 50 := by decide
theorem zi57 : (57 : Int32).toInt = 57 := by decide
theorem zj57 : (57 : Int64).toInt = 57 := by decide
theorem zi60 : (60 : Int32).toInt = 60 := by decide
theorem zj60 : (60 : Int64).toInt = 60 := by decide
theorem zi63 : (63 : Int32).toInt = 63 := by decide
theorem zj63 : (63 : Int64).toInt = 63 := by decide
theorem zi65 : (65 : Int32).toInt = 65 := by decide
theorem zj65 : (65 : Int64).toInt = 65 := by decide
theorem zi71 : (71 : Int32).toInt = 71 := by decide
theorem zj71 : (71 : Int64).toInt = 71 := by decide
theorem zi72 : (72 : Int32).toInt = 72 := by decide
theorem zj72 : (72 : Int64).toInt = 72 := by decide
theorem zi73 : (73 : Int32).toInt = 73 := by decide
theorem zj73 : (73 : Int64).toInt = 73 := by decide
theorem zi74 : (74 : Int32).toInt = 74 := by decide
theorem zj74 : (74 : Int64).toInt = 74 := by decide
theorem zi80 : (80 : Int32).toInt = 80 := by decide
theorem zj80 : (80 : Int64).toInt = 80 := by decide
theorem zi97 : (97 : Int32).toInt = 97 := by decide
theorem zj97 : (97 : Int64).toInt = 97 := by decide
theorem zi98 : (98 : Int32).toInt = 98 := by decide
theorem zj98 : (98 : Int64).toInt = 98 := by decide
theorem zi99 : (99 : Int32).toInt = 99 := by decide
theorem zj99 : (99 : Int64).toInt = 99 := by decide
theorem zi100 : (100 : Int32).toInt = 100 := by decide
theorem zj100 : (100 : Int64).toInt = 100 := by decide
theorem zi106 : (106 : Int32).toInt = 106 := by decide
theorem zj106 : (106 : Int64).toInt = 106 := by decide
theorem zi240 : (240 : Int32).toInt = 240 := by decide
theorem zj240 : (240 : Int64).toInt = 240 := by decide
theorem zi255 : (255 : Int32).toInt = 255 := by decide
theorem zj255 : (255 : Int64).toInt = 255 := by decide
theorem zi260 : (260 : Int32).toInt = 260 := by decide
theorem zj260 : (260 : Int64).toInt = 260 := by decide
theorem zi300 : (300 : Int32).toInt = 300 := by decide
theorem zj300 : (300 : Int64).toInt = 300 := by decide
theorem zi999 : (999 : Int32).toInt = 999 := by decide
theorem zj999 : (999 : Int64).toInt = 999 := by decide
theorem zi1000 : (1000 : Int32).toInt = 1000 := by decide
theorem zj1000 : (1000 : Int64).toInt = 1000 := by decide
theorem zi1023 : (1023 : Int32).toInt = 1023 := by decide
theorem zj1023 : (1023 : Int64).toInt = 1023 := by decide
theorem zi1024 : (1024 : Int32).toInt = 1024 := by decide
theorem zj1024 : (1024 : Int64).toInt = 1024 := by decide
theorem zi9999 : (9999 : Int32).toInt = 9999 := by decide
theorem zj9999 : (9999 : Int64).toInt = 9999 := by decide
theorem zi65535 : (65535 : Int32).toInt = 65535 := by decide
theorem zj65535 : (65535 : Int64).toInt = 65535 := by decide
theorem zi65536 : (65536 : Int32).toInt = 65536 := by decide
theorem zj65536 : (65536 : Int64).toInt = 65536 := by decide
theorem z_tn {n : Nat} (h : n < 2 ^ 31) : (nI n).toInt = (n : Int) := nI_toInt h
theorem z_m1 : (-1 : Int32).toInt = -1 := by decide
theorem z_m2 : (-2 : Int32).toInt = -2 := by decide
theorem z_bt {p : Prop} [Decidable p] (h : p) : b2i p = 1 := if_pos h
theorem z_bf {p : Prop} [Decidable p] (h : ¬ p) : b2i p = 0 := if_neg h
theorem z_10 : ((1 : Int32) = 0) = False := by decide
