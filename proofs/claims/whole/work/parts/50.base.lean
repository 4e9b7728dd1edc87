theorem gi_si (M : xMem) (c i : Nat) (v : Int32) (c' i' : Nat) : gi (si M c i v) c' i' = if c' = c ∧ i' = i then v else gi M c' i' := by
  unfold gi si upd
  by_cases h : c' = c
  · subst h
    by_cases h2 : i' = i <;> simp [h2]
  · simp [h]
theorem gi_si_c (M : xMem) {c c' : Nat} (h : ¬ c' = c) (i : Nat) (v : Int32) (i' : Nat) : gi (si M c i v) c' i' = gi M c' i' := by
  rw [gi_si, if_neg (fun q => h q.1)]
theorem gl_si (M : xMem) (c i : Nat) (v : Int32) (c' i' : Nat) : gl (si M c i v) c' i' = gl M c' i' := rfl
theorem gi_sl (M : xMem) (c i : Nat) (v : Int64) (c' i' : Nat) : gi (sl M c i v) c' i' = gi M c' i' := rfl
/-- a truth as the machine has it -/
def b2i (p : Prop) [Decidable p] : Int32 := if p then 1 else 0
theorem b2i_t {p : Prop} [Decidable p] (h : p) : b2i p = 1 := if_pos h
theorem b2i_f {p : Prop} [Decidable p] (h : ¬ p) : b2i p = 0 := if_neg h
theorem bz_b2i (p : Prop) [Decidable p] : bz (b2i p) := by unfold b2i; split <;> first | exact bz_1 | exact bz_0
theorem b2i_0 {p : Prop} [Decidable p] : (b2i p = 0) = ¬ p := by unfold b2i; by_cases h : p <;> simp [h]
theorem b2i_1 {p : Prop} [Decidable p] : (b2i p = 1) = p := by unfold b2i; by_cases h : p <;> simp [h]
theorem lg_lt (x y : Int64) : (lg_cmp x y < 0) ↔ x.toInt < y.toInt := by
  have e : (x > y) ↔ y.toInt < x.toInt := Int64.lt_iff_toInt_lt
  unfold lg_cmp
  by_cases h : x > y
  · rw [if_pos h]
    have := e.mp h
    exact ⟨fun q => absurd q (by decide), fun q => by omega⟩
  · rw [if_neg h]
    have h' : ¬ y.toInt < x.toInt := fun q => h (e.mpr q)
    by_cases h2 : x = y
    · rw [if_pos h2]
      subst h2
      exact ⟨fun q => absurd q (by decide), fun q => by omega⟩
    · rw [if_neg h2]
      have h3 : ¬ x.toInt = y.toInt := fun q => h2 (Int64.toInt_inj.mp q)
      exact ⟨fun _ => by omega, fun _ => by decide⟩
theorem lg_gt (x y : Int64) : (0 < lg_cmp x y) ↔ y.toInt < x.toInt := by
  have e : (x > y) ↔ y.toInt < x.toInt := Int64.lt_iff_toInt_lt
  unfold lg_cmp
  by_cases h : x > y
  · rw [if_pos h]
    exact ⟨fun _ => e.mp h, fun _ => by decide⟩
  · rw [if_neg h]
    have h' : ¬ y.toInt < x.toInt := fun q => h (e.mpr q)
    by_cases h2 : x = y
    · rw [if_pos h2]
      exact ⟨fun q => absurd q (by decide), fun q => absurd q h'⟩
    · rw [if_neg h2]
      exact ⟨fun q => absurd q (by decide), fun q => absurd q h'⟩
theorem lies_eq (a b c : Int64) (M : xMem) (post : Int32 → xMem → Prop) : wX12_lies a b c M post = post (b2i (b.toInt ≤ a.toInt ∧ a.toInt ≤ c.toInt)) M := by
  unfold wX12_lies
  by_cases h1 : a.toInt < b.toInt
  · rw [if_pos ((lg_lt a b).mpr h1), b2i_f (by omega)]
  · rw [if_neg (fun q => h1 ((lg_lt a b).mp q))]
    by_cases h2 : c.toInt < a.toInt
    · rw [if_pos ((lg_gt a c).mpr h2), b2i_f (by omega)]
    · rw [if_neg (fun q => h2 ((lg_gt a c).mp q)), b2i_t (by omega)]
theorem within_eq (a b c : Int32) (M : xMem) (post : Int32 → xMem → Prop) : wX11_isWithin a b c M post = post (b2i (b.toInt ≤ a.toInt ∧ a.toInt ≤ c.toInt)) M := by
  unfold wX11_isWithin
  by_cases h1 : a.toInt < b.toInt
  · rw [if_pos (Int32.lt_iff_toInt_lt.mpr h1), b2i_f (by omega)]
  · rw [if_neg (fun q => h1 (Int32.lt_iff_toInt_lt.mp q))]
    by_cases h2 : c.toInt < a.toInt
    · rw [if_pos (Int32.lt_iff_toInt_lt.mpr h2), b2i_f (by omega)]
    · rw [if_neg (fun q => h2 (Int32.lt_iff_toInt_lt.mp q)), b2i_t (by omega)]
theorem i64i (a : Int32) : a.toInt64.toInt = a.toInt := by simp
/-- small numbers -/
theorem nI_of' {x : Int32} (n : Nat) (h0 : 0 ≤ x.toInt) (h1 : x.toInt < (n : Int)) : ∃ j : Nat, j < n ∧ x = nI j := by
  refine ⟨x.toInt.toNat, by omega, ?_⟩
  have h2 := x.toInt_lt
  have h3 : (nI x.toInt.toNat).toInt = x.toInt := by rw [nI_toInt (by omega)]; omega
  exact Int32.toInt_inj.mp h3.symm
theorem nI_i {n : Nat} (h : n < 2 ^ 31) : (nI n).toInt = (n : Int) := nI_toInt h
theorem seed_ok (a0 : Int32) (C M : xMem) (PR : xMem → xMem → Prop) (h0 : PR C M) (h1 : 0 ≤ a0.toInt → a0.toInt ≤ 65535 → PR (si C 49 13 a0) (si M 0 2 a0)) : wX11_seed a0 C (fun r C' => wX12_seed a0 M (fun r' M' => r = r' ∧ PR C' M')) := by
  have e1 : (65535 : Int64).toInt = 65535 := by decide
  have e2 : (65535 : Int32).toInt = 65535 := by decide
  have e3 : (0 : Int64).toInt = 0 := by decide
  have e4 : (0 : Int32).toInt = 0 := by decide
  unfold wX11_seed wX12_seed
  simp only [within_eq, lies_eq, i64i, e1, e2, e3, e4]
  by_cases h : 0 ≤ a0.toInt ∧ a0.toInt ≤ 65535
  · simp only [b2i_t h, forall_eq, if_neg (show ¬ (1 : Int32) = 0 by decide)]
    exact ⟨bz_1, trivial, h1 h.1 h.2⟩
  · simp only [b2i_f h, if_pos]
    exact ⟨bz_0, trivial, h0⟩
