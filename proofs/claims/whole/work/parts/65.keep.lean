theorem cpyok4 : cpyok 0 0 4 4 4 = True := eq_true ⟨by decide, by decide, by decide, by decide, by decide⟩
theorem cpyok10 : cpyok 0 0 10 10 10 = True := eq_true ⟨by decide, by decide, by decide, by decide, by decide⟩
theorem gcpy (C : xMem) (a b n c i : Nat) (hn : n < 2 ^ 31) : gi (cpy C a b 0 0 (nI n)) c i = if c = b ∧ i < n then gi C a i else gi C c i := by
  show (if c = b then va_cpy (C.1 a) (C.1 b) (0 : Int32).toNatClampNeg (0 : Int32).toNatClampNeg (nI n).toNatClampNeg else C.1 c) i = _
  rw [show (0 : Int32).toNatClampNeg = 0 from rfl, nI_clamp hn]
  by_cases h : c = b
  · subst h
    rw [if_pos rfl]
    by_cases q : i < n
    · rw [if_pos ⟨rfl, q⟩, pk_cpy_in (by omega) (by omega)]
      show C.1 a (0 + (i - 0)) = C.1 a i
      rw [Nat.zero_add, Nat.sub_zero]
    · rw [if_neg (fun z => q z.2), pk_cpy_out (by omega)]
      rfl
  · rw [if_neg h, if_neg (fun z => h z.1)]
    rfl
theorem gcpy4 {C : xMem} {a b i : Nat} (h : i < 4) : gi (cpy C a b 0 0 4) b i = gi C a i := by
  rw [show (4 : Int32) = nI 4 from rfl, gcpy _ _ _ _ _ _ (by decide), if_pos ⟨rfl, h⟩]
theorem gcpy10 {C : xMem} {a b i : Nat} (h : i < 10) : gi (cpy C a b 0 0 10) b i = gi C a i := by
  rw [show (10 : Int32) = nI 10 from rfl, gcpy _ _ _ _ _ _ (by decide), if_pos ⟨rfl, h⟩]
theorem gcpy_c {C : xMem} {a b c i : Nat} {s d n : Int32} (h : c ≠ b) : gi (cpy C a b s d n) c i = gi C c i := by
  show (if c = b then _ else C.1 c) i = _
  rw [if_neg h]
  rfl
theorem takeFrom_n {o o0 : Nat} (hd : o0 + 8 < o ∨ o + 8 < o0) {h : xT2} {il to : Int32} {C : xMem} (hh : HC o0 h il to C) (post : xMem → Prop) (hp : ∀ C', HC o h il to C' → (∀ c i, c < o ∨ o + 8 < c → gi C' c i = gi C c i) → post C') : wX4_takeFrom o o0 C post := by
  unfold wX4_takeFrom
  simp only [cpyok4, cpyok10, true_and, forall_eq]
  obtain ⟨a1, a2, a3, a4, a5, a6, a7, a8⟩ := hh
  refine hp _ ⟨?_, ?_, ?_, ?_, ?_, ?_, fun k hk => ?_, fun l hl => ?_⟩ (fun c i hc => ?_)
  · rw [← a1]; simp (disch := omega) only [g_same, g_i, g_c, gcpy_c]
  · rw [← a2]; simp (disch := omega) only [g_same, g_i, g_c, gcpy_c]
  · rw [← a3]; simp (disch := omega) only [g_same, g_i, g_c, gcpy_c]
  · rw [← a4]; simp (disch := omega) only [g_same, g_i, g_c, gcpy_c]
  · rw [← a5]; simp (disch := omega) only [g_same, g_i, g_c, gcpy_c]
  · rw [← a6]; simp (disch := omega) only [g_same, g_i, g_c, gcpy_c]
  · have := a7 k hk
    refine ⟨?_, ?_, ?_, ?_⟩
    · rw [← this.1]; simp (disch := omega) only [g_same, g_i, g_c, gcpy_c, gcpy4, gcpy10]
    · rw [← this.2.1]; simp (disch := omega) only [g_same, g_i, g_c, gcpy_c, gcpy4, gcpy10]
    · rw [← this.2.2.1]; simp (disch := omega) only [g_same, g_i, g_c, gcpy_c, gcpy4, gcpy10]
    · rw [← this.2.2.2]; simp (disch := omega) only [g_same, g_i, g_c, gcpy_c, gcpy4, gcpy10]
  · have := a8 l hl
    refine ⟨?_, ?_, ?_, ?_⟩
    · rw [← this.1]; simp (disch := omega) only [g_same, g_i, g_c, gcpy_c, gcpy4, gcpy10]
    · rw [← this.2.1]; simp (disch := omega) only [g_same, g_i, g_c, gcpy_c, gcpy4, gcpy10]
    · rw [← this.2.2.1]; simp (disch := omega) only [g_same, g_i, g_c, gcpy_c, gcpy4, gcpy10]
    · rw [← this.2.2.2]; simp (disch := omega) only [g_same, g_i, g_c, gcpy_c, gcpy4, gcpy10]
  · simp (disch := omega) only [g_c, gcpy_c]
/-- row r of what is laid aside -/
def asM (r c i : Nat) : Prop := (41 ≤ c ∧ c ≤ 45 ∧ 4 * r ≤ i ∧ i < 4 * r + 4) ∨ (46 ≤ c ∧ c ≤ 50 ∧ 10 * r ≤ i ∧ i < 10 * r + 10) ∨ (51 ≤ c ∧ c ≤ 54 ∧ i = r)
theorem laysAside_n {r : Nat} (hr : r < 2) {h : xT2} {il to : Int32} {M : xMem} (hh : HM h il to M) (post : xMem → Prop) (hp : ∀ M', HA r h il to M' → (∀ c i, ¬ asM r c i → gi M' c i = gi M c i) → post M') : wX12_laysAside (nI r) M post := by
  obtain ⟨b1, b2, b3, b4, b5, b6⟩ := hh
  have k2 : ∀ (m j : Nat) (M1 : xMem), j + m = 10 → (∀ k, k < 4 → gi M1 41 (4 * r + k) = b2i ((h 0 0).testBit k = true) ∧ gi M1 42 (4 * r + k) = nI (h 1 k) ∧ gi M1 43 (4 * r + k) = nI (h 2 k) ∧ gi M1 44 (4 * r + k) = nI (h 3 k) ∧ gi M1 45 (4 * r + k) = nI (h 4 k)) → (∀ l, l < j → gi M1 46 (10 * r + l) = b2i ((h 5 0).testBit l = true) ∧ gi M1 47 (10 * r + l) = bnd (h 6 l) (-1) ∧ gi M1 48 (10 * r + l) = nI (h 7 l) ∧ gi M1 49 (10 * r + l) = nI (h 8 l) ∧ gi M1 50 (10 * r + l) = nI (h 9 l)) → (∀ c i, ¬ asM r c i → gi M1 c i = gi M c i) → wX12_laysAside_81 post (m + 1) (nI r) (nI j) M1 := by
    intro m
    induction m with
    | zero =>
      intro j M1 e c1 c2 c3
      have : j = 10 := by omega
      subst this
      rw [wX12_laysAside_81]; dsimp only
      simp (disch := omega) only [z_lt_t, z_lt_f, z_le_t, z_le_f, z_eq_t, z_eq_f, z_lt0, z_lt1_t, z_lt1_f, z_lt2_t, z_lt2_f, z_le1_t, z_le1_f, z_le2_t, z_le2_f, z_eq1_t, z_eq1_f, z_eq2_t, z_eq2_f, z_lt1, z_lt2, z_le1, z_le2, z_eq1, z_eq2, z_lt, z_le, z_eq, z_in, z_cl, z_cl1, z_add, z_add1, z_addm, z_sub, z_subl, z_mul, z_mull, ↓forall_eq, ↓reduceIte, true_and, and_true, not_true_eq_false, not_false_eq_true, b2i_0, b2i_1, bz_b2i, bz_0, bz_1, nar_b2i, narb_0, narb_1, ↓within_eq, ↓lies_eq, i64i, zi0, zj0, zi1, zj1, zi2, zj2, zi3, zj3, zi4, zj4, zi5, zj5, zi6, zj6, zi7, zj7, zi8, zj8, zi9, zj9, zi10, zj10, zi12, zj12, zi13, zj13, zi19, zj19, zi20, zj20, zi21, zj21, zi29, zj29, zi30, zj30, zi39, zj39, zi48, zj48, zi50, zj50, zi57, zj57, zi60, zj60, zi63, zj63, zi65, zj65, zi71, zj71, zi72, zj72, zi73, zj73, zi74, zj74, zi80, zj80, zi97, zj97, zi98, zj98, zi99, zj99, zi100, zj100, zi106, zj106, zi240, zj240, zi255, zj255, zi260, zj260, zi300, zj300, zi999, zj999, zi1000, zj1000, zi1023, zj1023, zi1024, zj1024, zi9999, zj9999, zi65535, zj65535, zi65536, zj65536, z_tn, z_m1, z_m2, z_bt, z_bf, z_10, g_c]
      refine hp _ ⟨fun k hk => ?_, fun l hl => ?_, ?_, ?_, ?_, ?_⟩ (fun c i hc => ?_)
      · simp (disch := omega) only [g_c]; exact c1 k hk
      · simp (disch := omega) only [g_c]; exact c2 l hl
      · simp (disch := omega) only [g_c, g_same]; rw [c3 0 65 (by unfold asM; omega)]; exact b3
      · simp (disch := omega) only [g_c, g_same]; rw [c3 0 66 (by unfold asM; omega)]; exact b4
      · simp (disch := omega) only [g_c, g_same]; rw [c3 0 67 (by unfold asM; omega)]; exact b5
      · simp (disch := omega) only [g_c, g_same]; rw [c3 0 2 (by unfold asM; omega)]; exact b6
      · have hc2 := hc
        unfold asM at hc
        simp only [gi_si]
        rw [if_neg (by omega), if_neg (by omega), if_neg (by omega), if_neg (by omega)]
        exact c3 c i hc2
    | succ m ih =>
      intro j M1 e c1 c2 c3
      rw [wX12_laysAside_81]; dsimp only
      simp (disch := omega) only [z_lt_t, z_lt_f, z_le_t, z_le_f, z_eq_t, z_eq_f, z_lt0, z_lt1_t, z_lt1_f, z_lt2_t, z_lt2_f, z_le1_t, z_le1_f, z_le2_t, z_le2_f, z_eq1_t, z_eq1_f, z_eq2_t, z_eq2_f, z_lt1, z_lt2, z_le1, z_le2, z_eq1, z_eq2, z_lt, z_le, z_eq, z_in, z_cl, z_cl1, z_add, z_add1, z_addm, z_sub, z_subl, z_mul, z_mull, ↓forall_eq, ↓reduceIte, true_and, and_true, not_true_eq_false, not_false_eq_true, b2i_0, b2i_1, bz_b2i, bz_0, bz_1, nar_b2i, narb_0, narb_1, ↓within_eq, ↓lies_eq, i64i, zi0, zj0, zi1, zj1, zi2, zj2, zi3, zj3, zi4, zj4, zi5, zj5, zi6, zj6, zi7, zj7, zi8, zj8, zi9, zj9, zi10, zj10, zi12, zj12, zi13, zj13, zi19, zj19, zi20, zj20, zi21, zj21, zi29, zj29, zi30, zj30, zi39, zj39, zi48, zj48, zi50, zj50, zi57, zj57, zi60, zj60, zi63, zj63, zi65, zj65, zi71, zj71, zi72, zj72, zi73, zj73, zi74, zj74, zi80, zj80, zi97, zj97, zi98, zj98, zi99, zj99, zi100, zj100, zi106, zj106, zi240, zj240, zi255, zj255, zi260, zj260, zi300, zj300, zi999, zj999, zi1000, zj1000, zi1023, zj1023, zi1024, zj1024, zi9999, zj9999, zi65535, zj65535, zi65536, zj65536, z_tn, z_m1, z_m2, z_bt, z_bf, z_10, g_c]
      refine ih (j + 1) _ (by omega) (fun k hk => ?_) (fun l hl => ?_) (fun c i hc => ?_)
      · simp (disch := omega) only [g_c]; exact c1 k hk
      · by_cases q : l = j
        · subst q
          have := b2 l (by omega)
          simp (disch := omega) only [g_c, g_same]
          rw [c3 35 l (by unfold asM; omega), c3 36 l (by unfold asM; omega), c3 37 l (by unfold asM; omega), c3 38 l (by unfold asM; omega), c3 28 l (by unfold asM; omega), this.1]
          exact ⟨nar_b2i _, this.2⟩
        · simp (disch := omega) only [g_c, g_i]
          exact c2 l (by omega)
      · have hc2 := hc
        unfold asM at hc
        simp only [gi_si]
        rw [if_neg (by omega), if_neg (by omega), if_neg (by omega), if_neg (by omega), if_neg (by omega)]
        exact c3 c i hc2
  have k1 : ∀ (m j : Nat) (M1 : xMem), j + m = 4 → (∀ k, k < j → gi M1 41 (4 * r + k) = b2i ((h 0 0).testBit k = true) ∧ gi M1 42 (4 * r + k) = nI (h 1 k) ∧ gi M1 43 (4 * r + k) = nI (h 2 k) ∧ gi M1 44 (4 * r + k) = nI (h 3 k) ∧ gi M1 45 (4 * r + k) = nI (h 4 k)) → (∀ c i, ¬ asM r c i → gi M1 c i = gi M c i) → wX12_laysAside_2 post (m + 1) (nI r) (nI j) M1 := by
    intro m
    induction m with
    | zero =>
      intro j M1 e c1 c3
      have : j = 4 := by omega
      subst this
      rw [wX12_laysAside_2]; dsimp only
      simp (disch := omega) only [z_lt_t, z_lt_f, z_le_t, z_le_f, z_eq_t, z_eq_f, z_lt0, z_lt1_t, z_lt1_f, z_lt2_t, z_lt2_f, z_le1_t, z_le1_f, z_le2_t, z_le2_f, z_eq1_t, z_eq1_f, z_eq2_t, z_eq2_f, z_lt1, z_lt2, z_le1, z_le2, z_eq1, z_eq2, z_lt, z_le, z_eq, z_in, z_cl, z_cl1, z_add, z_add1, z_addm, z_sub, z_subl, z_mul, z_mull, ↓forall_eq, ↓reduceIte, true_and, and_true, not_true_eq_false, not_false_eq_true, b2i_0, b2i_1, bz_b2i, bz_0, bz_1, nar_b2i, narb_0, narb_1, ↓within_eq, ↓lies_eq, i64i, zi0, zj0, zi1, zj1, zi2, zj2, zi3, zj3, zi4, zj4, zi5, zj5, zi6, zj6, zi7, zj7, zi8, zj8, zi9, zj9, zi10, zj10, zi12, zj12, zi13, zj13, zi19, zj19, zi20, zj20, zi21, zj21, zi29, zj29, zi30, zj30, zi39, zj39, zi48, zj48, zi50, zj50, zi57, zj57, zi60, zj60, zi63, zj63, zi65, zj65, zi71, zj71, zi72, zj72, zi73, zj73, zi74, zj74, zi80, zj80, zi97, zj97, zi98, zj98, zi99, zj99, zi100, zj100, zi106, zj106, zi240, zj240, zi255, zj255, zi260, zj260, zi300, zj300, zi999, zj999, zi1000, zj1000, zi1023, zj1023, zi1024, zj1024, zi9999, zj9999, zi65535, zj65535, zi65536, zj65536, z_tn, z_m1, z_m2, z_bt, z_bf, z_10]
      exact ⟨11, k2 10 0 M1 rfl c1 (fun l hl => absurd hl (by omega)) c3⟩
    | succ m ih =>
      intro j M1 e c1 c3
      rw [wX12_laysAside_2]; dsimp only
      simp (disch := omega) only [z_lt_t, z_lt_f, z_le_t, z_le_f, z_eq_t, z_eq_f, z_lt0, z_lt1_t, z_lt1_f, z_lt2_t, z_lt2_f, z_le1_t, z_le1_f, z_le2_t, z_le2_f, z_eq1_t, z_eq1_f, z_eq2_t, z_eq2_f, z_lt1, z_lt2, z_le1, z_le2, z_eq1, z_eq2, z_lt, z_le, z_eq, z_in, z_cl, z_cl1, z_add, z_add1, z_addm, z_sub, z_subl, z_mul, z_mull, ↓forall_eq, ↓reduceIte, true_and, and_true, not_true_eq_false, not_false_eq_true, b2i_0, b2i_1, bz_b2i, bz_0, bz_1, nar_b2i, narb_0, narb_1, ↓within_eq, ↓lies_eq, i64i, zi0, zj0, zi1, zj1, zi2, zj2, zi3, zj3, zi4, zj4, zi5, zj5, zi6, zj6, zi7, zj7, zi8, zj8, zi9, zj9, zi10, zj10, zi12, zj12, zi13, zj13, zi19, zj19, zi20, zj20, zi21, zj21, zi29, zj29, zi30, zj30, zi39, zj39, zi48, zj48, zi50, zj50, zi57, zj57, zi60, zj60, zi63, zj63, zi65, zj65, zi71, zj71, zi72, zj72, zi73, zj73, zi74, zj74, zi80, zj80, zi97, zj97, zi98, zj98, zi99, zj99, zi100, zj100, zi106, zj106, zi240, zj240, zi255, zj255, zi260, zj260, zi300, zj300, zi999, zj999, zi1000, zj1000, zi1023, zj1023, zi1024, zj1024, zi9999, zj9999, zi65535, zj65535, zi65536, zj65536, z_tn, z_m1, z_m2, z_bt, z_bf, z_10, g_c]
      refine ih (j + 1) _ (by omega) (fun l hl => ?_) (fun c i hc => ?_)
      · by_cases q : l = j
        · subst q
          have := b1 l (by omega)
          simp (disch := omega) only [g_c, g_same]
          rw [c3 30 l (by unfold asM; omega), c3 31 l (by unfold asM; omega), c3 32 l (by unfold asM; omega), c3 33 l (by unfold asM; omega), c3 34 l (by unfold asM; omega), this.1]
          exact ⟨nar_b2i _, this.2⟩
        · simp (disch := omega) only [g_c, g_i]
          exact c1 l (by omega)
      · have hc2 := hc
        unfold asM at hc
        simp only [gi_si]
        rw [if_neg (by omega), if_neg (by omega), if_neg (by omega), if_neg (by omega), if_neg (by omega)]
        exact c3 c i hc2
  exact ⟨5, k1 4 0 M rfl (fun k hk => absurd hk (by omega)) (fun c i _ => rfl)⟩
