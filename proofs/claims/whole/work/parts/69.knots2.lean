theorem lowM {g j : Nat} (hg : g < 1024) (hj : g.testBit j = true) (hl : ∀ i, i < j → g.testBit i = false) {M : xMem} (post : Int32 → xMem → Prop) (hp : post (nI j) M) : wX12_lowestOf (nI g) M post := by
  have hj10 : j < 10 := by
    rcases Nat.lt_or_ge j 10 with q | q
    · exact q
    · have := Nat.testBit_lt_two_pow (x := g) (i := j) (Nat.lt_of_lt_of_le hg (show 2 ^ 10 ≤ 2 ^ j from Nat.pow_le_pow_right (by omega) q))
      rw [this] at hj; cases hj
  have key : ∀ (m i : Nat), i + m = j → wX12_lowestOf_2 post (m + 1) (nI g) (nI i) M := by
    intro m
    induction m with
    | zero =>
      intro i e
      have : i = j := by omega
      subst this
      rw [wX12_lowestOf_2]; dsimp only
      simp (disch := omega) only [z_lt_t, z_lt_f, z_le_t, z_le_f, z_eq_t, z_eq_f, z_lt0, z_lt1_t, z_lt1_f, z_lt2_t, z_lt2_f, z_le1_t, z_le1_f, z_le2_t, z_le2_f, z_eq1_t, z_eq1_f, z_eq2_t, z_eq2_f, z_lt1, z_lt2, z_le1, z_le2, z_eq1, z_eq2, z_lt, z_le, z_eq, z_in, z_cl, z_cl1, z_add, z_add1, z_addm, z_sub, z_subl, z_mul, z_mull, ↓forall_eq, ↓reduceIte, true_and, and_true, not_true_eq_false, not_false_eq_true, b2i_0, b2i_1, bz_b2i, bz_0, bz_1, nar_b2i, narb_0, narb_1, ↓within_eq, ↓lies_eq, i64i, zi0, zj0, zi1, zj1, zi2, zj2, zi3, zj3, zi4, zj4, zi5, zj5, zi6, zj6, zi7, zj7, zi8, zj8, zi9, zj9, zi10, zj10, zi12, zj12, zi13, zj13, zi19, zj19, zi20, zj20, zi21, zj21, zi29, zj29, zi30, zj30, zi39, zj39, zi48, zj48, zi50, zj50, zi57, zj57, zi60, zj60, zi63, zj63, zi65, zj65, zi71, zj71, zi72, zj72, zi73, zj73, zi74, zj74, zi80, zj80, zi97, zj97, zi98, zj98, zi99, zj99, zi100, zj100, zi106, zj106, zi240, zj240, zi255, zj255, zi260, zj260, zi300, zj300, zi999, zj999, zi1000, zj1000, zi1023, zj1023, zi1024, zj1024, zi9999, zj9999, zi65535, zj65535, zi65536, zj65536, z_tn, z_m1, z_m2, z_bt, z_bf, z_10, Bool.false_eq_true, hasM_n, hj]
      exact hp
    | succ m ih =>
      intro i e
      rw [wX12_lowestOf_2]; dsimp only
      simp (disch := omega) only [z_lt_t, z_lt_f, z_le_t, z_le_f, z_eq_t, z_eq_f, z_lt0, z_lt1_t, z_lt1_f, z_lt2_t, z_lt2_f, z_le1_t, z_le1_f, z_le2_t, z_le2_f, z_eq1_t, z_eq1_f, z_eq2_t, z_eq2_f, z_lt1, z_lt2, z_le1, z_le2, z_eq1, z_eq2, z_lt, z_le, z_eq, z_in, z_cl, z_cl1, z_add, z_add1, z_addm, z_sub, z_subl, z_mul, z_mull, ↓forall_eq, ↓reduceIte, true_and, and_true, not_true_eq_false, not_false_eq_true, b2i_0, b2i_1, bz_b2i, bz_0, bz_1, nar_b2i, narb_0, narb_1, ↓within_eq, ↓lies_eq, i64i, zi0, zj0, zi1, zj1, zi2, zj2, zi3, zj3, zi4, zj4, zi5, zj5, zi6, zj6, zi7, zj7, zi8, zj8, zi9, zj9, zi10, zj10, zi12, zj12, zi13, zj13, zi19, zj19, zi20, zj20, zi21, zj21, zi29, zj29, zi30, zj30, zi39, zj39, zi48, zj48, zi50, zj50, zi57, zj57, zi60, zj60, zi63, zj63, zi65, zj65, zi71, zj71, zi72, zj72, zi73, zj73, zi74, zj74, zi80, zj80, zi97, zj97, zi98, zj98, zi99, zj99, zi100, zj100, zi106, zj106, zi240, zj240, zi255, zj255, zi260, zj260, zi300, zj300, zi999, zj999, zi1000, zj1000, zi1023, zj1023, zi1024, zj1024, zi9999, zj9999, zi65535, zj65535, zi65536, zj65536, z_tn, z_m1, z_m2, z_bt, z_bf, z_10, Bool.false_eq_true, hasM_n, hl i (by omega)]
      exact ih (i + 1) (by omega)
  exact ⟨j + 1, key j 0 (by omega)⟩
theorem low_ex {g : Nat} (h : ∃ i, g.testBit i = true) : ∃ j, g.testBit j = true ∧ ∀ i, i < j → g.testBit i = false := by
  obtain ⟨j, h1, h2⟩ := pk_least (fun i => g.testBit i = true) h
  exact ⟨j, h1, fun i hi => by simpa using h2 i hi⟩
/-- the first one of its group -/
def rep (S : Nat → List Nat) (k : Nat) : Prop := S k ≠ [] ∧ ∀ j, j < k → (kn S k).testBit j = false
def repB (S : Nat → List Nat) (k : Nat) : Bool := decide (S k ≠ []) && (List.range k).all (fun j => !(kn S k).testBit j)
theorem repB_iff (S : Nat → List Nat) (k : Nat) : repB S k = true ↔ rep S k := by
  unfold repB rep
  simp
theorem rest_rep {S : Nat → List Nat} {k : Nat} (hk : k < 6) (ht : S k ≠ []) : (∀ j, j < k → rep S j → ¬ (kn S j).testBit k = true) ↔ rep S k := by
  constructor
  · intro h
    refine ⟨ht, fun j hj => ?_⟩
    apply Classical.byContradiction
    intro hn
    obtain ⟨l, h1, h2⟩ := low_ex (g := kn S k) ⟨j, by simpa using hn⟩
    have hl : l < k := by
      rcases Nat.lt_or_ge l k with q | q
      · exact q
      · have := h2 j (by omega)
        rw [this] at hn; exact absurd rfl hn
    have e := kn_eq hk (by omega) h1
    exact h l hl ⟨(kn_told hk ht h1).2, fun i hi => by rw [e]; exact h2 i hi⟩ (by rw [e]; exact (grp_isK hk).2.1)
  · intro h j hj _ q
    have := h.2 j hj
    rw [kn_sym (by omega) hk q] at this
    cases this
def cnr (S : Nat → List Nat) : Nat → Nat
  | 0 => 0
  | i + 1 => cnr S i + (if repB S i = true then 1 else 0)
theorem cnr_le (S : Nat → List Nat) : ∀ i, cnr S i ≤ i := by
  intro i
  induction i with
  | zero => exact Nat.le_refl _
  | succ i ih =>
    unfold cnr
    split <;> omega
theorem knots_ok {LL : xMem → xMem → Prop} (C M : xMem) (h : RRL LL C M) : wX11_knots C (fun r C' => wX12_knots M (fun r' M' => r = r' ∧ RRL LL C' M')) := by
  obtain ⟨⟨S, e, hl, hk, il, to, il2, to2, kp, tn, t, hR⟩, hLL⟩ := id h
  have mM : ∀ (post : Int32 → xMem → Prop), post (nI (cnr S 6)) M → wX12_knots M post := by
    intro post hp
    have key : ∀ (m i : Nat), i + m = 6 → wX12_knots_4 post (m + 1) (nI (cnr S i)) (nI i) M := by
      intro m
      induction m with
      | zero =>
        intro i e
        have : i = 6 := by omega
        subst this
        rw [wX12_knots_4]; dsimp only
        simp (disch := omega) only [z_lt_t, z_lt_f, z_le_t, z_le_f, z_eq_t, z_eq_f, z_lt0, z_lt1_t, z_lt1_f, z_lt2_t, z_lt2_f, z_le1_t, z_le1_f, z_le2_t, z_le2_f, z_eq1_t, z_eq1_f, z_eq2_t, z_eq2_f, z_lt1, z_lt2, z_le1, z_le2, z_eq1, z_eq2, z_lt, z_le, z_eq, z_in, z_cl, z_cl1, z_add, z_add1, z_addm, z_sub, z_subl, z_mul, z_mull, ↓forall_eq, ↓reduceIte, true_and, and_true, not_true_eq_false, not_false_eq_true, b2i_0, b2i_1, bz_b2i, bz_0, bz_1, nar_b2i, narb_0, narb_1, ↓within_eq, ↓lies_eq, i64i, zi0, zj0, zi1, zj1, zi2, zj2, zi3, zj3, zi4, zj4, zi5, zj5, zi6, zj6, zi7, zj7, zi8, zj8, zi9, zj9, zi10, zj10, zi12, zj12, zi13, zj13, zi19, zj19, zi20, zj20, zi21, zj21, zi29, zj29, zi30, zj30, zi39, zj39, zi48, zj48, zi50, zj50, zi57, zj57, zi60, zj60, zi63, zj63, zi65, zj65, zi71, zj71, zi72, zj72, zi73, zj73, zi74, zj74, zi80, zj80, zi97, zj97, zi98, zj98, zi99, zj99, zi100, zj100, zi106, zj106, zi240, zj240, zi255, zj255, zi260, zj260, zi300, zj300, zi999, zj999, zi1000, zj1000, zi1023, zj1023, zi1024, zj1024, zi9999, zj9999, zi65535, zj65535, zi65536, zj65536, z_tn, z_m1, z_m2, z_bt, z_bf, z_10, Bool.false_eq_true]
        exact hp
      | succ m ih =>
        intro i e
        have hi : i < 6 := by omega
        have h9 := ih (i + 1) (by omega)
        unfold cnr at h9
        rw [wX12_knots_4]; dsimp only
        unfold wX12_knots_36 wX12_knots_37
        have hM := (hR.1 i hi).2.2
        simp (disch := omega) only [z_lt_t, z_lt_f, z_le_t, z_le_f, z_eq_t, z_eq_f, z_lt0, z_lt1_t, z_lt1_f, z_lt2_t, z_lt2_f, z_le1_t, z_le1_f, z_le2_t, z_le2_f, z_eq1_t, z_eq1_f, z_eq2_t, z_eq2_f, z_lt1, z_lt2, z_le1, z_le2, z_eq1, z_eq2, z_lt, z_le, z_eq, z_in, z_cl, z_cl1, z_add, z_add1, z_addm, z_sub, z_subl, z_mul, z_mull, ↓forall_eq, ↓reduceIte, true_and, and_true, not_true_eq_false, not_false_eq_true, b2i_0, b2i_1, bz_b2i, bz_0, bz_1, nar_b2i, narb_0, narb_1, ↓within_eq, ↓lies_eq, i64i, zi0, zj0, zi1, zj1, zi2, zj2, zi3, zj3, zi4, zj4, zi5, zj5, zi6, zj6, zi7, zj7, zi8, zj8, zi9, zj9, zi10, zj10, zi12, zj12, zi13, zj13, zi19, zj19, zi20, zj20, zi21, zj21, zi29, zj29, zi30, zj30, zi39, zj39, zi48, zj48, zi50, zj50, zi57, zj57, zi60, zj60, zi63, zj63, zi65, zj65, zi71, zj71, zi72, zj72, zi73, zj73, zi74, zj74, zi80, zj80, zi97, zj97, zi98, zj98, zi99, zj99, zi100, zj100, zi106, zj106, zi240, zj240, zi255, zj255, zi260, zj260, zi300, zj300, zi999, zj999, zi1000, zj1000, zi1023, zj1023, zi1024, zj1024, zi9999, zj9999, zi65535, zj65535, zi65536, zj65536, z_tn, z_m1, z_m2, z_bt, z_bf, z_10, Bool.false_eq_true, hM.2.1]
        by_cases q : S i = []
        · rw [if_neg (fun z => ((repB_iff S i).mp z).1 q)] at h9
          rw [if_pos (fun z => z q)]
          exact h9
        · rw [if_neg (fun z => z q)]
          refine knotM (fun j hj => ⟨(hR.1 j hj).1, (hR.1 j hj).2.2⟩) hi q _ ?_
          obtain ⟨l, h1, h2⟩ := low_ex (g := kn S i) ⟨i, (grp_isK hi).2.1⟩
          have hl6 := b64 (grp_isK hi).1 h1
          have h64 : kn S i < 64 := (grp_isK hi).1
          refine lowM (by omega) h1 h2 _ ?_
          simp (disch := omega) only [z_lt_t, z_lt_f, z_le_t, z_le_f, z_eq_t, z_eq_f, z_lt0, z_lt1_t, z_lt1_f, z_lt2_t, z_lt2_f, z_le1_t, z_le1_f, z_le2_t, z_le2_f, z_eq1_t, z_eq1_f, z_eq2_t, z_eq2_f, z_lt1, z_lt2, z_le1, z_le2, z_eq1, z_eq2, z_lt, z_le, z_eq, z_in, z_cl, z_cl1, z_add, z_add1, z_addm, z_sub, z_subl, z_mul, z_mull, ↓forall_eq, ↓reduceIte, true_and, and_true, not_true_eq_false, not_false_eq_true, b2i_0, b2i_1, bz_b2i, bz_0, bz_1, nar_b2i, narb_0, narb_1, ↓within_eq, ↓lies_eq, i64i, zi0, zj0, zi1, zj1, zi2, zj2, zi3, zj3, zi4, zj4, zi5, zj5, zi6, zj6, zi7, zj7, zi8, zj8, zi9, zj9, zi10, zj10, zi12, zj12, zi13, zj13, zi19, zj19, zi20, zj20, zi21, zj21, zi29, zj29, zi30, zj30, zi39, zj39, zi48, zj48, zi50, zj50, zi57, zj57, zi60, zj60, zi63, zj63, zi65, zj65, zi71, zj71, zi72, zj72, zi73, zj73, zi74, zj74, zi80, zj80, zi97, zj97, zi98, zj98, zi99, zj99, zi100, zj100, zi106, zj106, zi240, zj240, zi255, zj255, zi260, zj260, zi300, zj300, zi999, zj999, zi1000, zj1000, zi1023, zj1023, zi1024, zj1024, zi9999, zj9999, zi65535, zj65535, zi65536, zj65536, z_tn, z_m1, z_m2, z_bt, z_bf, z_10, Bool.false_eq_true]
          by_cases e2 : l = i
          · subst e2
            rw [if_pos ((repB_iff S l).mpr ⟨q, h2⟩)] at h9
            rw [if_pos rfl]
            exact h9
          · rw [if_neg (fun z => by
              have z2 := ((repB_iff S i).mp z).2
              have : l < i := by
                rcases Nat.lt_or_ge l i with q3 | q3
                · exact q3
                · have := h2 i (by omega)
                  exact absurd ((show (kn S i).testBit i = true from (grp_isK hi).2.1).symm.trans this) (by decide)
              rw [z2 l this] at h1
              cases h1)] at h9
            rw [if_neg e2]
            exact h9
    exact ⟨7, key 6 0 rfl⟩
  unfold wX11_knots
  refine toldStories_n (fun j hj => ⟨(hR.1 j hj).1, (hR.1 j hj).2.1⟩) _ ?_
  refine ⟨7, ?_⟩
  have key : ∀ (m i rest : Nat), i + m = 6 → rest < 64 → (∀ k, k < 6 → (rest.testBit k = true ↔ (S k ≠ [] ∧ ∀ j, j < i → rep S j → ¬ (kn S j).testBit k = true))) → wX11_knots_9 (fun r C' => wX12_knots M (fun r' M' => r = r' ∧ RRL LL C' M')) (m + 1) (nI (cnr S i)) (nI rest) (nI i) C := by
    intro m
    induction m with
    | zero =>
      intro i rest e hr hI
      have : i = 6 := by omega
      subst this
      rw [wX11_knots_9]; dsimp only
      simp (disch := omega) only [z_lt_t, z_lt_f, z_le_t, z_le_f, z_eq_t, z_eq_f, z_lt0, z_lt1_t, z_lt1_f, z_lt2_t, z_lt2_f, z_le1_t, z_le1_f, z_le2_t, z_le2_f, z_eq1_t, z_eq1_f, z_eq2_t, z_eq2_f, z_lt1, z_lt2, z_le1, z_le2, z_eq1, z_eq2, z_lt, z_le, z_eq, z_in, z_cl, z_cl1, z_add, z_add1, z_addm, z_sub, z_subl, z_mul, z_mull, ↓forall_eq, ↓reduceIte, true_and, and_true, not_true_eq_false, not_false_eq_true, b2i_0, b2i_1, bz_b2i, bz_0, bz_1, nar_b2i, narb_0, narb_1, ↓within_eq, ↓lies_eq, i64i, zi0, zj0, zi1, zj1, zi2, zj2, zi3, zj3, zi4, zj4, zi5, zj5, zi6, zj6, zi7, zj7, zi8, zj8, zi9, zj9, zi10, zj10, zi12, zj12, zi13, zj13, zi19, zj19, zi20, zj20, zi21, zj21, zi29, zj29, zi30, zj30, zi39, zj39, zi48, zj48, zi50, zj50, zi57, zj57, zi60, zj60, zi63, zj63, zi65, zj65, zi71, zj71, zi72, zj72, zi73, zj73, zi74, zj74, zi80, zj80, zi97, zj97, zi98, zj98, zi99, zj99, zi100, zj100, zi106, zj106, zi240, zj240, zi255, zj255, zi260, zj260, zi300, zj300, zi999, zj999, zi1000, zj1000, zi1023, zj1023, zi1024, zj1024, zi9999, zj9999, zi65535, zj65535, zi65536, zj65536, z_tn, z_m1, z_m2, z_bt, z_bf, z_10, Bool.false_eq_true]
      exact mM _ ⟨rfl, h⟩
    | succ m ih =>
      intro i rest e hr hI
      have hi : i < 6 := by omega
      rw [wX11_knots_9]; dsimp only
      unfold wX11_knots_36
      simp (disch := omega) only [z_lt_t, z_lt_f, z_le_t, z_le_f, z_eq_t, z_eq_f, z_lt0, z_lt1_t, z_lt1_f, z_lt2_t, z_lt2_f, z_le1_t, z_le1_f, z_le2_t, z_le2_f, z_eq1_t, z_eq1_f, z_eq2_t, z_eq2_f, z_lt1, z_lt2, z_le1, z_le2, z_eq1, z_eq2, z_lt, z_le, z_eq, z_in, z_cl, z_cl1, z_add, z_add1, z_addm, z_sub, z_subl, z_mul, z_mull, ↓forall_eq, ↓reduceIte, true_and, and_true, not_true_eq_false, not_false_eq_true, b2i_0, b2i_1, bz_b2i, bz_0, bz_1, nar_b2i, narb_0, narb_1, ↓within_eq, ↓lies_eq, i64i, zi0, zj0, zi1, zj1, zi2, zj2, zi3, zj3, zi4, zj4, zi5, zj5, zi6, zj6, zi7, zj7, zi8, zj8, zi9, zj9, zi10, zj10, zi12, zj12, zi13, zj13, zi19, zj19, zi20, zj20, zi21, zj21, zi29, zj29, zi30, zj30, zi39, zj39, zi48, zj48, zi50, zj50, zi57, zj57, zi60, zj60, zi63, zj63, zi65, zj65, zi71, zj71, zi72, zj72, zi73, zj73, zi74, zj74, zi80, zj80, zi97, zj97, zi98, zj98, zi99, zj99, zi100, zj100, zi106, zj106, zi240, zj240, zi255, zj255, zi260, zj260, zi300, zj300, zi999, zj999, zi1000, zj1000, zi1023, zj1023, zi1024, zj1024, zi9999, zj9999, zi65535, zj65535, zi65536, zj65536, z_tn, z_m1, z_m2, z_bt, z_bf, z_10, Bool.false_eq_true, hasC_n]
      by_cases q : rest.testBit i = true
      · obtain ⟨ht, h2⟩ := (hI i hi).mp q
        have hrep := (rest_rep hi ht).mp h2
        simp (disch := omega) only [z_lt_t, z_lt_f, z_le_t, z_le_f, z_eq_t, z_eq_f, z_lt0, z_lt1_t, z_lt1_f, z_lt2_t, z_lt2_f, z_le1_t, z_le1_f, z_le2_t, z_le2_f, z_eq1_t, z_eq1_f, z_eq2_t, z_eq2_f, z_lt1, z_lt2, z_le1, z_le2, z_eq1, z_eq2, z_lt, z_le, z_eq, z_in, z_cl, z_cl1, z_add, z_add1, z_addm, z_sub, z_subl, z_mul, z_mull, ↓forall_eq, ↓reduceIte, true_and, and_true, not_true_eq_false, not_false_eq_true, b2i_0, b2i_1, bz_b2i, bz_0, bz_1, nar_b2i, narb_0, narb_1, ↓within_eq, ↓lies_eq, i64i, zi0, zj0, zi1, zj1, zi2, zj2, zi3, zj3, zi4, zj4, zi5, zj5, zi6, zj6, zi7, zj7, zi8, zj8, zi9, zj9, zi10, zj10, zi12, zj12, zi13, zj13, zi19, zj19, zi20, zj20, zi21, zj21, zi29, zj29, zi30, zj30, zi39, zj39, zi48, zj48, zi50, zj50, zi57, zj57, zi60, zj60, zi63, zj63, zi65, zj65, zi71, zj71, zi72, zj72, zi73, zj73, zi74, zj74, zi80, zj80, zi97, zj97, zi98, zj98, zi99, zj99, zi100, zj100, zi106, zj106, zi240, zj240, zi255, zj255, zi260, zj260, zi300, zj300, zi999, zj999, zi1000, zj1000, zi1023, zj1023, zi1024, zj1024, zi9999, zj9999, zi65535, zj65535, zi65536, zj65536, z_tn, z_m1, z_m2, z_bt, z_bf, z_10, Bool.false_eq_true, q]
        refine knotC (fun j hj => ⟨(hR.1 j hj).1, (hR.1 j hj).2.1⟩) hi _ ?_
        have h64 : kn S i < 64 := (grp_isK hi).1
        try dsimp only
        rw [andnot_n (by omega) (by omega)]
        have hle : rest &&& (1023 ^^^ kn S i) ≤ rest := Nat.and_le_left
        have h9 := ih (i + 1) (rest &&& (1023 ^^^ kn S i)) (by omega) (by omega) (fun k hk6 => by
          have key : ∀ k : Fin 6, Nat.testBit 1023 k.1 = true := by decide +kernel
          rw [Nat.testBit_and, Nat.testBit_xor, key ⟨k, hk6⟩, Bool.and_eq_true, hI k hk6]
          constructor
          · rintro ⟨⟨z1, z2⟩, z3⟩
            refine ⟨z1, fun j hj hr q5 => ?_⟩
            by_cases e : j = i
            · subst e; rw [q5] at z3; cases z3
            · exact z2 j (by omega) hr q5
          · rintro ⟨z1, z2⟩
            refine ⟨⟨z1, fun j hj => z2 j (by omega)⟩, ?_⟩
            have := z2 i (by omega) hrep
            simpa using this)
        unfold cnr at h9
        rw [if_pos ((repB_iff S i).mpr hrep)] at h9
        exact h9
      · simp (disch := omega) only [z_lt_t, z_lt_f, z_le_t, z_le_f, z_eq_t, z_eq_f, z_lt0, z_lt1_t, z_lt1_f, z_lt2_t, z_lt2_f, z_le1_t, z_le1_f, z_le2_t, z_le2_f, z_eq1_t, z_eq1_f, z_eq2_t, z_eq2_f, z_lt1, z_lt2, z_le1, z_le2, z_eq1, z_eq2, z_lt, z_le, z_eq, z_in, z_cl, z_cl1, z_add, z_add1, z_addm, z_sub, z_subl, z_mul, z_mull, ↓forall_eq, ↓reduceIte, true_and, and_true, not_true_eq_false, not_false_eq_true, b2i_0, b2i_1, bz_b2i, bz_0, bz_1, nar_b2i, narb_0, narb_1, ↓within_eq, ↓lies_eq, i64i, zi0, zj0, zi1, zj1, zi2, zj2, zi3, zj3, zi4, zj4, zi5, zj5, zi6, zj6, zi7, zj7, zi8, zj8, zi9, zj9, zi10, zj10, zi12, zj12, zi13, zj13, zi19, zj19, zi20, zj20, zi21, zj21, zi29, zj29, zi30, zj30, zi39, zj39, zi48, zj48, zi50, zj50, zi57, zj57, zi60, zj60, zi63, zj63, zi65, zj65, zi71, zj71, zi72, zj72, zi73, zj73, zi74, zj74, zi80, zj80, zi97, zj97, zi98, zj98, zi99, zj99, zi100, zj100, zi106, zj106, zi240, zj240, zi255, zj255, zi260, zj260, zi300, zj300, zi999, zj999, zi1000, zj1000, zi1023, zj1023, zi1024, zj1024, zi9999, zj9999, zi65535, zj65535, zi65536, zj65536, z_tn, z_m1, z_m2, z_bt, z_bf, z_10, Bool.false_eq_true, q]
        have hnr : ¬ rep S i := fun z => q ((hI i hi).mpr ⟨z.1, (rest_rep hi z.1).mpr z⟩)
        have h9 := ih (i + 1) rest (by omega) hr (fun k hk6 => by
          rw [hI k hk6]
          constructor
          · rintro ⟨z1, z2⟩
            refine ⟨z1, fun j hj hr => ?_⟩
            by_cases e : j = i
            · subst e; exact absurd hr hnr
            · exact z2 j (by omega) hr
          · rintro ⟨z1, z2⟩
            exact ⟨z1, fun j hj => z2 j (by omega)⟩)
        unfold cnr at h9
        rw [if_neg (fun z => hnr ((repB_iff S i).mp z))] at h9
        exact h9
  exact key 6 0 (orB (tS S) 6) rfl (orB_lt _ 6) (fun k hk6 => by
    rw [orB_t]
    simp [tS, hk6])
