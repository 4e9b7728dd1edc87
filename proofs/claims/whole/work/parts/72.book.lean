/-! some stories (as bits) on both sides -/
theorem ofN_t (a : Int32) : a = nI a.toBitVec.toNat := by
  apply Int32.toBitVec_inj.mp
  show a.toBitVec = BitVec.ofNat 32 a.toBitVec.toNat
  rw [BitVec.ofNat_toNat, BitVec.setWidth_eq]
theorem subT {a : Int32} {T : Nat} (hT : T < 1024) (h : a &&& (nI T ^^^ (-1)) = 0) : ∃ g, a = nI g ∧ g < 1024 ∧ ∀ k, g.testBit k = true → T.testBit k = true := by
  have hb : ∀ k, a.toBitVec.toNat.testBit k = true → T.testBit k = true := by
    intro k hk
    have h2 : (a &&& (nI T ^^^ (-1))).toBitVec = (0 : Int32).toBitVec := by rw [h]
    have h3 : (a.toBitVec &&& (BitVec.ofNat 32 T ^^^ BitVec.ofNat 32 (2 ^ 32 - 1))).toNat = (0 : BitVec 32).toNat := congrArg BitVec.toNat h2
    rw [BitVec.toNat_and, BitVec.toNat_xor, BitVec.toNat_ofNat, BitVec.toNat_ofNat, Nat.mod_eq_of_lt (show T < 2 ^ 32 by omega), Nat.mod_eq_of_lt (show 2 ^ 32 - 1 < 2 ^ 32 by omega)] at h3
    have h4 : (a.toBitVec.toNat &&& (T ^^^ (2 ^ 32 - 1))).testBit k = false := by rw [h3]; exact Nat.zero_testBit k
    rw [Nat.testBit_and, hk, Nat.testBit_xor, Nat.testBit_two_pow_sub_one] at h4
    have hlt : k < 32 := by
      rcases Nat.lt_or_ge k 32 with q | q
      · exact q
      · have := Nat.testBit_lt_two_pow (x := a.toBitVec.toNat) (i := k) (Nat.lt_of_lt_of_le a.toBitVec.isLt (Nat.pow_le_pow_right (by omega) q))
        rw [this] at hk; cases hk
    cases q : T.testBit k
    · rw [q] at h4; simp [hlt] at h4
    · rfl
  refine ⟨a.toBitVec.toNat, ofN_t a, ?_, hb⟩
  rcases Nat.lt_or_ge a.toBitVec.toNat 1024 with q | q
  · exact q
  · obtain ⟨j, hj1, hj2⟩ := Nat.exists_ge_and_testBit_of_ge_two_pow (x := a.toBitVec.toNat) (n := 10) q
    have := hb j hj2
    have z := Nat.testBit_lt_two_pow (x := T) (i := j) (Nat.lt_of_lt_of_le hT (show 2 ^ 10 ≤ 2 ^ j from Nat.pow_le_pow_right (by omega) hj1))
    rw [z] at this; cases this
/-- told stories, one at least -/
def okS (S : Nat → List Nat) (a : Int32) (g : Nat) : Prop := a = nI g ∧ 1 ≤ g ∧ g < 64 ∧ ∀ k, k < 6 → g.testBit k = true → S k ≠ []
theorem tS_b {S : Nat → List Nat} {k : Nat} : (orB (tS S) 6).testBit k = true ↔ k < 6 ∧ S k ≠ [] := by
  rw [orB_t]
  simp [tS]
theorem okS_c (S : Nat → List Nat) (a : Int32) : (∃ g, okS S a g ∧ a &&& (nI (orB (tS S) 6) ^^^ (-1)) = 0) ∨ ((∀ g, ¬ okS S a g) ∧ (a = 0 ∨ ¬ a &&& (nI (orB (tS S) 6) ^^^ (-1)) = 0)) := by
  have hT : orB (tS S) 6 < 64 := orB_lt _ 6
  by_cases h : a &&& (nI (orB (tS S) 6) ^^^ (-1)) = 0
  · obtain ⟨g, rfl, hg, hb⟩ := subT (by omega) h
    by_cases h0 : g = 0
    · subst h0
      exact Or.inr ⟨fun g' q => by
        have := (nI_eq (a := 0) (b := g') (by omega) (by have := q.2.2.1; omega)).mp q.1
        have := q.2.1
        omega, Or.inl rfl⟩
    · refine Or.inl ⟨g, ⟨rfl, by omega, ?_, fun k hk hgk => (tS_b.mp (hb k hgk)).2⟩, h⟩
      rcases Nat.lt_or_ge g 64 with q | q
      · exact q
      · obtain ⟨j, hj1, hj2⟩ := Nat.exists_ge_and_testBit_of_ge_two_pow (x := g) (n := 6) q
        have := (tS_b.mp (hb j hj2)).1
        omega
  · refine Or.inr ⟨fun g q => h ?_, Or.inr h⟩
    rw [q.1]
    refine (and0_n (by have := q.2.2.1; omega) (by omega)).mpr ((told_sub (by have := q.2.2.1; omega) (by omega)).mpr (fun k hk hb => tS_b.mpr ?_))
    have hk6 := b64 q.2.2.1 hb
    exact ⟨hk6, q.2.2.2 k hk6 hb⟩
theorem areToldC {S : Nat → List Nat} {C : xMem} (h : ∀ k, k < 6 → wfS (S k) ∧ SC (S k) k C) (a : Int32) (post : Int32 → xMem → Prop) (hp : post (if a &&& (nI (orB (tS S) 6) ^^^ (-1)) = 0 then 1 else 0) C) : wX11_areTold a C post := by
  unfold wX11_areTold
  refine toldStories_n h _ ?_
  by_cases q : a &&& (nI (orB (tS S) 6) ^^^ (-1)) = 0
  · rw [if_pos q] at hp ⊢; exact hp
  · rw [if_neg q] at hp ⊢; exact hp
theorem areM {S : Nat → List Nat} {M : xMem} (h : ∀ k, k < 6 → SM (S k) k M) (a : Int32) (l m : Nat) (hl : l < 100) (hm : m < 100) (post : Int32 → xMem → Prop) (h1 : ∀ g, okS S a g → l ≤ pc g → pc g ≤ m → post 1 M) (h2 : (∀ g, okS S a g → ¬ (l ≤ pc g ∧ pc g ≤ m)) → post 0 M) : wX12_areStories a (nI l) (nI m) M post := by
  unfold wX12_areStories
  rw [lies_eq, i64i, zj1, zj63]
  by_cases q : 1 ≤ a.toInt ∧ a.toInt ≤ 63
  rotate_left
  · rw [b2i_f q, if_pos rfl]
    refine h2 (fun g ho _ => q ?_)
    rw [ho.1, nI_toInt (by have := ho.2.2.1; omega)]
    have := ho.2.1
    have := ho.2.2.1
    omega
  obtain ⟨g, hg, rfl⟩ := at_n (a := a) (n := 63) (by omega) (by decide)
  have hg1 := q.1
  rw [nI_toInt (by omega)] at hg1
  have hpc := pc_le (n := g) (by omega)
  rw [b2i_t q, if_neg (by decide)]
  refine sizeOf_n (by omega) M _ ?_
  rw [lies_eq, i64i, i64i, i64i, nI_toInt (by omega), nI_toInt (by omega), nI_toInt (by omega)]
  have hu : ∀ g', okS S (nI g) g' → g' = g := fun g' ho => ((nI_eq (by omega) (by have := ho.2.2.1; omega)).mp ho.1).symm
  by_cases q2 : ((l : Int) ≤ pc g ∧ (pc g : Int) ≤ m)
  rotate_left
  · rw [b2i_f q2, if_pos rfl]
    refine h2 (fun g' ho z => q2 ?_)
    rw [hu g' ho] at z
    omega
  rw [b2i_t q2, if_neg (by decide)]
  refine ⟨7, ?_⟩
  have key : ∀ (m' i : Nat), i + m' = 6 → (∀ k, k < i → g.testBit k = true → S k ≠ []) → wX12_areStories_32 post (m' + 1) (nI g) (nI i) M := by
    intro m'
    induction m' with
    | zero =>
      intro i e hh
      have : i = 6 := by omega
      subst this
      rw [wX12_areStories_32]; dsimp only
      rw [if_pos (show (6 : Int32) ≤ nI 6 by decide)]
      exact h1 g ⟨rfl, by omega, by omega, hh⟩ (by omega) (by omega)
    | succ m' ih =>
      intro i e hh
      have hi : i < 6 := by omega
      rw [wX12_areStories_32]; dsimp only
      unfold wX12_areStories_60
      rw [if_neg (show ¬ (6 : Int32) ≤ nI i from nI_ge hi (by decide)), hasM_n (by omega) (by omega)]
      by_cases z : g.testBit i = true
      · rw [b2i_t z, if_neg (by decide)]
        refine ⟨vp_in_nI hi (by decide), ?_⟩
        rw [nI_clamp (by omega), (h i hi).2.1]
        by_cases z2 : S i = []
        · rw [b2i_f (fun y => y z2), if_pos rfl]
          refine h2 (fun g' ho _ => ?_)
          rw [hu g' ho] at ho
          exact ho.2.2.2 i hi z z2
        · rw [b2i_t z2, if_neg (by decide)]
          simp (disch := omega) only [z_lt_t, z_lt_f, z_le_t, z_le_f, z_eq_t, z_eq_f, z_lt0, z_lt1_t, z_lt1_f, z_lt2_t, z_lt2_f, z_le1_t, z_le1_f, z_le2_t, z_le2_f, z_eq1_t, z_eq1_f, z_eq2_t, z_eq2_f, z_lt1, z_lt2, z_le1, z_le2, z_eq1, z_eq2, z_lt, z_le, z_eq, z_in, z_cl, z_cl1, z_add, z_add1, z_addm, z_sub, z_subl, z_mul, z_mull, ↓forall_eq, ↓reduceIte, true_and, and_true, not_true_eq_false, not_false_eq_true, b2i_0, b2i_1, bz_b2i, bz_0, bz_1, nar_b2i, narb_0, narb_1, ↓within_eq, ↓lies_eq, i64i, zi0, zj0, zi1, zj1, zi2, zj2, zi3, zj3, zi4, zj4, zi5, zj5, zi6, zj6, zi7, zj7, zi8, zj8, zi9, zj9, zi10, zj10, zi12, zj12, zi13, zj13, zi19, zj19, zi20, zj20, zi21, zj21, zi29, zj29, zi30, zj30, zi39, zj39, zi48, zj48, zi50, zj50, zi57, zj57, zi60, zj60, zi63, zj63, zi65, zj65, zi71, zj71, zi72, zj72, zi73, zj73, zi74, zj74, zi80, zj80, zi97, zj97, zi98, zj98, zi99, zj99, zi100, zj100, zi106, zj106, zi240, zj240, zi255, zj255, zi260, zj260, zi300, zj300, zi999, zj999, zi1000, zj1000, zi1023, zj1023, zi1024, zj1024, zi9999, zj9999, zi65535, zj65535, zi65536, zj65536, z_tn, z_m1, z_m2, z_bt, z_bf, z_10, Bool.false_eq_true]
          refine ih (i + 1) (by omega) (fun k hk h1 => ?_)
          by_cases ek : k = i
          · subst ek; exact z2
          · exact hh k (by omega) h1
      · rw [b2i_f z, if_pos rfl]
        simp (disch := omega) only [z_lt_t, z_lt_f, z_le_t, z_le_f, z_eq_t, z_eq_f, z_lt0, z_lt1_t, z_lt1_f, z_lt2_t, z_lt2_f, z_le1_t, z_le1_f, z_le2_t, z_le2_f, z_eq1_t, z_eq1_f, z_eq2_t, z_eq2_f, z_lt1, z_lt2, z_le1, z_le2, z_eq1, z_eq2, z_lt, z_le, z_eq, z_in, z_cl, z_cl1, z_add, z_add1, z_addm, z_sub, z_subl, z_mul, z_mull, ↓forall_eq, ↓reduceIte, true_and, and_true, not_true_eq_false, not_false_eq_true, b2i_0, b2i_1, bz_b2i, bz_0, bz_1, nar_b2i, narb_0, narb_1, ↓within_eq, ↓lies_eq, i64i, zi0, zj0, zi1, zj1, zi2, zj2, zi3, zj3, zi4, zj4, zi5, zj5, zi6, zj6, zi7, zj7, zi8, zj8, zi9, zj9, zi10, zj10, zi12, zj12, zi13, zj13, zi19, zj19, zi20, zj20, zi21, zj21, zi29, zj29, zi30, zj30, zi39, zj39, zi48, zj48, zi50, zj50, zi57, zj57, zi60, zj60, zi63, zj63, zi65, zj65, zi71, zj71, zi72, zj72, zi73, zj73, zi74, zj74, zi80, zj80, zi97, zj97, zi98, zj98, zi99, zj99, zi100, zj100, zi106, zj106, zi240, zj240, zi255, zj255, zi260, zj260, zi300, zj300, zi999, zj999, zi1000, zj1000, zi1023, zj1023, zi1024, zj1024, zi9999, zj9999, zi65535, zj65535, zi65536, zj65536, z_tn, z_m1, z_m2, z_bt, z_bf, z_10, Bool.false_eq_true]
        refine ih (i + 1) (by omega) (fun k hk h1 => ?_)
        by_cases ek : k = i
        · subst ek; exact absurd h1 z
        · exact hh k (by omega) h1
  exact key 6 0 rfl (fun k hk => absurd hk (by omega))
/-- the list of what is set -/
def slN (g n : Nat) : List Nat := (List.range n).filter (fun k => g.testBit k)
theorem slN_s (g n : Nat) : slN g (n + 1) = if g.testBit n = true then slN g n ++ [n] else slN g n := by
  unfold slN
  rw [List.range_succ, List.filter_append]
  by_cases h : g.testBit n = true
  · rw [if_pos h]; simp [h]
  · rw [if_neg h]; simp [h]
theorem slN_le (g n : Nat) : (slN g n).length ≤ n := by
  have := List.length_filter_le (fun k => g.testBit k) (List.range n)
  rw [List.length_range] at this
  exact this
theorem takesM {g : Nat} (hg : g < 1024) {M : xMem} (post : Int32 → xMem → Prop) (hp : ∀ M' : xMem, (∀ c i, c ≠ 56 → gi M' c i = gi M c i) → (∀ i, i < (slN g 10).length → gi M' 56 i = nI ((slN g 10).getD i 0)) → post (nI (slN g 10).length) M') : wX12_takesSome (nI g) M post := by
  have key : ∀ (m i : Nat) (M' : xMem), i + m = 10 → (∀ c i, c ≠ 56 → gi M' c i = gi M c i) → (∀ j, j < (slN g i).length → gi M' 56 j = nI ((slN g i).getD j 0)) → wX12_takesSome_4 post (m + 1) (nI g) (nI (slN g i).length) (nI i) M' := by
    intro m
    induction m with
    | zero =>
      intro i M' e h1 h2
      have : i = 10 := by omega
      subst this
      rw [wX12_takesSome_4]; dsimp only
      rw [if_pos (show (10 : Int32) ≤ nI 10 by decide)]
      exact hp M' h1 h2
    | succ m ih =>
      intro i M' e h1 h2
      have hi : i < 10 := by omega
      have hle := slN_le g i
      rw [wX12_takesSome_4]; dsimp only
      unfold wX12_takesSome_31
      rw [if_neg (show ¬ (10 : Int32) ≤ nI i from nI_ge hi (by decide)), hasM_n (by omega) (by omega)]
      by_cases z : g.testBit i = true
      · rw [b2i_t z, if_neg (by decide)]
        simp (disch := omega) only [z_lt_t, z_lt_f, z_le_t, z_le_f, z_eq_t, z_eq_f, z_lt0, z_lt1_t, z_lt1_f, z_lt2_t, z_lt2_f, z_le1_t, z_le1_f, z_le2_t, z_le2_f, z_eq1_t, z_eq1_f, z_eq2_t, z_eq2_f, z_lt1, z_lt2, z_le1, z_le2, z_eq1, z_eq2, z_lt, z_le, z_eq, z_in, z_cl, z_cl1, z_add, z_add1, z_addm, z_sub, z_subl, z_mul, z_mull, ↓forall_eq, ↓reduceIte, true_and, and_true, not_true_eq_false, not_false_eq_true, b2i_0, b2i_1, bz_b2i, bz_0, bz_1, nar_b2i, narb_0, narb_1, ↓within_eq, ↓lies_eq, i64i, zi0, zj0, zi1, zj1, zi2, zj2, zi3, zj3, zi4, zj4, zi5, zj5, zi6, zj6, zi7, zj7, zi8, zj8, zi9, zj9, zi10, zj10, zi12, zj12, zi13, zj13, zi19, zj19, zi20, zj20, zi21, zj21, zi29, zj29, zi30, zj30, zi39, zj39, zi48, zj48, zi50, zj50, zi57, zj57, zi60, zj60, zi63, zj63, zi65, zj65, zi71, zj71, zi72, zj72, zi73, zj73, zi74, zj74, zi80, zj80, zi97, zj97, zi98, zj98, zi99, zj99, zi100, zj100, zi106, zj106, zi240, zj240, zi255, zj255, zi260, zj260, zi300, zj300, zi999, zj999, zi1000, zj1000, zi1023, zj1023, zi1024, zj1024, zi9999, zj9999, zi65535, zj65535, zi65536, zj65536, z_tn, z_m1, z_m2, z_bt, z_bf, z_10, Bool.false_eq_true]
        have := ih (i + 1) (si M' 56 (slN g i).length (nI i)) (by omega) (fun c j hc => by rw [gi_si_c _ hc]; exact h1 c j hc) (fun j hj => by
          rw [slN_s, if_pos z] at hj ⊢
          rw [List.length_append, List.length_singleton] at hj
          by_cases ej : j = (slN g i).length
          · subst ej
            rw [g_same, List.getD_eq_getElem?_getD, List.getElem?_append_right (Nat.le_refl _)]
            simp
          · rw [g_i ej, h2 j (by omega), List.getD_eq_getElem?_getD, List.getD_eq_getElem?_getD, List.getElem?_append_left (by omega)])
        rw [slN_s, if_pos z, List.length_append, List.length_singleton] at this
        exact this
      · rw [b2i_f z, if_pos rfl]
        simp (disch := omega) only [z_lt_t, z_lt_f, z_le_t, z_le_f, z_eq_t, z_eq_f, z_lt0, z_lt1_t, z_lt1_f, z_lt2_t, z_lt2_f, z_le1_t, z_le1_f, z_le2_t, z_le2_f, z_eq1_t, z_eq1_f, z_eq2_t, z_eq2_f, z_lt1, z_lt2, z_le1, z_le2, z_eq1, z_eq2, z_lt, z_le, z_eq, z_in, z_cl, z_cl1, z_add, z_add1, z_addm, z_sub, z_subl, z_mul, z_mull, ↓forall_eq, ↓reduceIte, true_and, and_true, not_true_eq_false, not_false_eq_true, b2i_0, b2i_1, bz_b2i, bz_0, bz_1, nar_b2i, narb_0, narb_1, ↓within_eq, ↓lies_eq, i64i, zi0, zj0, zi1, zj1, zi2, zj2, zi3, zj3, zi4, zj4, zi5, zj5, zi6, zj6, zi7, zj7, zi8, zj8, zi9, zj9, zi10, zj10, zi12, zj12, zi13, zj13, zi19, zj19, zi20, zj20, zi21, zj21, zi29, zj29, zi30, zj30, zi39, zj39, zi48, zj48, zi50, zj50, zi57, zj57, zi60, zj60, zi63, zj63, zi65, zj65, zi71, zj71, zi72, zj72, zi73, zj73, zi74, zj74, zi80, zj80, zi97, zj97, zi98, zj98, zi99, zj99, zi100, zj100, zi106, zj106, zi240, zj240, zi255, zj255, zi260, zj260, zi300, zj300, zi999, zj999, zi1000, zj1000, zi1023, zj1023, zi1024, zj1024, zi9999, zj9999, zi65535, zj65535, zi65536, zj65536, z_tn, z_m1, z_m2, z_bt, z_bf, z_10, Bool.false_eq_true]
        have := ih (i + 1) M' (by omega) h1 (fun j hj => by
          rw [slN_s, if_neg z] at hj ⊢
          exact h2 j hj)
        rw [slN_s, if_neg z] at this
        exact this
  exact ⟨11, key 10 0 M rfl (fun _ _ _ => rfl) (fun j hj => absurd hj (by simp [slN]))⟩
theorem slN_pc {g : Nat} (hg : g < 1024) : (slN g 10).length = pc g := by
  have key : ∀ g : Fin 1024, (slN g.1 10).length = pc g.1 := by decide +kernel
  exact key ⟨g, hg⟩
