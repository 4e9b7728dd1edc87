def orB (p : Nat → Bool) : Nat → Nat
  | 0 => 0
  | n + 1 => if p n = true then orB p n ||| 2 ^ n else orB p n
theorem orB_lt (p : Nat → Bool) (n : Nat) : orB p n < 2 ^ n := by
  induction n with
  | zero => exact Nat.one_pos
  | succ n ih =>
    have h2 : 2 ^ n < 2 ^ (n + 1) := Nat.pow_lt_pow_right (by omega) (by omega)
    unfold orB
    split
    · exact Nat.or_lt_two_pow (by omega) h2
    · omega
theorem orB_t (p : Nat → Bool) (n j : Nat) : (orB p n).testBit j = (decide (j < n) && p j) := by
  induction n with
  | zero => simp [orB]
  | succ n ih =>
    unfold orB
    by_cases h : p n = true
    · rw [if_pos h, Nat.testBit_or, ih, Nat.testBit_two_pow]
      by_cases e : j = n
      · subst e; simp [h]
      · have : (decide (j < n + 1)) = decide (j < n) := by simp; omega
        rw [this]
        have : decide (n = j) = false := by simp; omega
        rw [this, Bool.or_false]
    · rw [if_neg h, ih]
      by_cases e : j = n
      · subst e; simp [h]
      · have : (decide (j < n + 1)) = decide (j < n) := by simp; omega
        rw [this]
theorem orB_tb {x n : Nat} (h : x < 2 ^ n) : orB (fun k => x.testBit k) n = x := by
  apply Nat.eq_of_testBit_eq
  intro i
  rw [orB_t]
  by_cases q : i < n
  · simp [q]
  · have := Nat.testBit_lt_two_pow (x := x) (i := i) (Nat.lt_of_lt_of_le h (Nat.pow_le_pow_right (by omega) (by omega)))
    simp [q, this]
theorem orB_cut {p : Nat → Bool} {n m : Nat} (h : n ≤ m) (hp : ∀ k, n ≤ k → p k = false) : orB p m = orB p n := by
  apply Nat.eq_of_testBit_eq
  intro i
  rw [orB_t, orB_t]
  by_cases q : i < n
  · have : i < m := by omega
    simp [q, this]
  · simp [q, hp i (by omega)]
theorem orB_congr {p q : Nat → Bool} {n : Nat} (h : ∀ k, k < n → p k = q k) : orB p n = orB q n := by
  apply Nat.eq_of_testBit_eq
  intro i
  rw [orB_t, orB_t]
  by_cases z : i < n
  · simp [z, h i z]
  · simp [z]
/-- told stories -/
def tS (S : Nat → List Nat) (k : Nat) : Bool := decide (k < 6) && decide (S k ≠ [])
theorem toldStories_n {S : Nat → List Nat} {C : xMem} (h : ∀ k, k < 6 → wfS (S k) ∧ SC (S k) k C) (post : Int32 → xMem → Prop) (hp : post (nI (orB (tS S) 6)) C) : wX11_toldStories C post := by
  have key : ∀ (m i : Nat), i + m = 6 → wX11_toldStories_4 post (m + 1) (nI (orB (tS S) i)) (nI i) C := by
    intro m
    induction m with
    | zero =>
      intro i e
      have : i = 6 := by omega
      subst this
      rw [wX11_toldStories_4]; dsimp only
      simp (disch := omega) only [z_lt_t, z_lt_f, z_le_t, z_le_f, z_eq_t, z_eq_f, z_lt0, z_lt1_t, z_lt1_f, z_lt2_t, z_lt2_f, z_le1_t, z_le1_f, z_le2_t, z_le2_f, z_eq1_t, z_eq1_f, z_eq2_t, z_eq2_f, z_lt1, z_lt2, z_le1, z_le2, z_eq1, z_eq2, z_lt, z_le, z_eq, z_in, z_cl, z_cl1, z_add, z_add1, z_addm, z_sub, z_subl, z_mul, z_mull, ↓forall_eq, ↓reduceIte, true_and, and_true, not_true_eq_false, not_false_eq_true, b2i_0, b2i_1, bz_b2i, bz_0, bz_1, nar_b2i, narb_0, narb_1, ↓within_eq, ↓lies_eq, i64i, zi0, zj0, zi1, zj1, zi2, zj2, zi3, zj3, zi4, zj4, zi5, zj5, zi6, zj6, zi7, zj7, zi8, zj8, zi9, zj9, zi10, zj10, zi12, zj12, zi13, zj13, zi19, zj19, zi20, zj20, zi21, zj21, zi29, zj29, zi30, zj30, zi39, zj39, zi48, zj48, zi50, zj50, zi57, zj57, zi60, zj60, zi63, zj63, zi65, zj65, zi71, zj71, zi72, zj72, zi73, zj73, zi74, zj74, zi80, zj80, zi97, zj97, zi98, zj98, zi99, zj99, zi100, zj100, zi106, zj106, zi240, zj240, zi255, zj255, zi260, zj260, zi300, zj300, zi999, zj999, zi1000, zj1000, zi1023, zj1023, zi1024, zj1024, zi9999, zj9999, zi65535, zj65535, zi65536, zj65536, z_tn, z_m1, z_m2, z_bt, z_bf, z_10]
      exact hp
    | succ m ih =>
      intro i e
      rw [wX11_toldStories_4]; dsimp only
      unfold wX11_toldStories_24
      have h9 := ih (i + 1) (by omega)
      simp (disch := omega) only [z_lt_t, z_lt_f, z_le_t, z_le_f, z_eq_t, z_eq_f, z_lt0, z_lt1_t, z_lt1_f, z_lt2_t, z_lt2_f, z_le1_t, z_le1_f, z_le2_t, z_le2_f, z_eq1_t, z_eq1_f, z_eq2_t, z_eq2_f, z_lt1, z_lt2, z_le1, z_le2, z_eq1, z_eq2, z_lt, z_le, z_eq, z_in, z_cl, z_cl1, z_add, z_add1, z_addm, z_sub, z_subl, z_mul, z_mull, ↓forall_eq, ↓reduceIte, true_and, and_true, not_true_eq_false, not_false_eq_true, b2i_0, b2i_1, bz_b2i, bz_0, bz_1, nar_b2i, narb_0, narb_1, ↓within_eq, ↓lies_eq, i64i, zi0, zj0, zi1, zj1, zi2, zj2, zi3, zj3, zi4, zj4, zi5, zj5, zi6, zj6, zi7, zj7, zi8, zj8, zi9, zj9, zi10, zj10, zi12, zj12, zi13, zj13, zi19, zj19, zi20, zj20, zi21, zj21, zi29, zj29, zi30, zj30, zi39, zj39, zi48, zj48, zi50, zj50, zi57, zj57, zi60, zj60, zi63, zj63, zi65, zj65, zi71, zj71, zi72, zj72, zi73, zj73, zi74, zj74, zi80, zj80, zi97, zj97, zi98, zj98, zi99, zj99, zi100, zj100, zi106, zj106, zi240, zj240, zi255, zj255, zi260, zj260, zi300, zj300, zi999, zj999, zi1000, zj1000, zi1023, zj1023, zi1024, zj1024, zi9999, zj9999, zi65535, zj65535, zi65536, zj65536, z_tn, z_m1, z_m2, z_bt, z_bf, z_10, toldStory_eq (h i (by omega)).2.1 (by omega) (h i (by omega)).1.1]
      have hi : i < 6 := by omega
      by_cases q : S i = []
      · have e1 : tS S i = false := by simp [tS, q]
        unfold orB at h9
        rw [e1, if_neg (by decide)] at h9
        rw [if_pos (show (S i).length = 0 by rw [q]; rfl)]
        simp (disch := omega) only [z_lt_t, z_lt_f, z_le_t, z_le_f, z_eq_t, z_eq_f, z_lt0, z_lt1_t, z_lt1_f, z_lt2_t, z_lt2_f, z_le1_t, z_le1_f, z_le2_t, z_le2_f, z_eq1_t, z_eq1_f, z_eq2_t, z_eq2_f, z_lt1, z_lt2, z_le1, z_le2, z_eq1, z_eq2, z_lt, z_le, z_eq, z_in, z_cl, z_cl1, z_add, z_add1, z_addm, z_sub, z_subl, z_mul, z_mull, ↓forall_eq, ↓reduceIte, true_and, and_true, not_true_eq_false, not_false_eq_true, b2i_0, b2i_1, bz_b2i, bz_0, bz_1, nar_b2i, narb_0, narb_1, ↓within_eq, ↓lies_eq, i64i, zi0, zj0, zi1, zj1, zi2, zj2, zi3, zj3, zi4, zj4, zi5, zj5, zi6, zj6, zi7, zj7, zi8, zj8, zi9, zj9, zi10, zj10, zi12, zj12, zi13, zj13, zi19, zj19, zi20, zj20, zi21, zj21, zi29, zj29, zi30, zj30, zi39, zj39, zi48, zj48, zi50, zj50, zi57, zj57, zi60, zj60, zi63, zj63, zi65, zj65, zi71, zj71, zi72, zj72, zi73, zj73, zi74, zj74, zi80, zj80, zi97, zj97, zi98, zj98, zi99, zj99, zi100, zj100, zi106, zj106, zi240, zj240, zi255, zj255, zi260, zj260, zi300, zj300, zi999, zj999, zi1000, zj1000, zi1023, zj1023, zi1024, zj1024, zi9999, zj9999, zi65535, zj65535, zi65536, zj65536, z_tn, z_m1, z_m2, z_bt, z_bf, z_10]
        exact h9
      · have e1 : tS S i = true := by simp [tS, q, hi]
        unfold orB at h9
        rw [e1, if_pos rfl] at h9
        rw [if_neg (show ¬ (S i).length = 0 from fun z => q (List.length_eq_zero_iff.mp z)), if_neg (by omega)]
        simp (disch := omega) only [z_lt_t, z_lt_f, z_le_t, z_le_f, z_eq_t, z_eq_f, z_lt0, z_lt1_t, z_lt1_f, z_lt2_t, z_lt2_f, z_le1_t, z_le1_f, z_le2_t, z_le2_f, z_eq1_t, z_eq1_f, z_eq2_t, z_eq2_f, z_lt1, z_lt2, z_le1, z_le2, z_eq1, z_eq2, z_lt, z_le, z_eq, z_in, z_cl, z_cl1, z_add, z_add1, z_addm, z_sub, z_subl, z_mul, z_mull, ↓forall_eq, ↓reduceIte, true_and, and_true, not_true_eq_false, not_false_eq_true, b2i_0, b2i_1, bz_b2i, bz_0, bz_1, nar_b2i, narb_0, narb_1, ↓within_eq, ↓lies_eq, i64i, zi0, zj0, zi1, zj1, zi2, zj2, zi3, zj3, zi4, zj4, zi5, zj5, zi6, zj6, zi7, zj7, zi8, zj8, zi9, zj9, zi10, zj10, zi12, zj12, zi13, zj13, zi19, zj19, zi20, zj20, zi21, zj21, zi29, zj29, zi30, zj30, zi39, zj39, zi48, zj48, zi50, zj50, zi57, zj57, zi60, zj60, zi63, zj63, zi65, zj65, zi71, zj71, zi72, zj72, zi73, zj73, zi74, zj74, zi80, zj80, zi97, zj97, zi98, zj98, zi99, zj99, zi100, zj100, zi106, zj106, zi240, zj240, zi255, zj255, zi260, zj260, zi300, zj300, zi999, zj999, zi1000, zj1000, zi1023, zj1023, zi1024, zj1024, zi9999, zj9999, zi65535, zj65535, zi65536, zj65536, z_tn, z_m1, z_m2, z_bt, z_bf, z_10, z_shl, z_or]
        exact h9
  exact ⟨7, key 6 0 rfl⟩
theorem toldOf_n {p : Nat → Bool} {a : Int32} {M : xMem} (h : ∀ (post : Int32 → xMem → Prop) k, k < 10 → post (b2i (p k = true)) M → wX12_isToldOf a (nI k) M post) (post : Int32 → xMem → Prop) (hp : post (nI (orB p 10)) M) : wX12_toldOf a M post := by
  have key : ∀ (m i : Nat), i + m = 10 → wX12_toldOf_4 post (m + 1) a (nI (orB p i)) (nI i) M := by
    intro m
    induction m with
    | zero =>
      intro i e
      have : i = 10 := by omega
      subst this
      rw [wX12_toldOf_4]; dsimp only
      simp (disch := omega) only [z_lt_t, z_lt_f, z_le_t, z_le_f, z_eq_t, z_eq_f, z_lt0, z_lt1_t, z_lt1_f, z_lt2_t, z_lt2_f, z_le1_t, z_le1_f, z_le2_t, z_le2_f, z_eq1_t, z_eq1_f, z_eq2_t, z_eq2_f, z_lt1, z_lt2, z_le1, z_le2, z_eq1, z_eq2, z_lt, z_le, z_eq, z_in, z_cl, z_cl1, z_add, z_add1, z_addm, z_sub, z_subl, z_mul, z_mull, ↓forall_eq, ↓reduceIte, true_and, and_true, not_true_eq_false, not_false_eq_true, b2i_0, b2i_1, bz_b2i, bz_0, bz_1, nar_b2i, narb_0, narb_1, ↓within_eq, ↓lies_eq, i64i, zi0, zj0, zi1, zj1, zi2, zj2, zi3, zj3, zi4, zj4, zi5, zj5, zi6, zj6, zi7, zj7, zi8, zj8, zi9, zj9, zi10, zj10, zi12, zj12, zi13, zj13, zi19, zj19, zi20, zj20, zi21, zj21, zi29, zj29, zi30, zj30, zi39, zj39, zi48, zj48, zi50, zj50, zi57, zj57, zi60, zj60, zi63, zj63, zi65, zj65, zi71, zj71, zi72, zj72, zi73, zj73, zi74, zj74, zi80, zj80, zi97, zj97, zi98, zj98, zi99, zj99, zi100, zj100, zi106, zj106, zi240, zj240, zi255, zj255, zi260, zj260, zi300, zj300, zi999, zj999, zi1000, zj1000, zi1023, zj1023, zi1024, zj1024, zi9999, zj9999, zi65535, zj65535, zi65536, zj65536, z_tn, z_m1, z_m2, z_bt, z_bf, z_10]
      exact hp
    | succ m ih =>
      intro i e
      rw [wX12_toldOf_4]; dsimp only
      unfold wX12_toldOf_27
      have h9 := ih (i + 1) (by omega)
      simp (disch := omega) only [z_lt_t, z_lt_f, z_le_t, z_le_f, z_eq_t, z_eq_f, z_lt0, z_lt1_t, z_lt1_f, z_lt2_t, z_lt2_f, z_le1_t, z_le1_f, z_le2_t, z_le2_f, z_eq1_t, z_eq1_f, z_eq2_t, z_eq2_f, z_lt1, z_lt2, z_le1, z_le2, z_eq1, z_eq2, z_lt, z_le, z_eq, z_in, z_cl, z_cl1, z_add, z_add1, z_addm, z_sub, z_subl, z_mul, z_mull, ↓forall_eq, ↓reduceIte, true_and, and_true, not_true_eq_false, not_false_eq_true, b2i_0, b2i_1, bz_b2i, bz_0, bz_1, nar_b2i, narb_0, narb_1, ↓within_eq, ↓lies_eq, i64i, zi0, zj0, zi1, zj1, zi2, zj2, zi3, zj3, zi4, zj4, zi5, zj5, zi6, zj6, zi7, zj7, zi8, zj8, zi9, zj9, zi10, zj10, zi12, zj12, zi13, zj13, zi19, zj19, zi20, zj20, zi21, zj21, zi29, zj29, zi30, zj30, zi39, zj39, zi48, zj48, zi50, zj50, zi57, zj57, zi60, zj60, zi63, zj63, zi65, zj65, zi71, zj71, zi72, zj72, zi73, zj73, zi74, zj74, zi80, zj80, zi97, zj97, zi98, zj98, zi99, zj99, zi100, zj100, zi106, zj106, zi240, zj240, zi255, zj255, zi260, zj260, zi300, zj300, zi999, zj999, zi1000, zj1000, zi1023, zj1023, zi1024, zj1024, zi9999, zj9999, zi65535, zj65535, zi65536, zj65536, z_tn, z_m1, z_m2, z_bt, z_bf, z_10]
      refine h _ i (by omega) ?_
      unfold orB at h9
      by_cases q : p i = true
      · rw [if_pos q] at h9
        simp (disch := omega) only [z_lt_t, z_lt_f, z_le_t, z_le_f, z_eq_t, z_eq_f, z_lt0, z_lt1_t, z_lt1_f, z_lt2_t, z_lt2_f, z_le1_t, z_le1_f, z_le2_t, z_le2_f, z_eq1_t, z_eq1_f, z_eq2_t, z_eq2_f, z_lt1, z_lt2, z_le1, z_le2, z_eq1, z_eq2, z_lt, z_le, z_eq, z_in, z_cl, z_cl1, z_add, z_add1, z_addm, z_sub, z_subl, z_mul, z_mull, ↓forall_eq, ↓reduceIte, true_and, and_true, not_true_eq_false, not_false_eq_true, b2i_0, b2i_1, bz_b2i, bz_0, bz_1, nar_b2i, narb_0, narb_1, ↓within_eq, ↓lies_eq, i64i, zi0, zj0, zi1, zj1, zi2, zj2, zi3, zj3, zi4, zj4, zi5, zj5, zi6, zj6, zi7, zj7, zi8, zj8, zi9, zj9, zi10, zj10, zi12, zj12, zi13, zj13, zi19, zj19, zi20, zj20, zi21, zj21, zi29, zj29, zi30, zj30, zi39, zj39, zi48, zj48, zi50, zj50, zi57, zj57, zi60, zj60, zi63, zj63, zi65, zj65, zi71, zj71, zi72, zj72, zi73, zj73, zi74, zj74, zi80, zj80, zi97, zj97, zi98, zj98, zi99, zj99, zi100, zj100, zi106, zj106, zi240, zj240, zi255, zj255, zi260, zj260, zi300, zj300, zi999, zj999, zi1000, zj1000, zi1023, zj1023, zi1024, zj1024, zi9999, zj9999, zi65535, zj65535, zi65536, zj65536, z_tn, z_m1, z_m2, z_bt, z_bf, z_10, b2i_t q, z_shl, z_or]
        exact h9
      · rw [if_neg q] at h9
        simp (disch := omega) only [z_lt_t, z_lt_f, z_le_t, z_le_f, z_eq_t, z_eq_f, z_lt0, z_lt1_t, z_lt1_f, z_lt2_t, z_lt2_f, z_le1_t, z_le1_f, z_le2_t, z_le2_f, z_eq1_t, z_eq1_f, z_eq2_t, z_eq2_f, z_lt1, z_lt2, z_le1, z_le2, z_eq1, z_eq2, z_lt, z_le, z_eq, z_in, z_cl, z_cl1, z_add, z_add1, z_addm, z_sub, z_subl, z_mul, z_mull, ↓forall_eq, ↓reduceIte, true_and, and_true, not_true_eq_false, not_false_eq_true, b2i_0, b2i_1, bz_b2i, bz_0, bz_1, nar_b2i, narb_0, narb_1, ↓within_eq, ↓lies_eq, i64i, zi0, zj0, zi1, zj1, zi2, zj2, zi3, zj3, zi4, zj4, zi5, zj5, zi6, zj6, zi7, zj7, zi8, zj8, zi9, zj9, zi10, zj10, zi12, zj12, zi13, zj13, zi19, zj19, zi20, zj20, zi21, zj21, zi29, zj29, zi30, zj30, zi39, zj39, zi48, zj48, zi50, zj50, zi57, zj57, zi60, zj60, zi63, zj63, zi65, zj65, zi71, zj71, zi72, zj72, zi73, zj73, zi74, zj74, zi80, zj80, zi97, zj97, zi98, zj98, zi99, zj99, zi100, zj100, zi106, zj106, zi240, zj240, zi255, zj255, zi260, zj260, zi300, zj300, zi999, zj999, zi1000, zj1000, zi1023, zj1023, zi1024, zj1024, zi9999, zj9999, zi65535, zj65535, zi65536, zj65536, z_tn, z_m1, z_m2, z_bt, z_bf, z_10, b2i_f q]
        rw [show nI (orB p i) ||| 0 = nI (orB p i ||| 0) from or_n _ 0, Nat.or_zero]
        exact h9
  exact ⟨11, key 10 0 rfl⟩
theorem isToldOf3 {S : Nat → List Nat} {M : xMem} (h : ∀ k, k < 6 → SM (S k) k M) (post : Int32 → xMem → Prop) (k : Nat) (hk : k < 10) (hp : post (b2i (tS S k = true)) M) : wX12_isToldOf 3 (nI k) M post := by
  unfold wX12_isToldOf
  rw [if_pos rfl]
  by_cases q : k < 6
  · rw [isTold_eq (h k q).2.1 q]
    have e : b2i (tS S k = true) = b2i (S k ≠ []) := by
      by_cases z : S k = []
      · rw [b2i_f (by simp [tS, z]), b2i_f (by simp [z])]
      · rw [b2i_t (by simp [tS, z, q]), b2i_t (by simp [z])]
    rw [e] at hp
    exact ⟨bz_b2i _, hp⟩
  · rw [isTold_out (by rw [nI_toInt (by omega)]; omega)]
    rw [b2i_f (by simp [tS, q])] at hp
    exact ⟨bz_0, hp⟩
theorem count_ok {LL : xMem → xMem → Prop} (h7 : ∀ C M, LL C M → gi C 18 0 = gi M 15 0) (a0 : Int32) (C M : xMem) (h : RRL LL C M) : wX11_count a0 C (fun r C' => wX12_count a0 M (fun r' M' => r = r' ∧ RRL LL C' M')) := by
  obtain ⟨⟨S, e, hl, hk, il, to, il2, to2, kp, tn, t, hR⟩, hL⟩ := id h
  obtain ⟨rS, ⟨wE, rE, rE2⟩, ⟨wH, tL, rH, rH2⟩, ⟨k1, k2, k3⟩, ⟨wT, rT, rT2⟩, x1, x2⟩ := id hR
  obtain ⟨w1, w2, w3, w4, w5, w6⟩ := wH
  obtain ⟨a1, a2, a3, a4, a5, a6, a7, a8⟩ := rH
  obtain ⟨b1, b2, b3, b4, b5, b6⟩ := rH2
  unfold wX11_count wX12_count
  by_cases q3 : a0 = 3
  · subst q3
    rw [if_neg (by decide), if_neg (by decide), if_neg (by decide), if_pos rfl]
    refine toldStories_n (S := S) (fun k hk => ⟨(rS k hk).1, (rS k hk).2.1⟩) _ ?_
    simp (disch := omega) only [z_lt_t, z_lt_f, z_le_t, z_le_f, z_eq_t, z_eq_f, z_lt0, z_lt1_t, z_lt1_f, z_lt2_t, z_lt2_f, z_le1_t, z_le1_f, z_le2_t, z_le2_f, z_eq1_t, z_eq1_f, z_eq2_t, z_eq2_f, z_lt1, z_lt2, z_le1, z_le2, z_eq1, z_eq2, z_lt, z_le, z_eq, z_in, z_cl, z_cl1, z_add, z_add1, z_addm, z_sub, z_subl, z_mul, z_mull, ↓forall_eq, ↓reduceIte, true_and, and_true, not_true_eq_false, not_false_eq_true, b2i_0, b2i_1, bz_b2i, bz_0, bz_1, nar_b2i, narb_0, narb_1, ↓within_eq, ↓lies_eq, i64i, zi0, zj0, zi1, zj1, zi2, zj2, zi3, zj3, zi4, zj4, zi5, zj5, zi6, zj6, zi7, zj7, zi8, zj8, zi9, zj9, zi10, zj10, zi12, zj12, zi13, zj13, zi19, zj19, zi20, zj20, zi21, zj21, zi29, zj29, zi30, zj30, zi39, zj39, zi48, zj48, zi50, zj50, zi57, zj57, zi60, zj60, zi63, zj63, zi65, zj65, zi71, zj71, zi72, zj72, zi73, zj73, zi74, zj74, zi80, zj80, zi97, zj97, zi98, zj98, zi99, zj99, zi100, zj100, zi106, zj106, zi240, zj240, zi255, zj255, zi260, zj260, zi300, zj300, zi999, zj999, zi1000, zj1000, zi1023, zj1023, zi1024, zj1024, zi9999, zj9999, zi65535, zj65535, zi65536, zj65536, z_tn, z_m1, z_m2, z_bt, z_bf, z_10]
    refine toldOf_n (p := tS S) (fun post k hk hp => isToldOf3 (fun k hk => (rS k hk).2.2) post k hk hp) _ ?_
    rw [orB_cut (n := 6) (m := 10) (by omega) (fun k hk => by simp [tS]; omega)]
    exact ⟨rfl, h⟩
  by_cases q4 : a0 = 4
  · subst q4
    rw [if_neg (by decide), if_neg (by decide), if_neg (by decide), if_neg (by decide), if_pos rfl, rE.1]
    simp (disch := omega) only [z_lt_t, z_lt_f, z_le_t, z_le_f, z_eq_t, z_eq_f, z_lt0, z_lt1_t, z_lt1_f, z_lt2_t, z_lt2_f, z_le1_t, z_le1_f, z_le2_t, z_le2_f, z_eq1_t, z_eq1_f, z_eq2_t, z_eq2_f, z_lt1, z_lt2, z_le1, z_le2, z_eq1, z_eq2, z_lt, z_le, z_eq, z_in, z_cl, z_cl1, z_add, z_add1, z_addm, z_sub, z_subl, z_mul, z_mull, ↓forall_eq, ↓reduceIte, true_and, and_true, not_true_eq_false, not_false_eq_true, b2i_0, b2i_1, bz_b2i, bz_0, bz_1, nar_b2i, narb_0, narb_1, ↓within_eq, ↓lies_eq, i64i, zi0, zj0, zi1, zj1, zi2, zj2, zi3, zj3, zi4, zj4, zi5, zj5, zi6, zj6, zi7, zj7, zi8, zj8, zi9, zj9, zi10, zj10, zi12, zj12, zi13, zj13, zi19, zj19, zi20, zj20, zi21, zj21, zi29, zj29, zi30, zj30, zi39, zj39, zi48, zj48, zi50, zj50, zi57, zj57, zi60, zj60, zi63, zj63, zi65, zj65, zi71, zj71, zi72, zj72, zi73, zj73, zi74, zj74, zi80, zj80, zi97, zj97, zi98, zj98, zi99, zj99, zi100, zj100, zi106, zj106, zi240, zj240, zi255, zj255, zi260, zj260, zi300, zj300, zi999, zj999, zi1000, zj1000, zi1023, zj1023, zi1024, zj1024, zi9999, zj9999, zi65535, zj65535, zi65536, zj65536, z_tn, z_m1, z_m2, z_bt, z_bf, z_10]
    refine toldOf_n (p := fun k => (e 0 0).testBit k) (fun post k hk hp => ?_) _ ?_
    · unfold wX12_isToldOf
      rw [if_neg (by decide), if_pos rfl, isThere_eq (rE2 k hk).1 hk]
      exact ⟨bz_b2i _, hp⟩
    · rw [orB_tb (n := 10) wE.1]
      exact ⟨rfl, h⟩
  by_cases q5 : a0 = 5
  · subst q5
    rw [if_neg (by decide), if_neg (by decide), if_neg (by decide), if_neg (by decide), if_neg (by decide), if_pos rfl, a1]
    simp (disch := omega) only [z_lt_t, z_lt_f, z_le_t, z_le_f, z_eq_t, z_eq_f, z_lt0, z_lt1_t, z_lt1_f, z_lt2_t, z_lt2_f, z_le1_t, z_le1_f, z_le2_t, z_le2_f, z_eq1_t, z_eq1_f, z_eq2_t, z_eq2_f, z_lt1, z_lt2, z_le1, z_le2, z_eq1, z_eq2, z_lt, z_le, z_eq, z_in, z_cl, z_cl1, z_add, z_add1, z_addm, z_sub, z_subl, z_mul, z_mull, ↓forall_eq, ↓reduceIte, true_and, and_true, not_true_eq_false, not_false_eq_true, b2i_0, b2i_1, bz_b2i, bz_0, bz_1, nar_b2i, narb_0, narb_1, ↓within_eq, ↓lies_eq, i64i, zi0, zj0, zi1, zj1, zi2, zj2, zi3, zj3, zi4, zj4, zi5, zj5, zi6, zj6, zi7, zj7, zi8, zj8, zi9, zj9, zi10, zj10, zi12, zj12, zi13, zj13, zi19, zj19, zi20, zj20, zi21, zj21, zi29, zj29, zi30, zj30, zi39, zj39, zi48, zj48, zi50, zj50, zi57, zj57, zi60, zj60, zi63, zj63, zi65, zj65, zi71, zj71, zi72, zj72, zi73, zj73, zi74, zj74, zi80, zj80, zi97, zj97, zi98, zj98, zi99, zj99, zi100, zj100, zi106, zj106, zi240, zj240, zi255, zj255, zi260, zj260, zi300, zj300, zi999, zj999, zi1000, zj1000, zi1023, zj1023, zi1024, zj1024, zi9999, zj9999, zi65535, zj65535, zi65536, zj65536, z_tn, z_m1, z_m2, z_bt, z_bf, z_10]
    refine toldOf_n (p := fun k => (hl 0 0).testBit k) (fun post k hk hp => ?_) _ ?_
    · unfold wX12_isToldOf
      rw [if_neg (by decide), if_neg (by decide), if_pos rfl]
      by_cases q : k < 4
      · rw [isTelling_eq (b1 k q).1 q]
        exact ⟨bz_b2i _, hp⟩
      · rw [isTelling_out (by rw [nI_toInt (by omega)]; omega)]
        have := Nat.testBit_lt_two_pow (x := hl 0 0) (i := k) (Nat.lt_of_lt_of_le w1 (Nat.pow_le_pow_right (n := 2) (by omega) (show 4 ≤ k by omega)))
        rw [b2i_f (by simp [this])] at hp
        exact ⟨bz_0, hp⟩
    · rw [orB_tb (n := 10) (by omega)]
      exact ⟨rfl, h⟩
  by_cases q6 : a0 = 6
  · subst q6
    rw [if_neg (by decide), if_neg (by decide), if_neg (by decide), if_neg (by decide), if_neg (by decide), if_neg (by decide), if_pos rfl, a2]
    simp (disch := omega) only [z_lt_t, z_lt_f, z_le_t, z_le_f, z_eq_t, z_eq_f, z_lt0, z_lt1_t, z_lt1_f, z_lt2_t, z_lt2_f, z_le1_t, z_le1_f, z_le2_t, z_le2_f, z_eq1_t, z_eq1_f, z_eq2_t, z_eq2_f, z_lt1, z_lt2, z_le1, z_le2, z_eq1, z_eq2, z_lt, z_le, z_eq, z_in, z_cl, z_cl1, z_add, z_add1, z_addm, z_sub, z_subl, z_mul, z_mull, ↓forall_eq, ↓reduceIte, true_and, and_true, not_true_eq_false, not_false_eq_true, b2i_0, b2i_1, bz_b2i, bz_0, bz_1, nar_b2i, narb_0, narb_1, ↓within_eq, ↓lies_eq, i64i, zi0, zj0, zi1, zj1, zi2, zj2, zi3, zj3, zi4, zj4, zi5, zj5, zi6, zj6, zi7, zj7, zi8, zj8, zi9, zj9, zi10, zj10, zi12, zj12, zi13, zj13, zi19, zj19, zi20, zj20, zi21, zj21, zi29, zj29, zi30, zj30, zi39, zj39, zi48, zj48, zi50, zj50, zi57, zj57, zi60, zj60, zi63, zj63, zi65, zj65, zi71, zj71, zi72, zj72, zi73, zj73, zi74, zj74, zi80, zj80, zi97, zj97, zi98, zj98, zi99, zj99, zi100, zj100, zi106, zj106, zi240, zj240, zi255, zj255, zi260, zj260, zi300, zj300, zi999, zj999, zi1000, zj1000, zi1023, zj1023, zi1024, zj1024, zi9999, zj9999, zi65535, zj65535, zi65536, zj65536, z_tn, z_m1, z_m2, z_bt, z_bf, z_10]
    refine toldOf_n (p := fun k => (hl 5 0).testBit k) (fun post k hk hp => ?_) _ ?_
    · unfold wX12_isToldOf
      rw [if_neg (by decide), if_neg (by decide), if_neg (by decide), isListening_eq (b2 k hk).1 hk]
      exact ⟨bz_b2i _, hp⟩
    · rw [orB_tb (n := 10) w2]
      exact ⟨rfl, h⟩
  have hn : ¬ (3 ≤ a0.toInt ∧ a0.toInt ≤ 6) := fun q => by
    obtain ⟨j, hj, rfl⟩ := at_n (a := a0) (n := 6) (by omega) (by decide)
    rw [nI_toInt (by omega)] at q
    have e : j = 3 ∨ j = 4 ∨ j = 5 ∨ j = 6 := by omega
    rcases e with rfl | rfl | rfl | rfl
    · exact q3 rfl
    · exact q4 rfl
    · exact q5 rfl
    · exact q6 rfl
  have hM : ∀ post : Int32 → xMem → Prop, wX12_count a0 M post = (if a0 = 0 then post (gi M 0 65) M else if a0 = 1 then post (gi M 0 66) M else if a0 = 2 then post (gi M 0 67) M else if a0 = 7 then (vp_in 0 2 ∧ post (gi M 15 0) M) else if a0 = 8 then post (gi M 0 1) M else if a0 = 9 then post (gi M 0 2) M else post (-1) M) := fun post => by
    unfold wX12_count
    rw [lies_eq, i64i, zj3, zj6, b2i_f hn, if_pos rfl, if_neg q3, if_neg q4, if_neg q5, if_neg q6]
  have hC : ∀ post : Int32 → xMem → Prop, wX11_count a0 C post = (if a0 = 0 then post (gi C 49 10) C else if a0 = 1 then post (gi C 49 11) C else if a0 = 2 then post (gi C 49 12) C else if a0 = 7 then post (gi C 18 0) C else if a0 = 8 then post (gi C 0 1) C else if a0 = 9 then post (gi C 49 13) C else post (-1) C) := fun post => by
    unfold wX11_count
    rw [if_neg q3, if_neg q4, if_neg q5, if_neg q6]
  show wX11_count a0 C (fun r C' => wX12_count a0 M (fun r' M' => r = r' ∧ RRL LL C' M'))
  rw [hC, hM, hM, hM, hM, hM, hM, hM, a3, b3, a4, b4, a5, b5, h7 C M hL, rT.1, rT2.1, a6, b6]
  by_cases q0 : a0 = 0
  · rw [if_pos q0]
    rw [if_pos q0]
    exact ⟨rfl, h⟩
  rw [if_neg q0]
  by_cases q1 : a0 = 1
  · rw [if_pos q1]
    rw [if_neg q0, if_pos q1]
    exact ⟨rfl, h⟩
  rw [if_neg q1]
  by_cases q2 : a0 = 2
  · rw [if_pos q2]
    rw [if_neg q0, if_neg q1, if_pos q2]
    exact ⟨rfl, h⟩
  rw [if_neg q2]
  by_cases q7 : a0 = 7
  · rw [if_pos q7]
    rw [if_neg q0, if_neg q1, if_neg q2, if_pos q7]
    exact ⟨vp_in_nI (n := 0) (by decide) (by decide), rfl, h⟩
  rw [if_neg q7]
  by_cases q8 : a0 = 8
  · rw [if_pos q8]
    rw [if_neg q0, if_neg q1, if_neg q2, if_neg q7, if_pos q8]
    exact ⟨rfl, h⟩
  rw [if_neg q8]
  by_cases q9 : a0 = 9
  · rw [if_pos q9]
    rw [if_neg q0, if_neg q1, if_neg q2, if_neg q7, if_neg q8, if_pos q9]
    exact ⟨rfl, h⟩
  rw [if_neg q9]
  rw [if_neg q0, if_neg q1, if_neg q2, if_neg q7, if_neg q8, if_neg q9]
  exact ⟨rfl, h⟩
