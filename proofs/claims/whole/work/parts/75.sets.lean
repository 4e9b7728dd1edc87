/-! sums over sets of places -/
def ws (f : Nat → Nat) : Nat → Nat → Nat
  | 0, _ => 0
  | n + 1, s => if s.testBit n = true then ws f n s + f n else ws f n s
theorem ws_0 (f : Nat → Nat) : ∀ n, ws f n 0 = 0 := by
  intro n
  induction n with
  | zero => rfl
  | succ n ih => unfold ws; rw [if_neg (by rw [Nat.zero_testBit]; decide)]; exact ih
theorem tb_add {p r j : Nat} (hr : r < 2 ^ p) : (2 ^ p + r).testBit j = (decide (j = p) || r.testBit j) := by
  rcases Nat.lt_trichotomy j p with h | h | h
  · rw [Nat.testBit_two_pow_add_gt h]
    simp [show ¬ j = p by omega]
  · subst h
    rw [Nat.testBit_two_pow_add_eq]
    have := Nat.testBit_lt_two_pow (x := r) (i := j) hr
    simp [this]
  · have h2 : 2 ^ p + r < 2 ^ (p + 1) := by rw [Nat.pow_succ]; omega
    have h3 : 2 ^ (p + 1) ≤ 2 ^ j := Nat.pow_le_pow_right (by omega) (by omega)
    rw [Nat.testBit_lt_two_pow (show 2 ^ p + r < 2 ^ j by omega), Nat.testBit_lt_two_pow (show r < 2 ^ j by omega)]
    simp [show ¬ j = p by omega]
theorem ws_add (f : Nat → Nat) {p r : Nat} (hr : r < 2 ^ p) : ∀ n, ws f n (2 ^ p + r) = ws f n r + (if p < n then f p else 0) := by
  intro n
  induction n with
  | zero => rfl
  | succ n ih =>
    unfold ws
    rw [ih, tb_add hr]
    by_cases h : n = p
    · subst h
      have := Nat.testBit_lt_two_pow (x := r) (i := n) hr
      simp [this]
    · rcases Nat.lt_or_ge p n with h2 | h2
      · simp [h, h2, show p < n + 1 by omega]
        split <;> omega
      · simp [h, show ¬ p < n by omega, show ¬ p < n + 1 by omega]
theorem ws_cut (f : Nat → Nat) {s n m : Nat} (hs : s < 2 ^ n) (h : n ≤ m) : ws f m s = ws f n s := by
  induction m with
  | zero => have : n = 0 := by omega
            subst this; rfl
  | succ m ih =>
    by_cases e : n = m + 1
    · subst e; rfl
    · show (if s.testBit m = true then ws f m s + f m else ws f m s) = ws f n s
      have := Nat.testBit_lt_two_pow (x := s) (i := m) (Nat.lt_of_lt_of_le hs (Nat.pow_le_pow_right (by omega) (show n ≤ m by omega)))
      rw [if_neg (by rw [this]; decide)]
      exact ih (by omega)
theorem ws_le {f : Nat → Nat} {b : Nat} {n : Nat} (h : ∀ j, j < n → f j ≤ b) (s : Nat) : ∀ m, m ≤ n → ws f m s ≤ b * m := by
  intro m
  induction m with
  | zero => intro _; exact Nat.le_refl _
  | succ m ih =>
    intro hm
    have h1 := ih (by omega)
    have h2 := h m (by omega)
    have h3 : b * (m + 1) = b * m + b := Nat.mul_succ b m
    unfold ws
    split <;> omega
/-- sets of places as sets of ends -/
def es (L : Nat → Nat) : Nat → Nat → Nat
  | 0, _ => 0
  | n + 1, s => if s.testBit n = true then es L n s ||| 2 ^ L n else es L n s
theorem es_lt {L : Nat → Nat} {n : Nat} (h : ∀ j, j < n → L j < 10) (s : Nat) : ∀ m, m ≤ n → es L m s < 1024 := by
  intro m
  induction m with
  | zero => intro _; exact (by decide : (0 : Nat) < 1024)
  | succ m ih =>
    intro hm
    unfold es
    split
    · exact Nat.or_lt_two_pow (n := 10) (ih (by omega)) (p2_10 (h m (by omega)))
    · exact ih (by omega)
theorem shl_L {n : Nat} (h : n < 10) : (1 : Int32) <<< (nI n &&& 31) = nI (2 ^ n) := shl1_n (by omega)
theorem endsOfC {L : Nat → Nat} {n s : Nat} (hn : n ≤ 10) (hs : s < 1024) (hL : ∀ j, j < n → L j < 10) {C : xMem} (h : ∀ j, j < n → gi C 46 j = nI (L j)) (post : Int32 → xMem → Prop) (hp : post (nI (es L n s)) C) : wX2_endsOf (nI s) (nI n) C post := by
  have key : ∀ (m i : Nat), i + m = n → wX2_endsOf_5 post (m + 1) (nI s) (nI n) (nI (es L i s)) (nI i) C := by
    intro m
    induction m with
    | zero =>
      intro i e
      have : i = n := by omega
      subst this
      rw [wX2_endsOf_5]; dsimp only
      rw [if_pos (nI_le (Nat.le_refl _) (by omega))]
      exact hp
    | succ m ih =>
      intro i e
      have hi : i < n := by omega
      have hi10 : i < 10 := by omega
      have h9 := ih (i + 1) (by omega)
      unfold es at h9
      rw [wX2_endsOf_5]; dsimp only
      unfold wX2_endsOf_39
      rw [if_neg (nI_ge hi (by omega)), if_neg (show ¬ (10 : Int32) ≤ nI i from nI_ge hi10 (by decide)), hasC_n (by omega) (by omega)]
      by_cases z : s.testBit i = true
      · rw [if_pos z] at h9
        rw [b2i_t z, if_neg (by decide)]
        refine ⟨vp_in_nI (by omega) (by decide), ?_⟩
        rw [nI_clamp (by omega), h i hi, shl_L (hL i hi), z_or]
        simp (disch := omega) only [z_lt_t, z_lt_f, z_le_t, z_le_f, z_eq_t, z_eq_f, z_lt0, z_lt1_t, z_lt1_f, z_lt2_t, z_lt2_f, z_le1_t, z_le1_f, z_le2_t, z_le2_f, z_eq1_t, z_eq1_f, z_eq2_t, z_eq2_f, z_lt1, z_lt2, z_le1, z_le2, z_eq1, z_eq2, z_lt, z_le, z_eq, z_in, z_cl, z_cl1, z_add, z_add1, z_addm, z_sub, z_subl, z_mul, z_mull, ↓forall_eq, ↓reduceIte, true_and, and_true, not_true_eq_false, not_false_eq_true, b2i_0, b2i_1, bz_b2i, bz_0, bz_1, nar_b2i, narb_0, narb_1, ↓within_eq, ↓lies_eq, i64i, zi0, zj0, zi1, zj1, zi2, zj2, zi3, zj3, zi4, zj4, zi5, zj5, zi6, zj6, zi7, zj7, zi8, zj8, zi9, zj9, zi10, zj10, zi12, zj12, zi13, zj13, zi19, zj19, zi20, zj20, zi21, zj21, zi29, zj29, zi30, zj30, zi39, zj39, zi48, zj48, zi50, zj50, zi57, zj57, zi60, zj60, zi63, zj63, zi65, zj65, zi71, zj71, zi72, zj72, zi73, zj73, zi74, zj74, zi80, zj80, zi97, zj97, zi98, zj98, zi99, zj99, zi100, zj100, zi106, zj106, zi240, zj240, zi255, zj255, zi260, zj260, zi300, zj300, zi999, zj999, zi1000, zj1000, zi1023, zj1023, zi1024, zj1024, zi9999, zj9999, zi65535, zj65535, zi65536, zj65536, z_tn, z_m1, z_m2, z_bt, z_bf, z_10, Bool.false_eq_true]
        exact h9
      · rw [if_neg z] at h9
        rw [b2i_f z, if_pos rfl]
        simp (disch := omega) only [z_lt_t, z_lt_f, z_le_t, z_le_f, z_eq_t, z_eq_f, z_lt0, z_lt1_t, z_lt1_f, z_lt2_t, z_lt2_f, z_le1_t, z_le1_f, z_le2_t, z_le2_f, z_eq1_t, z_eq1_f, z_eq2_t, z_eq2_f, z_lt1, z_lt2, z_le1, z_le2, z_eq1, z_eq2, z_lt, z_le, z_eq, z_in, z_cl, z_cl1, z_add, z_add1, z_addm, z_sub, z_subl, z_mul, z_mull, ↓forall_eq, ↓reduceIte, true_and, and_true, not_true_eq_false, not_false_eq_true, b2i_0, b2i_1, bz_b2i, bz_0, bz_1, nar_b2i, narb_0, narb_1, ↓within_eq, ↓lies_eq, i64i, zi0, zj0, zi1, zj1, zi2, zj2, zi3, zj3, zi4, zj4, zi5, zj5, zi6, zj6, zi7, zj7, zi8, zj8, zi9, zj9, zi10, zj10, zi12, zj12, zi13, zj13, zi19, zj19, zi20, zj20, zi21, zj21, zi29, zj29, zi30, zj30, zi39, zj39, zi48, zj48, zi50, zj50, zi57, zj57, zi60, zj60, zi63, zj63, zi65, zj65, zi71, zj71, zi72, zj72, zi73, zj73, zi74, zj74, zi80, zj80, zi97, zj97, zi98, zj98, zi99, zj99, zi100, zj100, zi106, zj106, zi240, zj240, zi255, zj255, zi260, zj260, zi300, zj300, zi999, zj999, zi1000, zj1000, zi1023, zj1023, zi1024, zj1024, zi9999, zj9999, zi65535, zj65535, zi65536, zj65536, z_tn, z_m1, z_m2, z_bt, z_bf, z_10, Bool.false_eq_true]
        exact h9
  exact ⟨n + 1, key n 0 (by omega)⟩
/-! winter() -/
def uW (lim : Nat) (w d : Nat → Nat) (st : Nat × Nat × Nat) (s : Nat) : Nat × Nat × Nat := if d s ≤ lim ∧ (st.2.1 < w s ∨ (w s = st.2.1 ∧ d s < st.2.2)) then (s, w s, d s) else st
def wj (lim : Nat) (w d : Nat → Nat) : Nat → Nat × Nat × Nat
  | 0 => (0, 0, 0)
  | s + 1 => if s = 0 then (0, 0, 0) else uW lim w d (wj lim w d s) s
theorem wj_s (lim : Nat) (w d : Nat → Nat) {s : Nat} (h : 1 ≤ s) : wj lim w d (s + 1) = uW lim w d (wj lim w d s) s := if_neg (by omega)
theorem wj_b {lim b : Nat} {w d : Nat → Nat} (h : ∀ s, w s ≤ b ∧ d s ≤ b) : ∀ s, (wj lim w d s).2.1 ≤ b ∧ (wj lim w d s).2.2 ≤ b ∧ (wj lim w d s).1 ≤ s := by
  intro s
  induction s with
  | zero => exact ⟨Nat.zero_le _, Nat.zero_le _, Nat.le_refl _⟩
  | succ s ih =>
    unfold wj
    by_cases z : s = 0
    · rw [if_pos z]; exact ⟨Nat.zero_le _, Nat.zero_le _, Nat.zero_le _⟩
    · rw [if_neg z]
      unfold uW
      have := h s
      by_cases z2 : d s ≤ lim ∧ ((wj lim w d s).2.1 < w s ∨ (w s = (wj lim w d s).2.1 ∧ d s < (wj lim w d s).2.2))
      · rw [if_pos z2]; dsimp only; omega
      · rw [if_neg z2]; omega
def WI (C0 C : xMem) (lim : Nat) (fw fd : Nat → Nat) (s : Nat) : Prop := (∀ c i, ¬ ((c = 41 ∧ (i = 11 ∨ i = 12)) ∨ c = 47 ∨ c = 48) → gi C c i = gi C0 c i) ∧ (∀ s', 1 ≤ s' → s' < s → gi C 47 s' = nI (ws fw 10 s') ∧ gi C 48 s' = nI (ws fd 10 s')) ∧ gi C 41 12 = nI (wj lim (ws fw 10) (ws fd 10) s).2.1 ∧ gi C 41 11 = nI (wj lim (ws fw 10) (ws fd 10) s).2.2
theorem planC {L fw fd : Nat → Nat} {n lim : Nat} (hn : n ≤ 10) (hlim : lim ≤ 300) (hL : ∀ j, j < n → L j < 10) (hfw : ∀ j, j < 10 → fw j ≤ 1000) (hfd : ∀ j, j < 10 → fd j ≤ 1000) {C0 : xMem} (h46 : ∀ j, j < n → gi C0 46 j = nI (L j)) (h1 : ∀ j, j < n → gi C0 1 j * gi C0 43 (L j) = nI (fw j)) (h2 : ∀ j, j < n → gi C0 44 (L j) = nI (fd j)) (post : xMem → Prop) (hp : ∀ C : xMem, (∀ c i, ¬ ((c = 41 ∧ (i = 10 ∨ i = 11 ∨ i = 12)) ∨ c = 47 ∨ c = 48) → gi C c i = gi C0 c i) → gi C 41 12 = nI (wj lim (ws fw 10) (ws fd 10) (2 ^ n)).2.1 → gi C 41 11 = nI (wj lim (ws fw 10) (ws fd 10) (2 ^ n)).2.2 → gi C 41 10 = nI (es L n (wj lim (ws fw 10) (ws fd 10) (2 ^ n)).1) → post C) : ∀ (m p : Nat), p + m = n → ∀ C, WI C0 C lim fw fd (2 ^ p) → wX2_planWinter_57 post (m + 1) (nI lim) (nI n) (nI (wj lim (ws fw 10) (ws fd 10) (2 ^ p)).1) (nI p) C := by
  have hb : ∀ s, ws fw 10 s ≤ 10000 ∧ ws fd 10 s ≤ 10000 := fun s => by
    have a := ws_le (n := 10) hfw s 10 (Nat.le_refl _)
    have b := ws_le (n := 10) hfd s 10 (Nat.le_refl _)
    omega
  have hwb := wj_b (lim := lim) hb
  have inn : ∀ (K57 : Int32 → Int32 → Int32 → Int32 → xMem → Prop) (p : Nat), p < n → (∀ C, WI C0 C lim fw fd (2 ^ (p + 1)) → K57 (nI lim) (nI n) (nI (wj lim (ws fw 10) (ws fd 10) (2 ^ (p + 1))).1) (nI (p + 1)) C) → ∀ (m r : Nat), r + m = 2 ^ p → ∀ C, WI C0 C lim fw fd (2 ^ p + r) → wX2_planWinter_89 K57 post (m + 1) (nI lim) (nI n) (nI (wj lim (ws fw 10) (ws fd 10) (2 ^ p + r)).1) (nI p) (nI (2 ^ p)) (nI (L p)) (nI (2 ^ p + r)) C := by
    intro K57 p hpn hK m
    have hpp : 2 ^ p ≤ 512 := Nat.pow_le_pow_right (n := 2) (by omega) (show p ≤ 9 by omega)
    have hp0 : 0 < 2 ^ p := Nat.two_pow_pos p
    have e2 : 2 ^ (p + 1) = 2 ^ p + 2 ^ p := by rw [Nat.pow_succ]; omega
    induction m with
    | zero =>
      intro r e C hW
      have : r = 2 ^ p := by omega
      subst this
      rw [wX2_planWinter_89]; dsimp only
      simp (disch := omega) only [z_lt_t, z_lt_f, z_le_t, z_le_f, z_eq_t, z_eq_f, z_lt0, z_lt1_t, z_lt1_f, z_lt2_t, z_lt2_f, z_le1_t, z_le1_f, z_le2_t, z_le2_f, z_eq1_t, z_eq1_f, z_eq2_t, z_eq2_f, z_lt1, z_lt2, z_le1, z_le2, z_eq1, z_eq2, z_lt, z_le, z_eq, z_in, z_cl, z_cl1, z_add, z_add1, z_addm, z_sub, z_subl, z_mul, z_mull, ↓forall_eq, ↓reduceIte, true_and, and_true, not_true_eq_false, not_false_eq_true, b2i_0, b2i_1, bz_b2i, bz_0, bz_1, nar_b2i, narb_0, narb_1, ↓within_eq, ↓lies_eq, i64i, zi0, zj0, zi1, zj1, zi2, zj2, zi3, zj3, zi4, zj4, zi5, zj5, zi6, zj6, zi7, zj7, zi8, zj8, zi9, zj9, zi10, zj10, zi12, zj12, zi13, zj13, zi19, zj19, zi20, zj20, zi21, zj21, zi29, zj29, zi30, zj30, zi39, zj39, zi48, zj48, zi50, zj50, zi57, zj57, zi60, zj60, zi63, zj63, zi65, zj65, zi71, zj71, zi72, zj72, zi73, zj73, zi74, zj74, zi80, zj80, zi97, zj97, zi98, zj98, zi99, zj99, zi100, zj100, zi106, zj106, zi240, zj240, zi255, zj255, zi260, zj260, zi300, zj300, zi999, zj999, zi1000, zj1000, zi1023, zj1023, zi1024, zj1024, zi9999, zj9999, zi65535, zj65535, zi65536, zj65536, z_tn, z_m1, z_m2, z_bt, z_bf, z_10, Bool.false_eq_true]
      rw [← e2] at hW ⊢
      exact hK C hW
    | succ m ih =>
      intro r e C hW
      obtain ⟨f1, f2, f3, f4⟩ := id hW
      have hr : r < 2 ^ p := by omega
      have hb1 := hb (2 ^ p + r)
      have hw1 := hwb (2 ^ p + r)
      have sw := ws_add fw hr 10
      have sd := ws_add fd hr 10
      rw [if_pos (show p < 10 by omega)] at sw sd
      rw [wX2_planWinter_89]; dsimp only
      simp (disch := omega) only [z_lt_t, z_lt_f, z_le_t, z_le_f, z_eq_t, z_eq_f, z_lt0, z_lt1_t, z_lt1_f, z_lt2_t, z_lt2_f, z_le1_t, z_le1_f, z_le2_t, z_le2_f, z_eq1_t, z_eq1_f, z_eq2_t, z_eq2_f, z_lt1, z_lt2, z_le1, z_le2, z_eq1, z_eq2, z_lt, z_le, z_eq, z_in, z_cl, z_cl1, z_add, z_add1, z_addm, z_sub, z_subl, z_mul, z_mull, ↓forall_eq, ↓reduceIte, true_and, and_true, not_true_eq_false, not_false_eq_true, b2i_0, b2i_1, bz_b2i, bz_0, bz_1, nar_b2i, narb_0, narb_1, ↓within_eq, ↓lies_eq, i64i, zi0, zj0, zi1, zj1, zi2, zj2, zi3, zj3, zi4, zj4, zi5, zj5, zi6, zj6, zi7, zj7, zi8, zj8, zi9, zj9, zi10, zj10, zi12, zj12, zi13, zj13, zi19, zj19, zi20, zj20, zi21, zj21, zi29, zj29, zi30, zj30, zi39, zj39, zi48, zj48, zi50, zj50, zi57, zj57, zi60, zj60, zi63, zj63, zi65, zj65, zi71, zj71, zi72, zj72, zi73, zj73, zi74, zj74, zi80, zj80, zi97, zj97, zi98, zj98, zi99, zj99, zi100, zj100, zi106, zj106, zi240, zj240, zi255, zj255, zi260, zj260, zi300, zj300, zi999, zj999, zi1000, zj1000, zi1023, zj1023, zi1024, zj1024, zi9999, zj9999, zi65535, zj65535, zi65536, zj65536, z_tn, z_m1, z_m2, z_bt, z_bf, z_10, Bool.false_eq_true]
      -- behind the two sums
      have fin : ∀ s0 s1 : Nat, s0 + fw p = ws fw 10 (2 ^ p + r) → s1 + fd p = ws fd 10 (2 ^ p + r) → ∀ C2, (∀ c i, ¬ (c = 47 ∧ i = 2 ^ p + r) → gi C2 c i = gi C c i) → gi C2 47 (2 ^ p + r) = nI (ws fw 10 (2 ^ p + r)) → wX2_planWinter_166 K57 (wX2_planWinter_89 K57 post (m + 1)) post (nI lim) (nI n) (nI (wj lim (ws fw 10) (ws fd 10) (2 ^ p + r)).1) (nI p) (nI (2 ^ p)) (nI (L p)) (nI (2 ^ p + r)) (nI s1) (nI (2 ^ p + r)) C2 := by
        intro s0 s1 es0 es1 C2 g1 g2
        unfold wX2_planWinter_166
        have hLp := hL p hpn
        have e44 : gi C2 44 (L p) = nI (fd p) := by rw [g1 _ _ (by omega), f1 _ _ (by omega)]; exact h2 p hpn
        simp (disch := omega) only [z_lt_t, z_lt_f, z_le_t, z_le_f, z_eq_t, z_eq_f, z_lt0, z_lt1_t, z_lt1_f, z_lt2_t, z_lt2_f, z_le1_t, z_le1_f, z_le2_t, z_le2_f, z_eq1_t, z_eq1_f, z_eq2_t, z_eq2_f, z_lt1, z_lt2, z_le1, z_le2, z_eq1, z_eq2, z_lt, z_le, z_eq, z_in, z_cl, z_cl1, z_add, z_add1, z_addm, z_sub, z_subl, z_mul, z_mull, ↓forall_eq, ↓reduceIte, true_and, and_true, not_true_eq_false, not_false_eq_true, b2i_0, b2i_1, bz_b2i, bz_0, bz_1, nar_b2i, narb_0, narb_1, ↓within_eq, ↓lies_eq, i64i, zi0, zj0, zi1, zj1, zi2, zj2, zi3, zj3, zi4, zj4, zi5, zj5, zi6, zj6, zi7, zj7, zi8, zj8, zi9, zj9, zi10, zj10, zi12, zj12, zi13, zj13, zi19, zj19, zi20, zj20, zi21, zj21, zi29, zj29, zi30, zj30, zi39, zj39, zi48, zj48, zi50, zj50, zi57, zj57, zi60, zj60, zi63, zj63, zi65, zj65, zi71, zj71, zi72, zj72, zi73, zj73, zi74, zj74, zi80, zj80, zi97, zj97, zi98, zj98, zi99, zj99, zi100, zj100, zi106, zj106, zi240, zj240, zi255, zj255, zi260, zj260, zi300, zj300, zi999, zj999, zi1000, zj1000, zi1023, zj1023, zi1024, zj1024, zi9999, zj9999, zi65535, zj65535, zi65536, zj65536, z_tn, z_m1, z_m2, z_bt, z_bf, z_10, Bool.false_eq_true, e44]
        rw [es1]
        have G : ∀ c i, ¬ (c = 47 ∧ i = 2 ^ p + r) → ¬ (c = 48 ∧ i = 2 ^ p + r) → gi (si C2 48 (2 ^ p + r) (nI (ws fd 10 (2 ^ p + r)))) c i = gi C c i := fun c i q1 q2 => by rw [gi_si, if_neg q2]; exact g1 c i q1
        have G47 : gi (si C2 48 (2 ^ p + r) (nI (ws fd 10 (2 ^ p + r)))) 47 (2 ^ p + r) = nI (ws fw 10 (2 ^ p + r)) := by rw [gi_si, if_neg (by omega)]; exact g2
        have G48 : gi (si C2 48 (2 ^ p + r) (nI (ws fd 10 (2 ^ p + r)))) 48 (2 ^ p + r) = nI (ws fd 10 (2 ^ p + r)) := g_same _ _ _ _
        have G12 : gi (si C2 48 (2 ^ p + r) (nI (ws fd 10 (2 ^ p + r)))) 41 12 = nI (wj lim (ws fw 10) (ws fd 10) (2 ^ p + r)).2.1 := by rw [G _ _ (by omega) (by omega)]; exact f3
        have G11 : gi (si C2 48 (2 ^ p + r) (nI (ws fd 10 (2 ^ p + r)))) 41 11 = nI (wj lim (ws fw 10) (ws fd 10) (2 ^ p + r)).2.2 := by rw [G _ _ (by omega) (by omega)]; exact f4
        generalize si C2 48 (2 ^ p + r) (nI (ws fd 10 (2 ^ p + r))) = C3 at G G47 G48 G12 G11 ⊢
        have T : ∀ (b : Prop) [Decidable b], (b ↔ ((wj lim (ws fw 10) (ws fd 10) (2 ^ p + r)).2.1 < ws fw 10 (2 ^ p + r) ∨ (ws fw 10 (2 ^ p + r) = (wj lim (ws fw 10) (ws fd 10) (2 ^ p + r)).2.1 ∧ ws fd 10 (2 ^ p + r) < (wj lim (ws fw 10) (ws fd 10) (2 ^ p + r)).2.2))) → wX2_planWinter_222 K57 (wX2_planWinter_89 K57 post (m + 1)) post (nI lim) (nI n) (nI (wj lim (ws fw 10) (ws fd 10) (2 ^ p + r)).1) (nI p) (nI (2 ^ p)) (nI (L p)) (nI (2 ^ p + r)) (b2i b) C3 := by
          intro b _ hbt
          have h9 := fun C' hC' => ih (r + 1) (by omega) C' hC'
          rw [show 2 ^ p + (r + 1) = 2 ^ p + r + 1 by omega] at h9
          unfold WI at h9
          rw [wj_s _ _ _ (show 1 ≤ 2 ^ p + r by omega)] at h9
          have old : ∀ s', 1 ≤ s' → s' < 2 ^ p + r + 1 → gi C3 47 s' = nI (ws fw 10 s') ∧ gi C3 48 s' = nI (ws fd 10 s') := fun s' q1 q2 => by
            by_cases es : s' = 2 ^ p + r
            · subst es; exact ⟨G47, G48⟩
            · rw [G _ _ (by omega) (by omega), G _ _ (by omega) (by omega)]; exact f2 s' q1 (by omega)
          unfold wX2_planWinter_222 wX2_planWinter_266
          refine ⟨vp_in_nI (by omega) (by decide), ?_⟩
          rw [nI_clamp (by omega), G48]
          unfold uW at h9
          by_cases z1 : ws fd 10 (2 ^ p + r) ≤ lim
          · rw [if_neg (nI_nlt z1 (by omega))]
            by_cases z2 : b
            · rw [if_pos ⟨z1, hbt.mp z2⟩] at h9
              rw [b2i_t z2, if_neg (by decide)]
              refine ⟨vp_in_nI (by omega) (by decide), ?_⟩
              intro M5 e5
              subst e5
              refine ⟨vp_in_nI (by omega) (by decide), ?_⟩
              rw [G47, g_c (by omega), G48]
              intro M7 e7
              subst e7
              intro v1 ev
              subst ev
              rw [z_add1]
              refine h9 _ ⟨fun c i hc => ?_, fun s' q1 q2 => ?_, ?_, ?_⟩
              · rw [gi_si, if_neg (by omega), gi_si, if_neg (by omega), G _ _ (by omega) (by omega)]
                exact f1 c i hc
              · rw [g_c (by omega), g_c (by omega), g_c (by omega), g_c (by omega)]; exact old s' q1 q2
              · rw [g_i (by omega), g_same]
              · rw [g_same]
            · rw [if_neg (fun y => z2 (hbt.mpr y.2))] at h9
              rw [b2i_f z2, if_pos rfl]
              simp (disch := omega) only [z_lt_t, z_lt_f, z_le_t, z_le_f, z_eq_t, z_eq_f, z_lt0, z_lt1_t, z_lt1_f, z_lt2_t, z_lt2_f, z_le1_t, z_le1_f, z_le2_t, z_le2_f, z_eq1_t, z_eq1_f, z_eq2_t, z_eq2_f, z_lt1, z_lt2, z_le1, z_le2, z_eq1, z_eq2, z_lt, z_le, z_eq, z_in, z_cl, z_cl1, z_add, z_add1, z_addm, z_sub, z_subl, z_mul, z_mull, ↓forall_eq, ↓reduceIte, true_and, and_true, not_true_eq_false, not_false_eq_true, b2i_0, b2i_1, bz_b2i, bz_0, bz_1, nar_b2i, narb_0, narb_1, ↓within_eq, ↓lies_eq, i64i, zi0, zj0, zi1, zj1, zi2, zj2, zi3, zj3, zi4, zj4, zi5, zj5, zi6, zj6, zi7, zj7, zi8, zj8, zi9, zj9, zi10, zj10, zi12, zj12, zi13, zj13, zi19, zj19, zi20, zj20, zi21, zj21, zi29, zj29, zi30, zj30, zi39, zj39, zi48, zj48, zi50, zj50, zi57, zj57, zi60, zj60, zi63, zj63, zi65, zj65, zi71, zj71, zi72, zj72, zi73, zj73, zi74, zj74, zi80, zj80, zi97, zj97, zi98, zj98, zi99, zj99, zi100, zj100, zi106, zj106, zi240, zj240, zi255, zj255, zi260, zj260, zi300, zj300, zi999, zj999, zi1000, zj1000, zi1023, zj1023, zi1024, zj1024, zi9999, zj9999, zi65535, zj65535, zi65536, zj65536, z_tn, z_m1, z_m2, z_bt, z_bf, z_10, Bool.false_eq_true]
              refine h9 _ ⟨fun c i hc => ?_, old, ?_, ?_⟩
              · rw [G _ _ (by omega) (by omega)]; exact f1 c i hc
              · exact G12
              · exact G11
          · rw [if_neg (fun y => z1 y.1)] at h9
            rw [if_pos (nI_lt (by omega) (by omega))]
            simp (disch := omega) only [z_lt_t, z_lt_f, z_le_t, z_le_f, z_eq_t, z_eq_f, z_lt0, z_lt1_t, z_lt1_f, z_lt2_t, z_lt2_f, z_le1_t, z_le1_f, z_le2_t, z_le2_f, z_eq1_t, z_eq1_f, z_eq2_t, z_eq2_f, z_lt1, z_lt2, z_le1, z_le2, z_eq1, z_eq2, z_lt, z_le, z_eq, z_in, z_cl, z_cl1, z_add, z_add1, z_addm, z_sub, z_subl, z_mul, z_mull, ↓forall_eq, ↓reduceIte, true_and, and_true, not_true_eq_false, not_false_eq_true, b2i_0, b2i_1, bz_b2i, bz_0, bz_1, nar_b2i, narb_0, narb_1, ↓within_eq, ↓lies_eq, i64i, zi0, zj0, zi1, zj1, zi2, zj2, zi3, zj3, zi4, zj4, zi5, zj5, zi6, zj6, zi7, zj7, zi8, zj8, zi9, zj9, zi10, zj10, zi12, zj12, zi13, zj13, zi19, zj19, zi20, zj20, zi21, zj21, zi29, zj29, zi30, zj30, zi39, zj39, zi48, zj48, zi50, zj50, zi57, zj57, zi60, zj60, zi63, zj63, zi65, zj65, zi71, zj71, zi72, zj72, zi73, zj73, zi74, zj74, zi80, zj80, zi97, zj97, zi98, zj98, zi99, zj99, zi100, zj100, zi106, zj106, zi240, zj240, zi255, zj255, zi260, zj260, zi300, zj300, zi999, zj999, zi1000, zj1000, zi1023, zj1023, zi1024, zj1024, zi9999, zj9999, zi65535, zj65535, zi65536, zj65536, z_tn, z_m1, z_m2, z_bt, z_bf, z_10, Bool.false_eq_true]
            refine h9 _ ⟨fun c i hc => ?_, old, ?_, ?_⟩
            · rw [G _ _ (by omega) (by omega)]; exact f1 c i hc
            · exact G12
            · exact G11
        unfold wX2_planWinter_217 wX2_planWinter_221
        rw [G12, G47]
        by_cases z1 : (wj lim (ws fw 10) (ws fd 10) (2 ^ p + r)).2.1 < ws fw 10 (2 ^ p + r)
        · rw [if_pos (nI_lt z1 (by omega))]
          exact T True ⟨fun _ => Or.inl z1, fun _ => trivial⟩
        · rw [if_neg (nI_nlt (by omega) (by omega))]
          by_cases z2 : ws fw 10 (2 ^ p + r) = (wj lim (ws fw 10) (ws fd 10) (2 ^ p + r)).2.1
          · rw [if_pos (by rw [z2])]
            rw [G11, G48]
            by_cases z3 : (wj lim (ws fw 10) (ws fd 10) (2 ^ p + r)).2.2 ≤ ws fd 10 (2 ^ p + r)
            · rw [if_pos (nI_le z3 (by omega))]
              exact T False ⟨fun y => y.elim, fun y => by omega⟩
            · rw [if_neg (nI_ge (by omega) (by omega))]
              exact T True ⟨fun _ => Or.inr ⟨z2, by omega⟩, fun _ => trivial⟩
          · rw [if_neg (fun y => z2 ((nI_eq (by omega) (by omega)).mp y))]
            exact T False ⟨fun y => y.elim, fun y => by omega⟩
      have hLp := hL p hpn
      have eP : gi C 1 p * gi C 43 (L p) = nI (fw p) := by rw [f1 _ _ (by omega), f1 _ _ (by omega)]; exact h1 p hpn
      have n0 : (0 : Int32) = nI 0 := rfl
      by_cases z : r = 0
      · subst z
        rw [if_pos (by omega)]
        unfold wX2_planWinter_125
        simp (disch := omega) only [z_lt_t, z_lt_f, z_le_t, z_le_f, z_eq_t, z_eq_f, z_lt0, z_lt1_t, z_lt1_f, z_lt2_t, z_lt2_f, z_le1_t, z_le1_f, z_le2_t, z_le2_f, z_eq1_t, z_eq1_f, z_eq2_t, z_eq2_f, z_lt1, z_lt2, z_le1, z_le2, z_eq1, z_eq2, z_lt, z_le, z_eq, z_in, z_cl, z_cl1, z_add, z_add1, z_addm, z_sub, z_subl, z_mul, z_mull, ↓forall_eq, ↓reduceIte, true_and, and_true, not_true_eq_false, not_false_eq_true, b2i_0, b2i_1, bz_b2i, bz_0, bz_1, nar_b2i, narb_0, narb_1, ↓within_eq, ↓lies_eq, i64i, zi0, zj0, zi1, zj1, zi2, zj2, zi3, zj3, zi4, zj4, zi5, zj5, zi6, zj6, zi7, zj7, zi8, zj8, zi9, zj9, zi10, zj10, zi12, zj12, zi13, zj13, zi19, zj19, zi20, zj20, zi21, zj21, zi29, zj29, zi30, zj30, zi39, zj39, zi48, zj48, zi50, zj50, zi57, zj57, zi60, zj60, zi63, zj63, zi65, zj65, zi71, zj71, zi72, zj72, zi73, zj73, zi74, zj74, zi80, zj80, zi97, zj97, zi98, zj98, zi99, zj99, zi100, zj100, zi106, zj106, zi240, zj240, zi255, zj255, zi260, zj260, zi300, zj300, zi999, zj999, zi1000, zj1000, zi1023, zj1023, zi1024, zj1024, zi9999, zj9999, zi65535, zj65535, zi65536, zj65536, z_tn, z_m1, z_m2, z_bt, z_bf, z_10, Bool.false_eq_true]
        rw [eP, n0, nI_add]
        have := fin 0 0 (by rw [sw, ws_0]) (by rw [sd, ws_0]) (si C 47 (2 ^ p + 0) (nI (0 + fw p))) (fun c i q => by rw [gi_si, if_neg q]) (by rw [g_same, sw, ws_0])
        exact this
      · rw [if_neg (by omega)]
        rw [show 2 ^ p + r - 2 ^ p = r by omega]
        have fr := f2 r (by omega) (by omega)
        rw [fr.1]
        unfold wX2_planWinter_125
        simp (disch := omega) only [z_lt_t, z_lt_f, z_le_t, z_le_f, z_eq_t, z_eq_f, z_lt0, z_lt1_t, z_lt1_f, z_lt2_t, z_lt2_f, z_le1_t, z_le1_f, z_le2_t, z_le2_f, z_eq1_t, z_eq1_f, z_eq2_t, z_eq2_f, z_lt1, z_lt2, z_le1, z_le2, z_eq1, z_eq2, z_lt, z_le, z_eq, z_in, z_cl, z_cl1, z_add, z_add1, z_addm, z_sub, z_subl, z_mul, z_mull, ↓forall_eq, ↓reduceIte, true_and, and_true, not_true_eq_false, not_false_eq_true, b2i_0, b2i_1, bz_b2i, bz_0, bz_1, nar_b2i, narb_0, narb_1, ↓within_eq, ↓lies_eq, i64i, zi0, zj0, zi1, zj1, zi2, zj2, zi3, zj3, zi4, zj4, zi5, zj5, zi6, zj6, zi7, zj7, zi8, zj8, zi9, zj9, zi10, zj10, zi12, zj12, zi13, zj13, zi19, zj19, zi20, zj20, zi21, zj21, zi29, zj29, zi30, zj30, zi39, zj39, zi48, zj48, zi50, zj50, zi57, zj57, zi60, zj60, zi63, zj63, zi65, zj65, zi71, zj71, zi72, zj72, zi73, zj73, zi74, zj74, zi80, zj80, zi97, zj97, zi98, zj98, zi99, zj99, zi100, zj100, zi106, zj106, zi240, zj240, zi255, zj255, zi260, zj260, zi300, zj300, zi999, zj999, zi1000, zj1000, zi1023, zj1023, zi1024, zj1024, zi9999, zj9999, zi65535, zj65535, zi65536, zj65536, z_tn, z_m1, z_m2, z_bt, z_bf, z_10, Bool.false_eq_true]
        rw [eP, nI_add, show 2 ^ p + r - 2 ^ p = r by omega, g_c (by omega), fr.2]
        have := fin (ws fw 10 r) (ws fd 10 r) sw.symm sd.symm (si C 47 (2 ^ p + r) (nI (ws fw 10 r + fw p))) (fun c i q => by rw [gi_si, if_neg q]) (by rw [g_same, sw])
        exact this
  intro m
  induction m with
  | zero =>
    intro p e C hW
    have : p = n := by omega
    subst this
    obtain ⟨f1, f2, f3, f4⟩ := id hW
    have hpp : 2 ^ p ≤ 1024 := Nat.pow_le_pow_right (n := 2) (by omega) hn
    have hw1 := hwb (2 ^ p)
    rw [wX2_planWinter_57]; dsimp only
    rw [if_pos (nI_le (Nat.le_refl _) (by omega))]
    unfold wX2_planWinter_278
    have hlt : (wj lim (ws fw 10) (ws fd 10) (2 ^ p)).1 < 1024 ∨ True := Or.inr trivial
    have hj : ∀ s, 1 ≤ s → (wj lim (ws fw 10) (ws fd 10) s).1 < s := by
      intro s
      induction s with
      | zero => intro h; omega
      | succ s ih =>
        intro _
        by_cases z : s = 0
        · subst z; exact Nat.one_pos
        · rw [wj_s _ _ _ (by omega)]
          have := ih (by omega)
          unfold uW
          by_cases z2 : ws fd 10 s ≤ lim ∧ ((wj lim (ws fw 10) (ws fd 10) s).2.1 < ws fw 10 s ∨ (ws fw 10 s = (wj lim (ws fw 10) (ws fd 10) s).2.1 ∧ ws fd 10 s < (wj lim (ws fw 10) (ws fd 10) s).2.2))
          · rw [if_pos z2]; dsimp only; omega
          · rw [if_neg z2]; omega
    have := hj (2 ^ p) (Nat.two_pow_pos p)
    refine endsOfC hn (by omega) hL (fun j hj => by rw [f1 _ _ (by omega)]; exact h46 j hj) _ ?_
    intro M3 e3
    subst e3
    refine hp _ (fun c i hc => ?_) ?_ ?_ (g_same _ _ _ _)
    · rw [gi_si, if_neg (by omega)]; exact f1 c i (by omega)
    · rw [g_i (by omega)]; exact f3
    · rw [g_i (by omega)]; exact f4
  | succ m ih =>
    intro p e C hW
    obtain ⟨f1, f2, f3, f4⟩ := id hW
    have hpn : p < n := by omega
    have hp260 : p < 260 := by omega
    rw [wX2_planWinter_57]; dsimp only
    rw [if_neg (nI_ge hpn (by omega)), if_neg (show ¬ (260 : Int32) ≤ nI p from nI_ge hp260 (by decide))]
    intro v3 e3
    subst e3
    refine ⟨vp_in_nI (by omega) (by decide), ?_⟩
    rw [nI_clamp (by omega), f1 _ _ (by omega), h46 p hpn, shl_L (by omega)]
    intro v5 e5
    subst e5
    exact ⟨2 ^ p + 1, inn _ p hpn (fun C' hC' => ih (p + 1) (by omega) C' hC') (2 ^ p) 0 (by omega) C hW⟩
