/-! CHEAPEST in the class -/
theorem ow_add (f : Nat → Nat) {p r n : Nat} (hr : r < 2 ^ p) (hp : p < n) : ow f n (2 ^ p + r) = ow f n r ||| f p := by
  apply Nat.eq_of_testBit_eq
  intro i
  rw [Nat.testBit_or, Bool.eq_iff_iff, ow_t, Bool.or_eq_true, ow_t]
  constructor
  · rintro ⟨j, a, b, c⟩
    rw [tb_add hr] at b
    by_cases e : j = p
    · subst e; exact Or.inr c
    · simp [e] at b
      exact Or.inl ⟨j, a, b, c⟩
  · rintro (⟨j, a, b, c⟩ | c)
    · exact ⟨j, a, by rw [tb_add hr, b, Bool.or_true], c⟩
    · exact ⟨p, hp, by rw [tb_add hr]; simp, c⟩
theorem ow_0 (f : Nat → Nat) : ∀ n, ow f n 0 = 0 := by
  intro n
  induction n with
  | zero => rfl
  | succ n ih => unfold ow; rw [if_neg (by rw [Nat.zero_testBit]; decide)]; exact ih
def owP (ol : Nat → Nat) (n w s : Nat) : Bool := decide (ow ol n s = w)
def WJ (C0 C : xMem) (cst ol : Nat → Nat) (n s : Nat) : Prop := (∀ c i, c ≠ 47 → c ≠ 48 → gi C c i = gi C0 c i) ∧ ∀ s', 1 ≤ s' → s' < s → gi C 47 s' = nI (ws cst n s') ∧ gi C 48 s' = nI (ow ol n s')
theorem srB_s (P : Nat → Bool) (c p : Nat → Nat) (s : Nat) : srB P c p (s + 1) = if P s = true ∧ 1 ≤ s ∧ (srB P c p s = 0 ∨ c s < c (srB P c p s) ∨ (c s = c (srB P c p s) ∧ p s < p (srB P c p s))) then s else srB P c p s := rfl
theorem cheaperC {s b ca cb : Nat} (hs : s < 1024) (hb : b < 1024) (ha1 : ca < 2 ^ 31) (hb1 : cb < 2 ^ 31) {C : xMem} (hsC : gi C 47 s = nI ca) (hbC : gi C 47 b = nI cb) (post : Int32 → xMem → Prop) (h1 : (ca < cb ∨ (ca = cb ∧ pc s < pc b)) → post 1 C) (h2 : ¬ (ca < cb ∨ (ca = cb ∧ pc s < pc b)) → post 0 C) : wX2_isCheaper (nI s) (nI b) C post := by
  have pc1 := pc_le hs
  have pc2 := pc_le hb
  have e16 : ∀ q : Bool, (q = true ↔ pc s < pc b) → wX2_isCheaper_16 post (nI s) (nI b) (b2i (q = true)) C := by
    intro q hbt
    unfold wX2_isCheaper_16
    refine ⟨vl (by omega) (by decide), vl (by omega) (by decide), ?_⟩
    rw [nI_clamp (by omega), nI_clamp (by omega), hsC, hbC]
    by_cases y1 : ca < cb
    · rw [if_pos (nI_lt y1 (by omega))]
      exact h1 (Or.inl y1)
    rw [if_neg (nI_nlt (by omega) (by omega))]
    refine ⟨vl (by omega) (by decide), vl (by omega) (by decide), ?_⟩
    by_cases y2 : ca = cb
    rotate_left
    · rw [if_neg (fun z => y2 ((nI_eq (by omega) (by omega)).mp z))]
      exact h2 (fun z => by omega)
    rw [if_pos (by rw [y2])]
    by_cases y3 : q = true
    · rw [b2i_t y3, if_neg (by decide)]
      exact h1 (Or.inr ⟨y2, hbt.mp y3⟩)
    · rw [b2i_f y3, if_pos rfl]
      exact h2 (fun z => y3 (hbt.mpr (by omega)))
  unfold wX2_isCheaper
  rw [bitCount_eq, bc_n (by omega), bitCount_eq, bc_n (by omega)]
  by_cases y : pc b ≤ pc s
  · rw [if_pos (nI_le y (by omega))]
    exact e16 false ⟨fun q => (by cases q), fun q => by omega⟩
  · rw [if_neg (nI_ge (by omega) (by omega))]
    exact e16 true ⟨fun _ => by omega, fun _ => rfl⟩
theorem dpC {L cst ol : Nat → Nat} {n w : Nat} (hn : n ≤ 10) (hw : w < 1024) (hL : ∀ j, j < n → L j < 10) (hc : ∀ j, j < n → cst j ≤ 999) (ho : ∀ j, j < n → ol j < 1024) {C0 : xMem} (h46 : ∀ j, j < n → gi C0 46 j = nI (L j)) (h45 : ∀ j, j < n → gi C0 45 (L j) = nI (cst j)) (h42 : ∀ j, j < n → gi C0 42 (L j) &&& nI w = nI (ol j)) (o o1 : Nat) (post : Int32 → xMem → Prop) (hp : ∀ C : xMem, (∀ c i, ¬ ((c = 41 ∧ (i = 8 ∨ i = 9)) ∨ c = 47 ∨ c = 48) → gi C c i = gi C0 c i) → gi C 41 8 = nI (es L n (srB (owP ol n w) (ws cst n) pc (2 ^ n))) → (srB (owP ol n w) (ws cst n) pc (2 ^ n) ≠ 0 → gi C 41 9 = nI (ws cst n (srB (owP ol n w) (ws cst n) pc (2 ^ n)))) → post (b2i (srB (owP ol n w) (ws cst n) pc (2 ^ n) ≠ 0)) C) : ∀ (m p : Nat), p + m = n → ∀ C, WJ C0 C cst ol n (2 ^ p) → wX2_chooseFor_88 o o1 post (m + 1) (nI w) (nI n) (nI (srB (owP ol n w) (ws cst n) pc (2 ^ p))) (nI p) C := by
  have hb : ∀ s, ws cst n s ≤ 9990 := fun s => by
    have a := ws_le (n := n) hc s n (Nat.le_refl _)
    have : 999 * n ≤ 999 * 10 := Nat.mul_le_mul_left 999 hn
    omega
  have hob : ∀ s, ow ol n s < 1024 := fun s => ow_lt (n := n) ho s n (Nat.le_refl _)
  have hsl := fun s => srB_lt (owP ol n w) (ws cst n) pc s
  have inn : ∀ (K : Int32 → Int32 → Int32 → Int32 → xMem → Prop) (p : Nat), p < n → (∀ C, WJ C0 C cst ol n (2 ^ (p + 1)) → K (nI w) (nI n) (nI (srB (owP ol n w) (ws cst n) pc (2 ^ (p + 1)))) (nI (p + 1)) C) → ∀ (m r : Nat), r + m = 2 ^ p → ∀ C, WJ C0 C cst ol n (2 ^ p + r) → wX2_chooseFor_114 o o1 K post (m + 1) (nI w) (nI n) (nI (srB (owP ol n w) (ws cst n) pc (2 ^ p + r))) (nI p) (nI (2 ^ p)) (nI (L p)) (nI (2 ^ p + r)) C := by
    intro K p hpn hK m
    have hpp : 2 ^ p ≤ 512 := Nat.pow_le_pow_right (n := 2) (by omega) (show p ≤ 9 by omega)
    have hp0 : 0 < 2 ^ p := Nat.two_pow_pos p
    have e2 : 2 ^ (p + 1) = 2 ^ p + 2 ^ p := by rw [Nat.pow_succ]; omega
    induction m with
    | zero =>
      intro r e C hW
      have : r = 2 ^ p := by omega
      subst this
      rw [wX2_chooseFor_114]; dsimp only
      rw [z_mull, if_pos (nI_le (by omega) (by omega))]
      rw [← e2] at hW ⊢
      simp (disch := omega) only [z_lt_t, z_lt_f, z_le_t, z_le_f, z_eq_t, z_eq_f, z_lt0, z_lt1_t, z_lt1_f, z_lt2_t, z_lt2_f, z_le1_t, z_le1_f, z_le2_t, z_le2_f, z_eq1_t, z_eq1_f, z_eq2_t, z_eq2_f, z_lt1, z_lt2, z_le1, z_le2, z_eq1, z_eq2, z_lt, z_le, z_eq, z_in, z_cl, z_cl1, z_add, z_add1, z_addm, z_sub, z_subl, z_mul, z_mull, ↓forall_eq, ↓reduceIte, true_and, and_true, not_true_eq_false, not_false_eq_true, b2i_0, b2i_1, bz_b2i, bz_0, bz_1, nar_b2i, narb_0, narb_1, ↓within_eq, ↓lies_eq, i64i, zi0, zj0, zi1, zj1, zi2, zj2, zi3, zj3, zi4, zj4, zi5, zj5, zi6, zj6, zi7, zj7, zi8, zj8, zi9, zj9, zi10, zj10, zi12, zj12, zi13, zj13, zi19, zj19, zi20, zj20, zi21, zj21, zi29, zj29, zi30, zj30, zi39, zj39, zi48, zj48, zi50, zj50, zi57, zj57, zi60, zj60, zi63, zj63, zi65, zj65, zi71, zj71, zi72, zj72, zi73, zj73, zi74, zj74, zi80, zj80, zi97, zj97, zi98, zj98, zi99, zj99, zi100, zj100, zi106, zj106, zi240, zj240, zi255, zj255, zi260, zj260, zi300, zj300, zi999, zj999, zi1000, zj1000, zi1023, zj1023, zi1024, zj1024, zi9999, zj9999, zi65535, zj65535, zi65536, zj65536, z_tn, z_m1, z_m2, z_bt, z_bf, z_10, Bool.false_eq_true]
      exact hK C hW
    | succ m ih =>
      intro r e C hW
      obtain ⟨f1, f2⟩ := id hW
      have hr : r < 2 ^ p := by omega
      have hb1 := hb (2 ^ p + r)
      have sw := ws_add cst hr n
      rw [if_pos hpn] at sw
      have so := ow_add ol hr hpn
      have hs1 := hsl (2 ^ p + r)
      have hLp := hL p hpn
      -- the set stands: is it better
      have fin : ∀ C2, (∀ c i, c ≠ 47 → c ≠ 48 → gi C2 c i = gi C c i) → (∀ s', s' ≠ 2 ^ p + r → gi C2 47 s' = gi C 47 s' ∧ gi C2 48 s' = gi C 48 s') → gi C2 47 (2 ^ p + r) = nI (ws cst n (2 ^ p + r)) → gi C2 48 (2 ^ p + r) = nI (ow ol n (2 ^ p + r)) → (if gi C2 48 (2 ^ p + r) = nI w then (if nI (srB (owP ol n w) (ws cst n) pc (2 ^ p + r)) = 0 then wX2_chooseFor_224 o o1 K (wX2_chooseFor_114 o o1 K post (m + 1)) post (nI w) (nI n) (nI p) (nI (2 ^ p)) (nI (L p)) (nI (2 ^ p + r)) C2 else wX2_isCheaper (nI (2 ^ p + r)) (nI (srB (owP ol n w) (ws cst n) pc (2 ^ p + r))) C2 (fun r8 M7 => if r8 = 0 then wX2_chooseFor_228 o o1 K (wX2_chooseFor_114 o o1 K post (m + 1)) post (nI w) (nI n) (nI (srB (owP ol n w) (ws cst n) pc (2 ^ p + r))) (nI p) (nI (2 ^ p)) (nI (L p)) (nI (2 ^ p + r)) M7 else wX2_chooseFor_224 o o1 K (wX2_chooseFor_114 o o1 K post (m + 1)) post (nI w) (nI n) (nI p) (nI (2 ^ p)) (nI (L p)) (nI (2 ^ p + r)) M7)) else wX2_chooseFor_228 o o1 K (wX2_chooseFor_114 o o1 K post (m + 1)) post (nI w) (nI n) (nI (srB (owP ol n w) (ws cst n) pc (2 ^ p + r))) (nI p) (nI (2 ^ p)) (nI (L p)) (nI (2 ^ p + r)) C2) := by
        intro C2 g1 g2 g3 g4
        have old : ∀ s', 1 ≤ s' → s' < 2 ^ p + (r + 1) → gi C2 47 s' = nI (ws cst n s') ∧ gi C2 48 s' = nI (ow ol n s') := fun s' q1 q2 => by
          by_cases es : s' = 2 ^ p + r
          · subst es; exact ⟨g3, g4⟩
          · rw [(g2 s' es).1, (g2 s' es).2]; exact f2 s' q1 (by omega)
        have h9 := ih (r + 1) (by omega) C2 ⟨fun c i q1 q2 => by rw [g1 c i q1 q2]; exact f1 c i q1 q2, old⟩
        rw [show 2 ^ p + (r + 1) = 2 ^ p + r + 1 by omega, srB_s] at h9
        have no : ¬ (owP ol n w (2 ^ p + r) = true ∧ 1 ≤ 2 ^ p + r ∧ (srB (owP ol n w) (ws cst n) pc (2 ^ p + r) = 0 ∨ ws cst n (2 ^ p + r) < ws cst n (srB (owP ol n w) (ws cst n) pc (2 ^ p + r)) ∨ (ws cst n (2 ^ p + r) = ws cst n (srB (owP ol n w) (ws cst n) pc (2 ^ p + r)) ∧ pc (2 ^ p + r) < pc (srB (owP ol n w) (ws cst n) pc (2 ^ p + r))))) → wX2_chooseFor_228 o o1 K (wX2_chooseFor_114 o o1 K post (m + 1)) post (nI w) (nI n) (nI (srB (owP ol n w) (ws cst n) pc (2 ^ p + r))) (nI p) (nI (2 ^ p)) (nI (L p)) (nI (2 ^ p + r)) C2 := fun q => by
          rw [if_neg q] at h9
          unfold wX2_chooseFor_228
          simp (disch := omega) only [z_lt_t, z_lt_f, z_le_t, z_le_f, z_eq_t, z_eq_f, z_lt0, z_lt1_t, z_lt1_f, z_lt2_t, z_lt2_f, z_le1_t, z_le1_f, z_le2_t, z_le2_f, z_eq1_t, z_eq1_f, z_eq2_t, z_eq2_f, z_lt1, z_lt2, z_le1, z_le2, z_eq1, z_eq2, z_lt, z_le, z_eq, z_in, z_cl, z_cl1, z_add, z_add1, z_addm, z_sub, z_subl, z_mul, z_mull, ↓forall_eq, ↓reduceIte, true_and, and_true, not_true_eq_false, not_false_eq_true, b2i_0, b2i_1, bz_b2i, bz_0, bz_1, nar_b2i, narb_0, narb_1, ↓within_eq, ↓lies_eq, i64i, zi0, zj0, zi1, zj1, zi2, zj2, zi3, zj3, zi4, zj4, zi5, zj5, zi6, zj6, zi7, zj7, zi8, zj8, zi9, zj9, zi10, zj10, zi12, zj12, zi13, zj13, zi19, zj19, zi20, zj20, zi21, zj21, zi29, zj29, zi30, zj30, zi39, zj39, zi48, zj48, zi50, zj50, zi57, zj57, zi60, zj60, zi63, zj63, zi65, zj65, zi71, zj71, zi72, zj72, zi73, zj73, zi74, zj74, zi80, zj80, zi97, zj97, zi98, zj98, zi99, zj99, zi100, zj100, zi106, zj106, zi240, zj240, zi255, zj255, zi260, zj260, zi300, zj300, zi999, zj999, zi1000, zj1000, zi1023, zj1023, zi1024, zj1024, zi9999, zj9999, zi65535, zj65535, zi65536, zj65536, z_tn, z_m1, z_m2, z_bt, z_bf, z_10, Bool.false_eq_true]
          exact h9
        have yes : owP ol n w (2 ^ p + r) = true → (srB (owP ol n w) (ws cst n) pc (2 ^ p + r) = 0 ∨ ws cst n (2 ^ p + r) < ws cst n (srB (owP ol n w) (ws cst n) pc (2 ^ p + r)) ∨ (ws cst n (2 ^ p + r) = ws cst n (srB (owP ol n w) (ws cst n) pc (2 ^ p + r)) ∧ pc (2 ^ p + r) < pc (srB (owP ol n w) (ws cst n) pc (2 ^ p + r)))) → wX2_chooseFor_224 o o1 K (wX2_chooseFor_114 o o1 K post (m + 1)) post (nI w) (nI n) (nI p) (nI (2 ^ p)) (nI (L p)) (nI (2 ^ p + r)) C2 := fun q q2 => by
          rw [if_pos ⟨q, by omega, q2⟩] at h9
          unfold wX2_chooseFor_224 wX2_chooseFor_228
          simp (disch := omega) only [z_lt_t, z_lt_f, z_le_t, z_le_f, z_eq_t, z_eq_f, z_lt0, z_lt1_t, z_lt1_f, z_lt2_t, z_lt2_f, z_le1_t, z_le1_f, z_le2_t, z_le2_f, z_eq1_t, z_eq1_f, z_eq2_t, z_eq2_f, z_lt1, z_lt2, z_le1, z_le2, z_eq1, z_eq2, z_lt, z_le, z_eq, z_in, z_cl, z_cl1, z_add, z_add1, z_addm, z_sub, z_subl, z_mul, z_mull, ↓forall_eq, ↓reduceIte, true_and, and_true, not_true_eq_false, not_false_eq_true, b2i_0, b2i_1, bz_b2i, bz_0, bz_1, nar_b2i, narb_0, narb_1, ↓within_eq, ↓lies_eq, i64i, zi0, zj0, zi1, zj1, zi2, zj2, zi3, zj3, zi4, zj4, zi5, zj5, zi6, zj6, zi7, zj7, zi8, zj8, zi9, zj9, zi10, zj10, zi12, zj12, zi13, zj13, zi19, zj19, zi20, zj20, zi21, zj21, zi29, zj29, zi30, zj30, zi39, zj39, zi48, zj48, zi50, zj50, zi57, zj57, zi60, zj60, zi63, zj63, zi65, zj65, zi71, zj71, zi72, zj72, zi73, zj73, zi74, zj74, zi80, zj80, zi97, zj97, zi98, zj98, zi99, zj99, zi100, zj100, zi106, zj106, zi240, zj240, zi255, zj255, zi260, zj260, zi300, zj300, zi999, zj999, zi1000, zj1000, zi1023, zj1023, zi1024, zj1024, zi9999, zj9999, zi65535, zj65535, zi65536, zj65536, z_tn, z_m1, z_m2, z_bt, z_bf, z_10, Bool.false_eq_true]
          exact h9
        have ho1 := hob (2 ^ p + r)
        rw [g4]
        by_cases z1 : ow ol n (2 ^ p + r) = w
        rotate_left
        · rw [if_neg (fun q => z1 ((nI_eq (by omega) (by omega)).mp q))]
          exact no (fun q => z1 (by have := q.1; unfold owP at this; simpa using this))
        have hP : owP ol n w (2 ^ p + r) = true := by unfold owP; simpa using z1
        rw [if_pos (by rw [z1])]
        by_cases z2 : srB (owP ol n w) (ws cst n) pc (2 ^ p + r) = 0
        · rw [if_pos (by rw [z2]; rfl)]
          exact yes hP (Or.inl z2)
        rw [if_neg (fun q => z2 ((n0_n (by omega)).mp q))]
        have sblt : srB (owP ol n w) (ws cst n) pc (2 ^ p + r) < 2 ^ p + r := by
          rcases srB_ok (owP ol n w) (ws cst n) pc (2 ^ p + r) with q | q
          · exact absurd q.1 z2
          · exact q.2.1
        have oldb := old (srB (owP ol n w) (ws cst n) pc (2 ^ p + r)) (by omega) (by omega)
        have hbb := hb (srB (owP ol n w) (ws cst n) pc (2 ^ p + r))
        refine cheaperC (by omega) (by omega) (by omega) (by omega) g3 oldb.1 _ (fun y => ?_) (fun y => ?_)
        · rw [if_neg (by decide)]
          exact yes hP (Or.inr y)
        · rw [if_pos rfl]
          exact no (fun q => by
            rcases q.2.2 with q2 | q2
            · exact z2 q2
            · exact y q2)
      rw [wX2_chooseFor_114]; dsimp only
      rw [z_mull, if_neg (nI_ge (by omega) (by omega))]
      have n0 : (0 : Int32) = nI 0 := rfl
      have e45 : gi C 45 (L p) = nI (cst p) := by rw [f1 _ _ (by omega) (by omega)]; exact h45 p hpn
      have e42 : gi C 42 (L p) &&& nI w = nI (ol p) := by rw [f1 _ _ (by omega) (by omega)]; exact h42 p hpn
      unfold wX2_chooseFor_150 wX2_chooseFor_186
      by_cases z : r = 0
      · subst z
        rw [Nat.add_zero] at *
        rw [if_pos rfl]
        refine ⟨vl hLp (by decide), vl (by omega) (by decide), ?_⟩
        intro M3 e3
        subst e3
        rw [if_pos rfl]
        refine ⟨vl hLp (by decide), vl (by omega) (by decide), ?_⟩
        intro M3 e3
        subst e3
        refine ⟨vl (by omega) (by decide), ?_⟩
        simp (disch := omega) only [nI_clamp]
        rw [g_c (c' := 42) (by omega), e42, e45, n0, nI_add, z_or]
        refine fin _ (fun c i q1 q2 => by rw [g_c q2, g_c q1]) (fun s' q => ⟨by rw [g_c (by omega), g_i q], by rw [g_i q, g_c (by omega)]⟩) ?_ ?_
        · rw [g_c (by omega), g_same, sw, ws_0]
        · rw [g_same, so, ow_0]
      · rw [if_neg (fun q => z (by
          have := (nI_eq (a := 2 ^ p + r) (b := 2 ^ p) (by omega) (by omega)).mp q
          omega)), z_sub (by omega), show 2 ^ p + r - 2 ^ p = r by omega]
        have fr := f2 r (by omega) (by omega)
        refine ⟨vl (by omega) (by decide), ?_⟩
        rw [nI_clamp (n := r) (by omega), fr.1]
        refine ⟨vl hLp (by decide), vl (by omega) (by decide), ?_⟩
        intro M3 e3
        subst e3
        rw [if_neg (fun q => z (by
          have := (nI_eq (a := 2 ^ p + r) (b := 2 ^ p) (by omega) (by omega)).mp q
          omega))]
        refine ⟨vl (by omega) (by decide), ?_⟩
        refine ⟨vl hLp (by decide), vl (by omega) (by decide), ?_⟩
        intro M3 e3
        subst e3
        refine ⟨vl (by omega) (by decide), ?_⟩
        simp (disch := omega) only [nI_clamp]
        rw [g_c (c' := 42) (by omega), e42, e45, nI_add, g_c (c := 47) (c' := 48) (by omega), fr.2, z_or]
        refine fin _ (fun c i q1 q2 => by rw [g_c q2, g_c q1]) (fun s' q => ⟨by rw [g_c (by omega), g_i q], by rw [g_i q, g_c (by omega)]⟩) ?_ ?_
        · rw [g_c (by omega), g_same, sw]
        · rw [g_same, so]
  intro m
  induction m with
  | zero =>
    intro p e C hW
    have : p = n := by omega
    subst this
    obtain ⟨f1, f2⟩ := id hW
    have hpp : 2 ^ p ≤ 1024 := Nat.pow_le_pow_right (n := 2) (by omega) hn
    have hpos : 0 < 2 ^ p := Nat.two_pow_pos p
    have hlt : srB (owP ol p w) (ws cst p) pc (2 ^ p) < 2 ^ p := by
      rcases srB_ok (owP ol p w) (ws cst p) pc (2 ^ p) with q | q
      · rw [q.1]; exact hpos
      · exact q.2.1
    rw [wX2_chooseFor_88]; dsimp only
    rw [if_pos (nI_le (Nat.le_refl _) (by omega))]
    refine endsOfC hn (by omega) hL (fun j hj => by rw [f1 _ _ (by omega) (by omega)]; exact h46 j hj) _ ?_
    intro M4 e4
    subst e4
    refine ⟨vl (by omega) (by decide), ?_⟩
    intro M6 e6
    subst e6
    have hp2 := hp (si (si C 41 8 (nI (es L p (srB (owP ol p w) (ws cst p) pc (2 ^ p))))) 41 9 (gi (si C 41 8 (nI (es L p (srB (owP ol p w) (ws cst p) pc (2 ^ p))))) 47 (nI (srB (owP ol p w) (ws cst p) pc (2 ^ p))).toNatClampNeg)) (fun c i hc => by
      rw [gi_si, if_neg (by omega), gi_si, if_neg (by omega)]
      exact f1 c i (by omega) (by omega)) (by rw [g_i (by omega), g_same]) (fun q => by
      rw [g_same, nI_clamp (by omega), g_c (by omega)]
      exact (f2 _ (by omega) hlt).1)
    by_cases z : srB (owP ol p w) (ws cst p) pc (2 ^ p) = 0
    · rw [if_pos (by rw [z]; rfl)]
      rw [b2i_f (fun q => q z)] at hp2
      exact hp2
    · rw [if_neg (fun q => z ((n0_n (by omega)).mp q))]
      rw [b2i_t z] at hp2
      exact hp2
  | succ m ih =>
    intro p e C hW
    obtain ⟨f1, f2⟩ := id hW
    have hpn : p < n := by omega
    rw [wX2_chooseFor_88]; dsimp only
    rw [if_neg (nI_ge hpn (by omega)), shl_L (by omega)]
    intro v3 e3
    subst e3
    refine ⟨vl (by omega) (by decide), ?_⟩
    rw [nI_clamp (by omega), f1 _ _ (by omega) (by omega), h46 p hpn]
    intro v5 e5
    subst e5
    exact ⟨2 ^ p + 1, inn _ p hpn (fun C' hC' => ih (p + 1) (by omega) C' hC') (2 ^ p) 0 (by omega) C hW⟩
