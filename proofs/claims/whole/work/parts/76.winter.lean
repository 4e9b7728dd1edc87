theorem tapeW {t : Nat → Nat} {C : xMem} {n b : Nat} (hn : n ≤ 260) (hb : b < 256) (h : ∀ i, i < n → gi C 1 i = nI (t i)) (ht : ∀ i, i < n → t i < 256) (post : Int32 → xMem → Prop) (h1 : (∀ i, i < n → t i ≤ b) → post 1 C) (h2 : (∃ i, i < n ∧ b < t i) → post 0 C) : wX11_tapeIsWithin (nI n) (nI b) C post := by
  have key : ∀ (m i : Nat), i + m = n → (∀ j, j < i → t j ≤ b) → wX11_tapeIsWithin_2 post (m + 1) (nI n) (nI b) (nI i) C := by
    intro m
    induction m with
    | zero =>
      intro i e hh
      have : i = n := by omega
      subst this
      rw [wX11_tapeIsWithin_2]; dsimp only
      rw [if_pos (nI_le (Nat.le_refl _) (by omega))]
      exact h1 hh
    | succ m ih =>
      intro i e hh
      have hi : i < n := by omega
      have hi2 : i < 260 := by omega
      have ht1 := ht i hi
      rw [wX11_tapeIsWithin_2]; dsimp only
      rw [if_neg (nI_ge hi (by omega)), if_neg (show ¬ (260 : Int32) ≤ nI i from nI_ge hi2 (by decide))]
      refine ⟨vp_in_nI hi2 (by decide), ?_⟩
      rw [nI_clamp (by omega), h i hi]
      by_cases z : t i ≤ b
      · rw [if_pos (nI_le z (by omega))]
        intro v e5
        subst e5
        rw [z_add1]
        refine ih (i + 1) (by omega) (fun j hj => ?_)
        by_cases ej : j = i
        · subst ej; exact z
        · exact hh j (by omega)
      · rw [if_neg (nI_ge (by omega) (by omega))]
        exact h2 ⟨i, hi, by omega⟩
  exact ⟨n + 1, key n 0 (by omega) (fun j hj => absurd hj (by omega))⟩
/-- what winter() reckons with -/
def wL (e : xT2) (j : Nat) : Nat := (slN (e 0 0) 10).getD j 0
def wfw (e : xT2) (t : Nat → Nat) (j : Nat) : Nat := if j < (slN (e 0 0) 10).length then t j * e 2 (wL e j) else 0
def wfd (e : xT2) (j : Nat) : Nat := if j < (slN (e 0 0) 10).length then e 3 (wL e j) else 0
theorem sl_all {g : Nat} (hg : g < 1024) : ∀ i, i < (slN g 10).length → (slN g 10).getD i 0 < 10 ∧ g.testBit ((slN g 10).getD i 0) = true := by
  have key : ∀ g : Fin 1024, ∀ i : Fin 10, i.1 < (slN g.1 10).length → (slN g.1 10).getD i.1 0 < 10 ∧ g.1.testBit ((slN g.1 10).getD i.1 0) = true := by decide +kernel
  intro i hi
  have := slN_le g 10
  exact key ⟨g, hg⟩ ⟨i, by omega⟩ hi
theorem listC {g : Nat} (hg : g < 1024) {C : xMem} (h41 : gi C 41 0 = nI g) (lim : Int32) (post : xMem → Prop) (hp : ∀ C' : xMem, (∀ c i, c ≠ 46 → gi C' c i = gi C c i) → (∀ i, i < (slN g 10).length → gi C' 46 i = nI ((slN g 10).getD i 0)) → ∃ n57, wX2_planWinter_57 post n57 lim (nI (slN g 10).length) 0 0 (si (si C' 41 12 0) 41 11 0)) : wX2_planWinter lim C post := by
  have key : ∀ (m i : Nat) (M' : xMem), i + m = 10 → (∀ c i, c ≠ 46 → gi M' c i = gi C c i) → (∀ j, j < (slN g i).length → gi M' 46 j = nI ((slN g i).getD j 0)) → wX2_planWinter_5 post (m + 1) lim (nI (slN g i).length) (nI i) M' := by
    intro m
    induction m with
    | zero =>
      intro i M' e h1 h2
      have : i = 10 := by omega
      subst this
      rw [wX2_planWinter_5]; dsimp only
      rw [if_pos (show (10 : Int32) ≤ nI 10 by decide)]
      intro M2 e2 M3 e3
      subst e2; subst e3
      exact hp M' h1 h2
    | succ m ih =>
      intro i M' e h1 h2
      have hi : i < 10 := by omega
      have hle := slN_le g i
      rw [wX2_planWinter_5]; dsimp only
      unfold wX2_planWinter_35
      rw [if_neg (show ¬ (10 : Int32) ≤ nI i from nI_ge hi (by decide)), h1 41 0 (by omega), h41, hasC_n (by omega) (by omega)]
      by_cases z : g.testBit i = true
      · rw [b2i_t z, if_neg (by decide)]
        simp (disch := omega) only [z_lt_t, z_lt_f, z_le_t, z_le_f, z_eq_t, z_eq_f, z_lt0, z_lt1_t, z_lt1_f, z_lt2_t, z_lt2_f, z_le1_t, z_le1_f, z_le2_t, z_le2_f, z_eq1_t, z_eq1_f, z_eq2_t, z_eq2_f, z_lt1, z_lt2, z_le1, z_le2, z_eq1, z_eq2, z_lt, z_le, z_eq, z_in, z_cl, z_cl1, z_add, z_add1, z_addm, z_sub, z_subl, z_mul, z_mull, ↓forall_eq, ↓reduceIte, true_and, and_true, not_true_eq_false, not_false_eq_true, b2i_0, b2i_1, bz_b2i, bz_0, bz_1, nar_b2i, narb_0, narb_1, ↓within_eq, ↓lies_eq, i64i, zi0, zj0, zi1, zj1, zi2, zj2, zi3, zj3, zi4, zj4, zi5, zj5, zi6, zj6, zi7, zj7, zi8, zj8, zi9, zj9, zi10, zj10, zi12, zj12, zi13, zj13, zi19, zj19, zi20, zj20, zi21, zj21, zi29, zj29, zi30, zj30, zi39, zj39, zi48, zj48, zi50, zj50, zi57, zj57, zi60, zj60, zi63, zj63, zi65, zj65, zi71, zj71, zi72, zj72, zi73, zj73, zi74, zj74, zi80, zj80, zi97, zj97, zi98, zj98, zi99, zj99, zi100, zj100, zi106, zj106, zi240, zj240, zi255, zj255, zi260, zj260, zi300, zj300, zi999, zj999, zi1000, zj1000, zi1023, zj1023, zi1024, zj1024, zi9999, zj9999, zi65535, zj65535, zi65536, zj65536, z_tn, z_m1, z_m2, z_bt, z_bf, z_10, Bool.false_eq_true]
        have := ih (i + 1) (si M' 46 (slN g i).length (nI i)) (by omega) (fun c j hc => by rw [gi_si_c _ hc]; exact h1 c j hc) (fun j hj => by
          rw [slN_s, if_pos z] at hj ⊢
          rw [List.length_append, List.length_singleton] at hj
          by_cases ej : j = (slN g i).length
          · subst ej
            rw [g_same, List.getD_eq_getElem?_getD, List.getElem?_append_right (Nat.le_refl _)]
            simp
          · rw [g_i ej, h2 j (by omega), List.getD_eq_getElem?_getD, List.getD_eq_getElem?_getD, List.getElem?_append_left (by omega)])
        rw [slN_s, if_pos z, List.length_append, List.length_singleton] at this
        exact this
      · rw [b2i_f z, if_pos rfl]
        simp (disch := omega) only [z_lt_t, z_lt_f, z_le_t, z_le_f, z_eq_t, z_eq_f, z_lt0, z_lt1_t, z_lt1_f, z_lt2_t, z_lt2_f, z_le1_t, z_le1_f, z_le2_t, z_le2_f, z_eq1_t, z_eq1_f, z_eq2_t, z_eq2_f, z_lt1, z_lt2, z_le1, z_le2, z_eq1, z_eq2, z_lt, z_le, z_eq, z_in, z_cl, z_cl1, z_add, z_add1, z_addm, z_sub, z_subl, z_mul, z_mull, ↓forall_eq, ↓reduceIte, true_and, and_true, not_true_eq_false, not_false_eq_true, b2i_0, b2i_1, bz_b2i, bz_0, bz_1, nar_b2i, narb_0, narb_1, ↓within_eq, ↓lies_eq, i64i, zi0, zj0, zi1, zj1, zi2, zj2, zi3, zj3, zi4, zj4, zi5, zj5, zi6, zj6, zi7, zj7, zi8, zj8, zi9, zj9, zi10, zj10, zi12, zj12, zi13, zj13, zi19, zj19, zi20, zj20, zi21, zj21, zi29, zj29, zi30, zj30, zi39, zj39, zi48, zj48, zi50, zj50, zi57, zj57, zi60, zj60, zi63, zj63, zi65, zj65, zi71, zj71, zi72, zj72, zi73, zj73, zi74, zj74, zi80, zj80, zi97, zj97, zi98, zj98, zi99, zj99, zi100, zj100, zi106, zj106, zi240, zj240, zi255, zj255, zi260, zj260, zi300, zj300, zi999, zj999, zi1000, zj1000, zi1023, zj1023, zi1024, zj1024, zi9999, zj9999, zi65535, zj65535, zi65536, zj65536, z_tn, z_m1, z_m2, z_bt, z_bf, z_10, Bool.false_eq_true]
        have := ih (i + 1) M' (by omega) h1 (fun j hj => by
          rw [slN_s, if_neg z] at hj ⊢
          exact h2 j hj)
        rw [slN_s, if_neg z] at this
        exact this
  exact ⟨11, key 10 0 C rfl (fun _ _ _ => rfl) (fun j hj => absurd hj (by simp [slN]))⟩
theorem wintM {L fw fd : Nat → Nat} {n lim : Nat} (hn : n ≤ 10) (hlim : lim ≤ 300) (hL : ∀ j, j < n → L j < 10) (hfw : ∀ j, j < 10 → fw j ≤ 1000) (hfd : ∀ j, j < 10 → fd j ≤ 1000) {t : Nat → Nat} {M : xMem} (h56 : ∀ j, j < n → gi M 56 j = nI (L j)) (h0 : ∀ j, j < n → gi M 1 j &&& 255 = nI (t j)) (h1 : ∀ j, j < n → nI (t j) * gi M 27 (L j) = nI (fw j)) (h2 : ∀ j, j < n → gi M 29 (L j) = nI (fd j)) (a2 : Int32) (post : Int32 → xMem → Prop) (hp : post (if a2 = 0 then nI (wj lim (ws fw 10) (ws fd 10) (2 ^ n)).2.1 else if a2 = 1 then nI (es L n (wj lim (ws fw 10) (ws fd 10) (2 ^ n)).1) else nI (wj lim (ws fw 10) (ws fd 10) (2 ^ n)).2.2) M) : ∃ n144, wX12_winter_144 post n144 (nI lim) a2 (nI n) 0 (-1) 0 0 M := by
  have hb : ∀ s, ws fw 10 s ≤ 10000 ∧ ws fd 10 s ≤ 10000 := fun s => by
    have a := ws_le (n := 10) hfw s 10 (Nat.le_refl _)
    have b := ws_le (n := 10) hfd s 10 (Nat.le_refl _)
    omega
  have hwb := wj_b (lim := lim) hb
  have hp2 : 2 ^ n ≤ 1024 := Nat.pow_le_pow_right (n := 2) (by omega) hn
  -- the sums of one set
  have inn : ∀ (K : Int32 → Int32 → Int32 → Int32 → Int32 → Int32 → Int32 → xMem → Prop) (x6 x7 x8 : Int32) (s : Nat), s < 2 ^ n → (if lim < ws fd 10 s then K (nI lim) a2 (nI n) x6 x7 x8 (nI (s + 1)) M else if nI (ws fw 10 s) < x7 then K (nI lim) a2 (nI n) x6 x7 x8 (nI (s + 1)) M else if nI (ws fw 10 s) = x7 then if nI (ws fd 10 s) < x8 then K (nI lim) a2 (nI n) (nI (es L n s)) (nI (ws fw 10 s)) (nI (ws fd 10 s)) (nI (s + 1)) M else K (nI lim) a2 (nI n) x6 x7 x8 (nI (s + 1)) M else K (nI lim) a2 (nI n) (nI (es L n s)) (nI (ws fw 10 s)) (nI (ws fd 10 s)) (nI (s + 1)) M) → ∀ (m j : Nat), j + m = n → wX12_winter_165 K post (m + 1) (nI lim) a2 (nI n) x6 x7 x8 (nI s) (nI (ws fw j s)) (nI (ws fd j s)) (nI (es L j s)) (nI j) M := by
    intro K x6 x7 x8 s hs hK m
    have hbs := hb s
    induction m with
    | zero =>
      intro j e
      have : j = n := by omega
      subst this
      have c1 := ws_cut fw hs hn
      have c2 := ws_cut fd hs hn
      rw [wX12_winter_165]; dsimp only
      unfold wX12_winter_276 wX12_winter_288
      rw [if_pos (nI_le (Nat.le_refl _) (by omega)), ← c1, ← c2]
      by_cases z1 : lim < ws fd 10 s
      · rw [if_pos z1] at hK
        rw [if_pos (nI_lt z1 (by omega))]
        simp (disch := omega) only [z_lt_t, z_lt_f, z_le_t, z_le_f, z_eq_t, z_eq_f, z_lt0, z_lt1_t, z_lt1_f, z_lt2_t, z_lt2_f, z_le1_t, z_le1_f, z_le2_t, z_le2_f, z_eq1_t, z_eq1_f, z_eq2_t, z_eq2_f, z_lt1, z_lt2, z_le1, z_le2, z_eq1, z_eq2, z_lt, z_le, z_eq, z_in, z_cl, z_cl1, z_add, z_add1, z_addm, z_sub, z_subl, z_mul, z_mull, ↓forall_eq, ↓reduceIte, true_and, and_true, not_true_eq_false, not_false_eq_true, b2i_0, b2i_1, bz_b2i, bz_0, bz_1, nar_b2i, narb_0, narb_1, ↓within_eq, ↓lies_eq, i64i, zi0, zj0, zi1, zj1, zi2, zj2, zi3, zj3, zi4, zj4, zi5, zj5, zi6, zj6, zi7, zj7, zi8, zj8, zi9, zj9, zi10, zj10, zi12, zj12, zi13, zj13, zi19, zj19, zi20, zj20, zi21, zj21, zi29, zj29, zi30, zj30, zi39, zj39, zi48, zj48, zi50, zj50, zi57, zj57, zi60, zj60, zi63, zj63, zi65, zj65, zi71, zj71, zi72, zj72, zi73, zj73, zi74, zj74, zi80, zj80, zi97, zj97, zi98, zj98, zi99, zj99, zi100, zj100, zi106, zj106, zi240, zj240, zi255, zj255, zi260, zj260, zi300, zj300, zi999, zj999, zi1000, zj1000, zi1023, zj1023, zi1024, zj1024, zi9999, zj9999, zi65535, zj65535, zi65536, zj65536, z_tn, z_m1, z_m2, z_bt, z_bf, z_10, Bool.false_eq_true]
        exact hK
      rw [if_neg z1] at hK
      rw [if_neg (nI_nlt (by omega) (by omega))]
      by_cases z2 : nI (ws fw 10 s) < x7
      · rw [if_pos z2] at hK ⊢
        simp (disch := omega) only [z_lt_t, z_lt_f, z_le_t, z_le_f, z_eq_t, z_eq_f, z_lt0, z_lt1_t, z_lt1_f, z_lt2_t, z_lt2_f, z_le1_t, z_le1_f, z_le2_t, z_le2_f, z_eq1_t, z_eq1_f, z_eq2_t, z_eq2_f, z_lt1, z_lt2, z_le1, z_le2, z_eq1, z_eq2, z_lt, z_le, z_eq, z_in, z_cl, z_cl1, z_add, z_add1, z_addm, z_sub, z_subl, z_mul, z_mull, ↓forall_eq, ↓reduceIte, true_and, and_true, not_true_eq_false, not_false_eq_true, b2i_0, b2i_1, bz_b2i, bz_0, bz_1, nar_b2i, narb_0, narb_1, ↓within_eq, ↓lies_eq, i64i, zi0, zj0, zi1, zj1, zi2, zj2, zi3, zj3, zi4, zj4, zi5, zj5, zi6, zj6, zi7, zj7, zi8, zj8, zi9, zj9, zi10, zj10, zi12, zj12, zi13, zj13, zi19, zj19, zi20, zj20, zi21, zj21, zi29, zj29, zi30, zj30, zi39, zj39, zi48, zj48, zi50, zj50, zi57, zj57, zi60, zj60, zi63, zj63, zi65, zj65, zi71, zj71, zi72, zj72, zi73, zj73, zi74, zj74, zi80, zj80, zi97, zj97, zi98, zj98, zi99, zj99, zi100, zj100, zi106, zj106, zi240, zj240, zi255, zj255, zi260, zj260, zi300, zj300, zi999, zj999, zi1000, zj1000, zi1023, zj1023, zi1024, zj1024, zi9999, zj9999, zi65535, zj65535, zi65536, zj65536, z_tn, z_m1, z_m2, z_bt, z_bf, z_10, Bool.false_eq_true]
        exact hK
      rw [if_neg z2] at hK ⊢
      by_cases z3 : nI (ws fw 10 s) = x7
      · rw [if_pos z3] at hK ⊢
        by_cases z4 : nI (ws fd 10 s) < x8
        · rw [if_pos z4] at hK ⊢
          simp (disch := omega) only [z_lt_t, z_lt_f, z_le_t, z_le_f, z_eq_t, z_eq_f, z_lt0, z_lt1_t, z_lt1_f, z_lt2_t, z_lt2_f, z_le1_t, z_le1_f, z_le2_t, z_le2_f, z_eq1_t, z_eq1_f, z_eq2_t, z_eq2_f, z_lt1, z_lt2, z_le1, z_le2, z_eq1, z_eq2, z_lt, z_le, z_eq, z_in, z_cl, z_cl1, z_add, z_add1, z_addm, z_sub, z_subl, z_mul, z_mull, ↓forall_eq, ↓reduceIte, true_and, and_true, not_true_eq_false, not_false_eq_true, b2i_0, b2i_1, bz_b2i, bz_0, bz_1, nar_b2i, narb_0, narb_1, ↓within_eq, ↓lies_eq, i64i, zi0, zj0, zi1, zj1, zi2, zj2, zi3, zj3, zi4, zj4, zi5, zj5, zi6, zj6, zi7, zj7, zi8, zj8, zi9, zj9, zi10, zj10, zi12, zj12, zi13, zj13, zi19, zj19, zi20, zj20, zi21, zj21, zi29, zj29, zi30, zj30, zi39, zj39, zi48, zj48, zi50, zj50, zi57, zj57, zi60, zj60, zi63, zj63, zi65, zj65, zi71, zj71, zi72, zj72, zi73, zj73, zi74, zj74, zi80, zj80, zi97, zj97, zi98, zj98, zi99, zj99, zi100, zj100, zi106, zj106, zi240, zj240, zi255, zj255, zi260, zj260, zi300, zj300, zi999, zj999, zi1000, zj1000, zi1023, zj1023, zi1024, zj1024, zi9999, zj9999, zi65535, zj65535, zi65536, zj65536, z_tn, z_m1, z_m2, z_bt, z_bf, z_10, Bool.false_eq_true]
          exact hK
        · rw [if_neg z4] at hK ⊢
          simp (disch := omega) only [z_lt_t, z_lt_f, z_le_t, z_le_f, z_eq_t, z_eq_f, z_lt0, z_lt1_t, z_lt1_f, z_lt2_t, z_lt2_f, z_le1_t, z_le1_f, z_le2_t, z_le2_f, z_eq1_t, z_eq1_f, z_eq2_t, z_eq2_f, z_lt1, z_lt2, z_le1, z_le2, z_eq1, z_eq2, z_lt, z_le, z_eq, z_in, z_cl, z_cl1, z_add, z_add1, z_addm, z_sub, z_subl, z_mul, z_mull, ↓forall_eq, ↓reduceIte, true_and, and_true, not_true_eq_false, not_false_eq_true, b2i_0, b2i_1, bz_b2i, bz_0, bz_1, nar_b2i, narb_0, narb_1, ↓within_eq, ↓lies_eq, i64i, zi0, zj0, zi1, zj1, zi2, zj2, zi3, zj3, zi4, zj4, zi5, zj5, zi6, zj6, zi7, zj7, zi8, zj8, zi9, zj9, zi10, zj10, zi12, zj12, zi13, zj13, zi19, zj19, zi20, zj20, zi21, zj21, zi29, zj29, zi30, zj30, zi39, zj39, zi48, zj48, zi50, zj50, zi57, zj57, zi60, zj60, zi63, zj63, zi65, zj65, zi71, zj71, zi72, zj72, zi73, zj73, zi74, zj74, zi80, zj80, zi97, zj97, zi98, zj98, zi99, zj99, zi100, zj100, zi106, zj106, zi240, zj240, zi255, zj255, zi260, zj260, zi300, zj300, zi999, zj999, zi1000, zj1000, zi1023, zj1023, zi1024, zj1024, zi9999, zj9999, zi65535, zj65535, zi65536, zj65536, z_tn, z_m1, z_m2, z_bt, z_bf, z_10, Bool.false_eq_true]
          exact hK
      · rw [if_neg z3] at hK ⊢
        simp (disch := omega) only [z_lt_t, z_lt_f, z_le_t, z_le_f, z_eq_t, z_eq_f, z_lt0, z_lt1_t, z_lt1_f, z_lt2_t, z_lt2_f, z_le1_t, z_le1_f, z_le2_t, z_le2_f, z_eq1_t, z_eq1_f, z_eq2_t, z_eq2_f, z_lt1, z_lt2, z_le1, z_le2, z_eq1, z_eq2, z_lt, z_le, z_eq, z_in, z_cl, z_cl1, z_add, z_add1, z_addm, z_sub, z_subl, z_mul, z_mull, ↓forall_eq, ↓reduceIte, true_and, and_true, not_true_eq_false, not_false_eq_true, b2i_0, b2i_1, bz_b2i, bz_0, bz_1, nar_b2i, narb_0, narb_1, ↓within_eq, ↓lies_eq, i64i, zi0, zj0, zi1, zj1, zi2, zj2, zi3, zj3, zi4, zj4, zi5, zj5, zi6, zj6, zi7, zj7, zi8, zj8, zi9, zj9, zi10, zj10, zi12, zj12, zi13, zj13, zi19, zj19, zi20, zj20, zi21, zj21, zi29, zj29, zi30, zj30, zi39, zj39, zi48, zj48, zi50, zj50, zi57, zj57, zi60, zj60, zi63, zj63, zi65, zj65, zi71, zj71, zi72, zj72, zi73, zj73, zi74, zj74, zi80, zj80, zi97, zj97, zi98, zj98, zi99, zj99, zi100, zj100, zi106, zj106, zi240, zj240, zi255, zj255, zi260, zj260, zi300, zj300, zi999, zj999, zi1000, zj1000, zi1023, zj1023, zi1024, zj1024, zi9999, zj9999, zi65535, zj65535, zi65536, zj65536, z_tn, z_m1, z_m2, z_bt, z_bf, z_10, Bool.false_eq_true]
        exact hK
    | succ m ih =>
      intro j e
      have hj : j < n := by omega
      have h9 := ih (j + 1) (by omega)
      unfold ws es at h9
      have hLj := hL j hj
      rw [wX12_winter_165]; dsimp only
      unfold wX12_winter_240
      rw [if_neg (nI_ge hj (by omega)), hasM_n (by omega) (by omega)]
      by_cases z : s.testBit j = true
      · rw [if_pos z, if_pos z, if_pos z] at h9
        rw [b2i_t z, if_neg (by decide)]
        refine byteAt_n (by omega) (h0 j hj) _ ?_
        refine ⟨vp_in_nI (by omega) (by decide), ?_⟩
        rw [nI_clamp (by omega), h56 j hj]
        refine ⟨vp_in_nI hLj (by decide), ?_⟩
        rw [nI_clamp (by omega), h1 j hj, nI_add]
        intro v13 e13
        subst e13
        refine ⟨vp_in_nI (by omega) (by decide), vp_in_nI hLj (by decide), ?_⟩
        rw [h2 j hj, nI_add]
        intro v16 e16
        subst e16
        refine ⟨vp_in_nI (by omega) (by decide), ?_⟩
        rw [shl_L hLj, z_or]
        simp (disch := omega) only [z_lt_t, z_lt_f, z_le_t, z_le_f, z_eq_t, z_eq_f, z_lt0, z_lt1_t, z_lt1_f, z_lt2_t, z_lt2_f, z_le1_t, z_le1_f, z_le2_t, z_le2_f, z_eq1_t, z_eq1_f, z_eq2_t, z_eq2_f, z_lt1, z_lt2, z_le1, z_le2, z_eq1, z_eq2, z_lt, z_le, z_eq, z_in, z_cl, z_cl1, z_add, z_add1, z_addm, z_sub, z_subl, z_mul, z_mull, ↓forall_eq, ↓reduceIte, true_and, and_true, not_true_eq_false, not_false_eq_true, b2i_0, b2i_1, bz_b2i, bz_0, bz_1, nar_b2i, narb_0, narb_1, ↓within_eq, ↓lies_eq, i64i, zi0, zj0, zi1, zj1, zi2, zj2, zi3, zj3, zi4, zj4, zi5, zj5, zi6, zj6, zi7, zj7, zi8, zj8, zi9, zj9, zi10, zj10, zi12, zj12, zi13, zj13, zi19, zj19, zi20, zj20, zi21, zj21, zi29, zj29, zi30, zj30, zi39, zj39, zi48, zj48, zi50, zj50, zi57, zj57, zi60, zj60, zi63, zj63, zi65, zj65, zi71, zj71, zi72, zj72, zi73, zj73, zi74, zj74, zi80, zj80, zi97, zj97, zi98, zj98, zi99, zj99, zi100, zj100, zi106, zj106, zi240, zj240, zi255, zj255, zi260, zj260, zi300, zj300, zi999, zj999, zi1000, zj1000, zi1023, zj1023, zi1024, zj1024, zi9999, zj9999, zi65535, zj65535, zi65536, zj65536, z_tn, z_m1, z_m2, z_bt, z_bf, z_10, Bool.false_eq_true]
        exact h9
      · rw [if_neg z, if_neg z, if_neg z] at h9
        rw [b2i_f z, if_pos rfl]
        simp (disch := omega) only [z_lt_t, z_lt_f, z_le_t, z_le_f, z_eq_t, z_eq_f, z_lt0, z_lt1_t, z_lt1_f, z_lt2_t, z_lt2_f, z_le1_t, z_le1_f, z_le2_t, z_le2_f, z_eq1_t, z_eq1_f, z_eq2_t, z_eq2_f, z_lt1, z_lt2, z_le1, z_le2, z_eq1, z_eq2, z_lt, z_le, z_eq, z_in, z_cl, z_cl1, z_add, z_add1, z_addm, z_sub, z_subl, z_mul, z_mull, ↓forall_eq, ↓reduceIte, true_and, and_true, not_true_eq_false, not_false_eq_true, b2i_0, b2i_1, bz_b2i, bz_0, bz_1, nar_b2i, narb_0, narb_1, ↓within_eq, ↓lies_eq, i64i, zi0, zj0, zi1, zj1, zi2, zj2, zi3, zj3, zi4, zj4, zi5, zj5, zi6, zj6, zi7, zj7, zi8, zj8, zi9, zj9, zi10, zj10, zi12, zj12, zi13, zj13, zi19, zj19, zi20, zj20, zi21, zj21, zi29, zj29, zi30, zj30, zi39, zj39, zi48, zj48, zi50, zj50, zi57, zj57, zi60, zj60, zi63, zj63, zi65, zj65, zi71, zj71, zi72, zj72, zi73, zj73, zi74, zj74, zi80, zj80, zi97, zj97, zi98, zj98, zi99, zj99, zi100, zj100, zi106, zj106, zi240, zj240, zi255, zj255, zi260, zj260, zi300, zj300, zi999, zj999, zi1000, zj1000, zi1023, zj1023, zi1024, zj1024, zi9999, zj9999, zi65535, zj65535, zi65536, zj65536, z_tn, z_m1, z_m2, z_bt, z_bf, z_10, Bool.false_eq_true]
        exact h9
  have hsh : (1 : Int32) <<< (nI n &&& 31) = nI (2 ^ n) := shl1_n (by omega)
  have key : ∀ (m s : Nat), 1 ≤ s → s + m = 2 ^ n → wX12_winter_144 post (m + 1) (nI lim) a2 (nI n) (nI (es L n (wj lim (ws fw 10) (ws fd 10) s).1)) (nI (wj lim (ws fw 10) (ws fd 10) s).2.1) (nI (wj lim (ws fw 10) (ws fd 10) s).2.2) (nI s) M := by
    intro m
    induction m with
    | zero =>
      intro s h1 e
      have : s = 2 ^ n := by omega
      subst this
      rw [wX12_winter_144]; dsimp only
      rw [hsh, if_pos (nI_le (Nat.le_refl _) (by omega))]
      by_cases z : a2 = 0
      · rw [if_pos z] at hp ⊢; exact hp
      · rw [if_neg z] at hp ⊢
        by_cases z : a2 = 1
        · rw [if_pos z] at hp ⊢; exact hp
        · rw [if_neg z] at hp ⊢; exact hp
    | succ m ih =>
      intro s hs1 e
      have hbs := hb s
      have hws := hwb s
      have h9 := ih (s + 1) (by omega) (by omega)
      rw [wj_s _ _ _ hs1] at h9
      unfold uW at h9
      rw [wX12_winter_144]; dsimp only
      rw [hsh, if_neg (nI_ge (by omega) (by omega))]
      refine ⟨n + 1, inn _ _ _ _ s (by omega) ?_ n 0 (by omega)⟩
      by_cases z1 : lim < ws fd 10 s
      · rw [if_pos z1]
        rw [if_neg (fun y => by omega)] at h9
        exact h9
      rw [if_neg z1]
      by_cases z2 : ws fw 10 s < (wj lim (ws fw 10) (ws fd 10) s).2.1
      · rw [if_pos (nI_lt z2 (by omega))]
        rw [if_neg (fun y => by omega)] at h9
        exact h9
      rw [if_neg (nI_nlt (by omega) (by omega))]
      by_cases z3 : ws fw 10 s = (wj lim (ws fw 10) (ws fd 10) s).2.1
      · rw [if_pos (by rw [z3])]
        by_cases z4 : ws fd 10 s < (wj lim (ws fw 10) (ws fd 10) s).2.2
        · rw [if_pos (nI_lt z4 (by omega))]
          rw [if_pos ⟨by omega, Or.inr ⟨z3, z4⟩⟩] at h9
          exact h9
        · rw [if_neg (nI_nlt (by omega) (by omega))]
          rw [if_neg (fun y => by omega)] at h9
          exact h9
      · rw [if_neg (fun y => z3 ((nI_eq (by omega) (by omega)).mp y))]
        rw [if_pos ⟨by omega, Or.inl (by omega)⟩] at h9
        exact h9
  have hpos : 0 < 2 ^ n := Nat.two_pow_pos n
  obtain ⟨q, hq⟩ : ∃ q, 2 ^ n = q + 1 := ⟨2 ^ n - 1, by omega⟩
  refine ⟨q + 2, ?_⟩
  rw [wX12_winter_144]; dsimp only
  rw [hsh, if_neg (show ¬ nI (2 ^ n) ≤ (0 : Int32) from nI_ge (a := 0) hpos (by omega))]
  have i0 := inn (wX12_winter_144 post (q + 1)) 0 (-1) 0 0 hpos (by
    have w0 := ws_0 fw 10
    have d0 := ws_0 fd 10
    rw [w0, d0, if_neg (by omega), if_neg (by decide), if_neg (by decide)]
    have e0 : es L n 0 = 0 := by
      have : ∀ n, es L n 0 = 0 := by
        intro n
        induction n with
        | zero => rfl
        | succ n ih => unfold es; rw [if_neg (by rw [Nat.zero_testBit]; decide)]; exact ih
      exact this n
    have k1 := key q 1 (Nat.le_refl _) (by omega)
    have w1 : wj lim (ws fw 10) (ws fd 10) 1 = (0, 0, 0) := if_pos rfl
    rw [w1] at k1
    rw [e0] at k1 ⊢
    exact k1) n 0 (by omega)
  exact ⟨n + 1, i0⟩
theorem winter_ok {LL : xMem → xMem → Prop} (hLL : LLc LL) (a0 a1 a2 : Int32) (C M : xMem) (h : RRL LL C M) : wX11_winter a0 a1 a2 C (fun r C' => wX12_winter a0 a1 a2 M (fun r' M' => r = r' ∧ RRL LL C' M')) := by
  have h9 := RRL_taped hLL h
  obtain ⟨⟨S, e, hl, hk, il, to, il2, to2, kp, tn, t, hR⟩, hL⟩ := id h
  obtain ⟨wE, rE, rE2⟩ := hR.2.1
  obtain ⟨wT, rT, rT2⟩ := hR.2.2.2.2.1
  have hw9 := wT.1
  have hg := wE.1
  have hpc := pc_le hg
  have hlen : (slN (e 0 0) 10).length = pc (e 0 0) := slN_pc hg
  -- the reference
  have ref : ∀ post : Int32 → xMem → Prop, (if 0 ≤ a0.toInt ∧ a0.toInt ≤ 300 then if a1 < 1 then post (-1) M else if a1 = nI (pc (e 0 0)) then if 0 ≤ a2.toInt ∧ a2.toInt ≤ 2 then if a1 ≤ nI tn then ∃ n98, wX12_winter_98 post n98 a0 a1 a2 (nI (e 0 0)) 0 (si M 0 1 0) else post (-1) M else post (-1) M else post (-1) M else post (-1) M) → wX12_winter a0 a1 a2 M post := by
    intro post hp
    have key : ∀ (m i : Nat), i + m = 10 → wX12_winter_6 post (m + 1) a0 a1 a2 (nI (orB (fun k => (e 0 0).testBit k) i)) (nI i) M := by
      intro m
      induction m with
      | zero =>
        intro i q
        have : i = 10 := by omega
        subst this
        rw [orB_tb (n := 10) hg, wX12_winter_6]; dsimp only
        rw [if_pos (show (10 : Int32) ≤ nI 10 by decide), lies_eq, i64i, zj0, zj300]
        by_cases c0 : 0 ≤ a0.toInt ∧ a0.toInt ≤ 300
        rotate_left
        · rw [if_neg c0] at hp; rw [b2i_f c0, if_pos rfl]; exact hp
        rw [if_pos c0] at hp
        rw [b2i_t c0, if_neg (by decide)]
        by_cases c1 : a1 < 1
        · rw [if_pos c1] at hp ⊢; exact hp
        rw [if_neg c1] at hp ⊢
        refine sizeOf_n hg M _ ?_
        by_cases c2 : a1 = nI (pc (e 0 0))
        rotate_left
        · rw [if_neg c2] at hp ⊢; exact hp
        rw [if_pos c2] at hp ⊢
        rw [lies_eq, i64i, zj0, zj2]
        by_cases c3 : 0 ≤ a2.toInt ∧ a2.toInt ≤ 2
        rotate_left
        · rw [if_neg c3] at hp; rw [b2i_f c3, if_pos rfl]; exact hp
        rw [if_pos c3] at hp
        rw [b2i_t c3, if_neg (by decide), rT2.1]
        by_cases c4 : a1 ≤ nI tn
        · rw [if_pos c4] at hp ⊢
          intro M13 e13
          subst e13
          exact hp
        · rw [if_neg c4] at hp ⊢; exact hp
      | succ m ih =>
        intro i q
        have hi : i < 10 := by omega
        have h8 := ih (i + 1) (by omega)
        unfold orB at h8
        rw [wX12_winter_6]; dsimp only
        unfold wX12_winter_33
        rw [if_neg (show ¬ (10 : Int32) ≤ nI i from nI_ge hi (by decide))]
        refine ⟨vp_in_nI hi (by decide), ?_⟩
        rw [nI_clamp (by omega), (rE2 i hi).1]
        by_cases z : (e 0 0).testBit i = true
        · rw [if_pos z] at h8
          rw [b2i_t z, if_neg (by decide), shl_L hi, z_or]
          simp (disch := omega) only [z_lt_t, z_lt_f, z_le_t, z_le_f, z_eq_t, z_eq_f, z_lt0, z_lt1_t, z_lt1_f, z_lt2_t, z_lt2_f, z_le1_t, z_le1_f, z_le2_t, z_le2_f, z_eq1_t, z_eq1_f, z_eq2_t, z_eq2_f, z_lt1, z_lt2, z_le1, z_le2, z_eq1, z_eq2, z_lt, z_le, z_eq, z_in, z_cl, z_cl1, z_add, z_add1, z_addm, z_sub, z_subl, z_mul, z_mull, ↓forall_eq, ↓reduceIte, true_and, and_true, not_true_eq_false, not_false_eq_true, b2i_0, b2i_1, bz_b2i, bz_0, bz_1, nar_b2i, narb_0, narb_1, ↓within_eq, ↓lies_eq, i64i, zi0, zj0, zi1, zj1, zi2, zj2, zi3, zj3, zi4, zj4, zi5, zj5, zi6, zj6, zi7, zj7, zi8, zj8, zi9, zj9, zi10, zj10, zi12, zj12, zi13, zj13, zi19, zj19, zi20, zj20, zi21, zj21, zi29, zj29, zi30, zj30, zi39, zj39, zi48, zj48, zi50, zj50, zi57, zj57, zi60, zj60, zi63, zj63, zi65, zj65, zi71, zj71, zi72, zj72, zi73, zj73, zi74, zj74, zi80, zj80, zi97, zj97, zi98, zj98, zi99, zj99, zi100, zj100, zi106, zj106, zi240, zj240, zi255, zj255, zi260, zj260, zi300, zj300, zi999, zj999, zi1000, zj1000, zi1023, zj1023, zi1024, zj1024, zi9999, zj9999, zi65535, zj65535, zi65536, zj65536, z_tn, z_m1, z_m2, z_bt, z_bf, z_10, Bool.false_eq_true]
          exact h8
        · rw [if_neg z] at h8
          rw [b2i_f z, if_pos rfl, show (0 : Int32) = nI 0 from rfl, z_or, Nat.or_zero]
          simp (disch := omega) only [z_lt_t, z_lt_f, z_le_t, z_le_f, z_eq_t, z_eq_f, z_lt0, z_lt1_t, z_lt1_f, z_lt2_t, z_lt2_f, z_le1_t, z_le1_f, z_le2_t, z_le2_f, z_eq1_t, z_eq1_f, z_eq2_t, z_eq2_f, z_lt1, z_lt2, z_le1, z_le2, z_eq1, z_eq2, z_lt, z_le, z_eq, z_in, z_cl, z_cl1, z_add, z_add1, z_addm, z_sub, z_subl, z_mul, z_mull, ↓forall_eq, ↓reduceIte, true_and, and_true, not_true_eq_false, not_false_eq_true, b2i_0, b2i_1, bz_b2i, bz_0, bz_1, nar_b2i, narb_0, narb_1, ↓within_eq, ↓lies_eq, i64i, zi0, zj0, zi1, zj1, zi2, zj2, zi3, zj3, zi4, zj4, zi5, zj5, zi6, zj6, zi7, zj7, zi8, zj8, zi9, zj9, zi10, zj10, zi12, zj12, zi13, zj13, zi19, zj19, zi20, zj20, zi21, zj21, zi29, zj29, zi30, zj30, zi39, zj39, zi48, zj48, zi50, zj50, zi57, zj57, zi60, zj60, zi63, zj63, zi65, zj65, zi71, zj71, zi72, zj72, zi73, zj73, zi74, zj74, zi80, zj80, zi97, zj97, zi98, zj98, zi99, zj99, zi100, zj100, zi106, zj106, zi240, zj240, zi255, zj255, zi260, zj260, zi300, zj300, zi999, zj999, zi1000, zj1000, zi1023, zj1023, zi1024, zj1024, zi9999, zj9999, zi65535, zj65535, zi65536, zj65536, z_tn, z_m1, z_m2, z_bt, z_bf, z_10, Bool.false_eq_true]
          exact h8
    exact ⟨11, key 10 0 rfl⟩
  have refN : ¬ ((0 ≤ a0.toInt ∧ a0.toInt ≤ 300) ∧ (0 ≤ a2.toInt ∧ a2.toInt ≤ 2) ∧ a1 = nI (pc (e 0 0)) ∧ 1 ≤ pc (e 0 0) ∧ pc (e 0 0) ≤ tn) → wX12_winter a0 a1 a2 M (fun r' M' => (-1 : Int32) = r' ∧ RRL LL C M') := by
    intro hn
    refine ref _ ?_
    by_cases c0 : 0 ≤ a0.toInt ∧ a0.toInt ≤ 300
    rotate_left
    · rw [if_neg c0]; exact ⟨rfl, h⟩
    rw [if_pos c0]
    by_cases c1 : a1 < 1
    · rw [if_pos c1]; exact ⟨rfl, h⟩
    rw [if_neg c1]
    by_cases c2 : a1 = nI (pc (e 0 0))
    rotate_left
    · rw [if_neg c2]; exact ⟨rfl, h⟩
    rw [if_pos c2]
    by_cases c3 : 0 ≤ a2.toInt ∧ a2.toInt ≤ 2
    rotate_left
    · rw [if_neg c3]; exact ⟨rfl, h⟩
    rw [if_pos c3]
    by_cases c4 : a1 ≤ nI tn
    rotate_left
    · rw [if_neg c4]; exact ⟨rfl, h⟩
    exfalso
    refine hn ⟨c0, c3, c2, ?_, ?_⟩
    · rw [c2] at c1
      rcases Nat.lt_or_ge (pc (e 0 0)) 1 with q | q
      · exact absurd (show nI (pc (e 0 0)) < 1 from nI_lt q (by decide)) c1
      · exact q
    · rw [c2] at c4
      rcases Nat.lt_or_ge tn (pc (e 0 0)) with q | q
      · exact absurd c4 (nI_ge q (by omega))
      · exact q
  have c38 : wX12_winter a0 a1 a2 M (fun r' M' => (-1 : Int32) = r' ∧ RRL LL C M') → wX11_winter_38 (fun r C' => wX12_winter a0 a1 a2 M (fun r' M' => r = r' ∧ RRL LL C' M')) a0 a1 a2 C := fun hh => by
    unfold wX11_winter_38 wX11_winter_39
    rw [if_pos rfl]; exact hh
  unfold wX11_winter
  rw [within_eq, zi0, zi300]
  by_cases c0 : 0 ≤ a0.toInt ∧ a0.toInt ≤ 300
  rotate_left
  · rw [b2i_f c0, if_pos rfl]; exact c38 (refN (fun z => c0 z.1))
  rw [b2i_t c0, if_neg (by decide), within_eq, zi0, zi2]
  by_cases c3 : 0 ≤ a2.toInt ∧ a2.toInt ≤ 2
  rotate_left
  · rw [b2i_f c3, if_pos rfl]; exact c38 (refN (fun z => c3 z.2.1))
  rw [b2i_t c3, if_neg (by decide), rE.1, bitCount_eq, bc_n hg]
  by_cases c2 : a1 = nI (pc (e 0 0))
  rotate_left
  · rw [if_neg c2]; exact c38 (refN (fun z => c2 z.2.2.1))
  rw [if_pos c2]
  unfold wX11_winter_39
  rw [if_neg (by decide), tapeGives_eq wT.1 _ _ _ rT.1, zi1, zi10, c2, nI_toInt (by omega)]
  by_cases c4 : 1 ≤ pc (e 0 0) ∧ pc (e 0 0) ≤ tn
  rotate_left
  · rw [b2i_f (by omega), if_pos rfl, ← c2]; exact refN (fun z => c4 z.2.2.2)
  rw [b2i_t (by omega), if_neg (by decide)]
  intro M5 e5
  subst e5
  obtain ⟨lim, hlim, rfl⟩ := at_n (a := a0) (n := 300) c0 (by decide)
  subst c2
  have fC3 : ∀ i, i < pc (e 0 0) → gi (si C 0 1 0) 1 i = nI (t i) := fun i hi => by rw [g_c (by omega)]; exact rT.2 i (by omega)
  have fM3 : ∀ i, i < pc (e 0 0) → gi (si M 0 1 0) 1 i &&& 255 = nI (t i) := fun i hi => by rw [g_c (by omega)]; exact (rT2.2 i (by omega)).1
  have fT : ∀ i, i < pc (e 0 0) → t i < 256 := fun i hi => wT.2 i (by omega)
  have refY : ∀ post : Int32 → xMem → Prop, (∃ n98, wX12_winter_98 post n98 (nI lim) (nI (pc (e 0 0))) a2 (nI (e 0 0)) 0 (si M 0 1 0)) → wX12_winter (nI lim) (nI (pc (e 0 0))) a2 M post := by
    intro post hp
    refine ref _ ?_
    rw [if_pos c0, if_neg (show ¬ nI (pc (e 0 0)) < 1 from nI_nlt (b := 1) c4.1 (by omega)), if_pos rfl, if_pos c3, if_pos (nI_le c4.2 (by omega))]
    exact hp
  have walk : ∀ post : Int32 → xMem → Prop, ((∀ i, i < pc (e 0 0) → t i ≤ 10) → wX12_takesSome (nI (e 0 0)) (si M 0 1 0) (fun r3 M2 => ∃ n144 : Nat, wX12_winter_144 post n144 (nI lim) a2 r3 0 (-1) 0 0 M2)) → ((∃ i, i < pc (e 0 0) ∧ 10 < t i) → post (-2) (si M 0 1 0)) → ∃ n98, wX12_winter_98 post n98 (nI lim) (nI (pc (e 0 0))) a2 (nI (e 0 0)) 0 (si M 0 1 0) := by
    intro post hp1 hp2
    have key : ∀ (m i : Nat), i + m = pc (e 0 0) → (∀ j, j < i → t j ≤ 10) → wX12_winter_98 post (m + 1) (nI lim) (nI (pc (e 0 0))) a2 (nI (e 0 0)) (nI i) (si M 0 1 0) := by
      intro m
      induction m with
      | zero =>
        intro i eq hh
        have : i = pc (e 0 0) := by omega
        subst this
        rw [wX12_winter_98]; dsimp only
        rw [if_pos (nI_le (Nat.le_refl _) (by omega))]
        exact hp1 hh
      | succ m ih =>
        intro i q hh
        have hi : i < pc (e 0 0) := by omega
        have ht1 := fT i hi
        rw [wX12_winter_98]; dsimp only
        rw [if_neg (nI_ge hi (by omega))]
        refine byteAt_n (by omega) (fM3 i hi) _ ?_
        by_cases z : t i ≤ 10
        · rw [if_pos (show nI (t i) ≤ 10 from nI_le (b := 10) z (by decide))]
          intro v e5
          subst e5
          rw [z_add1]
          refine ih (i + 1) (by omega) (fun j hj => ?_)
          by_cases ej : j = i
          · subst ej; exact z
          · exact hh j (by omega)
        · rw [if_neg (show ¬ nI (t i) ≤ 10 from nI_ge (a := 10) (by omega) (by omega))]
          exact hp2 ⟨i, hi, by omega⟩
    exact ⟨_, key (pc (e 0 0)) 0 (by omega) (fun j hj => absurd hj (by omega))⟩
  refine tapeW (b := 10) (by omega) (by omega) fC3 fT _ (fun hall => ?_) (fun hbad => ?_)
  rotate_left
  · rw [if_pos rfl]
    refine refY _ (walk _ (fun hh => ?_) (fun _ => ⟨rfl, h9⟩))
    obtain ⟨i, hi, h2⟩ := hbad
    have := hh i hi
    omega
  rw [if_neg (by decide)]
  have sl := sl_all hg
  have hbf : ∀ j, j < 10 → wfw e t j ≤ 1000 := fun j hj => by
    unfold wfw
    split
    · rename_i hjl
      have a := hall j (by omega)
      have b := (wE.2 _ (sl j hjl).1).2.2.1
      have : t j * e 2 (wL e j) ≤ 10 * 99 := Nat.mul_le_mul a b
      omega
    · omega
  have hbd : ∀ j, j < 10 → wfd e j ≤ 1000 := fun j hj => by
    unfold wfd
    split
    · rename_i hjl
      have b := (wE.2 _ (sl j hjl).1).2.2.2
      show e 3 (wL e j) ≤ 1000
      exact Nat.le_trans b (by omega)
    · omega
  refine listC hg (by rw [g_c (by omega)]; exact rE.1) _ _ (fun C' f1 f2 => ?_)
  have G : ∀ c i, ¬ (c = 41 ∧ (i = 11 ∨ i = 12)) → gi (si (si C' 41 12 0) 41 11 0) c i = gi C' c i := fun c i hc => by
    rw [gi_si, if_neg (by omega), gi_si, if_neg (by omega)]
  have mult : ∀ a b : Nat, nI a * nI b = nI (a * b) := pk_mul
  refine ⟨(slN (e 0 0) 10).length + 1, planC (C0 := si (si C' 41 12 0) 41 11 0) (L := wL e) (fw := wfw e t) (fd := wfd e) (n := (slN (e 0 0) 10).length) (slN_le _ 10) hlim (fun j hj => (sl j hj).1) hbf hbd (fun j hj => by rw [G _ _ (by omega)]; exact f2 j hj) (fun j hj => ?_) (fun j hj => ?_) _ (fun C4 g1 g2 g3 g4 => ?_) (slN (e 0 0) 10).length 0 (by omega) _ ?_⟩
  · have hLj := (sl j hj).1
    rw [G _ _ (by omega), G _ _ (by omega), f1 _ _ (by omega), f1 _ _ (by omega), fC3 j (by omega), g_c (by omega)]
    have : gi C 43 (wL e j) = nI (e 2 (wL e j)) := (rE.2 _ hLj).2.1
    rw [this, mult]
    unfold wfw
    rw [if_pos hj]
  · have hLj := (sl j hj).1
    rw [G _ _ (by omega), f1 _ _ (by omega), g_c (by omega)]
    have : gi C 44 (wL e j) = nI (e 3 (wL e j)) := (rE.2 _ hLj).2.2
    rw [this]
    unfold wfd
    rw [if_pos hj]
  · have hRR : ∀ M4 : xMem, (∀ c i, c ≠ 56 → gi M4 c i = gi (si M 0 1 0) c i) → RRL LL C4 M4 := fun M4 hM4 => by
      refine RRL_fr hLL h9 (fun c i hc => ?_) (fun c i hc => hM4 c i (by unfold cntM at hc; omega))
      unfold cntC lawC at hc
      rw [g1 c i (by omega), G c i (by omega), f1 c i (by omega)]
    have fin : ∀ r : Int32, r = (if a2 = 0 then nI (wj lim (ws (wfw e t) 10) (ws (wfd e) 10) (2 ^ (slN (e 0 0) 10).length)).2.1 else if a2 = 1 then nI (es (wL e) (slN (e 0 0) 10).length (wj lim (ws (wfw e t) 10) (ws (wfd e) 10) (2 ^ (slN (e 0 0) 10).length)).1) else nI (wj lim (ws (wfw e t) 10) (ws (wfd e) 10) (2 ^ (slN (e 0 0) 10).length)).2.2) → wX12_winter (nI lim) (nI (pc (e 0 0))) a2 M (fun r' M' => r = r' ∧ RRL LL C4 M') := by
      intro r hr
      refine refY _ (walk _ (fun _ => ?_) (fun hbad => ?_))
      · refine takesM hg _ (fun M' k1 k2 => ?_)
        refine wintM (t := t) (slN_le _ 10) hlim (fun j hj => (sl j hj).1) hbf hbd k2 (fun j hj => by rw [k1 _ _ (by omega)]; exact fM3 j (by omega)) (fun j hj => ?_) (fun j hj => ?_) a2 _ ⟨hr, hRR M' k1⟩
        · have hLj := (sl j hj).1
          rw [k1 _ _ (by omega), g_c (by omega)]
          have : gi M 27 (wL e j) = nI (e 2 (wL e j)) := (rE2 _ hLj).2.2.1
          rw [show (slN (e 0 0) 10).getD j 0 = wL e j from rfl, this, mult]
          unfold wfw
          rw [if_pos hj]
        · have hLj := (sl j hj).1
          rw [k1 _ _ (by omega), g_c (by omega)]
          have : gi M 29 (wL e j) = nI (e 3 (wL e j)) := (rE2 _ hLj).2.2.2
          rw [show (slN (e 0 0) 10).getD j 0 = wL e j from rfl, this]
          unfold wfd
          rw [if_pos hj]
      · obtain ⟨i, hi, h2⟩ := hbad
        have := hall i hi
        omega
    by_cases z : a2 = 0
    · rw [if_pos z]; exact fin _ (by rw [if_pos z]; exact g2)
    · rw [if_neg z]
      by_cases z1 : a2 = 1
      · rw [if_pos z1]; exact fin _ (by rw [if_neg z, if_pos z1]; exact g4)
      · rw [if_neg z1]; exact fin _ (by rw [if_neg z, if_neg z1]; exact g3)
  · refine ⟨fun c i _ => rfl, fun s' q1 q2 => absurd q2 (by omega), ?_, ?_⟩
    · rw [g_i (by omega), g_same]; rfl
    · rw [g_same]; rfl
