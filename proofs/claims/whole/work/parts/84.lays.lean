/-! CHEAPEST in the reference -/
/-- the cells that the reference's choosing may change -/
def chM (c i : Nat) : Prop := askM c i ∧ c ≠ 39 ∧ ¬ (c = 0 ∧ (i = 69 ∨ i = 70))
def m69 (b : Nat) : Int32 := if b = 0 then -1 else nI b
def m70 (cst : Nat → Nat) (b : Nat) : Int32 := if b = 0 then 1000000000 else nI (ws cst 10 b)
theorem andnot0 {a b : Nat} (ha : a < 1024) (hb : b < 1024) : (nI a &&& (nI b ^^^ (-1)) = 0) = (a &&& (1023 ^^^ b) = 0) := propext (and0_n ha hb)
theorem layM {r : Nat} {V : xV} (oV : okV V) {M : xMem} (hV : semM r V M) (h27 : gi M 0 27 = nI r) {e h : xT2} {il to : Int32} (hH : HM h il to M) (wE : wfE e) (hE : EM e M) (h9 : ∀ x, x < 10 → h 9 x ≤ 9) {w : Nat} (hw : w < 1024) (post : Int32 → xMem → Prop) (hp : ∀ M' : xMem, (∀ c i, chM c i → gi M' c i = gi M c i) → gi M' 0 69 = m69 (cB V e h w) → gi M' 0 70 = m70 (costF V e h) (cB V e h w) → (∀ x, x < 10 → (cB V e h w).testBit x = true → gi M' 39 x = nI (costF V e h x)) → post (b2i (cB V e h w ≠ 0)) M') : wX12_laysCheapest (nI w) M post := by
  have hc9 : ∀ x, costF V e h x ≤ 999 := fun x => oV 1 _ (by omega)
  have hb : ∀ s, ws (costF V e h) 10 s ≤ 9990 := fun s => by
    have a := ws_le (f := costF V e h) (b := 999) (n := 10) (fun j _ => hc9 j) s 10 (Nat.le_refl _)
    omega
  have hob : ∀ s m, m ≤ 10 → ow (e 1) m s < 1024 := fun s m hm => ow_lt (n := 10) (fun j hj => (wE.2 j hj).1) s m hm
  have hth := thF_lt e h
  -- the sets, one after the other
  have loop2 : ∀ M0 : xMem, (∀ c i, chM c i → gi M0 c i = gi M c i) → (∀ x, x < 10 → (thF e h).testBit x = true → gi M0 39 x = nI (costF V e h x)) → ∀ (m s : Nat) (M' : xMem), s + m = thF e h + 1 → (∀ c i, ¬ (c = 0 ∧ (i = 69 ∨ i = 70)) → gi M' c i = gi M0 c i) → gi M' 0 69 = m69 (srB (PM (e 1) w (thF e h)) (ws (costF V e h) 10) pc s) → gi M' 0 70 = m70 (costF V e h) (srB (PM (e 1) w (thF e h)) (ws (costF V e h) 10) pc s) → 1 ≤ s → wX12_laysCheapest_68 post (m + 1) (nI w) (nI (thF e h)) (nI s) M' := by
    intro M0 g1 g2 m
    induction m with
    | zero =>
      intro s M' es f1 f2 f3 hs1
      have : s = thF e h + 1 := by omega
      subst this
      have hfin := hp M' (fun c i hc => by unfold chM at hc; rw [f1 c i (by omega)]; exact g1 c i (by unfold chM; exact hc)) f2 f3 (fun x hx hb => by
        rw [f1 _ _ (by omega)]
        refine g2 x hx ?_
        rw [show cB V e h w = srB (PM (e 1) w (thF e h)) (ws (costF V e h) 10) pc (thF e h + 1) from rfl] at hb
        rcases srB_ok (PM (e 1) w (thF e h)) (ws (costF V e h) 10) pc (thF e h + 1) with q | q
        · rw [q.1, Nat.zero_testBit] at hb; cases hb
        · obtain ⟨q1, q2, q3, q4⟩ := q
          generalize srB (PM (e 1) w (thF e h)) (ws (costF V e h) 10) pc (thF e h + 1) = bb at q1 q2 q3 hb
          have hb' : bb.testBit x = true := hb
          unfold PM at q3
          rw [Bool.and_eq_true, decide_eq_true_eq, decide_eq_true_eq] at q3
          exact (told_sub (by omega) hth).mp q3.1 x hx hb')
      rw [wX12_laysCheapest_68]; dsimp only
      rw [if_pos (nI_lt (by omega) (by omega)), f2]
      have hsl := srB_lt (PM (e 1) w (thF e h)) (ws (costF V e h) 10) pc (thF e h + 1)
      by_cases z : cB V e h w = 0
      · rw [b2i_f (fun q => q z)] at hfin
        rw [if_pos (show m69 (srB (PM (e 1) w (thF e h)) (ws (costF V e h) 10) pc (thF e h + 1)) = -1 from if_pos z)]
        exact hfin
      · rw [b2i_t z] at hfin
        rw [if_neg (fun q => by
          have e1 : m69 (srB (PM (e 1) w (thF e h)) (ws (costF V e h) 10) pc (thF e h + 1)) = nI (srB (PM (e 1) w (thF e h)) (ws (costF V e h) 10) pc (thF e h + 1)) := if_neg z
          rw [e1] at q
          exact nI_m1 (by omega) q)]
        exact hfin
    | succ m ih =>
      intro s M' es f1 f2 f3 hs1
      have hs : s < 1024 := by omega
      have hbs := hb s
      have hsl := srB_lt (PM (e 1) w (thF e h)) (ws (costF V e h) 10) pc s
      have hbb := hb (srB (PM (e 1) w (thF e h)) (ws (costF V e h) 10) pc s)
      -- the next set, better or not
      have no : ¬ (PM (e 1) w (thF e h) s = true ∧ 1 ≤ s ∧ (srB (PM (e 1) w (thF e h)) (ws (costF V e h) 10) pc s = 0 ∨ ws (costF V e h) 10 s < ws (costF V e h) 10 (srB (PM (e 1) w (thF e h)) (ws (costF V e h) 10) pc s) ∨ (ws (costF V e h) 10 s = ws (costF V e h) 10 (srB (PM (e 1) w (thF e h)) (ws (costF V e h) 10) pc s) ∧ pc s < pc (srB (PM (e 1) w (thF e h)) (ws (costF V e h) 10) pc s)))) → wX12_laysCheapest_197 (wX12_laysCheapest_68 post (m + 1)) post (nI w) (nI (thF e h)) (nI s) M' := fun q => by
        have h8 := ih (s + 1) M' (by omega) f1 (by rw [srB_s, if_neg q]; exact f2) (by rw [srB_s, if_neg q]; exact f3) (by omega)
        unfold wX12_laysCheapest_197
        simp (disch := omega) only [z_lt_t, z_lt_f, z_le_t, z_le_f, z_eq_t, z_eq_f, z_lt0, z_lt1_t, z_lt1_f, z_lt2_t, z_lt2_f, z_le1_t, z_le1_f, z_le2_t, z_le2_f, z_eq1_t, z_eq1_f, z_eq2_t, z_eq2_f, z_lt1, z_lt2, z_le1, z_le2, z_eq1, z_eq2, z_lt, z_le, z_eq, z_in, z_cl, z_cl1, z_add, z_add1, z_addm, z_sub, z_subl, z_mul, z_mull, ↓forall_eq, ↓reduceIte, true_and, and_true, not_true_eq_false, not_false_eq_true, b2i_0, b2i_1, bz_b2i, bz_0, bz_1, nar_b2i, narb_0, narb_1, ↓within_eq, ↓lies_eq, i64i, zi0, zj0, zi1, zj1, zi2, zj2, zi3, zj3, zi4, zj4, zi5, zj5, zi6, zj6, zi7, zj7, zi8, zj8, zi9, zj9, zi10, zj10, zi12, zj12, zi13, zj13, zi19, zj19, zi20, zj20, zi21, zj21, zi29, zj29, zi30, zj30, zi39, zj39, zi48, zj48, zi50, zj50, zi57, zj57, zi60, zj60, zi63, zj63, zi65, zj65, zi71, zj71, zi72, zj72, zi73, zj73, zi74, zj74, zi80, zj80, zi97, zj97, zi98, zj98, zi99, zj99, zi100, zj100, zi106, zj106, zi240, zj240, zi255, zj255, zi260, zj260, zi300, zj300, zi999, zj999, zi1000, zj1000, zi1023, zj1023, zi1024, zj1024, zi9999, zj9999, zi65535, zj65535, zi65536, zj65536, z_tn, z_m1, z_m2, z_bt, z_bf, z_10, Bool.false_eq_true]
        exact h8
      have yes : (PM (e 1) w (thF e h) s = true ∧ 1 ≤ s ∧ (srB (PM (e 1) w (thF e h)) (ws (costF V e h) 10) pc s = 0 ∨ ws (costF V e h) 10 s < ws (costF V e h) 10 (srB (PM (e 1) w (thF e h)) (ws (costF V e h) 10) pc s) ∨ (ws (costF V e h) 10 s = ws (costF V e h) 10 (srB (PM (e 1) w (thF e h)) (ws (costF V e h) 10) pc s) ∧ pc s < pc (srB (PM (e 1) w (thF e h)) (ws (costF V e h) 10) pc s)))) → wX12_laysCheapest_186 (wX12_laysCheapest_68 post (m + 1)) post (nI w) (nI (thF e h)) (nI s) (nI (ws (costF V e h) 10 s)) M' := fun q => by
        have h8 := ih (s + 1) (si (si M' 0 69 (nI s)) 0 70 (nI (ws (costF V e h) 10 s))) (by omega) (fun c i hc => by rw [gi_si, if_neg (by omega), gi_si, if_neg (by omega)]; exact f1 c i hc) (by rw [srB_s, if_pos q, g_i (by omega), g_same]; exact (if_neg (by omega)).symm) (by rw [srB_s, if_pos q, g_same]; exact (if_neg (by omega)).symm) (by omega)
        unfold wX12_laysCheapest_186 wX12_laysCheapest_197
        simp (disch := omega) only [z_lt_t, z_lt_f, z_le_t, z_le_f, z_eq_t, z_eq_f, z_lt0, z_lt1_t, z_lt1_f, z_lt2_t, z_lt2_f, z_le1_t, z_le1_f, z_le2_t, z_le2_f, z_eq1_t, z_eq1_f, z_eq2_t, z_eq2_f, z_lt1, z_lt2, z_le1, z_le2, z_eq1, z_eq2, z_lt, z_le, z_eq, z_in, z_cl, z_cl1, z_add, z_add1, z_addm, z_sub, z_subl, z_mul, z_mull, ↓forall_eq, ↓reduceIte, true_and, and_true, not_true_eq_false, not_false_eq_true, b2i_0, b2i_1, bz_b2i, bz_0, bz_1, nar_b2i, narb_0, narb_1, ↓within_eq, ↓lies_eq, i64i, zi0, zj0, zi1, zj1, zi2, zj2, zi3, zj3, zi4, zj4, zi5, zj5, zi6, zj6, zi7, zj7, zi8, zj8, zi9, zj9, zi10, zj10, zi12, zj12, zi13, zj13, zi19, zj19, zi20, zj20, zi21, zj21, zi29, zj29, zi30, zj30, zi39, zj39, zi48, zj48, zi50, zj50, zi57, zj57, zi60, zj60, zi63, zj63, zi65, zj65, zi71, zj71, zi72, zj72, zi73, zj73, zi74, zj74, zi80, zj80, zi97, zj97, zi98, zj98, zi99, zj99, zi100, zj100, zi106, zj106, zi240, zj240, zi255, zj255, zi260, zj260, zi300, zj300, zi999, zj999, zi1000, zj1000, zi1023, zj1023, zi1024, zj1024, zi9999, zj9999, zi65535, zj65535, zi65536, zj65536, z_tn, z_m1, z_m2, z_bt, z_bf, z_10, Bool.false_eq_true]
        exact h8
      rw [wX12_laysCheapest_68]; dsimp only
      rw [if_neg (nI_nlt (by omega) (by omega))]
      by_cases z1 : s &&& (1023 ^^^ thF e h) = 0
      rotate_left
      · rw [if_neg (fun q => z1 ((and0_n hs hth).mp q))]
        exact no (fun q => z1 (by
          have := q.1
          unfold PM at this
          rw [Bool.and_eq_true, decide_eq_true_eq] at this
          exact this.1))
      rw [if_pos ((and0_n hs hth).mpr z1)]
      have hsub := (told_sub hs hth).mp z1
      refine ⟨11, ?_⟩
      have inn : ∀ (m' x : Nat), x + m' = 10 → wX12_laysCheapest_93 (wX12_laysCheapest_68 post (m + 1)) post (m' + 1) (nI w) (nI (thF e h)) (nI s) (nI (ow (e 1) x s)) (nI (ws (costF V e h) x s)) (nI x) M' := by
        intro m'
        induction m' with
        | zero =>
          intro x ex
          have : x = 10 := by omega
          subst this
          rw [wX12_laysCheapest_93]; dsimp only
          rw [if_pos (show (10 : Int32) ≤ nI 10 by decide)]
          by_cases z2 : w &&& (1023 ^^^ ow (e 1) 10 s) = 0
          rotate_left
          · rw [if_neg (fun q => z2 ((and0_n hw (hob s 10 (Nat.le_refl _))).mp q))]
            exact no (fun q => z2 (by
              have := q.1
              unfold PM at this
              rw [Bool.and_eq_true, decide_eq_true_eq, decide_eq_true_eq] at this
              exact this.2))
          rw [if_pos ((and0_n hw (hob s 10 (Nat.le_refl _))).mpr z2), f3]
          have hP : PM (e 1) w (thF e h) s = true := by
            unfold PM
            rw [Bool.and_eq_true, decide_eq_true_eq, decide_eq_true_eq]
            exact ⟨z1, z2⟩
          by_cases z3 : srB (PM (e 1) w (thF e h)) (ws (costF V e h) 10) pc s = 0
          · rw [show m70 (costF V e h) (srB (PM (e 1) w (thF e h)) (ws (costF V e h) 10) pc s) = nI 1000000000 from if_pos z3, if_neg (nI_nlt (by omega) (by omega)), if_neg (fun q => by
              have := (nI_eq (by omega) (by omega)).mp q
              omega)]
            exact yes ⟨hP, hs1, Or.inl z3⟩
          · rw [show m70 (costF V e h) (srB (PM (e 1) w (thF e h)) (ws (costF V e h) 10) pc s) = nI (ws (costF V e h) 10 (srB (PM (e 1) w (thF e h)) (ws (costF V e h) 10) pc s)) from if_neg z3]
            by_cases y1 : ws (costF V e h) 10 (srB (PM (e 1) w (thF e h)) (ws (costF V e h) 10) pc s) < ws (costF V e h) 10 s
            · rw [if_pos (nI_lt y1 (by omega))]
              exact no (fun q => by omega)
            rw [if_neg (nI_nlt (by omega) (by omega))]
            by_cases y2 : ws (costF V e h) 10 s = ws (costF V e h) 10 (srB (PM (e 1) w (thF e h)) (ws (costF V e h) 10) pc s)
            rotate_left
            · rw [if_neg (fun q => y2 ((nI_eq (by omega) (by omega)).mp q))]
              exact yes ⟨hP, hs1, Or.inr (Or.inl (by omega))⟩
            rw [if_pos (by rw [y2])]
            refine sizeOf_n hs _ _ ?_
            rw [f2, show m69 (srB (PM (e 1) w (thF e h)) (ws (costF V e h) 10) pc s) = nI (srB (PM (e 1) w (thF e h)) (ws (costF V e h) 10) pc s) from if_neg z3]
            refine sizeOf_n (by omega) _ _ ?_
            have p1 := pc_le hs
            have p2 := pc_le (n := srB (PM (e 1) w (thF e h)) (ws (costF V e h) 10) pc s) (by omega)
            by_cases y3 : pc s < pc (srB (PM (e 1) w (thF e h)) (ws (costF V e h) 10) pc s)
            · rw [if_pos (nI_lt y3 (by omega))]
              exact yes ⟨hP, hs1, Or.inr (Or.inr ⟨y2, y3⟩)⟩
            · rw [if_neg (nI_nlt (by omega) (by omega))]
              exact no (fun q => by omega)
        | succ m' ih' =>
          intro x ex
          have hx : x < 10 := by omega
          have h8 := ih' (x + 1) (by omega)
          unfold ow ws at h8
          rw [wX12_laysCheapest_93]; dsimp only
          unfold wX12_laysCheapest_136
          rw [if_neg (show ¬ (10 : Int32) ≤ nI x from nI_ge hx (by decide)), hasM_n (by omega) (by omega)]
          by_cases z : s.testBit x = true
          · rw [if_pos z, if_pos z] at h8
            rw [b2i_t z, if_neg (by decide)]
            refine ⟨vl hx (by decide), ?_⟩
            rw [nI_clamp (by omega), f1 26 _ (by omega), g1 26 _ (by unfold chM askM; omega), (hE x hx).2.1, z_or]
            intro v14 e14
            subst e14
            refine ⟨vl hx (by decide), ?_⟩
            rw [f1 39 _ (by omega), g2 x hx (hsub x hx z), nI_add]
            simp (disch := omega) only [z_lt_t, z_lt_f, z_le_t, z_le_f, z_eq_t, z_eq_f, z_lt0, z_lt1_t, z_lt1_f, z_lt2_t, z_lt2_f, z_le1_t, z_le1_f, z_le2_t, z_le2_f, z_eq1_t, z_eq1_f, z_eq2_t, z_eq2_f, z_lt1, z_lt2, z_le1, z_le2, z_eq1, z_eq2, z_lt, z_le, z_eq, z_in, z_cl, z_cl1, z_add, z_add1, z_addm, z_sub, z_subl, z_mul, z_mull, ↓forall_eq, ↓reduceIte, true_and, and_true, not_true_eq_false, not_false_eq_true, b2i_0, b2i_1, bz_b2i, bz_0, bz_1, nar_b2i, narb_0, narb_1, ↓within_eq, ↓lies_eq, i64i, zi0, zj0, zi1, zj1, zi2, zj2, zi3, zj3, zi4, zj4, zi5, zj5, zi6, zj6, zi7, zj7, zi8, zj8, zi9, zj9, zi10, zj10, zi12, zj12, zi13, zj13, zi19, zj19, zi20, zj20, zi21, zj21, zi29, zj29, zi30, zj30, zi39, zj39, zi48, zj48, zi50, zj50, zi57, zj57, zi60, zj60, zi63, zj63, zi65, zj65, zi71, zj71, zi72, zj72, zi73, zj73, zi74, zj74, zi80, zj80, zi97, zj97, zi98, zj98, zi99, zj99, zi100, zj100, zi106, zj106, zi240, zj240, zi255, zj255, zi260, zj260, zi300, zj300, zi999, zj999, zi1000, zj1000, zi1023, zj1023, zi1024, zj1024, zi9999, zj9999, zi65535, zj65535, zi65536, zj65536, z_tn, z_m1, z_m2, z_bt, z_bf, z_10, Bool.false_eq_true]
            exact h8
          · rw [if_neg z, if_neg z] at h8
            rw [b2i_f z, if_pos rfl]
            simp (disch := omega) only [z_lt_t, z_lt_f, z_le_t, z_le_f, z_eq_t, z_eq_f, z_lt0, z_lt1_t, z_lt1_f, z_lt2_t, z_lt2_f, z_le1_t, z_le1_f, z_le2_t, z_le2_f, z_eq1_t, z_eq1_f, z_eq2_t, z_eq2_f, z_lt1, z_lt2, z_le1, z_le2, z_eq1, z_eq2, z_lt, z_le, z_eq, z_in, z_cl, z_cl1, z_add, z_add1, z_addm, z_sub, z_subl, z_mul, z_mull, ↓forall_eq, ↓reduceIte, true_and, and_true, not_true_eq_false, not_false_eq_true, b2i_0, b2i_1, bz_b2i, bz_0, bz_1, nar_b2i, narb_0, narb_1, ↓within_eq, ↓lies_eq, i64i, zi0, zj0, zi1, zj1, zi2, zj2, zi3, zj3, zi4, zj4, zi5, zj5, zi6, zj6, zi7, zj7, zi8, zj8, zi9, zj9, zi10, zj10, zi12, zj12, zi13, zj13, zi19, zj19, zi20, zj20, zi21, zj21, zi29, zj29, zi30, zj30, zi39, zj39, zi48, zj48, zi50, zj50, zi57, zj57, zi60, zj60, zi63, zj63, zi65, zj65, zi71, zj71, zi72, zj72, zi73, zj73, zi74, zj74, zi80, zj80, zi97, zj97, zi98, zj98, zi99, zj99, zi100, zj100, zi106, zj106, zi240, zj240, zi255, zj255, zi260, zj260, zi300, zj300, zi999, zj999, zi1000, zj1000, zi1023, zj1023, zi1024, zj1024, zi9999, zj9999, zi65535, zj65535, zi65536, zj65536, z_tn, z_m1, z_m2, z_bt, z_bf, z_10, Bool.false_eq_true]
            exact h8
      exact inn 10 0 rfl
  have key : ∀ (m x : Nat) (M' : xMem), x + m = 10 → (∀ c i, chM c i → gi M' c i = gi M c i) → (∀ y, y < x → (thF e h).testBit y = true → gi M' 39 y = nI (costF V e h y)) → wX12_laysCheapest_4 post (m + 1) (nI w) (nI (orB (fun x => (e 0 0).testBit x && decide (h 9 x ≠ 0)) x)) (nI x) M' := by
    intro m
    induction m with
    | zero =>
      intro x M' ex f1 f2
      have : x = 10 := by omega
      subst this
      rw [wX12_laysCheapest_4]; dsimp only
      rw [if_pos (show (10 : Int32) ≤ nI 10 by decide)]
      intro M2 e2 M3 e3
      subst e2; subst e3
      have G : ∀ c i, ¬ (c = 0 ∧ (i = 69 ∨ i = 70)) → gi (si (si M' 0 69 (-1)) 0 70 1000000000) c i = gi M' c i := fun c i hc => by rw [gi_si, if_neg (by omega), gi_si, if_neg (by omega)]
      have hl := loop2 M' f1 (fun x hx hb => f2 x hx hb) (thF e h) 1 (si (si M' 0 69 (-1)) 0 70 1000000000) (by omega) G (by rw [srB_1, g_i (by omega), g_same]; rfl) (by rw [srB_1, g_same]; rfl) (Nat.le_refl _)
      exact ⟨_, hl⟩
    | succ m ih =>
      intro x M' ex f1 f2
      have hx : x < 10 := by omega
      have hH' : HM h il to M' := HM_keep (fun c i a b d => f1 c i (by unfold chM askM; omega)) (fun i hi => f1 0 i (by unfold chM askM; omega)) hH
      have hE' : EM e M' := EM_keep (fun c i a b d => f1 c i (by unfold chM askM; omega)) hE
      have hV' : semM r V M' := semM_keep hV (fun c i a b => f1 c i (by unfold chM askM; omega)) (f1 _ _ (by unfold chM askM; omega))
      have h27' : gi M' 0 27 = nI r := by rw [f1 _ _ (by unfold chM askM; omega)]; exact h27
      have s9 := h9 x hx
      have skip : ¬ (thF e h).testBit x = true → wX12_laysCheapest_48 (wX12_laysCheapest_4 post (m + 1)) post (nI w) (nI (orB (fun x => (e 0 0).testBit x && decide (h 9 x ≠ 0)) x)) (nI x) M' := fun q => by
        have h8 := ih (x + 1) M' (by omega) f1 (fun y hy hb => by
          by_cases ey : y = x
          · subst ey; exact absurd hb q
          · exact f2 y (by omega) hb)
        unfold orB at h8
        rw [if_neg (fun z => q ((thF_t e h x).mpr (by simpa using ⟨hx, by simpa using z⟩)))] at h8
        unfold wX12_laysCheapest_48
        simp (disch := omega) only [z_lt_t, z_lt_f, z_le_t, z_le_f, z_eq_t, z_eq_f, z_lt0, z_lt1_t, z_lt1_f, z_lt2_t, z_lt2_f, z_le1_t, z_le1_f, z_le2_t, z_le2_f, z_eq1_t, z_eq1_f, z_eq2_t, z_eq2_f, z_lt1, z_lt2, z_le1, z_le2, z_eq1, z_eq2, z_lt, z_le, z_eq, z_in, z_cl, z_cl1, z_add, z_add1, z_addm, z_sub, z_subl, z_mul, z_mull, ↓forall_eq, ↓reduceIte, true_and, and_true, not_true_eq_false, not_false_eq_true, b2i_0, b2i_1, bz_b2i, bz_0, bz_1, nar_b2i, narb_0, narb_1, ↓within_eq, ↓lies_eq, i64i, zi0, zj0, zi1, zj1, zi2, zj2, zi3, zj3, zi4, zj4, zi5, zj5, zi6, zj6, zi7, zj7, zi8, zj8, zi9, zj9, zi10, zj10, zi12, zj12, zi13, zj13, zi19, zj19, zi20, zj20, zi21, zj21, zi29, zj29, zi30, zj30, zi39, zj39, zi48, zj48, zi50, zj50, zi57, zj57, zi60, zj60, zi63, zj63, zi65, zj65, zi71, zj71, zi72, zj72, zi73, zj73, zi74, zj74, zi80, zj80, zi97, zj97, zi98, zj98, zi99, zj99, zi100, zj100, zi106, zj106, zi240, zj240, zi255, zj255, zi260, zj260, zi300, zj300, zi999, zj999, zi1000, zj1000, zi1023, zj1023, zi1024, zj1024, zi9999, zj9999, zi65535, zj65535, zi65536, zj65536, z_tn, z_m1, z_m2, z_bt, z_bf, z_10, Bool.false_eq_true]
        exact h8
      rw [wX12_laysCheapest_4]; dsimp only
      rw [if_neg (show ¬ (10 : Int32) ≤ nI x from nI_ge hx (by decide))]
      refine ⟨vl hx (by decide), ?_⟩
      rw [nI_clamp (by omega), (hE' x hx).1]
      by_cases z1 : (e 0 0).testBit x = true
      rotate_left
      · rw [b2i_f z1, if_pos rfl]
        exact skip (fun q => z1 ((thF_t e h x).mp q).2.1)
      rw [b2i_t z1, if_neg (by decide)]
      refine ⟨vl hx (by decide), ?_⟩
      rw [(hH'.2.1 x hx).2.2.2.2]
      by_cases z2 : h 9 x = 0
      · rw [z2, if_pos (show nI 0 = (0 : Int32) from rfl)]
        exact skip (fun q => ((thF_t e h x).mp q).2.2 z2)
      rw [if_neg (show ¬ nI (h 9 x) = 0 from fun q => z2 ((nI_eq (b := 0) (by omega) (by omega)).mp q)), shl_L hx, z_or]
      intro v8 e8
      subst e8
      refine costM hV' h27' hH' hE' hx (wE.2 x hx).1 _ (fun M2 k1 => ?_)
      refine ⟨vl hx (by decide), ?_⟩
      intro M12 e12
      subst e12
      have hT : (thF e h).testBit x = true := (thF_t e h x).mpr ⟨hx, z1, z2⟩
      have h8 := ih (x + 1) (si M2 39 x (nI (V 1 (eV e h x)))) (by omega) (fun c i hc => by
        have hc2 := hc
        unfold chM at hc2
        rw [g_c hc2.2.1, k1 c i hc2.1]
        exact f1 c i hc) (fun y hy hb => by
        by_cases ey : y = x
        · subst ey; rw [g_same]; rfl
        · rw [g_i ey, k1 39 _ (by unfold askM; omega)]
          exact f2 y (by omega) hb)
      unfold orB at h8
      rw [if_pos (by simp [z1, z2])] at h8
      unfold wX12_laysCheapest_48
      simp (disch := omega) only [z_lt_t, z_lt_f, z_le_t, z_le_f, z_eq_t, z_eq_f, z_lt0, z_lt1_t, z_lt1_f, z_lt2_t, z_lt2_f, z_le1_t, z_le1_f, z_le2_t, z_le2_f, z_eq1_t, z_eq1_f, z_eq2_t, z_eq2_f, z_lt1, z_lt2, z_le1, z_le2, z_eq1, z_eq2, z_lt, z_le, z_eq, z_in, z_cl, z_cl1, z_add, z_add1, z_addm, z_sub, z_subl, z_mul, z_mull, ↓forall_eq, ↓reduceIte, true_and, and_true, not_true_eq_false, not_false_eq_true, b2i_0, b2i_1, bz_b2i, bz_0, bz_1, nar_b2i, narb_0, narb_1, ↓within_eq, ↓lies_eq, i64i, zi0, zj0, zi1, zj1, zi2, zj2, zi3, zj3, zi4, zj4, zi5, zj5, zi6, zj6, zi7, zj7, zi8, zj8, zi9, zj9, zi10, zj10, zi12, zj12, zi13, zj13, zi19, zj19, zi20, zj20, zi21, zj21, zi29, zj29, zi30, zj30, zi39, zj39, zi48, zj48, zi50, zj50, zi57, zj57, zi60, zj60, zi63, zj63, zi65, zj65, zi71, zj71, zi72, zj72, zi73, zj73, zi74, zj74, zi80, zj80, zi97, zj97, zi98, zj98, zi99, zj99, zi100, zj100, zi106, zj106, zi240, zj240, zi255, zj255, zi260, zj260, zi300, zj300, zi999, zj999, zi1000, zj1000, zi1023, zj1023, zi1024, zj1024, zi9999, zj9999, zi65535, zj65535, zi65536, zj65536, z_tn, z_m1, z_m2, z_bt, z_bf, z_10, Bool.false_eq_true]
      exact h8
  exact ⟨11, key 10 0 M rfl (fun _ _ _ => rfl) (fun y hy => absurd hy (by omega))⟩
theorem chC_cnt {c i : Nat} (h : cntC c i) : chC 18 c i ∧ chC 25 c i := by
  have := askC_cnt h
  unfold cntC lawC at h
  unfold chC
  refine ⟨⟨this.1, by omega, by omega⟩, ⟨this.2, by omega, by omega⟩⟩
theorem chM_cnt {c i : Nat} (h : cntM c i) : chM c i := by
  have := askM_cnt h
  unfold cntM at h
  unfold chM
  exact ⟨this, by omega, by omega⟩
theorem cheapest_ok {LL : xMem → xMem → Prop} (hLL : LLc LL) (hS : LSem LL) (a0 a1 : Int32) (C M : xMem) (h : RRL LL C M) : wX11_cheapest a0 a1 C (fun r C' => wX12_cheapest a0 a1 M (fun r' M' => r = r' ∧ RRL LL C' M')) := by
  obtain ⟨⟨S, e, hl, hk, il, to, il2, to2, kp, tn, t, hR⟩, hL⟩ := id h
  obtain ⟨V, W, oV, oW, sC, sC2, sM, sM2⟩ := hS C M hL
  obtain ⟨wE, rE, rE2⟩ := hR.2.1
  obtain ⟨wH, tL, rH, rH2⟩ := hR.2.2.1
  have x1 := hR.2.2.2.2.2.1
  have oko : okO 49 18 := by unfold okO; omega
  have h9 : ∀ x, x < 10 → hl 9 x ≤ 9 := fun x hx => (wH.2.2.2.2.2 x hx).2.2.2.1
  unfold wX11_cheapest
  rw [within_eq, zi1, zi1023]
  by_cases c0 : 1 ≤ a0.toInt ∧ a0.toInt ≤ 1023
  rotate_left
  · rw [b2i_f c0, if_pos rfl]
    unfold wX12_cheapest
    dsimp only
    rw [lies_eq, i64i, zj1, zj1023, b2i_f c0, if_pos rfl]
    exact ⟨rfl, h⟩
  rw [b2i_t c0, if_neg (by decide), within_eq, zi0, zi1]
  by_cases c1 : 0 ≤ a1.toInt ∧ a1.toInt ≤ 1
  rotate_left
  · rw [b2i_f c1, if_pos rfl]
    unfold wX12_cheapest
    dsimp only
    rw [lies_eq, i64i, zj1, zj1023, b2i_t c0, if_neg (by decide), lies_eq, i64i, zj0, zj1, b2i_f c1, if_pos rfl]
    exact ⟨rfl, h⟩
  rw [b2i_t c1, if_neg (by decide)]
  obtain ⟨w, hw, rfl⟩ := at_n (a := a0) (n := 1023) (by omega) (by decide)
  have hw1 := c0.1
  rw [nI_toInt (by omega)] at hw1
  refine chooseC oko oV sC rH wE rE h9 (w := w) (by omega) (by omega) _ (fun C' f1 f2 f3 f4 => ?_)
  have ref : ∀ post : Int32 → xMem → Prop, (∀ M' : xMem, (∀ c i, chM c i → gi M' c i = gi M c i) → post (if cB V e hl w = 0 then -2 else if a1 = 0 then nI (cP V e hl w) else nI (cB V e hl w)) M') → wX12_cheapest (nI w) a1 M post := by
    intro post hp
    unfold wX12_cheapest
    rw [lies_eq, i64i, zj1, zj1023, b2i_t c0, if_neg (by decide), lies_eq, i64i, zj0, zj1, b2i_t c1, if_neg (by decide)]
    refine layM oV sM x1 rH2 wE rE2 h9 (w := w) (by omega) _ (fun M' g1 g2 g3 g4 => ?_)
    have hp2 := hp M' g1
    by_cases z : cB V e hl w = 0
    · rw [if_pos z] at hp2
      rw [b2i_f (fun q => q z), if_pos rfl]
      exact hp2
    · rw [if_neg z] at hp2
      rw [b2i_t z, if_neg (by decide)]
      rw [g2, g3, show m69 (cB V e hl w) = nI (cB V e hl w) from if_neg z, show m70 (costF V e hl) (cB V e hl w) = nI (cP V e hl w) from if_neg z]
      by_cases z2 : a1 = 0
      · rw [if_pos z2] at hp2 ⊢; exact hp2
      · rw [if_neg z2] at hp2 ⊢; exact hp2
  have fin : ∀ M' : xMem, (∀ c i, chM c i → gi M' c i = gi M c i) → RRL LL C' M' := fun M' hM' => RRL_fr hLL h (fun c i hc => f1 c i (chC_cnt hc).1) (fun c i hc => hM' c i (chM_cnt hc))
  by_cases z : cB V e hl w = 0
  · rw [b2i_f (fun q => q z), if_pos rfl]
    refine ref _ (fun M' hM' => ?_)
    rw [if_pos z]
    exact ⟨rfl, fin M' hM'⟩
  · rw [b2i_t z, if_neg (by decide)]
    by_cases z2 : a1 = 0
    · rw [if_pos z2, f3 z]
      refine ref _ (fun M' hM' => ?_)
      rw [if_neg z, if_pos z2]
      exact ⟨rfl, fin M' hM'⟩
    · rw [if_neg z2, f2]
      refine ref _ (fun M' hM' => ?_)
      rw [if_neg z, if_neg z2]
      exact ⟨rfl, fin M' hM'⟩
