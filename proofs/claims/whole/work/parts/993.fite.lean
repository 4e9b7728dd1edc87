/-! fitting(), the class's way and the whole of it -/
theorem bt_si (C : xMem) (c i : Nat) (v : Int32) (u s : Nat) : btF (si C c i v) u s = btF C u s := rfl
theorem walkC {C0 : xMem} {a : Nat} {ts : List Nat} (hw : wfS ts) {o : Nat} (h1 : gi C0 o 1 = nI ts.length) (h2 : ∀ i, i < ts.length → gi C0 (o + 1) i = nI (ts.getD i 0)) (ho : o < 70) (post : xMem → Prop) : ∀ m t s L C, t + m = ts.length → SOL C0 a ts 0 C → s < 1024 → subS s (tT ts t) → L.length ≤ t → gi C 79 7 = nI L.length → (∀ i, i < L.length → gi C 85 i = nI (L.getD i 0)) → (∀ C', SOL C0 a ts 0 C' → gi C' 79 7 = nI (L ++ wkF a (ts.drop t) s t).length → (∀ i, i < (L ++ wkF a (ts.drop t) s t).length → gi C' 85 i = nI ((L ++ wkF a (ts.drop t) s t).getD i 0)) → post C') → wX3_solve_137 o post (m + 1) (nI s) (nI t) C := by
  have hl := hw.1
  intro m
  induction m with
  | zero =>
    intro t s L C ht hS hs hsub hL e7 e85 hp
    have : t = ts.length := by omega
    subst this
    rw [wX3_solve_137]; dsimp only
    rw [hS.1 _ _ (by omega) (by omega) (by omega), h1, if_pos (nI_le (Nat.le_refl _) (by omega))]
    have ed : ts.drop ts.length = [] := List.drop_eq_nil_of_le (Nat.le_refl _)
    refine hp C hS ?_ ?_
    · rw [ed]; show gi C 79 7 = nI (L ++ []).length; rw [List.append_nil]; exact e7
    · rw [ed]; show ∀ i, i < (L ++ []).length → gi C 85 i = nI ((L ++ []).getD i 0); rw [List.append_nil]; exact e85
  | succ m ih =>
    intro t s L C ht hS hs hsub hL e7 e85 hp
    have htl : t < ts.length := by omega
    have hc := hw.2 t htl
    have hsT := sub_tr hs (tT_lt ts t) hsub (tT_up ts (ts.length - t) t (by omega))
    have hb := (hS.2.2.2.2 s hs hsT t htl).2 (Nat.zero_le _) hsub
    rw [drop_c htl] at hp
    unfold wkF at hp
    rw [wX3_solve_137]; dsimp only
    unfold wX3_solve_192
    rw [hS.1 _ _ (by omega) (by omega) (by omega), h1, if_neg (nI_ge htl (by omega))]
    refine isOutC (by omega) hs _ ?_
    rw [hb]
    by_cases c : vL a (ts.drop (t + 1)) s + 1 ≤ vL a (ts.drop (t + 1)) (trn s (ts.getD t 0))
    · rw [if_pos c] at hp
      rw [decide_eq_true c, b2i_t rfl, if_neg n10, e7]
      refine ⟨vl (by omega) (by decide), ?_⟩
      intro M9 e9 M10 e10 v1 ev
      rw [nI_clamp (by omega)] at e9
      have k7 : gi M9 79 7 = nI L.length := by rw [e9, g_c (by decide)]; exact e7
      rw [k7, nI_1] at e10
      subst ev
      rw [nI_1]
      have sub1 : subS s (tT ts (t + 1)) := by rw [tT_s htl]; exact sub_tr hs (tT_lt ts t) hsub (stF_up (tT_lt ts t))
      have G : ∀ c i, c ≠ 85 → ¬ (c = 79 ∧ i = 7) → gi M10 c i = gi C c i := fun c i y1 y2 => by rw [e10, gi_si, if_neg y2, e9, g_c y1]
      have hS' : SOL C0 a ts 0 M10 := by
        obtain ⟨f, ⟨A, B, hAB, x1, x2, x3⟩, x4, x5, x6⟩ := hS
        refine ⟨fun c i y1 y2 y3 => by rw [G c i y3 (by omega)]; exact f c i y1 y2 y3, ⟨A, B, hAB, by rw [G _ _ (by decide) (by decide)]; exact x1, by rw [G _ _ (by decide) (by decide)]; exact x2, fun s h1 h2 => by rw [G _ _ (by omega) (by omega)]; exact x3 s h1 h2⟩, by rw [G _ _ (by decide) (by decide)]; exact x4, fun i hi => by rw [G _ _ (by decide) (by omega)]; exact x5 i hi, fun s h1 h2 u hu => ?_⟩
        have : btF M10 u s = btF C u s := by rw [e10, e9]; rfl
        rw [this]
        exact x6 s h1 h2 u hu
      refine ih (t + 1) s (L ++ [t]) M10 (by omega) hS' hs sub1 (by rw [List.length_append]; show L.length + 1 ≤ t + 1; omega) (by rw [e10, g_same, List.length_append]; rfl) (fun i hi => ?_) (fun C' q1 q2 q3 => hp C' q1 (by rw [List.append_assoc] at q2; exact q2) (by rw [List.append_assoc] at q3; exact q3))
      rw [List.length_append] at hi
      have hi' : i < L.length + 1 := hi
      rw [getD_app, e10, g_c (by decide), e9, gi_si]
      by_cases y : i < L.length
      · rw [if_neg (by omega), if_pos y]; exact e85 i y
      · rw [if_pos ⟨rfl, by omega⟩, if_neg y, if_pos (by omega)]
    · rw [if_neg c] at hp
      rw [decide_eq_false c, b2i_f (by decide), if_pos rfl]
      refine ⟨vl (by omega) (by decide), ?_⟩
      rw [nI_clamp (by omega), hS.1 _ _ (by omega) (by omega) (by omega), h2 t htl, behindTurn_eq, bt_n hc hs]
      intro v1 ev
      subst ev
      rw [nI_1]
      exact ih (t + 1) (trn s (ts.getD t 0)) L C (by omega) hS (trn_lt hc hs) (tT_trn hw htl hs hsub) (by omega) e7 e85 hp
theorem solvC {C0 : xMem} {a : Nat} (ha : a < 1024) {ts : List Nat} (hw : wfS ts) {o : Nat} (h1 : gi C0 o 1 = nI ts.length) (h2 : ∀ i, i < ts.length → gi C0 (o + 1) i = nI (ts.getD i 0)) (ho : o < 70) {A B : Nat} (hAB : (A = 81 ∧ B = 82) ∨ (A = 82 ∧ B = 81)) (eA : gi C0 79 2 = nI A) (eB : gi C0 79 3 = nI B) (post : xMem → Prop) (hp : ∀ C', SOL C0 a ts 0 C' → gi C' 79 7 = nI (wkF a ts 0 0).length → (∀ i, i < (wkF a ts 0 0).length → gi C' 85 i = nI ((wkF a ts 0 0).getD i 0)) → post C') : wX3_solve o (nI a) C0 post := by
  have hl := hw.1
  obtain ⟨⟨kA, kB⟩, ⟨lA, lB⟩, A1, B1⟩ := AB_k hAB
  have hTn := tT_lt ts ts.length
  have len := lsT_len (tT ts ts.length) 1024
  -- turn by turn
  have down : ∀ t C, t ≤ ts.length → SOL C0 a ts t C → wX3_solve_106 o post (t + 1) (nI t - 1) C := by
    intro t
    induction t with
    | zero =>
      intro C _ hS
      rw [wX3_solve_106]; dsimp only
      rw [if_pos (show nI 0 - 1 < 0 by decide)]
      intro M2 e2
      have hS2 : SOL C0 a ts 0 M2 := by
        obtain ⟨f, ⟨A, B, hAB, x1, x2, x3⟩, x4, x5, x6⟩ := hS
        refine ⟨fun c i y1 y2 y3 => by rw [e2, gi_si, if_neg (by omega)]; exact f c i y1 y2 y3, ⟨A, B, hAB, by rw [e2, g_i (by decide)]; exact x1, by rw [e2, g_i (by decide)]; exact x2, fun s h1 h2 => by rw [e2, g_c (by omega)]; exact x3 s h1 h2⟩, by rw [e2, g_i (by decide)]; exact x4, fun i hi => by rw [e2, g_c (by decide)]; exact x5 i hi, fun s h1 h2 u hu => ?_⟩
        have : btF M2 u s = btF C u s := by rw [e2]; rfl
        rw [this]
        exact x6 s h1 h2 u hu
      exact ⟨ts.length + 1, walkC hw h1 h2 ho post ts.length 0 0 [] M2 (by omega) hS2 (by decide) (sub_0 _) (Nat.le_refl _) (by rw [e2, g_same]; rfl) (fun i hi => absurd hi (Nat.not_lt_zero i)) (fun C' q1 q2 q3 => hp C' q1 q2 q3)⟩
    | succ t ih =>
      intro C ht hS
      rw [show nI (t + 1) - 1 = nI t from z_sub (b := 1) (Nat.le_add_left 1 t), wX3_solve_106]; dsimp only
      rw [if_neg (nI_pos (by omega))]
      refine ⟨vl (by omega) (by decide), ?_⟩
      rw [nI_clamp (by omega), hS.1 _ _ (by omega) (by omega) (by omega), h2 t (by omega)]
      refine backC hw (by omega) hS _ (fun C' hS' => ?_)
      intro v5 e5
      rw [← Int32.sub_eq_add_neg] at e5
      subst e5
      exact ih C' (by omega) hS'
  unfold wX3_solve
  refine everC hw h1 h2 _ ?_
  refine setsC hTn _ (fun C1 f1 g1 g2 => ?_)
  have x2 : gi C1 79 2 = nI A := by rw [f1 _ _ (by decide) (by decide)]; exact eA
  have x3 : gi C1 79 3 = nI B := by rw [f1 _ _ (by decide) (by decide)]; exact eB
  rw [x2, nI_clamp (by omega)]
  refine ⟨kA, ?_⟩
  refine fillG lA (Nat.le_refl _) _ _ (fun C2 f2 => ?_)
  rw [f2 _ _ (by omega), x3, nI_clamp (by omega)]
  refine ⟨kB, ?_⟩
  refine fillG lB (Nat.le_refl _) _ _ (fun C3 f3 => ?_)
  have F : ∀ c i, ¬ (c = 79 ∧ i = 1) → ¬ (80 ≤ c ∧ c ≤ 82) → gi C3 c i = gi C0 c i := fun c i y1 y2 => by rw [f3 c i (by omega), f2 c i (by omega), f1 c i y1 (by omega)]
  have G1 : gi C3 79 1 = nI (lsT (tT ts ts.length) 1024).length := by rw [f3 _ _ (by omega), f2 _ _ (by omega)]; exact g1
  have G2 : ∀ i, i < (lsT (tT ts ts.length) 1024).length → gi C3 80 i = nI ((lsT (tT ts ts.length) 1024).getD i 0) := fun i hi => by rw [f3 _ _ (by omega), f2 _ _ (by omega)]; exact g2 i hi
  have key : ∀ m i M, i + m = (lsT (tT ts ts.length) 1024).length → (∀ c j, c ≠ A → gi M c j = gi C3 c j) → (∀ j, j < i → gi M A ((lsT (tT ts ts.length) 1024).getD j 0) = nI (vL a [] ((lsT (tT ts ts.length) 1024).getD j 0)) ∧ gl M 83 ((lsT (tT ts ts.length) 1024).getD j 0) = 0 ∧ gl M 84 ((lsT (tT ts ts.length) 1024).getD j 0) = 0) → wX3_solve_30 o post (m + 1) (nI a) (nI i) M := by
    intro m
    induction m with
    | zero =>
      intro i M hi w1 w2
      rw [wX3_solve_30]; dsimp only
      rw [w1 79 1 (by omega), G1, if_pos (nI_le (by omega) (by omega)), w1 o 1 (by omega), F _ _ (by omega) (by omega), h1]
      intro v2 e2
      subst e2
      refine ⟨ts.length + 1, down ts.length M (Nat.le_refl _) ⟨fun c j y1 y2 y3 => by rw [w1 c j (by omega)]; exact F c j (by omega) y2, ⟨A, B, hAB, by rw [w1 _ _ (by omega), F _ _ (by decide) (by decide)]; exact eA, by rw [w1 _ _ (by omega), F _ _ (by decide) (by decide)]; exact eB, fun s hs hsub => ?_⟩, by rw [w1 _ _ (by omega)]; exact G1, fun j hj => by rw [w1 _ _ (by omega)]; exact G2 j hj, fun s hs hsub u hu => ⟨fun _ => ?_, fun y => absurd y (by omega)⟩⟩⟩
      · obtain ⟨j, hj, e⟩ := ls_ix hs hsub
        have := (w2 j (by omega)).1
        rw [e] at this
        rw [List.drop_eq_nil_of_le (Nat.le_refl _)]
        exact this
      · obtain ⟨j, hj, e⟩ := ls_ix hs hsub
        have := (w2 j (by omega)).2
        rw [e] at this
        unfold btF
        rw [this.1, this.2]
        split
        · exact btL_0 _
        · exact btL_0 _
    | succ m ih =>
      intro i M hi w1 w2
      have hil : i < (lsT (tT ts ts.length) 1024).length := by omega
      obtain ⟨s1, s2⟩ := ls_at hil
      have hv3 : gi M 80 i = nI ((lsT (tT ts ts.length) 1024).getD i 0) := by rw [w1 80 i (by omega), G2 i hil]
      have vi := vl (n := i) (N := 1024) (by omega) (by decide)
      have vs := vl (n := (lsT (tT ts ts.length) 1024).getD i 0) (N := 1024) s1 (by decide)
      have em : gi M 79 2 = nI A := by rw [w1 _ _ (by omega), F _ _ (by decide) (by decide)]; exact eA
      rw [wX3_solve_30]; dsimp only
      rw [w1 79 1 (by omega), G1, if_neg (nI_ge hil (by omega)), em, nI_clamp (by omega), nI_clamp (by omega), hv3, andnot_n s1 ha]
      refine ⟨kA, vi, vi, ?_⟩
      have go : ∀ s0 : Nat, s0 = vL a [] ((lsT (tT ts ts.length) 1024).getD i 0) → wX3_solve_68 o (wX3_solve_30 o post (m + 1)) post (nI a) (nI i) (nI s0) (nI ((lsT (tT ts ts.length) 1024).getD i 0)) A M := by
        intro s0 e0
        unfold wX3_solve_68
        rw [lA]
        refine ⟨vs, ?_⟩
        intro M2 e2
        rw [nI_clamp (by omega)] at e2
        have k2 : gi M2 80 (nI i).toNatClampNeg = nI ((lsT (tT ts ts.length) 1024).getD i 0) := by rw [nI_clamp (by omega), e2, g_c (by omega)]; exact hv3
        rw [k2]
        refine ⟨vi, vs, ?_⟩
        intro M5 e5
        rw [nI_clamp (by omega)] at e5
        have k5 : gi M5 80 (nI i).toNatClampNeg = nI ((lsT (tT ts ts.length) 1024).getD i 0) := by rw [e5, gi_sl]; exact k2
        rw [k5]
        refine ⟨vi, vs, ?_⟩
        intro M8 e8 v9 e9
        rw [nI_clamp (by omega)] at e8
        subst e9
        rw [nI_1]
        refine ih (i + 1) M8 (by omega) (fun c j y => by rw [e8, gi_sl, e5, gi_sl, e2, g_c y]; exact w1 c j y) (fun j hj => ?_)
        have L83 : gl M8 83 ((lsT (tT ts ts.length) 1024).getD j 0) = if (lsT (tT ts ts.length) 1024).getD j 0 = (lsT (tT ts ts.length) 1024).getD i 0 then 0 else gl M 83 ((lsT (tT ts ts.length) 1024).getD j 0) := by
          rw [e8, gl_sl, if_neg (by omega), e5, gl_sl, e2]
          by_cases y : (lsT (tT ts ts.length) 1024).getD j 0 = (lsT (tT ts ts.length) 1024).getD i 0
          · rw [if_pos ⟨rfl, y⟩, if_pos y]
          · rw [if_neg (fun z => y z.2), if_neg y]; rfl
        have L84 : gl M8 84 ((lsT (tT ts ts.length) 1024).getD j 0) = if (lsT (tT ts ts.length) 1024).getD j 0 = (lsT (tT ts ts.length) 1024).getD i 0 then 0 else gl M 84 ((lsT (tT ts ts.length) 1024).getD j 0) := by
          rw [e8, gl_sl]
          by_cases y : (lsT (tT ts ts.length) 1024).getD j 0 = (lsT (tT ts ts.length) 1024).getD i 0
          · rw [if_pos ⟨rfl, y⟩, if_pos y]
          · rw [if_neg (fun z => y z.2), if_neg y, e5, gl_sl, if_neg (by omega), e2]; rfl
        have LA : gi M8 A ((lsT (tT ts ts.length) 1024).getD j 0) = if (lsT (tT ts ts.length) 1024).getD j 0 = (lsT (tT ts ts.length) 1024).getD i 0 then nI s0 else gi M A ((lsT (tT ts ts.length) 1024).getD j 0) := by
          rw [e8, gi_sl, e5, gi_sl, e2, gi_si]
          by_cases y : (lsT (tT ts ts.length) 1024).getD j 0 = (lsT (tT ts ts.length) 1024).getD i 0
          · rw [if_pos ⟨rfl, y⟩, if_pos y]
          · rw [if_neg (fun z => y z.2), if_neg y]
        rw [L83, L84, LA]
        by_cases y : (lsT (tT ts ts.length) 1024).getD j 0 = (lsT (tT ts ts.length) 1024).getD i 0
        · rw [if_pos y, if_pos y, if_pos y, y]
          exact ⟨by rw [e0], rfl, rfl⟩
        · rw [if_neg y, if_neg y, if_neg y]
          refine w2 j ?_
          rcases Nat.lt_or_ge j i with x | x
          · exact x
          · exact absurd (by rw [show j = i by omega]) y
      by_cases q : subS ((lsT (tT ts ts.length) 1024).getD i 0) a
      · rw [if_pos (show nI ((lsT (tT ts ts.length) 1024).getD i 0 &&& (1023 ^^^ a)) = 0 by rw [q]; rfl)]
        exact go 0 (by unfold vL; rw [if_pos q])
      · have hne : ¬ nI ((lsT (tT ts ts.length) 1024).getD i 0 &&& (1023 ^^^ a)) = 0 := fun y => q ((nI_eq (b := 0) (Nat.lt_of_le_of_lt Nat.and_le_left (by omega)) (by decide)).mp y)
        rw [if_neg hne]
        exact go 1000 (by unfold vL; rw [if_neg q])
  exact ⟨(lsT (tT ts ts.length) 1024).length + 1, key (lsT (tT ts ts.length) 1024).length 0 C3 (by omega) (fun _ _ _ => rfl) (fun j hj => absurd hj (Nat.not_lt_zero j))⟩
