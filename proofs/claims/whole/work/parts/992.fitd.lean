/-! fitting(), the class solves it -/
theorem c81 : (nI 81).toNatClampNeg = 81 := by decide
theorem c82 : (nI 82).toNatClampNeg = 82 := by decide
theorem AB_k {A B : Nat} (h : (A = 81 ∧ B = 82) ∨ (A = 82 ∧ B = 81)) : (kC A = 20 ∧ kC B = 20) ∧ (lC A = 1024 ∧ lC B = 1024) ∧ A < 1000 ∧ B < 1000 := by
  rcases h with ⟨rfl, rfl⟩ | ⟨rfl, rfl⟩ <;> decide
def frS (C0 C : xMem) : Prop := ∀ c i, ¬ (c = 79 ∧ (i = 1 ∨ i = 2 ∨ i = 3 ∨ i = 7)) → ¬ (80 ≤ c ∧ c ≤ 82) → c ≠ 85 → gi C c i = gi C0 c i
/-- solved from turn t on -/
def SOL (C0 : xMem) (a : Nat) (ts : List Nat) (t : Nat) (C : xMem) : Prop := frS C0 C ∧ (∃ A B, ((A = 81 ∧ B = 82) ∨ (A = 82 ∧ B = 81)) ∧ gi C 79 2 = nI A ∧ gi C 79 3 = nI B ∧ ∀ s, s < 1024 → subS s (tT ts t) → gi C A s = nI (vL a (ts.drop t) s)) ∧ gi C 79 1 = nI (lsT (tT ts ts.length) 1024).length ∧ (∀ i, i < (lsT (tT ts ts.length) 1024).length → gi C 80 i = nI ((lsT (tT ts ts.length) 1024).getD i 0)) ∧ ∀ s, s < 1024 → subS s (tT ts ts.length) → ∀ u, u < ts.length → (u < t → btF C u s = false) ∧ (t ≤ u → subS s (tT ts u) → btF C u s = decide (vL a (ts.drop (u + 1)) s + 1 ≤ vL a (ts.drop (u + 1)) (trn s (ts.getD u 0))))
theorem ls_at {T i : Nat} (h : i < (lsT T 1024).length) : (lsT T 1024).getD i 0 < 1024 ∧ subS ((lsT T 1024).getD i 0) T := by
  refine lsT_mem.mp ?_
  rw [List.getD_eq_getElem?_getD, List.getElem?_eq_getElem h]
  exact List.getElem_mem h
theorem ls_ix {T s : Nat} (h1 : s < 1024) (h2 : subS s T) : ∃ i, i < (lsT T 1024).length ∧ (lsT T 1024).getD i 0 = s := by
  obtain ⟨i, hi, e⟩ := List.mem_iff_getElem.mp (lsT_mem.mpr ⟨h1, h2⟩)
  refine ⟨i, hi, ?_⟩
  rw [List.getD_eq_getElem?_getD, List.getElem?_eq_getElem hi]
  exact e
theorem backC {C0 : xMem} {a : Nat} {ts : List Nat} (hw : wfS ts) {t : Nat} (ht : t < ts.length) {C : xMem} (h : SOL C0 a ts (t + 1) C) (post : xMem → Prop) (hp : ∀ C', SOL C0 a ts t C' → post C') : wX3_goBack (nI (ts.getD t 0)) (nI t) C post := by
  obtain ⟨f, ⟨A, B, hAB, eA, eB, hv⟩, g1, g2, hb⟩ := h
  obtain ⟨⟨kA, kB⟩, ⟨lA, lB⟩, A1, B1⟩ := AB_k hAB
  have hl := hw.1
  have hc := hw.2 t ht
  have hTn := tT_lt ts ts.length
  have len := lsT_len (tT ts ts.length) 1024
  unfold wX3_goBack
  rw [eA, eB, nI_clamp (by omega), nI_clamp (by omega)]
  refine ⟨kA, kB, ?_⟩
  intro M3 e3 M4 e4
  have q1 : ∀ c i, ¬ (c = 79 ∧ (i = 2 ∨ i = 3)) → gi M4 c i = gi C c i := fun c i y => by rw [e4, gi_si, if_neg (by omega), e3, gi_si, if_neg (by omega)]
  have q2 : gi M4 79 2 = nI B := by rw [e4, g_i (by decide), e3, g_same]
  have q3 : gi M4 79 3 = nI A := by rw [e4, g_same]
  have qb : ∀ u s, btF M4 u s = btF C u s := fun u s => by rw [e4, e3]; rfl
  have hAn : A ≠ 79 ∧ A ≠ 80 ∧ B ≠ 79 ∧ B ≠ 80 ∧ A ≠ B ∧ 80 ≤ A ∧ A ≤ 82 ∧ 80 ≤ B ∧ B ≤ 82 := by omega
  have key : ∀ m i M, i + m = (lsT (tT ts ts.length) 1024).length → (∀ c j, c ≠ B → gi M c j = gi M4 c j) → (∀ j, j < i → subS ((lsT (tT ts ts.length) 1024).getD j 0) (tT ts t) → gi M B ((lsT (tT ts ts.length) 1024).getD j 0) = nI (vL a (ts.drop t) ((lsT (tT ts ts.length) 1024).getD j 0))) → (∀ u s, u < 72 → u ≠ t → btF M u s = btF M4 u s) → (∀ s, s < 1024 → subS s (tT ts t) → (btF M t s = true → vL a (ts.drop (t + 1)) s + 1 ≤ vL a (ts.drop (t + 1)) (trn s (ts.getD t 0)))) → (∀ j, j < i → subS ((lsT (tT ts ts.length) 1024).getD j 0) (tT ts t) → vL a (ts.drop (t + 1)) ((lsT (tT ts ts.length) 1024).getD j 0) + 1 ≤ vL a (ts.drop (t + 1)) (trn ((lsT (tT ts ts.length) 1024).getD j 0) (ts.getD t 0)) → btF M t ((lsT (tT ts ts.length) 1024).getD j 0) = true) → wX3_goBack_21 post (m + 1) (nI (ts.getD t 0)) (nI t) A (nI i) M := by
    intro m
    induction m with
    | zero =>
      intro i M hi w1 w2 w3 w4 w5
      rw [wX3_goBack_21]; dsimp only
      rw [w1 79 1 (by omega), q1 _ _ (by omega), g1, if_pos (nI_le (by omega) (by omega))]
      refine hp M ⟨fun c j y1 y2 y3 => by rw [w1 c j (by omega), q1 c j (by omega)]; exact f c j y1 y2 y3, ⟨B, A, by omega, by rw [w1 79 2 (by omega)]; exact q2, by rw [w1 79 3 (by omega)]; exact q3, fun s hs hsub => ?_⟩, by rw [w1 79 1 (by omega), q1 _ _ (by omega)]; exact g1, fun j hj => by rw [w1 80 j (by omega), q1 _ _ (by omega)]; exact g2 j hj, fun s hs hsub u hu => ⟨fun hut => ?_, fun hut hsu => ?_⟩⟩
      · have hsT := sub_tr hs (tT_lt ts t) hsub (tT_up ts (ts.length - t) t (by omega))
        obtain ⟨j, hj, e⟩ := ls_ix hs hsT
        have := w2 j (by omega)
        rw [e] at this
        exact this hsub
      · rw [w3 u s (by omega) (by omega), qb]
        exact (hb s hs hsub u hu).1 (by omega)
      · by_cases y : u = t
        · subst y
          obtain ⟨j, hj, e⟩ := ls_ix hs hsub
          have w5' := w5 j (by omega)
          rw [e] at w5'
          have w4' := w4 s hs hsu
          by_cases z : vL a (ts.drop (u + 1)) s + 1 ≤ vL a (ts.drop (u + 1)) (trn s (ts.getD u 0))
          · rw [w5' hsu z, decide_eq_true z]
          · rw [decide_eq_false z]
            cases hh : btF M u s
            · rfl
            · exact absurd (w4' hh) z
        · rw [w3 u s (by omega) y, qb]
          exact (hb s hs hsub u hu).2 (by omega) hsu
    | succ m ih =>
      intro i M hi w1 w2 w3 w4 w5
      have hil : i < (lsT (tT ts ts.length) 1024).length := by omega
      obtain ⟨s1, s2⟩ := ls_at hil
      generalize hs0 : (lsT (tT ts ts.length) 1024).getD i 0 = s0 at s1 s2
      have hv3 : gi M 80 i = nI s0 := by rw [w1 80 i (by omega), q1 _ _ (by omega), g2 i hil, hs0]
      have htr := trn_lt hc s1
      rw [wX3_goBack_21]; dsimp only
      rw [w1 79 1 (by omega), q1 _ _ (by omega), g1, if_neg (nI_ge hil (by omega))]
      refine ⟨vl (by omega) (by decide), ?_⟩
      intro v3 ev3
      rw [nI_clamp (by omega), hv3] at ev3
      subst ev3
      rw [behindTurn_eq, bt_n hc s1, lA]
      refine ⟨vl htr (by decide), ?_⟩
      intro v7 ev7
      refine ⟨vl s1 (by decide), ?_⟩
      intro v9 ev9
      rw [w1 79 2 (by omega), q2, nI_clamp (by omega)]
      refine ⟨kB, ?_⟩
      rw [min_eq, lB]
      refine ⟨vl s1 (by decide), ?_⟩
      intro M14 e14
      rw [nI_clamp (by omega)] at e14 ev7 ev9
      have w1' : ∀ c j, c ≠ B → gi M14 c j = gi M4 c j := fun c j y => by rw [e14, g_c y]; exact w1 c j y
      -- what stands there, where it counts
      have val : subS s0 (tT ts t) → v7 = nI (vL a (ts.drop (t + 1)) (trn s0 (ts.getD t 0))) ∧ v9 = nI (vL a (ts.drop (t + 1)) s0 + 1) := by
        intro hsub
        have h1 := tT_trn hw ht s1 hsub
        have h2 : subS s0 (tT ts (t + 1)) := by rw [tT_s ht]; exact sub_tr s1 (tT_lt ts t) hsub (stF_up (tT_lt ts t))
        refine ⟨?_, ?_⟩
        · rw [ev7, w1 A _ (by omega), q1 _ _ (by omega)]; exact hv _ htr h1
        · rw [ev9, w1 A _ (by omega), q1 _ _ (by omega), hv _ s1 h2, nI_1]
      have hrg := fun s => vL_rg a (ts.drop (t + 1)) s
      have hdl : (ts.drop (t + 1)).length ≤ 72 := by rw [List.length_drop]; omega
      have w2' : ∀ j, j < i + 1 → subS ((lsT (tT ts ts.length) 1024).getD j 0) (tT ts t) → gi M14 B ((lsT (tT ts ts.length) 1024).getD j 0) = nI (vL a (ts.drop t) ((lsT (tT ts ts.length) 1024).getD j 0)) := by
        intro j hj hsub
        by_cases y : (lsT (tT ts ts.length) 1024).getD j 0 = s0
        · rw [y] at hsub ⊢
          obtain ⟨z1, z2⟩ := val hsub
          rw [e14, g_same, z1, z2, drop_c ht]
          have r1 := hrg (trn s0 (ts.getD t 0))
          have r2 := hrg s0
          show (if nI (vL a (ts.drop (t + 1)) s0 + 1) < nI (vL a (ts.drop (t + 1)) (trn s0 (ts.getD t 0))) then _ else _) = nI (min (vL a (ts.drop (t + 1)) (trn s0 (ts.getD t 0))) (vL a (ts.drop (t + 1)) s0 + 1))
          by_cases z : vL a (ts.drop (t + 1)) s0 + 1 < vL a (ts.drop (t + 1)) (trn s0 (ts.getD t 0))
          · rw [if_pos (nI_lt z (by omega)), Nat.min_eq_right (by omega)]
          · rw [if_neg (nI_nlt (by omega) (by omega)), Nat.min_eq_left (by omega)]
        · rw [e14, g_i y]
          refine w2 j ?_ hsub
          rcases Nat.lt_or_ge j i with x | x
          · exact x
          · exact absurd (show (lsT (tT ts ts.length) 1024).getD j 0 = s0 by rw [show j = i by omega]; exact hs0) y
      have bM : ∀ u s, btF M14 u s = btF M u s := fun u s => by rw [e14]; rfl
      unfold wX3_goBack_85
      by_cases c9 : v7 < v9
      · rw [if_pos c9]
        intro v1 e1
        subst e1
        rw [nI_1]
        refine ih (i + 1) M14 (by omega) w1' w2' (fun u s h1 h2 => by rw [bM]; exact w3 u s h1 h2) (fun s h1 h2 h3 => w4 s h1 h2 (by rw [← bM]; exact h3)) (fun j hj hsub hcond => ?_)
        rw [bM]
        by_cases y : (lsT (tT ts ts.length) 1024).getD j 0 = s0
        · exfalso
          rw [y] at hsub hcond
          obtain ⟨z1, z2⟩ := val hsub
          have r1 := hrg (trn s0 (ts.getD t 0))
          have r2 := hrg s0
          rw [z1, z2] at c9
          exact nI_nlt hcond (by omega) c9
        · refine w5 j ?_ hsub hcond
          rcases Nat.lt_or_ge j i with x | x
          · exact x
          · exact absurd (show (lsT (tT ts ts.length) 1024).getD j 0 = s0 by rw [show j = i by omega]; exact hs0) y
      · rw [if_neg c9]
        refine markC (by omega) s1 _ (fun M16 n1 n2 => ?_)
        intro v1 e1
        subst e1
        rw [nI_1]
        refine ih (i + 1) M16 (by omega) (fun c j y => by rw [n1]; exact w1' c j y) (fun j hj hsub => by rw [n1]; exact w2' j hj hsub) (fun u s h1 h2 => by rw [n2 u s h1, bM, w3 u s h1 h2]; have : ¬ (u = t ∧ s = s0) := fun y => h2 y.1; simp [this]) (fun s h1 h2 h3 => ?_) (fun j hj hsub hcond => ?_)
        · rw [n2 t s (by omega), bM] at h3
          by_cases y : s = s0
          · subst y
            obtain ⟨z1, z2⟩ := val h2
            have r1 := hrg (trn s (ts.getD t 0))
            have r2 := hrg s
            rw [z1, z2] at c9
            rcases Nat.lt_or_ge (vL a (ts.drop (t + 1)) (trn s (ts.getD t 0))) (vL a (ts.drop (t + 1)) s + 1) with x | x
            · exact absurd (nI_lt x (by omega)) c9
            · exact x
          · simp [y] at h3
            exact w4 s h1 h2 h3
        · rw [n2 t _ (by omega), bM]
          by_cases y : (lsT (tT ts ts.length) 1024).getD j 0 = s0
          · rw [y]; simp
          · have : btF M t ((lsT (tT ts ts.length) 1024).getD j 0) = true := by
              refine w5 j ?_ hsub hcond
              rcases Nat.lt_or_ge j i with x | x
              · exact x
              · exact absurd (show (lsT (tT ts ts.length) 1024).getD j 0 = s0 by rw [show j = i by omega]; exact hs0) y
            rw [this]; rfl
  refine ⟨(lsT (tT ts ts.length) 1024).length + 1, key (lsT (tT ts ts.length) 1024).length 0 M4 (by omega) (fun _ _ _ => rfl) (fun j hj => absurd hj (Nat.not_lt_zero j)) (fun _ _ _ _ => rfl) (fun s h1 h2 h3 => ?_) (fun j hj => absurd hj (Nat.not_lt_zero j))⟩
  have hsT := sub_tr h1 (tT_lt ts t) h2 (tT_up ts (ts.length - t) t (by omega))
  rw [qb, (hb s h1 hsT t ht).1 (by omega)] at h3
  cases h3
