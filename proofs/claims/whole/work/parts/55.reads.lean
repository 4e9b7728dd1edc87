theorem isListening_out {a : Int32} (h : ¬ (0 ≤ a.toInt ∧ a.toInt ≤ 9)) (M : xMem) (post : Int32 → xMem → Prop) : wX12_isListening a M post = post 0 M := by
  have e1 : (0 : Int64).toInt = 0 := by decide
  have e2 : (9 : Int64).toInt = 9 := by decide
  unfold wX12_isListening
  rw [lies_eq, i64i, e1, e2, b2i_f h, if_pos rfl]
theorem isListening_in {k : Nat} {p : Prop} [Decidable p] (hk : k < 10) {M : xMem} (hs : gi M 35 k = b2i p) (post : Int32 → xMem → Prop) (hp : post (b2i p) M) : wX12_isListening (nI k) M post := by
  have e1 : (0 : Int64).toInt = 0 := by decide
  have e2 : (9 : Int64).toInt = 9 := by decide
  have hi : 0 ≤ (nI k).toInt ∧ (nI k).toInt ≤ 9 := by rw [nI_toInt (by omega)]; omega
  unfold wX12_isListening
  rw [lies_eq, i64i, e1, e2, b2i_t hi, if_neg (by decide)]
  refine ⟨vp_in_nI hk (by decide), ?_⟩
  rw [nI_clamp (by omega), hs]
  by_cases h : p
  · rw [b2i_t h] at hp ⊢
    rw [if_neg (by decide)]
    exact hp
  · rw [b2i_f h] at hp ⊢
    rw [if_pos rfl]
    exact hp
theorem isTelling_out {a : Int32} (h : ¬ (0 ≤ a.toInt ∧ a.toInt ≤ 3)) (M : xMem) (post : Int32 → xMem → Prop) : wX12_isTelling a M post = post 0 M := by
  have e1 : (0 : Int64).toInt = 0 := by decide
  have e2 : (3 : Int64).toInt = 3 := by decide
  unfold wX12_isTelling
  rw [lies_eq, i64i, e1, e2, b2i_f h, if_pos rfl]
theorem isTelling_in {k : Nat} {p : Prop} [Decidable p] (hk : k < 4) {M : xMem} (hs : gi M 30 k = b2i p) (post : Int32 → xMem → Prop) (hp : post (b2i p) M) : wX12_isTelling (nI k) M post := by
  have e1 : (0 : Int64).toInt = 0 := by decide
  have e2 : (3 : Int64).toInt = 3 := by decide
  have hi : 0 ≤ (nI k).toInt ∧ (nI k).toInt ≤ 3 := by rw [nI_toInt (by omega)]; omega
  unfold wX12_isTelling
  rw [lies_eq, i64i, e1, e2, b2i_t hi, if_neg (by decide)]
  refine ⟨vp_in_nI hk (by decide), ?_⟩
  rw [nI_clamp (by omega), hs]
  by_cases h : p
  · rw [b2i_t h] at hp ⊢
    rw [if_neg (by decide)]
    exact hp
  · rw [b2i_f h] at hp ⊢
    rw [if_pos rfl]
    exact hp
theorem isThere_out {a : Int32} (h : ¬ (0 ≤ a.toInt ∧ a.toInt ≤ 9)) (M : xMem) (post : Int32 → xMem → Prop) : wX12_isThere a M post = post 0 M := by
  have e1 : (0 : Int64).toInt = 0 := by decide
  have e2 : (9 : Int64).toInt = 9 := by decide
  unfold wX12_isThere
  rw [lies_eq, i64i, e1, e2, b2i_f h, if_pos rfl]
theorem isThere_in {k : Nat} {p : Prop} [Decidable p] (hk : k < 10) {M : xMem} (hs : gi M 25 k = b2i p) (post : Int32 → xMem → Prop) (hp : post (b2i p) M) : wX12_isThere (nI k) M post := by
  have e1 : (0 : Int64).toInt = 0 := by decide
  have e2 : (9 : Int64).toInt = 9 := by decide
  have hi : 0 ≤ (nI k).toInt ∧ (nI k).toInt ≤ 9 := by rw [nI_toInt (by omega)]; omega
  unfold wX12_isThere
  rw [lies_eq, i64i, e1, e2, b2i_t hi, if_neg (by decide)]
  refine ⟨vp_in_nI hk (by decide), ?_⟩
  rw [nI_clamp (by omega), hs]
  by_cases h : p
  · rw [b2i_t h] at hp ⊢
    rw [if_neg (by decide)]
    exact hp
  · rw [b2i_f h] at hp ⊢
    rw [if_pos rfl]
    exact hp
theorem ne012 {a : Int32} (h0 : ¬ a = 0) (h1 : ¬ a = 1) (h2 : ¬ a = 2) : ¬ (0 ≤ a.toInt ∧ a.toInt ≤ 2) := fun q => by
  have e0 := x_i32ne h0
  have e1 := x_i32ne h1
  have e2 := x_i32ne h2
  have z0 : (0 : Int32).toInt = 0 := by decide
  have z1 : (1 : Int32).toInt = 1 := by decide
  have z2 : (2 : Int32).toInt = 2 := by decide
  omega
theorem bnd_m {v : Nat} (hv : v ≤ 4) : (if bnd v (-1) = (-1) then (-2 : Int32) else bnd v (-1)) = bnd v (-2) := by
  have key : ∀ v : Fin 5, (if bnd v.1 (-1) = (-1) then (-2 : Int32) else bnd v.1 (-1)) = bnd v.1 (-2) := by decide +kernel
  exact key ⟨v, by omega⟩
theorem listenerIs_ok {LL : xMem → xMem → Prop} (a0 a1 : Int32) (C M : xMem) (h : RRL LL C M) : wX11_listenerIs a0 a1 C (fun r C' => wX12_listenerIs a0 a1 M (fun r' M' => r = r' ∧ RRL LL C' M')) := by
  obtain ⟨⟨S, e, hl, hk, il, to, il2, to2, kp, tn, t, hR⟩, hLL⟩ := id h
  have z1 : (0 : Int32).toInt = 0 := by decide
  have z2 : (0 : Int64).toInt = 0 := by decide
  have z3 : (9 : Int32).toInt = 9 := by decide
  have z4 : (2 : Int64).toInt = 2 := by decide
  obtain ⟨wH, -, rH, rM⟩ := hR.2.2.1
  unfold wX11_listenerIs
  rw [within_eq, z1, z3]
  by_cases h0 : 0 ≤ a0.toInt ∧ a0.toInt ≤ 9
  · obtain ⟨l, hl9, rfl⟩ := at_n (n := 9) h0 (by decide)
    have hb := wH.2.1
    have wl := wH.2.2.2.2.2 l (by omega)
    have rl := rH.2.2.2.2.2.2.2 l (by omega)
    have ml := rM.2.1 l (by omega)
    rw [b2i_t h0, if_neg (by decide), rH.2.1, hasC_n (by omega) (by omega)]
    by_cases tb : (hl 5 0).testBit l = true
    · rw [b2i_t tb, if_neg (by decide)]
      have key : ∀ post : Int32 → xMem → Prop, (∃ r, (if a1 = 0 then r = bnd (hl 6 l) (-2) else if a1 = 1 then r = nI (hl 7 l) else if a1 = 2 then r = nI (hl 8 l) else r = -1) ∧ post r M) → wX12_listenerIs (nI l) a1 M post := by
        intro post ⟨r, hr, hp⟩
        unfold wX12_listenerIs
        refine isListening_in (by omega) ml.1 _ ?_
        rw [b2i_t tb, if_neg (by decide), lies_eq, i64i, z2, z4]
        by_cases q0 : a1 = 0
        · rw [if_pos q0] at hr
          subst q0
          rw [b2i_t (by decide), if_neg (by decide), if_pos rfl]
          refine ⟨vp_in_nI (by omega) (by decide), ?_⟩
          rw [nI_clamp (by omega), ml.2.1]
          have e := bnd_m wl.1
          by_cases q : bnd (hl 6 l) (-1) = (-1)
          · rw [if_pos q] at e ⊢
            rw [e, ← hr]; exact hp
          · rw [if_neg q] at e ⊢
            exact ⟨vp_in_nI (by omega) (by decide), by rw [e, ← hr]; exact hp⟩
        · rw [if_neg q0] at hr
          by_cases q1 : a1 = 1
          · rw [if_pos q1] at hr
            subst q1
            rw [b2i_t (by decide), if_neg (by decide), if_neg (by decide), if_pos rfl]
            exact ⟨vp_in_nI (by omega) (by decide), by rw [nI_clamp (by omega), ml.2.2.1, ← hr]; exact hp⟩
          · rw [if_neg q1] at hr
            by_cases q2 : a1 = 2
            · rw [if_pos q2] at hr
              subst q2
              rw [b2i_t (by decide), if_neg (by decide), if_neg (by decide), if_neg (by decide)]
              exact ⟨vp_in_nI (by omega) (by decide), by rw [nI_clamp (by omega), ml.2.2.2.1, ← hr]; exact hp⟩
            · rw [if_neg q2] at hr
              rw [b2i_f (ne012 q0 q1 q2), if_pos rfl, ← hr]; exact hp
      by_cases q0 : a1 = 0
      · rw [if_pos q0]
        refine ⟨vp_in_nI (by omega) (by decide), key _ ⟨_, by rw [if_pos q0], ?_, h⟩⟩
        rw [nI_clamp (by omega)]; exact rl.1
      · rw [if_neg q0]
        by_cases q1 : a1 = 1
        · rw [if_pos q1]
          refine ⟨vp_in_nI (by omega) (by decide), key _ ⟨_, by rw [if_neg q0, if_pos q1], ?_, h⟩⟩
          rw [nI_clamp (by omega)]; exact rl.2.1
        · rw [if_neg q1]
          by_cases q2 : a1 = 2
          · rw [if_pos q2]
            refine ⟨vp_in_nI (by omega) (by decide), key _ ⟨_, by rw [if_neg q0, if_neg q1, if_pos q2], ?_, h⟩⟩
            rw [nI_clamp (by omega)]; exact rl.2.2.1
          · rw [if_neg q2]
            exact key _ ⟨_, by rw [if_neg q0, if_neg q1, if_neg q2], rfl, h⟩
    · rw [b2i_f tb, if_pos rfl]
      unfold wX12_listenerIs
      refine isListening_in (by omega) ml.1 _ ?_
      rw [b2i_f tb, if_pos rfl]
      exact ⟨rfl, h⟩
  · rw [b2i_f h0, if_pos rfl]
    unfold wX12_listenerIs
    dsimp only
    rw [isListening_out h0, if_pos rfl]
    exact ⟨rfl, h⟩
