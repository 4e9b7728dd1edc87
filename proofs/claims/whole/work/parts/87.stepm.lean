theorem andand {s c : Nat} (hs : s < 1024) : s &&& (1023 ^^^ (s &&& c)) = s &&& (1023 ^^^ c) := by
  apply Nat.eq_of_testBit_eq
  intro i
  rw [Nat.testBit_and, Nat.testBit_and, Nat.testBit_xor, Nat.testBit_xor, Nat.testBit_and]
  cases s.testBit i <;> simp
theorem wfE_b {e : xT2} (wE : wfE e) {x : Nat} (hx : x < 10) : e 1 x < 1024 := (wE.2 x hx).1
set_option maxRecDepth 20000 in
theorem buyM {S : Nat → List Nat} {e : xT2} {V : xV} {r : Nat} {M0 : xMem} (X : CxM S e V r M0) {st : xS} (w1 : wfH S st.1) {M : xMem} (E : EvM r M0 st M) {k x pr : Nat} (hk : k < 4) (hx : x < 10) (hpr : pr ≤ st.1 2 k) (hst : 1 ≤ st.1 9 x) (htd : (e 0 0).testBit x = true) (post : Int32 → xMem → Prop) (hp : ∀ M', EvM r M0 (sBuy V e st k x pr) M' → (∀ c i, c = 40 → gi M' c i = gi M c i) → post (nI (st.1 4 k &&& sCl V e st.1 x)) M') : wX12_buying (nI k) (nI x) (nI pr) M post := by
  obtain ⟨sV, rE, rS⟩ := cxM_law X E
  obtain ⟨hr, oV, -, wE, -, -⟩ := id X
  obtain ⟨e1, e3, e4, e5⟩ := id E
  have hwx := wE.2 x hx
  have h1x := hwx.2.1 htd
  have wk := w1.2.2.2.2.1 k hk
  have wx := w1.2.2.2.2.2 x hx
  have wX := w1.2.2.2.1
  unfold wX12_buying
  refine forgeM sV e1 e3 rE hx hwx.1 _ (fun M3 k1 => ?_)
  have E3 := EvM_ask E (fun c i hc => k1 c i (by unfold chM at hc; exact hc.1))
  obtain ⟨f1, f3, f4, f5⟩ := id E3
  have rE3 := (cxM_law X E3).2.1
  have f40 : ∀ i, gi M3 40 i = gi M 40 i := fun i => k1 _ _ (by unfold askM; omega)
  clear k1
  refine ⟨vl hk (by decide), vl hk (by decide), ?_⟩
  rw [nI_clamp (by omega), (f3.1 k hk).2.2.1, z_sub hpr]
  intro M8 e8
  subst e8
  have H1 := HM_u2 f3 k (st.1 2 k - pr)
  refine ⟨vl hx (by decide), vl hx (by decide), ?_⟩
  rw [nI_clamp (by omega), g_c (c' := 28) (by omega), (f3.2.1 x hx).2.2.2.2, z_subl hst]
  intro M12 e12
  subst e12
  have H2 := HM_u9 H1 x (st.1 9 x - 1)
  intro M13 e13
  rw [g_c (c' := 0) (by omega), g_c (c' := 0) (by omega), f4.1 0 (by omega), z_add] at e13
  subst e13
  intro M14 e14
  rw [g_i (by omega), g_c (c' := 0) (by omega), g_c (c' := 0) (by omega), f4.1 1 (by omega), z_add1] at e14
  subst e14
  have Q2 := QM_u (QM_u (QM_k (M' := si (si M3 32 k (nI (st.1 2 k - pr))) 28 x (nI (st.1 9 x - 1))) f4 (fun i _ _ => by rw [g_c (by omega), g_c (by omega)])) (i := 0) (by omega) (st.2.1 0 + pr)) (i := 1) (by omega) (st.2.1 1 + 1)
  have H3 := HM_keep (M' := si (si (si (si M3 32 k (nI (st.1 2 k - pr))) 28 x (nI (st.1 9 x - 1))) 0 (71 + 0) (nI (st.2.1 0 + pr))) 0 (71 + 1) (nI (st.2.1 1 + 1))) (fun c i a b d => by rw [g_c (by omega), g_c (by omega)]) (fun i hi => by rw [g_i (by omega), g_i (by omega)]) H2
  have F3 : ∀ c i, ¬ (c = 0 ∧ 71 ≤ i ∧ i ≤ 79) → ¬ (c = 28 ∨ (30 ≤ c ∧ c ≤ 38)) → gi (si (si (si (si M3 32 k (nI (st.1 2 k - pr))) 28 x (nI (st.1 9 x - 1))) 0 (71 + 0) (nI (st.2.1 0 + pr))) 0 (71 + 1) (nI (st.2.1 1 + 1))) c i = gi M3 c i := fun c i a b => by
    rw [gi_si, if_neg (by omega), gi_si, if_neg (by omega), g_c (by omega), g_c (by omega)]
  show wX12_draw (si (si (si (si M3 32 k (nI (st.1 2 k - pr))) 28 x (nI (st.1 9 x - 1))) 0 (71 + 0) (nI (st.2.1 0 + pr))) 0 (71 + 1) (nI (st.2.1 1 + 1))) _
  generalize si (si (si (si M3 32 k (nI (st.1 2 k - pr))) 28 x (nI (st.1 9 x - 1))) 0 (71 + 0) (nI (st.2.1 0 + pr))) 0 (71 + 1) (nI (st.2.1 1 + 1)) = M4 at Q2 H3 F3 ⊢
  unfold wX12_draw
  have hX4 : gi M4 0 2 = nI (st.1 13 0) := by
    have := H3.2.2.2.2.2
    simpa [h2u] using this
  refine ⟨by decide, ?_⟩
  rw [hX4, z_mull, z_add1, show nI (25173 * st.1 13 0 + 13849) - nI (25173 * st.1 13 0 + 13849) / 65536 * 65536 = nI ((25173 * st.1 13 0 + 13849) % 65536) from pk_rem (d := 65536) (by omega) (by decide) (by decide)]
  intro M1 eM1
  subst eM1
  refine ⟨ten_ne, ?_⟩
  rw [g_same, rem10n (by omega)]
  have H4 := HM_u13 H3 (sX (st.1 13 0))
  have Q3 := QM_k (M' := si M4 0 2 (nI (sX (st.1 13 0)))) Q2 (fun i _ _ => by rw [g_i (by omega)])
  have F4 : ∀ c i, ¬ (c = 0 ∧ (71 ≤ i ∧ i ≤ 79 ∨ i = 2)) → ¬ (c = 28 ∨ (30 ≤ c ∧ c ≤ 38)) → gi (si M4 0 2 (nI (sX (st.1 13 0)))) c i = gi M3 c i := fun c i a b => by
    rw [gi_si, if_neg (by omega)]; exact F3 c i (by omega) b
  have v5 := oV 5 (eV e st.1 x) (by omega)
  have v5' : V 5 (eV e st.1 x) ≤ 10 := v5
  have hXe : (25173 * st.1 13 0 + 13849) % 65536 = sX (st.1 13 0) := rfl
  rw [hXe]
  generalize si M4 0 2 (nI (sX (st.1 13 0))) = M5 at H4 Q3 F4 ⊢
  have hcl := sCl_lt (V := V) (h := st.1) wE hx
  -- the end: the threads are closed
  have fin : ∀ (M6 : xMem) (q : Nat → Nat), HM (h2u (h2u (h2u st.1 2 k (st.1 2 k - pr)) 9 x (st.1 9 x - 1)) 13 0 (sX (st.1 13 0))) st.2.2.1 st.2.2.2 M6 → QM q M6 → (∀ c i, ¬ (c = 0 ∧ (71 ≤ i ∧ i ≤ 79 ∨ i = 2)) → ¬ (c = 28 ∨ (30 ≤ c ∧ c ≤ 38)) → gi M6 c i = gi M3 c i) → (sBuy V e st k x pr).2.1 = q → wX12_buying_117 post (nI k) (nI (sCl V e st.1 x)) (nI (st.1 4 k)) M6 := by
    intro M6 q j3 j4 j5 j6
    have h4k : gi M6 34 k = nI (st.1 4 k) := by
      have := (j3.1 k hk).2.2.2.2
      simpa [h2u] using this
    unfold wX12_buying_117
    rw [z_and]
    intro v1 ev1
    subst ev1
    refine ⟨vl hk (by decide), vl hk (by decide), ?_⟩
    have hle : st.1 4 k &&& sCl V e st.1 x ≤ st.1 4 k := Nat.and_le_left
    rw [nI_clamp (by omega), h4k, andnot_n wk.2.2.2.1 (by omega), andand wk.2.2.2.1]
    intro M7 e7
    subst e7
    refine hp _ ⟨?_, HM_u4 j3 k _, ?_, fun c i hc hn => ?_⟩ (fun c i hc => ?_)
    · rw [g_c (by omega), j5 _ _ (by omega) (by omega)]; exact f1
    · rw [j6]; exact QM_k j4 (fun i _ _ => by rw [g_c (by omega)])
    · have hc2 := hc
      unfold evM cntM at hc2
      rw [g_c (by omega), j5 c i (by omega) (by omega)]
      exact f5 c i hc hn
    · rw [g_c (by omega), j5 c i (by omega) (by omega), hc]
      exact f40 i
  have hmod : sX (st.1 13 0) % 10 < 10 := Nat.mod_lt _ (by omega)
  have e26 : ∀ M6 : xMem, (∀ c i, ¬ (c = 0 ∧ (71 ≤ i ∧ i ≤ 79 ∨ i = 2)) → ¬ (c = 28 ∨ (30 ≤ c ∧ c ≤ 38)) → gi M6 c i = gi M3 c i) → gi M6 26 x = nI (e 1 x) := fun M6 h6 => by rw [h6 _ _ (by omega) (by omega)]; exact (rE3 x hx).2.1
  have h4k5 : gi M5 34 k = nI (st.1 4 k) := by
    have := (H4.1 k hk).2.2.2.2
    simpa [h2u] using this
  dsimp only
  rcases Nat.lt_or_ge (sX (st.1 13 0) % 10) (V 5 (eV e st.1 x)) with z | z0
  · rw [if_neg (nI_ge z (by omega))]
    unfold wX12_buying_61 wX12_buying_78
    rw [if_neg (by decide), Q3.1 2 (by omega)]
    intro M22 e22
    have e22' : M22 = si M5 0 (71 + 2) (nI (st.2.1 2 + 1)) := by
      rw [e22]
      congr 1
      show nI (st.2.1 2) + 1 = nI (st.2.1 2 + 1)
      exact z_add1 _ 1
    subst e22'
    have Q4 := QM_u Q3 (i := 2) (by omega) (st.2.1 2 + 1)
    have F6 : ∀ c i, ¬ (c = 0 ∧ (71 ≤ i ∧ i ≤ 79 ∨ i = 2)) → ¬ (c = 28 ∨ (30 ≤ c ∧ c ≤ 38)) → gi (si M5 0 (71 + 2) (nI (st.2.1 2 + 1))) c i = gi M3 c i := fun c i a b => by rw [gi_si, if_neg (by omega)]; exact F4 c i a b
    refine ⟨vl hk (by decide), ?_⟩
    rw [if_neg (by decide)]
    refine ⟨vl hx (by decide), vl hx (by decide), ?_⟩
    rw [nI_clamp (by omega), nI_clamp (by omega), e26 _ F6, z_subl h1x, z_and, g_c (by omega), h4k5]
    have := fin _ _ (HM_keep (fun c i a b d => by rw [g_c (by omega)]) (fun i hi => by rw [g_i (by omega)]) H4) Q4 F6 (if_pos z)
    rw [show sCl V e st.1 x = e 1 x &&& (e 1 x - 1) from if_pos z] at this
    exact this
  · have z : ¬ sX (st.1 13 0) % 10 < V 5 (eV e st.1 x) := Nat.not_lt.mpr z0
    rw [if_pos (nI_le z0 (by omega))]
    unfold wX12_buying_61 wX12_buying_78
    rw [if_pos rfl, Q3.1 2 (by omega)]
    intro M22 e22
    have Q4 := QM_u Q3 (i := 2) (by omega) (st.2.1 2)
    have e22' : M22 = si M5 0 (71 + 2) (nI (st.2.1 2)) := by
      rw [e22]
      congr 1
      show nI (st.2.1 2) + 0 = nI (st.2.1 2)
      exact z_add1 _ 0
    subst e22'
    have F6 : ∀ c i, ¬ (c = 0 ∧ (71 ≤ i ∧ i ≤ 79 ∨ i = 2)) → ¬ (c = 28 ∨ (30 ≤ c ∧ c ≤ 38)) → gi (si M5 0 (71 + 2) (nI (st.2.1 2))) c i = gi M3 c i := fun c i a b => by rw [gi_si, if_neg (by omega)]; exact F4 c i a b
    have eq2 : qu (qu (qu st.2.1 0 (st.2.1 0 + pr)) 1 (st.2.1 1 + 1)) 2 (st.2.1 2) = qu (qu st.2.1 0 (st.2.1 0 + pr)) 1 (st.2.1 1 + 1) := by
      funext j
      unfold qu
      by_cases ej : j = 2
      · subst ej; rfl
      · rw [if_neg ej]
    rw [eq2] at Q4
    refine ⟨vl hk (by decide), ?_⟩
    rw [if_pos rfl]
    refine ⟨vl hx (by decide), ?_⟩
    rw [nI_clamp (by omega), nI_clamp (by omega), e26 _ F6, g_c (by omega), h4k5]
    have := fin _ _ (HM_keep (fun c i a b d => by rw [g_c (by omega)]) (fun i hi => by rw [g_i (by omega)]) H4) Q4 F6 (if_neg z)
    rw [show sCl V e st.1 x = e 1 x from if_neg z] at this
    exact this
