theorem wf_l1 {V : xV} {S : Nat → List Nat} {N : Nat} {st : xS} (w : wfX S N st) {k l : Nat} (hl : l < 10) (hb : (st.1 5 0).testBit l = true) : wfX S (N + 1) (sL1 V st k l) ∧ (sL1 V st k l).2.1 9 = st.2.1 9 ∧ (∀ a b, a ≠ 8 → (sL1 V st k l).1 a b = st.1 a b) := by
  obtain ⟨w1, w2, w3, w4, w5⟩ := w
  have wl := w1.2.2.2.2.2 l hl
  have up : ∀ v, v ≤ 9 → wfH S (h2u st.1 8 l v) ∧ ∀ j, j < 4 → (h2u st.1 8 l v) 3 j ≤ (S ((h2u st.1 8 l v) 1 j)).length := fun v hv => ⟨(wfH_u w1 (k := l)).2.2.2.2.1 v hv (Or.inl hb), fun j hj => by simpa [h2u] using w2 j hj⟩
  have fr : ∀ v a b, a ≠ 8 → h2u st.1 8 l v a b = st.1 a b := fun v a b h => by simp [h2u, h]
  unfold sL1
  by_cases z1 : st.1 4 k ≠ 0
  · rw [if_pos z1]
    by_cases z2 : st.1 8 l < 9 ∧ min 9 (st.1 8 l + V 2 (lV st.1 k l)) = 9
    · rw [if_pos z2]
      have u := up (min 9 (st.1 8 l + V 2 (lV st.1 k l))) (by omega)
      by_cases z3 : st.2.1 3 = 0
      · rw [if_pos z3]
        refine ⟨⟨u.1, u.2, ?_, ?_, ?_⟩, ?_, fr _⟩
        · show qu (qu (qu st.2.1 3 (st.2.1 3 + 1)) 7 l) 8 (st.2.1 9) 3 ≤ N + 1
          simp [qu]; omega
        · show (qu (qu (qu st.2.1 3 (st.2.1 3 + 1)) 7 l) 8 (st.2.1 9) 3 = 0 ↔ qu (qu (qu st.2.1 3 (st.2.1 3 + 1)) 7 l) 8 (st.2.1 9) 7 = 10)
          simp [qu]; omega
        · show qu (qu (qu st.2.1 3 (st.2.1 3 + 1)) 7 l) 8 (st.2.1 9) 7 ≤ 10
          simp [qu]; omega
        · show qu (qu (qu st.2.1 3 (st.2.1 3 + 1)) 7 l) 8 (st.2.1 9) 9 = st.2.1 9
          simp [qu]
      · rw [if_neg z3]
        refine ⟨⟨u.1, u.2, ?_, ?_, ?_⟩, ?_, fr _⟩
        · show qu st.2.1 3 (st.2.1 3 + 1) 3 ≤ N + 1
          simp [qu]; omega
        · show (qu st.2.1 3 (st.2.1 3 + 1) 3 = 0 ↔ qu st.2.1 3 (st.2.1 3 + 1) 7 = 10)
          have : st.2.1 7 ≠ 10 := fun q => z3 (w4.mpr q)
          simp [qu]; omega
        · show qu st.2.1 3 (st.2.1 3 + 1) 7 ≤ 10
          simp [qu]; exact w5
        · show qu st.2.1 3 (st.2.1 3 + 1) 9 = st.2.1 9
          simp [qu]
    · rw [if_neg z2]
      have u := up (min 9 (st.1 8 l + V 2 (lV st.1 k l))) (by omega)
      exact ⟨⟨u.1, u.2, Nat.le_succ_of_le w3, w4, w5⟩, rfl, fr _⟩
  · rw [if_neg z1]
    have u := up (st.1 8 l - V 3 (lV st.1 k l)) (by omega)
    exact ⟨⟨u.1, u.2, Nat.le_succ_of_le w3, w4, w5⟩, rfl, fr _⟩
theorem wf_li {V : xV} {S : Nat → List Nat} {N : Nat} {st : xS} (w : wfX S N st) {k l : Nat} (hl : l < 10) (hb : (st.1 5 0).testBit l = true) : wfX S (N + 1) (sLi V st k l) ∧ (sLi V st k l).2.1 9 = st.2.1 9 ∧ (∀ a b, a ≠ 8 → a ≠ 6 → (sLi V st k l).1 a b = st.1 a b) := by
  obtain ⟨⟨a1, a2, a3, a4, a5⟩, b, c⟩ := wf_l1 (V := V) w hl hb (k := k)
  unfold sLi sL2
  by_cases z : V 6 (lV (sL1 V st k l).1 k l) ≠ 0
  · rw [if_pos z]
    refine ⟨⟨(wfH_u a1 (k := l)).2.2.2.1, fun j hj => by simpa [h2u] using a2 j hj, ?_, ?_, ?_⟩, ?_, fun x y h8 h6 => ?_⟩
    · show qu (sL1 V st k l).2.1 4 ((sL1 V st k l).2.1 4 + 1) 3 ≤ N + 1
      simpa [qu] using a3
    · show (qu (sL1 V st k l).2.1 4 ((sL1 V st k l).2.1 4 + 1) 3 = 0 ↔ qu (sL1 V st k l).2.1 4 ((sL1 V st k l).2.1 4 + 1) 7 = 10)
      simpa [qu] using a4
    · show qu (sL1 V st k l).2.1 4 ((sL1 V st k l).2.1 4 + 1) 7 ≤ 10
      simpa [qu] using a5
    · show qu (sL1 V st k l).2.1 4 ((sL1 V st k l).2.1 4 + 1) 9 = st.2.1 9
      simpa [qu] using b
    · show h2u (sL1 V st k l).1 6 l 4 x y = st.1 x y
      simp [h2u, h6]
      exact c x y h8
  · rw [if_neg z]
    exact ⟨⟨a1, a2, a3, a4, a5⟩, b, fun x y h8 _ => c x y h8⟩
set_option maxRecDepth 20000 in
theorem lisM {S : Nat → List Nat} {e : xT2} {V : xV} {r : Nat} {M0 : xMem} (X : CxM S e V r M0) {N : Nat} {st : xS} (w : wfX S N st) (hn : st.2.1 9 ≠ 0) {M : xMem} (E : EvM r M0 st M) {k l : Nat} (hk : k < 4) (hl : l < 10) (hbd : bd2 st.1 l k) (post : xMem → Prop) (hp : ∀ M', EvM r M0 (sLi V st k l) M' → post M') : wX12_listens (nI l) (nI (st.2.1 9)) M post := by
  obtain ⟨sV, rE, rS⟩ := cxM_law X E
  obtain ⟨hr, oV, -, wE, -, wS⟩ := id X
  have wk := w.1.2.2.2.2.1 k hk
  have wl := w.1.2.2.2.2.2 l hl
  have b36 : ∀ (s2 : xS) (M2 : xMem), s2.1 6 l = k → EvM r M0 s2 M2 → gi M2 36 l = nI k := fun s2 M2 h6 E2 => by
    rw [(E2.2.1.2.1 l hl).2.1, h6]
    exact if_pos hk
  have frM : ∀ (s2 : xS) (M2 M3 : xMem), EvM r M0 s2 M2 → (∀ c i, ¬ (c = 0 ∧ 38 ≤ i ∧ i ≤ 48) → gi M3 c i = gi M2 c i) → EvM r M0 s2 M3 := fun s2 M2 M3 E2 f => EvM_ask E2 (fun c i hc => f c i (by unfold chM askM at hc; exact hc.1.2.2))
  have frM2 : ∀ (s2 : xS) (M2 M3 : xMem), EvM r M0 s2 M2 → (∀ c i, c ≠ 23 → c ≠ 24 → gi M3 c i = gi M2 c i) → EvM r M0 s2 M3 := fun s2 M2 M3 E2 f => EvM_ask E2 (fun c i hc => f c i (by unfold chM askM at hc; exact hc.1.1) (by unfold chM askM at hc; exact hc.1.2.1))
  -- the going away
  have go : ∀ (s2 : xS) (M5 : xMem), s2.1 4 k < 1024 → s2.1 6 l = k → EvM r M0 s2 M5 → (∀ M', EvM r M0 (sL2 V s2 k l) M' → post M') → wX12_listens_120 post (nI l) M5 := by
    intro s2 M5 h4 h6 E5 hp5
    obtain ⟨sV5, -, -⟩ := cxM_law X E5
    unfold wX12_listens_120
    refine lStM E5.2.1 hk hl h4 (b36 s2 M5 h6 E5) _ (fun M6 g1 g2 => ?_)
    refine goesM sV5 g1 E5.1 g2 (by exact E5.2.1.2.2.1) _ (fun M7 g3 => ?_)
    have E7 := frM2 s2 M6 M7 (frM s2 M5 M6 E5 g1) g3
    clear g1 g2 g3
    have v6 := oV 6 (lV s2.1 k l) (by omega)
    have v6' : V 6 (lV s2.1 k l) ≤ 1 := v6
    by_cases z : V 6 (lV s2.1 k l) = 0
    · rw [if_pos (show nI (V 6 (lV s2.1 k l)) = 0 by rw [z]; rfl)]
      refine hp5 M7 ?_
      unfold sL2
      rw [if_neg (fun q => q z)]
      exact E7
    · rw [if_neg (show ¬ nI (V 6 (lV s2.1 k l)) = 0 from fun q => z ((n0_n (by omega)).mp q))]
      obtain ⟨f1, f3, f4, f5⟩ := id E7
      refine ⟨vl hl (by decide), ?_⟩
      intro M8 e8
      subst e8
      intro M9 e9
      rw [nI_clamp (by omega), g_c (c' := 0) (by omega), f4.1 4 (by omega), z_add1] at e9
      have Q := QM_u (QM_k (M' := si M7 36 l (-1)) f4 (fun i _ _ => by rw [g_c (by omega)])) (i := 4) (by omega) (s2.2.1 4 + 1)
      have e9' : M9 = si (si M7 36 l (-1)) 0 (71 + 4) (nI (s2.2.1 4 + 1)) := e9
      subst e9'
      refine hp5 _ ?_
      unfold sL2
      rw [if_pos z]
      refine ⟨by rw [g_i (by omega), g_c (by omega)]; exact f1, HM_keep (fun c i a b d => by rw [g_c (by omega)]) (fun i hi => by rw [g_i (by omega)]) (HM_u6 f3 l), Q, fun c i hc hnn => ?_⟩
      have hc2 := hc
      unfold evM cntM at hc2
      rw [gi_si, if_neg (by omega), g_c (by omega)]
      exact f5 c i hc hnn
  have hb6 := hbd.2
  -- behind the tiring
  have l64 : ∀ (M5 : xMem) (v : Nat), v ≤ 9 → EvM r M0 (h2u st.1 8 l v, st.2) M5 → (¬ (st.1 8 l < 9 ∧ v = 9) → sL1 V st k l = (h2u st.1 8 l v, st.2)) → ((st.1 8 l < 9 ∧ v = 9) → sL1 V st k l = (h2u st.1 8 l v, if st.2.1 3 = 0 then qu (qu (qu st.2.1 3 (st.2.1 3 + 1)) 7 l) 8 (st.2.1 9) else qu st.2.1 3 (st.2.1 3 + 1), st.2.2.1 + 1, st.2.2.2)) → wX12_listens_64 post (nI l) (nI (st.2.1 9)) (nI (st.1 8 l)) M5 := by
    intro M5 v hv E5 hA hB
    have h4' : (h2u st.1 8 l v) 4 k < 1024 := by simpa [h2u] using wk.2.2.2.1
    have h6' : (h2u st.1 8 l v) 6 l = k := by simpa [h2u] using hb6
    obtain ⟨j1, j3, j4, j5⟩ := id E5
    unfold wX12_listens_64
    by_cases z2 : 9 ≤ st.1 8 l
    · rw [if_pos (show (9 : Int32) ≤ nI (st.1 8 l) from nI_le (a := 9) z2 (by omega))]
      refine go (h2u st.1 8 l v, st.2) _ h4' h6' E5 (fun M' E' => hp M' ?_)
      unfold sLi
      rw [hA (by omega)]
      exact E'
    have z2' : st.1 8 l < 9 := by omega
    rw [if_neg (show ¬ (9 : Int32) ≤ nI (st.1 8 l) from nI_ge z2' (by decide))]
    refine ⟨vl hl (by decide), ?_⟩
    have m38 : gi M5 38 l = nI v := by
      have := (j3.2.1 l hl).2.2.2.1
      simpa [h2u] using this
    rw [nI_clamp (by omega), m38]
    by_cases z3 : v = 9
    rotate_left
    · rw [if_neg (show ¬ nI v = 9 from fun q => z3 ((nI_eq (b := 9) (by omega) (by decide)).mp q))]
      refine go (h2u st.1 8 l v, st.2) _ h4' h6' E5 (fun M' E' => hp M' ?_)
      unfold sLi
      rw [hA (fun q => z3 q.2)]
      exact E'
    rw [if_pos (by rw [z3]; rfl)]
    have hB' := hB ⟨by omega, z3⟩
    intro M14 e14
    rw [j3.2.2.2.1] at e14
    subst e14
    intro M15 e15
    rw [g_i (by omega), j4.1 3 (by omega), z_add1] at e15
    have Q := QM_u (QM_k (M' := si M5 0 66 (st.2.2.1 + 1)) j4 (fun i a b => by rw [g_i (by omega)])) (i := 3) (by omega) (st.2.1 3 + 1)
    have e15' : M15 = si (si M5 0 66 (st.2.2.1 + 1)) 0 (71 + 3) (nI (st.2.1 3 + 1)) := e15
    subst e15'
    have H15 : HM (h2u st.1 8 l v) (st.2.2.1 + 1) st.2.2.2 (si (si M5 0 66 (st.2.2.1 + 1)) 0 (71 + 3) (nI (st.2.1 3 + 1))) := HM_keep (fun c i a b d => by rw [g_c (by omega)]) (fun i hi => by rw [g_i (by omega)]) (HM_ui j3 (st.2.2.1 + 1))
    have F15 : ∀ c i, evM c i → ¬ (c = 0 ∧ i = 27) → gi (si (si M5 0 66 (st.2.2.1 + 1)) 0 (71 + 3) (nI (st.2.1 3 + 1))) c i = gi M0 c i := fun c i hc hnn => by
      have hc2 := hc
      unfold evM cntM at hc2
      rw [gi_si, if_neg (by omega), gi_si, if_neg (by omega)]
      exact j5 c i hc hnn
    have j1' : gi (si (si M5 0 66 (st.2.2.1 + 1)) 0 (71 + 3) (nI (st.2.1 3 + 1))) 0 27 = nI r := by rw [g_i (by omega), g_i (by omega)]; exact j1
    have hq7 : gi (si (si M5 0 66 (st.2.2.1 + 1)) 0 (71 + 3) (nI (st.2.1 3 + 1))) 0 78 = wh (st.2.1 7) := by rw [g_i (by omega), g_i (by omega)]; exact j4.2.1
    rw [hq7]
    generalize si (si M5 0 66 (st.2.2.1 + 1)) 0 (71 + 3) (nI (st.2.1 3 + 1)) = M6 at Q H15 F15 j1' ⊢
    have w4 := w.2.2.2.1
    have w5 := w.2.2.2.2
    by_cases z4 : st.2.1 3 = 0
    · rw [if_pos (show wh (st.2.1 7) = -2 from if_pos (w4.mp z4))]
      rw [if_pos z4] at hB'
      intro M17 e17
      subst e17
      intro M18 e18
      subst e18
      have Q2 := QM_78 Q l (st.2.1 9) (by omega) hn
      refine go (h2u st.1 8 l v, qu (qu (qu st.2.1 3 (st.2.1 3 + 1)) 7 l) 8 (st.2.1 9), st.2.2.1 + 1, st.2.2.2) _ h4' h6' ⟨by rw [g_i (by omega), g_i (by omega)]; exact j1', HM_keep (fun c i a b d => by rw [g_c (by omega), g_c (by omega)]) (fun i hi => by rw [g_i (by omega), g_i (by omega)]) H15, Q2, fun c i hc hnn => ?_⟩ (fun M' E' => hp M' ?_)
      · have hc2 := hc
        unfold evM cntM at hc2
        rw [gi_si, if_neg (by omega), gi_si, if_neg (by omega)]
        exact F15 c i hc hnn
      · unfold sLi
        rw [hB']
        exact E'
    · have h7 : st.2.1 7 ≠ 10 := fun q => z4 (w4.mpr q)
      rw [if_neg (show ¬ wh (st.2.1 7) = -2 from fun q => by
        rw [show wh (st.2.1 7) = nI (st.2.1 7) from if_neg h7] at q
        have := congrArg Int32.toInt q
        rw [nI_toInt (by omega), z_m2] at this
        omega)]
      rw [if_neg z4] at hB'
      refine go (h2u st.1 8 l v, qu st.2.1 3 (st.2.1 3 + 1), st.2.2.1 + 1, st.2.2.2) _ h4' h6' ⟨j1', H15, Q, F15⟩ (fun M' E' => hp M' ?_)
      unfold sLi
      rw [hB']
      exact E'
  have v2 := oV 2 (lV st.1 k l) (by omega)
  have v2' : V 2 (lV st.1 k l) ≤ 9 := v2
  have v3 := oV 3 (lV st.1 k l) (by omega)
  have v3' : V 3 (lV st.1 k l) ≤ 9 := v3
  unfold wX12_listens
  refine lStM E.2.1 hk hl wk.2.2.2.1 (b36 st M hb6 E) _ (fun M1 g1 g2 => ?_)
  have E1 := frM st M M1 E g1
  refine ⟨vl hl (by decide), ?_⟩
  have m38 : gi M1 38 l = nI (st.1 8 l) := (E1.2.1.2.1 l hl).2.2.2.1
  have m41 : gi M1 0 41 = nI (pc (st.1 4 k)) := g2 3 (by omega)
  rw [nI_clamp (by omega), m38, m41]
  intro v3 ev3
  subst ev3
  have up : ∀ (M7 : xMem) (v : Nat), EvM r M0 st M7 → EvM r M0 (h2u st.1 8 l v, st.2) (si M7 38 l (nI v)) := fun M7 v E7 => by
    obtain ⟨f1, f3, f4, f5⟩ := E7
    refine ⟨by rw [g_c (by omega)]; exact f1, HM_u8 f3 l v, QM_k f4 (fun i _ _ => by rw [g_c (by omega)]), fun c i hc hnn => ?_⟩
    have hc2 := hc
    unfold evM cntM at hc2
    rw [g_c (by omega)]
    exact f5 c i hc hnn
  by_cases z1 : st.1 4 k = 0
  · rw [if_pos (show nI (pc (st.1 4 k)) ≤ 0 by rw [(pc_pos wk.2.2.2.1).mpr z1]; decide)]
    refine tellsM (kind := 3) sV g1 E.1 g2 (by exact E.2.1.2.2.1) (by decide) _ (fun M2 g3 => ?_)
    have E2 := frM2 st M1 M2 E1 g3
    refine heldSub (by omega) (by omega) _ _ ?_
    refine ⟨vl hl (by decide), ?_⟩
    intro M10 e10
    subst e10
    have e1 : sL1 V st k l = (h2u st.1 8 l (st.1 8 l - V 3 (lV st.1 k l)), st.2) := if_neg (fun q => q z1)
    exact l64 _ (st.1 8 l - V 3 (lV st.1 k l)) (by omega) (up M2 _ E2) (fun _ => e1) (fun q => by omega)
  · have hpc : pc (st.1 4 k) ≠ 0 := fun q => z1 ((pc_pos wk.2.2.2.1).mp q)
    have hpc2 := pc_le wk.2.2.2.1
    rw [if_neg (show ¬ nI (pc (st.1 4 k)) ≤ 0 from nI_ge (a := 0) (by omega) (by omega))]
    refine tellsM (kind := 2) sV g1 E.1 g2 (by exact E.2.1.2.2.1) (by decide) _ (fun M2 g3 => ?_)
    have E2 := frM2 st M1 M2 E1 g3
    refine heldAdd (m := 9) (by omega) (by omega) _ _ ?_
    refine ⟨vl hl (by decide), ?_⟩
    intro M10 e10
    subst e10
    have e1 : sL1 V st k l = if st.1 8 l < 9 ∧ min 9 (st.1 8 l + V 2 (lV st.1 k l)) = 9 then (h2u st.1 8 l (min 9 (st.1 8 l + V 2 (lV st.1 k l))), if st.2.1 3 = 0 then qu (qu (qu st.2.1 3 (st.2.1 3 + 1)) 7 l) 8 (st.2.1 9) else qu st.2.1 3 (st.2.1 3 + 1), st.2.2.1 + 1, st.2.2.2) else (h2u st.1 8 l (min 9 (st.1 8 l + V 2 (lV st.1 k l))), st.2) := if_pos z1
    exact l64 _ (min 9 (st.1 8 l + V 2 (lV st.1 k l))) (by omega) (up M2 _ E2) (fun q => by rw [e1, if_neg q]) (fun q => by rw [e1, if_pos q])
