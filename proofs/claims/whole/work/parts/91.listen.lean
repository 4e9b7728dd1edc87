/-! (3) a LISTENER -/
def sL1 (V : xV) (st : xS) (k l : Nat) : xS :=
  if st.1 4 k ≠ 0 then
    if st.1 8 l < 9 ∧ min 9 (st.1 8 l + V 2 (lV st.1 k l)) = 9 then (h2u st.1 8 l (min 9 (st.1 8 l + V 2 (lV st.1 k l))), if st.2.1 3 = 0 then qu (qu (qu st.2.1 3 (st.2.1 3 + 1)) 7 l) 8 (st.2.1 9) else qu st.2.1 3 (st.2.1 3 + 1), st.2.2.1 + 1, st.2.2.2)
    else (h2u st.1 8 l (min 9 (st.1 8 l + V 2 (lV st.1 k l))), st.2)
  else (h2u st.1 8 l (st.1 8 l - V 3 (lV st.1 k l)), st.2)
def sL2 (V : xV) (st : xS) (k l : Nat) : xS := if V 6 (lV st.1 k l) ≠ 0 then (h2u st.1 6 l 4, qu st.2.1 4 (st.2.1 4 + 1), st.2.2) else st
def sLi (V : xV) (st : xS) (k l : Nat) : xS := sL2 V (sL1 V st k l) k l
theorem QC_78 {q : Nat → Nat} {C : xMem} (H : QC q C) (l n : Nat) (hl : l ≠ 10) (hn : n ≠ 0) : QC (qu (qu q 7 l) 8 n) (si (si C 78 13 (nI l)) 78 14 (nI n)) := by
  obtain ⟨a, b, c, d⟩ := H
  refine ⟨fun j hj => ?_, ?_, ?_, ?_⟩
  · rw [g_i (by omega), g_i (by omega), a j hj]; simp [qu, show ¬ j = 7 by omega, show ¬ j = 8 by omega]
  · rw [g_i (by omega), g_same]; simp [qu, wh, hl]
  · rw [g_same]; simp [qu, wn, hn]
  · rw [g_i (by omega), g_i (by omega), d]; simp [qu]
theorem QM_78 {q : Nat → Nat} {M : xMem} (H : QM q M) (l n : Nat) (hl : l ≠ 10) (hn : n ≠ 0) : QM (qu (qu q 7 l) 8 n) (si (si M 0 78 (nI l)) 0 79 (nI n)) := by
  obtain ⟨a, b, c⟩ := H
  refine ⟨fun j hj => ?_, ?_, ?_⟩
  · rw [g_i (by omega), g_i (by omega), a j hj]; simp [qu, show ¬ j = 7 by omega, show ¬ j = 8 by omega]
  · rw [g_i (by omega), g_same]; simp [qu, wh, hl]
  · rw [g_same]; simp [qu, wn, hn]
theorem max0_sub {a b : Nat} (ha : a < 2 ^ 30) (hb : b < 2 ^ 30) : (if (0 : Int32) < nI a - nI b then nI a - nI b else 0) = nI (a - b) := by
  rcases Nat.lt_or_ge b a with h | h
  · rw [z_sub (by omega), if_pos (show (0 : Int32) < nI (a - b) from nI_lt (a := 0) (by omega) (by omega))]
  · rw [show a - b = 0 by omega]
    by_cases e : a = b
    · subst e
      rw [z_sub (Nat.le_refl _), Nat.sub_self]; rfl
    · rw [if_neg (fun q => by
        have h1 := pk_sneg (a := a) (b := b) hb (by omega)
        have h2 := Int32.lt_iff_toInt_lt.mp q
        have h3 := Int32.lt_iff_toInt_lt.mp h1
        omega)]
      rfl
theorem heldSub {a b : Nat} (ha : a ≤ 9) (hb : b < 2 ^ 30) (M : xMem) (P : Int32 → xMem → Prop) (h : P (nI (a - b)) M) : wX12_held (nI a - nI b) 9 M P := by
  unfold wX12_held
  rcases Nat.lt_or_ge a b with q | q
  · have h1 := pk_sneg (a := a) (b := b) hb q
    rw [if_neg (fun z => by
      have h2 := Int32.le_iff_toInt_le.mp z
      have h3 := Int32.lt_iff_toInt_lt.mp h1
      omega)]
    rw [show a - b = 0 by omega] at h
    exact h
  · rw [z_sub q, if_pos (nI_pos' (by omega)), if_pos (show nI (a - b) ≤ 9 from nI_le (b := 9) (by omega) (by decide))]
    exact h
theorem heldAdd {a b m : Nat} (hm : m < 2 ^ 30) (hab : a + b < 2 ^ 31) (M : xMem) (P : Int32 → xMem → Prop) (h : P (nI (min m (a + b))) M) : wX12_held (nI a + nI b) (nI m) M P := by
  unfold wX12_held
  rw [nI_add, if_pos (nI_pos' hab)]
  rcases Nat.lt_or_ge m (a + b) with q | q
  · rw [if_neg (nI_ge q hab)]
    rw [Nat.min_eq_left (by omega)] at h
    exact h
  · rw [if_pos (nI_le q (by omega))]
    rw [Nat.min_eq_right q] at h
    exact h
theorem pc_pos {n : Nat} (h : n < 1024) : pc n = 0 ↔ n = 0 := by
  have key : ∀ n : Fin 1024, pc n.1 = 0 ↔ n.1 = 0 := by decide +kernel
  exact key ⟨n, h⟩
set_option maxRecDepth 20000 in
theorem lisC {S : Nat → List Nat} {e : xT2} {V : xV} {o o1 : Nat} {C0 : xMem} (X : CxC S e V o o1 C0) {N : Nat} (hN : N < 2 ^ 30) {st : xS} (w : wfX S N st) (hn : st.2.1 9 ≠ 0) {C : xMem} (E : EvC o o1 C0 st C) {k l : Nat} (hk : k < 4) (hl : l < 10) (post : xMem → Prop) (hp : ∀ C', EvC o o1 C0 (sLi V st k l) C' → post C') : wX1_listen (nI k) (nI l) C post := by
  obtain ⟨sV, rE, rS, oko⟩ := cxC_law X E
  obtain ⟨ho, ho1, oV, -, wE, -, wS⟩ := id X
  have wk := w.1.2.2.2.2.1 k hk
  have wl := w.1.2.2.2.2.2 l hl
  have hk4 : kC o = 4 := by rcases ho with rfl | rfl <;> decide
  have hk5 : kC o1 = 5 := by rcases ho1 with rfl | rfl <;> decide
  have oclamp : (nI o).toNatClampNeg = o := nI_clamp (by omega)
  have o1clamp : (nI o1).toNatClampNeg = o1 := nI_clamp (by omega)
  -- the going away
  have go : ∀ (s2 : xS) (C5 : xMem), s2.1 4 k < 1024 → EvC o o1 C0 s2 C5 → (∀ C', EvC o o1 C0 (sL2 V s2 k l) C' → post C') → wX1_listen_81 post (nI k) (nI l) C5 := by
    intro s2 C5 h4 E5 hp5
    obtain ⟨sV5, -, -, -⟩ := cxC_law X E5
    unfold wX1_listen_81
    rw [E5.1, E5.2.1, oclamp, o1clamp]
    refine ⟨hk4, hk5, ?_⟩
    refine askLC oko sV5 E5.2.2.1 hk hl h4 (kind := 6) (by omega) _ (fun C6 k1 => ?_)
    have E6 := EvC_ask ho ho1 E5 k1
    clear k1
    have v6 := oV 6 (lV s2.1 k l) (by omega)
    have v6' : V 6 (lV s2.1 k l) ≤ 1 := v6
    by_cases z : V 6 (lV s2.1 k l) = 0
    · rw [if_pos (show nI (V 6 (lV s2.1 k l)) = 0 by rw [z]; rfl)]
      refine hp5 C6 ?_
      unfold sL2
      rw [if_neg (fun q => q z)]
      exact E6
    · rw [if_neg (show ¬ nI (V 6 (lV s2.1 k l)) = 0 from fun q => z ((n0_n (by omega)).mp q))]
      obtain ⟨f1, f2, f3, f4, f5⟩ := id E6
      rw [f1, oclamp]
      refine ⟨hk4, vl hl (by decide), ?_⟩
      intro M8 e8
      subst e8
      intro M9 e9
      rw [nI_clamp (by omega), g_c (c' := 78) (by omega), f4.1 4 (by omega), z_add1] at e9
      have Q := QC_u (QC_k (C' := si C6 (o + 5) l (-2)) f4 (fun i _ => by rw [g_c (by omega)])) (i := 4) (by omega) (s2.2.1 4 + 1)
      have e9' : M9 = si (si C6 (o + 5) l (-2)) 78 (6 + 4) (nI (s2.2.1 4 + 1)) := e9
      subst e9'
      refine hp5 _ ?_
      unfold sL2
      rw [if_pos z]
      refine ⟨by rw [g_i (by omega), g_c (by omega)]; exact f1, by rw [g_i (by omega), g_c (by omega)]; exact f2, HC_keep (fun c i a b => by rw [g_c (by omega)]) (HC_u6 f3 l), Q, fun c i hc => ?_⟩
      have hc2 := hc
      unfold evC cntC lawC at hc2
      rw [g_c (by omega), g_c (by omega)]
      exact f5 c i hc
  unfold wX1_listen
  rw [E.1, E.2.1, oclamp, o1clamp, nI_clamp (by omega), (E.2.2.1.2.2.2.2.2.2.1 k hk).2.2.2]
  refine ⟨hk4, vl hk (by decide), ?_⟩
  have v2 := oV 2 (lV st.1 k l) (by omega)
  have v2' : V 2 (lV st.1 k l) ≤ 9 := v2
  have v3 := oV 3 (lV st.1 k l) (by omega)
  have v3' : V 3 (lV st.1 k l) ≤ 9 := v3
  by_cases z1 : st.1 4 k = 0
  · rw [if_pos (show nI (st.1 4 k) = 0 by rw [z1]; rfl)]
    refine ⟨hk4, hk5, ?_⟩
    refine askLC oko sV E.2.2.1 hk hl wk.2.2.2.1 (kind := 3) (by omega) _ (fun C3 k1 => ?_)
    have E3 := EvC_ask ho ho1 E k1
    clear k1
    obtain ⟨f1, f2, f3, f4, f5⟩ := id E3
    rw [f1, oclamp, nI_clamp (by omega), (f3.2.2.2.2.2.2.2 l hl).2.2.1]
    refine ⟨hk4, hk4, vl hl (by decide), ?_⟩
    rw [max_eq, max0_sub (by omega) (by omega)]
    refine ⟨vl hl (by decide), ?_⟩
    intro M14 e14
    subst e14
    refine go (h2u st.1 8 l (st.1 8 l - V 3 (lV st.1 k l)), st.2) _ (by simpa [h2u] using wk.2.2.2.1) ⟨by rw [g_c (by omega)]; exact f1, by rw [g_c (by omega)]; exact f2, HC_u8 f3 l _, QC_k f4 (fun i _ => by rw [g_c (by omega)]), fun c i hc => ?_⟩ (fun C' E' => hp C' ?_)
    · have hc2 := hc
      unfold evC at hc2
      rw [g_c (by omega)]
      exact f5 c i hc
    · unfold sLi
      rw [show sL1 V st k l = (h2u st.1 8 l (st.1 8 l - V 3 (lV st.1 k l)), st.2) from if_neg (fun q => q z1)]
      exact E'
  · rw [if_neg (show ¬ nI (st.1 4 k) = 0 from fun q => z1 ((n0_n wk.2.2.2.1).mp q))]
    refine ⟨hk4, hk5, ?_⟩
    refine askLC oko sV E.2.2.1 hk hl wk.2.2.2.1 (kind := 2) (by omega) _ (fun C3 k1 => ?_)
    have E3 := EvC_ask ho ho1 E k1
    clear k1
    obtain ⟨f1, f2, f3, f4, f5⟩ := id E3
    have e1 : sL1 V st k l = if st.1 8 l < 9 ∧ min 9 (st.1 8 l + V 2 (lV st.1 k l)) = 9 then (h2u st.1 8 l (min 9 (st.1 8 l + V 2 (lV st.1 k l))), if st.2.1 3 = 0 then qu (qu (qu st.2.1 3 (st.2.1 3 + 1)) 7 l) 8 (st.2.1 9) else qu st.2.1 3 (st.2.1 3 + 1), st.2.2.1 + 1, st.2.2.2) else (h2u st.1 8 l (min 9 (st.1 8 l + V 2 (lV st.1 k l))), st.2) := if_pos z1
    unfold wX1_tire
    rw [f1, oclamp, nI_clamp (by omega), (f3.2.2.2.2.2.2.2 l hl).2.2.1]
    refine ⟨hk4, vl hl (by decide), ?_⟩
    intro v3 ev3
    subst ev3
    refine ⟨hk4, ?_⟩
    rw [nI_add, min_eq, show (9 : Int32) = nI 9 from rfl, min_n (by omega) (by omega)]
    refine ⟨vl hl (by decide), ?_⟩
    intro M8 e8
    subst e8
    have H8 := HC_u8 f3 l (min 9 (st.1 8 l + V 2 (lV st.1 k l)))
    have E8 : EvC o o1 C0 (h2u st.1 8 l (min 9 (st.1 8 l + V 2 (lV st.1 k l))), st.2) (si C3 (o + 7) l (nI (min 9 (st.1 8 l + V 2 (lV st.1 k l))))) := by
      refine ⟨by rw [g_c (by omega)]; exact f1, by rw [g_c (by omega)]; exact f2, H8, QC_k f4 (fun i _ => by rw [g_c (by omega)]), fun c i hc => ?_⟩
      have hc2 := hc
      unfold evC at hc2
      rw [g_c (by omega)]
      exact f5 c i hc
    have h4' : (h2u st.1 8 l (min 9 (st.1 8 l + V 2 (lV st.1 k l)))) 4 k < 1024 := by simpa [h2u] using wk.2.2.2.1
    by_cases z2 : 9 ≤ st.1 8 l
    · rw [if_pos (nI_le z2 (by omega))]
      refine go (h2u st.1 8 l (min 9 (st.1 8 l + V 2 (lV st.1 k l))), st.2) _ h4' E8 (fun C' E' => hp C' ?_)
      unfold sLi
      rw [e1, if_neg (fun q => by omega)]
      exact E'
    rw [if_neg (nI_ge (by omega) (by decide)), g_c (by omega), f1, oclamp]
    refine ⟨hk4, vl hl (by decide), ?_⟩
    rw [g_same]
    by_cases z3 : min 9 (st.1 8 l + V 2 (lV st.1 k l)) = 9
    rotate_left
    · rw [if_neg (fun q => z3 ((nI_eq (by omega) (by decide)).mp q))]
      refine go (h2u st.1 8 l (min 9 (st.1 8 l + V 2 (lV st.1 k l))), st.2) _ h4' E8 (fun C' E' => hp C' ?_)
      unfold sLi
      rw [e1, if_neg (fun q => z3 q.2)]
      exact E'
    rw [if_pos (by rw [z3])]
    refine ⟨hk4, ?_⟩
    rw [z3] at E8 H8 e1 h4' ⊢
    obtain ⟨j1, j2, j3, j4, j5⟩ := id E8
    intro M14 e14
    rw [j3.2.2.2.1] at e14
    subst e14
    intro M15 e15
    rw [g_c (c' := 78) (by omega), j4.1 3 (by omega), z_add1] at e15
    have Q := QC_u (QC_k (C' := si (si C3 (o + 7) l (nI 9)) o 11 (st.2.2.1 + 1)) j4 (fun i _ => by rw [g_c (by omega)])) (i := 3) (by omega) (st.2.1 3 + 1)
    have e15' : M15 = si (si (si C3 (o + 7) l (nI 9)) o 11 (st.2.2.1 + 1)) 78 (6 + 3) (nI (st.2.1 3 + 1)) := e15
    subst e15'
    have H15 : HC o (h2u st.1 8 l 9) (st.2.2.1 + 1) st.2.2.2 (si (si (si C3 (o + 7) l (nI 9)) o 11 (st.2.2.1 + 1)) 78 (6 + 3) (nI (st.2.1 3 + 1))) := HC_keep (fun c i a b => by rw [g_c (by omega)]) (HC_ui H8 (st.2.2.1 + 1))
    have F15 : ∀ c i, evC o c i → gi (si (si (si C3 (o + 7) l (nI 9)) o 11 (st.2.2.1 + 1)) 78 (6 + 3) (nI (st.2.1 3 + 1))) c i = gi C0 c i := fun c i hc => by
      have hc2 := hc
      unfold evC cntC lawC at hc2
      rw [g_c (by omega), g_c (by omega)]
      exact j5 c i hc
    have j1' : gi (si (si (si C3 (o + 7) l (nI 9)) o 11 (st.2.2.1 + 1)) 78 (6 + 3) (nI (st.2.1 3 + 1))) 78 3 = nI o := by rw [g_i (by omega), g_c (by omega)]; exact j1
    have j2' : gi (si (si (si C3 (o + 7) l (nI 9)) o 11 (st.2.2.1 + 1)) 78 (6 + 3) (nI (st.2.1 3 + 1))) 78 4 = nI o1 := by rw [g_i (by omega), g_c (by omega)]; exact j2
    have hq9 : gi (si (si (si C3 (o + 7) l (nI 9)) o 11 (st.2.2.1 + 1)) 78 (6 + 3) (nI (st.2.1 3 + 1))) 78 9 = nI (st.2.1 3 + 1) := g_same _ _ _ _
    rw [hq9]
    generalize si (si (si C3 (o + 7) l (nI 9)) o 11 (st.2.2.1 + 1)) 78 (6 + 3) (nI (st.2.1 3 + 1)) = C5 at Q H15 F15 j1' j2' ⊢
    have w3 := w.2.2.1
    by_cases z4 : st.2.1 3 = 0
    · rw [if_pos (show nI (st.2.1 3 + 1) = 1 by rw [z4]; rfl)]
      intro M17 e17
      subst e17
      intro M18 e18
      rw [g_i (by omega), Q.2.2.2] at e18
      have e18' : M18 = si (si C5 78 13 (nI l)) 78 14 (nI (st.2.1 9)) := e18
      subst e18'
      have Q2 := QC_78 Q l (st.2.1 9) (by omega) hn
      refine go (h2u st.1 8 l 9, qu (qu (qu st.2.1 3 (st.2.1 3 + 1)) 7 l) 8 (st.2.1 9), st.2.2.1 + 1, st.2.2.2) _ h4' ⟨by rw [g_i (by omega), g_i (by omega)]; exact j1', by rw [g_i (by omega), g_i (by omega)]; exact j2', HC_keep (fun c i a b => by rw [g_c (by omega), g_c (by omega)]) H15, Q2, fun c i hc => ?_⟩ (fun C' E' => hp C' ?_)
      · have hc2 := hc
        unfold evC cntC lawC at hc2
        rw [g_c (by omega), g_c (by omega)]
        exact F15 c i hc
      · unfold sLi
        rw [e1, if_pos ⟨by omega, rfl⟩, if_pos z4]
        exact E'
    · rw [if_neg (show ¬ nI (st.2.1 3 + 1) = 1 from fun q => z4 (by
        have := (nI_eq (a := st.2.1 3 + 1) (b := 1) (by omega) (by omega)).mp q
        omega))]
      refine go (h2u st.1 8 l 9, qu st.2.1 3 (st.2.1 3 + 1), st.2.2.1 + 1, st.2.2.2) _ h4' ⟨j1', j2', H15, Q, F15⟩ (fun C' E' => hp C' ?_)
      unfold sLi
      rw [e1, if_pos ⟨by omega, rfl⟩, if_neg z4]
      exact E'
