/-! (1) a TELLER tells -/
def Ff (ts : List Nat) (a s j : Nat) : Nat := ((ts.take (a + j)).drop a).foldl trn s
theorem Ff_0 (ts : List Nat) (a s : Nat) : Ff ts a s 0 = s := by
  unfold Ff
  rw [List.drop_eq_nil_of_le (by rw [List.length_take]; omega)]
  rfl
theorem Ff_s {ts : List Nat} {a s j : Nat} (h : a + j < ts.length) : Ff ts a s (j + 1) = trn (Ff ts a s j) (ts.getD (a + j) 0) := by
  unfold Ff
  have e : ts.take (a + (j + 1)) = ts.take (a + j) ++ [ts.getD (a + j) 0] := by
    rw [show a + (j + 1) = a + j + 1 by omega, List.take_succ_eq_append_getElem h]
    congr 2
    rw [List.getD_eq_getElem?_getD, List.getElem?_eq_getElem h]
    rfl
  rw [e, List.drop_append_of_le_length (by rw [List.length_take]; omega), List.foldl_append]
  rfl
theorem Ff_lt {ts : List Nat} (hw : wfS ts) {a s : Nat} (hs : s < 1024) (j : Nat) : Ff ts a s j < 1024 := by
  refine fold_lt (fun c hc => wfS_mem hw c ?_) s hs
  exact List.mem_of_mem_take (List.mem_of_mem_drop hc)
theorem tellC {S : Nat → List Nat} {e : xT2} {V : xV} {o o1 : Nat} {C0 : xMem} (X : CxC S e V o o1 C0) {st : xS} (w1 : wfH S st.1) (tL : ∀ k, k < 4 → st.1 3 k ≤ (S (st.1 1 k)).length) {C : xMem} (E : EvC o o1 C0 st C) {k : Nat} (hk : k < 4) (post : xMem → Prop) (hp : ∀ C', EvC o o1 C0 (sTell V S st k) C' → post C') : wX1_tellOn (nI k) (3 + 2 * st.1 1 k) C post := by
  obtain ⟨sV, rE, rS, oko⟩ := cxC_law X E
  obtain ⟨ho, ho1, oV, -, wE, -, wS⟩ := id X
  obtain ⟨e1, e2, e3, e4, e5⟩ := id E
  have wk := w1.2.2.2.2.1 k hk
  have hk4 : kC o = 4 := by rcases ho with rfl | rfl <;> decide
  have hk5 : kC o1 = 5 := by rcases ho1 with rfl | rfl <;> decide
  have oclamp : (nI o).toNatClampNeg = o := nI_clamp (by omega)
  have o1clamp : (nI o1).toNatClampNeg = o1 := nI_clamp (by omega)
  have eHk := e3.2.2.2.2.2.2.1 k hk
  have hw := (wS _ wk.1).1
  have hl := hw.1
  have ht := tL k hk
  have v0 := oV 0 (tV st.1 k) (by omega)
  have v0' : V 0 (tV st.1 k) ≤ 20 := v0
  unfold wX1_tellOn
  rw [e1, e2, oclamp, o1clamp, nI_clamp (by omega), eHk.2.2.1]
  refine ⟨hk4, vl hk (by decide), ?_⟩
  intro v3 ev3
  subst ev3
  refine ⟨hk4, hk5, ?_⟩
  refine askTC oko sV e3 hk wk.2.2.2.1 (kind := 0) (by omega) _ (fun C3 k1 => ?_)
  have E3 := EvC_ask ho ho1 E k1
  obtain ⟨f1, f2, f3, f4, f5⟩ := id E3
  have rS3 := (cxC_law X E3).2.2.1 _ wk.1
  rw [(rS _ wk.1).1, nI_add, min_eq, min_n (by omega) (by omega), f1, oclamp]
  have fHk := f3.2.2.2.2.2.2.1 k hk
  rw [fHk.2.2.2]
  refine ⟨hk4, hk4, vl hk (by decide), ?_⟩
  have hto : sTo V S st.1 k = min (S (st.1 1 k)).length (st.1 3 k + V 0 (tV st.1 k)) := rfl
  rw [← hto]
  have hto2 : sTo V S st.1 k ≤ 72 := by rw [hto]; omega
  refine openBehindC hw rS3.1 rS3.2.1 ht (by omega) wk.2.2.2.1 _ ?_
  refine ⟨vl hk (by decide), ?_⟩
  intro M16 e16
  subst e16
  rw [g_c (by omega), f1, oclamp]
  refine ⟨hk4, vl hk (by decide), ?_⟩
  intro M19 e19
  subst e19
  refine hp _ ⟨by rw [g_c (by omega), g_c (by omega)]; exact f1, by rw [g_c (by omega), g_c (by omega)]; exact f2, HC_u3 (HC_u4 f3 k _) k _, QC_k f4 (fun i _ => by rw [g_c (by omega), g_c (by omega)]), fun c i hc => ?_⟩
  have hc2 := hc
  unfold evC at hc2
  rw [g_c (by omega), g_c (by omega)]
  exact f5 c i hc
theorem atEndM {S : Nat → List Nat} {e : xT2} {V : xV} {r : Nat} {M0 : xMem} (X : CxM S e V r M0) {st : xS} (w1 : wfH S st.1) {M : xMem} (E : EvM r M0 st M) {k : Nat} (hk : k < 4) (post : Int32 → xMem → Prop) (h1 : st.1 3 k = (S (st.1 1 k)).length → post 1 M) (h2 : st.1 3 k ≠ (S (st.1 1 k)).length → post 0 M) : wX12_isAtEnd (nI k) M post := by
  obtain ⟨sV, rE, rS⟩ := cxM_law X E
  obtain ⟨hr, oV, -, wE, -, wS⟩ := id X
  obtain ⟨e1, e3, e4, e5⟩ := id E
  have wk := w1.2.2.2.2.1 k hk
  have hw := (wS _ wk.1).1
  have hl := hw.1
  have mk := e3.1 k hk
  unfold wX12_isAtEnd
  rw [nI_clamp (by omega), mk.2.1, mk.2.2.2.1]
  refine ⟨vl hk (by decide), vl hk (by decide), vl wk.1 (by decide), ?_⟩
  rw [nI_clamp (by omega), (rS _ wk.1).1]
  by_cases z : st.1 3 k = (S (st.1 1 k)).length
  · rw [if_pos (by rw [z])]; exact h1 z
  · rw [if_neg (fun q => z ((nI_eq (by omega) (by omega)).mp q))]; exact h2 z
theorem tellM {S : Nat → List Nat} {e : xT2} {V : xV} {r : Nat} {M0 : xMem} (X : CxM S e V r M0) {st : xS} (w1 : wfH S st.1) (tL : ∀ k, k < 4 → st.1 3 k ≤ (S (st.1 1 k)).length) {M : xMem} (E : EvM r M0 st M) {k : Nat} (hk : k < 4) (htk : (st.1 0 0).testBit k = true) (post : xMem → Prop) (hp : ∀ M', EvM r M0 (sTell V S st k) M' → post M') : wX12_goesOn (nI k) M post := by
  obtain ⟨sV, rE, rS⟩ := cxM_law X E
  obtain ⟨hr, oV, -, wE, -, wS⟩ := id X
  obtain ⟨e1, e3, e4, e5⟩ := id E
  have wk := w1.2.2.2.2.1 k hk
  have hw := (wS _ wk.1).1
  have hl := hw.1
  have ht := tL k hk
  have v0 := oV 0 (tV st.1 k) (by omega)
  have v0' : V 0 (tV st.1 k) ≤ 20 := v0
  unfold wX12_goesOn
  refine speedM sV e1 e3 hk wk.2.2.2.1 _ (fun M1 k1 => ?_)
  have E1 := EvM_ask E (fun c i hc => k1 c i (by unfold chM at hc; exact hc.1))
  clear k1
  have key : ∀ (m j : Nat) (M2 : xMem), j + m = min (V 0 (tV st.1 k)) ((S (st.1 1 k)).length - st.1 3 k) → EvM r M0 (h2u (h2u st.1 4 k (Ff (S (st.1 1 k)) (st.1 3 k) (st.1 4 k) j)) 3 k (st.1 3 k + j), st.2) M2 → wX12_goesOn_6 post (m + 1) (nI k) (nI (V 0 (tV st.1 k) - j)) M2 := by
    intro m
    induction m with
    | zero =>
      intro j M2 ej E2
      have hj : st.1 3 k + j = sTo V S st.1 k := by unfold sTo; omega
      have hfin : post M2 := by
        refine hp M2 ?_
        have e9 : Ff (S (st.1 1 k)) (st.1 3 k) (st.1 4 k) j = (((S (st.1 1 k)).take (sTo V S st.1 k)).drop (st.1 3 k)).foldl trn (st.1 4 k) := by
          unfold Ff
          rw [hj]
        rw [e9, hj] at E2
        exact E2
      rw [wX12_goesOn_6]; dsimp only
      by_cases z : V 0 (tV st.1 k) - j = 0
      · rw [if_pos (show nI (V 0 (tV st.1 k) - j) ≤ (0 : Int32) by rw [z]; decide)]
        exact hfin
      · rw [if_neg (show ¬ nI (V 0 (tV st.1 k) - j) ≤ (0 : Int32) from nI_ge (a := 0) (by omega) (by omega))]
        have w2 : wfH S (h2u (h2u st.1 4 k (Ff (S (st.1 1 k)) (st.1 3 k) (st.1 4 k) j)) 3 k (st.1 3 k + j)) := (wfH_u ((wfH_u w1 (k := k)).2.2.1 _ (Ff_lt hw wk.2.2.2.1 j)) (k := k)).2.1 _ (by omega) (Or.inl htk)
        refine atEndM X (st := (h2u (h2u st.1 4 k (Ff (S (st.1 1 k)) (st.1 3 k) (st.1 4 k) j)) 3 k (st.1 3 k + j), st.2)) w2 E2 hk _ (fun _ => ?_) (fun q => ?_)
        · rw [if_neg (by decide)]; exact hfin
        · exfalso
          apply q
          simp [h2u]
          omega
    | succ m ih =>
      intro j M2 ej E2
      have hjl : st.1 3 k + j < (S (st.1 1 k)).length := by omega
      have w2 : wfH S (h2u (h2u st.1 4 k (Ff (S (st.1 1 k)) (st.1 3 k) (st.1 4 k) j)) 3 k (st.1 3 k + j)) := (wfH_u ((wfH_u w1 (k := k)).2.2.1 _ (Ff_lt hw wk.2.2.2.1 j)) (k := k)).2.1 _ (by omega) (Or.inl htk)
      have hF := Ff_lt hw (a := st.1 3 k) wk.2.2.2.1 j
      obtain ⟨f1, f3, f4, f5⟩ := id E2
      have mk := f3.1 k hk
      have rS2 := (cxM_law X E2).2.2 _ wk.1
      have m31 : gi M2 31 k = nI (st.1 1 k) := by have := mk.2.1; simpa [h2u] using this
      have m33 : gi M2 33 k = nI (st.1 3 k + j) := by have := mk.2.2.2.1; simpa [h2u] using this
      have m34 : gi M2 34 k = nI (Ff (S (st.1 1 k)) (st.1 3 k) (st.1 4 k) j) := by have := mk.2.2.2.2; simpa [h2u] using this
      rw [wX12_goesOn_6]; dsimp only
      rw [if_neg (show ¬ nI (V 0 (tV st.1 k) - j) ≤ (0 : Int32) from nI_ge (a := 0) (by omega) (by omega))]
      refine atEndM X (st := (h2u (h2u st.1 4 k (Ff (S (st.1 1 k)) (st.1 3 k) (st.1 4 k) j)) 3 k (st.1 3 k + j), st.2)) w2 E2 hk _ (fun q => ?_) (fun q => ?_)
      · exfalso
        simp [h2u] at q
        omega
      rw [if_pos rfl, nI_clamp (by omega), m31, m33, m34, z_mull, nI_add]
      have h1k := wk.1
      refine ⟨vl hk (by decide), vl hk (by decide), vl hk (by decide), vl (by omega) (by decide), ?_⟩
      rw [nI_clamp (by omega), rS2.2.2 _ hjl, turned_eq, td_n (hw.2 _ hjl) hF, ← Ff_s hjl]
      refine ⟨vl hk (by decide), ?_⟩
      intro M12 e12
      subst e12
      refine ⟨vl hk (by decide), vl hk (by decide), ?_⟩
      rw [g_c (by omega), m33, z_add1]
      intro M15 e15
      subst e15
      intro v16 e16
      rw [z_addm (by omega)] at e16
      subst e16
      rw [show V 0 (tV st.1 k) - j - 1 = V 0 (tV st.1 k) - (j + 1) by omega]
      refine ih (j + 1) _ (by omega) ⟨by rw [g_c (by omega), g_c (by omega)]; exact f1, ?_, QM_k f4 (fun i _ _ => by rw [g_c (by omega), g_c (by omega)]), fun c i hc hn => ?_⟩
      · have := HM_u3 (HM_u4 f3 k (Ff (S (st.1 1 k)) (st.1 3 k) (st.1 4 k) (j + 1))) k (st.1 3 k + (j + 1))
        have e9 : h2u (h2u (h2u (h2u st.1 4 k (Ff (S (st.1 1 k)) (st.1 3 k) (st.1 4 k) j)) 3 k (st.1 3 k + j)) 4 k (Ff (S (st.1 1 k)) (st.1 3 k) (st.1 4 k) (j + 1))) 3 k (st.1 3 k + (j + 1)) = h2u (h2u st.1 4 k (Ff (S (st.1 1 k)) (st.1 3 k) (st.1 4 k) (j + 1))) 3 k (st.1 3 k + (j + 1)) := by
          funext a b
          simp only [h2u]
          by_cases a3 : a = 3 ∧ b = k
          · rw [if_pos a3, if_pos a3]
          · rw [if_neg a3, if_neg a3]
            by_cases a4 : a = 4 ∧ b = k
            · rw [if_pos a4, if_neg a3, if_pos a4]
            · rw [if_neg a4, if_neg a3, if_neg a4, if_neg a4]
        exact e9 ▸ this
      · have hc2 := hc
        unfold evM at hc2
        rw [g_c (by omega), g_c (by omega)]
        exact f5 c i hc hn
  have E1' : EvM r M0 (h2u (h2u st.1 4 k (Ff (S (st.1 1 k)) (st.1 3 k) (st.1 4 k) 0)) 3 k (st.1 3 k + 0), st.2) M1 := by
    have e9 : h2u (h2u st.1 4 k (Ff (S (st.1 1 k)) (st.1 3 k) (st.1 4 k) 0)) 3 k (st.1 3 k + 0) = st.1 := by
      funext a b
      simp only [h2u, Ff_0]
      by_cases a3 : a = 3 ∧ b = k
      · rw [if_pos a3, a3.1, a3.2]; rfl
      · rw [if_neg a3]
        by_cases a4 : a = 4 ∧ b = k
        · rw [if_pos a4, a4.1, a4.2]
        · rw [if_neg a4]
    rw [e9]
    exact E1
  exact ⟨_, key _ 0 M1 (Nat.zero_add _) E1'⟩
theorem wf_tell {V : xV} {S : Nat → List Nat} {st : xS} (hw : ∀ k, k < 6 → wfS (S k)) (w : wfH S st.1) (t : ∀ k, k < 4 → st.1 3 k ≤ (S (st.1 1 k)).length) {k : Nat} (hk : k < 4) (htk : (st.1 0 0).testBit k = true) : wfH S (sTell V S st k).1 ∧ ∀ j, j < 4 → (sTell V S st k).1 3 j ≤ (S ((sTell V S st k).1 1 j)).length := by
  have wk := w.2.2.2.2.1 k hk
  have hl := (hw _ wk.1).1
  have hto : sTo V S st.1 k ≤ (S (st.1 1 k)).length := Nat.min_le_left _ _
  have hf : (((S (st.1 1 k)).take (sTo V S st.1 k)).drop (st.1 3 k)).foldl trn (st.1 4 k) < 1024 := fold_lt (fun c hc => wfS_mem (hw _ wk.1) c (List.mem_of_mem_take (List.mem_of_mem_drop hc))) _ wk.2.2.2.1
  refine ⟨(wfH_u ((wfH_u w (k := k)).2.2.1 _ hf) (k := k)).2.1 _ (by omega) (Or.inl htk), fun j hj => ?_⟩
  by_cases ej : j = k
  · subst ej; simpa [sTell, h2u] using hto
  · simpa [sTell, h2u, ej] using t j hj
