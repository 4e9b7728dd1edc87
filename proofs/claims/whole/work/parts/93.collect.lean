/-! (4) a STORY is closed -/
def sCo (V : xV) (st : xS) (k l : Nat) : xS := (h2u st.1 2 k (st.1 2 k + min (V 4 (lV st.1 k l)) (9999 - st.1 2 k)), qu st.2.1 6 (st.2.1 6 + min (V 4 (lV st.1 k l)) (9999 - st.1 2 k)), st.2.2)
def sCs (V : xV) (k : Nat) (st : xS) : Nat → xS
  | 0 => st
  | l + 1 => if bdB (sCs V k st l).1 k l = true then sCo V (sCs V k st l) k l else sCs V k st l
theorem sCs_s (V : xV) (k : Nat) (st : xS) (l : Nat) : sCs V k st (l + 1) = if bdB (sCs V k st l).1 k l = true then sCo V (sCs V k st l) k l else sCs V k st l := rfl
def sCol (V : xV) (st : xS) (k : Nat) : xS := (h2u (sCs V k st 10).1 3 k 0, qu (sCs V k st 10).2.1 5 ((sCs V k st 10).2.1 5 + 1), (sCs V k st 10).2.2.1, (sCs V k st 10).2.2.2 + 1)
theorem wf_cs {V : xV} {S : Nat → List Nat} {N : Nat} {st : xS} (w : wfX S N st) {k : Nat} (hk : k < 4) : ∀ l, l ≤ 10 → wfX S N (sCs V k st l) ∧ (sCs V k st l).2.1 9 = st.2.1 9 ∧ (∀ a b, a ≠ 2 → (sCs V k st l).1 a b = st.1 a b) := by
  intro l
  induction l with
  | zero => intro _; exact ⟨w, rfl, fun _ _ _ => rfl⟩
  | succ l ih =>
    intro hl
    obtain ⟨⟨a1, a2, a3, a4, a5⟩, b, c⟩ := ih (by omega)
    rw [sCs_s]
    by_cases z : bdB (sCs V k st l).1 k l = true
    · rw [if_pos z]
      have wk := a1.2.2.2.2.1 k hk
      refine ⟨⟨(wfH_u a1 (k := k)).1 _ (by omega), fun j hj => by simpa [sCo, h2u] using a2 j hj, ?_, ?_, ?_⟩, ?_, fun x y h2 => ?_⟩
      · simpa [sCo, qu] using a3
      · simpa [sCo, qu] using a4
      · simpa [sCo, qu] using a5
      · simpa [sCo, qu] using b
      · have := c x y h2
        simpa [sCo, h2u, h2] using this
    · rw [if_neg z]
      exact ⟨⟨a1, a2, a3, a4, a5⟩, b, c⟩
theorem wf_col {V : xV} {S : Nat → List Nat} {N : Nat} {st : xS} (w : wfX S N st) {k : Nat} (hk : k < 4) : wfX S N (sCol V st k) ∧ (sCol V st k).2.1 9 = st.2.1 9 ∧ (∀ a b, a ≠ 2 → a ≠ 3 → (sCol V st k).1 a b = st.1 a b) := by
  obtain ⟨⟨a1, a2, a3, a4, a5⟩, b, c⟩ := wf_cs (V := V) w hk 10 (Nat.le_refl _)
  refine ⟨⟨(wfH_u a1 (k := k)).2.1 0 (by omega) (Or.inr rfl), fun j hj => ?_, ?_, ?_, ?_⟩, ?_, fun x y h2 h3 => ?_⟩
  · by_cases ej : j = k
    · subst ej; simp [sCol, h2u]
    · simpa [sCol, h2u, ej] using a2 j hj
  · simpa [sCol, qu] using a3
  · simpa [sCol, qu] using a4
  · simpa [sCol, qu] using a5
  · simpa [sCol, qu] using b
  · have := c x y h2
    simpa [sCol, h2u, h3] using this
set_option maxRecDepth 20000 in
theorem colC {S : Nat → List Nat} {e : xT2} {V : xV} {o o1 : Nat} {C0 : xMem} (X : CxC S e V o o1 C0) {N : Nat} {st : xS} (w : wfX S N st) {C : xMem} (E : EvC o o1 C0 st C) {k : Nat} (hk : k < 4) (post : xMem → Prop) (hp : ∀ C', EvC o o1 C0 (sCol V st k) C' → post C') : wX1_collect (nI k) C post := by
  obtain ⟨ho, ho1, oV, -, wE, -, wS⟩ := id X
  have hk4 : kC o = 4 := by rcases ho with rfl | rfl <;> decide
  have hk5 : kC o1 = 5 := by rcases ho1 with rfl | rfl <;> decide
  have oclamp : (nI o).toNatClampNeg = o := nI_clamp (by omega)
  have o1clamp : (nI o1).toNatClampNeg = o1 := nI_clamp (by omega)
  have key : ∀ (m l : Nat) (C2 : xMem), l + m = 10 → EvC o o1 C0 (sCs V k st l) C2 → wX1_collect_2 post (m + 1) (nI k) (nI l) C2 := by
    intro m
    induction m with
    | zero =>
      intro l C2 el E2
      have : l = 10 := by omega
      subst this
      obtain ⟨f1, f2, f3, f4, f5⟩ := id E2
      rw [wX1_collect_2]; dsimp only
      rw [if_pos (show (10 : Int32) ≤ nI 10 by decide), f1, oclamp]
      refine ⟨hk4, ?_⟩
      rw [f3.2.2.2.2.1]
      intro M3 e3
      subst e3
      intro M4 e4
      rw [g_c (c' := 78) (by omega), f4.1 5 (by omega), z_add1] at e4
      have Q := QC_u (QC_k (C' := si C2 o 12 ((sCs V k st 10).2.2.2 + 1)) f4 (fun i _ => by rw [g_c (by omega)])) (i := 5) (by omega) ((sCs V k st 10).2.1 5 + 1)
      have e4' : M4 = si (si C2 o 12 ((sCs V k st 10).2.2.2 + 1)) 78 (6 + 5) (nI ((sCs V k st 10).2.1 5 + 1)) := e4
      subst e4'
      have H4 := HC_keep (C' := si (si C2 o 12 ((sCs V k st 10).2.2.2 + 1)) 78 (6 + 5) (nI ((sCs V k st 10).2.1 5 + 1))) (fun c i a b => by rw [g_c (by omega)]) (HC_ut f3 ((sCs V k st 10).2.2.2 + 1))
      have f1' : gi (si (si C2 o 12 ((sCs V k st 10).2.2.2 + 1)) 78 (6 + 5) (nI ((sCs V k st 10).2.1 5 + 1))) 78 3 = nI o := by rw [g_i (by omega), g_c (by omega)]; exact f1
      have f2' : gi (si (si C2 o 12 ((sCs V k st 10).2.2.2 + 1)) 78 (6 + 5) (nI ((sCs V k st 10).2.1 5 + 1))) 78 4 = nI o1 := by rw [g_i (by omega), g_c (by omega)]; exact f2
      rw [f1', oclamp]
      refine ⟨hk4, vl hk (by decide), ?_⟩
      intro M7 e7
      rw [nI_clamp (by omega)] at e7
      subst e7
      refine hp _ ⟨by rw [g_c (by omega)]; exact f1', by rw [g_c (by omega)]; exact f2', HC_u3 H4 k 0, QC_k Q (fun i _ => by rw [g_c (by omega)]), fun c i hc => ?_⟩
      have hc2 := hc
      unfold evC cntC lawC at hc2
      rw [g_c (by omega), g_c (by omega), g_c (by omega)]
      exact f5 c i hc
    | succ m ih =>
      intro l C2 el E2
      have hl : l < 10 := by omega
      obtain ⟨w2, w2b, w2c⟩ := wf_cs (V := V) w hk l (by omega)
      have wk := w2.1.2.2.2.2.1 k hk
      obtain ⟨sV2, -, -, oko⟩ := cxC_law X E2
      obtain ⟨f1, f2, f3, f4, f5⟩ := id E2
      rw [wX1_collect_2]; dsimp only
      unfold wX1_collect_87
      rw [if_neg (show ¬ (10 : Int32) ≤ nI l from nI_ge hl (by decide)), f1, oclamp]
      refine ⟨hk4, ?_⟩
      refine isBoundC f3 w2.1.2.1 hl hk _ (fun z => ?_) (fun z => ?_)
      rotate_left
      · rw [if_pos rfl]
        intro v1 ev
        subst ev
        rw [z_add1]
        refine ih (l + 1) C2 (by omega) ?_
        rw [sCs_s, if_neg (fun q => z ((bdB_i _ _ _).mp q))]
        exact E2
      rw [if_neg (by decide), f1, f2, oclamp, o1clamp]
      refine ⟨hk4, hk5, ?_⟩
      refine askLC oko sV2 f3 hk hl wk.2.2.2.1 (kind := 4) (by omega) _ (fun C3 k1 => ?_)
      have E3 := EvC_ask ho ho1 E2 k1
      clear k1
      obtain ⟨j1, j2, j3, j4, j5⟩ := id E3
      have v4 := oV 4 (lV (sCs V k st l).1 k l) (by omega)
      have v4' : V 4 (lV (sCs V k st l).1 k l) ≤ 99 := v4
      rw [j1, oclamp, nI_clamp (by omega), (j3.2.2.2.2.2.2.1 k hk).2.1, show (9999 : Int32) = nI 9999 from rfl, z_sub (by omega)]
      refine ⟨hk4, vl hk (by decide), ?_⟩
      intro v18 e18
      subst e18
      refine ⟨hk4, vl hk (by decide), ?_⟩
      rw [min_eq, min_n (by omega) (by omega)]
      refine ⟨vl hk (by decide), ?_⟩
      rw [nI_add]
      intro M24 e24
      subst e24
      rw [min_eq, min_n (by omega) (by omega), g_c (c' := 78) (by omega), j4.1 6 (by omega), nI_add]
      intro M27 e27
      have Q := QC_u (QC_k (C' := si C3 (o + 2) k (nI ((sCs V k st l).1 2 k + min (V 4 (lV (sCs V k st l).1 k l)) (9999 - (sCs V k st l).1 2 k)))) j4 (fun i _ => by rw [g_c (by omega)])) (i := 6) (by omega) ((sCs V k st l).2.1 6 + min (V 4 (lV (sCs V k st l).1 k l)) (9999 - (sCs V k st l).1 2 k))
      have e27' : M27 = si (si C3 (o + 2) k (nI ((sCs V k st l).1 2 k + min (V 4 (lV (sCs V k st l).1 k l)) (9999 - (sCs V k st l).1 2 k)))) 78 (6 + 6) (nI ((sCs V k st l).2.1 6 + min (V 4 (lV (sCs V k st l).1 k l)) (9999 - (sCs V k st l).1 2 k))) := e27
      subst e27'
      intro v1 ev
      subst ev
      rw [z_add1]
      refine ih (l + 1) _ (by omega) ?_
      rw [sCs_s, if_pos ((bdB_i _ _ _).mpr z)]
      refine ⟨by rw [g_i (by omega), g_c (by omega)]; exact j1, by rw [g_i (by omega), g_c (by omega)]; exact j2, HC_keep (fun c i a b => by rw [g_c (by omega)]) (HC_u2 j3 k _), Q, fun c i hc => ?_⟩
      have hc2 := hc
      unfold evC cntC lawC at hc2
      rw [g_c (by omega), g_c (by omega)]
      exact j5 c i hc
  exact ⟨11, key 10 0 C rfl E⟩
set_option maxRecDepth 20000 in
theorem colM {S : Nat → List Nat} {e : xT2} {V : xV} {r : Nat} {M0 : xMem} (X : CxM S e V r M0) {N : Nat} {st : xS} (w : wfX S N st) {M : xMem} (E : EvM r M0 st M) {k : Nat} (hk : k < 4) (post : xMem → Prop) (hp : ∀ M', EvM r M0 (if st.1 3 k = (S (st.1 1 k)).length ∧ st.1 4 k = 0 then sCol V st k else st) M' → post M') : wX12_closesStory (nI k) M post := by
  obtain ⟨hr, oV, -, wE, -, wS⟩ := id X
  unfold wX12_closesStory
  refine atEndM X w.1 E hk _ (fun z1 => ?_) (fun z1 => ?_)
  rotate_left
  · rw [if_pos rfl]
    rw [if_neg (fun q => z1 q.1)] at hp
    exact hp M E
  rw [if_neg (by decide)]
  refine ⟨vl hk (by decide), ?_⟩
  have wk0 := w.1.2.2.2.2.1 k hk
  rw [nI_clamp (by omega), (E.2.1.1 k hk).2.2.2.2]
  by_cases z2 : st.1 4 k = 0
  rotate_left
  · rw [if_neg (show ¬ nI (st.1 4 k) = 0 from fun q => z2 ((n0_n wk0.2.2.2.1).mp q))]
    rw [if_neg (fun q => z2 q.2)] at hp
    exact hp M E
  rw [if_pos (show nI (st.1 4 k) = 0 by rw [z2]; rfl)]
  rw [if_pos ⟨z1, z2⟩] at hp
  have key : ∀ (m l : Nat) (M2 : xMem), l + m = 10 → EvM r M0 (sCs V k st l) M2 → wX12_closesStory_20 post (m + 1) (nI k) (nI l) M2 := by
    intro m
    induction m with
    | zero =>
      intro l M2 el E2
      have : l = 10 := by omega
      subst this
      obtain ⟨f1, f3, f4, f5⟩ := id E2
      rw [wX12_closesStory_20]; dsimp only
      rw [if_pos (show (10 : Int32) ≤ nI 10 by decide), f3.2.2.2.2.1]
      intro M3 e3
      subst e3
      intro M4 e4
      rw [g_i (by omega), f4.1 5 (by omega), z_add1] at e4
      have Q := QM_u (QM_k (M' := si M2 0 67 ((sCs V k st 10).2.2.2 + 1)) f4 (fun i a b => by rw [g_i (by omega)])) (i := 5) (by omega) ((sCs V k st 10).2.1 5 + 1)
      have e4' : M4 = si (si M2 0 67 ((sCs V k st 10).2.2.2 + 1)) 0 (71 + 5) (nI ((sCs V k st 10).2.1 5 + 1)) := e4
      subst e4'
      refine ⟨vl hk (by decide), ?_⟩
      intro M5 e5
      rw [nI_clamp (by omega)] at e5
      subst e5
      refine hp _ ⟨by rw [g_c (by omega), g_i (by omega), g_i (by omega)]; exact f1, HM_u3 (HM_keep (fun c i a b d => by rw [g_c (by omega)]) (fun i hi => by rw [g_i (by omega)]) (HM_ut f3 ((sCs V k st 10).2.2.2 + 1))) k 0, QM_k Q (fun i _ _ => by rw [g_c (by omega)]), fun c i hc hn => ?_⟩
      have hc2 := hc
      unfold evM cntM at hc2
      rw [g_c (by omega), gi_si, if_neg (by omega), gi_si, if_neg (by omega)]
      exact f5 c i hc hn
    | succ m ih =>
      intro l M2 el E2
      have hl : l < 10 := by omega
      obtain ⟨w2, w2b, w2c⟩ := wf_cs (V := V) w hk l (by omega)
      have wk := w2.1.2.2.2.2.1 k hk
      obtain ⟨sV2, -, -⟩ := cxM_law X E2
      obtain ⟨f1, f3, f4, f5⟩ := id E2
      rw [wX12_closesStory_20]; dsimp only
      unfold wX12_closesStory_89
      rw [if_neg (show ¬ (10 : Int32) ≤ nI l from nI_ge hl (by decide))]
      refine isBoundM f3 hl hk _ (fun z => ?_) (fun z => ?_)
      rotate_left
      · rw [if_pos rfl]
        intro v1 ev
        subst ev
        rw [z_add1]
        refine ih (l + 1) M2 (by omega) ?_
        rw [sCs_s, if_neg (fun q => z ((bdB_i _ _ _).mp q))]
        exact E2
      rw [if_neg (by decide)]
      have h36 : gi M2 36 l = nI k := by
        rw [(f3.2.1 l hl).2.1, z.2]
        exact if_pos hk
      refine lStM f3 hk hl wk.2.2.2.1 h36 _ (fun M3 g1 g2 => ?_)
      have E3 := EvM_ask E2 (fun c i hc => g1 c i (by unfold chM askM at hc; exact hc.1.2.2))
      refine ⟨vl hk (by decide), ?_⟩
      rw [nI_clamp (by omega), (E3.2.1.1 k hk).2.2.1]
      intro v11 e11
      subst e11
      refine tellsM (kind := 4) sV2 g1 f1 g2 (by exact f3.2.2.1) (by decide) _ (fun M4 g3 => ?_)
      have E4 := EvM_ask E3 (fun c i hc => g3 c i (by unfold chM askM at hc; exact hc.1.1) (by unfold chM askM at hc; exact hc.1.2.1))
      clear g1 g2 g3
      have v4 := oV 4 (lV (sCs V k st l).1 k l) (by omega)
      have v4' : V 4 (lV (sCs V k st l).1 k l) ≤ 99 := v4
      obtain ⟨j1, j3, j4, j5⟩ := id E4
      refine heldAdd (m := 9999) (by omega) (by omega) _ _ ?_
      have emin : min 9999 ((sCs V k st l).1 2 k + V 4 (lV (sCs V k st l).1 k l)) = (sCs V k st l).1 2 k + min (V 4 (lV (sCs V k st l).1 k l)) (9999 - (sCs V k st l).1 2 k) := by omega
      rw [emin]
      refine ⟨vl hk (by decide), ?_⟩
      intro M17 e17
      subst e17
      refine ⟨vl hk (by decide), ?_⟩
      intro M19 e19
      rw [g_same, z_sub (by omega), g_c (c' := 0) (by omega), j4.1 6 (by omega), nI_add, Nat.add_sub_cancel_left] at e19
      have Q := QM_u (QM_k (M' := si M4 32 k (nI ((sCs V k st l).1 2 k + min (V 4 (lV (sCs V k st l).1 k l)) (9999 - (sCs V k st l).1 2 k)))) j4 (fun i _ _ => by rw [g_c (by omega)])) (i := 6) (by omega) ((sCs V k st l).2.1 6 + min (V 4 (lV (sCs V k st l).1 k l)) (9999 - (sCs V k st l).1 2 k))
      have e19' : M19 = si (si M4 32 k (nI ((sCs V k st l).1 2 k + min (V 4 (lV (sCs V k st l).1 k l)) (9999 - (sCs V k st l).1 2 k)))) 0 (71 + 6) (nI ((sCs V k st l).2.1 6 + min (V 4 (lV (sCs V k st l).1 k l)) (9999 - (sCs V k st l).1 2 k))) := e19
      subst e19'
      intro v1 ev
      subst ev
      rw [z_add1]
      refine ih (l + 1) _ (by omega) ?_
      rw [sCs_s, if_pos ((bdB_i _ _ _).mpr z)]
      refine ⟨by rw [g_i (by omega), g_c (by omega)]; exact j1, HM_keep (fun c i a b d => by rw [g_c (by omega)]) (fun i hi => by rw [g_i (by omega)]) (HM_u2 j3 k _), Q, fun c i hc hn => ?_⟩
      have hc2 := hc
      unfold evM cntM at hc2
      rw [gi_si, if_neg (by omega), g_c (by omega)]
      exact j5 c i hc hn
  exact ⟨11, key 10 0 M rfl E⟩
