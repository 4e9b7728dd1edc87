/-! a TELLER's visit, an EVENING, EVENINGS -/
def sLs (V : xV) (k : Nat) (st : xS) : Nat → xS
  | 0 => st
  | l + 1 => if bdB (sLs V k st l).1 k l = true then sLi V (sLs V k st l) k l else sLs V k st l
theorem sLs_s (V : xV) (k : Nat) (st : xS) (l : Nat) : sLs V k st (l + 1) = if bdB (sLs V k st l).1 k l = true then sLi V (sLs V k st l) k l else sLs V k st l := rfl
def sEnd (V : xV) (S : Nat → List Nat) (s1 s3 : xS) (k : Nat) : xS := if s1.1 3 k = (S (s1.1 1 k)).length ∧ s3.1 4 k = 0 then sCol V s3 k else s3
def sVis (V : xV) (S : Nat → List Nat) (e : xT2) (st : xS) (k : Nat) : xS := sEnd V S (sTell V S st k) (sLs V k (sBA V S e (sTell V S st k) k) 10) k
theorem wf_ls {V : xV} {S : Nat → List Nat} {N : Nat} {st : xS} (w : wfX S N st) {k : Nat} : ∀ l, l ≤ 10 → wfX S (N + l) (sLs V k st l) ∧ (sLs V k st l).2.1 9 = st.2.1 9 ∧ (∀ a b, a ≠ 8 → a ≠ 6 → (sLs V k st l).1 a b = st.1 a b) := by
  intro l
  induction l with
  | zero => intro _; exact ⟨w, rfl, fun _ _ _ _ => rfl⟩
  | succ l ih =>
    intro hl
    obtain ⟨a, b, c⟩ := ih (by omega)
    rw [sLs_s]
    by_cases z : bdB (sLs V k st l).1 k l = true
    · rw [if_pos z]
      obtain ⟨a', b', c'⟩ := wf_li (V := V) a (k := k) (show l < 10 by omega) ((bdB_i _ _ _).mp z).1
      exact ⟨a', by rw [b', b], fun x y h8 h6 => by rw [c' x y h8 h6, c x y h8 h6]⟩
    · rw [if_neg z]
      exact ⟨⟨a.1, a.2.1, Nat.le_succ_of_le a.2.2.1, a.2.2.2⟩, b, c⟩
theorem wf_ba {V : xV} {S : Nat → List Nat} {e : xT2} {N : Nat} {st : xS} (w : wfX S N st) {k : Nat} (hk : k < 4) : wfX S N (sBA V S e st k) ∧ (sBA V S e st k).2.1 9 = st.2.1 9 ∧ (∀ a b, a = 0 ∨ a = 1 ∨ a = 3 ∨ a = 5 ∨ a = 6 ∨ a = 8 → (sBA V S e st k).1 a b = st.1 a b) := by
  obtain ⟨w1, w2, w3, w4, w5⟩ := w
  have q9 : ∀ (B : Nat) (cst : Nat → Nat) x, (sBs V e B cst k st x).2.1 9 = st.2.1 9 := by
    intro B cst x
    induction x with
    | zero => rfl
    | succ x ih =>
      show (if B.testBit x = true then sBuy V e (sBs V e B cst k st x) k x (cst x) else sBs V e B cst k st x).2.1 9 = _
      by_cases z : B.testBit x = true
      · rw [if_pos z]
        unfold sBuy
        split
        · exact ih
        · exact ih
      · rw [if_neg z]; exact ih
  unfold sBA
  by_cases z : st.1 3 k = (S (st.1 1 k)).length ∧ st.1 4 k ≠ 0 ∧ cB V e st.1 (st.1 4 k) ≠ 0 ∧ cP V e st.1 (st.1 4 k) ≤ st.1 2 k
  · rw [if_pos z]
    obtain ⟨i1, i2, i3, i4, i5, i6, i7⟩ := sBs_inv (V := V) (e := e) (B := cB V e st.1 (st.1 4 k)) (cst := costF V e st.1) w1 w2 hk 10 (Nat.le_refl _)
    exact ⟨⟨i1, i2, by rw [i6]; exact w3, by rw [i6, i7]; exact w4, by rw [i7]; exact w5⟩, q9 _ _ 10, i5⟩
  · rw [if_neg z]
    exact ⟨⟨w1, w2, w3, w4, w5⟩, rfl, fun _ _ _ => rfl⟩
theorem wf_vis {V : xV} {S : Nat → List Nat} {e : xT2} {N : Nat} {st : xS} (hw : ∀ k, k < 6 → wfS (S k)) (w : wfX S N st) {k : Nat} (hk : k < 4) (htk : (st.1 0 0).testBit k = true) : wfX S (N + 10) (sVis V S e st k) ∧ (sVis V S e st k).2.1 9 = st.2.1 9 ∧ (∀ a b, a = 0 ∨ a = 1 ∨ a = 5 ∨ a = 10 → (sVis V S e st k).1 a b = st.1 a b) := by
  obtain ⟨w1, w2, w3, w4, w5⟩ := w
  have t := wf_tell (V := V) hw w1 w2 hk htk
  have wt : wfX S N (sTell V S st k) := ⟨t.1, t.2, w3, w4, w5⟩
  have ft : ∀ a b, a ≠ 3 → a ≠ 4 → (sTell V S st k).1 a b = st.1 a b := fun a b h3 h4 => by simp [sTell, h2u, h3, h4]
  obtain ⟨b1, b2, b3⟩ := wf_ba (V := V) (e := e) wt hk
  obtain ⟨c1, c2, c3⟩ := wf_ls (V := V) b1 (k := k) 10 (Nat.le_refl _)
  have f10 : ∀ (st : xS), (sBA V S e st k).1 10 0 = st.1 10 0 ∨ True := fun _ => Or.inr trivial
  have g10 : ∀ b, (sBA V S e (sTell V S st k) k).1 10 b = (sTell V S st k).1 10 b := fun b => by
    have h : ∀ (B : Nat) (cst : Nat → Nat) x, (sBs V e B cst k (sTell V S st k) x).1 10 b = (sTell V S st k).1 10 b := by
      intro B cst x
      induction x with
      | zero => rfl
      | succ x ih =>
        show (if B.testBit x = true then sBuy V e (sBs V e B cst k (sTell V S st k) x) k x (cst x) else sBs V e B cst k (sTell V S st k) x).1 10 b = _
        by_cases z : B.testBit x = true
        · rw [if_pos z]
          simp [sBuy, h2u]
          exact ih
        · rw [if_neg z]; exact ih
    unfold sBA
    split
    · exact h _ _ 10
    · rfl
  unfold sVis sEnd
  by_cases z : (sTell V S st k).1 3 k = (S ((sTell V S st k).1 1 k)).length ∧ (sLs V k (sBA V S e (sTell V S st k) k) 10).1 4 k = 0
  · rw [if_pos z]
    obtain ⟨d1, d2, d3⟩ := wf_col (V := V) c1 hk
    refine ⟨d1, by rw [d2, c2, b2]; rfl, fun a b h => ?_⟩
    rw [d3 a b (by omega) (by omega), c3 a b (by omega) (by omega)]
    by_cases h10 : a = 10
    · subst h10; rw [g10, ft _ _ (by omega) (by omega)]
    · rw [b3 a b (by omega), ft _ _ (by omega) (by omega)]
  · rw [if_neg z]
    refine ⟨c1, by rw [c2, b2]; rfl, fun a b h => ?_⟩
    rw [c3 a b (by omega) (by omega)]
    by_cases h10 : a = 10
    · subst h10; rw [g10, ft _ _ (by omega) (by omega)]
    · rw [b3 a b (by omega), ft _ _ (by omega) (by omega)]
/-- the class: listeners, then the closing -/
theorem lsC {S : Nat → List Nat} {e : xT2} {V : xV} {o o1 : Nat} {C0 : xMem} (X : CxC S e V o o1 C0) {N : Nat} (hN : N < 2 ^ 29) {st : xS} (w : wfX S N st) (hn : st.2.1 9 ≠ 0) {C : xMem} (E : EvC o o1 C0 st C) {k : Nat} (hk : k < 4) (p : Prop) [Decidable p] (post : xMem → Prop) (hp : ∀ C', EvC o o1 C0 (if p ∧ (sLs V k st 10).1 4 k = 0 then sCol V (sLs V k st 10) k else sLs V k st 10) C' → post C') : wX1_visit_166 post (nI k) (b2i p) C := by
  obtain ⟨ho, ho1, oV, -, wE, -, wS⟩ := id X
  have hk4 : kC o = 4 := by rcases ho with rfl | rfl <;> decide
  have oclamp : (nI o).toNatClampNeg = o := nI_clamp (by omega)
  have key : ∀ (m l : Nat) (C2 : xMem), l + m = 10 → EvC o o1 C0 (sLs V k st l) C2 → wX1_visit_169 post (m + 1) (nI k) (b2i p) (nI l) C2 := by
    intro m
    induction m with
    | zero =>
      intro l C2 el E2
      have : l = 10 := by omega
      subst this
      obtain ⟨w2, w2b, w2c⟩ := wf_ls (V := V) w (k := k) 10 (Nat.le_refl _)
      have wk := w2.1.2.2.2.2.1 k hk
      rw [wX1_visit_169]; dsimp only
      rw [if_pos (show (10 : Int32) ≤ nI 10 by decide)]
      by_cases z : p
      · rw [b2i_t z, if_neg (by decide), E2.1, oclamp, nI_clamp (by omega), (E2.2.2.1.2.2.2.2.2.2.1 k hk).2.2.2]
        refine ⟨hk4, vl hk (by decide), ?_⟩
        by_cases z2 : (sLs V k st 10).1 4 k = 0
        · rw [if_pos (show nI ((sLs V k st 10).1 4 k) = 0 by rw [z2]; rfl)]
          rw [if_pos ⟨z, z2⟩] at hp
          exact colC X w2 E2 hk _ hp
        · rw [if_neg (show ¬ nI ((sLs V k st 10).1 4 k) = 0 from fun q => z2 ((n0_n wk.2.2.2.1).mp q))]
          rw [if_neg (fun q => z2 q.2)] at hp
          exact hp C2 E2
      · rw [b2i_f z, if_pos rfl]
        rw [if_neg (fun q => z q.1)] at hp
        exact hp C2 E2
    | succ m ih =>
      intro l C2 el E2
      have hl : l < 10 := by omega
      obtain ⟨w2, w2b, w2c⟩ := wf_ls (V := V) w (k := k) l (by omega)
      rw [wX1_visit_169]; dsimp only
      unfold wX1_visit_196
      rw [if_neg (show ¬ (10 : Int32) ≤ nI l from nI_ge hl (by decide)), E2.1, oclamp]
      refine ⟨hk4, ?_⟩
      refine isBoundC E2.2.2.1 w2.1.2.1 hl hk _ (fun z => ?_) (fun z => ?_)
      · rw [if_neg (by decide)]
        refine lisC X (N := N + l) (by omega) w2 (by rw [w2b]; exact hn) E2 hk hl _ (fun C3 E3 => ?_)
        intro v1 ev
        subst ev
        rw [z_add1]
        refine ih (l + 1) C3 (by omega) ?_
        rw [sLs_s, if_pos ((bdB_i _ _ _).mpr z)]
        exact E3
      · rw [if_pos rfl]
        intro v1 ev
        subst ev
        rw [z_add1]
        refine ih (l + 1) C2 (by omega) ?_
        rw [sLs_s, if_neg (fun q => z ((bdB_i _ _ _).mp q))]
        exact E2
  exact ⟨11, key 10 0 C rfl E⟩
theorem visC {S : Nat → List Nat} {e : xT2} {V : xV} {o o1 : Nat} {C0 : xMem} (X : CxC S e V o o1 C0) {N : Nat} (hN : N < 2 ^ 29) {st : xS} (w : wfX S N st) (hn : st.2.1 9 ≠ 0) {C : xMem} (E : EvC o o1 C0 st C) {k : Nat} (hk : k < 4) (htk : (st.1 0 0).testBit k = true) (post : xMem → Prop) (hp : ∀ C', EvC o o1 C0 (sVis V S e st k) C' → post C') : wX1_visit (nI k) C post := by
  obtain ⟨ho, ho1, oV, -, wE, -, wS⟩ := id X
  have hk4 : kC o = 4 := by rcases ho with rfl | rfl <;> decide
  have hk5 : kC o1 = 5 := by rcases ho1 with rfl | rfl <;> decide
  have oclamp : (nI o).toNatClampNeg = o := nI_clamp (by omega)
  have o1clamp : (nI o1).toNatClampNeg = o1 := nI_clamp (by omega)
  have wk0 := w.1.2.2.2.2.1 k hk
  have hSw : ∀ k, k < 6 → wfS (S k) := fun k hk => (wS k hk).1
  have t := wf_tell (V := V) hSw w.1 w.2.1 hk htk
  have wt : wfX S N (sTell V S st k) := ⟨t.1, t.2, w.2.2⟩
  have t1k : (sTell V S st k).1 1 k = st.1 1 k := by simp [sTell, h2u]
  unfold wX1_visit wX1_storyOf
  rw [E.1, oclamp, nI_clamp (by omega), (E.2.2.1.2.2.2.2.2.2.1 k hk).1]
  refine ⟨hk4, vl hk (by decide), ?_⟩
  intro v3 e3
  subst e3
  rw [if_neg (nI_pos (by omega)), if_neg (show ¬ (6 : Int32) ≤ nI (st.1 1 k) from nI_ge wk0.1 (by decide))]
  refine ⟨vl wk0.1 (by decide), ?_⟩
  rw [nI_clamp (by omega)]
  dsimp only
  rw [if_neg (show ¬ 3 + 2 * st.1 1 k = 0 by omega)]
  refine tellC X w.1 w.2.1 E hk _ (fun C1 E1 => ?_)
  obtain ⟨sV1, rE1, rS1, oko⟩ := cxC_law X E1
  have wk1 := wt.1.2.2.2.2.1 k hk
  have tl1 := wt.2.1 k hk
  have hl72 := (hSw _ wk0.1).1
  rw [t1k] at tl1
  rw [E1.1, oclamp, (E1.2.2.1.2.2.2.2.2.2.1 k hk).2.2.1, (rS1 _ wk0.1).1]
  refine ⟨hk4, vl hk (by decide), ?_⟩
  -- what comes behind the buying
  have tail : ∀ (p : Prop) [Decidable p], (p ↔ (sTell V S st k).1 3 k = (S ((sTell V S st k).1 1 k)).length) → ∀ C2, EvC o o1 C0 (sBA V S e (sTell V S st k) k) C2 → wX1_visit_166 post (nI k) (b2i p) C2 := by
    intro p _ hpp C2 E2
    obtain ⟨b1, b2, b3⟩ := wf_ba (V := V) (e := e) wt hk
    refine lsC X hN b1 (by rw [b2]; exact hn) E2 hk p _ (fun C' E' => hp C' ?_)
    unfold sVis sEnd
    by_cases z : p ∧ (sLs V k (sBA V S e (sTell V S st k) k) 10).1 4 k = 0
    · rw [if_pos z] at E'
      rw [if_pos ⟨hpp.mp z.1, z.2⟩]
      exact E'
    · rw [if_neg z] at E'
      rw [if_neg (fun q => z ⟨hpp.mpr q.1, q.2⟩)]
      exact E'
  by_cases z1 : (sTell V S st k).1 3 k < (S (st.1 1 k)).length
  · rw [if_pos (nI_lt z1 (by omega))]
    unfold wX1_visit_38 wX1_visit_90 wX1_visit_91
    rw [if_pos rfl, if_pos rfl]
    have := tail False ⟨fun q => q.elim, fun q => by rw [t1k] at q; omega⟩ C1 (by
      unfold sBA
      rw [if_neg (fun q => by have := q.1; rw [t1k] at this; omega)]
      exact E1)
    exact this
  rw [if_neg (nI_nlt (by omega) (by omega))]
  have zend : (sTell V S st k).1 3 k = (S ((sTell V S st k).1 1 k)).length := by rw [t1k]; omega
  have tl := tail True ⟨fun _ => zend, fun _ => trivial⟩
  rw [b2i_t trivial] at tl
  have no : ∀ C2, EvC o o1 C0 (sTell V S st k) C2 → ¬ ((sTell V S st k).1 4 k ≠ 0 ∧ cB V e (sTell V S st k).1 ((sTell V S st k).1 4 k) ≠ 0 ∧ cP V e (sTell V S st k).1 ((sTell V S st k).1 4 k) ≤ (sTell V S st k).1 2 k) → wX1_visit_166 post (nI k) 1 C2 := fun C2 E2 q => tl C2 (by
    unfold sBA
    rw [if_neg (fun z => q z.2)]
    exact E2)
  unfold wX1_visit_38 wX1_visit_90 wX1_visit_91
  rw [if_neg (by decide), E1.1, oclamp, nI_clamp (by omega), (E1.2.2.1.2.2.2.2.2.2.1 k hk).2.2.2]
  refine ⟨hk4, vl hk (by decide), ?_⟩
  by_cases z2 : (sTell V S st k).1 4 k = 0
  · rw [if_pos (show nI ((sTell V S st k).1 4 k) = 0 by rw [z2]; rfl), if_pos rfl]
    exact no C1 E1 (fun q => q.1 z2)
  rw [if_neg (show ¬ nI ((sTell V S st k).1 4 k) = 0 from fun q => z2 ((n0_n wk1.2.2.2.1).mp q)), E1.2.1, o1clamp]
  refine ⟨hk4, vl hk (by decide), hk4, hk5, ?_⟩
  refine chooseC oko oV sV1 E1.2.2.1 wE rE1 (fun x hx => (wt.1.2.2.2.2.2 x hx).2.2.2.1) (w := (sTell V S st k).1 4 k) wk1.2.2.2.1 (by omega) _ (fun C2 f1 f2 f3 f4 => ?_)
  have E2 := EvC_cho ho ho1 E1 f1
  by_cases z3 : cB V e (sTell V S st k).1 ((sTell V S st k).1 4 k) = 0
  · rw [b2i_f (fun q => q z3), if_pos rfl, if_pos rfl]
    exact no C2 E2 (fun q => q.2.1 z3)
  rw [b2i_t z3, if_neg (by decide), if_neg (by decide), E2.1, oclamp, (E2.2.2.1.2.2.2.2.2.2.1 k hk).2.1, f3 z3]
  refine ⟨hk4, vl hk (by decide), ?_⟩
  have hcp : cP V e (sTell V S st k).1 ((sTell V S st k).1 4 k) ≤ 9990 := by
    have a := ws_le (f := costF V e (sTell V S st k).1) (b := 999) (n := 10) (fun j _ => oV 1 _ (by omega)) (cB V e (sTell V S st k).1 ((sTell V S st k).1 4 k)) 10 (Nat.le_refl _)
    have : cP V e (sTell V S st k).1 ((sTell V S st k).1 4 k) = ws (costF V e (sTell V S st k).1) 10 (cB V e (sTell V S st k).1 ((sTell V S st k).1 4 k)) := rfl
    omega
  by_cases z4 : (sTell V S st k).1 2 k < cP V e (sTell V S st k).1 ((sTell V S st k).1 4 k)
  · rw [if_pos (nI_lt z4 (by omega))]
    exact no C2 E2 (fun q => by omega)
  rw [if_neg (nI_nlt (by omega) (by omega))]
  obtain ⟨b1, b2⟩ := cB_in (V := V) (e := e) (h := (sTell V S st k).1) (w := (sTell V S st k).1 4 k)
  refine ⟨11, bsC X wt.1 wt.2.1 E2 hk b1 f2 f4 b2 (by
    have : cP V e (sTell V S st k).1 ((sTell V S st k).1 4 k) = ws (costF V e (sTell V S st k).1) 10 (cB V e (sTell V S st k).1 ((sTell V S st k).1 4 k)) := rfl
    omega) 1 _ (fun C3 E3 => tl C3 ?_)⟩
  unfold sBA
  rw [if_pos ⟨zend, z2, z3, by omega⟩]
  exact E3
