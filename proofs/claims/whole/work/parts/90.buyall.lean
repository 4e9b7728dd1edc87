/-! (2) the ENDS are bought -/
def sBs (V : xV) (e : xT2) (B : Nat) (cst : Nat → Nat) (k : Nat) (st : xS) : Nat → xS
  | 0 => st
  | x + 1 => if B.testBit x = true then sBuy V e (sBs V e B cst k st x) k x (cst x) else sBs V e B cst k st x
def sBA (V : xV) (S : Nat → List Nat) (e : xT2) (st : xS) (k : Nat) : xS := if st.1 3 k = (S (st.1 1 k)).length ∧ st.1 4 k ≠ 0 ∧ cB V e st.1 (st.1 4 k) ≠ 0 ∧ cP V e st.1 (st.1 4 k) ≤ st.1 2 k then sBs V e (cB V e st.1 (st.1 4 k)) (costF V e st.1) k st 10 else st
theorem sBs_inv {V : xV} {S : Nat → List Nat} {e : xT2} {B : Nat} {cst : Nat → Nat} {k : Nat} {st : xS} (w : wfH S st.1) (t : ∀ k, k < 4 → st.1 3 k ≤ (S (st.1 1 k)).length) (hk : k < 4) : ∀ x, x ≤ 10 → wfH S (sBs V e B cst k st x).1 ∧ (∀ j, j < 4 → (sBs V e B cst k st x).1 3 j ≤ (S ((sBs V e B cst k st x).1 1 j)).length) ∧ (sBs V e B cst k st x).1 2 k = st.1 2 k - ws cst x B ∧ (∀ y, x ≤ y → (sBs V e B cst k st x).1 9 y = st.1 9 y) ∧ (∀ a b, a = 0 ∨ a = 1 ∨ a = 3 ∨ a = 5 ∨ a = 6 ∨ a = 8 → (sBs V e B cst k st x).1 a b = st.1 a b) ∧ (sBs V e B cst k st x).2.1 3 = st.2.1 3 ∧ (sBs V e B cst k st x).2.1 7 = st.2.1 7 := by
  intro x
  induction x with
  | zero => intro _; exact ⟨w, t, (Nat.sub_zero _).symm, fun _ _ => rfl, fun _ _ _ => rfl, rfl, rfl⟩
  | succ x ih =>
    intro hx
    obtain ⟨i1, i2, i3, i4, i5, i6, i7⟩ := ih (by omega)
    unfold sBs ws
    by_cases z : B.testBit x = true
    · rw [if_pos z, if_pos z]
      have wb := wf_buy (V := V) (e := e) (st := sBs V e B cst k st x) i1 i2 hk (show x < 10 by omega) (cst x)
      refine ⟨wb.1, wb.2, ?_, fun y hy => ?_, fun a b hab => ?_, ?_, ?_⟩
      · simp [sBuy, h2u]
        rw [i3]; omega
      · have := i4 y (by omega)
        simp [sBuy, h2u, show ¬ y = x by omega]
        exact this
      · have := i5 a b hab
        simp [sBuy, h2u, show ¬ a = 2 by omega, show ¬ a = 9 by omega, show ¬ a = 13 by omega, show ¬ a = 4 by omega]
        exact this
      · unfold sBuy
        split
        · exact i6
        · exact i6
      · unfold sBuy
        split
        · exact i7
        · exact i7
    · rw [if_neg z, if_neg z]
      exact ⟨i1, i2, i3, fun y hy => i4 y (by omega), i5, i6, i7⟩
theorem ws_pre {f : Nat → Nat} {x B : Nat} (hx : x < 10) (hb : B.testBit x = true) : ws f x B + f x ≤ ws f 10 B := by
  have h1 : ws f (x + 1) B = ws f x B + f x := if_pos hb
  have mono : ∀ m n, ws f n B ≤ ws f (n + m) B := by
    intro m
    induction m with
    | zero => intro n; exact Nat.le_refl _
    | succ m ih =>
      intro n
      refine Nat.le_trans (ih n) ?_
      show _ ≤ ws f (n + m + 1) B
      show _ ≤ if B.testBit (n + m) = true then ws f (n + m) B + f (n + m) else ws f (n + m) B
      split <;> omega
  have := mono (10 - (x + 1)) (x + 1)
  rw [show x + 1 + (10 - (x + 1)) = 10 by omega] at this
  omega
theorem bsC {S : Nat → List Nat} {e : xT2} {V : xV} {o o1 : Nat} {C0 : xMem} (X : CxC S e V o o1 C0) {st : xS} (w : wfH S st.1) (t : ∀ k, k < 4 → st.1 3 k ≤ (S (st.1 1 k)).length) {C : xMem} (E : EvC o o1 C0 st C) {k B : Nat} {cst : Nat → Nat} (hk : k < 4) (hB : B < 1024) (h8 : gi C 41 8 = nI B) (h45 : ∀ x, x < 10 → B.testBit x = true → gi C 45 x = nI (cst x)) (hB2 : ∀ x, B.testBit x = true → (e 0 0).testBit x = true ∧ 1 ≤ st.1 9 x) (hc : ws cst 10 B ≤ st.1 2 k) (a3 : Int32) (post : xMem → Prop) (hp : ∀ C', EvC o o1 C0 (sBs V e B cst k st 10) C' → wX1_visit_166 post (nI k) a3 C') : wX1_visit_120 post 11 (nI k) a3 0 C := by
  have key : ∀ (m x : Nat) (C2 : xMem), x + m = 10 → EvC o o1 C0 (sBs V e B cst k st x) C2 → (∀ c i, c = 41 ∨ c = 45 → gi C2 c i = gi C c i) → wX1_visit_120 post (m + 1) (nI k) a3 (nI x) C2 := by
    intro m
    induction m with
    | zero =>
      intro x C2 ex E2 f2
      have : x = 10 := by omega
      subst this
      rw [wX1_visit_120]; dsimp only
      rw [if_pos (show (10 : Int32) ≤ nI 10 by decide)]
      exact hp C2 E2
    | succ m ih =>
      intro x C2 ex E2 f2
      have hx : x < 10 := by omega
      obtain ⟨i1, i2, i3, i4, i5, i6, i7⟩ := sBs_inv (V := V) (e := e) (B := B) (cst := cst) w t hk x (by omega)
      rw [wX1_visit_120]; dsimp only
      unfold wX1_visit_160
      rw [if_neg (show ¬ (10 : Int32) ≤ nI x from nI_ge hx (by decide)), f2 41 8 (Or.inl rfl), h8, hasC_n (by omega) hx]
      by_cases z : B.testBit x = true
      · rw [b2i_t z, if_neg (by decide)]
        refine ⟨vl hx (by decide), ?_⟩
        rw [nI_clamp (by omega), f2 45 x (Or.inr rfl), h45 x hx z]
        have hpre := ws_pre (f := cst) hx z
        refine buyC X i1 E2 hk hx (by rw [i3]; omega) (by rw [i4 x (Nat.le_refl _)]; exact (hB2 x z).2) (hB2 x z).1 _ (fun C3 E3 f3 => ?_)
        have h9 := ih (x + 1) C3 (by omega) (by unfold sBs; rw [if_pos z]; exact E3) (fun c i hc => by rw [f3 c i hc]; exact f2 c i hc)
        intro v1 ev
        subst ev
        rw [z_add1]
        exact h9
      · rw [b2i_f z, if_pos rfl]
        have h9 := ih (x + 1) C2 (by omega) (by unfold sBs; rw [if_neg z]; exact E2) f2
        intro v1 ev
        subst ev
        rw [z_add1]
        exact h9
  exact key 10 0 C rfl E (fun _ _ _ => rfl)
theorem bsM {S : Nat → List Nat} {e : xT2} {V : xV} {r : Nat} {M0 : xMem} (X : CxM S e V r M0) {st : xS} (w : wfH S st.1) (t : ∀ k, k < 4 → st.1 3 k ≤ (S (st.1 1 k)).length) {M : xMem} (E : EvM r M0 st M) {k B : Nat} {cst : Nat → Nat} (hk : k < 4) (hB : B < 1024) (h40 : ∀ x, x < 10 → B.testBit x = true → gi M 40 x = nI (cst x)) (hB2 : ∀ x, B.testBit x = true → (e 0 0).testBit x = true ∧ 1 ≤ st.1 9 x) (hc : ws cst 10 B ≤ st.1 2 k) (post : xMem → Prop) (hp : ∀ M', EvM r M0 (sBs V e B cst k st 10) M' → post M') : wX12_buysAll_77 post 11 (nI k) (nI B) 0 M := by
  have key : ∀ (m x : Nat) (M2 : xMem), x + m = 10 → EvM r M0 (sBs V e B cst k st x) M2 → (∀ c i, c = 40 → gi M2 c i = gi M c i) → wX12_buysAll_77 post (m + 1) (nI k) (nI B) (nI x) M2 := by
    intro m
    induction m with
    | zero =>
      intro x M2 ex E2 f2
      have : x = 10 := by omega
      subst this
      rw [wX12_buysAll_77]; dsimp only
      rw [if_pos (show (10 : Int32) ≤ nI 10 by decide)]
      exact hp M2 E2
    | succ m ih =>
      intro x M2 ex E2 f2
      have hx : x < 10 := by omega
      obtain ⟨i1, i2, i3, i4, i5, i6, i7⟩ := sBs_inv (V := V) (e := e) (B := B) (cst := cst) w t hk x (by omega)
      rw [wX12_buysAll_77]; dsimp only
      unfold wX12_buysAll_108
      rw [if_neg (show ¬ (10 : Int32) ≤ nI x from nI_ge hx (by decide)), hasM_n (by omega) (by omega)]
      by_cases z : B.testBit x = true
      · rw [b2i_t z, if_neg (by decide)]
        refine ⟨vl hx (by decide), ?_⟩
        rw [nI_clamp (by omega), f2 40 x rfl, h40 x hx z]
        have hpre := ws_pre (f := cst) hx z
        refine buyM X i1 E2 hk hx (by rw [i3]; omega) (by rw [i4 x (Nat.le_refl _)]; exact (hB2 x z).2) (hB2 x z).1 _ (fun M3 E3 f3 => ?_)
        have h9 := ih (x + 1) M3 (by omega) (by unfold sBs; rw [if_pos z]; exact E3) (fun c i hc => by rw [f3 c i hc]; exact f2 c i hc)
        intro v1 ev
        subst ev
        rw [z_add1]
        exact h9
      · rw [b2i_f z, if_pos rfl]
        have h9 := ih (x + 1) M2 (by omega) (by unfold sBs; rw [if_neg z]; exact E2) f2
        intro v1 ev
        subst ev
        rw [z_add1]
        exact h9
  exact key 10 0 M rfl E (fun _ _ _ => rfl)
theorem cB_in {V : xV} {e h : xT2} {w : Nat} : cB V e h w < 1024 ∧ ∀ x, (cB V e h w).testBit x = true → (e 0 0).testBit x = true ∧ 1 ≤ h 9 x := by
  have hth := thF_lt e h
  unfold cB cBest
  rcases srB_ok (PM (e 1) w (thF e h)) (ws (costF V e h) 10) pc (thF e h + 1) with q | q
  · rw [q.1]
    exact ⟨by omega, fun x hx => by rw [Nat.zero_testBit] at hx; cases hx⟩
  · obtain ⟨q1, q2, q3, q4⟩ := q
    generalize srB (PM (e 1) w (thF e h)) (ws (costF V e h) 10) pc (thF e h + 1) = bb at q1 q2 q3
    have hb : bb < 1024 := by omega
    refine ⟨hb, fun x hx => ?_⟩
    unfold PM at q3
    rw [Bool.and_eq_true, decide_eq_true_eq] at q3
    have := (thF_t e h x).mp ((told_sub hb hth).mp q3.1 x (b10 hb hx) hx)
    exact ⟨this.2.1, by omega⟩
theorem baM {S : Nat → List Nat} {e : xT2} {V : xV} {r : Nat} {M0 : xMem} (X : CxM S e V r M0) {st : xS} (w : wfH S st.1) (t : ∀ k, k < 4 → st.1 3 k ≤ (S (st.1 1 k)).length) {M : xMem} (E : EvM r M0 st M) {k : Nat} (hk : k < 4) (post : xMem → Prop) (hp : ∀ M', EvM r M0 (sBA V S e st k) M' → post M') : wX12_buysAll (nI k) M post := by
  obtain ⟨sV, rE, rS⟩ := cxM_law X E
  obtain ⟨hr, oV, -, wE, -, wS⟩ := id X
  obtain ⟨e1, e3, e4, e5⟩ := id E
  have wk := w.2.2.2.2.1 k hk
  have mk := e3.1 k hk
  have h9 : ∀ x, x < 10 → st.1 9 x ≤ 9 := fun x hx => (w.2.2.2.2.2 x hx).2.2.2.1
  unfold wX12_buysAll
  refine atEndM X w E hk _ (fun z1 => ?_) (fun z1 => ?_)
  rotate_left
  · rw [if_pos rfl]
    refine hp M ?_
    unfold sBA
    rw [if_neg (fun q => z1 q.1)]
    exact E
  rw [if_neg (by decide), nI_clamp (by omega), mk.2.2.2.2]
  refine ⟨vl hk (by decide), ?_⟩
  by_cases z2 : st.1 4 k = 0
  · rw [if_pos (show nI (st.1 4 k) = 0 by rw [z2]; rfl)]
    refine hp M ?_
    unfold sBA
    rw [if_neg (fun q => q.2.1 z2)]
    exact E
  rw [if_neg (show ¬ nI (st.1 4 k) = 0 from fun q => z2 ((n0_n wk.2.2.2.1).mp q))]
  refine ⟨vl hk (by decide), ?_⟩
  refine layM oV sV e1 e3 wE rE h9 (w := st.1 4 k) wk.2.2.2.1 _ (fun M2 f1 f2 f3 f4 => ?_)
  have E2 := EvM_ask E f1
  by_cases z3 : cB V e st.1 (st.1 4 k) = 0
  · rw [b2i_f (fun q => q z3), if_pos rfl]
    refine hp M2 ?_
    unfold sBA
    rw [if_neg (fun q => q.2.2.1 z3)]
    exact E2
  rw [b2i_t z3, if_neg (by decide)]
  refine ⟨vl hk (by decide), ?_⟩
  have mk2 := E2.2.1.1 k hk
  obtain ⟨b1, b2⟩ := cB_in (V := V) (e := e) (h := st.1) (w := st.1 4 k)
  have hcp : cP V e st.1 (st.1 4 k) ≤ 9990 := by
    have a := ws_le (f := costF V e st.1) (b := 999) (n := 10) (fun j _ => oV 1 _ (by omega)) (cB V e st.1 (st.1 4 k)) 10 (Nat.le_refl _)
    have : cP V e st.1 (st.1 4 k) = ws (costF V e st.1) 10 (cB V e st.1 (st.1 4 k)) := rfl
    omega
  rw [f3, show m70 (costF V e st.1) (cB V e st.1 (st.1 4 k)) = nI (cP V e st.1 (st.1 4 k)) from if_neg z3, mk2.2.2.1]
  by_cases z4 : cP V e st.1 (st.1 4 k) ≤ st.1 2 k
  rotate_left
  · rw [if_neg (nI_ge (by omega) (by omega))]
    refine hp M2 ?_
    unfold sBA
    rw [if_neg (fun q => z4 q.2.2.2)]
    exact E2
  rw [if_pos (nI_le z4 (by omega))]
  have hp' : ∀ M', EvM r M0 (sBs V e (cB V e st.1 (st.1 4 k)) (costF V e st.1) k st 10) M' → post M' := fun M' E' => by
    refine hp M' ?_
    unfold sBA
    rw [if_pos ⟨z1, z2, z3, z4⟩]
    exact E'
  have key : ∀ (m x : Nat) (M3 : xMem), x + m = 10 → EvM r M0 st M3 → (∀ c i, c = 39 ∨ (c = 0 ∧ i = 69) → gi M3 c i = gi M2 c i) → (∀ y, y < x → gi M3 40 y = gi M2 39 y) → wX12_buysAll_46 post (m + 1) (nI k) (nI x) M3 := by
    intro m
    induction m with
    | zero =>
      intro x M3 ex E3 g1 g2
      have : x = 10 := by omega
      subst this
      rw [wX12_buysAll_46]; dsimp only
      rw [if_pos (show (10 : Int32) ≤ nI 10 by decide), g1 0 69 (Or.inr ⟨rfl, rfl⟩), f2, show m69 (cB V e st.1 (st.1 4 k)) = nI (cB V e st.1 (st.1 4 k)) from if_neg z3]
      intro v2 e2
      subst e2
      exact ⟨11, bsM X w t E3 hk b1 (fun x hx hb => by rw [g2 x hx]; exact f4 x hx hb) b2 z4 post hp'⟩
    | succ m ih =>
      intro x M3 ex E3 g1 g2
      have hx : x < 10 := by omega
      rw [wX12_buysAll_46]; dsimp only
      rw [if_neg (show ¬ (10 : Int32) ≤ nI x from nI_ge hx (by decide))]
      refine ⟨vl hx (by decide), vl hx (by decide), ?_⟩
      intro M5 e5
      subst e5
      intro v6 e6
      subst e6
      rw [nI_clamp (by omega), z_add1]
      obtain ⟨j1, j2, j3, j4⟩ := E3
      refine ih (x + 1) _ (by omega) ⟨by rw [g_c (by omega)]; exact j1, HM_keep (fun c i a b d => by rw [g_c (by omega)]) (fun i hi => by rw [g_c (by omega)]) j2, QM_k j3 (fun i _ _ => by rw [g_c (by omega)]), fun c i hc hn => ?_⟩ (fun c i hc => by rw [g_c (by omega)]; exact g1 c i hc) (fun y hy => ?_)
      · have hc2 := hc
        unfold evM cntM at hc2
        rw [g_c (by omega)]
        exact j4 c i hc hn
      · by_cases ey : y = x
        · subst ey
          rw [g_same]
          exact g1 39 y (Or.inl rfl)
        · rw [g_i ey]
          exact g2 y (by omega)
  exact ⟨11, key 10 0 M2 rfl E2 (fun _ _ _ => rfl) (fun y hy => absurd hy (by omega))⟩
