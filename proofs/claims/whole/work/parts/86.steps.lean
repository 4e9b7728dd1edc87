/-! the steps of an evening -/
def sTo (V : xV) (S : Nat → List Nat) (h : xT2) (k : Nat) : Nat := min (S (h 1 k)).length (h 3 k + V 0 (tV h k))
def sTell (V : xV) (S : Nat → List Nat) (st : xS) (k : Nat) : xS := (h2u (h2u st.1 4 k ((((S (st.1 1 k)).take (sTo V S st.1 k)).drop (st.1 3 k)).foldl trn (st.1 4 k))) 3 k (sTo V S st.1 k), st.2)
def sX (x : Nat) : Nat := (25173 * x + 13849) % 65536
def sCl (V : xV) (e h : xT2) (x : Nat) : Nat := if sX (h 13 0) % 10 < V 5 (eV e h x) then e 1 x &&& (e 1 x - 1) else e 1 x
def sBuy (V : xV) (e : xT2) (st : xS) (k x pr : Nat) : xS := (h2u (h2u (h2u (h2u st.1 2 k (st.1 2 k - pr)) 9 x (st.1 9 x - 1)) 13 0 (sX (st.1 13 0))) 4 k (st.1 4 k &&& (1023 ^^^ sCl V e st.1 x)), if sX (st.1 13 0) % 10 < V 5 (eV e st.1 x) then qu (qu (qu st.2.1 0 (st.2.1 0 + pr)) 1 (st.2.1 1 + 1)) 2 (st.2.1 2 + 1) else qu (qu st.2.1 0 (st.2.1 0 + pr)) 1 (st.2.1 1 + 1), st.2.2)
theorem rem10n {a : Nat} (h : a < 2 ^ 31) : nI a - nI a / 10 * 10 = nI (a % 10) := pk_rem (d := 10) h (by decide) (by decide)
theorem and16 {a : Nat} (h : a < 2 ^ 31) : nI a &&& 65535 = nI (a % 65536) := pk_andN (by omega) 16 (by decide)
theorem EvC_ask {o o1 : Nat} (ho : o = 49 ∨ o = 67) (ho1 : o1 = 18 ∨ o1 = 25) {C0 : xMem} {st : xS} {C C' : xMem} (E : EvC o o1 C0 st C) (f : ∀ c i, askC o1 c i → gi C' c i = gi C c i) : EvC o o1 C0 st C' := by
  obtain ⟨e1, e2, e3, e4, e5⟩ := E
  refine ⟨by rw [f _ _ (by unfold askC; omega)]; exact e1, by rw [f _ _ (by unfold askC; omega)]; exact e2, HC_keep (fun c i a b => f c i (by unfold askC; omega)) e3, QC_k e4 (fun i _ => f 78 i (by unfold askC; omega)), fun c i hc => ?_⟩
  have hc2 := hc
  unfold evC at hc2
  have h2 := askC_cnt hc2.1
  rw [f c i (by rcases ho1 with rfl | rfl; exact h2.1; exact h2.2)]
  exact e5 c i hc
theorem EvC_cho {o o1 : Nat} (ho : o = 49 ∨ o = 67) (ho1 : o1 = 18 ∨ o1 = 25) {C0 : xMem} {st : xS} {C C' : xMem} (E : EvC o o1 C0 st C) (f : ∀ c i, chC o1 c i → gi C' c i = gi C c i) : EvC o o1 C0 st C' := by
  obtain ⟨e1, e2, e3, e4, e5⟩ := E
  refine ⟨by rw [f _ _ (by unfold chC askC; omega)]; exact e1, by rw [f _ _ (by unfold chC askC; omega)]; exact e2, HC_keep (fun c i a b => f c i (by unfold chC askC; omega)) e3, QC_k e4 (fun i _ => f 78 i (by unfold chC askC; omega)), fun c i hc => ?_⟩
  have hc2 := hc
  unfold evC at hc2
  have h2 := chC_cnt hc2.1
  rw [f c i (by rcases ho1 with rfl | rfl; exact h2.1; exact h2.2)]
  exact e5 c i hc
theorem EvM_ask {r : Nat} {M0 : xMem} {st : xS} {M M' : xMem} (E : EvM r M0 st M) (f : ∀ c i, chM c i → gi M' c i = gi M c i) : EvM r M0 st M' := by
  obtain ⟨e1, e3, e4, e5⟩ := E
  refine ⟨by rw [f _ _ (by unfold chM askM; omega)]; exact e1, HM_keep (fun c i a b d => f c i (by unfold chM askM; omega)) (fun i hi => f 0 i (by unfold chM askM; omega)) e3, QM_k e4 (fun i a b => f 0 i (by unfold chM askM; omega)), fun c i hc hn => ?_⟩
  have hc2 := hc
  unfold evM cntM at hc2
  rw [f c i (by unfold chM askM; omega)]
  exact e5 c i hc hn
theorem cxC_law {S : Nat → List Nat} {e : xT2} {V : xV} {o o1 : Nat} {C0 : xMem} (X : CxC S e V o o1 C0) {st : xS} {C : xMem} (E : EvC o o1 C0 st C) : semC o1 V C ∧ EC e C ∧ (∀ k, k < 6 → SC (S k) k C) ∧ okO o o1 := by
  obtain ⟨ho, ho1, oV, sV, wE, rE, rS⟩ := X
  obtain ⟨e1, e2, e3, e4, e5⟩ := E
  refine ⟨semC_keep sV (fun c i hc => e5 c i ?_), EC_keep (e5 _ _ ?_) (fun c i a b => e5 _ _ ?_) rE, fun k hk => SC_keep hk (fun c i a b => e5 _ _ ?_) (rS k hk).2, ?_⟩
  all_goals (try unfold lawO at hc); (try unfold evC cntC lawC); (try unfold okO); omega
theorem cxM_law {S : Nat → List Nat} {e : xT2} {V : xV} {r : Nat} {M0 : xMem} (X : CxM S e V r M0) {st : xS} {M : xMem} (E : EvM r M0 st M) : semM r V M ∧ EM e M ∧ ∀ k, k < 6 → SM (S k) k M := by
  obtain ⟨hr, oV, sV, wE, rE, rS⟩ := X
  obtain ⟨e1, e3, e4, e5⟩ := E
  refine ⟨semM_keep sV (fun c i a b => e5 c i ?_ ?_) (e5 _ _ ?_ ?_), EM_keep (fun c i a b d => e5 _ _ ?_ ?_) rE, fun k hk => SM_keep (fun c i a b => e5 _ _ ?_ ?_) (rS k hk).2⟩
  all_goals (try unfold evM cntM); omega
theorem sX_lt (x : Nat) : sX x < 65536 := Nat.mod_lt _ (by omega)
theorem sCl_lt {V : xV} {e h : xT2} (wE : wfE e) {x : Nat} (hx : x < 10) : sCl V e h x < 1024 := by
  have := (wE.2 x hx).1
  unfold sCl
  split
  · exact Nat.lt_of_le_of_lt Nat.and_le_left this
  · exact this
set_option maxRecDepth 20000 in
theorem buyC {S : Nat → List Nat} {e : xT2} {V : xV} {o o1 : Nat} {C0 : xMem} (X : CxC S e V o o1 C0) {st : xS} (w1 : wfH S st.1) {C : xMem} (E : EvC o o1 C0 st C) {k x pr : Nat} (hk : k < 4) (hx : x < 10) (hpr : pr ≤ st.1 2 k) (hst : 1 ≤ st.1 9 x) (htd : (e 0 0).testBit x = true) (post : Int32 → xMem → Prop) (hp : ∀ C', EvC o o1 C0 (sBuy V e st k x pr) C' → (∀ c i, c = 41 ∨ c = 45 → gi C' c i = gi C c i) → post (nI (st.1 4 k &&& sCl V e st.1 x)) C') : wX1_buyOne (nI k) (nI x) (nI pr) C post := by
  obtain ⟨sV, rE, rS, oko⟩ := cxC_law X E
  obtain ⟨ho, ho1, oV, -, wE, -, -⟩ := id X
  obtain ⟨e1, e2, e3, e4, e5⟩ := id E
  have hwx := wE.2 x hx
  have h1x := hwx.2.1 htd
  have wk := w1.2.2.2.2.1 k hk
  have wx := w1.2.2.2.2.2 x hx
  have wX := w1.2.2.2.1
  have hk4 : kC o = 4 := by rcases ho with rfl | rfl <;> decide
  have hk5 : kC o1 = 5 := by rcases ho1 with rfl | rfl <;> decide
  have oclamp : (nI o).toNatClampNeg = o := nI_clamp (by omega)
  have o1clamp : (nI o1).toNatClampNeg = o1 := nI_clamp (by omega)
  unfold wX1_buyOne
  rw [e1, e2, oclamp, o1clamp]
  refine ⟨hk4, hk5, ?_⟩
  refine askEC oko sV e3 rE hx hwx.1 (kind := 5) (by omega) _ (fun C3 k1 => ?_)
  obtain ⟨f1, f2, f3, f4, f5⟩ := id (EvC_ask ho ho1 E k1)
  obtain ⟨a1, a2, a3, a4, a5, a6, a7, a8⟩ := id f3
  have rE3 := (cxC_law X (EvC_ask ho ho1 E k1)).2.1
  rw [f1, oclamp]
  refine ⟨hk4, vl hk (by decide), vl hk (by decide), ?_⟩
  rw [nI_clamp (by omega), (a7 k hk).2.1, z_sub hpr]
  intro M8 e8
  subst e8
  have H1 := HC_u2 f3 k (st.1 2 k - pr)
  rw [g_c (c' := 78) (by omega), f1, oclamp]
  refine ⟨hk4, vl hx (by decide), vl hx (by decide), ?_⟩
  rw [nI_clamp (by omega), g_c (c' := o + 8) (by omega), (a8 x hx).2.2.2, z_subl hst]
  intro M12 e12
  subst e12
  have H2 := HC_u9 H1 x (st.1 9 x - 1)
  intro M13 e13
  rw [g_c (c' := 78) (by omega), g_c (c' := 78) (by omega), f4.1 0 (by omega), z_add] at e13
  subst e13
  intro M14 e14
  rw [g_i (by omega), g_c (c' := 78) (by omega), g_c (c' := 78) (by omega), f4.1 1 (by omega), z_add1] at e14
  subst e14
  refine ⟨vl hx (by decide), ?_⟩
  intro v16 e16
  rw [g_c (by omega), g_c (by omega), g_c (by omega), g_c (by omega), (rE3.2 x hx).1] at e16
  subst e16
  have Q2 := QC_u (QC_u (QC_k (C' := si (si C3 (o + 2) k (nI (st.1 2 k - pr))) (o + 8) x (nI (st.1 9 x - 1))) f4 (fun i _ => by rw [g_c (by omega), g_c (by omega)])) (i := 0) (by omega) (st.2.1 0 + pr)) (i := 1) (by omega) (st.2.1 1 + 1)
  have H3 := HC_keep (C' := si (si (si (si C3 (o + 2) k (nI (st.1 2 k - pr))) (o + 8) x (nI (st.1 9 x - 1))) 78 (6 + 0) (nI (st.2.1 0 + pr))) 78 (6 + 1) (nI (st.2.1 1 + 1))) (fun c i a b => by rw [g_c (by omega), g_c (by omega)]) H2
  have F3 : ∀ c i, c ≠ 78 → ¬ (o ≤ c ∧ c ≤ o + 8) → gi (si (si (si (si C3 (o + 2) k (nI (st.1 2 k - pr))) (o + 8) x (nI (st.1 9 x - 1))) 78 (6 + 0) (nI (st.2.1 0 + pr))) 78 (6 + 1) (nI (st.2.1 1 + 1))) c i = gi C3 c i := fun c i a b => by
    rw [g_c (by omega), g_c (by omega), g_c (by omega), g_c (by omega)]
  have G3 : ∀ i, i < 6 → gi (si (si (si (si C3 (o + 2) k (nI (st.1 2 k - pr))) (o + 8) x (nI (st.1 9 x - 1))) 78 (6 + 0) (nI (st.2.1 0 + pr))) 78 (6 + 1) (nI (st.2.1 1 + 1))) 78 i = gi C3 78 i := fun i hi => by
    rw [g_i (by omega), g_i (by omega), g_c (by omega), g_c (by omega)]
  show kC ((gi (si (si (si (si C3 (o + 2) k (nI (st.1 2 k - pr))) (o + 8) x (nI (st.1 9 x - 1))) 78 (6 + 0) (nI (st.2.1 0 + pr))) 78 (6 + 1) (nI (st.2.1 1 + 1))) 78 3).toNatClampNeg) = 4 ∧ _
  generalize si (si (si (si C3 (o + 2) k (nI (st.1 2 k - pr))) (o + 8) x (nI (st.1 9 x - 1))) 78 (6 + 0) (nI (st.2.1 0 + pr))) 78 (6 + 1) (nI (st.2.1 1 + 1)) = C4 at Q2 H3 F3 G3 ⊢
  have g1 : gi C4 78 3 = nI o := by rw [G3 3 (by omega)]; exact f1
  have g2 : gi C4 78 4 = nI o1 := by rw [G3 4 (by omega)]; exact f2
  rw [g1, oclamp]
  refine ⟨hk4, ?_⟩
  unfold wX4_draw
  have hX4 : gi C4 o 13 = nI (st.1 13 0) := by
    have := H3.2.2.2.2.2.1
    simpa [h2u] using this
  rw [hX4, z_mull, z_add1, and16 (by omega)]
  intro M1 eM1
  subst eM1
  refine ⟨ten_ne, ?_⟩
  rw [g_same, rem10n (by omega)]
  have H4 := HC_u13 H3 (sX (st.1 13 0))
  have Q3 := QC_k (C' := si C4 o 13 (nI (sX (st.1 13 0)))) Q2 (fun i _ => by rw [g_c (by omega)])
  have F4 : ∀ c i, c ≠ 78 → ¬ (o ≤ c ∧ c ≤ o + 8) → gi (si C4 o 13 (nI (sX (st.1 13 0)))) c i = gi C3 c i := fun c i a b => by
    rw [g_c (by omega)]; exact F3 c i a b
  have v5 := oV 5 (eV e st.1 x) (by omega)
  have v5' : V 5 (eV e st.1 x) ≤ 10 := v5
  -- the end: the threads are closed
  have fin : ∀ (C5 : xMem) (q : Nat → Nat), gi C5 78 3 = nI o → gi C5 78 4 = nI o1 → HC o (h2u (h2u (h2u st.1 2 k (st.1 2 k - pr)) 9 x (st.1 9 x - 1)) 13 0 (sX (st.1 13 0))) st.2.2.1 st.2.2.2 C5 → QC q C5 → (∀ c i, c ≠ 78 → ¬ (o ≤ c ∧ c ≤ o + 8) → gi C5 c i = gi C3 c i) → (sBuy V e st k x pr).2.1 = q → wX1_buyOne_107 post (nI k) (nI (sCl V e st.1 x)) C5 := by
    intro C5 q j1 j2 j3 j4 j5 j6
    have hcl := sCl_lt (V := V) (h := st.1) wE hx
    have h4k : gi C5 (o + 4) k = nI (st.1 4 k) := by
      have := (j3.2.2.2.2.2.2.1 k hk).2.2.2
      simpa [h2u] using this
    unfold wX1_buyOne_107
    rw [j1, oclamp]
    refine ⟨hk4, vl hk (by decide), ?_⟩
    rw [nI_clamp (by omega), h4k, z_and]
    intro v3 ev3
    subst ev3
    refine ⟨hk4, vl hk (by decide), vl hk (by decide), ?_⟩
    rw [andnot_n wk.2.2.2.1 hcl]
    intro M7 e7
    subst e7
    refine hp _ ⟨by rw [g_c (by omega)]; exact j1, by rw [g_c (by omega)]; exact j2, HC_u4 j3 k _, ?_, fun c i hc => ?_⟩ (fun c i hc => by rw [g_c (by omega), j5 c i (by omega) (by omega)]; exact k1 c i (by unfold askC; omega))
    · rw [j6]; exact QC_k j4 (fun i _ => by rw [g_c (by omega)])
    · have hc2 := hc
      unfold evC cntC lawC at hc2
      rw [g_c (by omega), j5 c i (by omega) hc2.2]
      exact f5 c i hc
  have hmod : sX (st.1 13 0) % 10 < 10 := Nat.mod_lt _ (by omega)
  have hXe : (25173 * st.1 13 0 + 13849) % 65536 = sX (st.1 13 0) := rfl
  rw [hXe]
  dsimp only
  rcases Nat.lt_or_ge (sX (st.1 13 0) % 10) (V 5 (eV e st.1 x)) with z | z0
  · rw [if_neg (nI_ge z (by omega)), z_subl h1x, z_and]
    intro v21 e21
    subst e21
    intro M22 e22
    rw [Q3.1 2 (by omega)] at e22
    have Q4 := QC_u Q3 (i := 2) (by omega) (st.2.1 2 + 1)
    have e22' : M22 = si (si C4 o 13 (nI (sX (st.1 13 0)))) 78 (6 + 2) (nI (st.2.1 2 + 1)) := by
      rw [e22]
      congr 1
      show nI (st.2.1 2) + 1 = nI (st.2.1 2 + 1)
      exact z_add1 _ 1
    subst e22'
    have := fin _ _ (by rw [g_i (by omega), g_c (by omega)]; exact g1) (by rw [g_i (by omega), g_c (by omega)]; exact g2) (HC_keep (fun c i a b => by rw [g_c (by omega)]) H4) Q4 (fun c i a b => by rw [g_c (by omega)]; exact F4 c i a b) (if_pos z)
    rw [show sCl V e st.1 x = e 1 x &&& (e 1 x - 1) from if_pos z] at this
    exact this
  · have z : ¬ sX (st.1 13 0) % 10 < V 5 (eV e st.1 x) := Nat.not_lt.mpr z0
    rw [if_pos (nI_le z0 (by omega))]
    have := fin _ _ (by rw [g_c (by omega)]; exact g1) (by rw [g_c (by omega)]; exact g2) H4 Q3 F4 (if_neg z)
    rw [show sCl V e st.1 x = e 1 x from if_neg z] at this
    exact this
