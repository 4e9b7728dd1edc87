def sEv (V : xV) (S : Nat → List Nat) (e : xT2) (st : xS) : Nat → xS
  | 0 => st
  | k + 1 => if ((sEv V S e st k).1 0 0).testBit k = true then sVis V S e (sEv V S e st k) k else sEv V S e st k
theorem sEv_s (V : xV) (S : Nat → List Nat) (e : xT2) (st : xS) (k : Nat) : sEv V S e st (k + 1) = if ((sEv V S e st k).1 0 0).testBit k = true then sVis V S e (sEv V S e st k) k else sEv V S e st k := rfl
def sNi (V : xV) (S : Nat → List Nat) (e : xT2) (st : xS) (i : Nat) : xS := (h2u (sEv V S e (st.1, qu st.2.1 9 i, st.2.2) 4).1 10 0 ((sEv V S e (st.1, qu st.2.1 9 i, st.2.2) 4).1 10 0 + 1), (sEv V S e (st.1, qu st.2.1 9 i, st.2.2) 4).2)
def sRun (V : xV) (S : Nat → List Nat) (e : xT2) (st : xS) : Nat → xS
  | 0 => st
  | i + 1 => if (sRun V S e st i).1 10 0 < 9999 then sNi V S e (sRun V S e st i) (i + 1) else sRun V S e st i
theorem sRun_s (V : xV) (S : Nat → List Nat) (e : xT2) (st : xS) (i : Nat) : sRun V S e st (i + 1) = if (sRun V S e st i).1 10 0 < 9999 then sNi V S e (sRun V S e st i) (i + 1) else sRun V S e st i := rfl
theorem sRun_stop {V : xV} {S : Nat → List Nat} {e : xT2} {st : xS} {i : Nat} (h : ¬ (sRun V S e st i).1 10 0 < 9999) : ∀ d, sRun V S e st (i + d) = sRun V S e st i := by
  intro d
  induction d with
  | zero => rfl
  | succ d ih =>
    show sRun V S e st (i + d + 1) = _
    rw [sRun_s, ih, if_neg h]
theorem wf_ev {V : xV} {S : Nat → List Nat} {e : xT2} {N : Nat} {st : xS} (hw : ∀ k, k < 6 → wfS (S k)) (w : wfX S N st) : ∀ k, k ≤ 4 → wfX S (N + 10 * k) (sEv V S e st k) ∧ (sEv V S e st k).2.1 9 = st.2.1 9 ∧ (∀ a b, a = 0 ∨ a = 1 ∨ a = 5 ∨ a = 10 → (sEv V S e st k).1 a b = st.1 a b) := by
  intro k
  induction k with
  | zero => intro _; exact ⟨w, rfl, fun _ _ _ => rfl⟩
  | succ k ih =>
    intro hk
    obtain ⟨a, b, c⟩ := ih (by omega)
    rw [sEv_s]
    by_cases z : ((sEv V S e st k).1 0 0).testBit k = true
    · rw [if_pos z]
      obtain ⟨a', b', c'⟩ := wf_vis (V := V) (e := e) hw a (k := k) (by omega) z
      exact ⟨a', by rw [b', b], fun x y h => by rw [c' x y h, c x y h]⟩
    · rw [if_neg z]
      obtain ⟨a1, a2, a3, a4⟩ := a
      exact ⟨⟨a1, a2, by omega, a4⟩, b, c⟩
theorem wf_run {V : xV} {S : Nat → List Nat} {e : xT2} {st : xS} (hw : ∀ k, k < 6 → wfS (S k)) (w : wfX S 0 st) : ∀ i, wfX S (40 * i) (sRun V S e st i) ∧ (∀ a b, a = 0 ∨ a = 1 ∨ a = 5 → (sRun V S e st i).1 a b = st.1 a b) := by
  intro i
  induction i with
  | zero => exact ⟨w, fun _ _ _ => rfl⟩
  | succ i ih =>
    obtain ⟨a, b⟩ := ih
    rw [sRun_s]
    by_cases z : (sRun V S e st i).1 10 0 < 9999
    · rw [if_pos z]
      have a' : wfX S (40 * i) ((sRun V S e st i).1, qu (sRun V S e st i).2.1 9 (i + 1), (sRun V S e st i).2.2) := by
        obtain ⟨a1, a2, a3, a4, a5⟩ := a
        exact ⟨a1, a2, by simpa [qu] using a3, by simpa [qu] using a4, by simpa [qu] using a5⟩
      obtain ⟨c1, c2, c3⟩ := wf_ev (V := V) (e := e) hw a' 4 (Nat.le_refl _)
      unfold sNi
      obtain ⟨d1, d2, d3, d4, d5⟩ := c1
      have h10 := c3 10 0 (by omega)
      refine ⟨⟨(wfH_u d1 (k := 0)).2.2.2.2.2.2.1 _ (by rw [h10]; exact z), fun j hj => by simpa [h2u] using d2 j hj, by show _ ≤ 40 * (i + 1); omega, d4, d5⟩, fun x y h => ?_⟩
      show h2u _ 10 0 _ x y = _
      simp [h2u, show ¬ x = 10 by omega]
      rw [c3 x y (by omega)]
      exact b x y h
    · rw [if_neg z]
      obtain ⟨a1, a2, a3, a4⟩ := a
      exact ⟨⟨a1, a2, by omega, a4⟩, b⟩
theorem runC {S : Nat → List Nat} {e : xT2} {V : xV} {o o1 : Nat} {C0 : xMem} (X : CxC S e V o o1 C0) {h : xT2} {il to : Int32} (wh : wfH S h) (tL : ∀ k, k < 4 → h 3 k ≤ (S (h 1 k)).length) {C : xMem} (hH : HC o h il to C) (hF : ∀ c i, evC o c i → gi C c i = gi C0 c i) {n : Nat} (hn : n ≤ 60) (post : xMem → Prop) (hp : ∀ C' n0, EvC o o1 C0 (sRun V S e (h, q0 n0, il, to) n) C' → post C') : wX1_run o o1 (nI n) C post := by
  obtain ⟨ho, ho1, oV, -, wE, -, wS⟩ := id X
  have hk4 : kC o = 4 := by rcases ho with rfl | rfl <;> decide
  have oclamp : (nI o).toNatClampNeg = o := nI_clamp (by omega)
  have hSw : ∀ k, k < 6 → wfS (S k) := fun k hk => (wS k hk).1
  unfold wX1_run
  refine beginInC _ (fun C1 n0 g1 g2 g3 g4 => ?_)
  have E1 : EvC o o1 C0 (h, q0 n0, il, to) C1 := ⟨g2, g3, HC_keep (fun c i a b => g1 c i (by omega)) hH, g4, fun c i hc => by
    have hc2 := hc
    unfold evC cntC lawC at hc2
    rw [g1 c i (by omega)]
    exact hF c i hc⟩
  have w0 : wfX S 0 (h, q0 n0, il, to) := ⟨wh, tL, Nat.le_refl _, ⟨fun _ => rfl, fun _ => rfl⟩, by show 10 ≤ 10; omega⟩
  have key : ∀ (m i : Nat) (C2 : xMem), i + m = n → EvC o o1 C0 (sRun V S e (h, q0 n0, il, to) i) C2 → wX1_run_9 o o1 post (m + 1) (nI n) (nI (i + 1)) C2 := by
    intro m
    induction m with
    | zero =>
      intro i C2 ei E2
      have : i = n := by omega
      subst this
      rw [wX1_run_9]; dsimp only
      rw [if_pos (nI_lt (by omega) (by omega))]
      exact hp C2 n0 E2
    | succ m ih =>
      intro i C2 ei E2
      obtain ⟨w2, w2b⟩ := wf_run (V := V) (e := e) hSw w0 i
      have w10 := w2.1.2.2.1
      rw [wX1_run_9]; dsimp only
      rw [if_neg (nI_nlt (by omega) (by omega)), E2.1, oclamp, E2.2.2.1.2.2.1]
      refine ⟨hk4, ?_⟩
      by_cases z : 9999 ≤ (sRun V S e (h, q0 n0, il, to) i).1 10 0
      · rw [if_pos (show (9999 : Int32) ≤ nI ((sRun V S e (h, q0 n0, il, to) i).1 10 0) from nI_le (a := 9999) z (by omega))]
        refine hp C2 n0 ?_
        rw [show n = i + (m + 1) by omega, sRun_stop (by omega)]
        exact E2
      have z' : (sRun V S e (h, q0 n0, il, to) i).1 10 0 < 9999 := by omega
      rw [if_neg (show ¬ (9999 : Int32) ≤ nI ((sRun V S e (h, q0 n0, il, to) i).1 10 0) from nI_ge z' (by decide))]
      intro M4 e4
      subst e4
      have hs := sRun_s V S e (h, q0 n0, il, to) i
      rw [if_pos z'] at hs
      generalize sRun V S e (h, q0 n0, il, to) i = s at E2 w2 w2b w10 z z' hs ⊢
      have E4 : EvC o o1 C0 (s.1, qu s.2.1 9 (i + 1), s.2.2) (si C2 78 5 (nI (i + 1))) := by
        obtain ⟨f1, f2, f3, f4, f5⟩ := E2
        refine ⟨by rw [g_i (by omega)]; exact f1, by rw [g_i (by omega)]; exact f2, HC_keep (fun c i a b => by rw [g_c (by omega)]) f3, ?_, fun c i hc => ?_⟩
        · obtain ⟨a, b, c, d⟩ := f4
          refine ⟨fun j hj => ?_, ?_, ?_, ?_⟩
          · rw [g_i (by omega), a j hj]; simp [qu, show ¬ j = 9 by omega]
          · rw [g_i (by omega), b]; simp [qu]
          · rw [g_i (by omega), c]; simp [qu]
          · rw [g_same]; simp [qu]
        · have hc2 := hc
          unfold evC cntC lawC at hc2
          rw [g_c (by omega)]
          exact f5 c i hc
      have w4 : wfX S (40 * i) (s.1, qu s.2.1 9 (i + 1), s.2.2) := by
        obtain ⟨a1, a2, a3, a4, a5⟩ := w2
        exact ⟨a1, a2, by simpa [qu] using a3, by simpa [qu] using a4, by simpa [qu] using a5⟩
      have inn : ∀ (m' k : Nat) (C3 : xMem), k + m' = 4 → EvC o o1 C0 (sEv V S e (s.1, qu s.2.1 9 (i + 1), s.2.2) k) C3 → wX1_run_37 o o1 (wX1_run_9 o o1 post (m + 1)) post (m' + 1) (nI n) (nI (i + 1)) (nI k) C3 := by
        intro m'
        induction m' with
        | zero =>
          intro k C3 ek E3
          have : k = 4 := by omega
          subst this
          obtain ⟨f1, f2, f3, f4, f5⟩ := id E3
          rw [wX1_run_37]; dsimp only
          rw [if_pos (show (4 : Int32) ≤ nI 4 by decide), f1, oclamp, f3.2.2.1, z_add1]
          refine ⟨hk4, ?_⟩
          intro M3 e3
          subst e3
          intro v4 e4
          subst e4
          rw [z_add1]
          refine ih (i + 1) _ (by omega) ?_
          rw [hs]
          refine ⟨by rw [g_c (by omega)]; exact f1, by rw [g_c (by omega)]; exact f2, HC_u10 f3 _, QC_k f4 (fun i _ => by rw [g_c (by omega)]), fun c i hc => ?_⟩
          have hc2 := hc
          unfold evC at hc2
          rw [g_c (by omega)]
          exact f5 c i hc
        | succ m' ih' =>
          intro k C3 ek E3
          have hk : k < 4 := by omega
          obtain ⟨w5, w5b, w5c⟩ := wf_ev (V := V) (e := e) hSw w4 k (by omega)
          have w50 := w5.1.1
          rw [wX1_run_37]; dsimp only
          unfold wX1_run_64
          rw [if_neg (show ¬ (4 : Int32) ≤ nI k from nI_ge hk (by decide)), E3.1, oclamp, E3.2.2.1.1, hasC_n (by omega) (by omega)]
          refine ⟨hk4, ?_⟩
          by_cases z3 : ((sEv V S e (s.1, qu s.2.1 9 (i + 1), s.2.2) k).1 0 0).testBit k = true
          · rw [b2i_t z3, if_neg (by decide)]
            refine visC X (N := 40 * i + 10 * k) (by omega) w5 (by rw [w5b]; simp [qu]) E3 hk z3 _ (fun C5 E5 => ?_)
            intro v1 ev
            subst ev
            rw [z_add1]
            refine ih' (k + 1) C5 (by omega) ?_
            rw [sEv_s, if_pos z3]
            exact E5
          · rw [b2i_f z3, if_pos rfl]
            intro v1 ev
            subst ev
            rw [z_add1]
            refine ih' (k + 1) C3 (by omega) ?_
            rw [sEv_s, if_neg z3]
            exact E3
      exact ⟨5, inn 4 0 _ rfl E4⟩
  exact ⟨n + 1, key n 0 C1 (by omega) E1⟩
theorem runM {S : Nat → List Nat} {e : xT2} {V : xV} {r : Nat} {M0 : xMem} (X : CxM S e V r M0) {h : xT2} {il to : Int32} (wh : wfH S h) (tL : ∀ k, k < 4 → h 3 k ≤ (S (h 1 k)).length) {M : xMem} (h27 : gi M 0 27 = nI r) (hH : HM h il to M) (hF : ∀ c i, evM c i → ¬ (c = 0 ∧ i = 27) → gi M c i = gi M0 c i) {n : Nat} (hn : n ≤ 60) (n0 : Nat) (post : xMem → Prop) (hp : ∀ M', EvM r M0 (sRun V S e (h, q0 n0, il, to) n) M' → post M') : wX12_go (nI n) M post := by
  obtain ⟨hr, oV, -, wE, -, wS⟩ := id X
  have hSw : ∀ k, k < 6 → wfS (S k) := fun k hk => (wS k hk).1
  have w0 : wfX S 0 (h, q0 n0, il, to) := ⟨wh, tL, Nat.le_refl _, ⟨fun _ => rfl, fun _ => rfl⟩, by show 10 ≤ 10; omega⟩
  have key : ∀ (m i : Nat) (M2 : xMem), i + m = n → EvM r M0 (sRun V S e (h, q0 n0, il, to) i) M2 → wX12_go_49 post (m + 1) (nI n) (nI (i + 1)) M2 := by
    intro m
    induction m with
    | zero =>
      intro i M2 ei E2
      have : i = n := by omega
      subst this
      rw [wX12_go_49]; dsimp only
      rw [if_pos (nI_lt (by omega) (by omega))]
      exact hp M2 E2
    | succ m ih =>
      intro i M2 ei E2
      obtain ⟨w2, w2b⟩ := wf_run (V := V) (e := e) hSw w0 i
      have w10 := w2.1.2.2.1
      rw [wX12_go_49]; dsimp only
      rw [if_neg (nI_nlt (by omega) (by omega)), E2.2.1.2.2.1]
      by_cases z : 9999 ≤ (sRun V S e (h, q0 n0, il, to) i).1 10 0
      · rw [if_pos (show (9999 : Int32) ≤ nI ((sRun V S e (h, q0 n0, il, to) i).1 10 0) from nI_le (a := 9999) z (by omega))]
        refine hp M2 ?_
        rw [show n = i + (m + 1) by omega, sRun_stop (by omega)]
        exact E2
      have z' : (sRun V S e (h, q0 n0, il, to) i).1 10 0 < 9999 := by omega
      rw [if_neg (show ¬ (9999 : Int32) ≤ nI ((sRun V S e (h, q0 n0, il, to) i).1 10 0) from nI_ge z' (by decide))]
      have hs := sRun_s V S e (h, q0 n0, il, to) i
      rw [if_pos z'] at hs
      generalize sRun V S e (h, q0 n0, il, to) i = s at E2 w2 w2b w10 z z' hs ⊢
      have E4 : EvM r M0 (s.1, qu s.2.1 9 (i + 1), s.2.2) M2 := by
        obtain ⟨f1, f3, f4, f5⟩ := E2
        refine ⟨f1, f3, ?_, f5⟩
        obtain ⟨a, b, c⟩ := f4
        refine ⟨fun j hj => ?_, ?_, ?_⟩
        · rw [a j hj]; simp [qu, show ¬ j = 9 by omega]
        · rw [b]; simp [qu]
        · rw [c]; simp [qu]
      have w4 : wfX S (40 * i) (s.1, qu s.2.1 9 (i + 1), s.2.2) := by
        obtain ⟨a1, a2, a3, a4, a5⟩ := w2
        exact ⟨a1, a2, by simpa [qu] using a3, by simpa [qu] using a4, by simpa [qu] using a5⟩
      have q9 : qu s.2.1 9 (i + 1) 9 = i + 1 := by simp [qu]
      have inn : ∀ (m' k : Nat) (M3 : xMem), k + m' = 4 → EvM r M0 (sEv V S e (s.1, qu s.2.1 9 (i + 1), s.2.2) k) M3 → wX12_go_66 (wX12_go_49 post (m + 1)) post (m' + 1) (nI n) (nI (i + 1)) (nI k) M3 := by
        intro m'
        induction m' with
        | zero =>
          intro k M3 ek E3
          have : k = 4 := by omega
          subst this
          obtain ⟨f1, f3, f4, f5⟩ := id E3
          rw [wX12_go_66]; dsimp only
          rw [if_pos (show (4 : Int32) ≤ nI 4 by decide), f3.2.2.1, z_add1]
          intro M4 e3
          subst e3
          intro v4 e4
          subst e4
          rw [z_add1]
          refine ih (i + 1) _ (by omega) ?_
          rw [hs]
          refine ⟨by rw [g_i (by omega)]; exact f1, HM_u10 f3 _, QM_k f4 (fun i _ _ => by rw [g_i (by omega)]), fun c i hc hnn => ?_⟩
          have hc2 := hc
          unfold evM at hc2
          rw [gi_si, if_neg (by omega)]
          exact f5 c i hc hnn
        | succ m' ih' =>
          intro k M3 ek E3
          have hk : k < 4 := by omega
          obtain ⟨w5, w5b, w5c⟩ := wf_ev (V := V) (e := e) hSw w4 k (by omega)
          have hnext : ∀ M5, EvM r M0 (sEv V S e (s.1, qu s.2.1 9 (i + 1), s.2.2) (k + 1)) M5 → wX12_go_131 (wX12_go_49 post (m + 1)) (wX12_go_66 (wX12_go_49 post (m + 1)) post (m' + 1)) post (nI n) (nI (i + 1)) (nI k) M5 := fun M5 E5 => by
            unfold wX12_go_131
            intro v1 ev
            subst ev
            rw [z_add1]
            exact ih' (k + 1) M5 (by omega) E5
          rw [wX12_go_66]; dsimp only
          rw [if_neg (show ¬ (4 : Int32) ≤ nI k from nI_ge hk (by decide)), nI_clamp (by omega), (E3.2.1.1 k hk).1]
          refine ⟨vl hk (by decide), ?_⟩
          by_cases z3 : ((sEv V S e (s.1, qu s.2.1 9 (i + 1), s.2.2) k).1 0 0).testBit k = true
          rotate_left
          · rw [b2i_f z3, if_pos rfl]
            refine hnext M3 ?_
            rw [sEv_s, if_neg z3]
            exact E3
          rw [b2i_t z3, if_neg (by decide)]
          rw [sEv_s, if_pos z3] at hnext
          have q9' : (sEv V S e (s.1, qu s.2.1 9 (i + 1), s.2.2) k).2.1 9 = i + 1 := by rw [w5b]; exact q9
          generalize sEv V S e (s.1, qu s.2.1 9 (i + 1), s.2.2) k = u at E3 w5 w5b w5c z3 hnext q9' ⊢
          refine tellM X w5.1 w5.2.1 E3 hk z3 _ (fun M5 E5 => ?_)
          have t := wf_tell (V := V) hSw w5.1 w5.2.1 hk z3
          have wt : wfX S (40 * i + 10 * k) (sTell V S u k) := ⟨t.1, t.2, w5.2.2⟩
          refine baM X t.1 t.2 E5 hk _ (fun M6 E6 => ?_)
          obtain ⟨b1, b2, b3⟩ := wf_ba (V := V) (e := e) wt hk
          have q9'' : (sBA V S e (sTell V S u k) k).2.1 9 = i + 1 := by rw [b2]; exact q9'
          have lst : ∀ (m2 l : Nat) (M7 : xMem), l + m2 = 10 → EvM r M0 (sLs V k (sBA V S e (sTell V S u k) k) l) M7 → wX12_go_96 (wX12_go_49 post (m + 1)) (wX12_go_66 (wX12_go_49 post (m + 1)) post (m' + 1)) post (m2 + 1) (nI n) (nI (i + 1)) (nI k) (nI l) M7 := by
            intro m2
            induction m2 with
            | zero =>
              intro l M7 el E7
              have : l = 10 := by omega
              subst this
              obtain ⟨c1, c2, c3⟩ := wf_ls (V := V) b1 (k := k) 10 (Nat.le_refl _)
              rw [wX12_go_96]; dsimp only
              rw [if_pos (show (10 : Int32) ≤ nI 10 by decide)]
              refine colM X c1 E7 hk _ (fun M8 E8 => hnext M8 ?_)
              unfold sVis sEnd
              have h3 : (sLs V k (sBA V S e (sTell V S u k) k) 10).1 3 k = (sTell V S u k).1 3 k := by rw [c3 3 k (by omega) (by omega), b3 3 k (by omega)]
              have h1 : (sLs V k (sBA V S e (sTell V S u k) k) 10).1 1 k = (sTell V S u k).1 1 k := by rw [c3 1 k (by omega) (by omega), b3 1 k (by omega)]
              rw [h3, h1] at E8
              exact E8
            | succ m2 ih2 =>
              intro l M7 el E7
              have hl : l < 10 := by omega
              obtain ⟨c1, c2, c3⟩ := wf_ls (V := V) b1 (k := k) l (by omega)
              rw [wX12_go_96]; dsimp only
              unfold wX12_go_120
              rw [if_neg (show ¬ (10 : Int32) ≤ nI l from nI_ge hl (by decide))]
              refine isBoundM E7.2.1 hl hk _ (fun z => ?_) (fun z => ?_)
              · rw [if_neg (by decide)]
                have hq : (sLs V k (sBA V S e (sTell V S u k) k) l).2.1 9 = i + 1 := by rw [c2]; exact q9''
                rw [← hq]
                refine lisM X c1 (by omega) E7 hk hl z _ (fun M8 E8 => ?_)
                rw [hq]
                intro v1 ev
                subst ev
                rw [z_add1]
                refine ih2 (l + 1) M8 (by omega) ?_
                rw [sLs_s, if_pos ((bdB_i _ _ _).mpr z)]
                exact E8
              · rw [if_pos rfl]
                intro v1 ev
                subst ev
                rw [z_add1]
                refine ih2 (l + 1) M7 (by omega) ?_
                rw [sLs_s, if_neg (fun q => z ((bdB_i _ _ _).mp q))]
                exact E7
          exact ⟨11, lst 10 0 M6 rfl E6⟩
      exact ⟨5, inn 4 0 _ rfl E4⟩
  unfold wX12_go
  simp only [forall_eq]
  refine ⟨n + 1, key n 0 _ (by omega) ⟨?_, ?_, ⟨fun i hi => ?_, ?_, ?_⟩, fun c i hc hnn => ?_⟩⟩
  · simp (disch := omega) only [g_i]; exact h27
  · exact HM_keep (fun c i a b d => by simp (disch := omega) only [g_c]) (fun i hi => by simp (disch := omega) only [g_i]) hH
  · have : i = 0 ∨ i = 1 ∨ i = 2 ∨ i = 3 ∨ i = 4 ∨ i = 5 ∨ i = 6 := by omega
    rcases this with rfl | rfl | rfl | rfl | rfl | rfl | rfl <;> simp [gi_si, q0, sRun] <;> rfl
  · simp [gi_si, q0, sRun]; rfl
  · simp [gi_si, q0, sRun]; rfl
  · have hc2 := hc
    unfold evM cntM at hc2
    simp only [gi_si]
    rw [if_neg (by omega), if_neg (by omega), if_neg (by omega), if_neg (by omega), if_neg (by omega), if_neg (by omega), if_neg (by omega), if_neg (by omega), if_neg (by omega)]
    exact hF c i hc hnn
