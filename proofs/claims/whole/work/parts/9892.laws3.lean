/-! law(), the reference's clauses -/
def lt7 (k : Nat) : Nat := [110, 112, 116, 115, 102, 103, 120].getD k 0
def frW (M0 M : xMem) : Prop := ∀ c i, ¬ (c = 0 ∧ (i = 3 ∨ (5 ≤ i ∧ i ≤ 9) ∨ i = 35 ∨ i = 36)) → ¬ (16 ≤ c ∧ c ≤ 22) → gi M c i = gi M0 c i
def clM (cs : List xQ4) (M : xMem) : Prop := ∀ i, i < cs.length → gi M 16 i = nI (lt7 (cs.getD i (0, 0, 0, 0)).1) ∧ gi M 17 i = nI (cs.getD i (0, 0, 0, 0)).2.1 ∧ gi M 18 i = nI (cs.getD i (0, 0, 0, 0)).2.2.1 ∧ gi M 19 i = nI (cs.getD i (0, 0, 0, 0)).2.2.2
def cdM (K : List (Nat × Nat)) (M : xMem) : Prop := ∀ i, i < K.length → gi M 20 i = nI (K.getD i (0, 0)).1 ∧ gi M 21 i = nI (K.getD i (0, 0)).2
def MW (M0 : xMem) (p : Nat) (cs : List xQ4) (K : List (Nat × Nat)) (M : xMem) : Prop := frW M0 M ∧ gi M 0 3 = nI p ∧ gi M 0 5 = 0 ∧ gi M 0 6 = nI cs.length ∧ gi M 0 7 = nI K.length ∧ cdM K M ∧ clM cs M
def MWF (M0 : xMem) (f : Int32) (M : xMem) : Prop := frW M0 M ∧ gi M 0 5 = f ∧ f < 0
theorem LTM_fr {B : Nat → Nat} {N : Nat} {M0 M : xMem} (h : LTM B N M0) (f : frW M0 M) : LTM B N M := ⟨h.1, fun i hi => ⟨(h.2.1 i hi).1, by rw [f _ _ (by omega) (by decide)]; exact (h.2.1 i hi).2⟩, by rw [f _ _ (by decide) (by decide)]; exact h.2.2⟩
theorem frQ_W {M0 M1 M : xMem} {b : Int32} (h1 : frW M0 M1) (h : frQ (si M1 0 36 b) M) : frW M0 M := fun c i y1 y2 => by
  rw [h c i (by omega) (by omega), gi_si, if_neg (by omega)]
  exact h1 c i y1 y2
theorem good_n {M : xMem} (h : gi M 0 5 = 0) (post : Int32 → xMem → Prop) : wX12_isGood M post = post 1 M := by unfold wX12_isGood; rw [if_pos h]
theorem bad_n {M : xMem} {f : Int32} (h : gi M 0 5 = f) (hf : f < 0) (post : Int32 → xMem → Prop) : wX12_isGood M post = post 0 M := by
  unfold wX12_isGood
  rw [if_neg (fun z => by rw [h] at z; rw [z] at hf; exact absurd hf (by decide))]
/-- the end of a clause that went wrong -/
theorem c127F {M0 M : xMem} {f : Int32} (h : MWF M0 f M) {cl : Nat} (hcl : cl < 16) (h6 : gi M 0 6 = nI cl) (post : xMem → Prop) (hp : ∀ M', MWF M0 f M' → post M') : wX12_clause_127 post M := by
  obtain ⟨a, b, c⟩ := h
  unfold wX12_clause_127
  rw [h6]
  refine ⟨vl hcl (by decide), ?_⟩
  intro M2 e2 M3 e3
  refine hp M3 ⟨fun c i y1 y2 => ?_, ?_, c⟩
  · rw [e3, gi_si, if_neg (by omega), e2, gi_si, if_neg (by omega)]; exact a c i y1 y2
  · rw [e3, g_i (by decide), e2, g_c (by decide)]; exact b
theorem c103F {M0 M : xMem} {f : Int32} (h : MWF M0 f M) {cl : Nat} (hcl : cl < 16) (h6 : gi M 0 6 = nI cl) (post : xMem → Prop) (hp : ∀ M', MWF M0 f M' → post M') : wX12_clause_103 post M := by
  obtain ⟨a, b, c⟩ := id h
  unfold wX12_clause_103
  rw [h6]
  refine ⟨vl hcl (by decide), ?_⟩
  intro M2 e2
  have h2 : MWF M0 f M2 := ⟨fun c i y1 y2 => by rw [e2, gi_si, if_neg (by omega)]; exact a c i y1 y2, by rw [e2, g_c (by decide)]; exact b, c⟩
  rw [bad_n h2.2.1 c, if_pos rfl]
  exact c127F h2 hcl (by rw [e2, g_c (by decide)]; exact h6) post hp
theorem clauseM {B : Nat → Nat} {N : Nat} {M0 : xMem} (hT0 : LTM B N M0) {p : Nat} (hp : p ≤ N) {cs : List xQ4} {K : List (Nat × Nat)} (hK : K.length ≤ p) (hcl : cs.length ≤ 16) {M : xMem} (hM : MW M0 p cs K M) (post : xMem → Prop) (h1 : ∀ f, clsP B N p K.length cs.length = .inl f → ∀ M', MWF M0 f M' → post M') (h2 : ∀ q c s k, clsP B N p K.length cs.length = .inr (q, c, s, k) → ∀ M', MW M0 q (cs ++ [c]) (K ++ k) M' → post M') : wX12_clause M post := by
  obtain ⟨a0, a1, a2, a3, a4, a5, a6⟩ := id hM
  have hN := hT0.1
  have hT := LTM_fr hT0 a0
  have hc256 := hr_256 hT0 p
  have wrong : ∀ (a : Int32) f, fw a p = f → f < 0 → (∀ M', MWF M0 f M' → post M') → wX12_wrongs a (nI p) M (fun M8 => wX12_clause_42 post (nI (hr B N p)) M8) := by
    intro a f ef hf hp
    unfold wX12_wrongs wX12_wrongs_22
    rw [a2, if_pos (by decide)]
    intro M1 e1
    have e1' : M1 = si M 0 5 f := by rw [e1, ← ef]; rfl
    have hF : MWF M0 f M1 := ⟨fun c i y1 y2 => by rw [e1', gi_si, if_neg (by omega)]; exact a0 c i y1 y2, by rw [e1', g_same], hf⟩
    unfold wX12_clause_42
    rw [bad_n hF.2.1 hf, if_pos rfl]
    exact hp M1 hF
  unfold wX12_clause
  rw [hreM hT hp (fun _ _ _ _ => rfl) a1, isClause_n hc256]
  unfold clsP at h1 h2
  by_cases c0 : kix (hr B N p) < 7
  rotate_left
  · rw [if_neg c0] at h1
    rw [b2i_f c0, if_pos rfl, a1]
    exact wrong 1 _ rfl (fwL p (by omega)).1.1.1 (h1 _ rfl)
  rw [if_pos c0] at h1 h2
  have hpl : p < N := hr_pos (B := B) (fun q => by rw [q] at c0; revert c0; decide)
  rw [b2i_t c0, if_neg n10, a3]
  by_cases c1 : cs.length < 16
  rotate_left
  · rw [if_neg c1] at h1
    rw [if_pos (show nI cs.length = 16 by rw [show cs.length = 16 by omega]; rfl), a1]
    exact wrong 4 _ rfl (fwL p (by omega)).1.2 (h1 _ rfl)
  rw [if_pos c1] at h1 h2
  rw [if_neg (show ¬ nI cs.length = 16 from fun y => absurd ((nI_eq (b := 16) (by omega) (by decide)).mp y) (by omega))]
  have hv := vl (n := cs.length) (N := 16) c1 (by decide)
  unfold wX12_clause_42
  rw [good_n a2, if_neg n10, a3]
  refine ⟨hv, ?_⟩
  intro M5 e5
  rw [nI_clamp (by omega)] at e5
  have k5 : gi M5 0 6 = nI cs.length := by rw [e5, g_c (by decide)]; exact a3
  rw [k5]
  refine ⟨hv, ?_⟩
  intro M7 e7 M8 e8 M9 e9 M10 e10
  have k7 : gi M5 0 7 = nI K.length := by rw [e5, g_c (by decide)]; exact a4
  have k3 : gi M7 0 3 = nI p := by rw [e7, g_c (by decide), e5, g_c (by decide)]; exact a1
  rw [k7, nI_clamp (by omega)] at e7
  rw [k3, nI_1] at e8
  have W10 : frW M0 M10 := fun c i y1 y2 => by
    rw [e10, gi_si, if_neg (by omega), e9, gi_si, if_neg (by omega), e8, gi_si, if_neg (by omega), e7, gi_si, if_neg (by omega), e5, gi_si, if_neg (by omega)]; exact a0 c i y1 y2
  have b3 : gi M10 0 3 = nI (p + 1) := by rw [e10, g_i (by decide), e9, g_i (by decide), e8, g_same]
  have b5 : gi M10 0 5 = 0 := by rw [e10, g_i (by decide), e9, g_i (by decide), e8, g_i (by decide), e7, g_c (by decide), e5, g_c (by decide)]; exact a2
  have b6 : gi M10 0 6 = nI cs.length := by rw [e10, g_i (by decide), e9, g_i (by decide), e8, g_i (by decide), e7, g_c (by decide)]; exact k5
  have b7 : gi M10 0 7 = nI K.length := by rw [e10, g_i (by decide), e9, g_i (by decide), e8, g_i (by decide), e7, g_c (by decide)]; exact k7
  have b8 : gi M10 0 8 = 0 := by rw [e10, g_same]
  have b9 : gi M10 0 9 = 0 := by rw [e10, g_i (by decide), e9, g_same]
  have C10 : cdM K M10 := fun i hi => by
    rw [e10, g_c (by decide), g_c (by decide), e9, g_c (by decide), g_c (by decide), e8, g_c (by decide), g_c (by decide), e7, g_c (by decide), g_c (by decide), e5, g_c (by decide), g_c (by decide)]; exact a5 i hi
  have o16 : ∀ i, gi M10 16 i = if i = cs.length then nI (hr B N p) else gi M 16 i := fun i => by
    rw [e10, g_c (by decide), e9, g_c (by decide), e8, g_c (by decide), e7, g_c (by decide), e5, gi_si]
    by_cases y : i = cs.length
    · rw [if_pos ⟨rfl, y⟩, if_pos y]
    · rw [if_neg (by omega), if_neg y]
  have o17 : ∀ i, gi M10 17 i = if i = cs.length then nI K.length else gi M 17 i := fun i => by
    rw [e10, g_c (by decide), e9, g_c (by decide), e8, g_c (by decide), e7, gi_si]
    by_cases y : i = cs.length
    · rw [if_pos ⟨rfl, y⟩, if_pos y]
    · rw [if_neg (by omega), if_neg y, e5, g_c (by decide)]
  have o18 : ∀ c i, 18 ≤ c → c ≤ 19 → gi M10 c i = gi M c i := fun c i y1 y2 => by
    rw [e10, g_c (by omega), e9, g_c (by omega), e8, g_c (by omega), e7, g_c (by omega), e5, g_c (by omega)]
  have S10 : MSx M10 (p + 1) 0 [] K M10 := ⟨gi M10 0 36, fun c i _ _ => by
    rw [gi_si]
    by_cases y : c = 0 ∧ i = 36
    · rw [if_pos y, y.1, y.2]
    · rw [if_neg y], b3, b5, b7, C10, b8, b9, trivial⟩
  have hT10 := LTM_fr hT0 W10
  have hlt : ∀ c < 256, kix c < 7 → lt7 (kix c) = c := by decide +kernel
  -- behind the first sum
  have tail : ∀ (q : Nat) (s : List Nat) (k : List (Nat × Nat)) M', MSx M10 q 0 [] (K ++ k) M' → s.length = k.length → q ≤ N → K.length + k.length + 1 ≤ q → (∀ f, (if hr B N q = 40 then
        (match cndP B N (tstP B N 5) (q + 1) (K.length + s.length) with
        | .inl e => (.inl e : Int32 ⊕ (Nat × xQ4 × List Nat × List (Nat × Nat)))
        | .inr (q2, s2, k2) => if hr B N q2 = 41 then .inr (q2 + 1, (kix (hr B N p), K.length, K.length + s.length, K.length + s.length + s2.length), s ++ s2, k ++ k2) else .inl (fw 1 q2))
      else .inl (fw 1 q)) = .inl f → ∀ M', MWF M0 f M' → post M') → (∀ q' c s' k', (if hr B N q = 40 then
        (match cndP B N (tstP B N 5) (q + 1) (K.length + s.length) with
        | .inl e => (.inl e : Int32 ⊕ (Nat × xQ4 × List Nat × List (Nat × Nat)))
        | .inr (q2, s2, k2) => if hr B N q2 = 41 then .inr (q2 + 1, (kix (hr B N p), K.length, K.length + s.length, K.length + s.length + s2.length), s ++ s2, k ++ k2) else .inl (fw 1 q2))
      else .inl (fw 1 q)) = .inr (q', c, s', k') → ∀ M', MW M0 q' (cs ++ [c]) (K ++ k') M' → post M') → wX12_clause_103 post M' := by
    intro q s k M' hM' hsk hq hl g1 g2
    obtain ⟨b, hM'⟩ := hM'
    have W' := frQ_W W10 hM'.1
    have f' : ∀ c i, ¬ (c = 0 ∧ (i = 3 ∨ i = 5 ∨ i = 7 ∨ i = 8 ∨ i = 9 ∨ i = 36)) → ¬ (20 ≤ c ∧ c ≤ 22) → gi M' c i = gi M10 c i := fun c i y1 y2 => by rw [hM'.1 c i (by omega) y2, gi_si, if_neg (by omega)]
    have d6 : gi M' 0 6 = nI cs.length := by rw [f' _ _ (by decide) (by decide)]; exact b6
    unfold wX12_clause_103
    rw [d6]
    refine ⟨hv, ?_⟩
    intro M2 e2
    rw [hM'.2.2.2.1, nI_clamp (by omega)] at e2
    have W2 : frW M0 M2 := fun c i y1 y2 => by rw [e2, gi_si, if_neg (by omega)]; exact W' c i y1 y2
    have hT2 := LTM_fr hT0 W2
    have S2 : MSx M2 q 0 [] (K ++ k) M2 := ⟨gi M2 0 36, fun c i _ _ => by
      rw [gi_si]
      by_cases y : c = 0 ∧ i = 36
      · rw [if_pos y, y.1, y.2]
      · rw [if_neg y], by rw [e2, g_c (by decide)]; exact hM'.2.1, by rw [e2, g_c (by decide)]; exact hM'.2.2.1, by rw [e2, g_c (by decide)]; exact hM'.2.2.2.1, fun i hi => by rw [e2, g_c (by decide), g_c (by decide)]; exact hM'.2.2.2.2.1 i hi, by rw [e2, g_c (by decide)]; exact hM'.2.2.2.2.2.1, by rw [e2, g_c (by decide)]; exact hM'.2.2.2.2.2.2.1, trivial⟩
    have z6 : gi M2 0 6 = nI cs.length := by rw [e2, g_c (by decide)]; exact d6
    have z5 : gi M2 0 5 = 0 := by rw [e2, g_c (by decide)]; exact hM'.2.2.1
    rw [good_n z5, if_neg n10]
    have flt : ∀ f, (∀ M', MWF M0 f M' → post M') → ∀ M'', MFx (si M2 0 35 0) f M'' → wX12_clause_127 post M'' := by
      intro f hp M'' hM''
      obtain ⟨b', hM''⟩ := hM''
      have ff : ∀ c i, ¬ (c = 0 ∧ (i = 3 ∨ i = 5 ∨ i = 7 ∨ i = 8 ∨ i = 9 ∨ i = 35 ∨ i = 36)) → ¬ (20 ≤ c ∧ c ≤ 22) → gi M'' c i = gi M2 c i := fun c i y1 y2 => by rw [hM''.1 c i (by omega) y2, gi_si, if_neg (by omega), gi_si, if_neg (by omega)]
      refine c127F (M0 := M0) (f := f) ⟨fun c i y1 y2 => by rw [ff c i (by omega) (by omega)]; exact W2 c i y1 y2, hM''.2⟩ c1 (by rw [ff _ _ (by decide) (by decide)]; exact z6) post hp
    refine condM (z := K.length + s.length) hT2 hq (by rw [List.length_append]; omega) _ (fun w => ?_) (fun w f e => ?_) (fun w q2 s2 k2 e w2 => ?_) (fun w q2 s2 k2 e w2 => ?_) M2 S2
    · rw [if_neg w] at g1; exact flt _ (g1 _ rfl)
    · rw [if_pos w, e] at g1; exact flt _ (g1 _ rfl)
    · rw [if_pos w, e] at g1; dsimp only at g1; rw [if_neg w2] at g1; exact flt _ (g1 _ rfl)
    · rw [if_pos w, e] at g2
      dsimp only at g2
      rw [if_pos w2] at g2
      obtain ⟨-, u0, u1, u2, u3⟩ := cndG (tstG (B := B) (N := N) 5) _ _ _ _ _ e
      intro M'' hM''
      obtain ⟨b', hM''⟩ := hM''
      have ff : ∀ c i, ¬ (c = 0 ∧ (i = 3 ∨ i = 5 ∨ i = 7 ∨ i = 8 ∨ i = 9 ∨ i = 35 ∨ i = 36)) → ¬ (20 ≤ c ∧ c ≤ 22) → gi M'' c i = gi M2 c i := fun c i y1 y2 => by rw [hM''.1 c i (by omega) y2, gi_si, if_neg (by omega), gi_si, if_neg (by omega), gi_si, if_neg (by omega)]
      have y6 : gi M'' 0 6 = nI cs.length := by rw [ff _ _ (by decide) (by decide)]; exact z6
      have y7 : gi M'' 0 7 = nI (K ++ k ++ k2).length := hM''.2.2.2.1
      have eN : (K ++ k ++ k2).length = K.length + s.length + s2.length := by rw [List.length_append, List.length_append]; omega
      unfold wX12_clause_127
      rw [y6]
      refine ⟨hv, ?_⟩
      intro M20 e20 M21 e21
      rw [y7, nI_clamp (by omega)] at e20
      have x6 : gi M20 0 6 = nI cs.length := by rw [e20, g_c (by decide)]; exact y6
      rw [x6, nI_1] at e21
      refine g2 _ _ _ _ rfl M21 ⟨fun c i v1 v2 => ?_, ?_, ?_, ?_, ?_, fun i hi => ?_, fun i hi => ?_⟩
      · rw [e21, gi_si, if_neg (by omega), e20, gi_si, if_neg (by omega), ff c i (by omega) (by omega)]; exact W2 c i v1 v2
      · rw [e21, g_i (by decide), e20, g_c (by decide)]; exact hM''.2.1
      · rw [e21, g_i (by decide), e20, g_c (by decide)]; exact hM''.2.2.1
      · rw [e21, g_same, List.length_append]; rfl
      · rw [e21, g_i (by decide), e20, g_c (by decide), y7, List.append_assoc]
      · rw [e21, g_c (by decide), g_c (by decide), e20, g_c (by decide), g_c (by decide)]
        rw [← List.append_assoc] at hi ⊢
        exact hM''.2.2.2.2.1 i hi
      · rw [getD_appK _ _ _ hi]
        have hi' : i < cs.length + 1 := by rw [List.length_append] at hi; exact hi
        have p16 : gi M21 16 i = gi M10 16 i := by rw [e21, g_c (by decide), e20, g_c (by decide), ff _ _ (by omega) (by decide), e2, g_c (by decide), f' _ _ (by omega) (by decide)]
        have p17 : gi M21 17 i = gi M10 17 i := by rw [e21, g_c (by decide), e20, g_c (by decide), ff _ _ (by omega) (by decide), e2, g_c (by decide), f' _ _ (by omega) (by decide)]
        have p18 : gi M21 18 i = if i = cs.length then nI (K ++ k).length else gi M 18 i := by
          rw [e21, g_c (by decide), e20, g_c (by decide), ff _ _ (by omega) (by decide), e2, gi_si]
          by_cases y : i = cs.length
          · rw [if_pos ⟨rfl, y⟩, if_pos y]
          · rw [if_neg (by omega), if_neg y, f' _ _ (by omega) (by decide), o18 _ _ (by decide) (by decide)]
        have p19 : gi M21 19 i = if i = cs.length then nI (K ++ k ++ k2).length else gi M 19 i := by
          rw [e21, g_c (by decide), e20, gi_si]
          by_cases y : i = cs.length
          · rw [if_pos ⟨rfl, y⟩, if_pos y]
          · rw [if_neg (by omega), if_neg y, ff _ _ (by omega) (by decide), e2, g_c (by decide), f' _ _ (by omega) (by decide), o18 _ _ (by decide) (by decide)]
        rw [p16, p17, p18, p19, o16, o17]
        by_cases y : i < cs.length
        · rw [if_pos y, if_neg (by omega), if_neg (by omega), if_neg (by omega), if_neg (by omega)]
          exact a6 i y
        · have hy : i = cs.length := by omega
          rw [if_neg y, if_pos hy, if_pos hy, if_pos hy, if_pos hy]
          refine ⟨by rw [hlt _ hc256 c0], rfl, ?_, ?_⟩
          · show nI (K ++ k).length = nI (K.length + s.length)
            rw [List.length_append, hsk]
          · show nI (K ++ k ++ k2).length = nI (K.length + s.length + s2.length)
            rw [eN]
  have key2 : ∀ c < 256, kix c < 7 → (nI c = 120 ↔ kix c = 6) := by decide +kernel
  by_cases c2 : kix (hr B N p) = 6
  · rw [if_pos c2] at h1 h2
    dsimp only at h1 h2
    rw [if_pos ((key2 _ hc256 c0).mpr c2)]
    exact tail (p + 1) [] [] M10 (by rw [List.append_nil]; exact S10) rfl (by omega) (by show K.length + 0 + 1 ≤ p + 1; omega) h1 h2
  · rw [if_neg c2] at h1 h2
    rw [if_neg (fun y => c2 ((key2 _ hc256 c0).mp y))]
    have flt : ∀ f, (∀ M', MWF M0 f M' → post M') → ∀ M'', MFx M10 f M'' → wX12_clause_103 post M'' := by
      intro f hp M'' hM''
      obtain ⟨b', hM''⟩ := hM''
      refine c103F (M0 := M0) (f := f) ⟨frQ_W W10 hM''.1, hM''.2⟩ c1 ?_ post hp
      rw [hM''.1 _ _ (by decide) (by decide), g_i (by decide)]; exact b6
    refine valM hT10 (g := 6) (d := 0) (σ := []) rfl (z := K.length) _ (by show K.length + 0 ≤ p + 1; omega) (by omega) (show ¬ isT 0 ∧ ¬ isPl 0 by decide) (by decide) (fun c hc => by cases hc) (fun f e => ?_) (fun q s k e e93 => ?_) (fun q s k e n93 => ?_) M10 S10
    · rw [e] at h1; exact flt f (h1 f rfl)
    · rw [e] at h1
      dsimp only at h1
      rw [if_neg (by omega)] at h1
      exact flt _ (h1 _ rfl)
    · obtain ⟨-, u0, u1, u2, u3⟩ := sumG (B := B) (N := N) 6 _ _ _ _ _ e
      rw [e] at h1 h2
      dsimp only at h1 h2
      exact fun M' hM' => tail q s k M' hM' u0 u2 (by omega) h1 h2
/-- the whole text -/
theorem lawLM {B : Nat → Nat} {N : Nat} {M0 : xMem} (hT0 : LTM B N M0) (post : Int32 → xMem → Prop) : ∀ m p cs S K M, N ≤ p + m → MW M0 p cs K M → p ≤ N → S.length = K.length → K.length ≤ p → cs.length ≤ 16 → (∀ f M', lwR B N m p cs S K = .inl f → MWF M0 f M' → wX12_law_113 post M') → (∀ cs' S' K' p' M', lwR B N m p cs S K = .inr (cs', S', K') → MW M0 p' cs' K' M' → wX12_law_113 post M') → wX12_isGood M (fun r7 M6 => if r7 = 0 then wX12_law_76 (wX12_law_39 post (m + 1)) post M6 else if (gi M6 0 4) ≤ (gi M6 0 3) then wX12_law_76 (wX12_law_39 post (m + 1)) post M6 else wX12_law_77 (wX12_law_39 post (m + 1)) post 1 M6) := by
  have hN := hT0.1
  have e76 : ∀ n M, wX12_law_113 post M → wX12_law_76 (wX12_law_39 post (n + 1)) post M := by
    intro n M h
    unfold wX12_law_76 wX12_law_77
    rw [if_pos rfl, wX12_law_39]; dsimp only
    rw [if_pos rfl]
    exact h
  intro m
  induction m with
  | zero =>
    intro p cs S K M hm hM hp hS hK hcl h1 h2
    obtain ⟨a0, a1, a2, a3, a4, a5, a6⟩ := id hM
    have hT := LTM_fr hT0 a0
    rw [good_n a2, if_neg n10, hT.2.2, a1, if_pos (nI_le (by omega) (by omega))]
    exact e76 _ _ (h2 cs S K p M rfl hM)
  | succ m ih =>
    intro p cs S K M hm hM hp hS hK hcl h1 h2
    obtain ⟨a0, a1, a2, a3, a4, a5, a6⟩ := id hM
    have hT := LTM_fr hT0 a0
    have hc256 := hr_256 hT0 p
    rw [good_n a2, if_neg n10, hT.2.2, a1]
    rw [lwR] at h1 h2
    by_cases c0 : p < N
    rotate_left
    · rw [if_neg c0] at h1 h2
      rw [if_pos (nI_le (by omega) (by omega))]
      exact e76 _ _ (h2 cs S K p M rfl hM)
    rw [if_pos c0] at h1 h2
    rw [if_neg (nI_ge c0 (by omega))]
    unfold wX12_law_77
    rw [if_neg n10, hreM hT hp (fun _ _ _ _ => rfl) a1]
    unfold wX12_law_100
    by_cases c1 : hr B N p = 59
    rotate_left
    · rw [if_neg c1] at h1
      rw [if_neg (show ¬ nI (hr B N p) = 59 from fun y => c1 ((nI_eq (b := 59) (by omega) (by decide)).mp y)), a1]
      unfold wX12_wrongs wX12_wrongs_22
      rw [a2, if_pos (by decide)]
      intro M1 e1 M2 e2
      have e1' : M1 = si M 0 5 (fw 1 p) := e1
      have hF : MWF M0 (fw 1 p) M2 := ⟨fun c i y1 y2 => by rw [e2, gi_si, if_neg (by omega), e1', gi_si, if_neg (by omega)]; exact a0 c i y1 y2, by rw [e2, g_i (by decide), e1', g_same], (fwL p (by omega)).1.1.1⟩
      rw [wX12_law_39]; dsimp only
      rw [if_neg n10, bad_n hF.2.1 hF.2.2, if_pos rfl]
      exact h1 _ M2 rfl hF
    rw [if_pos c1] at h1 h2
    rw [if_pos (show nI (hr B N p) = 59 by rw [c1]; rfl)]
    intro M1 e1
    rw [a1, nI_1] at e1
    have hM1 : MW M0 (p + 1) cs K M1 := ⟨fun c i y1 y2 => by rw [e1, gi_si, if_neg (by omega)]; exact a0 c i y1 y2, by rw [e1, g_same], by rw [e1, g_i (by decide)]; exact a2, by rw [e1, g_i (by decide)]; exact a3, by rw [e1, g_i (by decide)]; exact a4, fun i hi => by rw [e1, g_c (by decide), g_c (by decide)]; exact a5 i hi, fun i hi => by rw [e1, g_c (by decide), g_c (by decide), g_c (by decide), g_c (by decide)]; exact a6 i hi⟩
    rw [wX12_law_39]; dsimp only
    rw [if_neg n10, good_n hM1.2.2.1, if_neg n10]
    rw [hS] at h1 h2
    refine clauseM hT0 (by omega) (by omega) hcl hM1 _ (fun f e M' hM' => ?_) (fun q c s k e M' hM' => ?_)
    · rw [bad_n hM'.2.1 hM'.2.2, if_pos rfl]
      exact e76 _ _ (h1 f M' (by rw [e]) hM')
    · obtain ⟨g1, g2, g3, g4, g5, -⟩ := clsG e
      rw [e] at h1 h2
      exact ih q (cs ++ [c]) (S ++ s) (K ++ k) M' (by omega) hM' g2 (by rw [List.length_append, List.length_append]; omega) (by rw [List.length_append]; omega) (by rw [List.length_append]; show cs.length + 1 ≤ 16; omega) h1 h2
theorem lawRM {B : Nat → Nat} {N : Nat} {M0 : xMem} (hT0 : LTM B N M0) (post : Int32 → xMem → Prop) {M : xMem} (hM : MW M0 0 [] [] M) (h1 : ∀ f M', lwP B N = .inl f → MWF M0 f M' → wX12_law_113 post M') (h2 : ∀ cs' S' K' p' M', lwP B N = .inr (cs', S', K') → MW M0 p' cs' K' M' → wX12_law_113 post M') : wX12_law_39 post 242 1 M := by
  rw [wX12_law_39]; dsimp only
  rw [if_neg n10, good_n hM.2.2.1, if_neg n10]
  refine clauseM hT0 (Nat.zero_le _) (Nat.le_refl _) (by decide) hM _ (fun f e M' hM' => ?_) (fun q c s k e M' hM' => ?_)
  · rw [bad_n hM'.2.1 hM'.2.2, if_pos rfl]
    unfold wX12_law_76 wX12_law_77
    rw [if_pos rfl, wX12_law_39]; dsimp only
    rw [if_pos rfl]
    refine h1 f M' ?_ hM'
    unfold lwP
    have e' : clsP B N 0 0 0 = .inl f := e
    rw [e']
  · have e' : clsP B N 0 0 0 = .inr (q, c, s, k) := e
    obtain ⟨g1, g2, g3, g4, g5, -⟩ := clsG e'
    unfold lwP at h1 h2
    rw [e'] at h1 h2
    have hN := hT0.1
    exact lawLM hT0 post 240 q [c] s k M' (by omega) hM' g2 g4 (by omega) (by show 1 ≤ 16; decide) h1 h2
