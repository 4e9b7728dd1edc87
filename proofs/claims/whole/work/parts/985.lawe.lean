/-! law(), the class's clauses -/
abbrev xQ4 : Type := Nat × Nat × Nat × Nat
section
variable (B : Nat → Nat) (N : Nat)
def clsP (p z cl : Nat) : Int32 ⊕ (Nat × xQ4 × List Nat × List (Nat × Nat)) :=
  if kix (hr B N p) < 7 then (if cl < 16 then
    (match (if kix (hr B N p) = 6 then (.inr (p + 1, [], []) : xR) else sumP B N 6 (p + 1) z) with
    | .inl e => .inl e
    | .inr (q, s, k) => if hr B N q = 40 then
        (match cndP B N (tstP B N 5) (q + 1) (z + s.length) with
        | .inl e => .inl e
        | .inr (q2, s2, k2) => if hr B N q2 = 41 then .inr (q2 + 1, (kix (hr B N p), z, z + s.length, z + s.length + s2.length), s ++ s2, k ++ k2) else .inl (fw 1 q2))
      else .inl (fw 1 q))
    else .inl (fw 4 p))
  else .inl (fw 1 p)
def lwR : Nat → Nat → List xQ4 → List Nat → List (Nat × Nat) → Int32 ⊕ (List xQ4 × List Nat × List (Nat × Nat))
  | 0, _, cs, S, K => .inr (cs, S, K)
  | m + 1, p, cs, S, K => if p < N then (if hr B N p = 59 then (match clsP B N (p + 1) S.length cs.length with
    | .inl e => .inl e
    | .inr (q, c, s, k) => lwR m q (cs ++ [c]) (S ++ s) (K ++ k)) else .inl (fw 1 p)) else .inr (cs, S, K)
def lwP : Int32 ⊕ (List xQ4 × List Nat × List (Nat × Nat)) := match clsP B N 0 0 0 with
  | .inl e => .inl e
  | .inr (q, c, s, k) => lwR B N 240 q [c] s k
end
theorem clsG {B : Nat → Nat} {N p z cl q : Nat} {c : xQ4} {s : List Nat} {k : List (Nat × Nat)} (h : clsP B N p z cl = .inr (q, c, s, k)) : p < q ∧ q ≤ N ∧ s.length + p ≤ q ∧ s.length = k.length ∧ cl < 16 ∧ c.1 < 7 ∧ c.2.1 = z ∧ c.2.2.2 = z + s.length ∧ c.2.2.1 ≤ z + s.length ∧ z ≤ c.2.2.1 ∧ ∃ s1 s2 k1 k2, s = s1 ++ s2 ∧ k = k1 ++ k2 ∧ s1.length = k1.length ∧ s2.length = k2.length ∧ c.2.2.1 = z + s1.length ∧ (c.1 ≠ 6 → smF z 15 s1 k1) ∧ smB (z + s1.length) 14 s2 k2 := by
  unfold clsP at h
  by_cases c0 : kix (hr B N p) < 7
  rotate_left
  · rw [if_neg c0] at h; cases h
  rw [if_pos c0] at h
  have hpl : p < N := hr_pos (B := B) (fun q => by rw [q] at c0; revert c0; decide)
  by_cases c1 : cl < 16
  rotate_left
  · rw [if_neg c1] at h; cases h
  rw [if_pos c1] at h
  have tail : ∀ q1 s1 k1, s1.length = k1.length → p < q1 → q1 ≤ N → s1.length + p + 1 ≤ q1 → (kix (hr B N p) ≠ 6 → smF z 15 s1 k1) → (if hr B N q1 = 40 then
        (match cndP B N (tstP B N 5) (q1 + 1) (z + s1.length) with
        | .inl e => (.inl e : Int32 ⊕ (Nat × xQ4 × List Nat × List (Nat × Nat)))
        | .inr (q2, s2, k2) => if hr B N q2 = 41 then .inr (q2 + 1, (kix (hr B N p), z, z + s1.length, z + s1.length + s2.length), s1 ++ s2, k1 ++ k2) else .inl (fw 1 q2))
      else .inl (fw 1 q1)) = .inr (q, c, s, k) → p < q ∧ q ≤ N ∧ s.length + p ≤ q ∧ s.length = k.length ∧ cl < 16 ∧ c.1 < 7 ∧ c.2.1 = z ∧ c.2.2.2 = z + s.length ∧ c.2.2.1 ≤ z + s.length ∧ z ≤ c.2.2.1 ∧ ∃ s1 s2 k1 k2, s = s1 ++ s2 ∧ k = k1 ++ k2 ∧ s1.length = k1.length ∧ s2.length = k2.length ∧ c.2.2.1 = z + s1.length ∧ (c.1 ≠ 6 → smF z 15 s1 k1) ∧ smB (z + s1.length) 14 s2 k2 := by
    intro q1 s1 k1 e1 e2 e3 e4 e5 h
    by_cases d0 : hr B N q1 = 40
    rotate_left
    · rw [if_neg d0] at h; cases h
    rw [if_pos d0] at h
    match e : cndP B N (tstP B N 5) (q1 + 1) (z + s1.length) with
    | .inl f => rw [e] at h; cases h
    | .inr (q2, s2, k2) =>
      rw [e] at h
      dsimp only at h
      obtain ⟨b, b3, b4, b5, b6⟩ := cndG (tstG (B := B) (N := N) 5) _ _ _ _ _ e
      by_cases d1 : hr B N q2 = 41
      rotate_left
      · rw [if_neg d1] at h; cases h
      rw [if_pos d1] at h
      have hql : q2 < N := hr_pos (B := B) (by omega)
      cases h
      have el : (s1 ++ s2).length = s1.length + s2.length := List.length_append
      exact ⟨by omega, by omega, by omega, by rw [el, List.length_append]; omega, c1, c0, rfl, by show z + s1.length + s2.length = _; rw [el]; omega, by show z + s1.length ≤ _; rw [el]; omega, by show z ≤ z + s1.length; omega, s1, s2, k1, k2, rfl, rfl, e1, b3, rfl, e5, b⟩
  by_cases c2 : kix (hr B N p) = 6
  · rw [if_pos c2] at h
    exact tail (p + 1) [] [] rfl (by omega) (by omega) (by show 0 + p + 1 ≤ p + 1; omega) (fun x => absurd c2 x) h
  · rw [if_neg c2] at h
    match e : sumP B N 6 (p + 1) z with
    | .inl f => rw [e] at h; cases h
    | .inr (q1, s1, k1) =>
      rw [e] at h
      obtain ⟨b, b3, b4, b5, b6⟩ := sumG (B := B) (N := N) 6 _ _ _ _ _ e
      exact tail q1 s1 k1 b3 (by omega) b5 (by omega) (fun _ => b) h
def frF (C0 C : xMem) : Prop := ∀ c i, ¬ (c = 32 ∧ i ≤ 4) → ¬ (33 ≤ c ∧ c ≤ 38) → gi C c i = gi C0 c i
def clA (cs : List xQ4) (C : xMem) : Prop := ∀ i, i < cs.length → gi C 34 i = nI (cs.getD i (0, 0, 0, 0)).1 ∧ gi C 35 i = nI (cs.getD i (0, 0, 0, 0)).2.1 ∧ gi C 36 i = nI (cs.getD i (0, 0, 0, 0)).2.2.1 ∧ gi C 37 i = nI (cs.getD i (0, 0, 0, 0)).2.2.2
def CLs (C0 : xMem) (B : Nat → Nat) (N p : Nat) (cs : List xQ4) (S : List Nat) (C : xMem) : Prop := frF C0 C ∧ LTC B N C ∧ GSt C p S C ∧ gi C 33 0 = nI cs.length ∧ clA cs C
def CLf (C0 : xMem) (B : Nat → Nat) (N : Nat) (f : Int32) (C : xMem) : Prop := frF C0 C ∧ LTC B N C ∧ FSt C f C ∧ ∃ cl, cl ≤ 16 ∧ gi C 33 0 = nI cl
theorem LTC_fr {B : Nat → Nat} {N : Nat} {C C' : xMem} (h : LTC B N C) (f : ∀ c i, ¬ (c = 32 ∧ (i = 3 ∨ i = 4)) → ¬ (33 ≤ c ∧ c ≤ 38) → gi C' c i = gi C c i) : LTC B N C' := by
  obtain ⟨a, b, c, d⟩ := h
  exact ⟨a, fun i hi => ⟨(b i hi).1, by rw [f _ _ (by omega) (by omega)]; exact (b i hi).2⟩, by rw [f _ _ (by decide) (by decide)]; exact c, by rw [f _ _ (by decide) (by decide)]; exact d⟩
theorem getD_appK (a : List xQ4) (x : xQ4) (i : Nat) (h : i < (a ++ [x]).length) : (a ++ [x]).getD i (0, 0, 0, 0) = if i < a.length then a.getD i (0, 0, 0, 0) else x := by
  rw [List.length_append] at h
  have h' : i < a.length + 1 := h
  rw [List.getD_eq_getElem?_getD]
  by_cases q : i < a.length
  · rw [if_pos q, List.getElem?_append_left q, ← List.getD_eq_getElem?_getD]
  · rw [if_neg q, List.getElem?_append_right (by omega), show i - a.length = 0 by omega]; rfl
theorem addF {B : Nat → Nat} {N : Nat} {C0 C C1 : xMem} (hb : frF C0 C) (hT : LTC B N C) {cl : Nat} (hcl : cl ≤ 16) (hc0 : gi C 33 0 = nI cl) {f : Int32} (hF : FSt C f C1) (a b c : Int32) (post : xMem → Prop) (h : ∀ C', CLf C0 B N f C' → post C') : wX5_addClause 33 a b c C1 post := by
  obtain ⟨fr, h4, hf, z, hz, h5⟩ := id hF
  have e0 : gi C1 33 0 = nI cl := by rw [fr _ _ (by decide) (by decide) (by decide)]; exact hc0
  have fr2 : ∀ c i, ¬ (c = 32 ∧ (i = 3 ∨ i = 4)) → ¬ (33 ≤ c ∧ c ≤ 38) → gi C1 c i = gi C c i := fun c i h1 h2 => fr c i h1 (by omega) (by omega)
  have fin : ∀ C', (∀ c i, ¬ (33 ≤ c ∧ c ≤ 37) → gi C' c i = gi C1 c i) → gi C' 33 5 = nI z → (∃ cl, cl ≤ 16 ∧ gi C' 33 0 = nI cl) → post C' := fun C' g1 g2 g3 => h C' ⟨fun c i y1 y2 => by rw [g1 c i (by omega), fr2 c i (by omega) y2]; exact hb c i y1 y2, LTC_fr hT (fun c i y1 y2 => by rw [g1 c i (by omega)]; exact fr2 c i y1 y2), ⟨fun _ _ _ _ _ => rfl, by rw [g1 _ _ (by decide)]; exact h4, hf, z, hz, g2⟩, g3⟩
  unfold wX5_addClause
  rw [e0]
  by_cases q : 16 ≤ cl
  · rw [if_pos (show (16 : Int32) ≤ nI cl from nI_le (a := 16) q (by omega))]
    exact fin C1 (fun _ _ _ => rfl) h5 ⟨cl, hcl, e0⟩
  · rw [if_neg (show ¬ (16 : Int32) ≤ nI cl from nI_ge (b := 16) (by omega) (by decide))]
    have hv := vl (n := cl) (N := 16) (by omega) (by decide)
    refine ⟨hv, ?_⟩
    intro M3 e3
    have k3 : gi M3 33 0 = nI cl := by rw [e3, g_c (by decide)]; exact e0
    rw [k3]
    refine ⟨hv, ?_⟩
    intro M5 e5
    have k5 : gi M5 33 0 = nI cl := by rw [e5, g_c (by decide)]; exact k3
    rw [k5]
    refine ⟨hv, ?_⟩
    intro M7 e7
    have k7 : gi M7 33 0 = nI cl := by rw [e7, g_c (by decide)]; exact k5
    rw [k7]
    refine ⟨hv, ?_⟩
    intro M9 e9 M10 e10
    have k9 : gi M9 33 0 = nI cl := by rw [e9, g_c (by decide)]; exact k7
    rw [k9, nI_1] at e10
    refine fin M10 (fun c i y => ?_) ?_ ⟨cl + 1, by omega, by rw [e10, g_same]⟩
    · rw [e10, gi_si, if_neg (by omega), e9, gi_si, if_neg (by omega), e7, gi_si, if_neg (by omega), e5, gi_si, if_neg (by omega), e3, gi_si, if_neg (by omega)]
    · rw [e10, g_i (by decide), e9, g_c (by decide), e7, g_c (by decide), e5, g_c (by decide), e3, g_c (by decide)]; exact h5
theorem addG {B : Nat → Nat} {N p : Nat} {C0 C C1 : xMem} {cs : List xQ4} {S S1 : List Nat} (hC : CLs C0 B N p cs S C) (hcl : cs.length < 16) {q : Nat} (hG : GSt C q S1 C1) (a b c : Nat) (post : xMem → Prop) (h : ∀ C', CLs C0 B N q (cs ++ [(a, b, c, S1.length)]) S1 C' → post C') : wX5_addClause 33 (nI a) (nI b) (nI c) C1 post := by
  obtain ⟨hb, hT, -, hc0, hA⟩ := hC
  obtain ⟨fr, h3, h4, h5, h6⟩ := id hG
  have e0 : gi C1 33 0 = nI cs.length := by rw [fr _ _ (by decide) (by decide) (by decide)]; exact hc0
  have fr2 : ∀ c i, ¬ (c = 32 ∧ (i = 3 ∨ i = 4)) → ¬ (33 ≤ c ∧ c ≤ 38) → gi C1 c i = gi C c i := fun c i h1 h2 => fr c i h1 (by omega) (by omega)
  unfold wX5_addClause
  rw [e0, if_neg (show ¬ (16 : Int32) ≤ nI cs.length from nI_ge (b := 16) (by omega) (by decide))]
  have hv := vl (n := cs.length) (N := 16) (by omega) (by decide)
  refine ⟨hv, ?_⟩
  intro M3 e3
  have k3 : gi M3 33 0 = nI cs.length := by rw [e3, g_c (by decide)]; exact e0
  rw [k3]
  refine ⟨hv, ?_⟩
  intro M5 e5
  have k5 : gi M5 33 0 = nI cs.length := by rw [e5, g_c (by decide)]; exact k3
  rw [k5]
  refine ⟨hv, ?_⟩
  intro M7 e7
  have k7 : gi M7 33 0 = nI cs.length := by rw [e7, g_c (by decide)]; exact k5
  rw [k7]
  refine ⟨hv, ?_⟩
  intro M9 e9 M10 e10
  have k9 : gi M9 33 0 = nI cs.length := by rw [e9, g_c (by decide)]; exact k7
  rw [k9, nI_1] at e10
  have z5 : gi M7 33 5 = nI S1.length := by rw [e7, g_c (by decide), e5, g_c (by decide), e3, g_c (by decide)]; exact h5
  rw [z5, nI_clamp (by omega)] at e9
  rw [nI_clamp (by omega)] at e3 e5 e7
  have G : ∀ c i, ¬ (33 ≤ c ∧ c ≤ 37) → gi M10 c i = gi C1 c i := fun c i y => by rw [e10, gi_si, if_neg (by omega), e9, gi_si, if_neg (by omega), e7, gi_si, if_neg (by omega), e5, gi_si, if_neg (by omega), e3, gi_si, if_neg (by omega)]
  refine h M10 ⟨fun c i y1 y2 => by rw [G c i (by omega), fr2 c i (by omega) y2]; exact hb c i y1 y2, LTC_fr hT (fun c i y1 y2 => by rw [G c i (by omega)]; exact fr2 c i y1 y2), ⟨fun _ _ _ _ _ => rfl, by rw [G _ _ (by decide)]; exact h3, by rw [G _ _ (by decide)]; exact h4, by rw [e10, g_i (by decide), e9, g_c (by decide)]; exact z5, fun i hi => by rw [G _ _ (by decide)]; exact h6 i hi⟩, by rw [e10, g_same, List.length_append]; rfl, fun i hi => ?_⟩
  have o34 : gi M10 34 i = if i = cs.length then nI a else gi C1 34 i := by
    rw [e10, g_c (by decide), e9, g_c (by decide), e7, g_c (by decide), e5, g_c (by decide), e3, gi_si]
    by_cases y : i = cs.length
    · rw [if_pos ⟨rfl, y⟩, if_pos y]
    · rw [if_neg (by omega), if_neg y]
  have o35 : gi M10 35 i = if i = cs.length then nI b else gi C1 35 i := by
    rw [e10, g_c (by decide), e9, g_c (by decide), e7, g_c (by decide), e5, gi_si]
    by_cases y : i = cs.length
    · rw [if_pos ⟨rfl, y⟩, if_pos y]
    · rw [if_neg (by omega), if_neg y, e3, g_c (by decide)]
  have o36 : gi M10 36 i = if i = cs.length then nI c else gi C1 36 i := by
    rw [e10, g_c (by decide), e9, g_c (by decide), e7, gi_si]
    by_cases y : i = cs.length
    · rw [if_pos ⟨rfl, y⟩, if_pos y]
    · rw [if_neg (by omega), if_neg y, e5, g_c (by decide), e3, g_c (by decide)]
  have o37 : gi M10 37 i = if i = cs.length then nI S1.length else gi C1 37 i := by
    rw [e10, g_c (by decide), e9, gi_si]
    by_cases y : i = cs.length
    · rw [if_pos ⟨rfl, y⟩, if_pos y]
    · rw [if_neg (by omega), if_neg y, e7, g_c (by decide), e5, g_c (by decide), e3, g_c (by decide)]
  rw [getD_appK _ _ _ hi, o34, o35, o36, o37]
  by_cases y : i < cs.length
  · rw [if_pos y, if_neg (by omega), if_neg (by omega), if_neg (by omega), if_neg (by omega), fr _ _ (by omega) (by omega) (by decide), fr _ _ (by omega) (by omega) (by decide), fr _ _ (by omega) (by omega) (by decide), fr _ _ (by omega) (by omega) (by decide)]
    exact hA i y
  · have : i = cs.length := by rw [List.length_append] at hi; have : i < cs.length + 1 := hi; omega
    rw [if_neg y, if_pos this, if_pos this, if_pos this, if_pos this]
    exact ⟨rfl, rfl, rfl, rfl⟩
def OUTc (C0 : xMem) (B : Nat → Nat) (N : Nat) (cs : List xQ4) (S : List Nat) (r : Int32 ⊕ (Nat × xQ4 × List Nat × List (Nat × Nat))) (C : xMem) : Prop := match r with
  | .inl f => CLf C0 B N f C
  | .inr q => CLs C0 B N q.1 (cs ++ [q.2.1]) (S ++ q.2.2.1) C
theorem cl65F {B : Nat → Nat} {N : Nat} {C0 C C1 : xMem} (hb : frF C0 C) (hT : LTC B N C) {cl : Nat} (hcl : cl ≤ 16) (hc0 : gi C 33 0 = nI cl) {f : Int32} (hF : FSt C f C1) (a b : Int32) (post : xMem → Prop) (h : ∀ C', CLf C0 B N f C' → post C') : wX6_readClause_65 post a b C1 := by
  unfold wX6_readClause_65
  intro v1 e1
  refine takeF hT hF _ _ (fun C2 hF2 => ?_)
  refine cndF (tstF C 12 (by decide)) _ _ _ _ hF2 (fun C3 hF3 => ?_)
  refine takeF hT hF3 _ _ (fun C4 hF4 => ?_)
  exact addF hb hT hcl hc0 hF4 _ _ _ _ h
theorem cl36F {B : Nat → Nat} {N : Nat} {C0 C C1 : xMem} (hb : frF C0 C) (hT : LTC B N C) {cl : Nat} (hcl : cl ≤ 16) (hc0 : gi C 33 0 = nI cl) {f : Int32} (hF : FSt C f C1) (a : Int32) (post : xMem → Prop) (h : ∀ C', CLf C0 B N f C' → post C') : wX6_readClause_36 post a C1 := by
  unfold wX6_readClause_36
  intro M1 e1 v2 e2
  subst e1
  have hF1 := FSt_at hF (gi C1 32 3 + 1)
  split
  · exact cl65F hb hT hcl hc0 hF1 _ _ _ h
  · exact sumF C 12 (by decide) _ _ _ _ hF1 (fun C2 hF2 => cl65F hb hT hcl hc0 hF2 _ _ _ h)
theorem clsF {B : Nat → Nat} {N : Nat} {C0 C C1 : xMem} (hb : frF C0 C) (hT : LTC B N C) {cl : Nat} (hcl : cl ≤ 16) (hc0 : gi C 33 0 = nI cl) {f : Int32} (hF : FSt C f C1) (post : xMem → Prop) (h : ∀ C', CLf C0 B N f C' → post C') : wX6_readClause C1 post := by
  unfold wX6_readClause
  refine placeF hT hF _ _ (fun r => ?_)
  split
  · split
    · exact cl36F hb hT hcl hc0 hF _ _ h
    · exact refuseF hF _ _ (cl36F hb hT hcl hc0 hF _ _ h)
  · exact refuseF hF _ _ (cl36F hb hT hcl hc0 hF _ _ h)
theorem clsC {B : Nat → Nat} {N p : Nat} {C0 C : xMem} {cs : List xQ4} {S : List Nat} (hC : CLs C0 B N p cs S C) (hp : p ≤ N) (hS : S.length ≤ p) (hcl : cs.length ≤ 16) (post : xMem → Prop) (h : ∀ C', OUTc C0 B N cs S (clsP B N p S.length cs.length) C' → post C') : wX6_readClause C post := by
  obtain ⟨hb, hT, hG, hc0, hA⟩ := id hC
  have hN := hT.1
  unfold wX6_readClause
  refine placeL hT hp hG sx_1 (by decide) _ ?_
  unfold clsP at h
  by_cases c0 : kix (hr B N p) < 7
  rotate_left
  · rw [if_neg c0] at h
    rw [show pl1 (hr B N p) = -1 from if_neg c0, if_neg (by decide)]
    refine refuseL hG (by omega) 1 (fwL p (by omega)).1.1.1 _ (fun C1 hF => ?_)
    exact cl36F hb hT hcl hc0 hF _ _ h
  rw [if_pos c0] at h
  have hpl : p < N := hr_pos (B := B) (fun q => by rw [q] at c0; revert c0; decide)
  rw [show pl1 (hr B N p) = nI (kix (hr B N p)) from if_pos c0, if_pos (show (0 : Int32) ≤ nI (kix (hr B N p)) from nI_le (Nat.zero_le _) (by omega)), hc0]
  by_cases c1 : cs.length < 16
  rotate_left
  · rw [if_neg c1] at h
    rw [if_neg (show ¬ nI cs.length < 16 from nI_nlt (b := 16) (by omega) (by omega))]
    refine refuseL hG (by omega) 4 (fwL p (by omega)).1.2 _ (fun C1 hF => ?_)
    exact cl36F hb hT hcl hc0 hF _ _ h
  rw [if_pos c1] at h
  rw [if_pos (show nI cs.length < 16 from nI_lt (b := 16) c1 (by decide))]
  have tail : ∀ q s k C1, GSt C q (S ++ s) C1 → q ≤ N → S.length + s.length ≤ q → (∀ C', OUTc C0 B N cs S (if hr B N q = 40 then
        (match cndP B N (tstP B N 5) (q + 1) (S.length + s.length) with
        | .inl e => .inl e
        | .inr (q2, s2, k2) => if hr B N q2 = 41 then .inr (q2 + 1, (kix (hr B N p), S.length, S.length + s.length, S.length + s.length + s2.length), s ++ s2, k ++ k2) else .inl (fw 1 q2))
      else .inl (fw 1 q)) C' → post C') → wX6_readClause_65 post (nI (kix (hr B N p))) (nI S.length) C1 := by
    intro q s k C1 hG1 hq hl h
    have hlen : (S ++ s).length = S.length + s.length := List.length_append
    unfold wX6_readClause_65
    rw [hG1.2.2.2.1, hlen]
    intro v1 e1
    subst e1
    refine takeG (c := 40) hT hq (by omega) hG1 (by decide) (by decide) _ (fun z C2 hG2 => ?_) (fun z C2 hF2 => ?_)
    rotate_left
    · rw [if_neg z] at h
      refine cndF (tstF C 12 (by decide)) _ _ _ _ hF2 (fun C3 hF3 => ?_)
      refine takeF hT hF3 _ _ (fun C4 hF4 => ?_)
      exact addF hb hT hcl hc0 hF4 _ _ _ _ h
    rw [if_pos z] at h
    have hql : q < N := hr_pos (B := B) (by omega)
    refine cndC hT (tstC hT 5 12 1 rfl (by decide)) (tstG 5) _ _ _ _ hG2 (by omega) (by omega) (fun C3 hO => ?_)
    rw [hlen] at hO
    match e : cndP B N (tstP B N 5) (q + 1) (S.length + s.length) with
    | .inl f =>
      rw [e] at h hO
      refine takeF hT hO _ _ (fun C4 hF4 => ?_)
      exact addF hb hT hcl hc0 hF4 _ _ _ _ h
    | .inr (q2, s2, k2) =>
      rw [e] at h hO
      dsimp only at h
      obtain ⟨-, -, g1, g2, g3⟩ := cndG (tstG (B := B) (N := N) 5) _ _ _ _ _ e
      have hO' : GSt C q2 (S ++ s ++ s2) C3 := hO
      have hlen2 : (S ++ s ++ s2).length = S.length + s.length + s2.length := by rw [List.length_append, hlen]
      refine takeG (c := 41) hT g2 (by omega) hO' (by decide) (by decide) _ (fun z C4 hG4 => ?_) (fun z C4 hF4 => ?_)
      · rw [if_pos z] at h
        refine addG hC c1 hG4 _ _ _ _ (fun C5 hC5 => h C5 ?_)
        rw [hlen2, List.append_assoc] at hC5
        exact hC5
      · rw [if_neg z] at h
        exact addF hb hT hcl hc0 hF4 _ _ _ _ h
  unfold wX6_readClause_36
  intro M1 e1 v2 e2
  subst e1
  have hG1 := GSt_at hG (q := p + 1) (v := gi C 32 3 + 1) (by rw [hG.2.1, nI_1])
  rw [hG1.2.2.2.1] at e2
  subst e2
  by_cases c2 : kix (hr B N p) = 6
  · rw [if_pos c2] at h
    rw [if_pos (show nI (kix (hr B N p)) = 6 from by rw [c2]; rfl)]
    exact tail (p + 1) [] [] _ (by rw [List.append_nil]; exact hG1) (by omega) (by show S.length + 0 ≤ _; omega) h
  · rw [if_neg c2] at h
    rw [if_neg (show ¬ nI (kix (hr B N p)) = 6 from fun y => c2 ((nI_eq (b := 6) (by omega) (by decide)).mp y))]
    refine sumC hT 6 12 0 rfl (by decide) _ _ _ _ hG1 (by omega) (by omega) (fun C2 hO => ?_)
    match e : sumP B N 6 (p + 1) S.length with
    | .inl f =>
      rw [e] at h hO
      exact cl65F hb hT hcl hc0 hO _ _ _ h
    | .inr (q, s, k) =>
      rw [e] at h hO
      obtain ⟨-, -, g1, g2, g3⟩ := sumG (B := B) (N := N) 6 _ _ _ _ _ e
      exact tail q s k C2 hO g2 (by omega) h
theorem lwRC {B : Nat → Nat} {N : Nat} {C0 : xMem} (post : Int32 → xMem → Prop) : ∀ m i p cs S K C, i + m = 240 → CLs C0 B N p cs S C → p ≤ N → S.length ≤ p → cs.length ≤ 16 → (∀ f C', lwR B N m p cs S K = .inl f → CLf C0 B N f C' → post f C') → (∀ cs' S' K' p' C', lwR B N m p cs S K = .inr (cs', S', K') → CLs C0 B N p' cs' S' C' → post (nI cs'.length) C') → wX6_read_38 post (m + 1) (nI i) C := by
  have f79 : ∀ f C, CLf C0 B N f C → post f C → wX6_read_79 post C := by
    intro f C hF h
    unfold wX6_read_79
    rw [if_neg (FSt_ne hF.2.2.1), hF.2.2.1.2.1]
    exact h
  have f38 : ∀ f C m x, CLf C0 B N f C → post f C → wX6_read_38 post (m + 1) x C := by
    intro f C m x hF h
    rw [wX6_read_38]; dsimp only
    split
    · exact f79 f C hF h
    · rw [if_neg (FSt_ne hF.2.2.1)]; exact f79 f C hF h
  intro m
  induction m with
  | zero =>
    intro i p cs S K C hi hC hp hS hcl h1 h2
    have : i = 240 := by omega
    subst this
    rw [wX6_read_38]; dsimp only
    rw [if_pos l240]
    unfold wX6_read_79
    rw [if_pos hC.2.2.1.2.2.1, hC.2.2.2.1]
    exact h2 cs S K p C rfl hC
  | succ m ih =>
    intro i p cs S K C hi hC hp hS hcl h1 h2
    obtain ⟨hb, hT, hG, hc0, hA⟩ := id hC
    have hN := hT.1
    rw [wX6_read_38]; dsimp only
    rw [if_neg (show ¬ (240 : Int32) ≤ nI i from nI_ge (b := 240) (by omega) (by decide)), if_pos hG.2.2.1, hT.2.2.2, hG.2.1]
    rw [lwR] at h1 h2
    by_cases c0 : p < N
    rotate_left
    · rw [if_neg c0] at h1 h2
      rw [if_pos (nI_le (by omega) (by omega))]
      unfold wX6_read_79
      rw [if_pos hG.2.2.1, hc0]
      exact h2 cs S K p C rfl hC
    rw [if_pos c0] at h1 h2
    rw [if_neg (nI_ge c0 (by omega))]
    refine takeG (c := 59) hT hp (by omega) hG (by decide) (by decide) _ (fun z C1 hG1 => ?_) (fun z C1 hF1 => ?_)
    rotate_left
    · rw [if_neg z] at h1
      refine clsF hb hT hcl hc0 hF1 _ (fun C2 hC2 => ?_)
      intro v6 e6
      exact f38 _ C2 m v6 hC2 (h1 _ C2 rfl hC2)
    rw [if_pos z] at h1 h2
    have fr : ∀ c i, ¬ (c = 32 ∧ (i = 3 ∨ i = 4)) → ¬ (33 ≤ c ∧ c ≤ 38) → gi C1 c i = gi C c i := fun c i h1 h2 => hG1.1 c i h1 (by omega) (by omega)
    have hC1 : CLs C0 B N (p + 1) cs S C1 := ⟨fun c i y1 y2 => by rw [fr c i (by omega) y2]; exact hb c i y1 y2, LTC_fr hT fr, ⟨fun _ _ _ _ _ => rfl, hG1.2⟩, by rw [hG1.1 _ _ (by decide) (by decide) (by decide)]; exact hc0, fun j hj => by
      rw [hG1.1 34 j (by omega) (by omega) (by decide), hG1.1 35 j (by omega) (by omega) (by decide), hG1.1 36 j (by omega) (by omega) (by decide), hG1.1 37 j (by omega) (by omega) (by decide)]
      exact hA j hj⟩
    refine clsC hC1 (by omega) (by omega) hcl _ (fun C2 hO => ?_)
    intro v6 e6
    subst e6
    rw [nI_1]
    match e : clsP B N (p + 1) S.length cs.length with
    | .inl f =>
      rw [e] at h1 hO
      exact f38 _ C2 m _ hO (h1 _ C2 rfl hO)
    | .inr (q, c, s, k) =>
      rw [e] at h1 h2 hO
      obtain ⟨g1, g2, g3, -, g5, -⟩ := clsG e
      exact ih (i + 1) q (cs ++ [c]) (S ++ s) (K ++ k) C2 (by omega) hO g2 (by rw [List.length_append]; omega) (by rw [List.length_append]; show cs.length + 1 ≤ 16; omega) h1 h2
theorem rdLC {B : Nat → Nat} {N : Nat} (hN1 : 1 ≤ N) (hN : N ≤ 240) {C : xMem} (hB : ∀ i, i < N → B i < 256 ∧ gi C 1 i = nI (B i)) (post : Int32 → xMem → Prop) (h1 : ∀ f C', lwP B N = .inl f → CLf C B N f C' → post f C') (h2 : ∀ cs' S' K' p' C', lwP B N = .inr (cs', S', K') → CLs C B N p' cs' S' C' → post (nI cs'.length) C') : wX6_read (nI N) C post := by
  unfold wX6_read
  intro M1 e1
  rw [min_eq, if_neg (show ¬ (260 : Int32) < nI N from nI_nlt (a := 260) (by omega) (by decide))]
  intro M4 e4 M5 e5 M6 e6
  unfold wX5_clear
  intro M7 e7 M8 e8
  have G : ∀ c i, ¬ (c = 32 ∧ i ≤ 4) → ¬ (33 ≤ c ∧ c ≤ 38) → gi M8 c i = gi C c i := fun c i y1 y2 => by
    rw [e8, gi_si, if_neg (by omega), e7, gi_si, if_neg (by omega), e6, gi_si, if_neg (by omega), e5, gi_si, if_neg (by omega), e4, gi_si, if_neg (by omega), e1, gi_si, if_neg (by omega)]
  have hC8 : CLs C B N 0 [] [] M8 := by
    refine ⟨G, ⟨hN, fun i hi => ⟨(hB i hi).1, by rw [G _ _ (by omega) (by decide)]; exact (hB i hi).2⟩, ?_, ?_⟩, ⟨fun _ _ _ _ _ => rfl, ?_, ?_, ?_, fun i hi => absurd hi (Nat.not_lt_zero i)⟩, ?_, fun i hi => absurd hi (Nat.not_lt_zero i)⟩
    · rw [e8, g_c (by decide), e7, g_c (by decide), e6, g_i (by decide), e5, g_i (by decide), e4, g_i (by decide), e1, g_same]
    · rw [e8, g_c (by decide), e7, g_c (by decide), e6, g_i (by decide), e5, g_i (by decide), e4, g_same]
    · rw [e8, g_c (by decide), e7, g_c (by decide), e6, g_i (by decide), e5, g_same]; rfl
    · rw [e8, g_c (by decide), e7, g_c (by decide), e6, g_same]
    · rw [e8, g_same]; rfl
    · rw [e8, g_i (by decide), e7, g_same]; rfl
  refine clsC hC8 (Nat.zero_le _) (Nat.le_refl _) (by decide) _ (fun C9 hO => ?_)
  have hO' : OUTc C B N [] [] (clsP B N 0 0 0) C9 := hO
  unfold lwP at h1 h2
  match e : clsP B N 0 0 0 with
  | .inl f =>
    rw [e] at h1 hO'
    have hF : CLf C B N f C9 := hO'
    refine ⟨1, ?_⟩
    rw [wX6_read_38]; dsimp only
    rw [if_neg (by decide), if_neg (FSt_ne hF.2.2.1)]
    unfold wX6_read_79
    rw [if_neg (FSt_ne hF.2.2.1), hF.2.2.1.2.1]
    exact h1 f C9 rfl hF
  | .inr (q, c, s, k) =>
    rw [e] at h1 h2 hO'
    obtain ⟨g1, g2, g3, -, g5, -⟩ := clsG e
    exact ⟨241, lwRC post 240 0 q [c] s k C9 rfl hO' g2 (by omega) (by show 1 ≤ 16; decide) h1 h2⟩
