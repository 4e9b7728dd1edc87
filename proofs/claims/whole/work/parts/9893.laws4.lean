/-! law(), what is written stays small -/
def okCd (x : Nat × Nat) : Prop := x.1 = 0 ∨ (x.1 = 1 ∧ lix x.2 < 12 ∧ x.2 < 256) ∨ x.1 = 2 ∨ isT x.1 ∨ isPl x.1 ∨ isCm x.1 ∨ x.1 = 38 ∨ x.1 = 124
def bdQ (s : List Nat) (k : List (Nat × Nat)) : Prop := (∀ w, w ∈ s → w < 2 ^ 27) ∧ ∀ x, x ∈ k → okCd x
def bdR (r : Nat → Nat → xR) : Prop := ∀ p z q s k, z ≤ p → r p z = .inr (q, s, k) → bdQ s k
theorem bdQ_app {s s' : List Nat} {k k' : List (Nat × Nat)} (a : bdQ s k) (b : bdQ s' k') : bdQ (s ++ s') (k ++ k') := by
  refine ⟨fun w hw => ?_, fun x hx => ?_⟩
  · rcases List.mem_append.mp hw with q | q
    · exact a.1 w q
    · exact b.1 w q
  · rcases List.mem_append.mp hx with q | q
    · exact a.2 x q
    · exact b.2 x q
theorem bdQ_1 {w : Nat} {x : Nat × Nat} (a : w < 2 ^ 27) (b : okCd x) : bdQ [w] [x] := ⟨fun v hv => by rw [List.mem_singleton.mp hv]; exact a, fun y hy => by rw [List.mem_singleton.mp hy]; exact b⟩
theorem bdQ_m {s s' : List Nat} {k k' : List (Nat × Nat)} {w : Nat} {x : Nat × Nat} (a : bdQ s k) (b : bdQ s' k') (c : w < 2 ^ 27) (d : okCd x) : bdQ (s ++ [w] ++ s') (k ++ k' ++ [x]) := by
  refine ⟨fun v hv => ?_, fun y hy => ?_⟩
  · rcases List.mem_append.mp hv with q | q
    · rcases List.mem_append.mp q with q | q
      · exact a.1 v q
      · rw [List.mem_singleton.mp q]; exact c
    · exact b.1 v q
  · rcases List.mem_append.mp hy with q | q
    · rcases List.mem_append.mp q with q | q
      · exact a.2 y q
      · exact b.2 y q
    · rw [List.mem_singleton.mp q]; exact d
theorem vdg_lt (B : Nat → Nat) (N : Nat) : ∀ m p a, (∀ j, j < m → isDg (hr B N (p + j))) → vdg B N m p a < 10 ^ m * (a + 1) := by
  intro m
  induction m with
  | zero => intro p a _; show a < 1 * (a + 1); omega
  | succ m ih =>
    intro p a h
    have h0 := h 0 (by omega)
    rw [Nat.add_zero] at h0
    have h1 := ih (p + 1) (10 * a + hr B N p - 48) (fun j hj => by rw [show p + 1 + j = p + (j + 1) by omega]; exact h (j + 1) (by omega))
    have h2 : 10 ^ m * (10 * a + hr B N p - 48 + 1) ≤ 10 ^ m * (10 * (a + 1)) := Nat.mul_le_mul_left _ (by omega)
    have h3 : 10 ^ (m + 1) * (a + 1) = 10 ^ m * (10 * (a + 1)) := by rw [Nat.pow_succ, Nat.mul_assoc]
    rw [h3]
    exact Nat.lt_of_lt_of_le h1 h2
theorem ndg_dg (B : Nat → Nat) (N : Nat) : ∀ m p j, j < ndg B N m p → isDg (hr B N (p + j)) := by
  intro m
  induction m with
  | zero => intro p j h; exact absurd h (Nat.not_lt_zero j)
  | succ m ih =>
    intro p j h
    rw [ndg_s] at h
    by_cases c : isDg (hr B N p)
    · rw [if_pos c] at h
      match j with
      | 0 => exact c
      | j + 1 => rw [show p + (j + 1) = p + 1 + j by omega]; exact ih (p + 1) j (by omega)
    · rw [if_neg c] at h; exact absurd h (Nat.not_lt_zero j)
theorem hr_b {B : Nat → Nat} {N : Nat} (hB : ∀ i, i < N → B i < 256) (p : Nat) : hr B N p < 256 := by
  unfold hr
  split
  · rename_i q; exact hB p q
  · decide
theorem facB {B : Nat → Nat} {N : Nat} (hB : ∀ i, i < N → B i < 256) {rec : Option (Nat → Nat → xR)} (hr' : ∀ r, rec = some r → bdR r) : bdR (facP B N rec) := by
  intro p z q s k hz h
  unfold facP at h
  by_cases c0 : hr B N p = 91
  · rw [if_pos c0] at h
    match rec, hr', h with
    | none, _, h => cases h
    | some r, hr', h =>
      obtain ⟨q1, s1, k1, e1, e2⟩ := xb_r h
      by_cases c1 : hr B N q1 = 93
      · rw [if_pos c1] at e2
        cases e2
        exact hr' r rfl _ _ _ _ _ (by omega) e1
      · rw [if_neg c1] at e2; cases e2
  rw [if_neg c0] at h
  by_cases c1 : lix (hr B N p) < 12
  · rw [if_pos c1] at h
    cases h
    exact bdQ_1 (by omega) (Or.inr (Or.inl ⟨rfl, c1, hr_b hB p⟩))
  rw [if_neg c1] at h
  by_cases c2 : ndg B N 6 p = 0
  · rw [if_pos c2] at h; cases h
  rw [if_neg c2] at h
  by_cases c3 : ndg B N 6 p = 6
  · rw [if_pos c3] at h; cases h
  rw [if_neg c3] at h
  cases h
  refine bdQ_1 ?_ (Or.inl rfl)
  have h1 := vdg_lt B N (ndg B N 6 p) p 0 (fun j hj => ndg_dg B N 6 p j hj)
  have h6 : ndg B N 6 p ≤ 6 := by
    rcases Nat.lt_or_ge N p with y | y
    · rw [show (6 : Nat) = 5 + 1 from rfl, ndg_s, if_neg (by rw [hr_off (by omega)]; decide)]; omega
    · exact (ndg_le B N 6 p y).1
  have h2 : 10 ^ ndg B N 6 p ≤ 10 ^ 5 := Nat.pow_le_pow_right (by omega) (by omega)
  have h3 : (10 : Nat) ^ 5 = 100000 := by decide
  omega
theorem prLB {B : Nat → Nat} {N z : Nat} {rec : Option (Nat → Nat → xR)} (hb : bdR (facP B N rec)) {H : Nat} (hG : goodR N H (facP B N rec)) : ∀ m p s k q s' k', z + s.length ≤ p → bdQ s k → prL B N rec z m p s k = .inr (q, s', k') → bdQ s' k' := by
  intro m
  induction m with
  | zero => intro p s k q s' k' _ a h; cases h; exact a
  | succ m ih =>
    intro p s k q s' k' hz a h
    rw [prL] at h
    by_cases c : isT (hr B N p)
    · rw [if_pos c] at h
      obtain ⟨q1, s1, k1, e1, e2⟩ := xb_r h
      obtain ⟨-, -, g1, g2, g3⟩ := hG _ _ _ _ _ e1
      have t1 := (six_T c).1
      exact ih _ _ _ _ _ _ (by rw [len3]; omega) (bdQ_app (bdQ_app a (hb _ _ _ _ _ (by omega) e1)) (bdQ_1 (by omega) (Or.inr (Or.inr (Or.inr (Or.inl c)))))) e2
    · rw [if_neg c] at h; cases h; exact a
theorem prdB {B : Nat → Nat} {N : Nat} {rec : Option (Nat → Nat → xR)} (hb : bdR (facP B N rec)) {H : Nat} (hG : goodR N H (facP B N rec)) : bdR (prdP B N rec) := by
  intro p z q s k hz h
  obtain ⟨q1, s1, k1, e1, e2⟩ := xb_r h
  obtain ⟨-, -, g1, g2, g3⟩ := hG _ _ _ _ _ e1
  exact prLB hb hG _ _ _ _ _ _ _ (by omega) (hb _ _ _ _ _ hz e1) e2
theorem smLB {B : Nat → Nat} {N z : Nat} {rec : Option (Nat → Nat → xR)} (hb : bdR (prdP B N rec)) {H : Nat} (hG : goodR N H (prdP B N rec)) : ∀ m p s k q s' k', z + s.length ≤ p → bdQ s k → smL B N rec z m p s k = .inr (q, s', k') → bdQ s' k' := by
  intro m
  induction m with
  | zero => intro p s k q s' k' _ a h; cases h; exact a
  | succ m ih =>
    intro p s k q s' k' hz a h
    rw [smL] at h
    by_cases c : isPl (hr B N p)
    · rw [if_pos c] at h
      obtain ⟨q1, s1, k1, e1, e2⟩ := xb_r h
      obtain ⟨-, -, g1, g2, g3⟩ := hG _ _ _ _ _ e1
      have t1 := (six_P c).1
      exact ih _ _ _ _ _ _ (by rw [len3]; omega) (bdQ_app (bdQ_app a (hb _ _ _ _ _ (by omega) e1)) (bdQ_1 (by omega) (Or.inr (Or.inr (Or.inr (Or.inr (Or.inl c))))))) e2
    · rw [if_neg c] at h; cases h; exact a
theorem sumB {B : Nat → Nat} {N : Nat} (hB : ∀ i, i < N → B i < 256) : ∀ g, bdR (sumP B N g) := by
  have one : ∀ (rec : Option (Nat → Nat → xR)) (H : Nat), bdR (facP B N rec) → goodR N H (facP B N rec) → bdR (sumR B N rec) := by
    intro rec H hb hG p z q s k hz h
    obtain ⟨q1, s1, k1, e1, e2⟩ := xb_r h
    obtain ⟨-, -, g1, g2, g3⟩ := prdG hG _ _ _ _ _ e1
    exact smLB (prdB hb hG) (prdG hG) _ _ _ _ _ _ _ (by omega) (prdB hb hG _ _ _ _ _ hz e1) e2
  intro g
  induction g with
  | zero => exact one none 1 (facB hB (fun r e => by cases e)) (facG (Nat.le_refl _) (fun r e => by cases e))
  | succ g ih => exact one (some (sumP B N g)) (3 + 2 * g) (facB hB (fun r e => by cases e; exact ih)) (facG (by omega) (fun r e => by cases e; exact sumG g))
theorem prtLB {B : Nat → Nat} {N z : Nat} (hN : N ≤ 240) {r : Nat → Nat → xR} (hb : bdR r) {H : Nat} (hG : goodB N H r) : ∀ m p s k q s' k', z + s.length ≤ p → bdQ s k → prtL B N r z m p s k = .inr (q, s', k') → bdQ s' k' := by
  intro m
  induction m with
  | zero => intro p s k q s' k' _ a h; cases h; exact a
  | succ m ih =>
    intro p s k q s' k' hz a h
    rw [prtL] at h
    by_cases c : hr B N p = 38
    · rw [if_pos c] at h
      obtain ⟨q1, s1, k1, e1, e2⟩ := xb_r h
      obtain ⟨-, -, g1, g2, g3⟩ := hG _ _ _ _ _ e1
      exact ih _ _ _ _ _ _ (by rw [len3m]; omega) (bdQ_m a (hb _ _ _ _ _ (by omega) e1) (by omega) (Or.inr (Or.inr (Or.inr (Or.inr (Or.inr (Or.inr (Or.inl rfl)))))))) e2
    · rw [if_neg c] at h; cases h; exact a
theorem prtB {B : Nat → Nat} {N : Nat} (hN : N ≤ 240) {r : Nat → Nat → xR} (hb : bdR r) {H : Nat} (hG : goodB N H r) : bdR (prtP B N r) := by
  intro p z q s k hz h
  obtain ⟨q1, s1, k1, e1, e2⟩ := xb_r h
  obtain ⟨-, -, g1, g2, g3⟩ := hG _ _ _ _ _ e1
  exact prtLB hN hb hG _ _ _ _ _ _ _ (by omega) (hb _ _ _ _ _ hz e1) e2
theorem cnLB {B : Nat → Nat} {N z : Nat} (hN : N ≤ 240) {r : Nat → Nat → xR} (hb : bdR (prtP B N r)) {H : Nat} (hG : goodB N H (prtP B N r)) : ∀ m p s k q s' k', z + s.length ≤ p → bdQ s k → cnL B N r z m p s k = .inr (q, s', k') → bdQ s' k' := by
  intro m
  induction m with
  | zero => intro p s k q s' k' _ a h; cases h; exact a
  | succ m ih =>
    intro p s k q s' k' hz a h
    rw [cnL] at h
    by_cases c : hr B N p = 124
    · rw [if_pos c] at h
      obtain ⟨q1, s1, k1, e1, e2⟩ := xb_r h
      obtain ⟨-, -, g1, g2, g3⟩ := hG _ _ _ _ _ e1
      exact ih _ _ _ _ _ _ (by rw [len3m]; omega) (bdQ_m a (hb _ _ _ _ _ (by omega) e1) (by omega) (Or.inr (Or.inr (Or.inr (Or.inr (Or.inr (Or.inr (Or.inr rfl)))))))) e2
    · rw [if_neg c] at h; cases h; exact a
theorem cndB {B : Nat → Nat} {N : Nat} (hN : N ≤ 240) {r : Nat → Nat → xR} (hb : bdR r) {H : Nat} (hG : goodB N H r) : bdR (cndP B N r) := by
  intro p z q s k hz h
  obtain ⟨q1, s1, k1, e1, e2⟩ := xb_r h
  obtain ⟨-, -, g1, g2, g3⟩ := prtG hG _ _ _ _ _ e1
  exact cnLB hN (prtB hN hb hG) (prtG hG) _ _ _ _ _ _ _ (by omega) (prtB hN hb hG _ _ _ _ _ hz e1) e2
theorem tstRB {B : Nat → Nat} {N : Nat} (hN : N ≤ 240) {rec : Option (Nat → Nat → xR)} {sm : Nat → Nat → xR} {H : Nat} (h1 : ∀ r, rec = some r → bdR r ∧ goodB N H r) (h2 : bdR sm) (h3 : goodR N H sm) : bdR (tstR B N rec sm) := by
  intro p z q s k hz h
  unfold tstR at h
  by_cases c0 : hr B N p = 33
  · rw [if_pos c0] at h
    match rec, h1, h with
    | none, _, h => cases h
    | some r, h1, h =>
      obtain ⟨q1, s1, k1, e1, e2⟩ := xb_r h
      cases e2
      exact bdQ_app ((h1 r rfl).1 _ _ _ _ _ (by omega) e1) (bdQ_1 (by decide) (Or.inr (Or.inr (Or.inl rfl))))
  rw [if_neg c0] at h
  by_cases c1 : hr B N p = 40
  · rw [if_pos c1] at h
    match rec, h1, h with
    | none, _, h => cases h
    | some r, h1, h =>
      obtain ⟨q1, s1, k1, e1, e2⟩ := xb_r h
      by_cases c2 : hr B N q1 = 41
      · rw [if_pos c2] at e2
        cases e2
        exact cndB hN (h1 r rfl).1 (h1 r rfl).2 _ _ _ _ _ (by omega) e1
      · rw [if_neg c2] at e2; cases e2
  rw [if_neg c1] at h
  obtain ⟨q1, s1, k1, e1, e2⟩ := xb_r h
  obtain ⟨-, -, g1, g2, g3⟩ := h3 _ _ _ _ _ e1
  by_cases c2 : isCm (hr B N q1)
  · rw [if_pos c2] at e2
    obtain ⟨q2, s2, k2, e3, e4⟩ := xb_r e2
    cases e4
    have t1 := (six_C c2).1
    exact bdQ_app (bdQ_app (h2 _ _ _ _ _ hz e1) (h2 _ _ _ _ _ (by omega) e3)) (bdQ_1 (by omega) (Or.inr (Or.inr (Or.inr (Or.inr (Or.inr (Or.inl c2)))))))
  · rw [if_neg c2] at e2; cases e2
theorem goodR_mono {N H H' : Nat} {r : Nat → Nat → xR} (h : goodR N H r) (e : H ≤ H') : goodR N H' r := by
  intro p z q s k h0
  obtain ⟨⟨f, b1, b2⟩, c⟩ := h _ _ _ _ _ h0
  exact ⟨⟨f, ck_mono b1 e, b2⟩, c⟩
theorem tstB {B : Nat → Nat} {N : Nat} (hN : N ≤ 240) (hB : ∀ i, i < N → B i < 256) : ∀ g, bdR (tstP B N g) := by
  intro g
  induction g with
  | zero => exact tstRB hN (H := 3) (fun r e => by cases e) (sumB hB 0) (sumG 0)
  | succ g ih => exact tstRB hN (H := 4 + 2 * (g + 1)) (rec := some (tstP B N g)) (fun r e => by cases e; exact ⟨ih, goodB_mono (tstG g) (by omega)⟩) (sumB hB (g + 1)) (goodR_mono (sumG (g + 1)) (by omega))
/-! the law as it is kept -/
def hasK (K : List (Nat × Nat)) (z : Nat) (k : List (Nat × Nat)) : Prop := ∀ i, i < k.length → K.getD (z + i) (0, 0) = k.getD i (0, 0)
def okCl (S : List Nat) (K : List (Nat × Nat)) (c : xQ4) : Prop := c.1 < 7 ∧ ∃ s1 s2 k1 k2, hasL S c.2.1 s1 ∧ hasL S c.2.2.1 s2 ∧ hasK K c.2.1 k1 ∧ hasK K c.2.2.1 k2 ∧ s1.length = k1.length ∧ s2.length = k2.length ∧ c.2.2.1 = c.2.1 + s1.length ∧ c.2.2.2 = c.2.2.1 + s2.length ∧ c.2.2.2 ≤ S.length ∧ (c.1 ≠ 6 → smF c.2.1 15 s1 k1) ∧ smB c.2.2.1 14 s2 k2
def okLw (cs : List xQ4) (S : List Nat) (K : List (Nat × Nat)) : Prop := cs.length ≤ 16 ∧ S.length = K.length ∧ S.length ≤ 240 ∧ (∀ c, c ∈ cs → okCl S K c) ∧ bdQ S K
theorem getL_l (a b : List Nat) {i : Nat} (h : i < a.length) : (a ++ b).getD i 0 = a.getD i 0 := by rw [List.getD_eq_getElem?_getD, List.getElem?_append_left h, ← List.getD_eq_getElem?_getD]
theorem getL_r (a b : List Nat) (i : Nat) : (a ++ b).getD (a.length + i) 0 = b.getD i 0 := by rw [List.getD_eq_getElem?_getD, List.getElem?_append_right (by omega), show a.length + i - a.length = i by omega, ← List.getD_eq_getElem?_getD]
theorem getP_l (a b : List (Nat × Nat)) {i : Nat} (h : i < a.length) : (a ++ b).getD i (0, 0) = a.getD i (0, 0) := by rw [List.getD_eq_getElem?_getD, List.getElem?_append_left h, ← List.getD_eq_getElem?_getD]
theorem getP_r (a b : List (Nat × Nat)) (i : Nat) : (a ++ b).getD (a.length + i) (0, 0) = b.getD i (0, 0) := by rw [List.getD_eq_getElem?_getD, List.getElem?_append_right (by omega), show a.length + i - a.length = i by omega, ← List.getD_eq_getElem?_getD]
theorem okCl_app {S s : List Nat} {K k : List (Nat × Nat)} (hSK : S.length = K.length) {c : xQ4} (h : okCl S K c) : okCl (S ++ s) (K ++ k) c := by
  obtain ⟨a0, s1, s2, k1, k2, a1, a2, a3, a4, a5, a6, a7, a8, a9, a10, a11⟩ := h
  refine ⟨a0, s1, s2, k1, k2, fun i hi => ?_, fun i hi => ?_, fun i hi => ?_, fun i hi => ?_, a5, a6, a7, a8, by rw [List.length_append]; omega, a10, a11⟩
  · rw [getL_l _ _ (by omega)]; exact a1 i hi
  · rw [getL_l _ _ (by omega)]; exact a2 i hi
  · rw [getP_l _ _ (by omega)]; exact a3 i hi
  · rw [getP_l _ _ (by omega)]; exact a4 i hi
theorem okCl_new {B : Nat → Nat} {N p cl q : Nat} {S s : List Nat} {K k : List (Nat × Nat)} (hSK : S.length = K.length) {c : xQ4} (h : clsP B N p S.length cl = .inr (q, c, s, k)) : okCl (S ++ s) (K ++ k) c := by
  obtain ⟨-, -, -, g4, -, g6, g7, g8, g9, g10, s1, s2, k1, k2, e1, e2, e3, e4, e5, e6, e7⟩ := clsG h
  subst e1; subst e2
  rw [List.length_append] at g8
  refine ⟨g6, s1, s2, k1, k2, fun i hi => ?_, fun i hi => ?_, fun i hi => ?_, fun i hi => ?_, e3, e4, by omega, by omega, by rw [List.length_append, List.length_append]; omega, fun z => by rw [g7]; exact e6 z, by rw [e5]; exact e7⟩
  · rw [g7, getL_r, getL_l _ _ hi]
  · rw [e5, ← List.append_assoc, show S.length + s1.length + i = (S ++ s1).length + i by rw [List.length_append], getL_r]
  · rw [g7, hSK, getP_r, getP_l _ _ hi]
  · rw [e5, ← List.append_assoc, show S.length + s1.length + i = (K ++ k1).length + i by rw [List.length_append, hSK, e3], getP_r]
theorem clsB {B : Nat → Nat} {N : Nat} (hN : N ≤ 240) (hB : ∀ i, i < N → B i < 256) {p z cl q : Nat} {c : xQ4} {s : List Nat} {k : List (Nat × Nat)} (hz : z ≤ p) (h : clsP B N p z cl = .inr (q, c, s, k)) : bdQ s k := by
  unfold clsP at h
  by_cases c0 : kix (hr B N p) < 7
  rotate_left
  · rw [if_neg c0] at h; cases h
  rw [if_pos c0] at h
  by_cases c1 : cl < 16
  rotate_left
  · rw [if_neg c1] at h; cases h
  rw [if_pos c1] at h
  have tail : ∀ (q1 : Nat) (s1 : List Nat) (k1 : List (Nat × Nat)), bdQ s1 k1 → z + s1.length ≤ q1 → (if hr B N q1 = 40 then
        (match cndP B N (tstP B N 5) (q1 + 1) (z + s1.length) with
        | .inl e => (.inl e : Int32 ⊕ (Nat × xQ4 × List Nat × List (Nat × Nat)))
        | .inr (q2, s2, k2) => if hr B N q2 = 41 then .inr (q2 + 1, (kix (hr B N p), z, z + s1.length, z + s1.length + s2.length), s1 ++ s2, k1 ++ k2) else .inl (fw 1 q2))
      else .inl (fw 1 q1)) = .inr (q, c, s, k) → bdQ s k := by
    intro q1 s1 k1 hb hl h
    by_cases d0 : hr B N q1 = 40
    rotate_left
    · rw [if_neg d0] at h; cases h
    rw [if_pos d0] at h
    match e : cndP B N (tstP B N 5) (q1 + 1) (z + s1.length) with
    | .inl f => rw [e] at h; cases h
    | .inr (q2, s2, k2) =>
      rw [e] at h
      dsimp only at h
      by_cases d1 : hr B N q2 = 41
      rotate_left
      · rw [if_neg d1] at h; cases h
      rw [if_pos d1] at h
      cases h
      exact bdQ_app hb (cndB hN (tstB hN hB 5) (tstG 5) _ _ _ _ _ (by omega) e)
  by_cases c2 : kix (hr B N p) = 6
  · rw [if_pos c2] at h
    exact tail (p + 1) [] [] ⟨fun w hw => (by cases hw), fun x hx => (by cases hx)⟩ (by show z + 0 ≤ p + 1; omega) h
  · rw [if_neg c2] at h
    match e : sumP B N 6 (p + 1) z with
    | .inl f => rw [e] at h; cases h
    | .inr (q1, s1, k1) =>
      rw [e] at h
      obtain ⟨-, -, b4, b5, b6⟩ := sumG (B := B) (N := N) 6 _ _ _ _ _ e
      exact tail q1 s1 k1 (sumB hB 6 _ _ _ _ _ (by omega) e) (by omega) h
theorem lwR_ok {B : Nat → Nat} {N : Nat} (hN : N ≤ 240) (hB : ∀ i, i < N → B i < 256) : ∀ m p cs S K cs' S' K', okLw cs S K → S.length ≤ p → p ≤ N → 1 ≤ cs.length → lwR B N m p cs S K = .inr (cs', S', K') → okLw cs' S' K' ∧ 1 ≤ cs'.length := by
  intro m
  induction m with
  | zero => intro p cs S K cs' S' K' a _ _ h1 h; cases h; exact ⟨a, h1⟩
  | succ m ih =>
    intro p cs S K cs' S' K' a hS hp h1 h
    rw [lwR] at h
    by_cases c0 : p < N
    rotate_left
    · rw [if_neg c0] at h; cases h; exact ⟨a, h1⟩
    rw [if_pos c0] at h
    by_cases c1 : hr B N p = 59
    rotate_left
    · rw [if_neg c1] at h; cases h
    rw [if_pos c1] at h
    match e : clsP B N (p + 1) S.length cs.length with
    | .inl f => rw [e] at h; cases h
    | .inr (q, c, s, k) =>
      rw [e] at h
      obtain ⟨g1, g2, g3, g4, g5, -⟩ := clsG e
      obtain ⟨a1, a2, a3, a4, a5⟩ := a
      refine ih q (cs ++ [c]) (S ++ s) (K ++ k) cs' S' K' ⟨by rw [List.length_append]; show cs.length + 1 ≤ 16; omega, by rw [List.length_append, List.length_append]; omega, by rw [List.length_append]; omega, fun x hx => ?_, bdQ_app a5 (clsB hN hB (by omega) e)⟩ (by rw [List.length_append]; omega) g2 (by rw [List.length_append]; omega) h
      rcases List.mem_append.mp hx with y | y
      · exact okCl_app a2 (a4 x y)
      · rw [List.mem_singleton.mp y]; exact okCl_new a2 e
theorem lwP_ok {B : Nat → Nat} {N : Nat} (hN : N ≤ 240) (hB : ∀ i, i < N → B i < 256) {cs : List xQ4} {S : List Nat} {K : List (Nat × Nat)} (h : lwP B N = .inr (cs, S, K)) : okLw cs S K ∧ 1 ≤ cs.length := by
  unfold lwP at h
  match e : clsP B N 0 0 0 with
  | .inl f => rw [e] at h; cases h
  | .inr (q, c, s, k) =>
    rw [e] at h
    obtain ⟨g1, g2, g3, g4, g5, -⟩ := clsG e
    refine lwR_ok hN hB 240 q [c] s k cs S K ⟨by show 1 ≤ 16; decide, g4, by omega, fun x hx => ?_, clsB hN hB (Nat.le_refl _) e⟩ (by omega) g2 (Nat.le_refl _) h
    rw [List.mem_singleton.mp hx]
    exact okCl_new (S := []) (K := []) rfl e
