/-! law(): what is read means the same on both sides -/
def smF (z H : Nat) (s : List Nat) (k : List (Nat × Nat)) : Prop := ∃ f : xF, ckL z s f H ∧ gdL k f
def smB (z H : Nat) (s : List Nat) (k : List (Nat × Nat)) : Prop := ∃ f : xF, blF f ∧ ckL z s f H ∧ gdL k f
def goodR (N H : Nat) (r : Nat → Nat → xR) : Prop := ∀ p z q s k, r p z = .inr (q, s, k) → smF z H s k ∧ s.length = k.length ∧ p < q ∧ q ≤ N ∧ s.length + p ≤ q
def goodB (N H : Nat) (r : Nat → Nat → xR) : Prop := ∀ p z q s k, r p z = .inr (q, s, k) → smB z H s k ∧ s.length = k.length ∧ p < q ∧ q ≤ N ∧ s.length + p ≤ q
theorem hr_pos {B : Nat → Nat} {N p : Nat} (h : hr B N p ≠ 0) : p < N := by
  unfold hr at h
  rcases Nat.lt_or_ge p N with q | q
  · exact q
  · exact absurd (if_neg (by omega)) h
theorem hr_of {B : Nat → Nat} {N p : Nat} (h : p < N) : hr B N p = B p := if_pos h
theorem hr_off {B : Nat → Nat} {N p : Nat} (h : N ≤ p) : hr B N p = 0 := if_neg (by omega)
theorem ndg_le (B : Nat → Nat) (N : Nat) : ∀ m p, p ≤ N → ndg B N m p ≤ m ∧ p + ndg B N m p ≤ N := by
  intro m
  induction m with
  | zero => intro p h; exact ⟨Nat.le_refl _, h⟩
  | succ m ih =>
    intro p h
    unfold ndg
    by_cases c : isDg (hr B N p)
    · rw [if_pos c]
      have := ih (p + 1) (hr_pos (B := B) (p := p) (by omega))
      omega
    · rw [if_neg c]; omega
theorem gd_num (v : Nat) : gdL [(0, v)] (fun _ => some (nI v)) := fun _ _ => rfl
theorem gd_let (c : Nat) : gdL [(1, c)] (fun w => some (nI (w (lix c)))) := fun _ _ => rfl
theorem six_T {c : Nat} (h : isT c) : six c < 8 ∧ 2 < c ∧ c ≠ 38 ∧ c ≠ 124 ∧ c ≠ 0 := by
  rcases h with q | q | q <;> subst q <;> decide
theorem six_P {c : Nat} (h : isPl c) : six c < 8 ∧ 2 < c ∧ c ≠ 38 ∧ c ≠ 124 ∧ c ≠ 0 := by
  rcases h with q | q <;> subst q <;> decide
theorem six_C {c : Nat} (h : isCm c) : six c < 8 ∧ 5 ≤ six c ∧ 2 < c ∧ c ≠ 38 ∧ c ≠ 124 ∧ c ≠ 0 := by
  rcases h with q | q | q <;> subst q <;> decide
theorem facG {B : Nat → Nat} {N H : Nat} (hH : 1 ≤ H) {rec : Option (Nat → Nat → xR)} (hr' : ∀ r, rec = some r → goodR N H r) : goodR N H (facP B N rec) := by
  intro p z q s k h
  unfold facP at h
  by_cases c0 : hr B N p = 91
  · rw [if_pos c0] at h
    match rec, hr', h with
    | none, _, h => cases h
    | some r, hr', h =>
      obtain ⟨q1, s1, k1, e1, e2⟩ := xb_r h
      obtain ⟨a, b, c, d, e⟩ := hr' r rfl _ _ _ _ _ e1
      by_cases c1 : hr B N q1 = 93
      · rw [if_pos c1] at e2
        cases e2
        have := hr_pos (B := B) (N := N) (p := q1) (by omega)
        exact ⟨a, b, by omega, by omega, by omega⟩
      · rw [if_neg c1] at e2; cases e2
  rw [if_neg c0] at h
  by_cases c1 : lix (hr B N p) < 12
  · rw [if_pos c1] at h
    cases h
    have hp : p < N := hr_pos (fun q => by rw [q] at c1; revert c1; decide)
    exact ⟨⟨_, ck_mono (ck_let c1) hH, gd_let _⟩, rfl, by omega, by omega, by show 1 + p ≤ p + 1; omega⟩
  rw [if_neg c1] at h
  by_cases c2 : ndg B N 6 p = 0
  · rw [if_pos c2] at h; cases h
  rw [if_neg c2] at h
  by_cases c3 : ndg B N 6 p = 6
  · rw [if_pos c3] at h; cases h
  rw [if_neg c3] at h
  cases h
  have hp : p < N := by
    rcases Nat.lt_or_ge p N with q | q
    · exact q
    · exfalso
      refine c2 ?_
      unfold ndg
      rw [hr_off q, if_neg (by omega)]
  have := ndg_le B N 6 p (by omega)
  exact ⟨⟨_, ck_mono ck_num hH, gd_num _⟩, rfl, by omega, this.2, by show 1 + p ≤ _; omega⟩
theorem len3 (a b : List Nat) (x : Nat) : (a ++ b ++ [x]).length = a.length + b.length + 1 := by rw [List.length_append, List.length_append]; rfl
theorem len3k (a b : List (Nat × Nat)) (x : Nat × Nat) : (a ++ b ++ [x]).length = a.length + b.length + 1 := by rw [List.length_append, List.length_append]; rfl
theorem len3m (a b : List Nat) (x : Nat) : (a ++ [x] ++ b).length = a.length + 1 + b.length := by rw [List.length_append, List.length_append]; rfl
/-- what loops keep: the first place p0, all from z on -/
def accF (N z H p0 p : Nat) (s : List Nat) (k : List (Nat × Nat)) : Prop := smF z H s k ∧ s.length = k.length ∧ p0 < p ∧ p ≤ N ∧ s.length + p0 ≤ p
def accB (N z H p0 p : Nat) (s : List Nat) (k : List (Nat × Nat)) : Prop := smB z H s k ∧ s.length = k.length ∧ p0 < p ∧ p ≤ N ∧ s.length + p0 ≤ p
theorem prLG {B : Nat → Nat} {N H z p0 : Nat} {rec : Option (Nat → Nat → xR)} (hf : goodR N H (facP B N rec)) : ∀ m p s k q s' k', accF N z (H + 1) p0 p s k → prL B N rec z m p s k = .inr (q, s', k') → accF N z (H + 1) p0 q s' k' := by
  intro m
  induction m with
  | zero => intro p s k q s' k' a h; cases h; exact a
  | succ m ih =>
    intro p s k q s' k' a h
    rw [prL] at h
    by_cases c : isT (hr B N p)
    · rw [if_pos c] at h
      obtain ⟨q1, s1, k1, e1, e2⟩ := xb_r h
      obtain ⟨⟨f2, b1, b2⟩, b3, b4, b5, b6⟩ := hf _ _ _ _ _ e1
      obtain ⟨⟨f1, a1, a2⟩, a3, a4, a5, a6⟩ := a
      obtain ⟨t1, t2, t3, t4, t5⟩ := six_T c
      refine ih _ _ _ _ _ _ ⟨⟨_, ck_bin t1 a1 b1 (Nat.le_refl _) (Nat.le_refl _), gd_bin ⟨t2, t3, t4⟩ a2 b2⟩, ?_, by omega, b5, ?_⟩ e2
      · rw [len3, len3k]; omega
      · rw [len3]; omega
    · rw [if_neg c] at h; cases h; exact a
theorem prdG {B : Nat → Nat} {N H : Nat} {rec : Option (Nat → Nat → xR)} (hf : goodR N H (facP B N rec)) : goodR N (H + 1) (prdP B N rec) := by
  intro p z q s k h
  obtain ⟨q1, s1, k1, e1, e2⟩ := xb_r h
  obtain ⟨⟨f2, b1, b2⟩, b3, b4, b5, b6⟩ := hf _ _ _ _ _ e1
  exact prLG hf _ _ _ _ _ _ _ ⟨⟨f2, ck_mono b1 (by omega), b2⟩, b3, b4, b5, b6⟩ e2
theorem smLG {B : Nat → Nat} {N H z p0 : Nat} {rec : Option (Nat → Nat → xR)} (hf : goodR N H (prdP B N rec)) : ∀ m p s k q s' k', accF N z (H + 1) p0 p s k → smL B N rec z m p s k = .inr (q, s', k') → accF N z (H + 1) p0 q s' k' := by
  intro m
  induction m with
  | zero => intro p s k q s' k' a h; cases h; exact a
  | succ m ih =>
    intro p s k q s' k' a h
    rw [smL] at h
    by_cases c : isPl (hr B N p)
    · rw [if_pos c] at h
      obtain ⟨q1, s1, k1, e1, e2⟩ := xb_r h
      obtain ⟨⟨f2, b1, b2⟩, b3, b4, b5, b6⟩ := hf _ _ _ _ _ e1
      obtain ⟨⟨f1, a1, a2⟩, a3, a4, a5, a6⟩ := a
      obtain ⟨t1, t2, t3, t4, t5⟩ := six_P c
      refine ih _ _ _ _ _ _ ⟨⟨_, ck_bin t1 a1 b1 (Nat.le_refl _) (Nat.le_refl _), gd_bin ⟨t2, t3, t4⟩ a2 b2⟩, ?_, by omega, b5, ?_⟩ e2
      · rw [len3, len3k]; omega
      · rw [len3]; omega
    · rw [if_neg c] at h; cases h; exact a
theorem sumG {B : Nat → Nat} {N : Nat} : ∀ g, goodR N (3 + 2 * g) (sumP B N g) := by
  have one : ∀ (rec : Option (Nat → Nat → xR)) (H : Nat), goodR N H (facP B N rec) → goodR N (H + 2) (sumR B N rec) := by
    intro rec H hf p z q s k h
    obtain ⟨q1, s1, k1, e1, e2⟩ := xb_r h
    obtain ⟨⟨f2, b1, b2⟩, b3, b4, b5, b6⟩ := prdG hf _ _ _ _ _ e1
    exact smLG (prdG hf) _ _ _ _ _ _ _ ⟨⟨f2, ck_mono b1 (by omega), b2⟩, b3, b4, b5, b6⟩ e2
  intro g
  induction g with
  | zero => exact one none 1 (facG (Nat.le_refl _) (fun r e => by cases e))
  | succ g ih =>
    have := one (some (sumP B N g)) (3 + 2 * g) (facG (by omega) (fun r e => by cases e; exact ih))
    exact this
theorem bl_and {f1 f2 : xF} {o : Nat} (a : blF f1) (b : blF f2) : blF (fun v => (f1 v).bind (fun x => if x = (if o = 4 then 1 else 0) then some x else f2 v)) := by
  intro v x h
  dsimp only at h
  match e : f1 v with
  | none => rw [e] at h; cases h
  | some u =>
    rw [e] at h
    have h' : (if u = (if o = 4 then (1 : Int32) else 0) then some u else f2 v) = some x := h
    by_cases c : u = (if o = 4 then (1 : Int32) else 0)
    · rw [if_pos c] at h'
      have := Option.some.inj h'
      subst this
      exact a v u e
    · rw [if_neg c] at h'; exact b v x h'
theorem prtLG {B : Nat → Nat} {N H z p0 : Nat} {r : Nat → Nat → xR} (hf : goodB N H r) : ∀ m p s k q s' k', accB N z H p0 p s k → prtL B N r z m p s k = .inr (q, s', k') → accB N z H p0 q s' k' := by
  intro m
  induction m with
  | zero => intro p s k q s' k' a h; cases h; exact a
  | succ m ih =>
    intro p s k q s' k' a h
    rw [prtL] at h
    by_cases c : hr B N p = 38
    · rw [if_pos c] at h
      obtain ⟨q1, s1, k1, e1, e2⟩ := xb_r h
      obtain ⟨⟨f2, b0, b1, b2⟩, b3, b4, b5, b6⟩ := hf _ _ _ _ _ e1
      obtain ⟨⟨f1, a0, a1, a2⟩, a3, a4, a5, a6⟩ := a
      refine ih _ _ _ _ _ _ ⟨⟨_, bl_and (o := 3) a0 b0, ck_jmp (Or.inl rfl) a1 b1 (Nat.le_refl _) (Nat.le_refl _), gd_jmp (Or.inl rfl) a0 a2 b2⟩, ?_, by omega, b5, ?_⟩ e2
      · rw [len3m, len3k]; omega
      · rw [len3m]; omega
    · rw [if_neg c] at h; cases h; exact a
theorem prtG {B : Nat → Nat} {N H : Nat} {r : Nat → Nat → xR} (hf : goodB N H r) : goodB N H (prtP B N r) := by
  intro p z q s k h
  obtain ⟨q1, s1, k1, e1, e2⟩ := xb_r h
  exact prtLG hf _ _ _ _ _ _ _ (hf _ _ _ _ _ e1) e2
theorem cnLG {B : Nat → Nat} {N H z p0 : Nat} {r : Nat → Nat → xR} (hf : goodB N H (prtP B N r)) : ∀ m p s k q s' k', accB N z H p0 p s k → cnL B N r z m p s k = .inr (q, s', k') → accB N z H p0 q s' k' := by
  intro m
  induction m with
  | zero => intro p s k q s' k' a h; cases h; exact a
  | succ m ih =>
    intro p s k q s' k' a h
    rw [cnL] at h
    by_cases c : hr B N p = 124
    · rw [if_pos c] at h
      obtain ⟨q1, s1, k1, e1, e2⟩ := xb_r h
      obtain ⟨⟨f2, b0, b1, b2⟩, b3, b4, b5, b6⟩ := hf _ _ _ _ _ e1
      obtain ⟨⟨f1, a0, a1, a2⟩, a3, a4, a5, a6⟩ := a
      refine ih _ _ _ _ _ _ ⟨⟨_, bl_and (o := 4) a0 b0, ck_jmp (Or.inr rfl) a1 b1 (Nat.le_refl _) (Nat.le_refl _), gd_jmp (Or.inr rfl) a0 a2 b2⟩, ?_, by omega, b5, ?_⟩ e2
      · rw [len3m, len3k]; omega
      · rw [len3m]; omega
    · rw [if_neg c] at h; cases h; exact a
theorem cndG {B : Nat → Nat} {N H : Nat} {r : Nat → Nat → xR} (hf : goodB N H r) : goodB N H (cndP B N r) := by
  intro p z q s k h
  obtain ⟨q1, s1, k1, e1, e2⟩ := xb_r h
  exact cnLG (prtG hf) _ _ _ _ _ _ _ (prtG hf _ _ _ _ _ e1) e2
theorem bl_cmp {f1 f2 : xF} {c : Nat} (h : isCm c) : blF (fBin c f1 f2) := by
  intro v x e
  unfold fBin at e
  match e1 : f1 v, e2 : f2 v with
  | none, _ => rw [e1] at e; cases e
  | some a, none => rw [e1, e2] at e; cases e
  | some a, some b =>
    rw [e1, e2] at e
    have e' : arI (six c) a b = some x := e
    obtain ⟨-, h5, -⟩ := six_C h
    unfold arI at e'
    rw [if_neg (by omega)] at e'
    have := Option.some.inj e'
    subst this
    unfold wkI
    rw [if_neg (by omega), if_neg (by omega), if_neg (by omega), if_neg (by omega), if_neg (by omega)]
    split
    · split
      · exact Or.inl rfl
      · exact Or.inr rfl
    · split
      · split
        · exact Or.inl rfl
        · exact Or.inr rfl
      · split
        · exact Or.inr rfl
        · exact Or.inl rfl
theorem bl_not {f : xF} (h : blF f) : blF (fNot f) := by
  intro v x e
  unfold fNot at e
  match e1 : f v with
  | none => rw [e1] at e; cases e
  | some a =>
    rw [e1] at e
    have := Option.some.inj e
    subst this
    rcases h v a e1 with q | q <;> subst q
    · exact Or.inr rfl
    · exact Or.inl rfl
theorem tstRG {B : Nat → Nat} {N H : Nat} {rec : Option (Nat → Nat → xR)} {sm : Nat → Nat → xR} (h1 : ∀ r, rec = some r → goodB N (H + 1) r) (h2 : goodR N H sm) : goodB N (H + 1) (tstR B N rec sm) := by
  intro p z q s k h
  unfold tstR at h
  by_cases c0 : hr B N p = 33
  · rw [if_pos c0] at h
    match rec, h1, h with
    | none, _, h => cases h
    | some r, h1, h =>
      obtain ⟨q1, s1, k1, e1, e2⟩ := xb_r h
      cases e2
      obtain ⟨⟨f, b0, b1, b2⟩, b3, b4, b5, b6⟩ := h1 r rfl _ _ _ _ _ e1
      exact ⟨⟨_, bl_not b0, ck_not b1, gd_not b2⟩, by rw [List.length_append, List.length_append, b3]; rfl, by omega, b5, by rw [List.length_append]; show s1.length + 1 + p ≤ q; omega⟩
  rw [if_neg c0] at h
  by_cases c1 : hr B N p = 40
  · rw [if_pos c1] at h
    match rec, h1, h with
    | none, _, h => cases h
    | some r, h1, h =>
      obtain ⟨q1, s1, k1, e1, e2⟩ := xb_r h
      obtain ⟨a, b, c, d, e⟩ := cndG (h1 r rfl) _ _ _ _ _ e1
      by_cases c2 : hr B N q1 = 41
      · rw [if_pos c2] at e2
        cases e2
        have := hr_pos (B := B) (N := N) (p := q1) (by omega)
        exact ⟨a, b, by omega, by omega, by omega⟩
      · rw [if_neg c2] at e2; cases e2
  rw [if_neg c1] at h
  obtain ⟨q1, s1, k1, e1, e2⟩ := xb_r h
  obtain ⟨⟨f1, a1, a2⟩, a3, a4, a5, a6⟩ := h2 _ _ _ _ _ e1
  by_cases c2 : isCm (hr B N q1)
  · rw [if_pos c2] at e2
    obtain ⟨q2, s2, k2, e3, e4⟩ := xb_r e2
    cases e4
    obtain ⟨⟨f2, b1, b2⟩, b3, b4, b5, b6⟩ := h2 _ _ _ _ _ e3
    obtain ⟨t1, t0, t2, t3, t4, t5⟩ := six_C c2
    exact ⟨⟨_, bl_cmp c2, ck_bin t1 a1 b1 (by omega) (Nat.le_refl _), gd_bin ⟨t2, t3, t4⟩ a2 b2⟩, by rw [len3, len3k]; omega, by omega, b5, by rw [len3]; omega⟩
  · rw [if_neg c2] at e2; cases e2
theorem goodB_mono {N H H' : Nat} {r : Nat → Nat → xR} (h : goodB N H r) (e : H ≤ H') : goodB N H' r := by
  intro p z q s k h0
  obtain ⟨⟨f, b0, b1, b2⟩, c⟩ := h _ _ _ _ _ h0
  exact ⟨⟨f, b0, ck_mono b1 e, b2⟩, c⟩
theorem tstG {B : Nat → Nat} {N : Nat} : ∀ g, goodB N (4 + 2 * g) (tstP B N g) := by
  intro g
  induction g with
  | zero => exact tstRG (fun r e => by cases e) (sumG 0)
  | succ g ih =>
    have h := tstRG (B := B) (N := N) (H := 3 + 2 * (g + 1)) (rec := some (tstP B N g)) (fun r e => by cases e; exact goodB_mono ih (by omega)) (sumG (B := B) (g + 1))
    rw [show 3 + 2 * (g + 1) + 1 = 4 + 2 * (g + 1) by omega] at h
    exact h
