/-! a law asked, the reference -/
def stR : List (Option Int32) → xMem → Prop
  | [], _ => True
  | x :: r, M => (match x with
    | some v => gi M 24 r.length = 0 ∧ gi M 23 r.length = v
    | none => gi M 24 r.length = 1) ∧ stR r M
theorem stR_fr {M M' : xMem} : ∀ τ : List (Option Int32), (∀ i, i < τ.length → gi M' 23 i = gi M 23 i ∧ gi M' 24 i = gi M 24 i) → stR τ M → stR τ M' := by
  intro τ
  induction τ with
  | nil => intro _ _; trivial
  | cons x τ ih =>
    intro h hs
    have h0 := h τ.length (by show τ.length < τ.length + 1; omega)
    refine ⟨?_, ih (fun i hi => h i (by show i < τ.length + 1; omega)) hs.2⟩
    match x, hs with
    | some v, hs => exact ⟨by rw [h0.2]; exact hs.1.1, by rw [h0.1]; exact hs.1.2⟩
    | none, hs => show gi M' 24 τ.length = 1; rw [h0.2]; exact hs.1
def STm (M0 : xMem) (τ : List (Option Int32)) (M : xMem) : Prop := (∀ c i, c ≠ 23 → c ≠ 24 → gi M c i = gi M0 c i) ∧ stR τ M
theorem worked_any (a b c : Int32) (M : xMem) (post : Int32 → xMem → Prop) (h : ∀ r, post r M) : wX12_worked a b c M post := by
  unfold wX12_worked
  by_cases c1 : a = 37
  · rw [if_pos c1]
    by_cases z : c = 0
    · rw [if_pos z]; exact h _
    · rw [if_neg z]; exact ⟨z, h _⟩
  rw [if_neg c1]
  by_cases c2 : a = 42
  · rw [if_pos c2]; exact h _
  rw [if_neg c2]
  by_cases c3 : a = 43
  · rw [if_pos c3]; exact h _
  rw [if_neg c3]
  by_cases c4 : a = 45
  · rw [if_pos c4]; exact h _
  rw [if_neg c4]
  by_cases c5 : a = 47
  · rw [if_pos c5]
    by_cases z : c = 0
    · rw [if_pos z]; exact h _
    · rw [if_neg z]; exact ⟨z, h _⟩
  rw [if_neg c5]
  by_cases c6 : a = 60
  · rw [if_pos c6]; split <;> exact h _
  rw [if_neg c6]
  by_cases c7 : a = 62
  · rw [if_pos c7]; split <;> exact h _
  rw [if_neg c7]
  split <;> exact h _
theorem worked_n {c : Nat} (hc : isT c ∨ isPl c ∨ isCm c) {a b : Int32} (hz : ¬ ((c = 47 ∨ c = 37) ∧ b = 0)) (M : xMem) (post : Int32 → xMem → Prop) (h : post (wkI (six c) a b) M) : wX12_worked (nI c) a b M post := by
  unfold wX12_worked
  unfold wkI at h
  have s0 : six 43 = 0 := by decide
  have s1 : six 45 = 1 := by decide
  have s2 : six 42 = 2 := by decide
  have s3 : six 47 = 3 := by decide
  have s4 : six 37 = 4 := by decide
  have s5 : six 60 = 5 := by decide
  have s6 : six 62 = 6 := by decide
  have s7 : six 61 = 7 := by decide
  rcases hc with (q | q | q) | (q | q) | (q | q | q) <;> subst q
  · rw [s2] at h
    rw [if_neg (show ¬ nI 42 = 37 by decide), if_pos (show nI 42 = 42 from rfl)]; exact h
  · rw [s3] at h
    have hb : ¬ b = 0 := fun y => hz ⟨Or.inl rfl, y⟩
    rw [if_neg (show ¬ nI 47 = 37 by decide), if_neg (show ¬ nI 47 = 42 by decide), if_neg (show ¬ nI 47 = 43 by decide), if_neg (show ¬ nI 47 = 45 by decide), if_pos (show nI 47 = 47 from rfl), if_neg hb]; exact ⟨hb, h⟩
  · rw [s4] at h
    have hb : ¬ b = 0 := fun y => hz ⟨Or.inr rfl, y⟩
    rw [if_pos (show nI 37 = 37 from rfl), if_neg hb]; exact ⟨hb, h⟩
  · rw [s0] at h
    rw [if_neg (show ¬ nI 43 = 37 by decide), if_neg (show ¬ nI 43 = 42 by decide), if_pos (show nI 43 = 43 from rfl)]; exact h
  · rw [s1] at h
    rw [if_neg (show ¬ nI 45 = 37 by decide), if_neg (show ¬ nI 45 = 42 by decide), if_neg (show ¬ nI 45 = 43 by decide), if_pos (show nI 45 = 45 from rfl)]; exact h
  · rw [s5] at h
    rw [if_neg (show ¬ nI 60 = 37 by decide), if_neg (show ¬ nI 60 = 42 by decide), if_neg (show ¬ nI 60 = 43 by decide), if_neg (show ¬ nI 60 = 45 by decide), if_neg (show ¬ nI 60 = 47 by decide), if_pos (show nI 60 = 60 from rfl)]
    by_cases y : b ≤ a
    · rw [if_pos y] at h ⊢; exact h
    · rw [if_neg y] at h ⊢; exact h
  · rw [s6] at h
    rw [if_neg (show ¬ nI 62 = 37 by decide), if_neg (show ¬ nI 62 = 42 by decide), if_neg (show ¬ nI 62 = 43 by decide), if_neg (show ¬ nI 62 = 45 by decide), if_neg (show ¬ nI 62 = 47 by decide), if_neg (show ¬ nI 62 = 60 by decide), if_pos (show nI 62 = 62 from rfl)]
    by_cases y : a ≤ b
    · rw [if_pos y] at h ⊢; exact h
    · rw [if_neg y] at h ⊢; exact h
  · rw [s7] at h
    rw [if_neg (show ¬ nI 61 = 37 by decide), if_neg (show ¬ nI 61 = 42 by decide), if_neg (show ¬ nI 61 = 43 by decide), if_neg (show ¬ nI 61 = 45 by decide), if_neg (show ¬ nI 61 = 47 by decide), if_neg (show ¬ nI 61 = 60 by decide), if_neg (show ¬ nI 61 = 62 by decide)]
    by_cases y : a = b
    · rw [if_pos y] at h ⊢; exact h
    · rw [if_neg y] at h ⊢; exact h
def vcI (a : Nat) : Nat := if a = 118 then 65 else 38 + lix a
theorem valueOf_n {a : Nat} (ha : a < 256) (hl : lix a < 12) (M : xMem) (post : Int32 → xMem → Prop) (h : post (gi M 0 (vcI a)) M) : wX12_valueOf (nI a) M post := by
  have key : ∀ a < 256, lix a < 12 → a = 107 ∨ a = 117 ∨ a = 109 ∨ a = 111 ∨ a = 108 ∨ a = 97 ∨ a = 114 ∨ a = 101 ∨ a = 99 ∨ a = 122 ∨ a = 104 ∨ a = 118 := by decide +kernel
  unfold wX12_valueOf
  rcases key a ha hl with q | q | q | q | q | q | q | q | q | q | q | q <;> subst q <;> (repeat (first | rw [if_pos (by decide)] | rw [if_neg (by decide)])) <;> exact h
theorem nr0 : vp_nar .boolean 0 = 0 := narb_0
theorem nr1 : vp_nar .boolean 1 = 1 := narb_1
/-- two of them become one -/
theorem doesM {M0 : xMem} {c : Nat} (hc : isT c ∨ isPl c ∨ isCm c ∨ c = 38 ∨ c = 124) {x y : Option Int32} {r : List (Option Int32)} (hr : r.length + 1 < 240) {M : xMem} (hM : STm M0 (y :: x :: r) M) (post : xMem → Prop) (hp : ∀ M', STm M0 (opR c x y :: r) M' → post M') : wX12_does (nI c) (nI r.length) M post := by
  obtain ⟨fr, hy, hx, hs⟩ := id hM
  have ly : (x :: r).length = r.length + 1 := rfl
  rw [ly] at hy
  have va := vl (n := r.length) (N := 240) (by omega) (by decide)
  have vb := vl (n := r.length + 1) (N := 240) hr (by decide)
  have keep : ∀ (M1 : xMem), (∀ c i, c ≠ 23 → c ≠ 24 → gi M1 c i = gi M0 c i) → (∀ i, i < r.length → gi M1 23 i = gi M 23 i ∧ gi M1 24 i = gi M 24 i) → ∀ z : Option Int32, (match z with
    | some v => gi M1 24 r.length = 0 ∧ gi M1 23 r.length = v
    | none => gi M1 24 r.length = 1) → STm M0 (z :: r) M1 := fun M1 h1 h2 z h3 => ⟨h1, h3, stR_fr r h2 hs⟩
  have a0 : gi M 24 r.length = 0 ↔ ∃ u, x = some u := by
    match x, hx with
    | some u, hx => exact ⟨fun _ => ⟨u, rfl⟩, fun _ => hx.1⟩
    | none, hx => exact ⟨fun z => absurd (hx.symm.trans z) n10, fun ⟨u, e⟩ => by cases e⟩
  have b0 : gi M 24 (r.length + 1) = 0 ↔ ∃ u, y = some u := by
    match y, hy with
    | some u, hy => exact ⟨fun _ => ⟨u, rfl⟩, fun _ => hy.1⟩
    | none, hy => exact ⟨fun z => absurd (hy.symm.trans z) n10, fun ⟨u, e⟩ => by cases e⟩
  unfold wX12_does
  intro v1 e1
  rw [nI_1] at e1
  subst e1
  -- & and |
  have jm : ∀ s0 : Int32, opR c x y = x.bind (fun u => if u = s0 then y else some u) → (gi M 24 r.length = 0 → wX12_does_42 post (nI r.length) (nI (r.length + 1)) s0 (gi M 23 r.length) M) := by
    intro s0 eo h0
    obtain ⟨u, eu⟩ := a0.mp h0
    subst eu
    have hu : gi M 23 r.length = u := hx.2
    rw [hu]
    unfold wX12_does_42
    have eo' : opR c (some u) y = if u = s0 then y else some u := eo
    by_cases q : u = s0
    · rw [if_pos q] at eo' ⊢
      refine ⟨vb, va, ?_⟩
      intro M4 e4
      refine ⟨vb, va, ?_⟩
      intro M7 e7
      rw [nI_clamp (by omega), nI_clamp (by omega)] at e4 e7
      have g24 : gi M4 24 (r.length + 1) = gi M 24 (r.length + 1) := by rw [e4, g_c (by decide)]
      rw [g24] at e7
      refine hp M7 ?_
      rw [eo']
      refine keep M7 (fun c i y1 y2 => by rw [e7, g_c y2, e4, g_c y1]; exact fr c i y1 y2) (fun i hi => ⟨by rw [e7, g_c (by decide), e4, g_i (by omega)], by rw [e7, g_i (by omega), e4, g_c (by decide)]⟩) y ?_
      match y, hy with
      | some w, hy =>
        refine ⟨?_, ?_⟩
        · rw [e7, g_same, hy.1]; exact nr0
        · rw [e7, g_c (by decide), e4, g_same]; exact hy.2
      | none, hy =>
        show gi M7 24 r.length = 1
        rw [e7, g_same, hy]; exact nr1
    · rw [if_neg q] at eo' ⊢
      refine hp M ?_
      rw [eo']
      exact keep M fr (fun _ _ => ⟨rfl, rfl⟩) (some u) hx
  have jn : ∀ s0 : Int32, opR c x y = x.bind (fun u => if u = s0 then y else some u) → ¬ gi M 24 r.length = 0 → post M := by
    intro s0 eo h0
    match x, eo, hx, a0 with
    | some u, _, _, a0 => exact absurd (a0.mpr ⟨u, rfl⟩) h0
    | none, eo, hx, _ =>
      refine hp M ?_
      rw [eo]
      exact keep M fr (fun _ _ => ⟨rfl, rfl⟩) none hx
  by_cases c38 : c = 38
  · rw [if_pos (show nI c = 38 by rw [c38]; rfl)]
    unfold wX12_does_16
    refine ⟨va, ?_⟩
    rw [nI_clamp (by omega)]
    have eo : opR c x y = x.bind (fun u => if u = 1 then y else some u) := by unfold opR; rw [if_pos c38]
    by_cases z : gi M 24 r.length = 0
    · rw [if_pos z]
      refine ⟨va, ?_⟩
      rw [if_pos (show nI c = 38 by rw [c38]; rfl)]
      exact jm 1 eo z
    · rw [if_neg z]; exact jn 1 eo z
  by_cases c124 : c = 124
  · rw [if_neg (show ¬ nI c = 38 by rw [c124]; decide), if_pos (show nI c = 124 by rw [c124]; rfl)]
    unfold wX12_does_16
    refine ⟨va, ?_⟩
    rw [nI_clamp (by omega)]
    have eo : opR c x y = x.bind (fun u => if u = 0 then y else some u) := by unfold opR; rw [if_neg c38, if_pos c124]
    by_cases z : gi M 24 r.length = 0
    · rw [if_pos z]
      refine ⟨va, ?_⟩
      rw [if_neg (show ¬ nI c = 38 by rw [c124]; decide)]
      exact jm 0 eo z
    · rw [if_neg z]; exact jn 0 eo z
  have hc3 : isT c ∨ isPl c ∨ isCm c := by
    rcases hc with q | q | q | q | q
    · exact Or.inl q
    · exact Or.inr (Or.inl q)
    · exact Or.inr (Or.inr q)
    · exact absurd q c38
    · exact absurd q c124
  have hc256 : c < 256 := by
    rcases hc3 with (q | q | q) | (q | q) | (q | q | q) <;> omega
  have ne : ∀ k : Nat, k < 256 → c ≠ k → ¬ nI c = nI k := fun k hk h z => h ((nI_eq (by omega) (by omega)).mp z)
  have eo : opR c x y = x.bind (fun u => y.bind (fun w => arI (six c) u w)) := by unfold opR; rw [if_neg c38, if_neg c124]
  rw [if_neg (show ¬ nI c = 38 from ne 38 (by decide) c38), if_neg (show ¬ nI c = 124 from ne 124 (by decide) c124)]
  -- the end of it
  have fin : ∀ s0 : Int32, (s0 = 1 → opR c x y = none) → (s0 = 0 → ∃ u w, x = some u ∧ y = some w ∧ ¬ ((c = 47 ∨ c = 37) ∧ w = 0) ∧ opR c x y = some (wkI (six c) u w)) → (s0 = 0 ∨ s0 = 1) → wX12_does_120 post (nI c) (nI r.length) (nI (r.length + 1)) s0 (nI r.length) M := by
    intro s0 w1 w0 ws
    unfold wX12_does_120
    refine ⟨va, ?_⟩
    intro M2 e2
    refine ⟨va, vb, ?_⟩
    rw [nI_clamp (by omega)] at e2
    rw [nI_clamp (by omega), nI_clamp (by omega)]
    have rest : ∀ r6 : Int32, (s0 = 0 → ∃ u w, x = some u ∧ y = some w ∧ r6 = wkI (six c) u w ∧ opR c x y = some r6) → (vp_in (nI r.length) 240 ∧ ∀ M8 : xMem, M8 = si M2 23 r.length r6 → post M8) := by
      intro r6 h6
      refine ⟨va, ?_⟩
      intro M8 e8
      refine hp M8 (keep M8 (fun c i y1 y2 => by rw [e8, g_c y1, e2, g_c y2]; exact fr c i y1 y2) (fun i hi => ⟨by rw [e8, g_i (by omega), e2, g_c (by decide)], by rw [e8, g_c (by decide), e2, g_i (by omega)]⟩) _ ?_)
      rcases ws with z | z
      · obtain ⟨u, w, _, _, _, e⟩ := h6 z
        rw [e]
        refine ⟨?_, ?_⟩
        · rw [e8, g_c (by decide), e2, g_same, z]; exact nr0
        · rw [e8, g_same]
      · rw [w1 z]
        show gi M8 24 r.length = 1
        rw [e8, g_c (by decide), e2, g_same, z]; exact nr1
    rcases ws with z | z
    · obtain ⟨u, w, eu, ew, hz, e⟩ := w0 z
      subst eu; subst ew
      have hu : gi M2 23 r.length = u := by rw [e2, g_c (by decide)]; exact hx.2
      have hw : gi M2 23 (r.length + 1) = w := by rw [e2, g_c (by decide)]; exact hy.2
      rw [hu, hw]
      exact worked_n hc3 hz M2 _ (rest _ (fun _ => ⟨u, w, rfl, rfl, rfl, e⟩))
    · exact worked_any _ _ _ M2 _ (fun r6 => rest r6 (fun y => by rw [z] at y; exact absurd y n10))
  refine ⟨va, ?_⟩
  rw [nI_clamp (by omega)]
  unfold wX12_does_115 wX12_does_119
  by_cases z : gi M 24 r.length = 0
  rotate_left
  · rw [if_neg z]
    refine fin 1 (fun _ => ?_) (fun y => absurd y n10) (Or.inr rfl)
    match x, eo, a0 with
    | some u, _, a0 => exact absurd (a0.mpr ⟨u, rfl⟩) z
    | none, eo, _ => rw [eo]; rfl
  obtain ⟨u, eu⟩ := a0.mp z
  rw [if_pos z]
  refine ⟨vb, ?_⟩
  rw [nI_clamp (by omega)]
  by_cases z2 : gi M 24 (r.length + 1) = 0
  rotate_left
  · rw [if_neg z2]
    refine fin 1 (fun _ => ?_) (fun y => absurd y n10) (Or.inr rfl)
    match y, eo, b0 with
    | some w, _, b0 => exact absurd (b0.mpr ⟨w, rfl⟩) z2
    | none, eo, _ => rw [eo, eu]; rfl
  obtain ⟨w, ew⟩ := b0.mp z2
  rw [if_pos z2]
  have hw : gi M 23 (r.length + 1) = w := by subst ew; exact hy.2
  have sd : (six c = 3 ∨ six c = 4) ↔ (c = 47 ∨ c = 37) := by
    have key : ∀ c < 256, (six c = 3 ∨ six c = 4) ↔ (c = 47 ∨ c = 37) := by decide +kernel
    exact key c hc256
  have g119 : ¬ ((c = 47 ∨ c = 37) ∧ w = 0) → wX12_does_120 post (nI c) (nI r.length) (nI (r.length + 1)) 0 (nI r.length) M := by
    intro hz
    refine fin 0 (fun y => absurd y (by decide)) (fun _ => ⟨u, w, eu, ew, hz, ?_⟩) (Or.inl rfl)
    rw [eo, eu, ew]
    show arI (six c) u w = _
    unfold arI
    rw [if_neg (fun q => hz ⟨sd.mp q.1, q.2⟩)]
  have g106 : (c = 47 ∨ c = 37) → wX12_does_106 post (nI c) (nI r.length) (nI (r.length + 1)) (nI r.length) M := by
    intro hd
    unfold wX12_does_106 wX12_does_115 wX12_does_119
    refine ⟨vb, ?_⟩
    rw [nI_clamp (by omega), hw]
    by_cases q : w = 0
    · rw [if_pos q]
      refine fin 1 (fun _ => ?_) (fun y => absurd y n10) (Or.inr rfl)
      rw [eo, eu, ew]
      show arI (six c) u w = none
      unfold arI
      rw [if_pos ⟨sd.mpr hd, q⟩]
    · rw [if_neg q]; exact g119 (fun y => q y.2)
  by_cases c47 : c = 47
  · rw [if_pos (show nI c = 47 by rw [c47]; rfl)]; exact g106 (Or.inl c47)
  rw [if_neg (show ¬ nI c = 47 from ne 47 (by decide) c47)]
  by_cases c37 : c = 37
  · rw [if_pos (show nI c = 37 by rw [c37]; rfl)]; exact g106 (Or.inr c37)
  rw [if_neg (show ¬ nI c = 37 from ne 37 (by decide) c37)]
  exact g119 (fun y => by rcases y.1 with q | q <;> contradiction)
theorem okCd_lt {x : Nat × Nat} (h : okCd x) : x.1 < 256 := by
  rcases h with q | q | q | (q | q | q) | (q | q) | (q | q | q) | q | q <;> omega
/-- a row of codes -/
theorem wkM {M0 : xMem} {rr : Nat} (hr : rr < 2) {K : List (Nat × Nat)} (hK : K.length ≤ 240) {vals : Nat → Nat} (h13 : ∀ j, j < K.length → gi M0 13 (240 * rr + j) = nI (K.getD j (0, 0)).1 ∧ gi M0 14 (240 * rr + j) = nI (K.getD j (0, 0)).2) (hv : ∀ i, i < 11 → gi M0 0 (38 + i) = nI (vals i)) (hv11 : gi M0 0 65 = nI (vals 11)) (post : xMem → Prop) : ∀ (k : List (Nat × Nat)) (i : Nat) (τ τ' : List (Option Int32)), hasK K i k → i + k.length ≤ K.length → (∀ x, x ∈ k → okCd x) → τ.length + k.length ≤ 240 → evL vals k τ = some τ' → (∀ M', STm M0 τ' M' → post M') → ∀ M, STm M0 τ M → wX12_works_5 post (k.length + 1) (nI (240 * rr + i + k.length)) (nI τ.length) (nI (240 * rr + i)) M := by
  intro k
  induction k with
  | nil =>
    intro i τ τ' _ _ _ _ he hp M hM
    show wX12_works_5 post 1 (nI (240 * rr + i + 0)) (nI τ.length) (nI (240 * rr + i)) M
    rw [wX12_works_5]; dsimp only
    rw [if_pos (nI_le (by omega) (by omega))]
    cases he
    exact hp M hM
  | cons c k ih =>
    intro i τ τ' hh hl ho ht he hp M hM
    have hl' : i + (k.length + 1) ≤ K.length := hl
    have ht' : τ.length + (k.length + 1) ≤ 240 := ht
    have hc := ho c List.mem_cons_self
    have hc256 := okCd_lt hc
    have e0 : K.getD i (0, 0) = c := hh 0 (by show 0 < k.length + 1; omega)
    obtain ⟨q1, q2⟩ := h13 i (by omega)
    rw [e0] at q1 q2
    have hk : hasK K (i + 1) k := fun j hj => by
      have := hh (j + 1) (by show j + 1 < k.length + 1; omega)
      rw [show i + (j + 1) = i + 1 + j by omega] at this
      exact this
    have v480 := vl (n := 240 * rr + i) (N := 480) (by omega) (by decide)
    have he' : (evc vals c τ).bind (evL vals k) = some τ' := he
    have nx : ∀ τ1, evc vals c τ = some τ1 → τ1.length + k.length ≤ 240 → ∀ M1, STm M0 τ1 M1 → wX12_works_121 (wX12_works_5 post (k.length + 1)) post (nI (240 * rr + i + (k.length + 1))) (nI τ1.length) (nI (240 * rr + i)) M1 := by
      intro τ1 e1 hl1 M1 hM1
      rw [e1] at he'
      unfold wX12_works_121
      intro v1 ev
      rw [nI_1] at ev
      subst ev
      have := ih (i + 1) τ1 τ' hk (by omega) (fun x hx => ho x (List.mem_cons_of_mem _ hx)) hl1 he' hp M1 hM1
      rw [show 240 * rr + (i + 1) + k.length = 240 * rr + i + (k.length + 1) by omega, show 240 * rr + (i + 1) = 240 * rr + i + 1 by omega] at this
      exact this
    show wX12_works_5 post (k.length + 1 + 1) (nI (240 * rr + i + (k.length + 1))) (nI τ.length) (nI (240 * rr + i)) M
    rw [wX12_works_5]; dsimp only
    rw [if_neg (nI_ge (by omega) (by omega))]
    refine ⟨v480, ?_⟩
    rw [nI_clamp (by omega), hM.1 13 _ (by decide) (by decide), q1]
    by_cases c2 : c.1 ≤ 2
    · rw [if_pos (show nI c.1 ≤ 2 from nI_le (b := 2) c2 (by decide))]
      refine ⟨v480, ?_⟩
      by_cases ce : c.1 = 2
      · rw [if_pos (show nI c.1 = 2 by rw [ce]; rfl)]
        match τ, ht', hM, nx, he' with
        | [], _, _, _, he' =>
          unfold evc at he'
          rw [if_neg (by omega), if_neg (by omega), if_pos ce] at he'
          cases he'
        | x :: r, ht', hM, nx, _ =>
          have hrl : r.length + 1 + (k.length + 1) ≤ 240 := ht'
          have em : nI (x :: r).length - 1 = nI r.length := z_sub (b := 1) (Nat.le_add_left 1 _)
          have vr := vl (n := r.length) (N := 240) (by omega) (by decide)
          rw [em]
          refine ⟨vr, vr, ?_⟩
          intro M16 e16
          rw [nI_clamp (by omega)] at e16
          refine nx (x.bind (fun u => some (1 - u)) :: r) (by unfold evc; rw [if_neg (by omega), if_neg (by omega), if_pos ce]) (by show r.length + 1 + k.length ≤ 240; omega) M16 ⟨fun c i y1 y2 => by rw [e16, g_c y1]; exact hM.1 c i y1 y2, ?_, stR_fr r (fun i hi => ⟨by rw [e16, g_i (by omega)], by rw [e16, g_c (by decide)]⟩) hM.2.2⟩
          have hx := hM.2.1
          match x, hx with
          | some u, hx =>
            refine ⟨?_, ?_⟩
            · rw [e16, g_c (by decide)]; exact hx.1
            · rw [e16, g_same, hx.2]
          | none, hx =>
            show gi M16 24 r.length = 1
            rw [e16, g_c (by decide)]; exact hx
      rw [if_neg (show ¬ nI c.1 = 2 from fun y => ce ((nI_eq (b := 2) (by omega) (by decide)).mp y))]
      have vt := vl (n := τ.length) (N := 240) (by omega) (by decide)
      refine ⟨vt, ?_⟩
      intro M7 e7
      rw [nI_clamp (by omega)] at e7
      have f7 : ∀ c i, c ≠ 23 → c ≠ 24 → gi M7 c i = gi M0 c i := fun c i y1 y2 => by rw [e7, g_c y2]; exact hM.1 c i y1 y2
      have push : ∀ x : Int32, evc vals c τ = some (some x :: τ) → wX12_works_117 (wX12_works_5 post (k.length + 1)) post (nI (240 * rr + i + (k.length + 1))) (nI τ.length) (nI (240 * rr + i)) x (nI τ.length) M7 := by
        intro x ex
        unfold wX12_works_117
        refine ⟨vt, ?_⟩
        intro M2 e2 v3 e3
        rw [nI_clamp (by omega)] at e2
        rw [nI_1] at e3
        subst e3
        refine nx (some x :: τ) ex (by show τ.length + 1 + k.length ≤ 240; omega) M2 ⟨fun c i y1 y2 => by rw [e2, g_c y1]; exact f7 c i y1 y2, ⟨?_, ?_⟩, stR_fr τ (fun i hi => ⟨by rw [e2, g_i (by omega), e7, g_c (by decide)], by rw [e2, g_c (by decide), e7, g_i (by omega)]⟩) hM.2⟩
        · rw [e2, g_c (by decide), e7, g_same]; exact nr0
        · rw [e2, g_same]
      refine ⟨v480, ?_⟩
      rw [f7 13 _ (by decide) (by decide), q1]
      by_cases c00 : c.1 = 0
      · rw [if_pos (show nI c.1 = 0 by rw [c00]; rfl)]
        refine ⟨v480, ?_⟩
        rw [f7 14 _ (by decide) (by decide), q2]
        exact push _ (by unfold evc; rw [if_pos c00])
      · have c11 : c.1 = 1 := by omega
        rw [if_neg (show ¬ nI c.1 = 0 from fun y => c00 ((nI_eq (b := 0) (by omega) (by decide)).mp y))]
        refine ⟨v480, ?_⟩
        rw [f7 14 _ (by decide) (by decide), q2]
        have hlx : lix c.2 < 12 ∧ c.2 < 256 := by
          rcases hc with q | q | q | (q | q | q) | (q | q) | (q | q | q) | q | q
          · omega
          · exact q.2
          all_goals omega
        refine valueOf_n hlx.2 hlx.1 M7 _ ?_
        have ev : gi M7 0 (vcI c.2) = nI (vals (lix c.2)) := by
          rw [f7 _ _ (by decide) (by decide)]
          have key : ∀ a < 256, lix a < 12 → (a = 118 ∧ lix a = 11) ∨ (a ≠ 118 ∧ lix a < 11) := by decide +kernel
          unfold vcI
          rcases key _ hlx.2 hlx.1 with ⟨y1, y2⟩ | ⟨y1, y2⟩
          · rw [if_pos y1, y2]; exact hv11
          · rw [if_neg y1]; exact hv _ y2
        rw [ev]
        exact push _ (by unfold evc; rw [if_neg c00, if_pos c11])
    · rw [if_neg (show ¬ nI c.1 ≤ 2 from nI_ge (a := 2) (by omega) (by omega))]
      intro v17 e17
      refine ⟨v480, ?_⟩
      have hop : isT c.1 ∨ isPl c.1 ∨ isCm c.1 ∨ c.1 = 38 ∨ c.1 = 124 := by
        rcases hc with q | q | q | q | q | q | q | q
        · omega
        · omega
        · omega
        · exact Or.inl q
        · exact Or.inr (Or.inl q)
        · exact Or.inr (Or.inr (Or.inl q))
        · exact Or.inr (Or.inr (Or.inr (Or.inl q)))
        · exact Or.inr (Or.inr (Or.inr (Or.inr q)))
      subst e17
      rcases τ with _ | ⟨y, _ | ⟨x, r⟩⟩
      · unfold evc at he'
        rw [if_neg (by omega), if_neg (by omega), if_neg (by omega)] at he'
        cases he'
      · unfold evc at he'
        rw [if_neg (by omega), if_neg (by omega), if_neg (by omega)] at he'
        cases he'
      · have hrl : r.length + 1 + 1 + (k.length + 1) ≤ 240 := ht'
        rw [show nI (y :: x :: r).length + (-1) = nI (r.length + 1) by rw [← Int32.sub_eq_add_neg]; exact z_sub (b := 1) (Nat.le_add_left 1 _), show nI (r.length + 1) - 1 = nI r.length from z_sub (b := 1) (Nat.le_add_left 1 _)]
        exact doesM hop (by omega) hM _ (fun M' hM' => nx (opR c.1 x y :: r) (by unfold evc; rw [if_neg (by omega), if_neg (by omega), if_neg (by omega)]) (by show r.length + 1 + k.length ≤ 240; omega) M' hM')
