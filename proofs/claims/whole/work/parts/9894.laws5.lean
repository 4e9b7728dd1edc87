/-! a law asked, the class -/
def stkI (c : Nat) : List Int32 → xMem → Prop
  | [], _ => True
  | x :: r, C => gi C c r.length = x ∧ stkI c r C
theorem stkI_fr {c : Nat} {C C' : xMem} : ∀ τ : List Int32, (∀ i, i < τ.length → gi C' c i = gi C c i) → stkI c τ C → stkI c τ C' := by
  intro τ
  induction τ with
  | nil => intro _ _; trivial
  | cons x τ ih =>
    intro h hs
    exact ⟨by rw [h τ.length (by show τ.length < τ.length + 1; omega)]; exact hs.1, ih (fun i hi => h i (by show i < τ.length + 1; omega)) hs.2⟩
def STc (C0 : xMem) (o : Nat) (τ : List Int32) (C : xMem) : Prop := (∀ c i, ¬ (c = o ∧ i = 8) → c ≠ o + 6 → gi C c i = gi C0 c i) ∧ gi C o 8 = 0 ∧ stkI (o + 6) τ C
theorem ST_push {C0 : xMem} {o : Nat} {τ : List Int32} {C : xMem} (h : STc C0 o τ C) (x : Int32) : STc C0 o (x :: τ) (si C (o + 6) τ.length x) := by
  obtain ⟨a, b, c⟩ := h
  exact ⟨fun c' i h1 h2 => by rw [g_c h2]; exact a c' i h1 h2, by rw [g_c (by omega)]; exact b, g_same _ _ _ _, stkI_fr τ (fun i hi => g_i (by omega)) c⟩
theorem ST_top {C0 : xMem} {o : Nat} {x : Int32} {τ : List Int32} {C : xMem} (h : STc C0 o (x :: τ) C) (y : Int32) : STc C0 o (y :: τ) (si C (o + 6) τ.length y) := by
  obtain ⟨a, b, c⟩ := h
  exact ⟨fun c' i h1 h2 => by rw [g_c h2]; exact a c' i h1 h2, by rw [g_c (by omega)]; exact b, g_same _ _ _ _, stkI_fr τ (fun i hi => g_i (by omega)) c.2⟩
theorem ST_pop {C0 : xMem} {o : Nat} {x : Int32} {τ : List Int32} {C : xMem} (h : STc C0 o (x :: τ) C) : STc C0 o τ C := ⟨h.1, h.2.1, h.2.2.2⟩
theorem w15 {w : Nat} (h : w < 2 ^ 31) : nI w &&& 15 = nI (w % 16) := pk_andN (by omega) 4 (by decide)
theorem w4 {w : Nat} (h : w < 2 ^ 31) : nI w >>> ((4 : Int32) &&& 31) = nI (w / 16) := by
  rw [show ((4 : Int32) &&& 31) = nI 4 by decide]
  exact pk_shrN h (nI 4) 4 (by decide)
theorem jn28 {o s : Nat} (hs : s < 11) {a b : Int32} {C : xMem} (post : Int32 → xMem → Prop) (hb : ¬ ((s = 3 ∨ s = 4) ∧ b = 0)) (h : post (wkI s a b) C) : wX5_joined_28 o post a b (nI s) C := by
  have ne : ∀ k : Nat, k < 11 → s ≠ k → ¬ nI s = nI k := fun k hk h y => h ((nI_eq (by omega) (by omega)).mp y)
  unfold wX5_joined_28
  unfold wkI at h
  by_cases c0 : s = 0
  · rw [if_pos c0] at h; rw [if_pos (show nI s = 0 by rw [c0]; rfl)]; exact h
  rw [if_neg c0] at h; rw [if_neg (show ¬ nI s = 0 from ne 0 (by decide) c0)]
  by_cases c1 : s = 1
  · rw [if_pos c1] at h; rw [if_pos (show nI s = 1 by rw [c1]; rfl)]; exact h
  rw [if_neg c1] at h; rw [if_neg (show ¬ nI s = 1 from ne 1 (by decide) c1)]
  by_cases c2 : s = 2
  · rw [if_pos c2] at h; rw [if_pos (show nI s = 2 by rw [c2]; rfl)]; exact h
  rw [if_neg c2] at h; rw [if_neg (show ¬ nI s = 2 from ne 2 (by decide) c2)]
  by_cases c3 : s = 3
  · have hb' : ¬ b = 0 := fun y => hb ⟨Or.inl c3, y⟩
    rw [if_pos c3] at h; rw [if_pos (show nI s = 3 by rw [c3]; rfl), if_neg hb']; exact ⟨hb', h⟩
  rw [if_neg c3] at h; rw [if_neg (show ¬ nI s = 3 from ne 3 (by decide) c3)]
  by_cases c4 : s = 4
  · have hb' : ¬ b = 0 := fun y => hb ⟨Or.inr c4, y⟩
    rw [if_pos c4] at h; rw [if_pos (show nI s = 4 by rw [c4]; rfl), if_neg hb']; exact ⟨hb', h⟩
  rw [if_neg c4] at h; rw [if_neg (show ¬ nI s = 4 from ne 4 (by decide) c4)]
  by_cases c5 : s = 5
  · rw [if_pos c5] at h; rw [if_pos (show nI s = 5 by rw [c5]; rfl)]
    by_cases y : b ≤ a
    · rw [if_pos y] at h ⊢; exact h
    · rw [if_neg y] at h ⊢; exact h
  rw [if_neg c5] at h; rw [if_neg (show ¬ nI s = 5 from ne 5 (by decide) c5)]
  by_cases c6 : s = 6
  · rw [if_pos c6] at h; rw [if_pos (show nI s = 6 by rw [c6]; rfl)]
    by_cases y : a ≤ b
    · rw [if_pos y] at h ⊢; exact h
    · rw [if_neg y] at h ⊢; exact h
  rw [if_neg c6] at h; rw [if_neg (show ¬ nI s = 6 from ne 6 (by decide) c6)]
  by_cases y : a = b
  · rw [if_pos y] at h ⊢; exact h
  · rw [if_neg y] at h ⊢; exact h
theorem jnC {o s : Nat} (hs : s < 11) {a b : Int32} {C : xMem} (post : Int32 → xMem → Prop) (h1 : ∀ v, arI s a b = some v → post v C) (h2 : arI s a b = none → post 0 (si C o 8 1)) : wX5_joined o (nI (5 + s)) a b C post := by
  have ne : ∀ k : Nat, k < 11 → s ≠ k → ¬ nI s = nI k := fun k hk h y => h ((nI_eq (by omega) (by omega)).mp y)
  unfold wX5_joined
  intro v1 e1
  rw [show nI (5 + s) - 5 = nI s by rw [show (5 : Int32) = nI 5 from rfl, z_sub (by omega), show 5 + s - 5 = s by omega]] at e1
  subst e1
  unfold arI at h1 h2
  unfold wX5_joined_17
  by_cases c : (s = 3 ∨ s = 4) ∧ b = 0
  · rw [if_pos c] at h2
    have h2' : ∀ M2 : xMem, M2 = si C o 8 1 → post 0 M2 := fun M2 e => by rw [e]; exact h2 rfl
    rcases c.1 with q | q
    · rw [if_pos (show nI s = 3 by rw [q]; rfl), if_pos c.2]; exact h2'
    · rw [if_neg (show ¬ nI s = 3 by rw [q]; decide), if_pos (show nI s = 4 by rw [q]; rfl), if_pos c.2]; exact h2'
  · rw [if_neg c] at h1
    have h28 := jn28 (o := o) hs post c (h1 _ rfl)
    by_cases q : s = 3
    · rw [if_pos (show nI s = 3 by rw [q]; rfl), if_neg (fun y => c ⟨Or.inl q, y⟩)]; exact h28
    · rw [if_neg (show ¬ nI s = 3 from ne 3 (by decide) q)]
      by_cases q4 : s = 4
      · rw [if_pos (show nI s = 4 by rw [q4]; rfl), if_neg (fun y => c ⟨Or.inr q4, y⟩)]; exact h28
      · rw [if_neg (show ¬ nI s = 4 from ne 4 (by decide) q4)]; exact h28
theorem wlt {S : List Nat} (hb : ∀ w, w ∈ S → w < 2 ^ 27) (i : Nat) : S.getD i 0 < 2 ^ 27 := by
  rw [List.getD_eq_getElem?_getD]
  rcases Nat.lt_or_ge i S.length with q | q
  · rw [List.getElem?_eq_getElem q]; exact hb _ (List.getElem_mem q)
  · rw [List.getElem?_eq_none q]; decide
/-- refused: it ends at once -/
theorem rkF {o : Nat} {post : Int32 → xMem → Prop} {C : xMem} (h8 : gi C o 8 = 1) (h : post 0 C) (n : Nat) (x2 x4 x5 : Int32) : wX5_reckon_15 o post (n + 1) x2 x4 x5 C := by
  have e277 : wX5_reckon_277 o post x4 C := by
    unfold wX5_reckon_277
    rw [h8, if_neg n10]; exact h
  rw [wX5_reckon_15]; dsimp only
  split
  · exact e277
  · split
    · exact e277
    · rw [h8, if_neg n10]; exact e277
/-- one step of it -/
theorem rk1 {o to : Nat} {S : List Nat} {vals : Nat → Nat} {C0 : xMem} (hS : to ≤ S.length) (hS2 : S.length ≤ 240) (hb : ∀ w, w ∈ S → w < 2 ^ 27) (ho : o = 18 ∨ o = 25) (h1 : ∀ i, i < S.length → gi C0 (o + 5) i = nI (S.getD i 0)) (h2 : ∀ i, i < 12 → gi C0 77 i = nI (vals i)) (post : Int32 → xMem → Prop) {a : Nat} {τ : List Int32} (ha : a < to) (ht : τ.length ≤ 64) (n : Nat) {C : xMem} (hC : STc C0 o τ C) (g1 : ∀ q, stL S vals a τ = some q → ∀ C', STc C0 o q.2 C' → wX5_reckon_15 o post n (nI to) (nI q.2.length) (nI q.1) C') (g2 : stL S vals a τ = none → ∀ C' x4 x5, (∀ c i, ¬ (c = o ∧ i = 8) → c ≠ o + 6 → gi C' c i = gi C0 c i) → gi C' o 8 = 1 → wX5_reckon_15 o post n (nI to) x4 x5 C') : wX5_reckon_15 o post (n + 1) (nI to) (nI τ.length) (nI a) C := by
  obtain ⟨fr, f8, fs⟩ := id hC
  have hw := wlt hb a
  have hd : S.getD a 0 / 16 < 2 ^ 27 := Nat.lt_of_le_of_lt (Nat.div_le_self _ _) hw
  have hm : S.getD a 0 % 16 < 16 := Nat.mod_lt _ (by decide)
  have fsi : ∀ (C1 : xMem) j v, (∀ c i, ¬ (c = o ∧ i = 8) → c ≠ o + 6 → gi C1 c i = gi C0 c i) → (∀ c i, ¬ (c = o ∧ i = 8) → c ≠ o + 6 → gi (si C1 (o + 6) j v) c i = gi C0 c i) := fun C1 j v h c i y1 y2 => by rw [g_c y2]; exact h c i y1 y2
  have fs8 : ∀ (C1 : xMem) v, (∀ c i, ¬ (c = o ∧ i = 8) → c ≠ o + 6 → gi C1 c i = gi C0 c i) → (∀ c i, ¬ (c = o ∧ i = 8) → c ≠ o + 6 → gi (si C1 o 8 v) c i = gi C0 c i) := fun C1 v h c i y1 y2 => by rw [gi_si, if_neg y1]; exact h c i y1 y2
  have va := vl (n := a) (N := 240) (by omega) (by decide)
  have r151 : stL S vals a τ = none → ∀ x4' x5', wX5_reckon_151 o (wX5_reckon_15 o post n) post (nI to) x4' x5' C := by
    intro e x4' x5'
    unfold wX5_reckon_151 wX5_reckon_271
    intro M1 e1 v1 e2
    refine g2 e M1 _ _ (by rw [e1]; exact fs8 C 1 fr) (by rw [e1, g_same])
  rw [wX5_reckon_15]; dsimp only
  rw [if_neg (nI_ge ha (by omega)), if_neg (show ¬ (240 : Int32) ≤ nI a from nI_ge (b := 240) (by omega) (by decide)), if_pos f8]
  refine ⟨va, ?_⟩
  intro v5 e5
  refine ⟨va, ?_⟩
  intro v7 e7
  rw [nI_clamp (by omega), fr _ _ (by omega) (by omega), h1 _ (by omega), w15 (by omega)] at e5
  rw [nI_clamp (by omega), fr _ _ (by omega) (by omega), h1 _ (by omega), w4 (by omega)] at e7
  subst e5; subst e7
  unfold stL at g1 g2 r151
  have ne : ∀ k : Nat, k < 16 → S.getD a 0 % 16 ≠ k → ¬ nI (S.getD a 0 % 16) = nI k := fun k hk h y => h ((nI_eq (by omega) (by omega)).mp y)
  -- what is put on the stack
  have push : ∀ (C1 : xMem) x, STc C0 o τ C1 → τ.length < 64 → (∀ C', STc C0 o (x :: τ) C' → wX5_reckon_15 o post n (nI to) (nI (x :: τ).length) (nI (a + 1)) C') → wX5_reckon_126 o (wX5_reckon_15 o post n) post (nI to) (nI τ.length) (nI a) x (nI τ.length) C1 := by
    intro C1 x h1' hl hk
    unfold wX5_reckon_126 wX5_reckon_271
    refine ⟨vl hl (by decide), ?_⟩
    intro M2 e2 v3 e3 v1 e1
    rw [nI_clamp (by omega)] at e2
    subst e2; subst e3; subst e1
    rw [nI_1, nI_1]
    exact hk _ (ST_push h1' x)
  have M8 : STc C0 o τ (si C o 8 0) := ⟨fs8 C 0 fr, g_same _ _ _ _, stkI_fr τ (fun i _ => g_c (by omega)) fs⟩
  by_cases c0 : S.getD a 0 % 16 = 0
  · rw [if_pos (show nI (S.getD a 0 % 16) = 0 by rw [c0]; rfl)]
    rw [if_pos c0] at g1 g2
    unfold wX5_reckon_70
    by_cases cl : τ.length < 64
    · rw [if_pos cl] at g1
      rw [if_neg (show ¬ (64 : Int32) ≤ nI τ.length from nI_ge (b := 64) cl (by decide)), if_neg (show ¬ nI (S.getD a 0 % 16) = 1 by rw [c0]; decide)]
      unfold wX5_reckon_95 wX5_reckon_96
      refine ⟨bz_0, ?_⟩
      intro M1 e1
      subst e1
      rw [g_same, if_pos rfl, if_pos (show nI (S.getD a 0 % 16) = 0 by rw [c0]; rfl)]
      exact push _ _ M8 cl (fun C' hC' => g1 _ rfl C' hC')
    · rw [if_neg cl] at g2
      rw [if_pos (show (64 : Int32) ≤ nI τ.length from nI_le (a := 64) (by omega) (by omega))]
      unfold wX5_reckon_91 wX5_reckon_96 wX5_reckon_271
      refine ⟨bz_1, ?_⟩
      intro M1 e1
      subst e1
      rw [g_same, if_neg n10]
      intro v1 e1
      exact g2 rfl _ _ _ (fs8 C 1 fr) (g_same _ _ _ _)
  rw [if_neg (show ¬ nI (S.getD a 0 % 16) = 0 from ne 0 (by decide) c0)]
  rw [if_neg c0] at g1 g2
  by_cases c1 : S.getD a 0 % 16 = 1
  · rw [if_pos (show nI (S.getD a 0 % 16) = 1 by rw [c1]; rfl)]
    rw [if_pos c1] at g1 g2
    unfold wX5_reckon_70
    have bad : (if τ.length < 64 ∧ S.getD a 0 / 16 < 12 then some (a + 1, nI (vals (S.getD a 0 / 16)) :: τ) else none) = none → wX5_reckon_91 o (wX5_reckon_15 o post n) post (nI to) (nI τ.length) (nI a) (nI (S.getD a 0 % 16)) (nI (S.getD a 0 / 16)) C := by
      intro e
      unfold wX5_reckon_91 wX5_reckon_96 wX5_reckon_271
      refine ⟨bz_1, ?_⟩
      intro M1 e1
      subst e1
      rw [g_same, if_neg n10]
      intro v1 e1
      exact g2 e _ _ _ (fs8 C 1 fr) (g_same _ _ _ _)
    by_cases cl : τ.length < 64
    rotate_left
    · rw [if_pos (show (64 : Int32) ≤ nI τ.length from nI_le (a := 64) (by omega) (by omega))]
      exact bad (if_neg (fun y => cl y.1))
    rw [if_neg (show ¬ (64 : Int32) ≤ nI τ.length from nI_ge (b := 64) cl (by decide)), if_pos (show nI (S.getD a 0 % 16) = 1 by rw [c1]; rfl)]
    by_cases c12 : S.getD a 0 / 16 < 12
    rotate_left
    · rw [if_neg (show ¬ nI (S.getD a 0 / 16) < 12 from nI_nlt (b := 12) (by omega) (by omega))]
      exact bad (if_neg (fun y => c12 y.2))
    rw [if_pos ⟨cl, c12⟩] at g1
    rw [if_pos (show nI (S.getD a 0 / 16) < 12 from nI_lt (b := 12) c12 (by decide))]
    unfold wX5_reckon_95 wX5_reckon_96
    refine ⟨bz_0, ?_⟩
    intro M1 e1
    subst e1
    rw [g_same, if_pos rfl, if_neg (show ¬ nI (S.getD a 0 % 16) = 0 from ne 0 (by decide) c0)]
    refine ⟨vl c12 (by decide), ?_⟩
    rw [nI_clamp (by omega), M8.1 _ _ (by omega) (by omega), h2 _ c12]
    exact push _ _ M8 cl (fun C' hC' => g1 _ rfl C' hC')
  rw [if_neg (show ¬ nI (S.getD a 0 % 16) = 1 from ne 1 (by decide) c1)]
  rw [if_neg c1] at g1 g2
  rw [if_neg c0, if_neg c1] at r151
  match τ, ht, hC, fs, g1, g2, r151 with
  | [], _, _, _, _, g2, r151 =>
    rw [if_pos (show nI ([] : List Int32).length < 1 by decide)]
    refine r151 ?_ _ _
    by_cases c2 : S.getD a 0 % 16 = 2
    · rw [if_pos c2]
    · rw [if_neg c2]
      by_cases c5 : S.getD a 0 % 16 < 5
      · rw [if_pos c5]
      · rw [if_neg c5]
  | x :: r, ht, hC, fs, g1, g2, r151 =>
    have ht' : r.length + 1 ≤ 64 := ht
    rw [if_neg (show ¬ nI (x :: r).length < 1 from nI_nlt (a := r.length + 1) (b := 1) (by omega) (by omega))]
    have em : nI (x :: r).length - 1 = nI r.length := z_sub (b := 1) (Nat.le_add_left 1 _)
    have vr := vl (n := r.length) (N := 64) (by omega) (by decide)
    by_cases c2 : S.getD a 0 % 16 = 2
    · rw [if_pos c2] at g1
      rw [if_pos (show nI (S.getD a 0 % 16) < 5 by rw [c2]; decide)]
      unfold wX5_reckon_159 wX5_reckon_271
      rw [if_pos (show nI (S.getD a 0 % 16) = 2 by rw [c2]; rfl), em]
      refine ⟨vr, vr, ?_⟩
      intro M14 e14 v1 e1
      rw [nI_clamp (by omega), fs.1] at e14
      subst e14; subst e1
      rw [nI_1]
      exact g1 _ rfl _ (ST_top hC _)
    rw [if_neg c2] at g1 g2 r151
    by_cases c5 : S.getD a 0 % 16 < 5
    · rw [if_pos c5] at g1
      rw [if_pos (show nI (S.getD a 0 % 16) < 5 from nI_lt (b := 5) c5 (by decide))]
      unfold wX5_reckon_159
      rw [if_neg (show ¬ nI (S.getD a 0 % 16) = 2 from ne 2 (by decide) c2), if_pos (show nI (S.getD a 0 % 16) < 5 from nI_lt (b := 5) c5 (by decide)), em, nI_clamp (by omega), fs.1]
      refine ⟨vr, ?_⟩
      have go : ∀ s0 : Int32, s0 = (if S.getD a 0 % 16 = 4 then 1 else 0) → wX5_reckon_251 o (wX5_reckon_15 o post n) post (nI to) (nI (x :: r).length) (nI a) (nI (S.getD a 0 / 16)) s0 x C := by
        intro s0 es
        unfold wX5_reckon_251 wX5_reckon_271
        dsimp only at g1
        by_cases cx : x = s0
        · rw [if_pos cx, max_eq]
          rw [if_pos (cx.trans es)] at g1
          intro v1 e1
          have emx : (if nI a < nI (S.getD a 0 / 16) - 1 then nI (S.getD a 0 / 16) - 1 else nI a) = nI (max a (S.getD a 0 / 16 - 1)) := by
            rcases Nat.eq_zero_or_pos (S.getD a 0 / 16) with z | z
            · rw [z, show nI 0 - 1 = -1 by decide, if_neg, show max a (0 - 1) = a by omega]
              intro y
              have := Int32.lt_iff_toInt_lt.mp y
              rw [nI_toInt (by omega), z_m1] at this
              omega
            · rw [show nI (S.getD a 0 / 16) - 1 = nI (S.getD a 0 / 16 - 1) from z_sub (b := 1) z]
              by_cases y : a < S.getD a 0 / 16 - 1
              · rw [if_pos (nI_lt y (by omega)), Nat.max_eq_right (by omega)]
              · rw [if_neg (nI_nlt (by omega) (by omega)), Nat.max_eq_left (by omega)]
          rw [emx] at e1
          subst e1
          rw [nI_1]
          exact g1 _ rfl C hC
        · rw [if_neg cx]
          rw [if_neg (fun y => cx (y.trans es.symm))] at g1
          intro v2 e2 v1 e1
          subst e1
          rw [show nI (x :: r).length + (-1) = nI r.length by rw [← Int32.sub_eq_add_neg]; exact em] at e2
          subst e2
          rw [nI_1]
          exact g1 _ rfl C (ST_pop hC)
      by_cases c4 : S.getD a 0 % 16 = 4
      · rw [if_pos (show nI (S.getD a 0 % 16) = 4 by rw [c4]; rfl)]; exact go 1 (by rw [if_pos c4])
      · rw [if_neg (show ¬ nI (S.getD a 0 % 16) = 4 from ne 4 (by decide) c4)]; exact go 0 (by rw [if_neg c4])
    rw [if_neg c5] at g1 g2 r151
    rw [if_neg (show ¬ nI (S.getD a 0 % 16) < 5 from nI_nlt (b := 5) (by omega) (by omega))]
    match r, ht', hC, fs, g1, g2, r151, em, vr with
    | [], _, _, _, _, _, r151, _, _ =>
      rw [if_neg (show ¬ (2 : Int32) ≤ nI [x].length from (by decide : ¬ (2 : Int32) ≤ nI 1))]
      exact r151 rfl _ _
    | y :: r, ht', hC, fs, g1, g2, r151, em, vr =>
      have ht2 : r.length + 1 + 1 ≤ 64 := ht'
      rw [if_pos (show (2 : Int32) ≤ nI (x :: y :: r).length from nI_le (a := 2) (b := r.length + 1 + 1) (by omega) (by omega))]
      unfold wX5_reckon_159 wX5_reckon_271
      rw [if_neg (show ¬ nI (S.getD a 0 % 16) = 2 from ne 2 (by decide) c2), if_neg (show ¬ nI (S.getD a 0 % 16) < 5 from nI_nlt (b := 5) (by omega) (by omega))]
      intro v5 e5
      rw [show nI (x :: y :: r).length + (-1) = nI (r.length + 1) by rw [← Int32.sub_eq_add_neg]; exact em] at e5
      subst e5
      have em2 : nI (r.length + 1) - 1 = nI r.length := z_sub (b := 1) (Nat.le_add_left 1 _)
      have vr2 := vl (n := r.length) (N := 64) (by omega) (by decide)
      rw [em2]
      refine ⟨vr2, vr, ?_⟩
      have ex : gi C (o + 6) (r.length + 1) = x := fs.1
      have ey : gi C (o + 6) r.length = y := fs.2.1
      rw [nI_clamp (by omega), nI_clamp (by omega), ex, ey, show S.getD a 0 % 16 = 5 + (S.getD a 0 % 16 - 5) by omega]
      dsimp only at g1 g2
      refine jnC (by omega) _ (fun v e => ?_) (fun e => ?_)
      · refine ⟨vr2, ?_⟩
        intro M11 e11 v1 e1
        subst e11; subst e1
        rw [nI_1]
        exact g1 (a + 1, v :: r) (by rw [e]; rfl) _ (ST_top (ST_pop hC) _)
      · refine ⟨vr2, ?_⟩
        intro M11 e11 v1 e1
        refine g2 (by rw [e]; rfl) M11 _ _ (by rw [e11]; exact fsi _ _ _ (fs8 C 1 fr)) (by rw [e11, g_c (by omega), g_same])
theorem stL_len {S : List Nat} {vals : Nat → Nat} {a : Nat} {τ : List Int32} {q : Nat × List Int32} (h : stL S vals a τ = some q) (ht : τ.length ≤ 64) : q.2.length ≤ 64 := by
  unfold stL at h
  by_cases c0 : S.getD a 0 % 16 = 0
  · rw [if_pos c0] at h
    by_cases cl : τ.length < 64
    · rw [if_pos cl] at h; cases h; exact cl
    · rw [if_neg cl] at h; cases h
  rw [if_neg c0] at h
  by_cases c1 : S.getD a 0 % 16 = 1
  · rw [if_pos c1] at h
    by_cases cl : τ.length < 64 ∧ S.getD a 0 / 16 < 12
    · rw [if_pos cl] at h; cases h; exact cl.1
    · rw [if_neg cl] at h; cases h
  rw [if_neg c1] at h
  by_cases c2 : S.getD a 0 % 16 = 2
  · rw [if_pos c2] at h
    match τ, h, ht with
    | [], h, _ => cases h
    | x :: r, h, ht => cases h; exact ht
  rw [if_neg c2] at h
  by_cases c5 : S.getD a 0 % 16 < 5
  · rw [if_pos c5] at h
    match τ, h, ht with
    | [], h, _ => cases h
    | x :: r, h, ht =>
      have ht' : r.length + 1 ≤ 64 := ht
      dsimp only at h
      by_cases cx : x = (if S.getD a 0 % 16 = 4 then 1 else 0)
      · rw [if_pos cx] at h; cases h; exact ht
      · rw [if_neg cx] at h; cases h; show r.length ≤ 64; omega
  rw [if_neg c5] at h
  match τ, h, ht with
  | [], h, _ => cases h
  | [x], h, _ => cases h
  | y :: x :: r, h, ht =>
    have ht' : r.length + 1 + 1 ≤ 64 := ht
    dsimp only at h
    match e : arI (S.getD a 0 % 16 - 5) x y with
    | none => rw [e] at h; cases h
    | some v => rw [e] at h; cases h; show r.length + 1 ≤ 64; omega
