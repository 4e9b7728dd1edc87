/-! law(), the reference's conditions -/
def PQ (M0 : xMem) (post : xMem → Prop) (p d : Nat) (σ : List Nat) (K : List (Nat × Nat)) : Prop := ∃ n' n, ∀ M, MSx M0 p d σ K M → wX12_pieceOfC_0 (fun M6 => wX12_condition_59 (wX12_condition_37 post n') post 1 M6) n M
def PG (M0 : xMem) (post : xMem → Prop) (p d : Nat) (σ : List Nat) (K : List (Nat × Nat)) : Prop := ∃ n', ∀ M, MSx M0 p d σ K M → ∀ x, wX12_condition_59 (wX12_condition_37 post n') post x M
def PE (M0 : xMem) (post : xMem → Prop) (p d : Nat) (σ : List Nat) (K : List (Nat × Nat)) : Prop := ∃ n', ∀ X : xMem → Prop, (∀ M18, gi M18 0 5 = 0 → gi M18 0 35 = 0 → (∀ x, wX12_condition_59 (wX12_condition_37 post n') post x M18) → X M18) → ∃ n, ∀ M, MSx M0 p d σ K M → wX12_ends_0 X n M
theorem x35 {M0 : xMem} (h35 : gi M0 0 35 = 0) {p d : Nat} {σ : List Nat} {K : List (Nat × Nat)} {M : xMem} {b : Int32} (h : MS (si M0 0 36 b) p d σ K M) : gi M 0 35 = 0 := by
  rw [h.1 0 35 (by decide) (by decide), g_i (by decide)]
  exact h35
theorem c37F {M0 : xMem} {f : Int32} {post : xMem → Prop} (hp : ∀ M', MFx M0 f M' → post M') {M : xMem} (h : MFx M0 f M) (n : Nat) (x : Int32) : wX12_condition_37 post (n + 1) x M := by
  obtain ⟨b, h1⟩ := id h
  rw [wX12_condition_37]; dsimp only
  rw [isGoodF h1, if_pos rfl]
  exact hp _ h
theorem c59F {M0 : xMem} {f : Int32} {post : xMem → Prop} (hp : ∀ M', MFx M0 f M' → post M') {M : xMem} (h : MFx M0 f M) (n : Nat) (x : Int32) : wX12_condition_59 (wX12_condition_37 post (n + 1)) post x M := by
  obtain ⟨b, h1⟩ := id h
  unfold wX12_condition_59
  rw [isGoodF h1, if_pos rfl]
  exact c37F hp h n x
theorem p43F {M0 : xMem} {f : Int32} {post : xMem → Prop} {M : xMem} (h : MFx M0 f M) (hp : post M) : wX12_pieceOfC_43 post M := by
  obtain ⟨b, h1⟩ := id h
  unfold wX12_pieceOfC_43
  rw [isGoodF h1, if_pos rfl]
  exact hp
theorem p32F {M0 : xMem} {f : Int32} {post : xMem → Prop} {M : xMem} (h : MFx M0 f M) (hp : post M) : wX12_pieceOfC_32 post M := by
  obtain ⟨b, h1⟩ := id h
  unfold wX12_pieceOfC_32
  rw [isGoodF h1, if_pos rfl]
  exact p43F h hp
theorem hd256 {σ : List Nat} (h : okZ σ) : σ.headD 0 < 256 := by
  match σ, h with
  | [], _ => decide
  | c :: r, h => exact h c List.mem_cons_self
theorem E_1 {M0 : xMem} (h35 : gi M0 0 35 = 0) {post : xMem → Prop} {p d : Nat} {σ : List Nat} {K : List (Nat × Nat)} (hs : σ.length ≤ 240) (h256 : okZ σ) (hc : σ.headD 0 ≠ 33) (h : PG M0 post p d σ K) : PE M0 post p d σ K := by
  obtain ⟨n', h⟩ := h
  refine ⟨n', fun X hX => ⟨1, fun M hM => ?_⟩⟩
  have h9 := h M hM
  have hh := hd256 h256
  obtain ⟨b, hM⟩ := hM
  rw [wX12_ends_0]; dsimp only
  rw [topM hs hM, if_neg (show ¬ nI (σ.headD 0) = 33 from fun y => hc ((nI_eq (b := 33) (by omega) (by decide)).mp y))]
  exact hX M hM.2.2.1 (x35 h35 hM) h9
theorem E_2 {M0 : xMem} {post : xMem → Prop} {p d : Nat} {σ : List Nat} {K : List (Nat × Nat)} (hs : σ.length + 1 ≤ 240) (hK : K.length < 240) (h : PE M0 post p d σ (K ++ [(2, 0)])) : PE M0 post p (d + 1) (33 :: σ) K := by
  obtain ⟨n', h⟩ := h
  refine ⟨n', fun X hX => ?_⟩
  obtain ⟨n, h⟩ := h X hX
  refine ⟨n + 1, fun M hM => ?_⟩
  obtain ⟨b, hM⟩ := hM
  rw [wX12_ends_0]; dsimp only
  rw [topM (σ := 33 :: σ) hs hM, if_pos (show nI ((33 :: σ).headD 0) = 33 from rfl)]
  refine emitM (c := 2) (v := 0) hK hM _ (fun M4 hM4 => ?_)
  intro M5 e5 M6 e6
  subst e5
  have h5 := MS_pop hM4
  have h6 := MS_d h5 (v := gi (si M4 0 9 (gi M4 0 9 - 1)) 0 8 - 1) (q := d) (by rw [h5.2.2.2.2.2.1]; exact z_sub (b := 1) (Nat.le_add_left 1 d))
  rw [← e6] at h6
  exact h M6 ⟨b, h6⟩
theorem C_open {B : Nat → Nat} {N : Nat} {M0 : xMem} (hT0 : LTM B N M0) {post : xMem → Prop} {p d : Nat} {σ : List Nat} {K : List (Nat × Nat)} (hs : K.length + σ.length ≤ p) (hc : hr B N p = 33 ∨ hr B N p = 40) (hd : d < 6) (h : PQ M0 post (p + 1) (d + 1) (hr B N p :: σ) K) : PQ M0 post p d σ K := by
  have hN := hT0.1
  have hpl : p < N := hr_pos (B := B) (by omega)
  obtain ⟨n', n, h⟩ := h
  refine ⟨n', n + 1, fun M hM => ?_⟩
  obtain ⟨b, hM⟩ := hM
  have hT := LTM_36 hT0 b
  have go : wX12_opens M (fun M1 => wX12_pieceOfC_0 (fun M6 => wX12_condition_59 (wX12_condition_37 post n') post 1 M6) n M1) := opensM hT hpl hd (by omega) hM _ (fun M' hM' => h M' ⟨b, hM'⟩)
  rw [wX12_pieceOfC_0]; dsimp only
  rw [isGoodM hM, if_neg n10, hreM hT (by omega) hM.1 hM.2.1]
  unfold wX12_pieceOfC_25
  rcases hc with q | q
  · rw [if_pos (show nI (hr B N p) = 33 by rw [q]; rfl)]; exact go
  · rw [if_neg (show ¬ nI (hr B N p) = 33 by rw [q]; decide), hreM hT (by omega) hM.1 hM.2.1, if_pos (show nI (hr B N p) = 40 by rw [q]; rfl)]; exact go
theorem C_openF {B : Nat → Nat} {N : Nat} {M0 : xMem} (hT0 : LTM B N M0) {post : xMem → Prop} {p d : Nat} {σ : List Nat} {K : List (Nat × Nat)} (hs : K.length + σ.length ≤ p) (hc : hr B N p = 33 ∨ hr B N p = 40) (hd : d = 6) (h : ∀ M', MFx M0 (fw 5 p) M' → post M') : PQ M0 post p d σ K := by
  have hN := hT0.1
  have hpl : p < N := hr_pos (B := B) (by omega)
  refine ⟨1, 2, fun M hM => ?_⟩
  obtain ⟨b, hM⟩ := hM
  have hT := LTM_36 hT0 b
  have go : wX12_opens M (fun M1 => wX12_pieceOfC_0 (fun M6 => wX12_condition_59 (wX12_condition_37 post 1) post 1 M6) 1 M1) := opensF hT hpl hd (by omega) hM _ (fun M' hM' => by
    rw [wX12_pieceOfC_0]; dsimp only
    rw [isGoodF hM', if_pos rfl]
    exact p32F ⟨b, hM'⟩ (c59F h ⟨b, hM'⟩ 0 1))
  rw [wX12_pieceOfC_0]; dsimp only
  rw [isGoodM hM, if_neg n10, hreM hT (by omega) hM.1 hM.2.1]
  unfold wX12_pieceOfC_25
  rcases hc with q | q
  · rw [if_pos (show nI (hr B N p) = 33 by rw [q]; rfl)]; exact go
  · rw [if_neg (show ¬ nI (hr B N p) = 33 by rw [q]; decide), hreM hT (by omega) hM.1 hM.2.1, if_pos (show nI (hr B N p) = 40 by rw [q]; rfl)]; exact go
theorem C_val {B : Nat → Nat} {N : Nat} {M0 : xMem} (hT0 : LTM B N M0) {post : xMem → Prop} {p d : Nat} (hp : p ≤ N) {σ : List Nat} {K : List (Nat × Nat)} (hc : hr B N p ≠ 33 ∧ hr B N p ≠ 40) (n' : Nat) (h : ∀ M, MSx M0 p d σ K M → wX12_value M (fun M4 => wX12_pieceOfC_43 (fun M6 => wX12_condition_59 (wX12_condition_37 post n') post 1 M6) M4)) : PQ M0 post p d σ K := by
  have hc256 := hr_256 hT0 p
  refine ⟨n', 1, fun M hM => ?_⟩
  have h9 := h M hM
  obtain ⟨b, hM⟩ := hM
  have hT := LTM_36 hT0 b
  rw [wX12_pieceOfC_0]; dsimp only
  rw [isGoodM hM, if_neg n10, hreM hT hp hM.1 hM.2.1, if_neg (show ¬ nI (hr B N p) = 33 from fun y => hc.1 ((nI_eq (b := 33) (by omega) (by decide)).mp y)), hreM hT hp hM.1 hM.2.1, if_neg (show ¬ nI (hr B N p) = 40 from fun y => hc.2 ((nI_eq (b := 40) (by omega) (by decide)).mp y))]
  unfold wX12_pieceOfC_32
  rw [isGoodM hM, if_neg n10]
  exact h9
theorem G_op {B : Nat → Nat} {N : Nat} {M0 : xMem} (hT0 : LTM B N M0) (h35 : gi M0 0 35 = 0) {post : xMem → Prop} {p d : Nat} {ω σ : List Nat} {K : List (Nat × Nat)} (hs : K.length + ω.length + σ.length ≤ p) (hc : hr B N p = 38 ∨ hr B N p = 124) (hω : ∀ c, c ∈ ω → c = 38 ∨ (hr B N p = 124 ∧ c = 124)) (hσ : σ.headD 0 ≠ 38 ∧ (hr B N p = 124 → σ.headD 0 ≠ 124)) (h256 : okZ σ) (h : PQ M0 post (p + 1) d (hr B N p :: σ) (K ++ mp ω)) : PG M0 post p d (ω ++ σ) K := by
  have hN := hT0.1
  have hpl : p < N := hr_pos (B := B) (by omega)
  obtain ⟨n', n, h⟩ := h
  refine ⟨n' + 1, fun M hM x => ?_⟩
  obtain ⟨b, hM⟩ := hM
  have hT := LTM_36 hT0 b
  unfold wX12_condition_59
  rw [isGoodM hM, if_neg n10]
  have go : ∀ s0 : Int32, (∀ c, c ∈ ω → c = 38 ∨ (¬ s0 = 0 ∧ c = 124)) → (¬ s0 = 0 → σ.headD 0 ≠ 124) → wX12_goesBehind_29 (fun r5 M4 => wX12_condition_37 post (n' + 1) r5 M4) (nI (hr B N p)) s0 M := by
    intro s0 w1 w2
    unfold wX12_goesBehind_29
    obtain ⟨n0, h0⟩ := joinsM (M0 := si M0 0 36 b) (p := p) (d := d) s0 (σ := σ) ⟨hσ.1, w2⟩ h256 (fun M1 => wX12_puts (nI (hr B N p)) M1 (fun M2 => wX12_condition_37 post (n' + 1) 1 M2)) ω K w1 (by omega) (by omega) (fun M3 hM3 => putsM (by omega) hM3 _ _ (fun M' hM' => by
      rw [wX12_condition_37]; dsimp only
      rw [isGoodM hM', if_neg n10, x35 h35 hM', if_pos rfl, if_neg n10]
      exact ⟨n, h M' ⟨b, hM'⟩⟩))
    exact ⟨n0, h0 M hM⟩
  unfold wX12_goesBehind
  rw [hreM hT (by omega) hM.1 hM.2.1]
  unfold wX12_goesBehind_17
  rcases hc with q | q
  · rw [if_pos (show nI (hr B N p) = 38 by rw [q]; rfl), if_neg (show ¬ nI (hr B N p) = 124 by rw [q]; decide)]
    exact go 0 (fun c hc => by
      rcases hω c hc with y | y
      · exact Or.inl y
      · omega) (fun y => absurd rfl y)
  · rw [if_neg (show ¬ nI (hr B N p) = 38 by rw [q]; decide), if_pos (show nI (hr B N p) = 124 by rw [q]; rfl), if_pos (show nI (hr B N p) = 124 by rw [q]; rfl)]
    exact go 1 (fun c hc => by
      rcases hω c hc with y | y
      · exact Or.inl y
      · exact Or.inr ⟨n10, y.2⟩) (fun _ => hσ.2 q)
theorem G_bad {B : Nat → Nat} {N : Nat} {M0 : xMem} (hT0 : LTM B N M0) {post : xMem → Prop} {p d : Nat} (hp : p ≤ N) {σ : List Nat} {K : List (Nat × Nat)} (hc : hr B N p ≠ 38 ∧ hr B N p ≠ 124 ∧ hr B N p ≠ 41) (h : ∀ M', MFx M0 (fw 1 p) M' → post M') : PG M0 post p d σ K := by
  have hN := hT0.1
  have hc256 := hr_256 hT0 p
  refine ⟨1, fun M hM x => ?_⟩
  obtain ⟨b, hM⟩ := hM
  have hT := LTM_36 hT0 b
  unfold wX12_condition_59
  rw [isGoodM hM, if_neg n10]
  unfold wX12_goesBehind
  rw [hreM hT hp hM.1 hM.2.1, if_neg (show ¬ nI (hr B N p) = 38 from fun y => hc.1 ((nI_eq (b := 38) (by omega) (by decide)).mp y)), if_neg (show ¬ nI (hr B N p) = 124 from fun y => hc.2.1 ((nI_eq (b := 124) (by omega) (by decide)).mp y)), if_neg (show ¬ nI (hr B N p) = 41 from fun y => hc.2.2 ((nI_eq (b := 41) (by omega) (by decide)).mp y)), hM.2.1]
  exact wrgM hM 1 (fwL _ (by omega)).1.1.1 _ (fun M' hM' => c37F h ⟨b, hM'⟩ 0 0)
theorem joins1 {M0 : xMem} {p d : Nat} {ω σ : List Nat} {K : List (Nat × Nat)} (hs : K.length + ω.length + (σ.length + 1) ≤ 240) (hω : ∀ c, c ∈ ω → c = 38 ∨ c = 124) (h256 : okZ σ) (post : xMem → Prop) (h : ∀ M', MS M0 p d (40 :: σ) (K ++ mp ω) M' → post M') : ∀ M, MS M0 p d (ω ++ 40 :: σ) K M → wX12_joins 1 M post := by
  intro M hM
  obtain ⟨n0, h0⟩ := joinsM (M0 := M0) (p := p) (d := d) 1 (σ := 40 :: σ) ⟨show (40 : Nat) ≠ 38 by decide, fun _ => show (40 : Nat) ≠ 124 by decide⟩ (okZ_c (by decide) h256) post ω K (fun c hc => by
    rcases hω c hc with y | y
    · exact Or.inl y
    · exact Or.inr ⟨n10, y⟩) (by omega) (by show ω.length + (σ.length + 1) ≤ 240; omega) h
  exact ⟨n0, h0 M hM⟩
theorem G_close {B : Nat → Nat} {N : Nat} {M0 : xMem} (hT0 : LTM B N M0) (h35 : gi M0 0 35 = 0) {post : xMem → Prop} {p d : Nat} {ω σ : List Nat} {K : List (Nat × Nat)} (hs : K.length + ω.length + (σ.length + 1) ≤ p) (hc : hr B N p = 41) (hω : ∀ c, c ∈ ω → c = 38 ∨ c = 124) (h256 : okZ σ) (hne : σ ≠ []) (h : PE M0 post (p + 1) d σ (K ++ mp ω)) : PG M0 post p (d + 1) (ω ++ 40 :: σ) K := by
  have hN := hT0.1
  have hpl : p < N := hr_pos (B := B) (by omega)
  obtain ⟨n', h⟩ := h
  obtain ⟨n, h⟩ := h (fun M4 => wX12_condition_37 post (n' + 1) 0 M4) (fun M18 a1 a2 a3 => by
    rw [wX12_condition_37]; dsimp only
    unfold wX12_isGood
    rw [if_pos a1]
    dsimp only
    rw [if_neg n10, if_pos a2, if_pos rfl]
    exact a3 0)
  refine ⟨n' + 1, fun M hM x => ?_⟩
  obtain ⟨b, hM⟩ := hM
  have hT := LTM_36 hT0 b
  unfold wX12_condition_59
  rw [isGoodM hM, if_neg n10]
  unfold wX12_goesBehind
  rw [hreM hT (by omega) hM.1 hM.2.1, hc, if_neg (show ¬ nI 41 = 38 by decide), if_neg (show ¬ nI 41 = 124 by decide), if_pos (show nI 41 = 41 from rfl)]
  refine joins1 (by omega) hω h256 _ (fun M6 hM6 => ?_) M hM
  intro M7 e7 M8 e8 M9 e9
  have h7 := MS_pop hM6
  rw [← e7] at h7
  have h8 := MS_d h7 (v := gi M7 0 8 - 1) (q := d) (by rw [h7.2.2.2.2.2.1]; exact z_sub (b := 1) (Nat.le_add_left 1 d))
  rw [← e8] at h8
  have h9 := MS_at h8 (v := gi M8 0 3 + 1) (q := p + 1) (by rw [h8.2.1, nI_1])
  rw [← e9] at h9
  have hσl : σ.length ≠ 0 := fun y => hne (List.length_eq_zero_iff.mp y)
  rw [h9.2.2.2.2.2.2.1, if_neg (show ¬ nI σ.length = 0 from fun y => hσl ((nI_eq (b := 0) (by omega) (by decide)).mp y))]
  unfold wX12_goesBehind_104
  refine ⟨bz_0, ?_⟩
  intro M1 e1
  have e1' : M1 = M9 ∨ True := Or.inr trivial
  have h10 : MS (si M0 0 36 b) (p + 1) d σ (K ++ mp ω) M1 := by
    obtain ⟨a1, a2, a3, a4, a5, a6, a7, a8⟩ := h9
    have g35 : gi M9 0 35 = 0 := x35 h35 ⟨a1, a2, a3, a4, a5, a6, a7, a8⟩
    refine ⟨fun c i y1 y2 => ?_, ?_, ?_, ?_, fun i hi => ?_, ?_, ?_, stk_fr σ (fun x _ => by rw [e1, g_c (by decide)]) a8⟩
    · rw [e1, gi_si]
      by_cases z : c = 0 ∧ i = 35
      · rw [if_pos z, z.1, z.2, g_i (by decide)]; exact h35.symm
      · rw [if_neg z]; exact a1 c i y1 y2
    · rw [e1, g_i (by decide)]; exact a2
    · rw [e1, g_i (by decide)]; exact a3
    · rw [e1, g_i (by decide)]; exact a4
    · rw [e1, g_c (by decide), g_c (by decide)]; exact a5 i hi
    · rw [e1, g_i (by decide)]; exact a6
    · rw [e1, g_i (by decide)]; exact a7
  rw [x35 h35 h10, if_pos rfl]
  exact ⟨n, h M1 ⟨b, h10⟩⟩
theorem G_last {B : Nat → Nat} {N : Nat} {M0 : xMem} (hT0 : LTM B N M0) {post : xMem → Prop} {p : Nat} {ω : List Nat} {K : List (Nat × Nat)} (hs : K.length + ω.length + 1 ≤ p) (hc : hr B N p = 41) (hω : ∀ c, c ∈ ω → c = 38 ∨ c = 124) (h : ∀ M', MSx (si M0 0 35 1) (p + 1) 0 [] (K ++ mp ω) M' → post M') : PG M0 post p 1 (ω ++ [40]) K := by
  have hN := hT0.1
  have hpl : p < N := hr_pos (B := B) (by omega)
  refine ⟨1, fun M hM x => ?_⟩
  obtain ⟨b, hM⟩ := hM
  have hT := LTM_36 hT0 b
  unfold wX12_condition_59
  rw [isGoodM hM, if_neg n10]
  unfold wX12_goesBehind
  rw [hreM hT (by omega) hM.1 hM.2.1, hc, if_neg (show ¬ nI 41 = 38 by decide), if_neg (show ¬ nI 41 = 124 by decide), if_pos (show nI 41 = 41 from rfl)]
  refine joins1 (σ := []) (by show _ + (0 + 1) ≤ 240; omega) hω (fun c hc => by cases hc) _ (fun M6 hM6 => ?_) M hM
  intro M7 e7 M8 e8 M9 e9
  have h7 := MS_pop hM6
  rw [← e7] at h7
  have h8 := MS_d h7 (v := gi M7 0 8 - 1) (q := 0) (by rw [h7.2.2.2.2.2.1]; rfl)
  rw [← e8] at h8
  have h9 := MS_at h8 (v := gi M8 0 3 + 1) (q := p + 1) (by rw [h8.2.1, nI_1])
  rw [← e9] at h9
  rw [h9.2.2.2.2.2.2.1, if_pos (show nI ([] : List Nat).length = 0 from rfl)]
  unfold wX12_goesBehind_104
  refine ⟨bz_1, ?_⟩
  intro M1 e1
  have h10 : MS (si (si M0 0 35 1) 0 36 b) (p + 1) 0 [] (K ++ mp ω) M1 := by
    obtain ⟨a1, a2, a3, a4, a5, a6, a7, a8⟩ := h9
    refine ⟨fun c i y1 y2 => ?_, ?_, ?_, ?_, fun i hi => ?_, ?_, ?_, trivial⟩
    · rw [e1, gi_si, gi_si, gi_si]
      by_cases z : c = 0 ∧ i = 35
      · rw [if_pos z, if_neg (by omega), if_pos z]
      · rw [if_neg z, if_neg z, a1 c i y1 y2, gi_si]
    · rw [e1, g_i (by decide)]; exact a2
    · rw [e1, g_i (by decide)]; exact a3
    · rw [e1, g_i (by decide)]; exact a4
    · rw [e1, g_c (by decide), g_c (by decide)]; exact a5 i hi
    · rw [e1, g_i (by decide)]; exact a6
    · rw [e1, g_i (by decide)]; exact a7
  have z35 : gi M1 0 35 = 1 := by rw [e1, g_same]
  rw [z35, if_neg n10, wX12_condition_37]; dsimp only
  rw [isGoodM h10, if_neg n10, z35, if_neg n10]
  exact h M1 ⟨b, h10⟩
def c33 : List Nat → Nat
  | [] => 0
  | c :: σ => if c = 33 then c33 σ + 1 else 0
theorem PE_93 {B : Nat → Nat} {N : Nat} {M0 : xMem} (hT0 : LTM B N M0) (h35 : gi M0 0 35 = 0) {post : xMem → Prop} {p : Nat} (hp : p ≤ N) (hc : hr B N p ≠ 38 ∧ hr B N p ≠ 124 ∧ hr B N p ≠ 41) (h : ∀ M', MFx M0 (fw 1 p) M' → post M') : ∀ σ d K, K.length + σ.length ≤ p → okZ σ → c33 σ ≤ d → PE M0 post p d σ K := by
  have hN := hT0.1
  intro σ
  induction σ with
  | nil =>
    intro d K hs h256 _
    exact E_1 h35 (by decide) h256 (by decide) (G_bad hT0 hp hc h)
  | cons c σ ih =>
    intro d K hs h256 hd
    have hs' : K.length + (σ.length + 1) ≤ p := hs
    by_cases q : c = 33
    · subst q
      have hd' : c33 σ + 1 ≤ d := hd
      obtain ⟨d', rfl⟩ : ∃ d', d = d' + 1 := ⟨d - 1, by omega⟩
      exact E_2 (by omega) (by omega) (ih d' _ (by rw [List.length_append]; show K.length + 1 + σ.length ≤ p; omega) (fun x hx => h256 x (List.mem_cons_of_mem _ hx)) (by omega))
    · exact E_1 h35 (by show σ.length + 1 ≤ 240; omega) h256 q (G_bad hT0 hp hc h)
