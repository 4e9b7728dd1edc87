/-! law(), the reference's sums -/
def PA (M0 : xMem) (post : xMem → Prop) (p d : Nat) (σ : List Nat) (K : List (Nat × Nat)) : Prop := ∃ n' n, ∀ M, MSx M0 p d σ K M → wX12_factor_0 (fun M6 => wX12_value_29 (wX12_value_7 post n') post M6) n M
def PB (M0 : xMem) (post : xMem → Prop) (p d : Nat) (σ : List Nat) (K : List (Nat × Nat)) : Prop := ∃ n', ∀ M, MSx M0 p d σ K M → wX12_value_29 (wX12_value_7 post n') post M
theorem n10 : ¬ (1 : Int32) = 0 := by decide
/-- a fault ends it -/
theorem v7F {M0 : xMem} {f : Int32} {post : xMem → Prop} (hp : ∀ M', MFx M0 f M' → post M') {M : xMem} (h : MFx M0 f M) (n : Nat) (x : Int32) : wX12_value_7 post (n + 1) x M := by
  have e57 : wX12_value_57 post M := by
    obtain ⟨b, h1⟩ := id h
    unfold wX12_value_57
    rw [isGoodF h1, if_pos rfl]
    exact hp _ h
  obtain ⟨b, h1⟩ := id h
  rw [wX12_value_7]; dsimp only
  by_cases q : x = 0
  · rw [if_pos q]; exact e57
  · rw [if_neg q, isGoodF h1, if_pos rfl]; exact e57
theorem v29F {M0 : xMem} {f : Int32} {post : xMem → Prop} (hp : ∀ M', MFx M0 f M' → post M') {M : xMem} (h : MFx M0 f M) (n : Nat) : wX12_value_29 (wX12_value_7 post (n + 1)) post M := by
  obtain ⟨b, h⟩ := h
  unfold wX12_value_29
  intro M1 e1
  subst e1
  have h1 := MF_b h 0
  rw [isGoodF h1, if_pos rfl]
  exact v7F hp ⟨0, h1⟩ n 0
theorem fac23F {M0 : xMem} {f : Int32} {post : xMem → Prop} {M : xMem} (h : MF M0 f M) (hp : post M) : wX12_factor_23 post M := by
  unfold wX12_factor_23
  rw [isGoodF h, if_pos rfl]
  exact hp
theorem A_open {B : Nat → Nat} {N : Nat} {M0 : xMem} (hT0 : LTM B N M0) {post : xMem → Prop} {p d : Nat} {σ : List Nat} {K : List (Nat × Nat)} (hs : K.length + σ.length ≤ p) (hc : hr B N p = 91) (hd : d < 6) (h : PA M0 post (p + 1) (d + 1) (91 :: σ) K) : PA M0 post p d σ K := by
  have hN := hT0.1
  have hpl : p < N := hr_pos (B := B) (by omega)
  obtain ⟨n', n, h⟩ := h
  refine ⟨n', n + 1, fun M hM => ?_⟩
  obtain ⟨b, hM⟩ := hM
  have hT := LTM_36 hT0 b
  rw [wX12_factor_0]; dsimp only
  rw [isGoodM hM, if_neg n10, hreM hT (by omega) hM.1 hM.2.1, hc, if_pos (show nI 91 = 91 from rfl)]
  refine opensM hT hpl hd (by omega) hM _ (fun M' hM' => ?_)
  rw [hc] at hM'
  exact h M' ⟨b, hM'⟩
theorem A_openF {B : Nat → Nat} {N : Nat} {M0 : xMem} (hT0 : LTM B N M0) {post : xMem → Prop} {p d : Nat} {σ : List Nat} {K : List (Nat × Nat)} (hs : K.length + σ.length ≤ p) (hc : hr B N p = 91) (hd : d = 6) (h : ∀ M', MFx M0 (fw 5 p) M' → post M') : PA M0 post p d σ K := by
  have hN := hT0.1
  have hpl : p < N := hr_pos (B := B) (by omega)
  refine ⟨1, 2, fun M hM => ?_⟩
  obtain ⟨b, hM⟩ := hM
  have hT := LTM_36 hT0 b
  rw [wX12_factor_0]; dsimp only
  rw [isGoodM hM, if_neg n10, hreM hT (by omega) hM.1 hM.2.1, hc, if_pos (show nI 91 = 91 from rfl)]
  refine opensF hT hpl hd (by omega) hM _ (fun M' hM' => ?_)
  rw [wX12_factor_0]; dsimp only
  rw [isGoodF hM', if_pos rfl]
  exact fac23F hM' (v29F h ⟨b, hM'⟩ 0)
theorem A_let {B : Nat → Nat} {N : Nat} {M0 : xMem} (hT0 : LTM B N M0) {post : xMem → Prop} {p d : Nat} {σ : List Nat} {K : List (Nat × Nat)} (hs : K.length + σ.length ≤ p) (hc : lix (hr B N p) < 12) (h : PB M0 post (p + 1) d σ (K ++ [(1, hr B N p)])) : PA M0 post p d σ K := by
  have hN := hT0.1
  have hpl : p < N := hr_pos (B := B) (fun q => by rw [q] at hc; revert hc; decide)
  have h256 := hr_256 hT0 p
  have key : ∀ c < 256, lix c < 12 → ¬ isDg c ∧ c ≠ 91 := by decide +kernel
  obtain ⟨k1, k2⟩ := key _ h256 hc
  obtain ⟨n', h⟩ := h
  refine ⟨n', 1, fun M hM => ?_⟩
  obtain ⟨b, hM⟩ := hM
  have hT := LTM_36 hT0 b
  rw [wX12_factor_0]; dsimp only
  rw [isGoodM hM, if_neg n10, hreM hT (by omega) hM.1 hM.2.1, if_neg (show ¬ nI (hr B N p) = 91 from fun y => k2 ((nI_eq (b := 91) (by omega) (by decide)).mp y))]
  unfold wX12_factor_23
  rw [isGoodM hM, if_neg n10]
  refine seesM hT (by omega) hM.1 hM.2.1 _ ?_
  rw [b2i_f k1, if_pos rfl, hreM hT (by omega) hM.1 hM.2.1, isValue_n h256, b2i_t hc, if_neg n10, hreM hT (by omega) hM.1 hM.2.1]
  refine emitM (c := 1) (v := hr B N p) (by omega) hM _ (fun M15 hM15 => ?_)
  intro M16 e16
  subst e16
  exact h _ ⟨b, MS_at hM15 (by rw [hM15.2.1, nI_1])⟩
theorem A_bad {B : Nat → Nat} {N : Nat} {M0 : xMem} (hT0 : LTM B N M0) {post : xMem → Prop} {p d : Nat} (hp : p ≤ N) {σ : List Nat} {K : List (Nat × Nat)} (hc : ¬ lix (hr B N p) < 12) (hc2 : hr B N p ≠ 91) (hc3 : ¬ isDg (hr B N p)) (h : ∀ M', MFx M0 (fw 1 p) M' → post M') : PA M0 post p d σ K := by
  have hN := hT0.1
  have h256 := hr_256 hT0 p
  refine ⟨1, 1, fun M hM => ?_⟩
  obtain ⟨b, hM⟩ := hM
  have hT := LTM_36 hT0 b
  rw [wX12_factor_0]; dsimp only
  rw [isGoodM hM, if_neg n10, hreM hT (by omega) hM.1 hM.2.1, if_neg (show ¬ nI (hr B N p) = 91 from fun y => hc2 ((nI_eq (b := 91) (by omega) (by decide)).mp y))]
  unfold wX12_factor_23
  rw [isGoodM hM, if_neg n10]
  refine seesM hT (by omega) hM.1 hM.2.1 _ ?_
  rw [b2i_f hc3, if_pos rfl, hreM hT (by omega) hM.1 hM.2.1, isValue_n h256, b2i_f hc, if_pos rfl, hM.2.1]
  exact wrgM hM 1 (fwL _ (by omega)).1.1.1 _ (fun M' hM' => v29F h ⟨b, hM'⟩ 0)
theorem dgM {B : Nat → Nat} {N : Nat} {M0 : xMem} (hT : LTM B N M0) {p d : Nat} {σ : List Nat} {K : List (Nat × Nat)} (post : Int32 → xMem → Prop) (h6 : ndg B N 6 p = 6 → ∀ r M', MF M0 (fw 2 (p + 5)) M' → post r M') (h1 : ndg B N 6 p ≠ 6 → ∀ M', MS M0 (p + ndg B N 6 p) d σ K M' → post (nI (vdg B N (ndg B N 6 p) p 0)) M') : ∀ m j a M, j + m = 6 → p + j ≤ N → j ≤ 5 → MS M0 (p + j) d σ K M → ndg B N 6 p = j + ndg B N (6 - j) (p + j) → vdg B N (ndg B N 6 p) p 0 = vdg B N (ndg B N (6 - j) (p + j)) (p + j) a → wX12_reads_7 post (m + 1) (nI p) (nI a) M := by
  have hN := hT.1
  intro m
  induction m with
  | zero => intro j a M hj hpj h5; omega
  | succ m ih =>
    intro j a M hj hpj h5 hM hn hv
    have e6 : 6 - j = (6 - (j + 1)) + 1 := by omega
    rw [wX12_reads_7]; dsimp only
    rw [isGoodM hM, if_neg n10]
    refine seesM hT hpj hM.1 hM.2.1 _ ?_
    by_cases q : isDg (hr B N (p + j))
    rotate_left
    · rw [b2i_f q, if_pos rfl]
      have hnj : ndg B N 6 p = j := by rw [hn, e6, ndg_s, if_neg q, Nat.add_zero]
      have hv2 : vdg B N (ndg B N 6 p) p 0 = a := by rw [hv, e6, ndg_s, if_neg q]; rfl
      rw [← hv2]
      exact h1 (by omega) M (by rw [hnj]; exact hM)
    have hpl : p + j < N := hr_pos (B := B) (by omega)
    have hn1 : ndg B N (6 - j) (p + j) = 1 + ndg B N (6 - (j + 1)) (p + (j + 1)) := by
      rw [e6, ndg_s, if_pos q]; rfl
    rw [b2i_t q, if_neg n10, hM.2.1, show nI p + 5 = nI (p + 5) from z_add1 p 5]
    by_cases c5 : j = 5
    · subst c5
      rw [if_pos rfl]
      unfold wX12_wrongs wX12_wrongs_22
      rw [hM.2.2.1, if_pos (by decide)]
      intro M8 e8
      have e8' : M8 = si M 0 5 (fw 2 (p + 5)) := e8
      have f8 := MS_flt hM (fwL (p + 5) (by omega)).1.1.2
      rw [← e8'] at f8
      have g3 : gi M8 0 3 = nI (p + 5) := by rw [e8', g_i (by decide)]; exact hM.2.1
      unfold wX12_reads_40
      rw [hreM hT hpj f8.1 g3]
      intro v3 e3 M4 e4
      have hF4 : MF M0 (fw 2 (p + 5)) M4 := by rw [e4]; exact MF_si f8 (by omega) _
      rw [wX12_reads_7]; dsimp only
      rw [isGoodF hF4, if_pos rfl]
      exact h6 (by rw [hn, hn1]; rfl) _ _ hF4
    · have : ¬ nI (p + j) = nI (p + 5) := fun y => c5 (by have := (nI_eq (a := p + j) (b := p + 5) (by omega) (by omega)).mp y; omega)
      rw [if_neg this]
      unfold wX12_reads_40
      rw [hreM hT hpj hM.1 hM.2.1]
      intro v3 e3 M4 e4
      rw [z_mull, z_add, z_subl (by omega)] at e3
      subst e3; subst e4
      exact ih (j + 1) _ _ (by omega) (by omega) (by omega) (MS_at hM (by rw [hM.2.1, nI_1]; rfl)) (by rw [hn, hn1]; omega) (by rw [hv, hn1, Nat.add_comm 1]; rfl)
theorem A_num {B : Nat → Nat} {N : Nat} {M0 : xMem} (hT0 : LTM B N M0) {post : xMem → Prop} {p d : Nat} {σ : List Nat} {K : List (Nat × Nat)} (hs : K.length + σ.length ≤ p) (hc : isDg (hr B N p)) (h6 : ndg B N 6 p = 6 → ∀ M', MFx M0 (fw 2 (p + 5)) M' → post M') (h1 : ndg B N 6 p ≠ 6 → PB M0 post (p + ndg B N 6 p) d σ (K ++ [(0, vdg B N (ndg B N 6 p) p 0)])) : PA M0 post p d σ K := by
  have hN := hT0.1
  have hpl : p < N := hr_pos (B := B) (by omega)
  have h256 := hr_256 hT0 p
  have hl := ndg_le B N 6 p (by omega)
  obtain ⟨n', w6, w1⟩ : ∃ n', (ndg B N 6 p = 6 → ∃ m, n' = m + 1) ∧ (ndg B N 6 p ≠ 6 → ∀ M, MSx M0 (p + ndg B N 6 p) d σ (K ++ [(0, vdg B N (ndg B N 6 p) p 0)]) M → wX12_value_29 (wX12_value_7 post n') post M) := by
    by_cases q : ndg B N 6 p = 6
    · exact ⟨1, fun _ => ⟨0, rfl⟩, fun z => absurd q z⟩
    · obtain ⟨n', h⟩ := h1 q
      exact ⟨n', fun z => absurd z q, fun _ => h⟩
  refine ⟨n', 1, fun M hM => ?_⟩
  obtain ⟨b, hM⟩ := hM
  have hT := LTM_36 hT0 b
  rw [wX12_factor_0]; dsimp only
  rw [isGoodM hM, if_neg n10, hreM hT (by omega) hM.1 hM.2.1, if_neg (show ¬ nI (hr B N p) = 91 from fun y => absurd ((nI_eq (b := 91) (by omega) (by decide)).mp y) (by omega))]
  unfold wX12_factor_23
  rw [isGoodM hM, if_neg n10]
  refine seesM hT (by omega) hM.1 hM.2.1 _ ?_
  rw [b2i_t hc, if_neg n10]
  unfold wX12_reads
  intro v1 e1
  rw [hM.2.1] at e1
  subst e1
  refine ⟨7, dgM hT (p := p) (d := d) (σ := σ) (K := K) _ (fun z r M' hF => ?_) (fun z M' hM' => ?_) 6 0 0 M rfl (by omega) (by decide) hM (by rw [Nat.zero_add]; rfl) rfl⟩
  · obtain ⟨m, rfl⟩ := w6 z
    exact emitF hF _ _ _ (v29F (h6 z) ⟨b, hF⟩ m)
  · exact emitM (c := 0) (by omega) hM' _ _ (fun M19 hM19 => w1 z M19 ⟨b, hM19⟩)
def okZ (σ : List Nat) : Prop := ∀ c, c ∈ σ → c < 256
theorem okZ_c {c : Nat} {σ : List Nat} (hc : c < 256) (h : okZ σ) : okZ (c :: σ) := fun x hx => by
  rcases List.mem_cons.mp hx with q | q
  · rw [q]; exact hc
  · exact h x q
/-- an operator -/
theorem B_op {B : Nat → Nat} {N : Nat} {M0 : xMem} (hT0 : LTM B N M0) {post : xMem → Prop} {p d : Nat} {ω σ : List Nat} {K : List (Nat × Nat)} (hs : K.length + ω.length + σ.length ≤ p) (hc : isT (hr B N p) ∨ isPl (hr B N p)) (hω : ∀ c, c ∈ ω → isT c ∨ (isPl (hr B N p) ∧ isPl c)) (hσ : ¬ isT (σ.headD 0) ∧ (isPl (hr B N p) → ¬ isPl (σ.headD 0))) (h256 : okZ σ) (h : PA M0 post (p + 1) d (hr B N p :: σ) (K ++ mp ω)) : PB M0 post p d (ω ++ σ) K := by
  have hN := hT0.1
  have hpl : p < N := hr_pos (B := B) (by
    rcases hc with q | q
    · exact (six_T q).2.2.2.2
    · exact (six_P q).2.2.2.2)
  have hc256 := hr_256 hT0 p
  obtain ⟨n', n, h⟩ := h
  refine ⟨n' + 1, fun M hM => ?_⟩
  obtain ⟨b, hM⟩ := hM
  have hT := LTM_36 hT0 0
  unfold wX12_value_29
  intro M1 e1
  have hM1 := MS_b hM 0
  rw [← e1] at hM1
  rw [isGoodM hM1, if_neg n10]
  have st : ∀ P : Int32 → xMem → Prop, (∀ M', MS (si M0 0 36 0) (p + 1) d (hr B N p :: σ) (K ++ mp ω) M' → P 1 M') → wX12_stays_19 P (nI (hr B N p)) M1 := by
    intro P hP
    unfold wX12_stays_19
    rw [isPlus_n hc256]
    have hb : ¬ b2i (isPl (hr B N p)) = 0 ↔ isPl (hr B N p) := by
      by_cases q : isPl (hr B N p)
      · rw [b2i_t q]; exact ⟨fun _ => q, fun _ => n10⟩
      · rw [b2i_f q]; exact ⟨fun z => absurd rfl z, fun z => absurd z q⟩
    obtain ⟨n0, h0⟩ := sumsM (M0 := si M0 0 36 0) (p := p) (d := d) (b2i (isPl (hr B N p))) (σ := σ) ⟨hσ.1, fun z => hσ.2 (hb.mp z)⟩ h256 (fun M3 => wX12_puts (nI (hr B N p)) M3 (fun M4 => P 1 M4)) ω K (fun c hc => by
      rcases hω c hc with q | q
      · exact Or.inl q
      · exact Or.inr ⟨hb.mpr q.1, q.2⟩) (by omega) (by omega) (fun M3 hM3 => putsM (by omega) hM3 _ _ hP)
    exact ⟨n0, h0 M1 hM1⟩
  have go : ∀ M', MS (si M0 0 36 0) (p + 1) d (hr B N p :: σ) (K ++ mp ω) M' → wX12_value_7 post (n' + 1) 1 M' := by
    intro M' hM'
    rw [wX12_value_7]; dsimp only
    rw [if_neg n10, isGoodM hM', if_neg n10, hM'.1 0 36 (by decide) (by decide), g_same, if_pos rfl]
    exact ⟨n, h M' ⟨0, hM'⟩⟩
  unfold wX12_stays
  rw [hreM hT (by omega) hM1.1 hM1.2.1, isTimes_n hc256]
  by_cases q : isT (hr B N p)
  · rw [b2i_t q, if_neg n10]
    exact st _ go
  · rw [b2i_f q, if_pos rfl, isPlus_n hc256]
    have q2 : isPl (hr B N p) := by
      rcases hc with z | z
      · exact absurd z q
      · exact z
    rw [b2i_t q2, if_neg n10]
    exact st _ go
/-- no operator: what is pending goes -/
theorem B_end {B : Nat → Nat} {N : Nat} {M0 : xMem} (hT0 : LTM B N M0) {post : xMem → Prop} {p d : Nat} (hp : p ≤ N) {ω σ : List Nat} {K : List (Nat × Nat)} (hs : K.length + ω.length + σ.length ≤ p) (hc : ¬ isT (hr B N p) ∧ ¬ isPl (hr B N p)) (hω : ∀ c, c ∈ ω → isT c ∨ isPl c) (hσ : ¬ isT (σ.headD 0) ∧ ¬ isPl (σ.headD 0)) (h256 : okZ σ) (K7 : Int32 → xMem → Prop) (h : ∀ M', MS (si M0 0 36 0) p d σ (K ++ mp ω) M' → if hr B N p = 93 then (if σ.headD 0 = 91 then (∀ M17, M17 = si (si (si (si M' 0 9 (gi M' 0 9 - 1)) 0 8 (nI d - 1)) 0 3 (nI p + 1)) 0 36 1 → K7 1 M17) else ∀ M'', MF (si M0 0 36 0) (fw 1 p) M'' → K7 0 M'') else K7 0 M') : ∀ M, MSx M0 p d (ω ++ σ) K M → wX12_value_29 K7 post M := by
  intro M hM
  have hN := hT0.1
  have hc256 := hr_256 hT0 p
  obtain ⟨b, hM⟩ := hM
  have hT := LTM_36 hT0 0
  have hh : σ.headD 0 < 256 := by
    match σ, h256 with
    | [], _ => decide
    | c :: r, h => exact h c List.mem_cons_self
  unfold wX12_value_29
  intro M1 e1
  have hM1 := MS_b hM 0
  rw [← e1] at hM1
  rw [isGoodM hM1, if_neg n10]
  unfold wX12_stays
  rw [hreM hT hp hM1.1 hM1.2.1, isTimes_n hc256, b2i_f hc.1, if_pos rfl, isPlus_n hc256, b2i_f hc.2, if_pos rfl]
  unfold wX12_sums
  have S := sumsM (M0 := si M0 0 36 0) (p := p) (d := d) 1 (σ := σ) ⟨hσ.1, fun _ => hσ.2⟩ h256 (fun M9 => if nI (hr B N p) = 93 then wX12_top M9 (fun r12 M11 => if r12 = 91 then (∀ M14 : xMem, M14 = si M11 0 9 ((gi M11 0 9) - 1) → ∀ M15 : xMem, M15 = si M14 0 8 ((gi M14 0 8) - 1) → ∀ M16 : xMem, M16 = si M15 0 3 ((gi M15 0 3) + 1) → ∀ M17 : xMem, M17 = si M16 0 36 1 → (fun r6 M5 => if r6 = 0 then wX12_value_52 K7 post M5 else wX12_value_53 K7 post 1 M5) (1 : Int32) M17) else wX12_wrongs 1 (gi M11 0 3) M11 (fun M18 => (fun r6 M5 => if r6 = 0 then wX12_value_52 K7 post M5 else wX12_value_53 K7 post 1 M5) (0 : Int32) M18)) else (fun r6 M5 => if r6 = 0 then wX12_value_52 K7 post M5 else wX12_value_53 K7 post 1 M5) (0 : Int32) M9) ω K (fun c hc => by
      rcases hω c hc with q | q
      · exact Or.inl q
      · exact Or.inr ⟨n10, q⟩) (by omega) (by omega) (fun M3 hM3 => ?_)
  · obtain ⟨n0, h0⟩ := S
    exact ⟨n0, h0 M1 hM1⟩
  have h9 := h M3 hM3
  unfold wX12_value_52 wX12_value_53
  by_cases q : hr B N p = 93
  · rw [if_pos q] at h9
    dsimp only
    rw [if_pos (show nI (hr B N p) = 93 by rw [q]; rfl), topM (by omega) hM3]
    by_cases w : σ.headD 0 = 91
    · rw [if_pos w] at h9
      rw [if_pos (show nI (σ.headD 0) = 91 by rw [w]; rfl)]
      intro M14 e14 M15 e15 M16 e16 M17 e17
      rw [if_neg n10]
      refine h9 M17 ?_
      have d3 : gi M14 0 8 = nI d := by rw [e14, g_i (by decide)]; exact hM3.2.2.2.2.2.1
      have p3 : gi M15 0 3 = nI p := by rw [e15, g_i (by decide), e14, g_i (by decide)]; exact hM3.2.1
      rw [e17, e16, p3, e15, d3, e14]
    · rw [if_neg w] at h9
      rw [if_neg (show ¬ nI (σ.headD 0) = 91 from fun y => w ((nI_eq (b := 91) (by omega) (by decide)).mp y)), hM3.2.1]
      refine wrgM hM3 1 (fwL _ (by omega)).1.1.1 _ (fun M' hM' => ?_)
      rw [if_pos rfl]
      exact h9 M' hM'
  · rw [if_neg q] at h9
    dsimp only
    rw [if_neg (show ¬ nI (hr B N p) = 93 from fun y => q ((nI_eq (b := 93) (by omega) (by decide)).mp y)), if_pos rfl]
    exact h9
theorem B_close {B : Nat → Nat} {N : Nat} {M0 : xMem} (hT0 : LTM B N M0) {post : xMem → Prop} {p d : Nat} {ω σ : List Nat} {K : List (Nat × Nat)} (hs : K.length + ω.length + (σ.length + 1) ≤ p) (hc : hr B N p = 93) (hω : ∀ c, c ∈ ω → isT c ∨ isPl c) (h256 : okZ σ) (h : PB M0 post (p + 1) d σ (K ++ mp ω)) : PB M0 post p (d + 1) (ω ++ 91 :: σ) K := by
  have hpl : p < N := hr_pos (B := B) (by omega)
  obtain ⟨n', h⟩ := h
  refine ⟨n' + 1, B_end hT0 (by omega) (σ := 91 :: σ) hs (by rw [hc]; decide) hω (show ¬ isT 91 ∧ ¬ isPl 91 by decide) (okZ_c (by decide) h256) _ (fun M' hM' => ?_)⟩
  rw [if_pos hc, if_pos (show (91 :: σ).headD 0 = 91 from rfl)]
  intro M17 e17
  have h1 := MS_pop hM'
  have h2 := MS_d h1 (v := nI (d + 1) - 1) (q := d) (z_sub (b := 1) (Nat.le_add_left 1 d))
  have h3 := MS_at h2 (v := nI p + 1) (q := p + 1) (nI_1 p)
  have h4 := MS_b h3 1
  rw [← e17] at h4
  rw [wX12_value_7]; dsimp only
  rw [if_neg n10, isGoodM h4, if_neg n10, h4.1 0 36 (by decide) (by decide), g_same, if_neg n10]
  exact h M17 ⟨1, h4⟩
theorem B_93 {B : Nat → Nat} {N : Nat} {M0 : xMem} (hT0 : LTM B N M0) {post : xMem → Prop} {p d : Nat} (hp : p ≤ N) {ω σ : List Nat} {K : List (Nat × Nat)} (hs : K.length + ω.length + σ.length ≤ p) (hc : hr B N p = 93) (hω : ∀ c, c ∈ ω → isT c ∨ isPl c) (hσ : ¬ isT (σ.headD 0) ∧ ¬ isPl (σ.headD 0)) (h91 : σ.headD 0 ≠ 91) (h256 : okZ σ) (h : ∀ M', MFx M0 (fw 1 p) M' → post M') : PB M0 post p d (ω ++ σ) K := by
  refine ⟨1, B_end hT0 hp hs (by rw [hc]; decide) hω hσ h256 _ (fun M' hM' => ?_)⟩
  rw [if_pos hc, if_neg h91]
  exact fun M'' hM'' => v7F h ⟨0, hM''⟩ 0 0
theorem B_exit {B : Nat → Nat} {N : Nat} {M0 : xMem} (hT0 : LTM B N M0) {post : xMem → Prop} {p d : Nat} (hp : p ≤ N) {ω σ : List Nat} {K : List (Nat × Nat)} (hs : K.length + ω.length + σ.length ≤ p) (hc : ¬ isT (hr B N p) ∧ ¬ isPl (hr B N p)) (hc2 : hr B N p ≠ 93) (hω : ∀ c, c ∈ ω → isT c ∨ isPl c) (hσ : ¬ isT (σ.headD 0) ∧ ¬ isPl (σ.headD 0)) (h256 : okZ σ) (h1 : σ.headD 0 ≠ 91 → ∀ M', MSx M0 p d σ (K ++ mp ω) M' → post M') (h2 : σ.headD 0 = 91 → ∀ M', MFx M0 (fw 1 p) M' → post M') : PB M0 post p d (ω ++ σ) K := by
  have hN := hT0.1
  have hh : σ.headD 0 < 256 := by
    match σ, h256 with
    | [], _ => decide
    | c :: r, h => exact h c List.mem_cons_self
  refine ⟨1, B_end hT0 hp hs hc hω hσ h256 _ (fun M' hM' => ?_)⟩
  rw [if_neg hc2, wX12_value_7]; dsimp only
  rw [if_pos rfl]
  unfold wX12_value_57
  rw [isGoodM hM', if_neg n10, topM (by omega) hM']
  by_cases w : σ.headD 0 = 91
  · rw [if_pos (show nI (σ.headD 0) = 91 by rw [w]; rfl), hM'.2.1]
    exact wrgM hM' 1 (fwL _ (by omega)).1.1.1 _ (fun M'' hM'' => h2 w M'' ⟨0, hM''⟩)
  · rw [if_neg (show ¬ nI (σ.headD 0) = 91 from fun y => w ((nI_eq (b := 91) (by omega) (by decide)).mp y))]
    exact h1 w M' ⟨0, hM'⟩
