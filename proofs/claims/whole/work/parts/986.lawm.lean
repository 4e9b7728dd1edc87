/-! law(), the reference's state -/
def frQ (M0 M : xMem) : Prop := ∀ c i, ¬ (c = 0 ∧ (i = 3 ∨ i = 5 ∨ i = 7 ∨ i = 8 ∨ i = 9)) → ¬ (20 ≤ c ∧ c ≤ 22) → gi M c i = gi M0 c i
def LTM (B : Nat → Nat) (N : Nat) (M0 : xMem) : Prop := N ≤ 240 ∧ (∀ i, i < N → B i < 256 ∧ gi M0 1 i &&& 255 = nI (B i)) ∧ gi M0 0 4 = nI N
def stkN : List Nat → xMem → Prop
  | [], _ => True
  | c :: σ, M => gi M 22 σ.length = nI c ∧ stkN σ M
def MS (M0 : xMem) (p d : Nat) (σ : List Nat) (K : List (Nat × Nat)) (M : xMem) : Prop := frQ M0 M ∧ gi M 0 3 = nI p ∧ gi M 0 5 = 0 ∧ gi M 0 7 = nI K.length ∧ (∀ i, i < K.length → gi M 20 i = nI (K.getD i (0, 0)).1 ∧ gi M 21 i = nI (K.getD i (0, 0)).2) ∧ gi M 0 8 = nI d ∧ gi M 0 9 = nI σ.length ∧ stkN σ M
def MF (M0 : xMem) (f : Int32) (M : xMem) : Prop := frQ M0 M ∧ gi M 0 5 = f ∧ f < 0
theorem MF_ne {M0 : xMem} {f : Int32} {M : xMem} (h : MF M0 f M) : ¬ gi M 0 5 = 0 := by
  obtain ⟨a, b, c⟩ := h
  rw [b]
  intro z
  rw [z] at c
  exact absurd c (by decide)
theorem MF_si {M0 : xMem} {f : Int32} {M : xMem} (h : MF M0 f M) {c i : Nat} (hc : (c = 0 ∧ (i = 3 ∨ i = 7 ∨ i = 8 ∨ i = 9)) ∨ (20 ≤ c ∧ c ≤ 22)) (v : Int32) : MF M0 f (si M c i v) := by
  obtain ⟨a, b, e⟩ := h
  refine ⟨fun c' i' h1 h2 => ?_, ?_, e⟩
  · rw [gi_si, if_neg (by omega)]; exact a c' i' h1 h2
  · rw [gi_si, if_neg (by omega)]; exact b
theorem stk_fr {M M' : xMem} : ∀ σ : List Nat, (∀ i, i < σ.length → gi M' 22 i = gi M 22 i) → stkN σ M → stkN σ M' := by
  intro σ
  induction σ with
  | nil => intro _ _; trivial
  | cons c σ ih =>
    intro h hs
    exact ⟨by rw [h σ.length (by show σ.length < σ.length + 1; omega)]; exact hs.1, ih (fun i hi => h i (by show i < σ.length + 1; omega)) hs.2⟩
theorem isGoodM {M0 : xMem} {p d : Nat} {σ : List Nat} {K : List (Nat × Nat)} {M : xMem} (h : MS M0 p d σ K M) (post : Int32 → xMem → Prop) : wX12_isGood M post = post 1 M := by unfold wX12_isGood; rw [if_pos h.2.2.1]
theorem isGoodF {M0 : xMem} {f : Int32} {M : xMem} (h : MF M0 f M) (post : Int32 → xMem → Prop) : wX12_isGood M post = post 0 M := by unfold wX12_isGood; rw [if_neg (MF_ne h)]
theorem hreM {B : Nat → Nat} {N : Nat} {M0 : xMem} (hT : LTM B N M0) {p : Nat} (hp : p ≤ N) {M : xMem} (hf : frQ M0 M) (h3 : gi M 0 3 = nI p) (post : Int32 → xMem → Prop) : wX12_here M post = post (nI (hr B N p)) M := by
  obtain ⟨hN, hB, h4⟩ := hT
  unfold wX12_here hr
  rw [hf _ _ (by decide) (by decide), h4, h3]
  by_cases q : p < N
  · have hv : vp_in (nI p) 260 := vl (by omega) (by decide)
    rw [if_neg (nI_ge q (by omega)), if_pos q, nI_clamp (by omega), hf _ _ (by omega) (by decide), (hB p q).2]
    exact propext ⟨fun z => z.2, fun z => ⟨hv, z⟩⟩
  · rw [if_pos (nI_le (by omega) (by omega)), if_neg q]
    rfl
theorem hr_256 {B : Nat → Nat} {N : Nat} {M0 : xMem} (hT : LTM B N M0) (p : Nat) : hr B N p < 256 := by
  unfold hr
  split
  · rename_i q; exact (hT.2.1 p q).1
  · decide
theorem MS_at {M0 : xMem} {p d : Nat} {σ : List Nat} {K : List (Nat × Nat)} {M : xMem} (h : MS M0 p d σ K M) {q : Nat} {v : Int32} (hv : v = nI q) : MS M0 q d σ K (si M 0 3 v) := by
  obtain ⟨a, b, c, e, f, g, i, j⟩ := h
  subst hv
  refine ⟨fun c' i' h1 h2 => ?_, g_same _ _ _ _, ?_, ?_, fun x hx => ?_, ?_, ?_, stk_fr σ (fun x _ => g_c (by decide)) j⟩
  · rw [gi_si, if_neg (by omega)]; exact a c' i' h1 h2
  · rw [g_i (by decide)]; exact c
  · rw [g_i (by decide)]; exact e
  · rw [g_c (by decide), g_c (by decide)]; exact f x hx
  · rw [g_i (by decide)]; exact g
  · rw [g_i (by decide)]; exact i
theorem MS_d {M0 : xMem} {p d : Nat} {σ : List Nat} {K : List (Nat × Nat)} {M : xMem} (h : MS M0 p d σ K M) {q : Nat} {v : Int32} (hv : v = nI q) : MS M0 p q σ K (si M 0 8 v) := by
  obtain ⟨a, b, c, e, f, g, i, j⟩ := h
  subst hv
  refine ⟨fun c' i' h1 h2 => ?_, ?_, ?_, ?_, fun x hx => ?_, g_same _ _ _ _, ?_, stk_fr σ (fun x _ => g_c (by decide)) j⟩
  · rw [gi_si, if_neg (by omega)]; exact a c' i' h1 h2
  · rw [g_i (by decide)]; exact b
  · rw [g_i (by decide)]; exact c
  · rw [g_i (by decide)]; exact e
  · rw [g_c (by decide), g_c (by decide)]; exact f x hx
  · rw [g_i (by decide)]; exact i
theorem fr_36 {M0 M : xMem} {b : Int32} (h : frQ (si M0 0 36 b) M) (v : Int32) : frQ (si M0 0 36 v) (si M 0 36 v) := fun c' i' h1 h2 => by
  by_cases q : c' = 0 ∧ i' = 36
  · rw [q.1, q.2, g_same, g_same]
  · have := h c' i' h1 h2
    rw [gi_si, if_neg q, this, gi_si, if_neg q, gi_si, if_neg q]
theorem MS_b {M0 : xMem} {p d : Nat} {σ : List Nat} {K : List (Nat × Nat)} {M : xMem} {b : Int32} (h : MS (si M0 0 36 b) p d σ K M) (v : Int32) : MS (si M0 0 36 v) p d σ K (si M 0 36 v) := by
  obtain ⟨a, b, c, e, f, g, i, j⟩ := h
  refine ⟨fr_36 a v, ?_, ?_, ?_, fun x hx => ?_, ?_, ?_, stk_fr σ (fun x _ => g_c (by decide)) j⟩
  · rw [g_i (by decide)]; exact b
  · rw [g_i (by decide)]; exact c
  · rw [g_i (by decide)]; exact e
  · rw [g_c (by decide), g_c (by decide)]; exact f x hx
  · rw [g_i (by decide)]; exact g
  · rw [g_i (by decide)]; exact i
theorem MF_b {M0 : xMem} {f : Int32} {M : xMem} {b : Int32} (h : MF (si M0 0 36 b) f M) (v : Int32) : MF (si M0 0 36 v) f (si M 0 36 v) := ⟨fr_36 h.1 v, by rw [g_i (by decide)]; exact h.2.1, h.2.2⟩
theorem LTM_36 {B : Nat → Nat} {N : Nat} {M0 : xMem} (h : LTM B N M0) (b : Int32) : LTM B N (si M0 0 36 b) := ⟨h.1, fun i hi => ⟨(h.2.1 i hi).1, by rw [g_c (by decide)]; exact (h.2.1 i hi).2⟩, by rw [g_i (by decide)]; exact h.2.2⟩
def MSx (M0 : xMem) (p d : Nat) (σ : List Nat) (K : List (Nat × Nat)) (M : xMem) : Prop := ∃ b, MS (si M0 0 36 b) p d σ K M
def MFx (M0 : xMem) (f : Int32) (M : xMem) : Prop := ∃ b, MF (si M0 0 36 b) f M
theorem MS_pop {M0 : xMem} {p d c : Nat} {σ : List Nat} {K : List (Nat × Nat)} {M : xMem} (h : MS M0 p d (c :: σ) K M) : MS M0 p d σ K (si M 0 9 (gi M 0 9 - 1)) := by
  obtain ⟨a, b, c, e, f, g, i, j⟩ := h
  have i' : gi M 0 9 - 1 = nI σ.length := by rw [i]; exact z_sub (b := 1) (Nat.le_add_left 1 _)
  rw [i']
  refine ⟨fun c' i' h1 h2 => ?_, ?_, ?_, ?_, fun x hx => ?_, ?_, g_same _ _ _ _, stk_fr σ (fun x _ => g_c (by decide)) j.2⟩
  · rw [gi_si, if_neg (by omega)]; exact a c' i' h1 h2
  · rw [g_i (by decide)]; exact b
  · rw [g_i (by decide)]; exact c
  · rw [g_i (by decide)]; exact e
  · rw [g_c (by decide), g_c (by decide)]; exact f x hx
  · rw [g_i (by decide)]; exact g
theorem MS_flt {M0 : xMem} {p d : Nat} {σ : List Nat} {K : List (Nat × Nat)} {M : xMem} (h : MS M0 p d σ K M) {f : Int32} (hf : f < 0) : MF M0 f (si M 0 5 f) := ⟨fun c' i' h1 h2 => by rw [gi_si, if_neg (by omega)]; exact h.1 c' i' h1 h2, g_same _ _ _ _, hf⟩
theorem topM {M0 : xMem} {p d : Nat} {σ : List Nat} (hs : σ.length ≤ 240) {K : List (Nat × Nat)} {M : xMem} (h : MS M0 p d σ K M) (post : Int32 → xMem → Prop) : wX12_top M post = post (nI (σ.headD 0)) M := by
  obtain ⟨a, b, c, e, f, g, i, j⟩ := h
  unfold wX12_top
  rw [i]
  match σ, hs, i, j with
  | [], _, _, _ => rw [if_pos (show nI ([] : List Nat).length ≤ 0 by decide)]; rfl
  | c :: r, hs, i, j =>
    have hr : r.length + 1 ≤ 240 := hs
    have hv : vp_in (nI r.length) 240 := vl (by omega) (by decide)
    rw [if_neg (show ¬ nI (c :: r).length ≤ 0 from nI_ge (b := r.length + 1) (a := 0) (by omega) (by omega)), show nI (c :: r).length - 1 = nI r.length from z_sub (b := 1) (Nat.le_add_left 1 _), nI_clamp (by omega), j.1]
    exact propext ⟨fun z => z.2, fun z => ⟨hv, z⟩⟩
theorem putsM {M0 : xMem} {p d : Nat} {σ : List Nat} (hs : σ.length < 240) {K : List (Nat × Nat)} {M : xMem} (h : MS M0 p d σ K M) (c : Nat) (post : xMem → Prop) (hp : ∀ M', MS M0 (p + 1) d (c :: σ) K M' → post M') : wX12_puts (nI c) M post := by
  obtain ⟨a, b, c', e, f, g, i, j⟩ := h
  unfold wX12_puts
  rw [i]
  refine ⟨vl hs (by decide), ?_⟩
  rw [nI_clamp (by omega)]
  intro M2 e2 M3 e3 M4 e4
  have i2 : gi M2 0 9 = nI σ.length := by rw [e2, g_c (by decide)]; exact i
  rw [i2, nI_1] at e3
  have b3 : gi M3 0 3 = nI p := by rw [e3, g_i (by decide), e2, g_c (by decide)]; exact b
  rw [b3, nI_1] at e4
  refine hp M4 ⟨fun c'' i' h1 h2 => ?_, ?_, ?_, ?_, fun x hx => ?_, ?_, ?_, ?_, ?_⟩
  · rw [e4, gi_si, if_neg (by omega), e3, gi_si, if_neg (by omega), e2, gi_si, if_neg (by omega)]; exact a c'' i' h1 h2
  · rw [e4, g_same]
  · rw [e4, g_i (by decide), e3, g_i (by decide), e2, g_c (by decide)]; exact c'
  · rw [e4, g_i (by decide), e3, g_i (by decide), e2, g_c (by decide)]; exact e
  · rw [e4, g_c (by decide), g_c (by decide), e3, g_c (by decide), g_c (by decide), e2, g_c (by decide), g_c (by decide)]; exact f x hx
  · rw [e4, g_i (by decide), e3, g_i (by decide), e2, g_c (by decide)]; exact g
  · rw [e4, g_i (by decide), e3, g_same]; rfl
  · rw [e4, g_c (by decide), e3, g_c (by decide), e2, g_same]
  · refine stk_fr σ (fun x hx => ?_) j
    rw [e4, g_c (by decide), e3, g_c (by decide), e2, g_i (by omega)]
theorem getD_appP (a : List (Nat × Nat)) (x : Nat × Nat) (i : Nat) (h : i < a.length + 1) : (a ++ [x]).getD i (0, 0) = if i < a.length then a.getD i (0, 0) else x := by
  rw [List.getD_eq_getElem?_getD]
  by_cases q : i < a.length
  · rw [if_pos q, List.getElem?_append_left q, ← List.getD_eq_getElem?_getD]
  · rw [if_neg q, List.getElem?_append_right (by omega), show i - a.length = 0 by omega]; rfl
theorem emitM {M0 : xMem} {p d : Nat} {σ : List Nat} {K : List (Nat × Nat)} (hK : K.length < 240) {M : xMem} (h : MS M0 p d σ K M) (c v : Nat) (post : xMem → Prop) (hp : ∀ M', MS M0 p d σ (K ++ [(c, v)]) M' → post M') : wX12_emit (nI c) (nI v) M post := by
  unfold wX12_emit
  rw [isGoodM h]
  obtain ⟨a, b, c', e, f, g, i, j⟩ := h
  rw [if_neg (show ¬ (1 : Int32) = 0 by decide), e]
  have hv := vl (n := K.length) (N := 240) hK (by decide)
  refine ⟨hv, ?_⟩
  rw [nI_clamp (by omega)]
  intro M5 e5
  have k5 : gi M5 0 7 = nI K.length := by rw [e5, g_c (by decide)]; exact e
  rw [k5]
  refine ⟨hv, ?_⟩
  rw [nI_clamp (by omega)]
  intro M7 e7 M8 e8
  have k7 : gi M7 0 7 = nI K.length := by rw [e7, g_c (by decide)]; exact k5
  rw [k7, nI_1] at e8
  refine hp M8 ⟨fun c'' i' h1 h2 => ?_, ?_, ?_, ?_, fun x hx => ?_, ?_, ?_, ?_⟩
  · rw [e8, gi_si, if_neg (by omega), e7, gi_si, if_neg (by omega), e5, gi_si, if_neg (by omega)]; exact a c'' i' h1 h2
  · rw [e8, g_i (by decide), e7, g_c (by decide), e5, g_c (by decide)]; exact b
  · rw [e8, g_i (by decide), e7, g_c (by decide), e5, g_c (by decide)]; exact c'
  · rw [e8, g_same, List.length_append]; rfl
  · rw [List.length_append] at hx
    rw [getD_appP _ _ _ hx, e8, g_c (by decide), g_c (by decide), e7, g_c (show (20 : Nat) ≠ 21 by decide), gi_si, e5, gi_si, g_c (show (21 : Nat) ≠ 20 by decide)]
    by_cases q : x < K.length
    · rw [if_pos q, if_neg (by omega), if_neg (by omega)]; exact f x q
    · have hx' : x < K.length + 1 := hx
      have : x = K.length := by omega
      rw [if_neg q, if_pos ⟨rfl, this⟩, if_pos ⟨rfl, this⟩]; exact ⟨rfl, rfl⟩
  · rw [e8, g_i (by decide), e7, g_c (by decide), e5, g_c (by decide)]; exact g
  · rw [e8, g_i (by decide), e7, g_c (by decide), e5, g_c (by decide)]; exact i
  · refine stk_fr σ (fun x hx => ?_) j
    rw [e8, g_c (by decide), e7, g_c (by decide), e5, g_c (by decide)]
theorem emitF {M0 : xMem} {f : Int32} {M : xMem} (h : MF M0 f M) (a b : Int32) (post : xMem → Prop) (hp : post M) : wX12_emit a b M post := by
  unfold wX12_emit
  rw [isGoodF h, if_pos rfl]
  exact hp
theorem wrgM {M0 : xMem} {p d : Nat} {σ : List Nat} {K : List (Nat × Nat)} {M : xMem} (h : MS M0 p d σ K M) (a : Int32) {q : Nat} (hf : fw a q < 0) (post : xMem → Prop) (hp : ∀ M', MF M0 (fw a q) M' → post M') : wX12_wrongs a (nI q) M post := by
  unfold wX12_wrongs wX12_wrongs_22
  rw [h.2.2.1, if_pos (by decide)]
  intro M1 e1
  subst e1
  exact hp _ (MS_flt h hf)
theorem isTimes_n {c : Nat} (hc : c < 256) (M : xMem) (post : Int32 → xMem → Prop) : wX12_isTimes (nI c) M post = post (b2i (isT c)) M := by
  have key : ∀ c < 256, (if nI c = 42 then (1 : Int32) else if nI c = 47 then 1 else if nI c = 37 then 1 else 0) = b2i (isT c) := by decide +kernel
  unfold wX12_isTimes
  simp only [ite_post]
  rw [key c hc]
theorem isPlus_n {c : Nat} (hc : c < 256) (M : xMem) (post : Int32 → xMem → Prop) : wX12_isPlus (nI c) M post = post (b2i (isPl c)) M := by
  have key : ∀ c < 256, (if nI c = 43 then (1 : Int32) else if nI c = 45 then 1 else 0) = b2i (isPl c) := by decide +kernel
  unfold wX12_isPlus
  simp only [ite_post]
  rw [key c hc]
theorem isCompared_n {c : Nat} (hc : c < 256) (M : xMem) (post : Int32 → xMem → Prop) : wX12_isCompared (nI c) M post = post (b2i (isCm c)) M := by
  have key : ∀ c < 256, (if nI c = 60 then (1 : Int32) else if nI c = 62 then 1 else if nI c = 61 then 1 else 0) = b2i (isCm c) := by decide +kernel
  unfold wX12_isCompared
  simp only [ite_post]
  rw [key c hc]
set_option maxRecDepth 20000 in
theorem isValue_n {c : Nat} (hc : c < 256) (M : xMem) (post : Int32 → xMem → Prop) : wX12_isValue (nI c) M post = post (b2i (lix c < 12)) M := by
  have key : ∀ c < 256, (if nI c = 107 then (1 : Int32) else if nI c = 117 then 1 else if nI c = 109 then 1 else if nI c = 111 then 1 else if nI c = 108 then 1 else if nI c = 97 then 1 else if nI c = 114 then 1 else if nI c = 101 then 1 else if nI c = 99 then 1 else if nI c = 122 then 1 else if nI c = 104 then 1 else if nI c = 118 then 1 else 0) = b2i (lix c < 12) := by decide +kernel
  unfold wX12_isValue
  simp only [ite_post]
  rw [key c hc]
theorem isClause_n {c : Nat} (hc : c < 256) (M : xMem) (post : Int32 → xMem → Prop) : wX12_isClause (nI c) M post = post (b2i (kix c < 7)) M := by
  have key : ∀ c < 256, (if nI c = 110 then (1 : Int32) else if nI c = 112 then 1 else if nI c = 116 then 1 else if nI c = 115 then 1 else if nI c = 102 then 1 else if nI c = 103 then 1 else if nI c = 120 then 1 else 0) = b2i (kix c < 7) := by decide +kernel
  unfold wX12_isClause
  simp only [ite_post]
  rw [key c hc]
theorem seesM {B : Nat → Nat} {N : Nat} {M0 : xMem} (hT : LTM B N M0) {p : Nat} (hp : p ≤ N) {M : xMem} (hf : frQ M0 M) (h3 : gi M 0 3 = nI p) (post : Int32 → xMem → Prop) (h : post (b2i (isDg (hr B N p))) M) : wX12_seesDigit M post := by
  unfold wX12_seesDigit
  have := hr_256 hT p
  rw [hreM hT hp hf h3, lies_eq, i64i, nI_toInt (by omega), show (48 : Int64).toInt = 48 by decide, show (57 : Int64).toInt = 57 by decide]
  refine ⟨bz_b2i _, ?_⟩
  by_cases q : isDg (hr B N p)
  · rw [b2i_t q] at h; rw [b2i_t (by omega)]; exact h
  · rw [b2i_f q] at h; rw [b2i_f (by omega)]; exact h
/-- what is popped -/
def mp (ω : List Nat) : List (Nat × Nat) := ω.map (fun c => (c, 0))
theorem sumsM {M0 : xMem} {p d : Nat} (x1 : Int32) {σ : List Nat} (hσ : ¬ isT (σ.headD 0) ∧ (¬ x1 = 0 → ¬ isPl (σ.headD 0))) (h256 : ∀ c, c ∈ σ → c < 256) (post : xMem → Prop) : ∀ (ω : List Nat) (K : List (Nat × Nat)), (∀ c, c ∈ ω → isT c ∨ (¬ x1 = 0 ∧ isPl c)) → K.length + ω.length ≤ 240 → ω.length + σ.length ≤ 240 → (∀ M', MS M0 p d σ (K ++ mp ω) M' → post M') → ∃ n, ∀ M, MS M0 p d (ω ++ σ) K M → wX12_sums_0 post n x1 M := by
  intro ω
  induction ω with
  | nil =>
    intro K _ _ hl hp
    refine ⟨1, fun M hM => ?_⟩
    have hM' : MS M0 p d σ K M := hM
    have hl' : σ.length ≤ 240 := by have : 0 + σ.length ≤ 240 := hl; omega
    have hh : σ.headD 0 < 256 := by
      match σ, h256 with
      | [], _ => decide
      | c :: r, h => exact h c List.mem_cons_self
    have hp' : post M := hp M (by show MS M0 p d σ (K ++ []) M; rw [List.append_nil]; exact hM')
    rw [wX12_sums_0]; dsimp only
    rw [topM hl' hM', isTimes_n hh, b2i_f hσ.1, if_pos rfl]
    by_cases z : x1 = 0
    · rw [if_pos z]; exact hp'
    · rw [if_neg z, topM hl' hM', isPlus_n hh, b2i_f (hσ.2 z), if_pos rfl]; exact hp'
  | cons c ω ih =>
    intro K hω hK hl hp
    have hK' : K.length + (ω.length + 1) ≤ 240 := hK
    have hl' : ω.length + 1 + σ.length ≤ 240 := hl
    obtain ⟨n, hn⟩ := ih (K ++ [(c, 0)]) (fun c' h => hω c' (List.mem_cons_of_mem _ h)) (by rw [List.length_append]; show K.length + 1 + ω.length ≤ 240; omega) (by omega) (fun M' hM' => hp M' (by rw [List.append_assoc] at hM'; exact hM'))
    refine ⟨n + 1, fun M hM => ?_⟩
    have hlen : (c :: ω ++ σ).length ≤ 240 := by
      show (ω ++ σ).length + 1 ≤ 240
      rw [List.length_append]; omega
    have hc := hω c List.mem_cons_self
    have hh : c < 256 := by
      rcases hc with q | ⟨_, q⟩
      · rcases q with q | q | q <;> subst q <;> decide
      · rcases q with q | q <;> subst q <;> decide
    have go : wX12_sums_24 (wX12_sums_0 post n) post x1 M := by
      unfold wX12_sums_24
      rw [topM hlen hM]
      refine emitM (v := 0) (by omega) hM c _ (fun M3 hM3 => ?_)
      intro M4 e4
      subst e4
      exact hn _ (MS_pop hM3)
    rw [wX12_sums_0]; dsimp only
    rw [topM hlen hM]
    show wX12_isTimes (nI c) M _
    rw [isTimes_n hh]
    by_cases q : isT c
    · rw [b2i_t q, if_neg (by decide)]; exact go
    · rw [b2i_f q, if_pos rfl]
      have hc2 : ¬ x1 = 0 ∧ isPl c := by
        rcases hc with w | w
        · exact absurd w q
        · exact w
      rw [if_neg hc2.1, topM hlen hM]
      show wX12_isPlus (nI c) M _
      rw [isPlus_n hh, b2i_t hc2.2, if_neg (by decide)]
      exact go
theorem joinsM {M0 : xMem} {p d : Nat} (x1 : Int32) {σ : List Nat} (hσ : σ.headD 0 ≠ 38 ∧ (¬ x1 = 0 → σ.headD 0 ≠ 124)) (h256 : ∀ c, c ∈ σ → c < 256) (post : xMem → Prop) : ∀ (ω : List Nat) (K : List (Nat × Nat)), (∀ c, c ∈ ω → c = 38 ∨ (¬ x1 = 0 ∧ c = 124)) → K.length + ω.length ≤ 240 → ω.length + σ.length ≤ 240 → (∀ M', MS M0 p d σ (K ++ mp ω) M' → post M') → ∃ n, ∀ M, MS M0 p d (ω ++ σ) K M → wX12_joins_0 post n x1 M := by
  intro ω
  induction ω with
  | nil =>
    intro K _ _ hl hp
    refine ⟨1, fun M hM => ?_⟩
    have hM' : MS M0 p d σ K M := hM
    have hl' : σ.length ≤ 240 := by have : 0 + σ.length ≤ 240 := hl; omega
    have hh : σ.headD 0 < 256 := by
      match σ, h256 with
      | [], _ => decide
      | c :: r, h => exact h c List.mem_cons_self
    have hp' : post M := hp M (by show MS M0 p d σ (K ++ []) M; rw [List.append_nil]; exact hM')
    rw [wX12_joins_0]; dsimp only
    rw [topM hl' hM', if_neg (show ¬ nI (σ.headD 0) = 38 from fun y => hσ.1 ((nI_eq (b := 38) (by omega) (by decide)).mp y))]
    by_cases z : x1 = 0
    · rw [if_pos z]; exact hp'
    · rw [if_neg z, topM hl' hM', if_neg (show ¬ nI (σ.headD 0) = 124 from fun y => hσ.2 z ((nI_eq (b := 124) (by omega) (by decide)).mp y))]; exact hp'
  | cons c ω ih =>
    intro K hω hK hl hp
    have hK' : K.length + (ω.length + 1) ≤ 240 := hK
    have hl' : ω.length + 1 + σ.length ≤ 240 := hl
    obtain ⟨n, hn⟩ := ih (K ++ [(c, 0)]) (fun c' h => hω c' (List.mem_cons_of_mem _ h)) (by rw [List.length_append]; show K.length + 1 + ω.length ≤ 240; omega) (by omega) (fun M' hM' => hp M' (by rw [List.append_assoc] at hM'; exact hM'))
    refine ⟨n + 1, fun M hM => ?_⟩
    have hlen : (c :: ω ++ σ).length ≤ 240 := by
      show (ω ++ σ).length + 1 ≤ 240
      rw [List.length_append]; omega
    have hc := hω c List.mem_cons_self
    have go : wX12_joins_22 (wX12_joins_0 post n) post x1 M := by
      unfold wX12_joins_22
      rw [topM hlen hM]
      refine emitM (v := 0) (by omega) hM c _ (fun M3 hM3 => ?_)
      intro M4 e4
      subst e4
      exact hn _ (MS_pop hM3)
    rw [wX12_joins_0]; dsimp only
    rw [topM hlen hM]
    show (if nI c = 38 then _ else _)
    by_cases q : c = 38
    · rw [if_pos (show nI c = 38 by rw [q]; rfl)]; exact go
    · have hc2 : ¬ x1 = 0 ∧ c = 124 := by
        rcases hc with w | w
        · exact absurd w q
        · exact w
      rw [if_neg (show ¬ nI c = 38 by rw [hc2.2]; decide), if_neg hc2.1, topM hlen hM]
      show (if nI c = 124 then _ else _)
      rw [if_pos (show nI c = 124 by rw [hc2.2]; rfl)]
      exact go
theorem opensM {B : Nat → Nat} {N : Nat} {M0 : xMem} (hT : LTM B N M0) {p d : Nat} (hp : p < N) (hd : d < 6) {σ : List Nat} (hs : σ.length < 240) {K : List (Nat × Nat)} {M : xMem} (h : MS M0 p d σ K M) (post : xMem → Prop) (hq : ∀ M', MS M0 (p + 1) (d + 1) (hr B N p :: σ) K M' → post M') : wX12_opens M post := by
  unfold wX12_opens wX12_opens_18
  rw [h.2.2.2.2.2.1, if_neg (show ¬ nI d = 6 from fun y => absurd ((nI_eq (b := 6) (by omega) (by decide)).mp y) (by omega))]
  intro M1 e1
  rw [nI_1] at e1
  subst e1
  have h1 := MS_d h (q := d + 1) rfl
  rw [hreM hT (by omega) h1.1 h1.2.1]
  exact putsM hs h1 _ _ hq
theorem opensF {B : Nat → Nat} {N : Nat} {M0 : xMem} (hT : LTM B N M0) {p d : Nat} (hp : p < N) (hd : d = 6) {σ : List Nat} (hs : σ.length < 240) {K : List (Nat × Nat)} {M : xMem} (h : MS M0 p d σ K M) (post : xMem → Prop) (hq : ∀ M', MF M0 (fw 5 p) M' → post M') : wX12_opens M post := by
  subst hd
  have hN := hT.1
  unfold wX12_opens wX12_opens_18
  rw [h.2.2.2.2.2.1, if_pos (show nI 6 = 6 from rfl), h.2.1]
  unfold wX12_wrongs wX12_wrongs_22
  rw [h.2.2.1, if_pos (by decide)]
  intro M1 e1 M2 e2
  have e1' : M1 = si M 0 5 (fw 5 p) := e1
  have f1 := MS_flt h (fwL p (by omega)).2
  rw [← e1'] at f1
  have f2 : MF M0 (fw 5 p) M2 := by rw [e2]; exact MF_si f1 (by omega) _
  have g3 : gi M2 0 3 = nI p := by rw [e2, g_i (by decide), e1', g_i (by decide)]; exact h.2.1
  have g9 : gi M2 0 9 = nI σ.length := by rw [e2, g_i (by decide), e1', g_i (by decide)]; exact h.2.2.2.2.2.2.1
  rw [hreM hT (by omega) f2.1 g3]
  unfold wX12_puts
  rw [g9]
  refine ⟨vl hs (by decide), ?_⟩
  intro M3 e3 M4 e4 M5 e5
  subst e3; subst e4; subst e5
  exact hq _ (MF_si (MF_si (MF_si f2 (by omega) _) (by omega) _) (by omega) _)
