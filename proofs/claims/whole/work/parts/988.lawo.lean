/-! law(), the reference reads sums as they are -/
def GB (M0 : xMem) (post : xMem → Prop) (r : xR) (d : Nat) (σ : List Nat) (K : List (Nat × Nat)) : Prop := match r with
  | .inl f => ∀ M', MFx M0 f M' → post M'
  | .inr x => PB M0 post x.1 d σ (K ++ x.2.2)
def GP (B : Nat → Nat) (N : Nat) (M0 : xMem) (post : xMem → Prop) (r : xR) (d : Nat) (σ : List Nat) (K : List (Nat × Nat)) : Prop := match r with
  | .inl f => ∀ M', MFx M0 f M' → post M'
  | .inr x => ¬ isT (hr B N x.1) → ∀ ω K', (∀ c, c ∈ ω → isT c) → K' ++ mp ω = K ++ x.2.2 → PB M0 post x.1 d (ω ++ σ) K'
def GS (B : Nat → Nat) (N : Nat) (M0 : xMem) (post : xMem → Prop) (r : xR) (d : Nat) (σ : List Nat) (K : List (Nat × Nat)) : Prop := match r with
  | .inl f => ∀ M', MFx M0 f M' → post M'
  | .inr x => ¬ isT (hr B N x.1) → ¬ isPl (hr B N x.1) → ∀ ω K', (∀ c, c ∈ ω → isT c ∨ isPl c) → K' ++ mp ω = K ++ x.2.2 → PB M0 post x.1 d (ω ++ σ) K'
abbrev nopS (σ : List Nat) : Prop := ¬ isT (σ.headD 0) ∧ ¬ isPl (σ.headD 0)
def SMs (B : Nat → Nat) (N : Nat) (M0 : xMem) (r : Nat → Nat → xR) (d : Nat) : Prop := ∀ p z σ K post, K.length + σ.length ≤ p → p ≤ N → nopS σ → okZ σ → GS B N M0 post (r p z) d σ K → PA M0 post p d σ K
theorem mp_len (ω : List Nat) : (mp ω).length = ω.length := List.length_map ..
theorem eq_len {K' : List (Nat × Nat)} {ω : List Nat} {K k : List (Nat × Nat)} (h : K' ++ mp ω = K ++ k) : K'.length + ω.length = K.length + k.length := by
  have := congrArg List.length h
  rw [List.length_append, List.length_append, mp_len] at this
  exact this
theorem facM {B : Nat → Nat} {N : Nat} {M0 : xMem} (hT : LTM B N M0) {rec : Option (Nat → Nat → xR)} {d : Nat} (hd : d ≤ 6) (w2 : rec = none → d = 6) (w3 : ∀ r, rec = some r → d < 6 ∧ (∃ H, goodR N H r) ∧ SMs B N M0 r (d + 1)) : ∀ p z σ K post, K.length + σ.length ≤ p → p ≤ N → okZ σ → GB M0 post (facP B N rec p z) d σ K → PA M0 post p d σ K := by
  intro p z σ K post hs hp h256 h
  have hN := hT.1
  unfold facP at h
  by_cases c0 : hr B N p = 91
  · have hpl : p < N := hr_pos (B := B) (by omega)
    rw [if_pos c0] at h
    cases rec with
    | none => exact A_openF hT hs c0 (w2 rfl) h
    | some r =>
      obtain ⟨d6, ⟨H, hG⟩, hr'⟩ := w3 r rfl
      refine A_open hT hs c0 d6 ?_
      refine hr' (p + 1) z (91 :: σ) K post (by show K.length + (σ.length + 1) ≤ p + 1; omega) (by omega) (show ¬ isT 91 ∧ ¬ isPl 91 by decide) (okZ_c (by decide) h256) ?_
      dsimp only at h
      match e : r (p + 1) z with
      | .inl f => rw [e] at h; exact h
      | .inr (q, s, k) =>
        rw [e] at h
        obtain ⟨-, g0, g1, g2, g3⟩ := hG _ _ _ _ _ e
        intro nT nP ω K' hω hK
        have hl := eq_len hK
        have h' : GB M0 post (if hr B N q = 93 then .inr (q + 1, s, k) else .inl (fw 1 q)) d σ K := h
        have hK' : K' ++ mp ω = K ++ k := hK
        have hl' : K'.length + ω.length = K.length + k.length := hl
        by_cases c1 : hr B N q = 93
        · rw [if_pos c1] at h'
          refine B_close hT (by omega) c1 hω h256 ?_
          rw [hK']
          exact h'
        · rw [if_neg c1] at h'
          exact B_exit hT g2 (by show _ + (σ.length + 1) ≤ q; omega) ⟨nT, nP⟩ c1 hω (show ¬ isT 91 ∧ ¬ isPl 91 by decide) (okZ_c (by decide) h256) (fun y => absurd rfl y) (fun _ => h')
  rw [if_neg c0] at h
  by_cases c1 : lix (hr B N p) < 12
  · rw [if_pos c1] at h
    exact A_let hT hs c1 h
  rw [if_neg c1] at h
  by_cases c2 : isDg (hr B N p)
  rotate_left
  · rw [if_pos (show ndg B N 6 p = 0 by rw [show (6 : Nat) = 5 + 1 from rfl, ndg_s, if_neg c2])] at h
    exact A_bad hT hp c1 c0 c2 h
  have hn0 : ndg B N 6 p ≠ 0 := by rw [show (6 : Nat) = 5 + 1 from rfl, ndg_s, if_pos c2]; omega
  rw [if_neg hn0] at h
  refine A_num hT hs c2 (fun z => ?_) (fun z => ?_)
  · rw [if_pos z] at h; exact h
  · rw [if_neg z] at h; exact h
theorem prLM {B : Nat → Nat} {N : Nat} {M0 : xMem} (hT : LTM B N M0) {rec : Option (Nat → Nat → xR)} {d : Nat} (hf : ∀ p z σ K post, K.length + σ.length ≤ p → p ≤ N → okZ σ → GB M0 post (facP B N rec p z) d σ K → PA M0 post p d σ K) {H : Nat} (hG : goodR N H (facP B N rec)) {z : Nat} {σ : List Nat} {K : List (Nat × Nat)} (post : xMem → Prop) (hσ : ¬ isT (σ.headD 0)) (h256 : okZ σ) : ∀ m p s k ω K', N ≤ p + m → (∀ c, c ∈ ω → isT c) → K' ++ mp ω = K ++ k → K.length + k.length + σ.length ≤ p → p ≤ N → GP B N M0 post (prL B N rec z m p s k) d σ K → PB M0 post p d (ω ++ σ) K' := by
  have hN := hT.1
  intro m
  induction m with
  | zero =>
    intro p s k ω K' hm hω hK hs hp h
    exact h (by show ¬ isT (hr B N p); rw [hr_off (by omega)]; decide) ω K' hω hK
  | succ m ih =>
    intro p s k ω K' hm hω hK hs hp h
    have hl := eq_len hK
    rw [prL] at h
    by_cases c : isT (hr B N p)
    · rw [if_pos c] at h
      have hpl : p < N := hr_pos (B := B) (six_T c).2.2.2.2
      have hnp : ¬ isPl (hr B N p) := by
        rcases c with q | q | q <;> rw [q] <;> decide
      refine B_op hT (by omega) (Or.inl c) (fun c' hc' => Or.inl (hω c' hc')) ⟨hσ, fun y => absurd y hnp⟩ h256 ?_
      rw [hK]
      refine hf (p + 1) (z + s.length) (hr B N p :: σ) (K ++ k) post (by rw [List.length_append]; show _ + (σ.length + 1) ≤ p + 1; omega) (by omega) (okZ_c (hr_256 hT p) h256) ?_
      match e : facP B N rec (p + 1) (z + s.length) with
      | .inl f => rw [e] at h; exact h
      | .inr (q, s', k') =>
        rw [e] at h
        obtain ⟨-, g0, g1, g2, g3⟩ := hG _ _ _ _ _ e
        have hx := ih q (s ++ s' ++ [5 + six (hr B N p)]) (k ++ k' ++ [(hr B N p, 0)]) [hr B N p] (K ++ k ++ k') (by omega) (fun c' hc' => by rw [List.mem_singleton.mp hc']; exact c) (by rw [show mp [hr B N p] = [(hr B N p, 0)] from rfl]; simp only [List.append_assoc]) (by rw [len3k]; omega) g2 h
        exact hx
    · rw [if_neg c] at h
      exact h c ω K' hω hK
theorem prdM {B : Nat → Nat} {N : Nat} {M0 : xMem} (hT : LTM B N M0) {rec : Option (Nat → Nat → xR)} {d : Nat} (hf : ∀ p z σ K post, K.length + σ.length ≤ p → p ≤ N → okZ σ → GB M0 post (facP B N rec p z) d σ K → PA M0 post p d σ K) {H : Nat} (hG : goodR N H (facP B N rec)) : ∀ p z σ K post, K.length + σ.length ≤ p → p ≤ N → ¬ isT (σ.headD 0) → okZ σ → GP B N M0 post (prdP B N rec p z) d σ K → PA M0 post p d σ K := by
  intro p z σ K post hs hp hσ h256 h
  have hN := hT.1
  refine hf p z σ K post hs hp h256 ?_
  unfold prdP at h
  match e : facP B N rec p z with
  | .inl f => rw [e] at h; exact h
  | .inr (q, s, k) =>
    rw [e] at h
    obtain ⟨-, g0, g1, g2, g3⟩ := hG _ _ _ _ _ e
    exact prLM hT hf hG (K := K) post hσ h256 240 q s k [] (K ++ k) (by omega) (fun c hc => by cases hc) (List.append_nil _) (by omega) g2 h
theorem mp_app (a b : List Nat) : mp (a ++ b) = mp a ++ mp b := List.map_append ..
theorem smLM {B : Nat → Nat} {N : Nat} {M0 : xMem} (hT : LTM B N M0) {rec : Option (Nat → Nat → xR)} {d : Nat} (hf : ∀ p z σ K post, K.length + σ.length ≤ p → p ≤ N → ¬ isT (σ.headD 0) → okZ σ → GP B N M0 post (prdP B N rec p z) d σ K → PA M0 post p d σ K) {H : Nat} (hG : goodR N H (prdP B N rec)) {z : Nat} {σ : List Nat} {K : List (Nat × Nat)} (post : xMem → Prop) (hσ : nopS σ) (h256 : okZ σ) : ∀ m p s k ω K', N ≤ p + m → ¬ isT (hr B N p) → (∀ c, c ∈ ω → isT c ∨ isPl c) → K' ++ mp ω = K ++ k → K.length + k.length + σ.length ≤ p → p ≤ N → GS B N M0 post (smL B N rec z m p s k) d σ K → PB M0 post p d (ω ++ σ) K' := by
  have hN := hT.1
  intro m
  induction m with
  | zero =>
    intro p s k ω K' hm hnt hω hK hs hp h
    exact h hnt (by show ¬ isPl (hr B N p); rw [hr_off (by omega)]; decide) ω K' hω hK
  | succ m ih =>
    intro p s k ω K' hm hnt hω hK hs hp h
    have hl := eq_len hK
    rw [smL] at h
    by_cases c : isPl (hr B N p)
    · rw [if_pos c] at h
      have hpl : p < N := hr_pos (B := B) (six_P c).2.2.2.2
      refine B_op hT (by omega) (Or.inr c) (fun c' hc' => by
        rcases hω c' hc' with q | q
        · exact Or.inl q
        · exact Or.inr ⟨c, q⟩) ⟨hσ.1, fun _ => hσ.2⟩ h256 ?_
      rw [hK]
      refine hf (p + 1) (z + s.length) (hr B N p :: σ) (K ++ k) post (by rw [List.length_append]; show _ + (σ.length + 1) ≤ p + 1; omega) (by omega) hnt (okZ_c (hr_256 hT p) h256) ?_
      match e : prdP B N rec (p + 1) (z + s.length) with
      | .inl f => rw [e] at h; exact h
      | .inr (q, s', k') =>
        rw [e] at h
        obtain ⟨-, g0, g1, g2, g3⟩ := hG _ _ _ _ _ e
        intro hnt' ω' K'' hω' hK''
        have hK2 : K'' ++ mp ω' = K ++ k ++ k' := hK''
        have hx := ih q (s ++ s' ++ [5 + six (hr B N p)]) (k ++ k' ++ [(hr B N p, 0)]) (ω' ++ [hr B N p]) K'' (by omega) hnt' (fun c' hc' => by
          rcases List.mem_append.mp hc' with y | y
          · exact Or.inl (hω' c' y)
          · rw [List.mem_singleton.mp y]; exact Or.inr c) (by rw [mp_app, ← List.append_assoc, hK2, show mp [hr B N p] = [(hr B N p, 0)] from rfl]; simp only [List.append_assoc]) (by rw [len3k]; omega) g2 h
        rw [List.append_assoc] at hx
        exact hx
    · rw [if_neg c] at h
      exact h hnt c ω K' hω hK
theorem prT {B : Nat → Nat} {N z : Nat} {rec : Option (Nat → Nat → xR)} : ∀ m p s k x, N ≤ p + m → prL B N rec z m p s k = .inr x → (∀ p z q s k, facP B N rec p z = .inr (q, s, k) → p < q) → ¬ isT (hr B N x.1) := by
  intro m
  induction m with
  | zero => intro p s k x hm h _; cases h; show ¬ isT (hr B N p); rw [hr_off (by omega)]; decide
  | succ m ih =>
    intro p s k x hm h hg
    rw [prL] at h
    by_cases c : isT (hr B N p)
    · rw [if_pos c] at h
      obtain ⟨q1, s1, k1, e1, e2⟩ := xb_r h
      have := hg _ _ _ _ _ e1
      exact ih _ _ _ _ (by omega) e2 hg
    · rw [if_neg c] at h; cases h; exact c
theorem sumRM {B : Nat → Nat} {N : Nat} {M0 : xMem} (hT : LTM B N M0) {rec : Option (Nat → Nat → xR)} {d : Nat} (hf : ∀ p z σ K post, K.length + σ.length ≤ p → p ≤ N → okZ σ → GB M0 post (facP B N rec p z) d σ K → PA M0 post p d σ K) {H : Nat} (hG : goodR N H (facP B N rec)) : SMs B N M0 (sumR B N rec) d := by
  intro p z σ K post hs hp hσ h256 h
  have hN := hT.1
  have hf2 := prdM hT hf hG
  have hG2 := prdG hG
  refine hf2 p z σ K post hs hp hσ.1 h256 ?_
  unfold sumR at h
  match e : prdP B N rec p z with
  | .inl f => rw [e] at h; exact h
  | .inr (q, s, k) =>
    rw [e] at h
    obtain ⟨-, g0, g1, g2, g3⟩ := hG2 _ _ _ _ _ e
    intro hnt ω K' hω hK
    exact smLM hT hf2 hG2 (K := K) post hσ h256 240 q s k ω K' (by omega) hnt (fun c hc => Or.inl (hω c hc)) hK (by omega) g2 h
theorem sumM {B : Nat → Nat} {N : Nat} {M0 : xMem} (hT : LTM B N M0) : ∀ g d, g + d = 6 → SMs B N M0 (sumP B N g) d := by
  intro g
  induction g with
  | zero =>
    intro d hd
    have hG : goodR N 1 (facP B N none) := facG (Nat.le_refl _) (fun r e => by cases e)
    exact sumRM hT (facM hT (rec := none) (d := d) (by omega) (fun _ => by omega) (fun r e => by cases e)) hG
  | succ g ih =>
    intro d hd
    have hG : goodR N (3 + 2 * g) (facP B N (some (sumP B N g))) := facG (by omega) (fun r e => by cases e; exact sumG g)
    refine sumRM hT (facM hT (rec := some (sumP B N g)) (d := d) (by omega) (fun e => by cases e) (fun r e => ?_)) hG
    cases e
    exact ⟨by omega, ⟨_, sumG g⟩, ih (d + 1) (by omega)⟩
/-- a whole value -/
theorem valM {B : Nat → Nat} {N : Nat} {M0 : xMem} (hT : LTM B N M0) {g d : Nat} (hgd : g + d = 6) {p z : Nat} {σ : List Nat} {K : List (Nat × Nat)} (post : xMem → Prop) (hs : K.length + σ.length ≤ p) (hp : p ≤ N) (hσ : nopS σ) (h91 : σ.headD 0 ≠ 91) (h256 : okZ σ) (h1 : ∀ f, sumP B N g p z = .inl f → ∀ M', MFx M0 f M' → post M') (h2 : ∀ q s k, sumP B N g p z = .inr (q, s, k) → hr B N q = 93 → ∀ M', MFx M0 (fw 1 q) M' → post M') (h3 : ∀ q s k, sumP B N g p z = .inr (q, s, k) → hr B N q ≠ 93 → ∀ M', MSx M0 q d σ (K ++ k) M' → post M') : ∀ M, MSx M0 p d σ K M → wX12_value M post := by
  intro M hM
  have hPA : PA M0 post p d σ K := by
    refine sumM hT g d hgd p z σ K post hs hp hσ h256 ?_
    match e : sumP B N g p z with
    | .inl f => exact h1 f e
    | .inr (q, s, k) =>
      obtain ⟨-, g0, g1, g2, g3⟩ := sumG (B := B) (N := N) g _ _ _ _ _ e
      intro nT nP ω K' hω hK
      have hK' : K' ++ mp ω = K ++ k := hK
      have hl := eq_len hK'
      by_cases c : hr B N q = 93
      · exact B_93 hT g2 (by omega) c hω hσ h91 h256 (h2 q s k e c)
      · exact B_exit hT g2 (by omega) ⟨nT, nP⟩ c hω hσ h256 (fun _ M' hM' => h3 q s k e c M' (by rw [hK'] at hM'; exact hM')) (fun y => absurd y h91)
  obtain ⟨n', n, h⟩ := hPA
  obtain ⟨b, hM⟩ := hM
  unfold wX12_value
  intro M1 e1
  have hM1 := MS_b hM 0
  rw [← e1] at hM1
  refine ⟨n' + 1, ?_⟩
  rw [wX12_value_7]; dsimp only
  rw [if_neg n10, isGoodM hM1, if_neg n10, hM1.1 0 36 (by decide) (by decide), g_same, if_pos rfl]
  exact ⟨n, h M1 ⟨0, hM1⟩⟩
