/-! law(), the reference reads conditions as they are -/
def okT (σ : List Nat) : Prop := σ.headD 0 = 33 ∨ σ.headD 0 = 40 ∨ σ.headD 0 = 38 ∨ σ.headD 0 = 124
theorem okT_n {σ : List Nat} (h : okT σ) : nopS σ ∧ σ.headD 0 ≠ 91 ∧ σ ≠ [] := by
  refine ⟨?_, ?_, fun q => ?_⟩
  · unfold nopS
    rcases h with q | q | q | q <;> rw [q] <;> decide
  · rcases h with q | q | q | q <;> rw [q] <;> decide
  · subst q
    rcases h with q | q | q | q <;> revert q <;> decide
def GT (B : Nat → Nat) (N : Nat) (M0 : xMem) (post : xMem → Prop) (r : xR) (d : Nat) (σ : List Nat) (K : List (Nat × Nat)) : Prop := match r with
  | .inl f => ∀ M', MFx M0 f M' → post M'
  | .inr x => (hr B N x.1 ≠ 93 → PE M0 post x.1 d σ (K ++ x.2.2)) ∧ (hr B N x.1 = 93 → ∀ M', MFx M0 (fw 1 x.1) M' → post M')
def GQ (B : Nat → Nat) (N : Nat) (M0 : xMem) (post : xMem → Prop) (r : xR) (d : Nat) (σ : List Nat) (K : List (Nat × Nat)) : Prop := match r with
  | .inl f => ∀ M', MFx M0 f M' → post M'
  | .inr x => (hr B N x.1 ≠ 93 → hr B N x.1 ≠ 38 → ∀ ω K', (∀ c, c ∈ ω → c = 38) → K' ++ mp ω = K ++ x.2.2 → PG M0 post x.1 d (ω ++ σ) K') ∧ (hr B N x.1 = 93 → ∀ M', MFx M0 (fw 1 x.1) M' → post M')
def GC (B : Nat → Nat) (N : Nat) (M0 : xMem) (post : xMem → Prop) (r : xR) (d : Nat) (σ : List Nat) (K : List (Nat × Nat)) : Prop := match r with
  | .inl f => ∀ M', MFx M0 f M' → post M'
  | .inr x => (hr B N x.1 ≠ 93 → hr B N x.1 ≠ 38 → hr B N x.1 ≠ 124 → ∀ ω K', (∀ c, c ∈ ω → c = 38 ∨ c = 124) → K' ++ mp ω = K ++ x.2.2 → PG M0 post x.1 d (ω ++ σ) K') ∧ (hr B N x.1 = 93 → ∀ M', MFx M0 (fw 1 x.1) M' → post M')
def TMs (B : Nat → Nat) (N : Nat) (M0 : xMem) (r : Nat → Nat → xR) (d : Nat) : Prop := ∀ p z σ K post, K.length + σ.length ≤ p → p ≤ N → okT σ → okZ σ → c33 σ ≤ d → GT B N M0 post (r p z) d σ K → PQ M0 post p d σ K
theorem prtLR {B : Nat → Nat} {N : Nat} {M0 : xMem} (hT : LTM B N M0) (h35 : gi M0 0 35 = 0) {r : Nat → Nat → xR} {d : Nat} (hf : TMs B N M0 r d) {H : Nat} (hG : goodB N H r) {z : Nat} {σ : List Nat} {K : List (Nat × Nat)} (post : xMem → Prop) (hσ : σ.headD 0 = 40 ∨ σ.headD 0 = 124) (h256 : okZ σ) : ∀ m p s k ω K', N ≤ p + m → (∀ c, c ∈ ω → c = 38) → K' ++ mp ω = K ++ k → K.length + k.length + σ.length ≤ p → p ≤ N → GQ B N M0 post (prtL B N r z m p s k) d σ K → (hr B N p ≠ 93 → PG M0 post p d (ω ++ σ) K') ∧ (hr B N p = 93 → ∀ M', MFx M0 (fw 1 p) M' → post M') := by
  have hN := hT.1
  intro m
  induction m with
  | zero =>
    intro p s k ω K' hm hω hK hs hp h
    exact ⟨fun n93 => h.1 n93 (by show hr B N p ≠ 38; rw [hr_off (by omega)]; decide) ω K' hω hK, h.2⟩
  | succ m ih =>
    intro p s k ω K' hm hω hK hs hp h
    have hl := eq_len hK
    rw [prtL] at h
    by_cases c : hr B N p = 38
    rotate_left
    · rw [if_neg c] at h
      exact ⟨fun n93 => h.1 n93 c ω K' hω hK, h.2⟩
    refine ⟨fun _ => ?_, fun e93 => by omega⟩
    rw [if_pos c] at h
    have hpl : p < N := hr_pos (B := B) (by omega)
    refine G_op hT h35 (by omega) (Or.inl c) (fun c' hc' => Or.inl (hω c' hc')) ⟨by rcases hσ with q | q <;> rw [q] <;> decide, fun y => by omega⟩ h256 ?_
    rw [hK, c]
    refine hf (p + 1) (z + s.length + 1) (38 :: σ) (K ++ k) post (by rw [List.length_append]; show _ + (σ.length + 1) ≤ p + 1; omega) (by omega) (Or.inr (Or.inr (Or.inl rfl))) (okZ_c (by decide) h256) (Nat.zero_le _) ?_
    match e : r (p + 1) (z + s.length + 1) with
    | .inl f => rw [e] at h; exact h
    | .inr (q, s', k') =>
      rw [e] at h
      obtain ⟨-, g0, g1, g2, g3⟩ := hG _ _ _ _ _ e
      have hx := ih q _ (k ++ k' ++ [(38, 0)]) [38] (K ++ k ++ k') (by omega) (fun c' hc' => List.mem_singleton.mp hc') (by rw [show mp [38] = [(38, 0)] from rfl]; simp only [List.append_assoc]) (by rw [len3k]; omega) g2 h
      refine ⟨fun n93 => E_1 h35 (by show σ.length + 1 ≤ 240; omega) (okZ_c (by decide) h256) (show (38 : Nat) ≠ 33 by decide) (hx.1 n93), hx.2⟩
theorem prtR {B : Nat → Nat} {N : Nat} {M0 : xMem} (hT : LTM B N M0) (h35 : gi M0 0 35 = 0) {r : Nat → Nat → xR} {d : Nat} (hf : TMs B N M0 r d) {H : Nat} (hG : goodB N H r) : ∀ p z σ K post, K.length + σ.length ≤ p → p ≤ N → (σ.headD 0 = 40 ∨ σ.headD 0 = 124) → okZ σ → GQ B N M0 post (prtP B N r p z) d σ K → PQ M0 post p d σ K := by
  intro p z σ K post hs hp hσ h256 h
  have hN := hT.1
  refine hf p z σ K post hs hp (by rcases hσ with q | q <;> unfold okT <;> rw [q] <;> decide) h256 (by
    match σ, hσ with
    | [], _ => exact Nat.zero_le _
    | c :: σ, hσ =>
      have : c = 40 ∨ c = 124 := hσ
      unfold c33
      rw [if_neg (by omega)]
      exact Nat.zero_le _) ?_
  unfold prtP at h
  match e : r p z with
  | .inl f => rw [e] at h; exact h
  | .inr (q, s, k) =>
    rw [e] at h
    obtain ⟨-, g0, g1, g2, g3⟩ := hG _ _ _ _ _ e
    have hx := prtLR hT h35 hf hG (K := K) post hσ h256 240 q s k [] (K ++ k) (by omega) (fun c hc => by cases hc) (List.append_nil _) (by omega) g2 h
    exact ⟨fun n93 => E_1 h35 (by omega) h256 (by rcases hσ with q | q <;> rw [q] <;> decide) (hx.1 n93), hx.2⟩
theorem cnLR {B : Nat → Nat} {N : Nat} {M0 : xMem} (hT : LTM B N M0) (h35 : gi M0 0 35 = 0) {r : Nat → Nat → xR} {d : Nat} (hf : ∀ p z σ K post, K.length + σ.length ≤ p → p ≤ N → (σ.headD 0 = 40 ∨ σ.headD 0 = 124) → okZ σ → GQ B N M0 post (prtP B N r p z) d σ K → PQ M0 post p d σ K) {H : Nat} (hG : goodB N H (prtP B N r)) {z : Nat} {σ : List Nat} {K : List (Nat × Nat)} (post : xMem → Prop) (hσ : σ.headD 0 = 40) (h256 : okZ σ) : ∀ m p s k ω K', N ≤ p + m → hr B N p ≠ 38 → (∀ c, c ∈ ω → c = 38 ∨ c = 124) → K' ++ mp ω = K ++ k → K.length + k.length + σ.length ≤ p → p ≤ N → GC B N M0 post (cnL B N r z m p s k) d σ K → (hr B N p ≠ 93 → PG M0 post p d (ω ++ σ) K') ∧ (hr B N p = 93 → ∀ M', MFx M0 (fw 1 p) M' → post M') := by
  have hN := hT.1
  intro m
  induction m with
  | zero =>
    intro p s k ω K' hm h38 hω hK hs hp h
    exact ⟨fun n93 => h.1 n93 h38 (by show hr B N p ≠ 124; rw [hr_off (by omega)]; decide) ω K' hω hK, h.2⟩
  | succ m ih =>
    intro p s k ω K' hm h38 hω hK hs hp h
    have hl := eq_len hK
    rw [cnL] at h
    by_cases c : hr B N p = 124
    rotate_left
    · rw [if_neg c] at h
      exact ⟨fun n93 => h.1 n93 h38 c ω K' hω hK, h.2⟩
    refine ⟨fun _ => ?_, fun e93 => by omega⟩
    rw [if_pos c] at h
    have hpl : p < N := hr_pos (B := B) (by omega)
    refine G_op hT h35 (by omega) (Or.inr c) (fun c' hc' => by
      rcases hω c' hc' with y | y
      · exact Or.inl y
      · exact Or.inr ⟨c, y⟩) ⟨by rw [hσ]; decide, fun _ => by rw [hσ]; decide⟩ h256 ?_
    rw [hK, c]
    refine hf (p + 1) (z + s.length + 1) (124 :: σ) (K ++ k) post (by rw [List.length_append]; show _ + (σ.length + 1) ≤ p + 1; omega) (by omega) (Or.inr rfl) (okZ_c (by decide) h256) ?_
    match e : prtP B N r (p + 1) (z + s.length + 1) with
    | .inl f => rw [e] at h; exact h
    | .inr (q, s', k') =>
      rw [e] at h
      obtain ⟨-, g0, g1, g2, g3⟩ := hG _ _ _ _ _ e
      refine ⟨fun n93 n38 ω' K'' hω' hK'' => ?_, fun e93 => ?_⟩
      · have hK2 : K'' ++ mp ω' = K ++ k ++ k' := hK''
        have hx := ih q _ (k ++ k' ++ [(124, 0)]) (ω' ++ [124]) K'' (by omega) n38 (fun c' hc' => by
          rcases List.mem_append.mp hc' with y | y
          · exact Or.inl (hω' c' y)
          · exact Or.inr (List.mem_singleton.mp y)) (by rw [mp_app, ← List.append_assoc, hK2, show mp [124] = [(124, 0)] from rfl]; simp only [List.append_assoc]) (by rw [len3k]; omega) g2 h
        have hx1 := hx.1 n93
        rw [List.append_assoc] at hx1
        exact hx1
      · have e93' : hr B N q = 93 := e93
        exact (ih q _ (k ++ k' ++ [(124, 0)]) [124] (K ++ k ++ k') (by omega) (by omega) (fun c' hc' => Or.inr (List.mem_singleton.mp hc')) (by rw [show mp [124] = [(124, 0)] from rfl]; simp only [List.append_assoc]) (by rw [len3k]; omega) g2 h).2 e93
theorem prt38 {B : Nat → Nat} {N z : Nat} {r : Nat → Nat → xR} : ∀ m p s k x, N ≤ p + m → prtL B N r z m p s k = .inr x → (∀ p z q s k, r p z = .inr (q, s, k) → p < q) → hr B N x.1 ≠ 38 := by
  intro m
  induction m with
  | zero => intro p s k x hm h _; cases h; show hr B N p ≠ 38; rw [hr_off (by omega)]; decide
  | succ m ih =>
    intro p s k x hm h hg
    rw [prtL] at h
    by_cases c : hr B N p = 38
    · rw [if_pos c] at h
      obtain ⟨q1, s1, k1, e1, e2⟩ := xb_r h
      have := hg _ _ _ _ _ e1
      exact ih _ _ _ _ (by omega) e2 hg
    · rw [if_neg c] at h; cases h; exact c
theorem cndR {B : Nat → Nat} {N : Nat} {M0 : xMem} (hT : LTM B N M0) (h35 : gi M0 0 35 = 0) {r : Nat → Nat → xR} {d : Nat} (hf : TMs B N M0 r d) {H : Nat} (hG : goodB N H r) : ∀ p z σ K post, K.length + σ.length ≤ p → p ≤ N → σ.headD 0 = 40 → okZ σ → GC B N M0 post (cndP B N r p z) d σ K → PQ M0 post p d σ K := by
  intro p z σ K post hs hp hσ h256 h
  have hN := hT.1
  have hf2 := prtR hT h35 hf hG
  have hG2 := prtG (B := B) hG
  refine hf2 p z σ K post hs hp (Or.inl hσ) h256 ?_
  unfold cndP at h
  match e : prtP B N r p z with
  | .inl f => rw [e] at h; exact h
  | .inr (q, s, k) =>
    rw [e] at h
    obtain ⟨-, g0, g1, g2, g3⟩ := hG2 _ _ _ _ _ e
    refine ⟨fun n93 n38 ω K' hω hK => ?_, fun e93 => ?_⟩
    · exact (cnLR hT h35 hf2 hG2 (K := K) post hσ h256 240 q s k ω K' (by omega) n38 (fun c hc => Or.inl (hω c hc)) hK (by omega) g2 h).1 n93
    · have e93' : hr B N q = 93 := e93
      exact (cnLR hT h35 hf2 hG2 (K := K) post hσ h256 240 q s k [] (K ++ k) (by omega) (by omega) (fun c hc => by cases hc) (List.append_nil _) (by omega) g2 h).2 e93
theorem tstRR {B : Nat → Nat} {N : Nat} {M0 : xMem} (hT : LTM B N M0) (h35 : gi M0 0 35 = 0) {rec : Option (Nat → Nat → xR)} {g d : Nat} (hgd : g + d = 6) (w2 : rec = none → d = 6) (w3 : ∀ r, rec = some r → d < 6 ∧ (∃ H, goodB N H r) ∧ TMs B N M0 r (d + 1)) : TMs B N M0 (tstR B N rec (sumP B N g)) d := by
  intro p z σ K post hs hp hσ h256 h33 h
  have hN := hT.1
  obtain ⟨hnop, h91, hne⟩ := okT_n hσ
  have hsG := sumG (B := B) (N := N) g
  unfold tstR at h
  by_cases c0 : hr B N p = 33
  · have hpl : p < N := hr_pos (B := B) (by omega)
    rw [if_pos c0] at h
    cases rec with
    | none => exact C_openF hT hs (Or.inl c0) (w2 rfl) h
    | some r =>
      obtain ⟨d6, ⟨H, hG⟩, hr'⟩ := w3 r rfl
      refine C_open hT hs (Or.inl c0) d6 ?_
      rw [c0]
      refine hr' (p + 1) z (33 :: σ) K post (by show K.length + (σ.length + 1) ≤ p + 1; omega) (by omega) (Or.inl rfl) (okZ_c (by decide) h256) (by show c33 σ + 1 ≤ d + 1; omega) ?_
      dsimp only at h
      match e : r (p + 1) z with
      | .inl f => rw [e] at h; exact h
      | .inr (q, s, k) =>
        rw [e] at h
        obtain ⟨-, g0, g1, g2, g3⟩ := hG _ _ _ _ _ e
        refine ⟨fun n93 => E_2 (by omega) (by rw [List.length_append]; show K.length + k.length < 240; omega) ?_, h.2⟩
        have := h.1 n93
        rw [List.append_assoc]
        exact this
  rw [if_neg c0] at h
  by_cases c1 : hr B N p = 40
  · have hpl : p < N := hr_pos (B := B) (by omega)
    rw [if_pos c1] at h
    cases rec with
    | none => exact C_openF hT hs (Or.inr c1) (w2 rfl) h
    | some r =>
      obtain ⟨d6, ⟨H, hG⟩, hr'⟩ := w3 r rfl
      have hG2 := cndG (B := B) hG
      refine C_open hT hs (Or.inr c1) d6 ?_
      rw [c1]
      refine cndR hT h35 hr' hG (p + 1) z (40 :: σ) K post (by show K.length + (σ.length + 1) ≤ p + 1; omega) (by omega) rfl (okZ_c (by decide) h256) ?_
      dsimp only at h
      match e : cndP B N r (p + 1) z with
      | .inl f => rw [e] at h; exact h
      | .inr (q, s, k) =>
        rw [e] at h
        obtain ⟨-, g0, g1, g2, g3⟩ := hG2 _ _ _ _ _ e
        have h' : GT B N M0 post (if hr B N q = 41 then .inr (q + 1, s, k) else .inl (fw 1 q)) d σ K := h
        refine ⟨fun n93 n38 n124 ω K' hω hK => ?_, fun e93 => ?_⟩
        · have hK' : K' ++ mp ω = K ++ k := hK
          have hl := eq_len hK'
          by_cases c2 : hr B N q = 41
          · rw [if_pos c2] at h'
            have hql : q < N := hr_pos (B := B) (by omega)
            refine G_close hT h35 (by show _ + (σ.length + 1) ≤ q; omega) c2 hω h256 hne ?_
            rw [hK']
            by_cases c3 : hr B N (q + 1) = 93
            · exact PE_93 hT h35 (by omega) (by rw [c3]; decide) (h'.2 c3) σ d _ (by rw [List.length_append]; omega) h256 h33
            · exact h'.1 c3
          · rw [if_neg c2] at h'
            exact G_bad hT g2 ⟨n38, n124, c2⟩ h'
        · have e93' : hr B N q = 93 := e93
          rw [if_neg (by omega)] at h'
          exact h'
  rw [if_neg c1] at h
  -- a comparison
  have F43 : ∀ f, (∀ M', MFx M0 f M' → post M') → ∀ M', MFx M0 f M' → wX12_pieceOfC_43 (fun M6 => wX12_condition_59 (wX12_condition_37 post (0 + 1)) post 1 M6) M' := fun f hp M' hM' => p43F hM' (c59F hp hM' 0 1)
  match e : sumP B N g p z with
  | .inl f =>
    rw [e] at h
    refine C_val hT hp ⟨c0, c1⟩ 1 (valM hT hgd (z := z) _ hs hp hnop h91 h256 (fun f' e' => ?_) (fun q s k e' => ?_) (fun q s k e' => ?_))
    · rw [e] at e'; cases e'; exact F43 f h
    · rw [e] at e'; cases e'
    · rw [e] at e'; cases e'
  | .inr (q, s, k) =>
    rw [e] at h
    obtain ⟨-, g0, g1, g2, g3⟩ := hsG _ _ _ _ _ e
    have hq256 := hr_256 hT q
    have h' : GT B N M0 post (if isCm (hr B N q) then xb (sumP B N g (q + 1) (z + s.length)) (fun q' s' k' => .inr (q', s ++ s' ++ [5 + six (hr B N q)], k ++ k' ++ [(hr B N q, 0)])) else .inl (fw 1 q)) d σ K := h
    by_cases c2 : isCm (hr B N q)
    rotate_left
    · rw [if_neg c2] at h'
      refine C_val hT hp ⟨c0, c1⟩ 1 (valM hT hgd (z := z) _ hs hp hnop h91 h256 (fun f' e' => ?_) (fun q' s' k' e' _ => ?_) (fun q' s' k' e' _ => ?_))
      · rw [e] at e'; cases e'
      · rw [e] at e'; cases e'; exact F43 _ h'
      · rw [e] at e'; cases e'
        intro M' hM'
        obtain ⟨b, hM'⟩ := hM'
        have hT' := LTM_36 hT b
        unfold wX12_pieceOfC_43
        rw [isGoodM hM', if_neg n10, hreM hT' g2 hM'.1 hM'.2.1, isCompared_n hq256, b2i_f c2, if_pos rfl, hM'.2.1]
        exact wrgM hM' 1 (fwL _ (by omega)).1.1.1 _ (fun M'' hM'' => c59F h' ⟨b, hM''⟩ 0 1)
    rw [if_pos c2] at h'
    obtain ⟨t1, -, -, -, -, t5⟩ := six_C c2
    have hql : q < N := hr_pos (B := B) t5
    have n93q : hr B N q ≠ 93 := by rcases c2 with y | y | y <;> rw [y] <;> decide
    have hcn : nopS (hr B N q :: σ) ∧ (hr B N q :: σ).headD 0 ≠ 91 := by
      show (¬ isT (hr B N q) ∧ ¬ isPl (hr B N q)) ∧ hr B N q ≠ 91
      rcases c2 with y | y | y <;> rw [y] <;> decide
    have hzc : okZ (hr B N q :: σ) := okZ_c hq256 h256
    -- what follows the first value, for some fuel
    have first : ∀ n', (∀ M', MSx M0 (q + 1) d (hr B N q :: σ) (K ++ k) M' → wX12_value M' (fun M10 => wX12_isGood M10 (fun r12 M11 => if r12 = 0 then wX12_condition_59 (wX12_condition_37 post n') post 1 M11 else wX12_top M11 (fun r15 M14 => wX12_emit r15 0 M14 (fun M16 => ∀ M17 : xMem, M17 = si M16 0 9 ((gi M16 0 9) - 1) → wX12_ends M17 (fun M18 => wX12_condition_59 (wX12_condition_37 post n') post 1 M18)))))) → PQ M0 post p d σ K := by
      intro n' hv
      refine C_val hT hp ⟨c0, c1⟩ n' (valM hT hgd (z := z) _ hs hp hnop h91 h256 (fun f' e' => ?_) (fun q' s' k' e' e93 => ?_) (fun q' s' k' e' _ => ?_))
      · rw [e] at e'; cases e'
      · rw [e] at e'; cases e'; exact absurd e93 n93q
      · rw [e] at e'; cases e'
        intro M' hM'
        obtain ⟨b, hM'⟩ := hM'
        have hT' := LTM_36 hT b
        unfold wX12_pieceOfC_43
        rw [isGoodM hM', if_neg n10, hreM hT' g2 hM'.1 hM'.2.1, isCompared_n hq256, b2i_t c2, if_neg n10]
        exact putsM (by omega) hM' _ _ (fun M'' hM'' => hv M'' ⟨b, hM''⟩)
    have hs2 : (K ++ k).length + (hr B N q :: σ).length ≤ q + 1 := by rw [List.length_append]; show _ + (σ.length + 1) ≤ q + 1; omega
    have F2 : ∀ f, (∀ M', MFx M0 f M' → post M') → ∀ M', MFx M0 f M' → wX12_isGood M' (fun r12 M11 => if r12 = 0 then wX12_condition_59 (wX12_condition_37 post (0 + 1)) post 1 M11 else wX12_top M11 (fun r15 M14 => wX12_emit r15 0 M14 (fun M16 => ∀ M17 : xMem, M17 = si M16 0 9 ((gi M16 0 9) - 1) → wX12_ends M17 (fun M18 => wX12_condition_59 (wX12_condition_37 post (0 + 1)) post 1 M18)))) := by
      intro f hp M' hM'
      obtain ⟨b, h1⟩ := id hM'
      rw [isGoodF h1, if_pos rfl]
      exact c59F hp hM' 0 1
    match e2 : sumP B N g (q + 1) (z + s.length) with
    | .inl f =>
      rw [e2] at h'
      refine first 1 (valM hT hgd (z := z + s.length) _ hs2 (by omega) hcn.1 hcn.2 hzc (fun f' e' => ?_) (fun q' s' k' e' => ?_) (fun q' s' k' e' => ?_))
      · rw [e2] at e'; cases e'; exact F2 f h'
      · rw [e2] at e'; cases e'
      · rw [e2] at e'; cases e'
    | .inr (q2, s2, k2) =>
      rw [e2] at h'
      obtain ⟨-, g4, g5, g6, g7⟩ := hsG _ _ _ _ _ e2
      have h2 : (hr B N q2 ≠ 93 → PE M0 post q2 d σ (K ++ (k ++ k2 ++ [(hr B N q, 0)]))) ∧ (hr B N q2 = 93 → ∀ M', MFx M0 (fw 1 q2) M' → post M') := h'
      by_cases c3 : hr B N q2 = 93
      · refine first 1 (valM hT hgd (z := z + s.length) _ hs2 (by omega) hcn.1 hcn.2 hzc (fun f' e' => ?_) (fun q' s' k' e' _ => ?_) (fun q' s' k' e' n93 => ?_))
        · rw [e2] at e'; cases e'
        · rw [e2] at e'; cases e'; exact F2 _ (h2.2 c3)
        · rw [e2] at e'; cases e'; exact absurd c3 n93
      · obtain ⟨n', hE⟩ := h2.1 c3
        obtain ⟨n, hE⟩ := hE (fun M18 => wX12_condition_59 (wX12_condition_37 post n') post 1 M18) (fun M18 _ _ hx => hx 1)
        refine first n' (valM hT hgd (z := z + s.length) _ hs2 (by omega) hcn.1 hcn.2 hzc (fun f' e' => ?_) (fun q' s' k' e' e93 => ?_) (fun q' s' k' e' _ => ?_))
        · rw [e2] at e'; cases e'
        · rw [e2] at e'; cases e'; exact absurd e93 c3
        · rw [e2] at e'; cases e'
          intro M' hM'
          obtain ⟨b, hM'⟩ := hM'
          rw [isGoodM hM', if_neg n10, topM (σ := hr B N q :: σ) (by show σ.length + 1 ≤ 240; omega) hM']
          refine emitM (c := hr B N q) (v := 0) (by rw [List.length_append, List.length_append]; omega) hM' _ (fun M16 hM16 => ?_)
          intro M17 e17
          have h17 := MS_pop hM16
          rw [← e17] at h17
          refine ⟨n, hE M17 ⟨b, ?_⟩⟩
          rw [show K ++ (k ++ k2 ++ [(hr B N q, 0)]) = K ++ k ++ k2 ++ [(hr B N q, 0)] by simp only [List.append_assoc]]
          exact h17
theorem tstM {B : Nat → Nat} {N : Nat} {M0 : xMem} (hT : LTM B N M0) (h35 : gi M0 0 35 = 0) : ∀ g d, g + d = 6 → TMs B N M0 (tstP B N g) d := by
  intro g
  induction g with
  | zero =>
    intro d hd
    exact tstRR hT h35 (rec := none) hd (fun _ => by omega) (fun r e => by cases e)
  | succ g ih =>
    intro d hd
    refine tstRR hT h35 (rec := some (tstP B N g)) hd (fun e => by cases e) (fun r e => ?_)
    cases e
    exact ⟨by omega, ⟨_, tstG g⟩, ih (d + 1) (by omega)⟩
/-- a whole condition -/
theorem condM {B : Nat → Nat} {N : Nat} {M0 : xMem} (hT0 : LTM B N M0) {p z : Nat} (hp : p ≤ N) {K : List (Nat × Nat)} (hK : K.length + 1 ≤ p) (post : xMem → Prop) (h0 : hr B N p ≠ 40 → ∀ M', MFx (si M0 0 35 0) (fw 1 p) M' → post M') (h1 : hr B N p = 40 → ∀ f, cndP B N (tstP B N 5) (p + 1) z = .inl f → ∀ M', MFx (si M0 0 35 0) f M' → post M') (h2 : hr B N p = 40 → ∀ q s k, cndP B N (tstP B N 5) (p + 1) z = .inr (q, s, k) → hr B N q ≠ 41 → ∀ M', MFx (si M0 0 35 0) (fw 1 q) M' → post M') (h3 : hr B N p = 40 → ∀ q s k, cndP B N (tstP B N 5) (p + 1) z = .inr (q, s, k) → hr B N q = 41 → ∀ M', MSx (si (si M0 0 35 0) 0 35 1) (q + 1) 0 [] (K ++ k) M' → post M') : ∀ M, MSx M0 p 0 [] K M → wX12_condition M post := by
  intro M hM
  have hN := hT0.1
  have hc256 := hr_256 hT0 p
  have hT : LTM B N (si M0 0 35 0) := ⟨hT0.1, fun i hi => ⟨(hT0.2.1 i hi).1, by rw [g_c (by decide)]; exact (hT0.2.1 i hi).2⟩, by rw [g_i (by decide)]; exact hT0.2.2⟩
  have h35 : gi (si M0 0 35 0) 0 35 = 0 := g_same _ _ _ _
  obtain ⟨b, hM⟩ := hM
  unfold wX12_condition
  intro M1 e1
  have hM1 : MS (si (si M0 0 35 0) 0 36 b) p 0 [] K M1 := by
    obtain ⟨a1, a2, a3, a4, a5, a6, a7, a8⟩ := hM
    refine ⟨fun c i y1 y2 => ?_, ?_, ?_, ?_, fun i hi => ?_, ?_, ?_, trivial⟩
    · rw [e1, gi_si, gi_si, gi_si]
      by_cases w : c = 0 ∧ i = 35
      · rw [if_pos w, if_neg (by omega), if_pos w]
      · rw [if_neg w, if_neg w, a1 c i y1 y2, gi_si]
    · rw [e1, g_i (by decide)]; exact a2
    · rw [e1, g_i (by decide)]; exact a3
    · rw [e1, g_i (by decide)]; exact a4
    · rw [e1, g_c (by decide), g_c (by decide)]; exact a5 i hi
    · rw [e1, g_i (by decide)]; exact a6
    · rw [e1, g_i (by decide)]; exact a7
  have hTb := LTM_36 hT b
  rw [hreM hTb hp hM1.1 hM1.2.1]
  by_cases c0 : hr B N p = 40
  rotate_left
  · rw [if_neg (show ¬ nI (hr B N p) = 40 from fun y => c0 ((nI_eq (b := 40) (by omega) (by decide)).mp y)), hM1.2.1]
    refine wrgM hM1 1 (fwL _ (by omega)).1.1.1 _ (fun M' hM' => ?_)
    unfold wX12_condition_23
    rw [isGoodF hM', if_pos rfl]
    exact h0 c0 M' ⟨b, hM'⟩
  rw [if_pos (show nI (hr B N p) = 40 by rw [c0]; rfl)]
  have hpl : p < N := hr_pos (B := B) (by omega)
  have hG := tstG (B := B) (N := N) 5
  have hPQ : PQ (si M0 0 35 0) post (p + 1) 1 [40] K := by
    refine cndR hT h35 (tstM hT h35 5 1 rfl) hG (p + 1) z [40] K post (by show _ + 1 ≤ p + 1; omega) (by omega) rfl (okZ_c (by decide) (fun c hc => by cases hc)) ?_
    match e : cndP B N (tstP B N 5) (p + 1) z with
    | .inl f => exact h1 c0 f e
    | .inr (q, s, k) =>
      obtain ⟨-, g0, g1, g2, g3⟩ := cndG (B := B) hG _ _ _ _ _ e
      refine ⟨fun n93 n38 n124 ω K' hω hK => ?_, fun e93 => ?_⟩
      · have hK' : K' ++ mp ω = K ++ k := hK
        have hl := eq_len hK'
        by_cases c2 : hr B N q = 41
        · refine G_last hT (by show _ ≤ q; omega) c2 hω (fun M' hM' => h3 c0 q s k e c2 M' (by rw [hK'] at hM'; exact hM'))
        · exact G_bad hT g2 ⟨n38, n124, c2⟩ (h2 c0 q s k e c2)
      · have e93' : hr B N q = 93 := e93
        exact h2 c0 q s k e (by omega)
  obtain ⟨n', n, hPQ⟩ := hPQ
  unfold wX12_condition_23
  rw [isGoodM hM1, if_neg n10]
  refine opensM hTb hpl (by decide) (by decide) hM1 _ (fun M4 hM4 => ?_)
  rw [c0] at hM4
  refine ⟨n' + 1, ?_⟩
  rw [wX12_condition_37]; dsimp only
  rw [isGoodM hM4, if_neg n10, x35 h35 hM4, if_pos rfl, if_neg n10]
  exact ⟨n, hPQ M4 ⟨b, hM4⟩⟩
