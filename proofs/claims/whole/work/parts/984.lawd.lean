/-! law(), the class's sums and conditions -/
def SPs (C0 : xMem) (N : Nat) (r : Nat → Nat → xR) (d : Nat) (w : Int32 → xMem → (xMem → Prop) → Prop) : Prop := ∀ p S C post, GSt C0 p S C → p ≤ N → S.length ≤ p → (∀ C', OUT C0 S (r p S.length) C' → post C') → w (nI d) C post
def FPs (C0 : xMem) (w : Int32 → xMem → (xMem → Prop) → Prop) : Prop := ∀ f C a post, FSt C0 f C → (∀ C', FSt C0 f C' → post C') → w a C post
def RCs (C0 : xMem) (N : Nat) (rec : Option (Nat → Nat → xR)) (d : Nat) (w : Int32 → xMem → (xMem → Prop) → Prop) : Prop := FPs C0 w ∧ (rec = none → d = 6) ∧ ∀ r, rec = some r → d < 6 ∧ (∃ H, goodR N H r) ∧ SPs C0 N r (d + 1) w
theorem facC {B : Nat → Nat} {N : Nat} {C0 : xMem} (hT : LTC B N C0) {rec : Option (Nat → Nat → xR)} {d : Nat} (hd : d ≤ 6) {w : Int32 → xMem → (xMem → Prop) → Prop} (hw : RCs C0 N rec d w) : SPs C0 N (facP B N rec) d (wX6_readFactor w) := by
  intro p S C post hC hp hS h
  have hN := hT.1
  obtain ⟨w1, w2, w3⟩ := hw
  unfold wX6_readFactor
  rw [if_pos hC.2.2.1]
  refine placeL hT hp hC sx_2 (by decide) _ ?_
  refine signL hT hp hC _ ?_
  have e91 := sgn_is (B := B) (N := N) (p := p) (c := 91) (fun i hi => (hT.2.1 i hi).1) (by decide) (by decide)
  unfold facP at h
  by_cases c0 : hr B N p = 91
  · have hpl : p < N := hr_pos (B := B) (by omega)
    rw [if_pos c0] at h
    rw [if_pos (show sgn B N p = 91 from e91.mpr c0)]
    cases rec with
    | none =>
      have d6 := w2 rfl
      refine openG hN hp (by omega) hC hd _ (fun q => absurd q (by omega)) (fun _ C1 hF => ?_)
      refine w1 _ _ _ _ hF (fun C2 hF2 => ?_)
      exact takeF hT hF2 _ _ (fun C3 hF3 => h C3 hF3)
    | some r =>
      obtain ⟨d6, ⟨H, hG⟩, hr'⟩ := w3 r rfl
      refine openG hN hp (by omega) hC hd _ (fun _ C1 hC1 => ?_) (fun q => absurd q (by omega))
      rw [nI_1]
      refine hr' _ _ _ _ hC1 (by omega) (by omega) (fun C2 hO => ?_)
      dsimp only at h
      match e : r (p + 1) S.length with
      | .inl f =>
        rw [e] at h hO
        exact takeF hT hO _ _ (fun C3 hF3 => h C3 hF3)
      | .inr (q, s, k) =>
        rw [e] at h hO
        obtain ⟨-, -, g1, g2, g3⟩ := hG _ _ _ _ _ e
        have hO' : GSt C0 q (S ++ s) C2 := hO
        have h' : ∀ C', OUT C0 S (if hr B N q = 93 then .inr (q + 1, s, k) else .inl (fw 1 q)) C' → post C' := h
        refine takeG (c := 93) hT g2 (by rw [List.length_append]; omega) hO' (by decide) (by decide) _ (fun z C3 hC3 => ?_) (fun z C3 hF3 => ?_)
        · rw [if_pos z] at h'; exact h' C3 hC3
        · rw [if_neg z] at h'; exact h' C3 hF3
  rw [if_neg c0] at h
  rw [if_neg (show ¬ sgn B N p = 91 from fun z => c0 (e91.mp z))]
  by_cases c1 : lix (hr B N p) < 12
  · have hpl : p < N := hr_pos (B := B) (fun q => by rw [q] at c1; revert c1; decide)
    rw [if_pos c1] at h
    rw [show pl2 (hr B N p) = nI (lix (hr B N p)) from if_pos c1, if_neg (nI_pos (by omega))]
    refine stepG hC (by omega) (sw_let _ c1) _ (fun C1 hC1 => ?_)
    intro M10 e10
    subst e10
    exact h _ (GSt_at hC1 (by rw [hC1.2.1, nI_1]))
  rw [if_neg c1] at h
  rw [show pl2 (hr B N p) = -1 from if_neg c1, if_pos (by decide)]
  refine numC hT hp hS hC _ (fun z C1 hF => ?_) (fun z C1 hF => ?_) (fun z z' C1 hC1 => ?_)
  · rw [if_pos z] at h; exact h C1 hF
  · rw [if_neg (by omega), if_pos z] at h; exact h C1 hF
  · rw [if_neg z, if_neg z'] at h; exact h C1 hC1
theorem facF {C0 : xMem} (w : Int32 → xMem → (xMem → Prop) → Prop) : FPs C0 (wX6_readFactor w) := by
  intro f C a post hF h
  unfold wX6_readFactor
  rw [if_neg (FSt_ne hF)]
  exact h _ hF
theorem pl3_t {c : Nat} (h : isT c) : ¬ pl3 c < 0 := by rcases h with q | q | q <;> subst q <;> decide
theorem pl3_f {c : Nat} (h : ¬ isT c) : pl3 c < 0 := by unfold pl3; rw [if_neg h]; decide
theorem pl5_t {c : Nat} (h : isPl c) : ¬ pl5 c < 0 := by rcases h with q | q <;> subst q <;> decide
theorem pl5_f {c : Nat} (h : ¬ isPl c) : pl5 c < 0 := by unfold pl5; rw [if_neg h]; decide
theorem pl6_t {c : Nat} (h : isCm c) : 0 ≤ pl6 c := by rcases h with q | q | q <;> subst q <;> decide
theorem pl6_f {c : Nat} (h : ¬ isCm c) : ¬ 0 ≤ pl6 c := by unfold pl6; rw [if_neg h]; decide
theorem prF {C0 : xMem} {w : Int32 → xMem → (xMem → Prop) → Prop} {f : Int32} {C : xMem} (hF : FSt C0 f C) (post : xMem → Prop) (h : post C) (m : Nat) (a b : Int32) : wX6_readProduct_7 w post (m + 1) a b C := by
  rw [wX6_readProduct_7]; dsimp only
  by_cases q : 240 ≤ b
  · rw [if_pos q]; exact h
  · rw [if_neg q, if_neg (FSt_ne hF)]; exact h
theorem smF' {C0 : xMem} {w : Int32 → xMem → (xMem → Prop) → Prop} {f : Int32} {C : xMem} (hF : FSt C0 f C) (post : xMem → Prop) (h : post C) (m : Nat) (a b : Int32) : wX6_readSum_at_7 w post (m + 1) a b C := by
  rw [wX6_readSum_at_7]; dsimp only
  by_cases q : 240 ≤ b
  · rw [if_pos q]; exact h
  · rw [if_neg q, if_neg (FSt_ne hF)]; exact h
theorem l240 : (240 : Int32) ≤ nI 240 := by decide
theorem prLC {B : Nat → Nat} {N : Nat} {C0 : xMem} (hT : LTC B N C0) {rec : Option (Nat → Nat → xR)} {d : Nat} {w : Int32 → xMem → (xMem → Prop) → Prop} (hf : SPs C0 N (facP B N rec) d (wX6_readFactor w)) {H : Nat} (hG : goodR N H (facP B N rec)) {S : List Nat} (post : xMem → Prop) : ∀ m i p s k C, i + m = 240 → GSt C0 p (S ++ s) C → p ≤ N → S.length + s.length ≤ p → (∀ C', OUT C0 S (prL B N rec S.length m p s k) C' → post C') → wX6_readProduct_7 w post (m + 1) (nI d) (nI i) C := by
  have hN := hT.1
  intro m
  induction m with
  | zero =>
    intro i p s k C hi hC hp hS h
    have : i = 240 := by omega
    subst this
    rw [wX6_readProduct_7]; dsimp only
    rw [if_pos l240]
    exact h C hC
  | succ m ih =>
    intro i p s k C hi hC hp hS h
    rw [wX6_readProduct_7]; dsimp only
    rw [if_neg (show ¬ (240 : Int32) ≤ nI i from nI_ge (b := 240) (by omega) (by decide)), if_pos hC.2.2.1]
    refine placeL hT hp hC sx_3 (by decide) _ ?_
    rw [prL] at h
    by_cases c : isT (hr B N p)
    · obtain ⟨t1, t2, t3, t4, t5⟩ := six_T c
      have hpl : p < N := hr_pos (B := B) t5
      rw [if_pos c] at h
      rw [if_neg (pl3_t c)]
      refine placeL hT hp hC sx_4 (by decide) _ ?_
      rw [show pl4 (hr B N p) = nI (six (hr B N p)) from if_pos t1]
      intro M8 e8
      subst e8
      have hl : (S ++ s).length = S.length + s.length := List.length_append
      refine hf _ _ _ _ (GSt_at hC (q := p + 1) (by rw [hC.2.1, nI_1])) (by omega) (by omega) (fun C9 hO => ?_)
      rw [hl] at hO
      match e : facP B N rec (p + 1) (S.length + s.length) with
      | .inl f =>
        rw [e] at h hO
        refine stepF hO _ _ _ (fun C10 hF => ?_)
        intro v11 e11
        exact prF hF _ (h C10 hF) _ _ _
      | .inr (q, s', k') =>
        rw [e] at h hO
        obtain ⟨-, -, g1, g2, g3⟩ := hG _ _ _ _ _ e
        have hO' : GSt C0 q (S ++ s ++ s') C9 := hO
        refine stepG hO' (by rw [List.length_append, hl]; omega) (sw_op _ t1) _ (fun C10 hC10 => ?_)
        intro v11 e11
        subst e11
        rw [nI_1]
        refine ih (i + 1) q (s ++ s' ++ [5 + six (hr B N p)]) (k ++ k' ++ [(hr B N p, 0)]) C10 (by omega) ?_ g2 (by rw [len3]; omega) (fun C' ho => h C' ho)
        rw [← List.append_assoc, ← List.append_assoc]; exact hC10
    · rw [if_neg c] at h
      rw [if_pos (pl3_f c)]
      exact h C hC
theorem prdC {B : Nat → Nat} {N : Nat} {C0 : xMem} (hT : LTC B N C0) {rec : Option (Nat → Nat → xR)} {d : Nat} {w : Int32 → xMem → (xMem → Prop) → Prop} (hf : SPs C0 N (facP B N rec) d (wX6_readFactor w)) {H : Nat} (hG : goodR N H (facP B N rec)) : SPs C0 N (prdP B N rec) d (wX6_readProduct w) := by
  intro p S C post hC hp hS h
  unfold wX6_readProduct
  refine hf _ _ _ _ hC hp hS (fun C1 hO => ?_)
  unfold prdP at h
  match e : facP B N rec p S.length with
  | .inl f =>
    rw [e] at h hO
    exact ⟨1, prF hO _ (h C1 hO) _ _ _⟩
  | .inr (q, s, k) =>
    rw [e] at h hO
    obtain ⟨-, -, g1, g2, g3⟩ := hG _ _ _ _ _ e
    exact ⟨241, prLC hT hf hG post 240 0 q s k C1 rfl hO g2 (by omega) (fun C' ho => h C' ho)⟩
theorem prdF {C0 : xMem} (w : Int32 → xMem → (xMem → Prop) → Prop) : FPs C0 (wX6_readProduct w) := by
  intro f C a post hF h
  unfold wX6_readProduct
  exact facF w _ _ _ _ hF (fun C1 hF1 => ⟨1, prF hF1 _ (h C1 hF1) _ _ _⟩)
theorem smLC {B : Nat → Nat} {N : Nat} {C0 : xMem} (hT : LTC B N C0) {rec : Option (Nat → Nat → xR)} {d : Nat} {w : Int32 → xMem → (xMem → Prop) → Prop} (hf : SPs C0 N (prdP B N rec) d (wX6_readProduct w)) {H : Nat} (hG : goodR N H (prdP B N rec)) {S : List Nat} (post : xMem → Prop) : ∀ m i p s k C, i + m = 240 → GSt C0 p (S ++ s) C → p ≤ N → S.length + s.length ≤ p → (∀ C', OUT C0 S (smL B N rec S.length m p s k) C' → post C') → wX6_readSum_at_7 w post (m + 1) (nI d) (nI i) C := by
  have hN := hT.1
  intro m
  induction m with
  | zero =>
    intro i p s k C hi hC hp hS h
    have : i = 240 := by omega
    subst this
    rw [wX6_readSum_at_7]; dsimp only
    rw [if_pos l240]
    exact h C hC
  | succ m ih =>
    intro i p s k C hi hC hp hS h
    rw [wX6_readSum_at_7]; dsimp only
    rw [if_neg (show ¬ (240 : Int32) ≤ nI i from nI_ge (b := 240) (by omega) (by decide)), if_pos hC.2.2.1]
    refine placeL hT hp hC sx_5 (by decide) _ ?_
    rw [smL] at h
    by_cases c : isPl (hr B N p)
    · obtain ⟨t1, t2, t3, t4, t5⟩ := six_P c
      have hpl : p < N := hr_pos (B := B) t5
      rw [if_pos c] at h
      rw [if_neg (pl5_t c)]
      refine placeL hT hp hC sx_4 (by decide) _ ?_
      rw [show pl4 (hr B N p) = nI (six (hr B N p)) from if_pos t1]
      intro M8 e8
      subst e8
      have hl : (S ++ s).length = S.length + s.length := List.length_append
      refine hf _ _ _ _ (GSt_at hC (q := p + 1) (by rw [hC.2.1, nI_1])) (by omega) (by omega) (fun C9 hO => ?_)
      rw [hl] at hO
      match e : prdP B N rec (p + 1) (S.length + s.length) with
      | .inl f =>
        rw [e] at h hO
        refine stepF hO _ _ _ (fun C10 hF => ?_)
        intro v11 e11
        exact smF' hF _ (h C10 hF) _ _ _
      | .inr (q, s', k') =>
        rw [e] at h hO
        obtain ⟨-, -, g1, g2, g3⟩ := hG _ _ _ _ _ e
        have hO' : GSt C0 q (S ++ s ++ s') C9 := hO
        refine stepG hO' (by rw [List.length_append, hl]; omega) (sw_op _ t1) _ (fun C10 hC10 => ?_)
        intro v11 e11
        subst e11
        rw [nI_1]
        refine ih (i + 1) q (s ++ s' ++ [5 + six (hr B N p)]) (k ++ k' ++ [(hr B N p, 0)]) C10 (by omega) ?_ g2 (by rw [len3]; omega) (fun C' ho => h C' ho)
        rw [← List.append_assoc, ← List.append_assoc]; exact hC10
    · rw [if_neg c] at h
      rw [if_pos (pl5_f c)]
      exact h C hC
theorem sumRC {B : Nat → Nat} {N : Nat} {C0 : xMem} (hT : LTC B N C0) {rec : Option (Nat → Nat → xR)} {d : Nat} {w : Int32 → xMem → (xMem → Prop) → Prop} (hf : SPs C0 N (prdP B N rec) d (wX6_readProduct w)) {H : Nat} (hG : goodR N H (prdP B N rec)) : SPs C0 N (sumR B N rec) d (wX6_readSum_at w) := by
  intro p S C post hC hp hS h
  unfold wX6_readSum_at
  refine hf _ _ _ _ hC hp hS (fun C1 hO => ?_)
  unfold sumR at h
  match e : prdP B N rec p S.length with
  | .inl f =>
    rw [e] at h hO
    exact ⟨1, smF' hO _ (h C1 hO) _ _ _⟩
  | .inr (q, s, k) =>
    rw [e] at h hO
    obtain ⟨-, -, g1, g2, g3⟩ := hG _ _ _ _ _ e
    exact ⟨241, smLC hT hf hG post 240 0 q s k C1 rfl hO g2 (by omega) (fun C' ho => h C' ho)⟩
theorem sumF (C0 : xMem) : ∀ l, 1 ≤ l → FPs C0 (wX6_readSum l) := by
  intro l hl
  obtain ⟨l, rfl⟩ : ∃ l', l = l' + 1 := ⟨l - 1, by omega⟩
  intro f C a post hF h
  show wX6_readSum_at (wX6_readSum l) a C post
  unfold wX6_readSum_at
  exact prdF _ _ _ _ _ hF (fun C1 hF1 => ⟨1, smF' hF1 _ (h C1 hF1) _ _ _⟩)
theorem sumC {B : Nat → Nat} {N : Nat} {C0 : xMem} (hT : LTC B N C0) : ∀ g l d, g + d = 6 → g + 2 ≤ l → SPs C0 N (sumP B N g) d (wX6_readSum l) := by
  intro g
  induction g with
  | zero =>
    intro l d hd hl
    obtain ⟨l, rfl⟩ : ∃ l', l = l' + 1 := ⟨l - 1, by omega⟩
    have hG : goodR N 1 (facP B N none) := facG (Nat.le_refl _) (fun r e => by cases e)
    have hf := facC hT (rec := none) (d := d) (by omega) (w := wX6_readSum l) ⟨sumF C0 l (by omega), fun _ => by omega, fun r e => by cases e⟩
    exact sumRC hT (prdC hT hf hG) (prdG hG)
  | succ g ih =>
    intro l d hd hl
    obtain ⟨l, rfl⟩ : ∃ l', l = l' + 1 := ⟨l - 1, by omega⟩
    have hG : goodR N (3 + 2 * g) (facP B N (some (sumP B N g))) := facG (by omega) (fun r e => by cases e; exact sumG g)
    have hf := facC hT (rec := some (sumP B N g)) (d := d) (by omega) (w := wX6_readSum l) ⟨sumF C0 l (by omega), fun e => (by cases e), fun r e => by
      cases e
      exact ⟨by omega, ⟨_, sumG g⟩, ih l (d + 1) (by omega) (by omega)⟩⟩
    exact sumRC hT (prdC hT hf hG) (prdG hG)
/-! conditions -/
theorem leapF {C0 : xMem} {f : Int32} {C : xMem} (hC : FSt C0 f C) (a : Int32) (post : xMem → Prop) (h : ∀ C', FSt C0 f C' → post C') : wX5_leapHere 33 a C post := by
  unfold wX5_leapHere
  by_cases c0 : a < 0
  · rw [if_pos c0]; exact h _ hC
  rw [if_neg c0]
  by_cases c1 : 240 ≤ a
  · rw [if_pos c1]; exact h _ hC
  rw [if_neg c1]
  have c0' : 0 ≤ a.toInt := by
    have : ¬ a.toInt < (0 : Int32).toInt := fun q => c0 (Int32.lt_iff_toInt_lt.mpr q)
    rw [zi0] at this
    omega
  have c1' : a.toInt < 240 := by
    have : ¬ (240 : Int32).toInt ≤ a.toInt := fun q => c1 (Int32.le_iff_toInt_le.mpr q)
    rw [zi240] at this
    omega
  obtain ⟨j, hj, e⟩ := nI_of' 240 c0' c1'
  rw [e]
  have hv := vl (n := j) (N := 240) hj (by decide)
  refine ⟨hv, hv, ?_⟩
  intro M5 e5
  subst e5
  obtain ⟨fr, h4, hf, z, hz, h5⟩ := hC
  exact h _ ⟨fun c i h1 h2 h3 => by rw [g_c h3]; exact fr c i h1 h2 h3, by rw [g_c (by decide)]; exact h4, hf, z, hz, by rw [g_c (by decide)]; exact h5⟩
theorem ptF {C0 : xMem} {w : Int32 → xMem → (xMem → Prop) → Prop} {f : Int32} {C : xMem} (hF : FSt C0 f C) (post : xMem → Prop) (h : post C) (m : Nat) (a b : Int32) : wX6_readPart_7 w post (m + 1) a b C := by
  rw [wX6_readPart_7]; dsimp only
  by_cases q : 240 ≤ b
  · rw [if_pos q]; exact h
  · rw [if_neg q, if_neg (FSt_ne hF)]; exact h
theorem cnF {C0 : xMem} {w : Int32 → xMem → (xMem → Prop) → Prop} {f : Int32} {C : xMem} (hF : FSt C0 f C) (post : xMem → Prop) (h : post C) (m : Nat) (a b : Int32) : wX6_readCondition_7 w post (m + 1) a b C := by
  rw [wX6_readCondition_7]; dsimp only
  by_cases q : 240 ≤ b
  · rw [if_pos q]; exact h
  · rw [if_neg q, if_neg (FSt_ne hF)]; exact h
theorem prtLC {B : Nat → Nat} {N : Nat} {C0 : xMem} (hT : LTC B N C0) {r : Nat → Nat → xR} {d : Nat} {w : Int32 → xMem → (xMem → Prop) → Prop} (hf : SPs C0 N r d w) {H : Nat} (hG : goodB N H r) {S : List Nat} (post : xMem → Prop) : ∀ m i p s k C, i + m = 240 → GSt C0 p (S ++ s) C → p ≤ N → S.length + s.length ≤ p → (∀ C', OUT C0 S (prtL B N r S.length m p s k) C' → post C') → wX6_readPart_7 w post (m + 1) (nI d) (nI i) C := by
  have hN := hT.1
  intro m
  induction m with
  | zero =>
    intro i p s k C hi hC hp hS h
    have : i = 240 := by omega
    subst this
    rw [wX6_readPart_7]; dsimp only
    rw [if_pos l240]
    exact h C hC
  | succ m ih =>
    intro i p s k C hi hC hp hS h
    have e38 := sgn_is (B := B) (N := N) (p := p) (c := 38) (fun i hi => (hT.2.1 i hi).1) (by decide) (by decide)
    rw [wX6_readPart_7]; dsimp only
    rw [if_neg (show ¬ (240 : Int32) ≤ nI i from nI_ge (b := 240) (by omega) (by decide)), if_pos hC.2.2.1]
    refine signL hT hp hC _ ?_
    rw [prtL] at h
    by_cases c : hr B N p = 38
    · have hpl : p < N := hr_pos (B := B) (by omega)
      rw [if_pos c] at h
      rw [if_pos (show sgn B N p = 38 from e38.mpr c)]
      intro v6 e6
      have hl : (S ++ s).length = S.length + s.length := List.length_append
      have hl1 : (S ++ s ++ [3]).length = S.length + s.length + 1 := by rw [List.length_append, hl]; rfl
      rw [hC.2.2.2.1] at e6
      subst e6
      refine stepG hC (by omega) sw_and _ (fun C7 hC7 => ?_)
      intro M8 e8
      subst e8
      refine hf _ _ _ _ (GSt_at hC7 (q := p + 1) (by rw [hC7.2.1, nI_1])) (by omega) (by omega) (fun C9 hO => ?_)
      rw [hl1] at hO
      match e : r (p + 1) (S.length + s.length + 1) with
      | .inl f =>
        rw [e] at h hO
        refine leapF hO _ _ (fun C10 hF => ?_)
        intro v11 e11
        exact ptF hF _ (h C10 hF) _ _ _
      | .inr (q, s', k') =>
        rw [e] at h hO
        obtain ⟨-, -, g1, g2, g3⟩ := hG _ _ _ _ _ e
        have hO' : GSt C0 q (S ++ s ++ [3] ++ s') C9 := hO
        refine leapG hO' (Or.inl rfl) (by omega) _ (fun C10 hC10 => ?_)
        intro v11 e11
        subst e11
        rw [nI_1]
        refine ih (i + 1) q (s ++ [3 + 16 * (S.length + s.length + 1 + s'.length)] ++ s') (k ++ k' ++ [(38, 0)]) C10 (by omega) ?_ g2 (by rw [len3m]; omega) (fun C' ho => h C' ho)
        rw [hl] at hC10
        rw [← List.append_assoc, ← List.append_assoc]; exact hC10
    · rw [if_neg c] at h
      rw [if_neg (show ¬ sgn B N p = 38 from fun z => c (e38.mp z))]
      exact h C hC
theorem prtC {B : Nat → Nat} {N : Nat} {C0 : xMem} (hT : LTC B N C0) {r : Nat → Nat → xR} {d : Nat} {w : Int32 → xMem → (xMem → Prop) → Prop} (hf : SPs C0 N r d w) {H : Nat} (hG : goodB N H r) : SPs C0 N (prtP B N r) d (wX6_readPart w) := by
  intro p S C post hC hp hS h
  unfold wX6_readPart
  refine hf _ _ _ _ hC hp hS (fun C1 hO => ?_)
  unfold prtP at h
  match e : r p S.length with
  | .inl f =>
    rw [e] at h hO
    exact ⟨1, ptF hO _ (h C1 hO) _ _ _⟩
  | .inr (q, s, k) =>
    rw [e] at h hO
    obtain ⟨-, -, g1, g2, g3⟩ := hG _ _ _ _ _ e
    exact ⟨241, prtLC hT hf hG post 240 0 q s k C1 rfl hO g2 (by omega) (fun C' ho => h C' ho)⟩
theorem prtF {C0 : xMem} {w : Int32 → xMem → (xMem → Prop) → Prop} (hw : FPs C0 w) : FPs C0 (wX6_readPart w) := by
  intro f C a post hF h
  unfold wX6_readPart
  exact hw _ _ _ _ hF (fun C1 hF1 => ⟨1, ptF hF1 _ (h C1 hF1) _ _ _⟩)
theorem cnLC {B : Nat → Nat} {N : Nat} {C0 : xMem} (hT : LTC B N C0) {r : Nat → Nat → xR} {d : Nat} {w : Int32 → xMem → (xMem → Prop) → Prop} (hf : SPs C0 N (prtP B N r) d (wX6_readPart w)) {H : Nat} (hG : goodB N H (prtP B N r)) {S : List Nat} (post : xMem → Prop) : ∀ m i p s k C, i + m = 240 → GSt C0 p (S ++ s) C → p ≤ N → S.length + s.length ≤ p → (∀ C', OUT C0 S (cnL B N r S.length m p s k) C' → post C') → wX6_readCondition_7 w post (m + 1) (nI d) (nI i) C := by
  have hN := hT.1
  intro m
  induction m with
  | zero =>
    intro i p s k C hi hC hp hS h
    have : i = 240 := by omega
    subst this
    rw [wX6_readCondition_7]; dsimp only
    rw [if_pos l240]
    exact h C hC
  | succ m ih =>
    intro i p s k C hi hC hp hS h
    have e38 := sgn_is (B := B) (N := N) (p := p) (c := 124) (fun i hi => (hT.2.1 i hi).1) (by decide) (by decide)
    rw [wX6_readCondition_7]; dsimp only
    rw [if_neg (show ¬ (240 : Int32) ≤ nI i from nI_ge (b := 240) (by omega) (by decide)), if_pos hC.2.2.1]
    refine signL hT hp hC _ ?_
    rw [cnL] at h
    by_cases c : hr B N p = 124
    · have hpl : p < N := hr_pos (B := B) (by omega)
      rw [if_pos c] at h
      rw [if_pos (show sgn B N p = 124 from e38.mpr c)]
      intro v6 e6
      have hl : (S ++ s).length = S.length + s.length := List.length_append
      have hl1 : (S ++ s ++ [4]).length = S.length + s.length + 1 := by rw [List.length_append, hl]; rfl
      rw [hC.2.2.2.1] at e6
      subst e6
      refine stepG hC (by omega) sw_or _ (fun C7 hC7 => ?_)
      intro M8 e8
      subst e8
      refine hf _ _ _ _ (GSt_at hC7 (q := p + 1) (by rw [hC7.2.1, nI_1])) (by omega) (by omega) (fun C9 hO => ?_)
      rw [hl1] at hO
      match e : prtP B N r (p + 1) (S.length + s.length + 1) with
      | .inl f =>
        rw [e] at h hO
        refine leapF hO _ _ (fun C10 hF => ?_)
        intro v11 e11
        exact cnF hF _ (h C10 hF) _ _ _
      | .inr (q, s', k') =>
        rw [e] at h hO
        obtain ⟨-, -, g1, g2, g3⟩ := hG _ _ _ _ _ e
        have hO' : GSt C0 q (S ++ s ++ [4] ++ s') C9 := hO
        refine leapG hO' (Or.inr rfl) (by omega) _ (fun C10 hC10 => ?_)
        intro v11 e11
        subst e11
        rw [nI_1]
        refine ih (i + 1) q (s ++ [4 + 16 * (S.length + s.length + 1 + s'.length)] ++ s') (k ++ k' ++ [(124, 0)]) C10 (by omega) ?_ g2 (by rw [len3m]; omega) (fun C' ho => h C' ho)
        rw [hl] at hC10
        rw [← List.append_assoc, ← List.append_assoc]; exact hC10
    · rw [if_neg c] at h
      rw [if_neg (show ¬ sgn B N p = 124 from fun z => c (e38.mp z))]
      exact h C hC
theorem cndC {B : Nat → Nat} {N : Nat} {C0 : xMem} (hT : LTC B N C0) {r : Nat → Nat → xR} {d : Nat} {w : Int32 → xMem → (xMem → Prop) → Prop} (hf : SPs C0 N r d w) {H : Nat} (hG : goodB N H r) : SPs C0 N (cndP B N r) d (wX6_readCondition w) := by
  intro p S C post hC hp hS h
  have hf2 := prtC hT hf hG
  have hG2 := prtG (B := B) hG
  unfold wX6_readCondition
  refine hf2 _ _ _ _ hC hp hS (fun C1 hO => ?_)
  unfold cndP at h
  match e : prtP B N r p S.length with
  | .inl f =>
    rw [e] at h hO
    exact ⟨1, cnF hO _ (h C1 hO) _ _ _⟩
  | .inr (q, s, k) =>
    rw [e] at h hO
    obtain ⟨-, -, g1, g2, g3⟩ := hG2 _ _ _ _ _ e
    exact ⟨241, cnLC hT hf2 hG2 post 240 0 q s k C1 rfl hO g2 (by omega) (fun C' ho => h C' ho)⟩
theorem cndF {C0 : xMem} {w : Int32 → xMem → (xMem → Prop) → Prop} (hw : FPs C0 w) : FPs C0 (wX6_readCondition w) := by
  intro f C a post hF h
  unfold wX6_readCondition
  exact prtF hw _ _ _ _ hF (fun C1 hF1 => ⟨1, cnF hF1 _ (h C1 hF1) _ _ _⟩)
theorem tstF (C0 : xMem) : ∀ l, 1 ≤ l → FPs C0 (wX6_readTest l) := by
  intro l hl
  obtain ⟨l, rfl⟩ : ∃ l', l = l' + 1 := ⟨l - 1, by omega⟩
  intro f C a post hF h
  show wX6_readTest_at (wX6_readTest l) a C post
  unfold wX6_readTest_at
  rw [if_neg (FSt_ne hF)]
  exact h _ hF
theorem tstRC {B : Nat → Nat} {N : Nat} {C0 : xMem} (hT : LTC B N C0) {rec : Option (Nat → Nat → xR)} {g d : Nat} (hgd : g + d = 6) {w : Int32 → xMem → (xMem → Prop) → Prop} (w1 : FPs C0 w) (w2 : rec = none → d = 6) (w3 : ∀ r, rec = some r → d < 6 ∧ (∃ H, goodB N H r) ∧ SPs C0 N r (d + 1) w) : SPs C0 N (tstR B N rec (sumP B N g)) d (wX6_readTest_at w) := by
  intro p S C post hC hp hS h
  have hN := hT.1
  have hs := sumC hT g 12 d hgd (by omega)
  have hsG := sumG (B := B) (N := N) g
  have e33 := sgn_is (B := B) (N := N) (p := p) (c := 33) (fun i hi => (hT.2.1 i hi).1) (by decide) (by decide)
  have e40 := sgn_is (B := B) (N := N) (p := p) (c := 40) (fun i hi => (hT.2.1 i hi).1) (by decide) (by decide)
  unfold wX6_readTest_at
  rw [if_pos hC.2.2.1]
  refine signL hT hp hC _ ?_
  unfold tstR at h
  by_cases c0 : hr B N p = 33
  · have hpl : p < N := hr_pos (B := B) (by omega)
    rw [if_pos c0] at h
    rw [if_pos (show sgn B N p = 33 from e33.mpr c0)]
    cases rec with
    | none =>
      have d6 := w2 rfl
      refine openG hN hp (by omega) hC (by omega) _ (fun q => absurd q (by omega)) (fun _ C1 hF => ?_)
      refine w1 _ _ _ _ hF (fun C2 hF2 => ?_)
      exact stepF hF2 _ _ _ (fun C3 hF3 => h C3 hF3)
    | some r =>
      obtain ⟨d6, ⟨H, hG⟩, hr'⟩ := w3 r rfl
      refine openG hN hp (by omega) hC (by omega) _ (fun _ C1 hC1 => ?_) (fun q => absurd q (by omega))
      rw [nI_1]
      refine hr' _ _ _ _ hC1 (by omega) (by omega) (fun C2 hO => ?_)
      dsimp only at h
      match e : r (p + 1) S.length with
      | .inl f =>
        rw [e] at h hO
        exact stepF hO _ _ _ (fun C3 hF3 => h C3 hF3)
      | .inr (q, s, k) =>
        rw [e] at h hO
        obtain ⟨-, -, g1, g2, g3⟩ := hG _ _ _ _ _ e
        have hO' : GSt C0 q (S ++ s) C2 := hO
        refine stepG hO' (by rw [List.length_append]; omega) sw_not _ (fun C3 hC3 => h C3 ?_)
        rw [List.append_assoc] at hC3
        exact hC3
  rw [if_neg c0] at h
  rw [if_neg (show ¬ sgn B N p = 33 from fun z => c0 (e33.mp z))]
  refine signL hT hp hC _ ?_
  by_cases c1 : hr B N p = 40
  · have hpl : p < N := hr_pos (B := B) (by omega)
    rw [if_pos c1] at h
    rw [if_pos (show sgn B N p = 40 from e40.mpr c1)]
    cases rec with
    | none =>
      have d6 := w2 rfl
      refine openG hN hp (by omega) hC (by omega) _ (fun q => absurd q (by omega)) (fun _ C1 hF => ?_)
      refine cndF w1 _ _ _ _ hF (fun C2 hF2 => ?_)
      exact takeF hT hF2 _ _ (fun C3 hF3 => h C3 hF3)
    | some r =>
      obtain ⟨d6, ⟨H, hG⟩, hr'⟩ := w3 r rfl
      refine openG hN hp (by omega) hC (by omega) _ (fun _ C1 hC1 => ?_) (fun q => absurd q (by omega))
      rw [nI_1]
      refine cndC hT hr' hG _ _ _ _ hC1 (by omega) (by omega) (fun C2 hO => ?_)
      dsimp only at h
      match e : cndP B N r (p + 1) S.length with
      | .inl f =>
        rw [e] at h hO
        exact takeF hT hO _ _ (fun C3 hF3 => h C3 hF3)
      | .inr (q, s, k) =>
        rw [e] at h hO
        obtain ⟨-, -, g1, g2, g3⟩ := cndG hG _ _ _ _ _ e
        have hO' : GSt C0 q (S ++ s) C2 := hO
        have h' : ∀ C', OUT C0 S (if hr B N q = 41 then .inr (q + 1, s, k) else .inl (fw 1 q)) C' → post C' := h
        refine takeG (c := 41) hT g2 (by rw [List.length_append]; omega) hO' (by decide) (by decide) _ (fun z C3 hC3 => ?_) (fun z C3 hF3 => ?_)
        · rw [if_pos z] at h'; exact h' C3 hC3
        · rw [if_neg z] at h'; exact h' C3 hF3
  rw [if_neg c1] at h
  rw [if_neg (show ¬ sgn B N p = 40 from fun z => c1 (e40.mp z))]
  refine hs _ _ _ _ hC hp hS (fun C1 hO => ?_)
  have t105F : ∀ f x2 C', FSt C0 f C' → (∀ C', FSt C0 f C' → post C') → wX6_readTest_at_105 w post (nI d) x2 C' := by
    intro f x2 C' hF hpst
    unfold wX6_readTest_at_105
    intro M1 e1
    subst e1
    refine sumF C0 12 (by decide) _ _ _ _ (FSt_at hF _) (fun C2 hF2 => ?_)
    exact stepF hF2 _ _ _ (fun C3 hF3 => hpst C3 hF3)
  have t95F : ∀ f x2 C', FSt C0 f C' → (∀ C', FSt C0 f C' → post C') → wX6_readTest_at_95 w post (nI d) x2 C' := by
    intro f x2 C' hF hpst
    unfold wX6_readTest_at_95
    split
    · exact t105F f x2 C' hF hpst
    · exact refuseF hF _ _ (t105F f x2 C' hF hpst)
  match e : sumP B N g p S.length with
  | .inl f =>
    rw [e] at h hO
    refine placeF hT hO _ _ (fun r => ?_)
    split
    · exact placeF hT hO _ _ (fun r => t95F f r C1 hO h)
    · exact t95F f _ C1 hO h
  | .inr (q, s, k) =>
    rw [e] at h hO
    obtain ⟨-, -, g1, g2, g3⟩ := hsG _ _ _ _ _ e
    have hO' : GSt C0 q (S ++ s) C1 := hO
    have hl : (S ++ s).length = S.length + s.length := List.length_append
    have h' : ∀ C', OUT C0 S (if isCm (hr B N q) then xb (sumP B N g (q + 1) (S.length + s.length)) (fun q' s' k' => .inr (q', s ++ s' ++ [5 + six (hr B N q)], k ++ k' ++ [(hr B N q, 0)])) else .inl (fw 1 q)) C' → post C' := h
    refine placeL hT g2 hO' sx_6 (by decide) _ ?_
    by_cases c2 : isCm (hr B N q)
    · obtain ⟨t1, -, -, -, -, t5⟩ := six_C c2
      have hql : q < N := hr_pos (B := B) t5
      rw [if_pos c2] at h'
      rw [if_pos (pl6_t c2)]
      refine placeL hT g2 hO' sx_4 (by decide) _ ?_
      rw [show pl4 (hr B N q) = nI (six (hr B N q)) from if_pos t1]
      unfold wX6_readTest_at_95 wX6_readTest_at_105
      rw [if_pos (show (0 : Int32) ≤ nI (six (hr B N q)) from nI_le (Nat.zero_le _) (by omega))]
      intro M1 e1
      subst e1
      refine hs _ _ _ _ (GSt_at hO' (q := q + 1) (by rw [hO'.2.1, nI_1])) (by omega) (by omega) (fun C2 hO2 => ?_)
      rw [hl] at hO2
      match e2 : sumP B N g (q + 1) (S.length + s.length) with
      | .inl f =>
        rw [e2] at h' hO2
        exact stepF hO2 _ _ _ (fun C3 hF3 => h' C3 hF3)
      | .inr (q', s', k') =>
        rw [e2] at h' hO2
        obtain ⟨-, -, g4, g5, g6⟩ := hsG _ _ _ _ _ e2
        have hO3 : GSt C0 q' (S ++ s ++ s') C2 := hO2
        refine stepG hO3 (by rw [List.length_append, hl]; omega) (sw_op _ t1) _ (fun C3 hC3 => h' C3 ?_)
        rw [List.append_assoc, List.append_assoc] at hC3
        show GSt C0 q' (S ++ (s ++ s' ++ [5 + six (hr B N q)])) C3
        rw [List.append_assoc]
        exact hC3
    · rw [if_neg c2] at h'
      rw [if_neg (pl6_f c2)]
      unfold wX6_readTest_at_95
      rw [if_neg (by decide)]
      refine refuseL hO' (by omega) 1 (fwL q (by omega)).1.1.1 _ (fun C2 hF => ?_)
      exact t105F _ _ C2 hF h'
theorem tstC {B : Nat → Nat} {N : Nat} {C0 : xMem} (hT : LTC B N C0) : ∀ g l d, g + d = 6 → g + 2 ≤ l → SPs C0 N (tstP B N g) d (wX6_readTest l) := by
  intro g
  induction g with
  | zero =>
    intro l d hd hl
    obtain ⟨l, rfl⟩ : ∃ l', l = l' + 1 := ⟨l - 1, by omega⟩
    exact tstRC hT (rec := none) hd (tstF C0 l (by omega)) (fun _ => by omega) (fun r e => by cases e)
  | succ g ih =>
    intro l d hd hl
    obtain ⟨l, rfl⟩ : ∃ l', l = l' + 1 := ⟨l - 1, by omega⟩
    exact tstRC hT (rec := some (tstP B N g)) hd (tstF C0 l (by omega)) (fun e => by cases e) (fun r e => by
      cases e
      exact ⟨by omega, ⟨_, tstG g⟩, ih l (d + 1) (by omega) (by omega)⟩)
