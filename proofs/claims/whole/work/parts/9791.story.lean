/-! story() -/
theorem nb_22 : ∀ c < 22, nb (nI c) = nI (if c < 20 then 2 ^ (c % 10) else 0) := by decide +kernel
set_option maxRecDepth 100000 in
theorem nb_and : ∀ c < 22, ∀ s < 1024, ((if c < 20 then 2 ^ (c % 10) else 0) ||| (trn s c &&& (1023 ^^^ s))) = (if c < 20 then 2 ^ (c % 10) else trn s c &&& (1023 ^^^ s)) := by decide +kernel
theorem nb_or {c : Nat} (hc : c < 22) {s : Nat} (hs : s < 1024) : (nb (nI c) ||| nI (trn s c &&& (1023 ^^^ s))) = nI (if c < 20 then 2 ^ (c % 10) else trn s c &&& (1023 ^^^ s)) := by
  rw [nb_22 c hc, z_or, nb_and c hc s hs]
theorem comesOf_app : ∀ (l : List Nat) (c s : Nat), comesOf (l ++ [c]) s = comesOf l s ||| (if c < 20 then 2 ^ (c % 10) else trn (l.foldl trn s) c &&& (1023 ^^^ l.foldl trn s)) := by
  intro l
  induction l with
  | nil => intro c s; show (_ ||| 0) = (0 ||| _); rw [Nat.or_zero, Nat.zero_or]; rfl
  | cons d l ih =>
    intro c s
    show (_ ||| comesOf (l ++ [c]) (trn s d)) = ((_ ||| comesOf l (trn s d)) ||| _)
    rw [ih, Nat.or_assoc]
    rfl
def mostP (ts : List Nat) (i : Nat) : Nat := (List.range (i + 1)).foldl (fun a i => max a (pc (sO ts i))) 0
theorem mostP_s (ts : List Nat) (i : Nat) : mostP ts (i + 1) = max (mostP ts i) (pc (sO ts (i + 1))) := by
  unfold mostP
  rw [List.range_succ (n := i + 1), List.foldl_append]
  rfl
theorem mostP_le {ts : List Nat} (hw : wfS ts) : ∀ i, mostP ts i ≤ 10 := by
  intro i
  induction i with
  | zero =>
    show max 0 (pc (sO ts 0)) ≤ 10
    have := pc_le (sO_lt hw 0)
    omega
  | succ i ih =>
    rw [mostP_s]
    have := pc_le (sO_lt hw (i + 1))
    omega
theorem sO_app {ts : List Nat} {i : Nat} (hi : i < ts.length) : sO ts (i + 1) = trn (sO ts i) (ts.getD i 0) := by
  unfold sO
  rw [getD_take hi, List.foldl_append]
  rfl
theorem takeC {k : Nat} (hk : k < 6) {ts : List Nat} (hw : wfS ts) {C : xMem} (h16 : ∀ i, i < ts.length → gi C 16 i = nI (ts.getD i 0)) (post : xMem → Prop) (hp : ∀ C', (∀ c i, c ≠ 3 + 2 * k → c ≠ 3 + 2 * k + 1 → gi C' c i = gi C c i) → SC ts k C' → post C') : wX9_take (3 + 2 * k) (nI ts.length) C post := by
  have hl := hw.1
  generalize ho : 3 + 2 * k = o at *
  have ho16 : o + 1 < 16 := by omega
  unfold wX9_take
  rw [min_eq, show (if (72 : Int32) < 73 then (72 : Int32) else 73) = 72 by decide, min_eq, show (if (72 : Int32) < nI ts.length then (72 : Int32) else nI ts.length) = nI ts.length from if_neg (show ¬ nI 72 < _ from nI_nlt hl (by omega)), max_eq, show (if (0 : Int32) < nI ts.length then nI ts.length else (0 : Int32)) = nI ts.length from max_n (a := 0) (by omega) (by omega) |>.trans (by rw [Nat.max_eq_right (Nat.zero_le _)])]
  intro M7 e7
  have x1 : gi M7 o 1 = nI ts.length := by rw [e7, g_same]
  rw [x1]
  refine ⟨⟨by decide, by decide, nI_nlt (Nat.zero_le _) (by omega), by rw [nI_clamp (by omega)]; show 0 + _ ≤ 73; omega, by rw [nI_clamp (by omega)]; show 0 + _ ≤ 72; omega⟩, ?_⟩
  intro M9 e9 M10 e10 M11 e11 M12 e12
  have F : ∀ c i, c ≠ o → c ≠ o + 1 → gi M12 c i = gi C c i := fun c i z1 z2 => by rw [e12, g_c z1, e11, g_c z1, e10, g_c z1, e9, gcpy_c z2, e7, g_c z1]
  have G : ∀ i, i < ts.length → gi M12 (o + 1) i = nI (ts.getD i 0) := fun i hi => by rw [e12, g_c (by omega), e11, g_c (by omega), e10, g_c (by omega), e9, gcpy _ _ _ _ _ _ (by omega), if_pos ⟨rfl, hi⟩, e7, g_c (by omega)]; exact h16 i hi
  have y1 : gi M12 o 1 = nI ts.length := by rw [e12, g_i (by decide), e11, g_i (by decide), e10, g_i (by decide), e9, gcpy_c (by omega)]; exact x1
  have loop : ∀ m i M, i + m = ts.length → (∀ c i, c ≠ o → gi M c i = gi M12 c i) → gi M o 1 = nI ts.length → gi M o 2 = nI (sO ts i) → gi M o 3 = nI (mostP ts i) → gi M o 4 = nI (comesOf (ts.take i) 0) → wX9_take_50 o post (m + 1) (nI i) M := by
    intro m
    induction m with
    | zero =>
      intro i M hi f h1 h2 h3 h4
      have : i = ts.length := by omega
      subst this
      rw [wX9_take_50]; dsimp only
      rw [h1, if_pos (nI_le (by omega) (by omega))]
      refine hp M (fun c i z1 z2 => by rw [f c i z1]; exact F c i z1 z2) ?_
      unfold SC
      rw [ho]
      refine ⟨h1, fun i hi => by rw [f _ _ (by omega)]; exact G i hi, ?_, h3, ?_⟩
      · rw [h2]; unfold sO; rw [List.take_length]
      · rw [h4, List.take_length]
    | succ m ih =>
      intro i M hi f h1 h2 h3 h4
      have hi2 : i < ts.length := by omega
      have hs := sO_lt hw i
      have hc := wfS_c hw hi2
      have ht := trn_lt hc hs
      rw [wX9_take_50]; dsimp only
      have g1 : gi M (o + 1) i = nI (ts.getD i 0) := by rw [f _ _ (by omega)]; exact G i hi2
      rw [h1, if_neg (nI_ge hi2 (by omega)), nI_clamp (by omega), g1, h2, behindTurn_eq, bt_n hc hs]
      have hv := vl (n := i) (N := 72) (by omega) (by decide)
      refine ⟨hv, hv, ?_⟩
      rw [g1, namedBy_eq, h2, andnot_n ht hs, h4]
      intro M8 e8 M9' e9'
      have a2 : gi M9' o 2 = nI (sO ts (i + 1)) := by rw [e9', g_same, sO_app hi2]
      have a3 : gi M9' o 3 = nI (mostP ts i) := by rw [e9', g_i (by decide), e8, g_i (by decide)]; exact h3
      have hmp := mostP_le hw i
      have hpc := pc_le (sO_lt hw (i + 1))
      rw [a2, bitCount_eq, bc_n (sO_lt hw (i + 1)), a3, max_eq, max_n (by omega) (by omega), ← mostP_s]
      intro M14 e14 v15 e15
      subst e15
      rw [nI_1]
      refine ih (i + 1) M14 (by omega) (fun c j z => by rw [e14, g_c z, e9', g_c z, e8, g_c z]; exact f c j z) ?_ ?_ ?_ ?_
      · rw [e14, g_i (by decide), e9', g_i (by decide), e8, g_i (by decide)]; exact h1
      · rw [e14, g_i (by decide)]; exact a2
      · rw [e14, g_same]
      · rw [e14, g_i (by decide), e9', g_i (by decide), e8, g_same, nb_or hc hs, z_or, getD_take hi2, comesOf_app]
        rfl
  refine ⟨ts.length + 1, loop ts.length 0 M12 (by omega) (fun _ _ _ => rfl) y1 ?_ ?_ ?_⟩
  · rw [e12, g_i (by decide), e11, g_i (by decide), e10, g_same]; rfl
  · have : mostP ts 0 = 0 := by show max 0 (pc (([] : List Nat).foldl trn 0)) = 0; decide
    rw [e12, g_i (by decide), e11, g_same, this]; rfl
  · rw [e12, g_same]; rfl
def hNew (h : xT2) (k : Nat) : xT2 := fun a b => if (a = 3 ∨ a = 4) ∧ b < 4 ∧ (h 0 0).testBit b = true ∧ h 1 b = k then 0 else h a b
theorem anewC {h : xT2} {il to : Int32} (h0 : h 0 0 < 16) (h1 : ∀ x, x < 4 → h 1 x < 6) {k : Nat} (hk : k < 6) {C : xMem} (hC : HC 49 h il to C) (post : xMem → Prop) (hp : ∀ C', (∀ c i, c ≠ 52 → c ≠ 53 → gi C' c i = gi C c i) → HC 49 (hNew h k) il to C' → post C') : wX4_beginAnew 49 (nI k) C post := by
  have key : ∀ m x C1, x + m = 4 → (∀ c i, c ≠ 52 → c ≠ 53 → gi C1 c i = gi C c i) → (∀ y, y < 4 → gi C1 52 y = nI (if y < x then hNew h k 3 y else h 3 y) ∧ gi C1 53 y = nI (if y < x then hNew h k 4 y else h 4 y)) → wX4_beginAnew_2 49 post (m + 1) (nI k) (nI x) C1 := by
    intro m
    induction m with
    | zero =>
      intro x C1 hx f g
      have : x = 4 := by omega
      subst this
      rw [wX4_beginAnew_2]; dsimp only
      rw [if_pos (show (4 : Int32) ≤ nI 4 by decide)]
      refine hp C1 f ?_
      obtain ⟨a1, a2, a3, a4, a5, a6, a7, a8⟩ := hC
      have e : ∀ a b, a ≠ 3 → a ≠ 4 → hNew h k a b = h a b := fun a b z1 z2 => if_neg (fun q => by omega)
      refine ⟨?_, ?_, ?_, ?_, ?_, ?_, fun y hy => ⟨?_, ?_, ?_, ?_⟩, fun l hl => ?_⟩
      · rw [f _ _ (by decide) (by decide), e _ _ (by decide) (by decide)]; exact a1
      · rw [f _ _ (by decide) (by decide), e _ _ (by decide) (by decide)]; exact a2
      · rw [f _ _ (by decide) (by decide), e _ _ (by decide) (by decide)]; exact a3
      · rw [f _ _ (by decide) (by decide)]; exact a4
      · rw [f _ _ (by decide) (by decide)]; exact a5
      · rw [f _ _ (by decide) (by decide), e _ _ (by decide) (by decide)]; exact a6
      · rw [f _ _ (by decide) (by decide), e _ _ (by decide) (by decide)]; exact (a7 y hy).1
      · rw [f _ _ (by decide) (by decide), e _ _ (by decide) (by decide)]; exact (a7 y hy).2.1
      · have := (g y hy).1; rw [if_pos hy] at this; exact this
      · have := (g y hy).2; rw [if_pos hy] at this; exact this
      · have := a8 l hl
        rw [f _ _ (by decide) (by decide), f _ _ (by decide) (by decide), f _ _ (by decide) (by decide), f _ _ (by decide) (by decide), e _ _ (by decide) (by decide), e _ _ (by decide) (by decide), e _ _ (by decide) (by decide), e _ _ (by decide) (by decide)]
        exact this
    | succ m ih =>
      intro x C1 hx f g
      have hx4 : x < 4 := by omega
      have nx : ∀ C2, (∀ c i, c ≠ 52 → c ≠ 53 → gi C2 c i = gi C c i) → (∀ y, y < 4 → gi C2 52 y = nI (if y < x + 1 then hNew h k 3 y else h 3 y) ∧ gi C2 53 y = nI (if y < x + 1 then hNew h k 4 y else h 4 y)) → wX4_beginAnew_42 49 (wX4_beginAnew_2 49 post (m + 1)) post (nI k) (nI x) C2 := by
        intro C2 f2 g2
        intro v1 e1
        subst e1
        rw [nI_1]
        exact ih (x + 1) C2 (by omega) f2 g2
      have same : ¬ ((h 0 0).testBit x = true ∧ h 1 x = k) → wX4_beginAnew_42 49 (wX4_beginAnew_2 49 post (m + 1)) post (nI k) (nI x) C1 := by
        intro hn
        refine nx C1 f (fun y hy => ?_)
        have := g y hy
        by_cases q : y = x
        · subst q
          rw [if_neg (by omega), if_neg (by omega)] at this
          rw [if_pos (by omega), if_pos (by omega)]
          have e3 : hNew h k 3 y = h 3 y := if_neg (fun z => hn z.2.2)
          have e4 : hNew h k 4 y = h 4 y := if_neg (fun z => hn z.2.2)
          rw [e3, e4]
          exact this
        · by_cases q2 : y < x
          · rw [if_pos q2, if_pos q2] at this
            rw [if_pos (by omega), if_pos (by omega)]; exact this
          · rw [if_neg q2, if_neg q2] at this
            rw [if_neg (by omega), if_neg (by omega)]; exact this
      rw [wX4_beginAnew_2]; dsimp only
      rw [if_neg (show ¬ (4 : Int32) ≤ nI x from nI_ge hx4 (by decide)), f _ _ (by decide) (by decide), hC.1, hasC_n (by omega) (by omega)]
      by_cases t : (h 0 0).testBit x = true
      rotate_left
      · rw [b2i_f t, if_pos rfl]
        exact same (fun z => t z.1)
      rw [b2i_t t, if_neg (by decide)]
      have hv := vl (n := x) (N := 4) hx4 (by decide)
      have h6 := h1 x hx4
      refine ⟨hv, ?_⟩
      rw [nI_clamp (by omega), f _ _ (by decide) (by decide), (hC.2.2.2.2.2.2.1 x hx4).1]
      by_cases c : h 1 x = k
      rotate_left
      · rw [if_neg (fun z => c ((nI_eq (by omega) (by omega)).mp z))]
        exact same (fun z => c z.2)
      rw [if_pos (congrArg nI c)]
      refine ⟨hv, ?_⟩
      intro M8 e8
      refine ⟨hv, ?_⟩
      intro M10 e10
      refine nx M10 (fun c i z1 z2 => by rw [e10, g_c z2, e8, g_c z1]; exact f c i z1 z2) (fun y hy => ?_)
      have hgy := g y hy
      by_cases q : y = x
      · subst q
        rw [if_pos (by omega), if_pos (by omega)]
        have e3 : hNew h k 3 y = 0 := if_pos ⟨Or.inl rfl, hy, t, c⟩
        have e4 : hNew h k 4 y = 0 := if_pos ⟨Or.inr rfl, hy, t, c⟩
        rw [e3, e4]
        exact ⟨by rw [e10, g_c (by decide), e8, g_same]; rfl, by rw [e10, g_same]; rfl⟩
      · have r1 : gi M10 52 y = gi C1 52 y := by rw [e10, g_c (by decide), e8, g_i q]
        have r2 : gi M10 53 y = gi C1 53 y := by rw [e10, g_i q, e8, g_c (by decide)]
        rw [r1, r2]
        by_cases q2 : y < x
        · rw [if_pos q2, if_pos q2] at hgy
          rw [if_pos (by omega), if_pos (by omega)]; exact hgy
        · rw [if_neg q2, if_neg q2] at hgy
          rw [if_neg (by omega), if_neg (by omega)]; exact hgy
  exact ⟨5, key 4 0 C rfl (fun _ _ _ _ => rfl) (fun y hy => by rw [if_neg (by omega), if_neg (by omega)]; have := hC.2.2.2.2.2.2.1 y hy; exact ⟨this.2.2.1, this.2.2.2⟩)⟩

theorem writeM {N : Nat} {M0 : xMem} {h : xT2} {il to : Int32} (hH : HM h il to M0) (h1 : ∀ x, x < 4 → h 1 x < 6) {k : Nat} (hk : k < 6) {p : Nat} {ts : List Nat} (hl : ts.length ≤ 72) {tl : Bool} {M : xMem} (hM : PMs N M0 p ts [] tl M) (post : Int32 → xMem → Prop) (hp : ∀ M', (∀ c i, frM c i → ¬ (c = 2 ∧ i = k) → ¬ (c = 3 ∧ i = k) → ¬ (c = 4 ∧ 72 * k ≤ i ∧ i < 72 * k + 72) → c ≠ 33 → c ≠ 34 → gi M' c i = gi M0 c i) → gi M' 2 k = 1 → gi M' 3 k = nI ts.length → (∀ i, i < ts.length → gi M' 4 (72 * k + i) = nI (ts.getD i 0)) → HM (hNew h k) il to M' → post (nI ts.length) M') : wX12_story_102 post (nI k) M := by
  obtain ⟨f, g3, g4, g5, g14, g15, g16, gt, gs⟩ := id hM
  unfold wX12_story_102
  rw [g5, if_pos (by decide)]
  have hv := vl (n := k) (N := 6) hk (by decide)
  refine ⟨hv, ?_⟩
  rw [nI_clamp (by omega)]
  intro M3 e3
  refine ⟨hv, ?_⟩
  intro M5 e5
  have x14 : gi M5 0 14 = nI ts.length := by rw [e5, g_c (by decide), e3, g_c (by decide)]; exact g14
  have e : ∀ a b, a ≠ 3 → a ≠ 4 → hNew h k a b = h a b := fun a b z1 z2 => if_neg (fun q => by omega)
  -- the tellers of the story begin anew
  have tel : ∀ M6 : xMem, (∀ c i, frM c i → ¬ (c = 2 ∧ i = k) → ¬ (c = 3 ∧ i = k) → ¬ (c = 4 ∧ 72 * k ≤ i ∧ i < 72 * k + 72) → gi M6 c i = gi M0 c i) → gi M6 2 k = 1 → gi M6 3 k = nI ts.length → (∀ i, i < ts.length → gi M6 4 (72 * k + i) = nI (ts.getD i 0)) → gi M6 0 14 = nI ts.length → ∃ n166, wX12_story_166 post n166 (nI k) 0 M6 := by
    intro M6 f6 a2 a3 a4 a14
    have key : ∀ m x M7, x + m = 4 → (∀ c i, c ≠ 33 → c ≠ 34 → gi M7 c i = gi M6 c i) → (∀ y, y < 4 → gi M7 33 y = nI (if y < x then hNew h k 3 y else h 3 y) ∧ gi M7 34 y = nI (if y < x then hNew h k 4 y else h 4 y)) → wX12_story_166 post (m + 1) (nI k) (nI x) M7 := by
      intro m
      induction m with
      | zero =>
        intro x M7 hx f7 g
        have : x = 4 := by omega
        subst this
        rw [wX12_story_166]; dsimp only
        rw [if_pos (show (4 : Int32) ≤ nI 4 by decide), f7 _ _ (by decide) (by decide), a14]
        have ff : ∀ c i, frM c i → ¬ (c = 2 ∧ i = k) → ¬ (c = 3 ∧ i = k) → ¬ (c = 4 ∧ 72 * k ≤ i ∧ i < 72 * k + 72) → c ≠ 33 → c ≠ 34 → gi M7 c i = gi M0 c i := fun c i z1 z2 z3 z4 z5 z6 => by rw [f7 c i z5 z6]; exact f6 c i z1 z2 z3 z4
        refine hp M7 ff (by rw [f7 _ _ (by decide) (by decide)]; exact a2) (by rw [f7 _ _ (by decide) (by decide)]; exact a3) (fun i hi => by rw [f7 _ _ (by decide) (by decide)]; exact a4 i hi) ?_
        obtain ⟨b1, b2, b3, b4, b5, b6⟩ := hH
        have fr : ∀ c i, 9 ≤ c → c ≠ 33 → c ≠ 34 → gi M7 c i = gi M0 c i := fun c i z1 z2 z3 => ff c i (by omega) (by omega) (by omega) (by omega) z2 z3
        have fr0 : ∀ i, 17 ≤ i ∨ i = 2 → gi M7 0 i = gi M0 0 i := fun i z => ff 0 i (by omega) (by omega) (by omega) (by omega) (by decide) (by decide)
        refine ⟨fun y hy => ⟨?_, ?_, ?_, ?_, ?_⟩, fun l hl => ?_, ?_, ?_, ?_, ?_⟩
        · rw [fr _ _ (by decide) (by decide) (by decide), e _ _ (by decide) (by decide)]; exact (b1 y hy).1
        · rw [fr _ _ (by decide) (by decide) (by decide), e _ _ (by decide) (by decide)]; exact (b1 y hy).2.1
        · rw [fr _ _ (by decide) (by decide) (by decide), e _ _ (by decide) (by decide)]; exact (b1 y hy).2.2.1
        · have := (g y hy).1; rw [if_pos hy] at this; exact this
        · have := (g y hy).2; rw [if_pos hy] at this; exact this
        · rw [fr _ _ (by decide) (by decide) (by decide), fr _ _ (by decide) (by decide) (by decide), fr _ _ (by decide) (by decide) (by decide), fr _ _ (by decide) (by decide) (by decide), fr _ _ (by decide) (by decide) (by decide), e _ _ (by decide) (by decide), e _ _ (by decide) (by decide), e _ _ (by decide) (by decide), e _ _ (by decide) (by decide), e _ _ (by decide) (by decide)]; exact b2 l hl
        · rw [fr0 _ (by omega), e _ _ (by decide) (by decide)]; exact b3
        · rw [fr0 _ (by omega)]; exact b4
        · rw [fr0 _ (by omega)]; exact b5
        · rw [fr0 _ (by omega), e _ _ (by decide) (by decide)]; exact b6
      | succ m ih =>
        intro x M7 hx f7 g
        have hx4 : x < 4 := by omega
        have nx : ∀ M8, (∀ c i, c ≠ 33 → c ≠ 34 → gi M8 c i = gi M6 c i) → (∀ y, y < 4 → gi M8 33 y = nI (if y < x + 1 then hNew h k 3 y else h 3 y) ∧ gi M8 34 y = nI (if y < x + 1 then hNew h k 4 y else h 4 y)) → wX12_story_207 (wX12_story_166 post (m + 1)) post (nI k) (nI x) M8 := by
          intro M8 f8 g8
          intro v1 e1
          subst e1
          rw [nI_1]
          exact ih (x + 1) M8 (by omega) f8 g8
        have same : ¬ ((h 0 0).testBit x = true ∧ h 1 x = k) → wX12_story_207 (wX12_story_166 post (m + 1)) post (nI k) (nI x) M7 := by
          intro hn
          refine nx M7 f7 (fun y hy => ?_)
          have := g y hy
          by_cases q : y = x
          · subst q
            rw [if_neg (by omega), if_neg (by omega)] at this
            rw [if_pos (by omega), if_pos (by omega)]
            have e3 : hNew h k 3 y = h 3 y := if_neg (fun z => hn z.2.2)
            have e4 : hNew h k 4 y = h 4 y := if_neg (fun z => hn z.2.2)
            rw [e3, e4]
            exact this
          · by_cases q2 : y < x
            · rw [if_pos q2, if_pos q2] at this
              rw [if_pos (by omega), if_pos (by omega)]; exact this
            · rw [if_neg q2, if_neg q2] at this
              rw [if_neg (by omega), if_neg (by omega)]; exact this
        have hvx := vl (n := x) (N := 4) hx4 (by decide)
        have h6 := h1 x hx4
        have hb := hH.1 x hx4
        rw [wX12_story_166]; dsimp only
        rw [if_neg (show ¬ (4 : Int32) ≤ nI x from nI_ge hx4 (by decide)), nI_clamp (by omega), f7 _ _ (by decide) (by decide), f7 _ _ (by decide) (by decide), f6 30 x (by omega) (by omega) (by omega) (by omega), f6 31 x (by omega) (by omega) (by omega) (by omega), hb.1, hb.2.1]
        refine ⟨hvx, ?_⟩
        by_cases t : (h 0 0).testBit x = true
        rotate_left
        · rw [b2i_f t, if_pos rfl]
          exact same (fun z => t z.1)
        rw [b2i_t t, if_neg (by decide)]
        refine ⟨hvx, ?_⟩
        by_cases c : h 1 x = k
        rotate_left
        · rw [if_neg (fun z => c ((nI_eq (by omega) (by omega)).mp z))]
          exact same (fun z => c z.2)
        rw [if_pos (congrArg nI c)]
        refine ⟨hvx, ?_⟩
        intro M8 e8
        refine ⟨hvx, ?_⟩
        intro M10 e10
        refine nx M10 (fun c i z1 z2 => by rw [e10, g_c z2, e8, g_c z1]; exact f7 c i z1 z2) (fun y hy => ?_)
        have hgy := g y hy
        by_cases q : y = x
        · subst q
          rw [if_pos (by omega), if_pos (by omega)]
          have e3 : hNew h k 3 y = 0 := if_pos ⟨Or.inl rfl, hy, t, c⟩
          have e4 : hNew h k 4 y = 0 := if_pos ⟨Or.inr rfl, hy, t, c⟩
          rw [e3, e4]
          exact ⟨by rw [e10, g_c (by decide), e8, g_same]; rfl, by rw [e10, g_same]; rfl⟩
        · have r1 : gi M10 33 y = gi M7 33 y := by rw [e10, g_c (by decide), e8, g_i q]
          have r2 : gi M10 34 y = gi M7 34 y := by rw [e10, g_i q, e8, g_c (by decide)]
          rw [r1, r2]
          by_cases q2 : y < x
          · rw [if_pos q2, if_pos q2] at hgy
            rw [if_pos (by omega), if_pos (by omega)]; exact hgy
          · rw [if_neg q2, if_neg q2] at hgy
            rw [if_neg (by omega), if_neg (by omega)]; exact hgy
    refine ⟨5, key 4 0 M6 rfl (fun _ _ _ _ => rfl) (fun y hy => ?_)⟩
    rw [if_neg (by omega), if_neg (by omega), f6 33 y (by omega) (by omega) (by omega) (by omega), f6 34 y (by omega) (by omega) (by omega) (by omega)]
    have := hH.1 y hy
    exact ⟨this.2.2.2.1, this.2.2.2.2⟩
  have cp : ∀ m j M6, j + m = ts.length → (∀ c i, c ≠ 4 → gi M6 c i = gi M5 c i) → (∀ i, ¬ (72 * k ≤ i ∧ i < 72 * k + 72) → gi M6 4 i = gi M5 4 i) → (∀ i, i < j → gi M6 4 (72 * k + i) = nI (ts.getD i 0)) → wX12_story_133 post (m + 1) (nI k) (nI j) M6 := by
    intro m
    induction m with
    | zero =>
      intro j M6 hj k1 k2 k3
      rw [wX12_story_133]; dsimp only
      rw [k1 _ _ (by decide), x14, if_pos (nI_le (by omega) (by omega))]
      refine tel M6 (fun c i z1 z2 z3 z4 => ?_) ?_ ?_ (fun i hi => k3 i (by omega)) (by rw [k1 _ _ (by decide)]; exact x14)
      · by_cases q : c = 4
        · subst q
          rw [k2 i (by omega), e5, gi_si, if_neg (by omega), e3, gi_si, if_neg (by omega)]; exact f 4 i z1
        · rw [k1 c i q, e5, gi_si, if_neg (by omega), e3, gi_si, if_neg (by omega)]; exact f c i z1
      · rw [k1 _ _ (by decide), e5, g_c (by decide), e3, g_same]; exact narb_1
      · rw [k1 _ _ (by decide), e5, g_same, e3, g_c (by decide)]; exact g14
    | succ m ih =>
      intro j M6 hj k1 k2 k3
      rw [wX12_story_133]; dsimp only
      have hj2 : j < ts.length := by omega
      rw [k1 _ _ (by decide), x14, if_neg (nI_ge hj2 (by omega)), z_mull, z_add]
      refine ⟨vl (by omega) (by decide), vl (by omega) (by decide), ?_⟩
      intro M4 e4 v5 ev5
      subst ev5
      rw [nI_clamp (by omega), nI_clamp (by omega)] at e4
      rw [nI_1]
      refine ih (j + 1) M4 (by omega) (fun c i z => by rw [e4, g_c z]; exact k1 c i z) (fun i z => by rw [e4, g_i (by omega)]; exact k2 i z) (fun i hi => ?_)
      rw [e4, gi_si]
      by_cases q : i = j
      · rw [if_pos ⟨rfl, by omega⟩, q, k1 _ _ (by decide), e5, g_c (by decide), e3, g_c (by decide)]; exact gt j hj2
      · rw [if_neg (by omega)]; exact k3 i (by omega)
  exact ⟨ts.length + 1, cp ts.length 0 M5 (by omega) (fun _ _ _ => rfl) (fun _ _ => rfl) (fun i hi => by omega)⟩
