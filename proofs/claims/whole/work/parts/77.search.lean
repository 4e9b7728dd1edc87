/-! CHEAPEST, as a search: the least one of those with P, by c, then p, then itself -/
def srB (P : Nat → Bool) (c p : Nat → Nat) : Nat → Nat
  | 0 => 0
  | s + 1 => if P s = true ∧ 1 ≤ s ∧ (srB P c p s = 0 ∨ c s < c (srB P c p s) ∨ (c s = c (srB P c p s) ∧ p s < p (srB P c p s))) then s else srB P c p s
def bet (c p : Nat → Nat) (a b : Nat) : Prop := c a < c b ∨ (c a = c b ∧ (p a < p b ∨ (p a = p b ∧ a < b)))
theorem srB_ok (P : Nat → Bool) (c p : Nat → Nat) : ∀ N, (srB P c p N = 0 ∧ ∀ s, 1 ≤ s → s < N → P s = false) ∨ (1 ≤ srB P c p N ∧ srB P c p N < N ∧ P (srB P c p N) = true ∧ ∀ s, 1 ≤ s → s < N → P s = true → s ≠ srB P c p N → bet c p (srB P c p N) s) := by
  intro N
  induction N with
  | zero => exact Or.inl ⟨rfl, fun s _ h => absurd h (by omega)⟩
  | succ N ih =>
    unfold srB
    by_cases h : P N = true ∧ 1 ≤ N ∧ (srB P c p N = 0 ∨ c N < c (srB P c p N) ∨ (c N = c (srB P c p N) ∧ p N < p (srB P c p N)))
    · rw [if_pos h]
      refine Or.inr ⟨h.2.1, by omega, h.1, fun s h1 h2 h3 h4 => ?_⟩
      rcases ih with ⟨i1, i2⟩ | ⟨i1, i2, i3, i4⟩
      · rw [i2 s h1 (by omega)] at h3; cases h3
      · have hb : c N < c (srB P c p N) ∨ (c N = c (srB P c p N) ∧ p N < p (srB P c p N)) := by
          rcases h.2.2 with q | q
          · omega
          · exact q
        by_cases e : s = srB P c p N
        · rw [e]; unfold bet; omega
        · have := i4 s h1 (by omega) h3 e
          unfold bet at this ⊢
          omega
    · rw [if_neg h]
      rcases ih with ⟨i1, i2⟩ | ⟨i1, i2, i3, i4⟩
      · refine Or.inl ⟨i1, fun s h1 h2 => ?_⟩
        by_cases e : s = N
        · subst e
          cases q : P s
          · rfl
          · exact absurd ⟨q, h1, Or.inl i1⟩ h
        · exact i2 s h1 (by omega)
      · refine Or.inr ⟨i1, by omega, i3, fun s h1 h2 h3 h4 => ?_⟩
        by_cases e : s = N
        · subst e
          have : ¬ (c s < c (srB P c p s) ∨ (c s = c (srB P c p s) ∧ p s < p (srB P c p s))) := fun z => h ⟨h3, h1, Or.inr z⟩
          unfold bet
          omega
        · exact i4 s h1 (by omega) h3 h4
theorem srB_lt (P : Nat → Bool) (c p : Nat → Nat) (N : Nat) : srB P c p N ≤ N := by
  rcases srB_ok P c p N with h | h <;> omega
/-- sets of places in the list of T's numbers below b, as sets of numbers -/
def ct (T : Nat) : Nat → Nat
  | 0 => 0
  | b + 1 => if T.testBit b = true then ct T b + 1 else ct T b
def cl (T : Nat) : Nat → Nat → Nat
  | 0, _ => 0
  | b + 1, j => if T.testBit b = true ∧ j = ct T b then b else cl T b j
theorem ct_le (T : Nat) : ∀ b, ct T b ≤ b := by
  intro b
  induction b with
  | zero => exact Nat.le_refl _
  | succ b ih => unfold ct; split <;> omega
theorem cl_in (T : Nat) : ∀ b j, j < ct T b → cl T b j < b ∧ T.testBit (cl T b j) = true := by
  intro b
  induction b with
  | zero => intro j h; exact absurd h (by unfold ct; omega)
  | succ b ih =>
    intro j h
    unfold ct at h
    unfold cl
    by_cases q : T.testBit b = true ∧ j = ct T b
    · rw [if_pos q]; exact ⟨by omega, q.1⟩
    · rw [if_neg q]
      have : j < ct T b := by
        by_cases t : T.testBit b = true
        · rw [if_pos t] at h
          have : ¬ j = ct T b := fun z => q ⟨t, z⟩
          omega
        · rw [if_neg t] at h; exact h
      have := ih j this
      exact ⟨by omega, this.2⟩
theorem es_congr {L L' : Nat → Nat} {n : Nat} (h : ∀ j, j < n → L j = L' j) (s : Nat) : es L n s = es L' n s := by
  induction n with
  | zero => rfl
  | succ n ih =>
    unfold es
    rw [ih (fun j hj => h j (by omega)), h n (by omega)]
theorem ws_congr {f f' : Nat → Nat} {n : Nat} (h : ∀ j, j < n → f j = f' j) (s : Nat) : ws f n s = ws f' n s := by
  induction n with
  | zero => rfl
  | succ n ih =>
    unfold ws
    rw [ih (fun j hj => h j (by omega)), h n (by omega)]
theorem es_low {L : Nat → Nat} {n b : Nat} (h : ∀ j, j < n → L j < b) (s : Nat) : es L n s < 2 ^ b := by
  induction n with
  | zero => exact Nat.two_pow_pos b
  | succ n ih =>
    unfold es
    split
    · exact Nat.or_lt_two_pow (ih (fun j hj => h j (by omega))) (Nat.pow_lt_pow_right (by omega) (h n (by omega)))
    · exact ih (fun j hj => h j (by omega))
theorem or_two {a b : Nat} (h : a < 2 ^ b) : a ||| 2 ^ b = 2 ^ b + a := by
  apply Nat.eq_of_testBit_eq
  intro i
  rw [Nat.testBit_or, Nat.testBit_two_pow, tb_add h]
  by_cases e : i = b
  · subst e; simp
  · simp [e, show ¬ b = i by omega]
theorem half {s n : Nat} (h : s < 2 ^ (n + 1)) : s < 2 ^ n ∨ ∃ r, r < 2 ^ n ∧ s = 2 ^ n + r := by
  rw [Nat.pow_succ] at h
  rcases Nat.lt_or_ge s (2 ^ n) with q | q
  · exact Or.inl q
  · exact Or.inr ⟨s - 2 ^ n, by omega, by omega⟩
theorem es_hi {L : Nat → Nat} {n r : Nat} (hr : r < 2 ^ n) : es L (n + 1) (2 ^ n + r) = es L n r ||| 2 ^ L n := by
  have e : es L n (2 ^ n + r) = es L n r := by
    have : ∀ m, m ≤ n → es L m (2 ^ n + r) = es L m r := by
      intro m
      induction m with
      | zero => intro _; rfl
      | succ m ih =>
        intro hm
        unfold es
        rw [ih (by omega), tb_add hr]
        simp [show ¬ m = n by omega]
    exact this n (Nat.le_refl _)
  show (if (2 ^ n + r).testBit n = true then es L n (2 ^ n + r) ||| 2 ^ L n else es L n (2 ^ n + r)) = _
  rw [if_pos (by rw [tb_add hr]; simp), e]
theorem es_lo {L : Nat → Nat} {n s : Nat} (hs : s < 2 ^ n) : es L (n + 1) s = es L n s := by
  show (if s.testBit n = true then es L n s ||| 2 ^ L n else es L n s) = _
  rw [if_neg (by rw [Nat.testBit_lt_two_pow hs]; decide)]
theorem ws_hi {f : Nat → Nat} {n r : Nat} (hr : r < 2 ^ n) : ws f (n + 1) (2 ^ n + r) = ws f n r + f n := by
  rw [ws_add f hr, if_pos (by omega), ws_cut f hr (show n ≤ n + 1 by omega)]
theorem ws_lo {f : Nat → Nat} {n s : Nat} (hs : s < 2 ^ n) : ws f (n + 1) s = ws f n s := ws_cut f hs (by omega)
/-- all that is wanted of the list's sets -/
theorem comp (T : Nat) (f : Nat → Nat) : ∀ b, (∀ s, s < 2 ^ ct T b → es (cl T b) (ct T b) s < 2 ^ b ∧ ws (fun j => f (cl T b j)) (ct T b) s = ws f b (es (cl T b) (ct T b) s)) ∧ (∀ s s', s < s' → s' < 2 ^ ct T b → es (cl T b) (ct T b) s < es (cl T b) (ct T b) s') ∧ (∀ t, t < 2 ^ b → (∀ i, t.testBit i = true → T.testBit i = true) → ∃ s, s < 2 ^ ct T b ∧ es (cl T b) (ct T b) s = t) ∧ (∀ s i, s < 2 ^ ct T b → (es (cl T b) (ct T b) s).testBit i = true → T.testBit i = true) := by
  intro b
  induction b with
  | zero =>
    refine ⟨fun s hs => ⟨Nat.one_pos, rfl⟩, fun s s' h h' => ?_, fun t ht _ => ⟨0, Nat.one_pos, ?_⟩, fun s i _ hi => ?_⟩
    · have : ct T 0 = 0 := rfl
      rw [this] at h'; omega
    · have : t = 0 := by omega
      rw [this]; rfl
    · have e : es (cl T 0) (ct T 0) s = 0 := rfl
      rw [e, Nat.zero_testBit] at hi; cases hi
  | succ b ih =>
    obtain ⟨i1, i2, i3, i4⟩ := ih
    by_cases h : T.testBit b = true
    · have e1 : ct T (b + 1) = ct T b + 1 := if_pos h
      have e2 : ∀ j, j < ct T b → cl T (b + 1) j = cl T b j := fun j hj => if_neg (fun z => by omega)
      have e3 : cl T (b + 1) (ct T b) = b := if_pos ⟨h, rfl⟩
      have p2 : 2 ^ (b + 1) = 2 ^ b + 2 ^ b := by rw [Nat.pow_succ]; omega
      have lo : ∀ s, s < 2 ^ ct T b → es (cl T (b + 1)) (ct T b + 1) s = es (cl T b) (ct T b) s := fun s hs => by rw [es_lo hs, es_congr e2]
      have hi : ∀ r, r < 2 ^ ct T b → es (cl T (b + 1)) (ct T b + 1) (2 ^ ct T b + r) = 2 ^ b + es (cl T b) (ct T b) r := fun r hr => by rw [es_hi hr, es_congr e2, e3, or_two (i1 r hr).1]
      rw [e1]
      refine ⟨fun s hs => ?_, fun s s' hlt hs' => ?_, fun t ht hsub => ?_, fun s i hs hb => ?_⟩
      · rcases half hs with q | ⟨r, hr, rfl⟩
        · rw [lo s q]
          have := i1 s q
          refine ⟨by omega, ?_⟩
          rw [ws_lo q, ws_lo this.1, ← this.2]
          exact ws_congr (fun j hj => by rw [e2 j hj]) s
        · rw [hi r hr]
          have := i1 r hr
          refine ⟨by omega, ?_⟩
          rw [ws_hi hr, ws_hi this.1, ← this.2, e3]
          congr 1
          exact ws_congr (fun j hj => by rw [e2 j hj]) r
      · rcases half hs' with q | ⟨r, hr, rfl⟩
        · rw [lo s (by omega), lo s' q]
          exact i2 s s' hlt q
        · rw [hi r hr]
          rcases half (show s < 2 ^ (ct T b + 1) by omega) with q | ⟨r', hr', rfl⟩
          · rw [lo s q]
            have := (i1 s q).1
            omega
          · rw [hi r' hr']
            have := i2 r' r (by omega) hr
            omega
      · rcases half ht with q | ⟨r, hr, rfl⟩
        · obtain ⟨s, hs, e⟩ := i3 t q hsub
          exact ⟨s, by rw [Nat.pow_succ]; omega, by rw [lo s hs]; exact e⟩
        · obtain ⟨s, hs, e⟩ := i3 r hr (fun i hi => hsub i (by rw [tb_add hr, hi, Bool.or_true]))
          exact ⟨2 ^ ct T b + s, by rw [Nat.pow_succ]; omega, by rw [hi s hs, e]⟩
      · rcases half hs with q | ⟨r, hr, rfl⟩
        · rw [lo s q] at hb
          exact i4 s i q hb
        · rw [hi r hr, tb_add (i1 r hr).1] at hb
          by_cases e : i = b
          · subst e; exact h
          · simp [e] at hb
            exact i4 r i hr hb
    · have e1 : ct T (b + 1) = ct T b := if_neg h
      have e2 : ∀ j, cl T (b + 1) j = cl T b j := fun j => if_neg (fun z => h z.1)
      have e3 : cl T (b + 1) = cl T b := funext e2
      have p2 : 2 ^ (b + 1) = 2 ^ b + 2 ^ b := by rw [Nat.pow_succ]; omega
      rw [e1, e3]
      refine ⟨fun s hs => ?_, i2, fun t ht hsub => ?_, i4⟩
      · have := i1 s hs
        refine ⟨by omega, ?_⟩
        rw [ws_lo this.1]
        exact this.2
      · refine i3 t ?_ hsub
        rcases half ht with q | ⟨r, hr, rfl⟩
        · exact q
        · exact absurd (hsub b (by rw [tb_add hr]; simp)) h
