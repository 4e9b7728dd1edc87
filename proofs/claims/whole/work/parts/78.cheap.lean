def ow (f : Nat → Nat) : Nat → Nat → Nat
  | 0, _ => 0
  | n + 1, s => if s.testBit n = true then ow f n s ||| f n else ow f n s
theorem ow_t (f : Nat → Nat) (s i : Nat) : ∀ n, (ow f n s).testBit i = true ↔ ∃ j, j < n ∧ s.testBit j = true ∧ (f j).testBit i = true := by
  intro n
  induction n with
  | zero => simp [ow]
  | succ n ih =>
    unfold ow
    by_cases h : s.testBit n = true
    · rw [if_pos h, Nat.testBit_or, Bool.or_eq_true, ih]
      constructor
      · rintro (⟨j, a, b, c⟩ | c)
        · exact ⟨j, by omega, b, c⟩
        · exact ⟨n, by omega, h, c⟩
      · rintro ⟨j, a, b, c⟩
        by_cases e : j = n
        · subst e; exact Or.inr c
        · exact Or.inl ⟨j, by omega, b, c⟩
    · rw [if_neg h, ih]
      constructor
      · rintro ⟨j, a, b, c⟩
        exact ⟨j, by omega, b, c⟩
      · rintro ⟨j, a, b, c⟩
        by_cases e : j = n
        · subst e; exact absurd b h
        · exact ⟨j, by omega, b, c⟩
theorem ow_lt {f : Nat → Nat} {n : Nat} (h : ∀ j, j < n → f j < 1024) (s : Nat) : ∀ m, m ≤ n → ow f m s < 1024 := by
  intro m
  induction m with
  | zero => intro _; exact (by decide : (0 : Nat) < 1024)
  | succ m ih =>
    intro hm
    unfold ow
    split
    · exact Nat.or_lt_two_pow (n := 10) (ih (by omega)) (h m (by omega))
    · exact ih (by omega)
theorem es_t (L : Nat → Nat) (s x : Nat) : ∀ n, (es L n s).testBit x = true ↔ ∃ j, j < n ∧ s.testBit j = true ∧ L j = x := by
  intro n
  induction n with
  | zero => simp [es]
  | succ n ih =>
    unfold es
    by_cases h : s.testBit n = true
    · rw [if_pos h, tb_or, ih]
      constructor
      · rintro (⟨j, a, b, c⟩ | c)
        · exact ⟨j, by omega, b, c⟩
        · exact ⟨n, by omega, h, c⟩
      · rintro ⟨j, a, b, c⟩
        by_cases e : j = n
        · subst e; exact Or.inr c
        · exact Or.inl ⟨j, by omega, b, c⟩
    · rw [if_neg h, ih]
      constructor
      · rintro ⟨j, a, b, c⟩
        exact ⟨j, by omega, b, c⟩
      · rintro ⟨j, a, b, c⟩
        by_cases e : j = n
        · subst e; exact absurd b h
        · exact ⟨j, by omega, b, c⟩
theorem cntB_lt {p q : Nat → Bool} (h : ∀ k, p k = true → q k = true) : ∀ n, (∃ k, k < n ∧ q k = true ∧ p k = false) → cntB p n < cntB q n := by
  intro n
  induction n with
  | zero => rintro ⟨k, hk, _⟩; omega
  | succ n ih =>
    rintro ⟨k, hk, h1, h2⟩
    have hm := cntB_mono h n
    unfold cntB
    by_cases e : k = n
    · subst e
      rw [if_neg (by rw [h2]; decide), if_pos h1]
      omega
    · have := ih ⟨k, by omega, h1, h2⟩
      by_cases a : p n = true
      · rw [if_pos a, if_pos (h n a)]; omega
      · rw [if_neg a]; split <;> omega
theorem b10 {x j : Nat} (h : x < 1024) (hj : x.testBit j = true) : j < 10 := by
  rcases Nat.lt_or_ge j 10 with q | q
  · exact q
  · have := Nat.testBit_lt_two_pow (x := x) (i := j) (Nat.lt_of_lt_of_le h (show 2 ^ 10 ≤ 2 ^ j from Nat.pow_le_pow_right (by omega) q))
    rw [this] at hj; cases hj
theorem pc_sub {a b : Nat} (ha : a < 1024) (hb : b < 1024) (h : ∀ k, a.testBit k = true → b.testBit k = true) (hne : a ≠ b) : pc a < pc b := by
  rw [pc_cnt ha, pc_cnt hb]
  refine cntB_lt h 10 ?_
  apply Classical.byContradiction
  intro hn
  apply hne
  apply Nat.eq_of_testBit_eq
  intro i
  cases e : b.testBit i
  · cases e2 : a.testBit i
    · rfl
    · rw [h i e2] at e; cases e
  · cases e2 : a.testBit i
    · exact absurd ⟨i, b10 hb e, e, e2⟩ hn
    · rfl
theorem ws_sub {f : Nat → Nat} {a b : Nat} (h : ∀ k, a.testBit k = true → b.testBit k = true) : ∀ n, ws f n a ≤ ws f n b := by
  intro n
  induction n with
  | zero => exact Nat.le_refl _
  | succ n ih =>
    unfold ws
    by_cases z : a.testBit n = true
    · rw [if_pos z, if_pos (h n z)]; omega
    · rw [if_neg z]; split <;> omega
theorem pc_ws {s : Nat} (h : s < 1024) : pc s = ws (fun _ => 1) 10 s := by
  have key : ∀ s : Fin 1024, pc s.1 = ws (fun _ => 1) 10 s.1 := by decide +kernel
  exact key ⟨s, h⟩
theorem sub_le {a b : Nat} (h : ∀ k, a.testBit k = true → b.testBit k = true) : a ≤ b := by
  have : a &&& b = a := by
    apply Nat.eq_of_testBit_eq
    intro i
    rw [Nat.testBit_and]
    cases e : a.testBit i
    · rfl
    · rw [h i e]; rfl
  rw [← this]
  exact Nat.and_le_right
/-- those that close something of what is wanted -/
def chT (e1 : Nat → Nat) (w th : Nat) : Nat := orB (fun x => th.testBit x && decide (e1 x &&& w ≠ 0)) 10
def PM (e1 : Nat → Nat) (w th s : Nat) : Bool := decide (s &&& (1023 ^^^ th) = 0) && decide (w &&& (1023 ^^^ ow e1 10 s) = 0)
def PCl (e1 : Nat → Nat) (w th s : Nat) : Bool := decide (ow (fun j => e1 (cl (chT e1 w th) 10 j) &&& w) (ct (chT e1 w th) 10) s = w)
def cBest (e1 cost : Nat → Nat) (w th : Nat) : Nat := srB (PM e1 w th) (ws cost 10) pc (th + 1)
def cPlace (e1 cost : Nat → Nat) (w th : Nat) : Nat := srB (PCl e1 w th) (ws (fun j => cost (cl (chT e1 w th) 10 j)) (ct (chT e1 w th) 10)) pc (2 ^ ct (chT e1 w th) 10)
theorem cheap_eq {e1 cost : Nat → Nat} {w th : Nat} (he : ∀ x, x < 10 → e1 x < 1024) (hw : w < 1024) (hw1 : 1 ≤ w) (hth : th < 1024) : (cPlace e1 cost w th = 0 ↔ cBest e1 cost w th = 0) ∧ es (cl (chT e1 w th) 10) (ct (chT e1 w th) 10) (cPlace e1 cost w th) = cBest e1 cost w th ∧ ws (fun j => cost (cl (chT e1 w th) 10 j)) (ct (chT e1 w th) 10) (cPlace e1 cost w th) = ws cost 10 (cBest e1 cost w th) ∧ cPlace e1 cost w th < 2 ^ ct (chT e1 w th) 10 := by
  have hT : ∀ x, (chT e1 w th).testBit x = true ↔ x < 10 ∧ th.testBit x = true ∧ e1 x &&& w ≠ 0 := fun x => by
    unfold chT
    rw [orB_t]
    simp
  obtain ⟨c1, c2, c3, c4⟩ := comp (chT e1 w th) cost 10
  have k1 := (comp (chT e1 w th) (fun _ => 1) 10).1
  have hct := ct_le (chT e1 w th) 10
  have hp2 : 2 ^ ct (chT e1 w th) 10 ≤ 1024 := Nat.pow_le_pow_right (n := 2) (by omega) hct
  have hE : ∀ s, s < 2 ^ ct (chT e1 w th) 10 → pc s = pc (es (cl (chT e1 w th) 10) (ct (chT e1 w th) 10) s) := fun s hs => by
    have h1 := k1 s hs
    rw [pc_ws (by omega), pc_ws (s := es _ _ s) h1.1, ws_cut _ hs hct]
    exact h1.2
  -- what the sets close
  have hP : ∀ s, s < 2 ^ ct (chT e1 w th) 10 → (PCl e1 w th s = true ↔ PM e1 w th (es (cl (chT e1 w th) 10) (ct (chT e1 w th) 10) s) = true) := fun s hs => by
    have hlt := (c1 s hs).1
    have howlt := ow_lt (f := e1) (n := 10) he (es (cl (chT e1 w th) 10) (ct (chT e1 w th) 10) s) 10 (Nat.le_refl _)
    have hsub : es (cl (chT e1 w th) 10) (ct (chT e1 w th) 10) s &&& (1023 ^^^ th) = 0 := (told_sub hlt hth).mpr (fun k _ hb => ((hT k).mp (c4 s k hs hb)).2.1)
    unfold PCl PM
    rw [Bool.and_eq_true, decide_eq_true_eq, decide_eq_true_eq, decide_eq_true_eq, told_sub hw howlt]
    constructor
    · intro h
      refine ⟨hsub, fun i _ hi => ?_⟩
      rw [← h] at hi
      obtain ⟨j, a1, a2, a3⟩ := (ow_t _ _ _ _).mp hi
      rw [Nat.testBit_and, Bool.and_eq_true] at a3
      exact (ow_t _ _ _ _).mpr ⟨_, (cl_in _ 10 j a1).1, (es_t _ _ _ _).mpr ⟨j, a1, a2, rfl⟩, a3.1⟩
    · rintro ⟨-, h⟩
      apply Nat.eq_of_testBit_eq
      intro i
      cases e : w.testBit i
      · cases e2 : (ow (fun j => e1 (cl (chT e1 w th) 10 j) &&& w) (ct (chT e1 w th) 10) s).testBit i
        · rfl
        · obtain ⟨j, a1, a2, a3⟩ := (ow_t _ _ _ _).mp e2
          rw [Nat.testBit_and, e] at a3
          simp at a3
      · obtain ⟨x, a1, a2, a3⟩ := (ow_t _ _ _ _).mp (h i (b10 hw e) e)
        obtain ⟨j, b1, b2, b3⟩ := (es_t _ _ _ _).mp a2
        exact (ow_t _ _ _ _).mpr ⟨j, b1, b2, by rw [Nat.testBit_and, b3, a3, e]; rfl⟩
  have e0 : es (cl (chT e1 w th) 10) (ct (chT e1 w th) 10) 0 = 0 := by
    apply Nat.eq_of_testBit_eq
    intro i
    cases e : (es (cl (chT e1 w th) 10) (ct (chT e1 w th) 10) 0).testBit i
    · rw [Nat.zero_testBit]
    · obtain ⟨j, b1, b2, b3⟩ := (es_t _ _ _ _).mp e
      rw [Nat.zero_testBit] at b2; cases b2
  have hpos : 0 < 2 ^ ct (chT e1 w th) 10 := Nat.two_pow_pos _
  have inv : ∀ s, 1 ≤ s → s < 2 ^ ct (chT e1 w th) 10 → PCl e1 w th s = true → 1 ≤ es (cl (chT e1 w th) 10) (ct (chT e1 w th) 10) s ∧ es (cl (chT e1 w th) 10) (ct (chT e1 w th) 10) s < th + 1 := fun s h1 h2 h3 => by
    have := c2 0 s (by omega) h2
    refine ⟨by omega, ?_⟩
    have : es (cl (chT e1 w th) 10) (ct (chT e1 w th) 10) s ≤ th := sub_le (fun k hk => ((hT k).mp (c4 s k h2 hk)).2.1)
    omega
  unfold cBest cPlace
  rcases srB_ok (PM e1 w th) (ws cost 10) pc (th + 1) with ⟨m1, m2⟩ | ⟨m1, m2, m3, m4⟩
  · rcases srB_ok (PCl e1 w th) (ws (fun j => cost (cl (chT e1 w th) 10 j)) (ct (chT e1 w th) 10)) pc (2 ^ ct (chT e1 w th) 10) with ⟨n1, n2⟩ | ⟨n1, n2, n3, n4⟩
    · rw [m1, n1, e0, ws_0, ws_0]
      exact ⟨Iff.rfl, rfl, rfl, hpos⟩
    · have h1 := inv _ n1 n2 n3
      have := m2 _ h1.1 h1.2
      rw [(hP _ n2).mp n3] at this; cases this
  · -- the best one has none that closes nothing of it
    generalize hb : srB (PM e1 w th) (ws cost 10) pc (th + 1) = b at m1 m2 m3 m4 ⊢
    have hbl : b < 1024 := by omega
    have m3' : b &&& (1023 ^^^ th) = 0 ∧ w &&& (1023 ^^^ ow e1 10 b) = 0 := by
      unfold PM at m3
      simpa using m3
    have hbs := (told_sub hbl hth).mp m3'.1
    have hbw := (told_sub hw (ow_lt (f := e1) (n := 10) he b 10 (Nat.le_refl _))).mp m3'.2
    have hsub : ∀ k, (b &&& chT e1 w th).testBit k = true → b.testBit k = true := fun k hk => by
      rw [Nat.testBit_and, Bool.and_eq_true] at hk; exact hk.1
    have hle : b &&& chT e1 w th ≤ b := Nat.and_le_left
    have hcov : ∀ i, w.testBit i = true → ∃ x, x < 10 ∧ (b &&& chT e1 w th).testBit x = true ∧ (e1 x).testBit i = true := fun i hi => by
      obtain ⟨x, a1, a2, a3⟩ := (ow_t _ _ _ _).mp (hbw i (b10 hw hi) hi)
      refine ⟨x, a1, ?_, a3⟩
      rw [Nat.testBit_and, a2, (hT x).mpr ⟨a1, hbs x a1 a2, and_ne.mpr ⟨i, a3, hi⟩⟩]
      rfl
    have htP : PM e1 w th (b &&& chT e1 w th) = true := by
      unfold PM
      rw [Bool.and_eq_true, decide_eq_true_eq, decide_eq_true_eq]
      refine ⟨(told_sub (by omega) hth).mpr (fun k hk hb => hbs k hk (hsub k hb)), (told_sub hw (ow_lt (f := e1) (n := 10) he _ 10 (Nat.le_refl _))).mpr (fun i _ hi => ?_)⟩
      obtain ⟨x, a1, a2, a3⟩ := hcov i hi
      exact (ow_t _ _ _ _).mpr ⟨x, a1, a2, a3⟩
    have ht1 : 1 ≤ b &&& chT e1 w th := by
      obtain ⟨i, hi⟩ := Nat.exists_testBit_of_ne_zero (show w ≠ 0 by omega)
      obtain ⟨x, a1, a2, a3⟩ := hcov i hi
      rcases Nat.eq_zero_or_pos (b &&& chT e1 w th) with q | q
      · rw [q, Nat.zero_testBit] at a2; cases a2
      · exact q
    have heq : b &&& chT e1 w th = b := by
      apply Classical.byContradiction
      intro hne
      have h1 := m4 _ ht1 (by omega) htP hne
      have h2 := ws_sub (f := cost) hsub 10
      have h3 := pc_sub (by omega) hbl hsub hne
      unfold bet at h1
      omega
    obtain ⟨s, hs, hse⟩ := c3 b hbl (fun i hi => by
      rw [← heq, Nat.testBit_and, Bool.and_eq_true] at hi
      exact hi.2)
    have hs1 : 1 ≤ s := by
      rcases Nat.eq_zero_or_pos s with q | q
      · rw [q, e0] at hse; omega
      · exact q
    have hsP : PCl e1 w th s = true := (hP s hs).mpr (by rw [hse]; exact m3)
    rcases srB_ok (PCl e1 w th) (ws (fun j => cost (cl (chT e1 w th) 10 j)) (ct (chT e1 w th) 10)) pc (2 ^ ct (chT e1 w th) 10) with ⟨n1, n2⟩ | ⟨n1, n2, n3, n4⟩
    · rw [n2 s hs1 hs] at hsP; cases hsP
    · generalize srB (PCl e1 w th) (ws (fun j => cost (cl (chT e1 w th) 10 j)) (ct (chT e1 w th) 10)) pc (2 ^ ct (chT e1 w th) 10) = a at n1 n2 n3 n4 ⊢
      have hsa : s = a := by
        apply Classical.byContradiction
        intro hne
        have h1 := n4 s hs1 hs hsP hne
        have hai := inv a n1 n2 n3
        have hEne : es (cl (chT e1 w th) 10) (ct (chT e1 w th) 10) a ≠ b := fun q => by
          rcases Nat.lt_trichotomy a s with z | z | z
          · have := c2 a s z hs
            omega
          · exact hne z.symm
          · have := c2 s a z n2
            omega
        have h2 := m4 _ hai.1 hai.2 ((hP a n2).mp n3) hEne
        unfold bet at h1 h2
        rw [(c1 a n2).2, (c1 s hs).2, hE a n2, hE s hs, hse] at h1
        have hmono : a < s → es (cl (chT e1 w th) 10) (ct (chT e1 w th) 10) a < b := fun z => by
          have := c2 a s z hs
          omega
        omega
      subst hsa
      refine ⟨⟨fun q => by omega, fun q => by omega⟩, hse, ?_, hs⟩
      rw [← hse]
      exact (c1 s hs).2
