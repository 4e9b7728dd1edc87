/-! stories' questions: storyIs(), knots() -/
theorem p2_6 {k : Nat} (h : k < 6) : 2 ^ k < 64 := Nat.pow_lt_pow_right (n := 6) (by omega) h
theorem p2_10 {k : Nat} (h : k < 10) : 2 ^ k < 1024 := Nat.pow_lt_pow_right (n := 10) (by omega) h
theorem trn_bits {c s : Nat} (hc : c < 22) (hs : s < 1024) : (if c < 20 then 2 ^ (c % 10) else trn s c &&& (1023 ^^^ s)) < 1024 := by
  have h := trn_lt hc hs
  split
  · exact p2_10 (Nat.mod_lt _ (by omega))
  · have : trn s c &&& (1023 ^^^ s) ≤ trn s c := Nat.and_le_left
    omega
theorem comesOf_lt : ∀ (ts : List Nat) (s : Nat), (∀ c ∈ ts, c < 22) → s < 1024 → comesOf ts s < 1024 := by
  intro ts
  induction ts with
  | nil => intro s _ _; exact (by decide : (0 : Nat) < 1024)
  | cons c r ih =>
    intro s h hs
    have hc := h c List.mem_cons_self
    exact Nat.or_lt_two_pow (n := 10) (trn_bits hc hs) (ih _ (fun d hd => h d (List.mem_cons_of_mem _ hd)) (trn_lt hc hs))
theorem wfS_mem {ts : List Nat} (hw : wfS ts) : ∀ c ∈ ts, c < 22 := fun c hc => by
  obtain ⟨j, hj, e⟩ := List.getElem_of_mem hc
  have := hw.2 j hj
  rw [List.getD_eq_getElem?_getD, List.getElem?_eq_getElem hj] at this
  rw [← e]; exact this
/-- the threads that come in story k -/
def cm (S : Nat → List Nat) (k : Nat) : Nat := comesOf (S k) 0
theorem cm_lt {S : Nat → List Nat} {k : Nat} (hw : wfS (S k)) : cm S k < 1024 := comesOf_lt _ _ (wfS_mem hw) (by omega)
def thr (S : Nat → List Nat) (g : Nat) : Nat → Nat
  | 0 => 0
  | n + 1 => if S n ≠ [] ∧ g.testBit n = true then thr S g n ||| cm S n else thr S g n
theorem thr_lt {S : Nat → List Nat} (hw : ∀ k, k < 6 → wfS (S k)) (g : Nat) : ∀ n, n ≤ 6 → thr S g n < 1024 := by
  intro n
  induction n with
  | zero => intro _; exact (by decide : (0 : Nat) < 1024)
  | succ n ih =>
    intro h
    unfold thr
    split
    · exact Nat.or_lt_two_pow (n := 10) (ih (by omega)) (cm_lt (hw n (by omega)))
    · exact ih (by omega)
theorem thr_t {S : Nat → List Nat} {g : Nat} : ∀ n i, (thr S g n).testBit i = true ↔ ∃ k, k < n ∧ S k ≠ [] ∧ g.testBit k = true ∧ (cm S k).testBit i = true := by
  intro n
  induction n with
  | zero => intro i; simp [thr]
  | succ n ih =>
    intro i
    unfold thr
    by_cases h : S n ≠ [] ∧ g.testBit n = true
    · rw [if_pos h, Nat.testBit_or, Bool.or_eq_true, ih]
      constructor
      · rintro (⟨k, h1, h2⟩ | h1)
        · exact ⟨k, by omega, h2⟩
        · exact ⟨n, by omega, h.1, h.2, h1⟩
      · rintro ⟨k, h1, h2, h3, h4⟩
        by_cases e : k = n
        · subst e; exact Or.inr h4
        · exact Or.inl ⟨k, by omega, h2, h3, h4⟩
    · rw [if_neg h, ih]
      constructor
      · rintro ⟨k, h1, h2⟩
        exact ⟨k, by omega, h2⟩
      · rintro ⟨k, h1, h2, h3, h4⟩
        by_cases e : k = n
        · subst e; exact absurd ⟨h2, h3⟩ h
        · exact ⟨k, by omega, h2, h3, h4⟩
theorem and_ne {a b : Nat} : a &&& b ≠ 0 ↔ ∃ i, a.testBit i = true ∧ b.testBit i = true := by
  constructor
  · intro h
    obtain ⟨i, hi⟩ := Nat.exists_testBit_of_ne_zero h
    rw [Nat.testBit_and, Bool.and_eq_true] at hi
    exact ⟨i, hi⟩
  · rintro ⟨i, h1, h2⟩ e
    have : (a &&& b).testBit i = true := by rw [Nat.testBit_and, h1, h2]; rfl
    rw [e, Nat.zero_testBit] at this
    cases this
def adj (S : Nat → List Nat) (a b : Nat) : Prop := S a ≠ [] ∧ S b ≠ [] ∧ cm S a &&& cm S b ≠ 0
theorem adj_sym {S : Nat → List Nat} {a b : Nat} (h : adj S a b) : adj S b a := ⟨h.2.1, h.1, by rw [Nat.and_comm]; exact h.2.2⟩
def clo (S : Nat → List Nat) (T : Nat) : Prop := ∀ a b, a < 6 → b < 6 → T.testBit a = true → adj S a b → T.testBit b = true
def isK (S : Nat → List Nat) (k K : Nat) : Prop := K < 64 ∧ K.testBit k = true ∧ clo S K ∧ ∀ T, T.testBit k = true → clo S T → ∀ j, K.testBit j = true → T.testBit j = true
theorem isK_u {S : Nat → List Nat} {k K K' : Nat} (h : isK S k K) (h' : isK S k K') : K = K' := by
  apply Nat.eq_of_testBit_eq
  intro i
  have a := h.2.2.2 K' h'.2.1 h'.2.2.1 i
  have b := h'.2.2.2 K h.2.1 h.2.2.1 i
  cases e : K.testBit i <;> cases e' : K'.testBit i <;> simp_all
theorem b64 {K j : Nat} (h : K < 64) (hj : K.testBit j = true) : j < 6 := by
  rcases Nat.lt_or_ge j 6 with q | q
  · exact q
  · have := Nat.testBit_lt_two_pow (x := K) (i := j) (Nat.lt_of_lt_of_le h (show 2 ^ 6 ≤ 2 ^ j from Nat.pow_le_pow_right (by omega) q))
    rw [this] at hj; cases hj
/-- one round of the class -/
def rnd (S : Nat → List Nat) (g th : Nat) : Nat → Nat
  | 0 => g
  | n + 1 => if S n ≠ [] ∧ cm S n &&& th ≠ 0 then rnd S g th n ||| 2 ^ n else rnd S g th n
theorem rnd_t {S : Nat → List Nat} {g th : Nat} : ∀ n j, (rnd S g th n).testBit j = true ↔ (g.testBit j = true ∨ (j < n ∧ S j ≠ [] ∧ cm S j &&& th ≠ 0)) := by
  intro n
  induction n with
  | zero => intro j; simp [rnd]
  | succ n ih =>
    intro j
    unfold rnd
    by_cases h : S n ≠ [] ∧ cm S n &&& th ≠ 0
    · rw [if_pos h, tb_or, ih]
      constructor
      · rintro ((q | ⟨q, r⟩) | q)
        · exact Or.inl q
        · exact Or.inr ⟨by omega, r⟩
        · subst q; exact Or.inr ⟨by omega, h⟩
      · rintro (q | ⟨q, r⟩)
        · exact Or.inl (Or.inl q)
        · by_cases e : n = j
          · exact Or.inr e
          · exact Or.inl (Or.inr ⟨by omega, r⟩)
    · rw [if_neg h, ih]
      constructor
      · rintro (q | ⟨q, r⟩)
        · exact Or.inl q
        · exact Or.inr ⟨by omega, r⟩
      · rintro (q | ⟨q, r⟩)
        · exact Or.inl q
        · by_cases e : n = j
          · subst e; exact absurd r h
          · exact Or.inr ⟨by omega, r⟩
theorem rnd_lt {S : Nat → List Nat} {g th : Nat} (hg : g < 64) : ∀ n, n ≤ 6 → rnd S g th n < 64 := by
  intro n
  induction n with
  | zero => intro _; exact hg
  | succ n ih =>
    intro h
    unfold rnd
    split
    · exact Nat.or_lt_two_pow (n := 6) (ih (by omega)) (p2_6 (by omega))
    · exact ih (by omega)
def grp (S : Nat → List Nat) (k : Nat) : Nat → Nat
  | 0 => 2 ^ k
  | r + 1 => rnd S (grp S k r) (thr S (grp S k r) 6) 6
theorem grp_lt {S : Nat → List Nat} {k : Nat} (hk : k < 6) : ∀ r, grp S k r < 64 := by
  intro r
  induction r with
  | zero => exact p2_6 hk
  | succ r ih => exact rnd_lt ih 6 (Nat.le_refl _)
theorem grp_t {S : Nat → List Nat} {k r j : Nat} : (grp S k (r + 1)).testBit j = true ↔ ((grp S k r).testBit j = true ∨ (j < 6 ∧ ∃ a, a < 6 ∧ (grp S k r).testBit a = true ∧ adj S a j)) := by
  show (rnd S (grp S k r) (thr S (grp S k r) 6) 6).testBit j = true ↔ _
  rw [rnd_t]
  constructor
  · rintro (q | ⟨q, r1, r2⟩)
    · exact Or.inl q
    · obtain ⟨i, h1, h2⟩ := and_ne.mp r2
      obtain ⟨a, h3, h4, h5, h6⟩ := (thr_t 6 i).mp h2
      exact Or.inr ⟨q, a, h3, h5, h4, r1, and_ne.mpr ⟨i, h6, h1⟩⟩
  · rintro (q | ⟨q, a, h1, h2, h3, h4, h5⟩)
    · exact Or.inl q
    · obtain ⟨i, h6, h7⟩ := and_ne.mp h5
      exact Or.inr ⟨q, h4, and_ne.mpr ⟨i, h7, (thr_t 6 i).mpr ⟨a, h1, h3, h2, h6⟩⟩⟩
theorem pc_grow {a b : Nat} (ha : a < 64) (hb : b < 64) (h : ∀ j, a.testBit j = true → b.testBit j = true) (hne : a ≠ b) : pc a < pc b := by
  have key : ∀ a b : Fin 64, a.1 &&& b.1 = a.1 → a.1 ≠ b.1 → pc a.1 < pc b.1 := by decide +kernel
  refine key ⟨a, ha⟩ ⟨b, hb⟩ ?_ hne
  apply Nat.eq_of_testBit_eq
  intro i
  rw [Nat.testBit_and]
  cases e : a.testBit i
  · rfl
  · rw [h i e]; rfl
theorem pc6 {a : Nat} (ha : a < 64) : pc a ≤ 6 := by
  have key : ∀ a : Fin 64, pc a.1 ≤ 6 := by decide +kernel
  exact key ⟨a, ha⟩
theorem grp_st {S : Nat → List Nat} {k : Nat} (hk : k < 6) : ∃ r, r ≤ 5 ∧ grp S k (r + 1) = grp S k r := by
  apply Classical.byContradiction
  intro h
  have hs : ∀ r, r ≤ 5 → pc (grp S k r) < pc (grp S k (r + 1)) := fun r hr => pc_grow (grp_lt hk r) (grp_lt hk _) (fun j hj => grp_t.mpr (Or.inl hj)) (fun e => h ⟨r, hr, e.symm⟩)
  have p0 : 1 ≤ pc (grp S k 0) := by
    have key : ∀ k : Fin 6, 1 ≤ pc (2 ^ k.1) := by decide +kernel
    exact key ⟨k, hk⟩
  have h0 := hs 0 (by omega)
  have h1 := hs 1 (by omega)
  have h2 := hs 2 (by omega)
  have h3 := hs 3 (by omega)
  have h4 := hs 4 (by omega)
  have h5 := hs 5 (by omega)
  simp only [Nat.reduceAdd] at h0 h1 h2 h3 h4 h5
  have h6 := pc6 (grp_lt (S := S) hk 6)
  omega
theorem grp_fix {S : Nat → List Nat} {k r : Nat} (h : grp S k (r + 1) = grp S k r) : ∀ d, grp S k (r + d) = grp S k r := by
  intro d
  induction d with
  | zero => rfl
  | succ d ih =>
    show rnd S (grp S k (r + d)) (thr S (grp S k (r + d)) 6) 6 = _
    rw [ih]
    exact h
theorem grp_in {S : Nat → List Nat} {k T : Nat} (h1 : T.testBit k = true) (h2 : clo S T) : ∀ r j, (grp S k r).testBit j = true → T.testBit j = true := by
  intro r
  induction r with
  | zero =>
    intro j hj
    have e : grp S k 0 = 2 ^ k := rfl
    rw [e, Nat.testBit_two_pow] at hj
    have : k = j := by simpa using hj
    subst this; exact h1
  | succ r ih =>
    intro j hj
    rcases grp_t.mp hj with q | ⟨q, a, h3, h4, h5⟩
    · exact ih j q
    · exact h2 a j h3 q (ih a h4) h5
theorem grp_k {S : Nat → List Nat} {k : Nat} : ∀ r, (grp S k r).testBit k = true := by
  intro r
  induction r with
  | zero => show (2 ^ k).testBit k = true; rw [Nat.testBit_two_pow]; simp
  | succ r ih => exact grp_t.mpr (Or.inl ih)
theorem grp_isK {S : Nat → List Nat} {k : Nat} (hk : k < 6) : isK S k (grp S k 6) := by
  obtain ⟨r, hr, e⟩ := grp_st (S := S) hk
  have e6 : grp S k 6 = grp S k r := by
    have := grp_fix e (6 - r)
    rw [show r + (6 - r) = 6 by omega] at this
    exact this
  refine ⟨grp_lt hk 6, grp_k 6, fun a b ha hb h1 h2 => ?_, fun T h1 h2 => grp_in h1 h2 6⟩
  rw [e6] at h1 ⊢
  rw [← e]
  exact grp_t.mpr (Or.inr ⟨hb, a, ha, h1, h2⟩)
/-- KNOTS -/
def kn (S : Nat → List Nat) (k : Nat) : Nat := grp S k 6
theorem kn_sub {S : Nat → List Nat} {j k : Nat} (hj : j < 6) (hk : k < 6) (h : (kn S j).testBit k = true) : ∀ i, (kn S k).testBit i = true → (kn S j).testBit i = true :=
  (grp_isK hk).2.2.2 _ h (grp_isK hj).2.2.1
theorem kn_sym {S : Nat → List Nat} {j k : Nat} (hj : j < 6) (hk : k < 6) (h : (kn S j).testBit k = true) : (kn S k).testBit j = true := by
  apply Classical.byContradiction
  intro hn
  have hT : ∀ i, (kn S j &&& (1023 ^^^ kn S k)).testBit i = true ↔ (kn S j).testBit i = true ∧ ¬ (kn S k).testBit i = true := by
    intro i
    rw [Nat.testBit_and, Nat.testBit_xor, Bool.and_eq_true]
    constructor
    · rintro ⟨h1, h2⟩
      have hi := b64 (grp_isK hj).1 h1
      have key : ∀ i : Fin 6, Nat.testBit 1023 i.1 = true := by decide +kernel
      rw [key ⟨i, hi⟩] at h2
      exact ⟨h1, fun q => by rw [q] at h2; cases h2⟩
    · rintro ⟨h1, h2⟩
      have hi := b64 (grp_isK hj).1 h1
      have key : ∀ i : Fin 6, Nat.testBit 1023 i.1 = true := by decide +kernel
      rw [key ⟨i, hi⟩]
      refine ⟨h1, ?_⟩
      cases e : (kn S k).testBit i
      · rfl
      · exact absurd e h2
  have hc : clo S (kn S j &&& (1023 ^^^ kn S k)) := fun a b ha hb h1 h2 => by
    rw [hT] at h1 ⊢
    refine ⟨(grp_isK hj).2.2.1 a b ha hb h1.1 h2, fun q => h1.2 ?_⟩
    exact (grp_isK hk).2.2.1 b a hb ha q (adj_sym h2)
  have := (grp_isK hj).2.2.2 _ ((hT j).mpr ⟨(grp_isK hj).2.1, hn⟩) hc k h
  exact ((hT k).mp this).2 (grp_isK hk).2.1
theorem kn_eq {S : Nat → List Nat} {j k : Nat} (hj : j < 6) (hk : k < 6) (h : (kn S j).testBit k = true) : kn S k = kn S j := by
  apply Nat.eq_of_testBit_eq
  intro i
  have a := kn_sub hj hk h i
  have b := kn_sub hk hj (kn_sym hj hk h) i
  cases e : (kn S k).testBit i <;> cases e' : (kn S j).testBit i <;> simp_all
theorem kn_told {S : Nat → List Nat} {k : Nat} (hk : k < 6) (ht : S k ≠ []) {j : Nat} (h : (kn S k).testBit j = true) : j < 6 ∧ S j ≠ [] := by
  have hj := b64 (grp_isK hk).1 h
  have hc : clo S (orB (tS S) 6) := fun a b ha hb h1 h2 => by
    rw [orB_t]
    simp [hb, tS, h2.2.1]
  have := (grp_isK hk).2.2.2 _ (by rw [orB_t]; simp [hk, tS, ht]) hc j h
  rw [orB_t] at this
  simp [tS] at this
  exact ⟨hj, fun z => this.2 z⟩
