/-! lent(): what can be had at most, evening by evening -/
def rmW (W : Nat → Bool) (j : Nat) : Nat → Bool := fun i => if i = j then false else W i
def upT (T : Nat → Bool) (v : Nat) : Nat → Bool := fun d => if d = v then true else T d
abbrev avW (bg ed : Nat → Nat) (W : Nat → Bool) (d j : Nat) : Prop := W j = true ∧ bg j ≤ d ∧ d ≤ ed j
def optW (bg ed : Nat → Nat) (n : Nat) (T : Nat → Bool) : Nat → (Nat → Bool) → Nat
  | 0, _ => 0
  | m + 1, W => if T (99 - m) = true then optW bg ed n T m W else (List.range n).foldl (fun a j => if avW bg ed W (99 - m) j then max a (1 + optW bg ed n T m (rmW W j)) else a) (optW bg ed n T m W)
theorem fm_ge {p : Nat → Prop} [DecidablePred p] {f : Nat → Nat} : ∀ (L : List Nat) (a : Nat), a ≤ L.foldl (fun a j => if p j then max a (f j) else a) a := by
  intro L
  induction L with
  | nil => intro a; exact Nat.le_refl _
  | cons x L ih =>
    intro a
    refine Nat.le_trans ?_ (ih _)
    dsimp only
    split <;> omega
theorem fm_in {p : Nat → Prop} [DecidablePred p] {f : Nat → Nat} : ∀ (L : List Nat) (a x : Nat), x ∈ L → p x → f x ≤ L.foldl (fun a j => if p j then max a (f j) else a) a := by
  intro L
  induction L with
  | nil => intro a x hx; cases hx
  | cons y L ih =>
    intro a x hx px
    rcases List.mem_cons.mp hx with q | q
    · subst q
      refine Nat.le_trans ?_ (fm_ge (p := p) (f := f) L _)
      dsimp only
      rw [if_pos px]
      omega
    · exact ih _ x q px
theorem fm_or {p : Nat → Prop} [DecidablePred p] {f : Nat → Nat} : ∀ (L : List Nat) (a : Nat), L.foldl (fun a j => if p j then max a (f j) else a) a = a ∨ ∃ x, x ∈ L ∧ p x ∧ L.foldl (fun a j => if p j then max a (f j) else a) a = f x := by
  intro L
  induction L with
  | nil => intro a; exact Or.inl rfl
  | cons y L ih =>
    intro a
    rw [List.foldl_cons]
    rcases ih (if p y then max a (f y) else a) with q | ⟨x, h1, h2, h3⟩
    · rw [q]
      by_cases z : p y
      · rw [if_pos z]
        by_cases w : a ≤ f y
        · exact Or.inr ⟨y, List.mem_cons_self .., z, Nat.max_eq_right w⟩
        · exact Or.inl (Nat.max_eq_left (by omega))
      · rw [if_neg z]; exact Or.inl rfl
    · exact Or.inr ⟨x, List.mem_cons_of_mem _ h1, h2, h3⟩
section
variable {bg ed : Nat → Nat} {n : Nat}
theorem opt_skip (T : Nat → Bool) (m : Nat) (W : Nat → Bool) : optW bg ed n T m W ≤ optW bg ed n T (m + 1) W := by
  rw [optW]
  split
  · exact Nat.le_refl _
  · exact fm_ge (p := fun j => avW bg ed W (99 - m) j) (f := fun j => 1 + optW bg ed n T m (rmW W j)) _ _
theorem opt_T {T : Nat → Bool} {m : Nat} (h : T (99 - m) = true) (W : Nat → Bool) : optW bg ed n T (m + 1) W = optW bg ed n T m W := by rw [optW, if_pos h]
theorem opt_pick {T : Nat → Bool} {m : Nat} (h : ¬ T (99 - m) = true) {W : Nat → Bool} {j : Nat} (hj : j < n) (av : avW bg ed W (99 - m) j) : 1 + optW bg ed n T m (rmW W j) ≤ optW bg ed n T (m + 1) W := by
  rw [optW, if_neg h]
  exact fm_in (p := fun j => avW bg ed W (99 - m) j) (f := fun j => 1 + optW bg ed n T m (rmW W j)) _ _ j (List.mem_range.mpr hj) av
theorem opt_or (T : Nat → Bool) (m : Nat) (W : Nat → Bool) : optW bg ed n T (m + 1) W = optW bg ed n T m W ∨ (¬ T (99 - m) = true ∧ ∃ j, j < n ∧ avW bg ed W (99 - m) j ∧ optW bg ed n T (m + 1) W = 1 + optW bg ed n T m (rmW W j)) := by
  by_cases h : T (99 - m) = true
  · exact Or.inl (opt_T h W)
  · rw [optW, if_neg h]
    rcases fm_or (p := fun j => avW bg ed W (99 - m) j) (f := fun j => 1 + optW bg ed n T m (rmW W j)) (List.range n) (optW bg ed n T m W) with q | ⟨x, h1, h2, h3⟩
    · exact Or.inl q
    · exact Or.inr ⟨h, x, List.mem_range.mp h1, h2, h3⟩
theorem rm_comm (W : Nat → Bool) (i j : Nat) : rmW (rmW W i) j = rmW (rmW W j) i := by
  funext x
  unfold rmW
  by_cases a : x = i <;> by_cases b : x = j <;> simp [a, b]
theorem rm_at {W : Nat → Bool} {i j : Nat} (h : i ≠ j) : rmW W j i = W i := if_neg h
theorem rm_t {W : Nat → Bool} {i j : Nat} (h : rmW W j i = true) : i ≠ j ∧ W i = true := by
  unfold rmW at h
  by_cases q : i = j
  · rw [if_pos q] at h; cases h
  · rw [if_neg q] at h; exact ⟨q, h⟩
theorem opt_mono (T : Nat → Bool) : ∀ m (W W' : Nat → Bool), (∀ i, W i = true → W' i = true) → optW bg ed n T m W ≤ optW bg ed n T m W' := by
  intro m
  induction m with
  | zero => intro W W' _; exact Nat.le_refl _
  | succ m ih =>
    intro W W' h
    rcases opt_or (bg := bg) (ed := ed) (n := n) T m W with q | ⟨ht, j, hj, av, q⟩
    · rw [q]; exact Nat.le_trans (ih W W' h) (opt_skip T m W')
    · rw [q]
      have h1 := ih (rmW W j) (rmW W' j) (fun i hi => by
        obtain ⟨a, b⟩ := rm_t hi
        rw [rm_at a]
        exact h i b)
      have h2 := opt_pick (bg := bg) (ed := ed) (n := n) ht hj (W := W') ⟨h j av.1, av.2⟩
      omega
theorem opt_rm (T : Nat → Bool) (m : Nat) (W : Nat → Bool) (k : Nat) : optW bg ed n T m (rmW W k) ≤ optW bg ed n T m W := opt_mono T m _ _ (fun _ hi => (rm_t hi).2)
theorem opt_lip (T : Nat → Bool) (k : Nat) : ∀ m (W : Nat → Bool), optW bg ed n T m W ≤ optW bg ed n T m (rmW W k) + 1 := by
  intro m
  induction m with
  | zero => intro W; exact Nat.zero_le _
  | succ m ih =>
    intro W
    have hs := opt_skip (bg := bg) (ed := ed) (n := n) T m (rmW W k)
    rcases opt_or (bg := bg) (ed := ed) (n := n) T m W with q | ⟨ht, j, hj, av, q⟩
    · rw [q]; have := ih W; omega
    · rw [q]
      by_cases e : j = k
      · rw [e]; omega
      · have h1 := ih (rmW W j)
        rw [rm_comm] at h1
        have h2 := opt_pick (bg := bg) (ed := ed) (n := n) ht hj (W := rmW W k) ⟨by rw [rm_at e]; exact av.1, av.2⟩
        omega
theorem opt_late (T : Nat → Bool) {i j : Nat} (hij : i ≠ j) (hj : j < n) (he : ed i ≤ ed j) : ∀ m (W : Nat → Bool), bg j ≤ 100 - m → W i = true → W j = true → optW bg ed n T m (rmW W j) ≤ optW bg ed n T m (rmW W i) := by
  intro m
  induction m with
  | zero => intro W _ _ _; exact Nat.le_refl _
  | succ m ih =>
    intro W hb wi wj
    have hs := opt_skip (bg := bg) (ed := ed) (n := n) T m (rmW W i)
    rcases opt_or (bg := bg) (ed := ed) (n := n) T m (rmW W j) with q | ⟨ht, x, hx, av, q⟩
    · rw [q]; have := ih W (by omega) wi wj; omega
    · rw [q]
      obtain ⟨xj, wx⟩ := rm_t av.1
      by_cases e : x = i
      · subst e
        have h2 := opt_pick (bg := bg) (ed := ed) (n := n) ht hj (W := rmW W x) ⟨by rw [rm_at (Ne.symm xj)]; exact wj, by omega, by have := av.2.2; omega⟩
        rw [rm_comm] at h2
        exact h2
      · have h1 := ih (rmW W x) (by omega) (by rw [rm_at (Ne.symm e)]; exact wi) (by rw [rm_at (Ne.symm xj)]; exact wj)
        rw [rm_comm, rm_comm W x i] at h1
        have h2 := opt_pick (bg := bg) (ed := ed) (n := n) ht hx (W := rmW W i) ⟨by rw [rm_at e]; exact wx, av.2⟩
        omega
theorem opt_cong {T T' : Nat → Bool} : ∀ m (W : Nat → Bool), m ≤ 100 → (∀ d, 100 - m ≤ d → T d = T' d) → optW bg ed n T m W = optW bg ed n T' m W := by
  intro m
  induction m with
  | zero => intro W _ _; rfl
  | succ m ih =>
    intro W hm h
    have h0 := h (99 - m) (by omega)
    have hh : ∀ W, optW bg ed n T m W = optW bg ed n T' m W := fun W => ih W (by omega) (fun d hd => h d (by omega))
    rw [optW, optW, h0]
    simp only [hh]
theorem up_v (T : Nat → Bool) (v : Nat) : upT T v v = true := if_pos rfl
theorem up_o {T : Nat → Bool} {v d : Nat} (h : d ≠ v) : upT T v d = T d := if_neg h
/-- an evening given to k -/
theorem opt_a {T : Nat → Bool} {k v : Nat} (hk : k < n) (hv : v < 100) (ht : ¬ T v = true) (h1 : bg k ≤ v) (h2 : v ≤ ed k) : ∀ m (W : Nat → Bool), m ≤ 100 → 100 - m ≤ v → W k = true → 1 + optW bg ed n (upT T v) m (rmW W k) ≤ optW bg ed n T m W := by
  intro m
  induction m with
  | zero => intro W _ h; omega
  | succ m ih =>
    intro W hm hd wk
    by_cases e : 99 - m = v
    · rw [opt_T (by rw [e]; exact up_v T v), opt_cong (T := upT T v) (T' := T) m _ (by omega) (fun d hd' => up_o (by omega))]
      exact opt_pick (by rw [e]; exact ht) hk ⟨wk, by omega, by omega⟩
    · have hs := opt_skip (bg := bg) (ed := ed) (n := n) T m W
      rcases opt_or (bg := bg) (ed := ed) (n := n) (upT T v) m (rmW W k) with q | ⟨hT, j, hj, av, q⟩
      · rw [q]; have := ih W (by omega) (by omega) wk; omega
      · rw [q]
        obtain ⟨jk, wj⟩ := rm_t av.1
        rw [up_o e] at hT
        have h3 := ih (rmW W j) (by omega) (by omega) (by rw [rm_at (Ne.symm jk)]; exact wk)
        rw [rm_comm] at h3
        have h4 := opt_pick (bg := bg) (ed := ed) (n := n) hT hj (W := W) ⟨wj, av.2⟩
        omega
/-- where k counts, some evening is as good -/
theorem opt_b {T : Nat → Bool} {k : Nat} : ∀ m (W : Nat → Bool), m ≤ 100 → optW bg ed n T m (rmW W k) + 1 ≤ optW bg ed n T m W → ∃ v, 100 - m ≤ v ∧ v < 100 ∧ ¬ T v = true ∧ bg k ≤ v ∧ v ≤ ed k ∧ optW bg ed n T m W ≤ optW bg ed n (upT T v) m (rmW W k) + 1 := by
  intro m
  induction m with
  | zero => intro W _ h; exact absurd h (by show ¬ (0 + 1 ≤ 0); omega)
  | succ m ih =>
    intro W hm h
    have hs := opt_skip (bg := bg) (ed := ed) (n := n) T m (rmW W k)
    rcases opt_or (bg := bg) (ed := ed) (n := n) T m W with q | ⟨hT, j, hj, av, q⟩
    · obtain ⟨v, a1, a2, a3, a4, a5, a6⟩ := ih W (by omega) (by omega)
      have h2 := opt_skip (bg := bg) (ed := ed) (n := n) (upT T v) m (rmW W k)
      exact ⟨v, by omega, a2, a3, a4, a5, by omega⟩
    · by_cases e : j = k
      · subst e
        refine ⟨99 - m, by omega, by omega, hT, av.2.1, av.2.2, ?_⟩
        rw [q, opt_T (up_v T _), opt_cong (T := upT T (99 - m)) (T' := T) m _ (by omega) (fun d hd' => up_o (by omega))]
        omega
      · have h2 := opt_pick (bg := bg) (ed := ed) (n := n) hT hj (W := rmW W k) ⟨by rw [rm_at e]; exact av.1, av.2⟩
        rw [rm_comm] at h2
        obtain ⟨v, a1, a2, a3, a4, a5, a6⟩ := ih (rmW W j) (by omega) (by omega)
        rw [rm_comm] at a6
        have h3 := opt_pick (bg := bg) (ed := ed) (n := n) (T := upT T v) (m := m) (by rw [up_o (by omega)]; exact hT) hj (W := rmW W k) ⟨by rw [rm_at e]; exact av.1, av.2⟩
        exact ⟨v, by omega, a2, a3, a4, a5, by omega⟩
/-- the earliest end first, the lower number where they are equal -/
def selW (bg ed : Nat → Nat) (W : Nat → Bool) (d : Nat) : Nat → Option Nat
  | 0 => none
  | x + 1 => if avW bg ed W d x then (match selW bg ed W d x with | none => some x | some b => if ed b ≤ ed x then some b else some x) else selW bg ed W d x
theorem sel_none {W : Nat → Bool} {d : Nat} : ∀ x, selW bg ed W d x = none → ∀ j, j < x → ¬ avW bg ed W d j := by
  intro x
  induction x with
  | zero => intro _ j hj; omega
  | succ x ih =>
    intro h j hj
    unfold selW at h
    by_cases c : avW bg ed W d x
    · rw [if_pos c] at h
      split at h
      · cases h
      · split at h <;> cases h
    · rw [if_neg c] at h
      by_cases q : j = x
      · rw [q]; exact c
      · exact ih h j (by omega)
theorem sel_some {W : Nat → Bool} {d : Nat} : ∀ x b, selW bg ed W d x = some b → b < x ∧ avW bg ed W d b ∧ ∀ j, j < x → avW bg ed W d j → ed b ≤ ed j := by
  intro x
  induction x with
  | zero => intro b h; cases h
  | succ x ih =>
    intro b h
    unfold selW at h
    by_cases c : avW bg ed W d x
    · rw [if_pos c] at h
      split at h
      · rename_i hn
        have e := Option.some.inj h
        subst e
        refine ⟨by omega, c, fun j hj av => ?_⟩
        by_cases q : j = x
        · rw [q]; exact Nat.le_refl _
        · exact absurd av (sel_none x hn j (by omega))
      · rename_i b' hb
        obtain ⟨h1, h2, h3⟩ := ih b' hb
        split at h
        · rename_i hle
          have e := Option.some.inj h
          subst e
          refine ⟨by omega, h2, fun j hj av => ?_⟩
          by_cases q : j = x
          · rw [q]; exact hle
          · exact h3 j (by omega) av
        · rename_i hle
          have e := Option.some.inj h
          subst e
          refine ⟨by omega, c, fun j hj av => ?_⟩
          by_cases q : j = x
          · rw [q]; exact Nat.le_refl _
          · have := h3 j (by omega) av; omega
    · rw [if_neg c] at h
      obtain ⟨h1, h2, h3⟩ := ih b h
      refine ⟨by omega, h2, fun j hj av => ?_⟩
      by_cases q : j = x
      · rw [q] at av; exact absurd av c
      · exact h3 j (by omega) av
def grdW (bg ed : Nat → Nat) (n : Nat) (T : Nat → Bool) : Nat → (Nat → Bool) → Nat
  | 0, _ => 0
  | m + 1, W => if T (99 - m) = true then grdW bg ed n T m W else match selW bg ed W (99 - m) n with | none => grdW bg ed n T m W | some j => 1 + grdW bg ed n T m (rmW W j)
theorem grd_opt (T : Nat → Bool) : ∀ m (W : Nat → Bool), grdW bg ed n T m W = optW bg ed n T m W := by
  intro m
  induction m with
  | zero => intro W; rfl
  | succ m ih =>
    intro W
    rw [grdW]
    by_cases h : T (99 - m) = true
    · rw [if_pos h, opt_T h, ih]
    · rw [if_neg h]
      match e : selW bg ed W (99 - m) n with
      | none =>
        dsimp only
        rw [ih]
        rcases opt_or (bg := bg) (ed := ed) (n := n) T m W with q | ⟨_, j, hj, av, _⟩
        · exact q.symm
        · exact absurd av (sel_none n e j hj)
      | some b =>
        dsimp only
        rw [ih]
        obtain ⟨h1, h2, h3⟩ := sel_some n b e
        have hp := opt_pick (bg := bg) (ed := ed) (n := n) h h1 h2
        have hl := opt_lip (bg := bg) (ed := ed) (n := n) T b m W
        rcases opt_or (bg := bg) (ed := ed) (n := n) T m W with q | ⟨_, j, hj, av, q⟩
        · omega
        · by_cases ej : b = j
          · rw [q, ej]
          · have := opt_late (bg := bg) (ed := ed) (n := n) T ej hj (h3 j hj av) m W (by have := av.2.1; omega) h2.1 av.1
            omega
end
