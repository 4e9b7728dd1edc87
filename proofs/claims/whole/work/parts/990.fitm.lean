/-! fitting(): fewest left out -/
def vL (a : Nat) : List Nat → Nat → Nat
  | [], s => if s &&& (1023 ^^^ a) = 0 then 0 else 1000
  | c :: r, s => min (vL a r (trn s c)) (vL a r s + 1)
def wkF (a : Nat) : List Nat → Nat → Nat → List Nat
  | [], _, _ => []
  | c :: r, s, t => if vL a r s + 1 ≤ vL a r (trn s c) then t :: wkF a r s (t + 1) else wkF a r (trn s c) (t + 1)
theorem vL_rg (a : Nat) : ∀ r s, vL a r s ≤ r.length ∨ (1000 ≤ vL a r s ∧ vL a r s ≤ 1000 + r.length) := by
  intro r
  induction r with
  | nil =>
    intro s
    unfold vL
    split
    · exact Or.inl (Nat.zero_le _)
    · exact Or.inr ⟨Nat.le_refl _, by show 1000 ≤ 1000 + 0; omega⟩
  | cons c r ih =>
    intro s
    have h1 := ih (trn s c)
    have h2 := ih s
    unfold vL
    show min _ _ ≤ r.length + 1 ∨ _
    have : (c :: r).length = r.length + 1 := rfl
    omega
theorem vL_0 (a : Nat) : ∀ r, vL a r 0 ≤ r.length := by
  intro r
  induction r with
  | nil => unfold vL; rw [Nat.zero_and, if_pos rfl]; exact Nat.le_refl _
  | cons c r ih => unfold vL; show min _ _ ≤ r.length + 1; omega
theorem wkF_len (a : Nat) : ∀ r s t, vL a r s < 1000 → (wkF a r s t).length = vL a r s := by
  intro r
  induction r with
  | nil =>
    intro s t h
    unfold vL at h ⊢
    by_cases q : s &&& (1023 ^^^ a) = 0
    · rw [if_pos q]; rfl
    · rw [if_neg q] at h; omega
  | cons c r ih =>
    intro s t h
    unfold vL at h ⊢
    unfold wkF
    by_cases q : vL a r s + 1 ≤ vL a r (trn s c)
    · rw [if_pos q]
      show (wkF a r s (t + 1)).length + 1 = _
      rw [ih s (t + 1) (by omega)]
      omega
    · rw [if_neg q, ih (trn s c) (t + 1) (by omega)]
      omega
def upV (v : Nat) : Nat := if v < 500 then v else v + 999999000
theorem upV_1 {v : Nat} (h : v ≠ 499) : upV (v + 1) = upV v + 1 := by
  unfold upV
  by_cases q : v < 499
  · rw [if_pos (by omega), if_pos (by omega)]
  · exact (if_neg (by omega)).trans ((Nat.add_right_comm v 1 999999000).trans (congrArg (fun x => x + 1) (if_neg (by omega)).symm))
theorem upV_le {v w : Nat} : upV v ≤ upV w ↔ v ≤ w := by
  unfold upV
  by_cases q : v < 500 <;> by_cases r : w < 500 <;> simp only [q, r, if_true, if_false] <;> omega
theorem upV_min (v w : Nat) : upV (min v w) = min (upV v) (upV w) := by
  rcases Nat.le_total v w with h | h
  · rw [Nat.min_eq_left h, Nat.min_eq_left (upV_le.mpr h)]
  · rw [Nat.min_eq_right h, Nat.min_eq_right (upV_le.mpr h)]
theorem upV_lt {a : Nat} {r : List Nat} (hr : r.length ≤ 72) (s : Nat) : upV (vL a r s) < 2 ^ 31 - 1 ∧ vL a r s ≠ 499 := by
  have := vL_rg a r s
  unfold upV
  split <;> omega
/-! all that can ever be open -/
abbrev subS (s T : Nat) : Prop := s &&& (1023 ^^^ T) = 0
def nmO (T c : Nat) : Nat := if 10 ≤ c ∧ c < 20 then T else T ||| (if c < 10 then 2 ^ c else 0)
def stF (T c : Nat) : Nat := if c = 20 then trn T 20 else T
def tN (ts : List Nat) : Nat := ts.foldl nmO 0
def tT (ts : List Nat) (t : Nat) : Nat := (ts.take t).foldl stF (tN ts)
theorem sub_i {s T : Nat} (hs : s < 1024) : subS s T ↔ ∀ i, i < 10 → s.testBit i = true → T.testBit i = true := by
  constructor
  · intro h i hi hb
    have := congrArg (fun x => Nat.testBit x i) h
    simp only [Nat.testBit_and, Nat.testBit_xor, Nat.zero_testBit] at this
    rw [hb, show (1023 : Nat) = 2 ^ 10 - 1 by decide, Nat.testBit_two_pow_sub_one] at this
    simp [hi] at this
    exact this
  · intro h
    apply Nat.eq_of_testBit_eq
    intro i
    rw [Nat.testBit_and, Nat.testBit_xor, Nat.zero_testBit, show (1023 : Nat) = 2 ^ 10 - 1 by decide, Nat.testBit_two_pow_sub_one]
    by_cases q : i < 10
    · by_cases b : s.testBit i = true
      · rw [h i q b, b]; simp [q]
      · simp [b]
    · have : s.testBit i = false := Nat.testBit_lt_two_pow (Nat.lt_of_lt_of_le hs (Nat.pow_le_pow_right (n := 2) (by omega) (by omega : 10 ≤ i)))
      rw [this]; simp
theorem star_b : ∀ s < 1024, ∀ i < 10, (trn s 20).testBit i = (s.testBit i || (List.range i).all (fun j => s.testBit j)) := by decide +kernel
theorem sub_tr {a b c : Nat} (ha : a < 1024) (hb : b < 1024) (h1 : subS a b) (h2 : subS b c) : subS a c := (sub_i ha).mpr (fun i hi h => (sub_i hb).mp h2 i hi ((sub_i ha).mp h1 i hi h))
theorem sub_rf {a : Nat} (ha : a < 1024) : subS a a := (sub_i ha).mpr (fun _ _ h => h)
theorem sub_0 (T : Nat) : subS 0 T := Nat.zero_and _
theorem stF_lt {T c : Nat} (h : T < 1024) : stF T c < 1024 := by
  unfold stF
  split
  · exact trn_lt (by decide) h
  · exact h
theorem stF_up {T c : Nat} (h : T < 1024) : subS T (stF T c) := by
  unfold stF
  split
  · refine (sub_i h).mpr (fun i hi hb => ?_)
    rw [star_b T h i hi, hb]; rfl
  · exact sub_rf h
theorem trn_sub {s T c : Nat} (hs : s < 1024) (hT : T < 1024) (hc : c < 22) (h : subS s T) (hn : c < 10 → T.testBit c = true) : subS (trn s c) (stF T c) := by
  refine (sub_i (trn_lt hc hs)).mpr (fun i hi hb => ?_)
  have h' := (sub_i hs).mp h
  by_cases c1 : c < 10
  · have e : trn s c = s ||| 2 ^ c := by unfold trn; rw [if_pos c1]
    have e2 : stF T c = T := by unfold stF; rw [if_neg (by omega)]
    rw [e, Nat.testBit_or, Nat.testBit_two_pow] at hb
    rw [e2]
    by_cases b : s.testBit i = true
    · exact h' i hi b
    · simp [b] at hb
      subst hb
      exact hn c1
  by_cases c2 : c < 20
  · have e : trn s c = s &&& (1023 ^^^ 2 ^ (c - 10)) := by unfold trn; rw [if_neg c1, if_pos c2]
    have e2 : stF T c = T := by unfold stF; rw [if_neg (by omega)]
    rw [e, Nat.testBit_and] at hb
    rw [e2]
    refine h' i hi ?_
    cases hh : s.testBit i
    · rw [hh] at hb; simp at hb
    · rfl
  by_cases c3 : c = 20
  · subst c3
    have e2 : stF T 20 = trn T 20 := rfl
    rw [star_b s hs i hi] at hb
    rw [e2, star_b T hT i hi]
    by_cases b : s.testBit i = true
    · rw [h' i hi b]; rfl
    · have hb2 : (List.range i).all (fun j => s.testBit j) = true := by
        cases hh : s.testBit i
        · rw [hh] at hb; exact hb
        · exact absurd hh b
      have : (List.range i).all (fun j => T.testBit j) = true := by
        rw [List.all_eq_true] at hb2 ⊢
        intro j hj
        exact h' j (by have := List.mem_range.mp hj; omega) (hb2 j hj)
      rw [this, Bool.or_true]
  · have e : trn s c = s := by unfold trn; rw [if_neg c1, if_neg c2, if_neg c3]
    have e2 : stF T c = T := by unfold stF; rw [if_neg c3]
    rw [e] at hb
    rw [e2]
    exact h' i hi hb
theorem fold_s {α : Type} (f : α → Nat → α) (z : α) {ts : List Nat} {i : Nat} (h : i < ts.length) : (ts.take (i + 1)).foldl f z = f ((ts.take i).foldl f z) (ts.getD i 0) := by
  rw [List.take_add_one, List.getElem?_eq_getElem h, List.foldl_append, List.getD_eq_getElem?_getD, List.getElem?_eq_getElem h]
  rfl
theorem nmO_lt {T c : Nat} (h : T < 1024) : nmO T c < 1024 := by
  unfold nmO
  split
  · exact h
  · refine Nat.or_lt_two_pow (n := 10) h ?_
    split
    · exact Nat.pow_lt_pow_right (by omega) (by omega)
    · decide
theorem tN_lt (ts : List Nat) : ∀ z, z < 1024 → ts.foldl nmO z < 1024 := by
  induction ts with
  | nil => intro z h; exact h
  | cons c r ih => intro z h; exact ih _ (nmO_lt h)
theorem nm_keep (ts : List Nat) : ∀ z i, z.testBit i = true → (ts.foldl nmO z).testBit i = true := by
  induction ts with
  | nil => intro z i h; exact h
  | cons c r ih =>
    intro z i h
    refine ih _ i ?_
    unfold nmO
    split
    · exact h
    · rw [Nat.testBit_or, h]; rfl
theorem nm_has (ts : List Nat) : ∀ z c, c ∈ ts → c < 10 → (ts.foldl nmO z).testBit c = true := by
  induction ts with
  | nil => intro z c h; cases h
  | cons x r ih =>
    intro z c h hc
    rcases List.mem_cons.mp h with q | q
    · subst q
      refine nm_keep r _ c ?_
      unfold nmO
      rw [if_neg (by omega), if_pos hc, Nat.testBit_or, Nat.testBit_two_pow]
      simp
    · exact ih _ c q hc
theorem tT_lt (ts : List Nat) (t : Nat) : tT ts t < 1024 := by
  have key : ∀ (l : List Nat) z, z < 1024 → l.foldl stF z < 1024 := by
    intro l
    induction l with
    | nil => intro z h; exact h
    | cons c r ih => intro z h; exact ih _ (stF_lt h)
  exact key _ _ (tN_lt ts 0 (by decide))
theorem tT_s {ts : List Nat} {t : Nat} (h : t < ts.length) : tT ts (t + 1) = stF (tT ts t) (ts.getD t 0) := fold_s stF _ h
theorem tT_up (ts : List Nat) : ∀ d t, t + d = ts.length → subS (tT ts t) (tT ts ts.length) := by
  intro d
  induction d with
  | zero => intro t h; have : t = ts.length := by omega
            subst this; exact sub_rf (tT_lt ts _)
  | succ d ih =>
    intro t h
    have h1 := ih (t + 1) (by omega)
    rw [tT_s (by omega)] at h1
    exact sub_tr (tT_lt ts t) (stF_lt (tT_lt ts t)) (stF_up (tT_lt ts t)) h1
theorem tT_nm {ts : List Nat} {t c : Nat} (hc : c ∈ ts) (h : c < 10) : (tT ts t).testBit c = true := by
  have key : ∀ (l : List Nat) z, z < 1024 → z.testBit c = true → (l.foldl stF z).testBit c = true := by
    intro l
    induction l with
    | nil => intro z _ h; exact h
    | cons x r ih => intro z hz h1; exact ih _ (stF_lt hz) ((sub_i hz).mp (stF_up hz) c h h1)
  exact key _ _ (tN_lt ts 0 (by decide)) (nm_has ts 0 c hc h)
theorem tT_trn {ts : List Nat} (hw : wfS ts) {t s : Nat} (ht : t < ts.length) (hs : s < 1024) (h : subS s (tT ts t)) : subS (trn s (ts.getD t 0)) (tT ts (t + 1)) := by
  rw [tT_s ht]
  refine trn_sub hs (tT_lt ts t) (hw.2 t ht) h (fun hc => tT_nm ?_ hc)
  rw [List.getD_eq_getElem?_getD, List.getElem?_eq_getElem ht]
  exact List.getElem_mem ht
theorem drop_c {ts : List Nat} {t : Nat} (h : t < ts.length) : ts.drop t = ts.getD t 0 :: ts.drop (t + 1) := by
  rw [List.drop_eq_getElem_cons h]
  congr 1
  rw [List.getD_eq_getElem?_getD, List.getElem?_eq_getElem h]
  rfl
