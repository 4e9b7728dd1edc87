/-! lent(), the class's count -/
def LQ (bg ed : Nat → Nat) (n : Nat) (T : Nat → Bool) (C : xMem) : Prop := gi C 89 4 = nI n ∧ (∀ j, j < n → gi C 90 j = nI (bg j) ∧ gi C 91 j = nI (ed j)) ∧ ∀ d, d < 100 → gi C 93 d = b2i (T d = true)
def selI : Option Nat → Int32
  | none => -1
  | some j => nI j
theorem ne_m1 {j : Nat} (h : j < 1000) : ¬ nI j = -1 := fun z => by
  have := congrArg Int32.toInt z
  rw [nI_toInt (by omega), z_m1] at this
  omega
theorem pressC {bg ed : Nat → Nat} {n : Nat} (hn : n ≤ 8) (hb : ∀ j, j < n → bg j ≤ 99 ∧ ed j ≤ 99) {T : Nat → Bool} {C : xMem} (hC : LQ bg ed n T C) {w v : Nat} (hw : w < 1024) (hv : v < 100) (post : Int32 → xMem → Prop) (hp : post (selI (selW bg ed (fun i => w.testBit i) v n)) C) : wX7_mostPressed (nI w) (nI v) C post := by
  obtain ⟨h4, hj, hT⟩ := hC
  have key : ∀ m x, x + m = n → wX7_mostPressed_5 post (m + 1) (nI w) (nI v) (selI (selW bg ed (fun i => w.testBit i) v x)) (nI x) C := by
    intro m
    induction m with
    | zero =>
      intro x hx
      have : x = n := by omega
      subst this
      rw [wX7_mostPressed_5]; dsimp only
      rw [h4, if_pos (nI_le (by omega) (by omega))]
      exact hp
    | succ m ih =>
      intro x hx
      have hxn : x < n := by omega
      have hbx := hb x hxn
      have nx : ∀ o, selW bg ed (fun i => w.testBit i) v (x + 1) = o → wX7_mostPressed_81 (wX7_mostPressed_5 post (m + 1)) post (nI w) (nI v) (selI o) (nI x) C := by
        intro o e v1 e1
        subst e1
        rw [nI_1, ← e]
        exact ih (x + 1) (by omega)
      rw [wX7_mostPressed_5]; dsimp only
      rw [h4, if_neg (nI_ge hxn (by omega)), hasC_n (by omega) (by omega)]
      have no : ¬ avW bg ed (fun i => w.testBit i) v x → wX7_mostPressed_49 (wX7_mostPressed_5 post (m + 1)) post (nI w) (nI v) (selI (selW bg ed (fun i => w.testBit i) v x)) (nI x) C := by
        intro h
        unfold wX7_mostPressed_49 wX7_mostPressed_50
        rw [if_pos rfl]
        exact nx _ (by rw [selW, if_neg h])
      by_cases t : w.testBit x = true
      rotate_left
      · rw [b2i_f t, if_pos rfl]
        exact no (fun q => t q.1)
      rw [b2i_t t, if_neg (by decide)]
      have hvx := vl (n := x) (N := 8) (by omega) (by decide)
      refine ⟨hvx, ?_⟩
      rw [nI_clamp (by omega), (hj x hxn).1]
      by_cases c1 : v < bg x
      · rw [if_pos (nI_lt c1 (by omega))]
        exact no (fun q => by have := q.2.1; omega)
      rw [if_neg (nI_nlt (by omega) (by omega))]
      refine ⟨hvx, ?_⟩
      rw [(hj x hxn).2]
      by_cases c2 : ed x < v
      · rw [if_pos (nI_lt c2 (by omega))]
        exact no (fun q => by have := q.2.2; omega)
      rw [if_neg (nI_nlt (by omega) (by omega))]
      have av : avW bg ed (fun i => w.testBit i) v x := ⟨t, by omega, by omega⟩
      unfold wX7_mostPressed_50
      rw [if_neg (by decide)]
      unfold wX7_mostPressed_78
      match e : selW bg ed (fun i => w.testBit i) v x with
      | none =>
        show if selI none = -1 then _ else _
        rw [if_pos (show selI none = -1 from rfl)]
        have e2 : selW bg ed (fun i => w.testBit i) v (x + 1) = some x := by rw [selW, if_pos av, e]
        exact nx _ e2
      | some b =>
        obtain ⟨hbx', _, _⟩ := sel_some x b e
        show if selI (some b) = -1 then _ else _
        rw [if_neg (show ¬ selI (some b) = -1 from ne_m1 (by omega))]
        refine ⟨hvx, vl (n := b) (N := 8) (by omega) (by decide), ?_⟩
        show if gi C 91 (nI b).toNatClampNeg ≤ gi C 91 (nI x).toNatClampNeg then _ else _
        have hbb := hb b (by omega)
        rw [nI_clamp (by omega), nI_clamp (by omega), (hj x hxn).2, (hj b (by omega)).2]
        by_cases c3 : ed b ≤ ed x
        · rw [if_pos (nI_le c3 (by omega))]
          have e2 : selW bg ed (fun i => w.testBit i) v (x + 1) = some b := by rw [selW, if_pos av, e]; exact if_pos c3
          exact nx _ e2
        · rw [if_neg (nI_ge (by omega) (by omega))]
          have e2 : selW bg ed (fun i => w.testBit i) v (x + 1) = some x := by rw [selW, if_pos av, e]; exact if_neg c3
          exact nx _ e2
  exact ⟨n + 1, key n 0 (by omega)⟩
theorem rm_bit {w j : Nat} (hw : w < 1024) : (fun i => (w &&& (1023 ^^^ 2 ^ j)).testBit i) = rmW (fun i => w.testBit i) j := by
  funext i
  unfold rmW
  rw [Nat.testBit_and, Nat.testBit_xor, show (1023 : Nat) = 2 ^ 10 - 1 by decide, Nat.testBit_two_pow_sub_one, Nat.testBit_two_pow]
  by_cases c : i < 10
  · by_cases q : i = j
    · subst q; simp [c]
    · have : ¬ j = i := fun z => q z.symm
      simp [c, q, this]
  · have : w.testBit i = false := Nat.testBit_lt_two_pow (Nat.lt_of_lt_of_le hw (Nat.pow_le_pow_right (n := 2) (by omega) (by omega : 10 ≤ i)))
    simp [this]
theorem grd_0 (bg ed : Nat → Nat) (n : Nat) (T : Nat → Bool) : ∀ m, grdW bg ed n T m (fun i => (0 : Nat).testBit i) = 0 := by
  intro m
  induction m with
  | zero => rfl
  | succ m ih =>
    rw [grdW]
    split
    · exact ih
    · match e : selW bg ed (fun i => (0 : Nat).testBit i) (99 - m) n with
      | none => exact ih
      | some b =>
        have h1 : (0 : Nat).testBit b = true := (sel_some n b e).2.1.1
        rw [Nat.zero_testBit] at h1
        cases h1
theorem grd_le (bg ed : Nat → Nat) (n : Nat) (T : Nat → Bool) : ∀ m W, grdW bg ed n T m W ≤ m := by
  intro m
  induction m with
  | zero => intro W; exact Nat.le_refl _
  | succ m ih =>
    intro W
    rw [grdW]
    split
    · have := ih W; omega
    · match e : selW bg ed W (99 - m) n with
      | none => have := ih W; dsimp only; omega
      | some b => have := ih (rmW W b); dsimp only; omega
theorem fromC {bg ed : Nat → Nat} {n : Nat} (hn : n ≤ 8) (hb : ∀ j, j < n → bg j ≤ 99 ∧ ed j ≤ 99) {T : Nat → Bool} {C : xMem} (hC : LQ bg ed n T C) (post : Int32 → xMem → Prop) : ∀ (m a w : Nat), m ≤ 100 → a ≤ 100 - m → w < 1024 → post (nI (a + grdW bg ed n T m (fun i => w.testBit i))) C → wX7_mostFrom_23 post (m + 1) (nI w) (nI a) (nI (100 - m)) C := by
  intro m
  induction m with
  | zero =>
    intro a w hm ha hw hp
    rw [wX7_mostFrom_23]; dsimp only
    rw [if_pos (show (100 : Int32) ≤ nI (100 - 0) by decide)]
    exact hp
  | succ m ih =>
    intro a w hm ha hw hp
    rw [wX7_mostFrom_23]; dsimp only
    have hd : 100 - (m + 1) < 100 := by omega
    rw [if_neg (show ¬ (100 : Int32) ≤ nI (100 - (m + 1)) from nI_ge hd (by decide))]
    by_cases z : w = 0
    · subst z
      rw [grd_0] at hp
      rw [if_pos (show nI 0 = 0 from rfl)]
      exact hp
    rw [if_neg (fun q => z ((n0_n hw).mp q))]
    refine ⟨vl hd (by decide), ?_⟩
    rw [nI_clamp (by omega), hC.2.2 _ hd]
    have e99 : 100 - (m + 1) = 99 - m := by omega
    have e1 : 100 - (m + 1) + 1 = 100 - m := by omega
    rw [grdW] at hp
    have skip : post (nI (a + grdW bg ed n T m (fun i => w.testBit i))) C → wX7_mostFrom_55 (wX7_mostFrom_23 post (m + 1)) post (nI w) (nI a) (nI (100 - (m + 1))) (-1) C := by
      intro h
      unfold wX7_mostFrom_55
      rw [if_pos rfl]
      intro v1 ev
      subst ev
      rw [nI_1, e1]
      exact ih a w (by omega) (by omega) hw h
    by_cases t : T (99 - m) = true
    · rw [e99, b2i_t t, if_neg (by decide), ← e99]
      rw [if_pos t] at hp
      exact skip hp
    · rw [if_neg t] at hp
      rw [show b2i (T (100 - (m + 1)) = true) = 0 from b2i_f (by rw [e99]; exact t), if_pos rfl]
      refine pressC hn hb hC hw hd _ ?_
      rw [e99]
      match e : selW bg ed (fun i => w.testBit i) (99 - m) n with
      | none =>
        rw [e] at hp
        rw [← e99]
        exact skip hp
      | some b =>
        rw [e] at hp
        obtain ⟨hbn, _, _⟩ := sel_some n b e
        unfold wX7_mostFrom_55
        show if selI (some b) = -1 then _ else _
        rw [if_neg (show ¬ selI (some b) = -1 from ne_m1 (by omega))]
        intro v2 e2 v3 e3 v1 ev
        have e2' : v2 = nI (w &&& (1023 ^^^ 2 ^ b)) := by
          rw [e2]
          show nI w &&& ((1 : Int32) <<< (nI b &&& 31) ^^^ (-1)) = _
          rw [shl_L (by omega), andnot_n hw (Nat.pow_lt_pow_right (by omega) (by omega : b < 10))]
        subst e2'; subst e3; subst ev
        rw [nI_1, nI_1, ← e99, e1]
        refine ih (a + 1) _ (by omega) (by omega) (Nat.lt_of_le_of_lt Nat.and_le_left hw) ?_
        rw [rm_bit hw, show a + 1 + grdW bg ed n T m (rmW (fun i => w.testBit i) b) = a + (1 + grdW bg ed n T m (rmW (fun i => w.testBit i) b)) by omega]
        exact hp
def wfW (n f : Nat) : Nat → Bool := fun i => decide (f ≤ i ∧ i < n)
theorem wf_bit {n f : Nat} (hn : n ≤ 8) (hf : f ≤ n) : (fun i => (2 ^ n - 2 ^ f).testBit i) = wfW n f := by
  have key : ∀ n < 9, ∀ f < 9, f ≤ n → ∀ i < 10, (2 ^ n - 2 ^ f).testBit i = decide (f ≤ i ∧ i < n) := by decide +kernel
  funext i
  unfold wfW
  by_cases c : i < 10
  · exact key n (by omega) f (by omega) hf i c
  · have h1 : 2 ^ n ≤ 2 ^ 8 := Nat.pow_le_pow_right (by omega) hn
    have h2 : (2 : Nat) ^ 10 ≤ 2 ^ i := Nat.pow_le_pow_right (by omega) (by omega)
    have h3 : 2 ^ n - 2 ^ f < 2 ^ i := Nat.lt_of_le_of_lt (Nat.sub_le _ _) (Nat.lt_of_le_of_lt h1 (Nat.lt_of_lt_of_le (by decide) h2))
    rw [Nat.testBit_lt_two_pow h3, decide_eq_false (by omega)]
theorem rm_wf {n k : Nat} : rmW (wfW n k) k = wfW n (k + 1) := by
  funext i
  unfold rmW wfW
  by_cases q : i = k
  · rw [if_pos q, decide_eq_false (by omega)]
  · rw [if_neg q]
    by_cases c : k ≤ i ∧ i < n
    · rw [decide_eq_true c, decide_eq_true (by omega)]
    · rw [decide_eq_false c, decide_eq_false (by omega)]
theorem mostC {bg ed : Nat → Nat} {n : Nat} (hn : n ≤ 8) (hb : ∀ j, j < n → bg j ≤ 99 ∧ ed j ≤ 99) {T : Nat → Bool} {C : xMem} (hC : LQ bg ed n T C) {f : Nat} (hf : f ≤ n) (post : Int32 → xMem → Prop) (hp : post (nI (optW bg ed n T 100 (wfW n f))) C) : wX7_mostFrom (nI f) C post := by
  unfold wX7_mostFrom
  have e : (if nI n < nI f then nI n else nI f) = nI f := if_neg (nI_nlt hf (by omega))
  rw [hC.1, min_eq, e]
  intro v3 e3
  have h1 : 2 ^ f ≤ 2 ^ n := Nat.pow_le_pow_right (by omega) hf
  have h2 : 2 ^ n ≤ 2 ^ 8 := Nat.pow_le_pow_right (by omega) hn
  rw [shl_L (by omega), shl_L (by omega), z_sub h1] at e3
  subst e3
  have h3 : 2 ^ n - 2 ^ f < 1024 := Nat.lt_of_le_of_lt (Nat.sub_le _ _) (Nat.lt_of_le_of_lt h2 (by decide))
  refine ⟨101, fromC hn hb hC post 100 0 (2 ^ n - 2 ^ f) (by omega) (by omega) h3 ?_⟩
  rw [wf_bit hn hf, grd_opt, Nat.zero_add]
  exact hp
