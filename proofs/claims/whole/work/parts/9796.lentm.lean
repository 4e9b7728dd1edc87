/-! lent(), the reference -/
def tpM (bg ed : Nat → Nat) (n : Nat) (M0 : xMem) : Prop := ∀ j, j < n → gi M0 1 (2 * j) &&& 255 = nI (bg j) ∧ gi M0 1 (2 * j + 1) &&& 255 = nI (ed j)
def LR (M0 : xMem) (T : Nat → Bool) (M : xMem) : Prop := (∀ c i, c ≠ 59 → gi M c i = gi M0 c i) ∧ ∀ d, d < 100 → gi M 59 d = b2i (T d = true)
def wU (n f u : Nat) : Nat → Bool := fun i => decide (f ≤ i ∧ i < n ∧ u.testBit i = false)
theorem wU_rm {n f u b : Nat} : rmW (wU n f u) b = wU n f (u ||| 2 ^ b) := by
  funext i
  unfold rmW wU
  rw [Nat.testBit_or, Nat.testBit_two_pow]
  by_cases q : i = b
  · subst q
    rw [if_pos rfl, decide_eq_false]
    intro z
    have := z.2.2
    simp at this
  · rw [if_neg q]
    have : decide (b = i) = false := decide_eq_false (fun z => q z.symm)
    rw [this, Bool.or_false]
theorem sel_below {bg ed : Nat → Nat} {W : Nat → Bool} {d : Nat} : ∀ f, (∀ i, i < f → W i = false) → selW bg ed W d f = none := by
  intro f
  induction f with
  | zero => intro _; rfl
  | succ f ih =>
    intro h
    rw [selW, if_neg (fun q => by have := q.1; rw [h f (by omega)] at this; cases this)]
    exact ih (fun i hi => h i (by omega))
theorem byM {M0 M : xMem} (f : ∀ i, gi M 1 i = gi M0 1 i) {i v : Nat} (hi : i < 260) (h : gi M0 1 i &&& 255 = nI v) (post : Int32 → xMem → Prop) (hp : post (nI v) M) : wX12_byteAt (nI i) M post := byteAt_n hi (by rw [f]; exact h) post hp
theorem selM {bg ed : Nat → Nat} {n : Nat} (hn : n ≤ 8) (hb : ∀ j, j < n → bg j ≤ 99 ∧ ed j ≤ 99) {M0 M : xMem} (hT : tpM bg ed n M0) (f1 : ∀ i, gi M 1 i = gi M0 1 i) {f u d : Nat} (hf : f ≤ n) (hu : u < 1024) (hd : d < 100) (cnt : Int32) (K8 : Int32 → Int32 → Int32 → Int32 → Int32 → xMem → Prop) (post : Int32 → xMem → Prop) (h0 : selW bg ed (wU n f u) d n = none → K8 (nI f) (nI n) (nI u) cnt (nI d + 1) M) (h1 : ∀ b, selW bg ed (wU n f u) d n = some b → K8 (nI f) (nI n) (nI (u ||| 2 ^ b)) (cnt + 1) (nI d + 1) M) : ∃ n34, wX12_canHave_34 K8 post n34 (nI f) (nI n) (nI u) cnt (nI d) (-1) (nI f) M := by
  have key : ∀ m x, x + m = n → f ≤ x → wX12_canHave_34 K8 post (m + 1) (nI f) (nI n) (nI u) cnt (nI d) (selI (selW bg ed (wU n f u) d x)) (nI x) M := by
    intro m
    induction m with
    | zero =>
      intro x hx hfx
      have : x = n := by omega
      subst this
      rw [wX12_canHave_34]; dsimp only
      rw [if_pos (nI_le (by omega) (by omega))]
      match e : selW bg ed (wU x f u) d x with
      | none =>
        rw [if_pos (show selI none = -1 from rfl)]
        intro v1 e1
        subst e1
        exact h0 e
      | some b =>
        obtain ⟨hbx, _, _⟩ := sel_some x b e
        rw [if_neg (show ¬ selI (some b) = -1 from ne_m1 (by omega))]
        intro v3 e3 v4 e4 v1 e1
        have e3' : v3 = nI (u ||| 2 ^ b) := by
          rw [e3]
          show nI u ||| ((1 : Int32) <<< (nI b &&& 31)) = _
          rw [shl_L (by omega), z_or]
        subst e3'; subst e4; subst e1
        exact h1 b e
    | succ m ih =>
      intro x hx hfx
      have hxn : x < n := by omega
      have hbx := hb x hxn
      have nx : ∀ o, selW bg ed (wU n f u) d (x + 1) = o → wX12_canHave_114 K8 (wX12_canHave_34 K8 post (m + 1)) post (nI f) (nI n) (nI u) cnt (nI d) (selI o) (nI x) M := by
        intro o e v1 e1
        subst e1
        rw [nI_1, ← e]
        exact ih (x + 1) (by omega) (by omega)
      have no : ¬ avW bg ed (wU n f u) d x → wX12_canHave_114 K8 (wX12_canHave_34 K8 post (m + 1)) post (nI f) (nI n) (nI u) cnt (nI d) (selI (selW bg ed (wU n f u) d x)) (nI x) M := fun h => nx _ (by rw [selW, if_neg h])
      rw [wX12_canHave_34]; dsimp only
      rw [if_neg (nI_ge hxn (by omega)), hasM_n (by omega) (by omega)]
      by_cases t : u.testBit x = true
      · rw [b2i_t t, if_neg (by decide)]
        exact no (fun q => by have := of_decide_eq_true q.1; rw [t] at this; cases this.2.2)
      rw [b2i_f t, if_pos rfl]
      have tf : u.testBit x = false := by
        cases hh : u.testBit x with
        | true => exact absurd hh t
        | false => rfl
      rw [z_mull, z_add1]
      refine byM f1 (by omega) (hT x hxn).1 _ ?_
      refine byM f1 (by omega) (hT x hxn).2 _ ?_
      rw [lies_eq, i64i, i64i, i64i, nI_toInt (by omega), nI_toInt (by omega), nI_toInt (by omega)]
      by_cases c : bg x ≤ d ∧ d ≤ ed x
      rotate_left
      · rw [b2i_f (by omega), if_pos rfl]
        exact no (fun q => c q.2)
      rw [b2i_t (by omega), if_neg (by decide)]
      have av : avW bg ed (wU n f u) d x := ⟨decide_eq_true ⟨hfx, hxn, tf⟩, c⟩
      unfold wX12_canHave_110
      match e : selW bg ed (wU n f u) d x with
      | none =>
        rw [if_pos (show selI none = -1 from rfl)]
        have e2 : selW bg ed (wU n f u) d (x + 1) = some x := by rw [selW, if_pos av, e]
        exact nx _ e2
      | some b =>
        obtain ⟨hbx', _, _⟩ := sel_some x b e
        have hbb := hb b (by omega)
        rw [if_neg (show ¬ selI (some b) = -1 from ne_m1 (by omega))]
        refine byM f1 (by omega) (hT x hxn).2 _ ?_
        show wX12_byteAt (2 * nI b + 1) M _
        rw [z_mull, z_add1]
        refine byM f1 (by omega) (hT b (by omega)).2 _ ?_
        by_cases c3 : ed b ≤ ed x
        · rw [if_pos (nI_le c3 (by omega))]
          have e2 : selW bg ed (wU n f u) d (x + 1) = some b := by rw [selW, if_pos av, e]; exact if_pos c3
          exact nx _ e2
        · rw [if_neg (nI_ge (by omega) (by omega))]
          have e2 : selW bg ed (wU n f u) d (x + 1) = some x := by rw [selW, if_pos av, e]; exact if_neg c3
          exact nx _ e2
  have k0 := key (n - f) f (by omega) (Nat.le_refl _)
  have hz : selW bg ed (wU n f u) d f = none := sel_below f (fun i hi => decide_eq_false (fun q => by have := q.1; omega))
  rw [hz] at k0
  exact ⟨n - f + 1, k0⟩
theorem haveM {bg ed : Nat → Nat} {n : Nat} (hn : n ≤ 8) (hb : ∀ j, j < n → bg j ≤ 99 ∧ ed j ≤ 99) {M0 M : xMem} (hT : tpM bg ed n M0) {T : Nat → Bool} (hM : LR M0 T M) {f : Nat} (hf : f ≤ n) (post : Int32 → xMem → Prop) (hp : post (nI (optW bg ed n T 100 (wfW n f))) M) : wX12_canHave (nI f) (nI n) M post := by
  have f1 : ∀ i, gi M 1 i = gi M0 1 i := fun i => hM.1 1 i (by decide)
  have key : ∀ m a u, m ≤ 100 → a ≤ 100 - m → u < 1024 → post (nI (a + grdW bg ed n T m (wU n f u))) M → wX12_canHave_8 post (m + 1) (nI f) (nI n) (nI u) (nI a) (nI (100 - m)) M := by
    intro m
    induction m with
    | zero =>
      intro a u hm ha hu hp
      rw [wX12_canHave_8]; dsimp only
      rw [if_pos (show (100 : Int32) ≤ nI (100 - 0) by decide)]
      exact hp
    | succ m ih =>
      intro a u hm ha hu hp
      have hd : 100 - (m + 1) < 100 := by omega
      have e99 : 100 - (m + 1) = 99 - m := by omega
      have e1 : 100 - (m + 1) + 1 = 100 - m := by omega
      rw [wX12_canHave_8]; dsimp only
      rw [if_neg (show ¬ (100 : Int32) ≤ nI (100 - (m + 1)) from nI_ge hd (by decide))]
      refine ⟨vl hd (by decide), ?_⟩
      rw [nI_clamp (by omega), hM.2 _ hd]
      rw [grdW] at hp
      by_cases t : T (99 - m) = true
      · rw [if_pos t] at hp
        rw [b2i_t (by rw [e99]; exact t), if_neg (by decide)]
        intro v1 ev
        subst ev
        rw [nI_1, e1]
        exact ih a u (by omega) (by omega) hu hp
      · rw [if_neg t] at hp
        rw [b2i_f (by rw [e99]; exact t), if_pos rfl]
        refine selM hn hb hT f1 hf hu hd (nI a) _ post (fun e => ?_) (fun b e => ?_)
        · rw [e99] at e
          rw [e] at hp
          rw [nI_1, e1]
          exact ih a u (by omega) (by omega) hu hp
        · rw [e99] at e
          rw [e] at hp
          obtain ⟨hbn, _, _⟩ := sel_some n b e
          rw [nI_1, nI_1, e1]
          refine ih (a + 1) _ (by omega) (by omega) (Nat.or_lt_two_pow (n := 10) hu (Nat.pow_lt_pow_right (by omega) (by omega))) ?_
          rw [← wU_rm, show a + 1 + grdW bg ed n T m (rmW (wU n f u) b) = a + (1 + grdW bg ed n T m (rmW (wU n f u) b)) by omega]
          exact hp
  refine ⟨101, key 100 0 0 (by omega) (by omega) (by omega) ?_⟩
  have ew : wU n f 0 = wfW n f := by
    funext i
    unfold wU wfW
    rw [Nat.zero_testBit]
    by_cases c : f ≤ i ∧ i < n
    · rw [decide_eq_true c, decide_eq_true ⟨c.1, c.2, rfl⟩]
    · rw [decide_eq_false c, decide_eq_false (fun q => c ⟨q.1, q.2.1⟩)]
  rw [ew, grd_opt, Nat.zero_add]
  exact hp
