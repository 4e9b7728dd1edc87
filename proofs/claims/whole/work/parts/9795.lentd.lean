/-! lent(), the evenings one by one; the class -/
section
variable {bg ed : Nat → Nat} {n : Nat}
/-- the evening for k: r evenings more to look at, from v on -/
def nfW (bg ed : Nat → Nat) (n : Nat) (T : Nat → Bool) (k : Nat) : Nat → Nat → Nat
  | 0, _ => 100
  | r + 1, v => if ed k < v then 100 else if T v = false ∧ optW bg ed n (upT T v) 100 (wfW n (k + 1)) + 1 = optW bg ed n T 100 (wfW n k) then v else nfW bg ed n T k r (v + 1)
/-- what is marked and what was found, up to k -/
def stW (bg ed : Nat → Nat) (n : Nat) : Nat → (Nat → Bool) × (Nat → Nat)
  | 0 => (fun _ => false, fun _ => 0)
  | k + 1 => (if nfW bg ed n (stW bg ed n k).1 k (100 - bg k) (bg k) = 100 then (stW bg ed n k).1 else upT (stW bg ed n k).1 (nfW bg ed n (stW bg ed n k).1 k (100 - bg k) (bg k)), fun i => if i = k then nfW bg ed n (stW bg ed n k).1 k (100 - bg k) (bg k) else (stW bg ed n k).2 i)
theorem nf_a {T : Nat → Bool} {k : Nat} (hk : k < n) {v : Nat} (hv : v < 100) (ht : T v = false) (h1 : bg k ≤ v) (h2 : v ≤ ed k) : optW bg ed n (upT T v) 100 (wfW n (k + 1)) + 1 ≤ optW bg ed n T 100 (wfW n k) := by
  have := opt_a (bg := bg) (ed := ed) (n := n) (T := T) hk hv (by rw [ht]; decide) h1 h2 100 (wfW n k) (Nat.le_refl _) (by omega) (decide_eq_true ⟨Nat.le_refl _, hk⟩)
  rw [rm_wf] at this
  omega
theorem nf_cases (T : Nat → Bool) {k : Nat} (he : ed k ≤ 99) : ∀ r v, v + r = 100 → bg k ≤ v → (nfW bg ed n T k r v = 100 ∧ ∀ u, v ≤ u → u ≤ ed k → T u = false → optW bg ed n (upT T u) 100 (wfW n (k + 1)) + 1 ≠ optW bg ed n T 100 (wfW n k)) ∨ (v ≤ nfW bg ed n T k r v ∧ nfW bg ed n T k r v ≤ ed k ∧ T (nfW bg ed n T k r v) = false ∧ optW bg ed n (upT T (nfW bg ed n T k r v)) 100 (wfW n (k + 1)) + 1 = optW bg ed n T 100 (wfW n k)) := by
  intro r
  induction r with
  | zero => intro v hv _; exact Or.inl ⟨rfl, fun u h1 h2 => by omega⟩
  | succ r ih =>
    intro v hv hb
    rw [nfW]
    by_cases c : ed k < v
    · rw [if_pos c]; exact Or.inl ⟨rfl, fun u h1 h2 => by omega⟩
    rw [if_neg c]
    by_cases q : T v = false ∧ optW bg ed n (upT T v) 100 (wfW n (k + 1)) + 1 = optW bg ed n T 100 (wfW n k)
    · rw [if_pos q]; exact Or.inr ⟨Nat.le_refl _, by omega, q.1, q.2⟩
    · rw [if_neg q]
      rcases ih (v + 1) (by omega) (by omega) with ⟨a, b⟩ | ⟨a, b⟩
      · refine Or.inl ⟨a, fun u h1 h2 h3 => ?_⟩
        by_cases z : u = v
        · rw [z] at h3 ⊢; exact fun w => q ⟨h3, w⟩
        · exact b u (by omega) h2 h3
      · exact Or.inr ⟨by omega, b⟩
/-- what is still due, once k is settled -/
theorem nf_due {T : Nat → Bool} {k : Nat} (he : ed k ≤ 99) (hb : bg k ≤ 99) : optW bg ed n (if nfW bg ed n T k (100 - bg k) (bg k) = 100 then T else upT T (nfW bg ed n T k (100 - bg k) (bg k))) 100 (wfW n (k + 1)) = optW bg ed n T 100 (wfW n k) - (if nfW bg ed n T k (100 - bg k) (bg k) = 100 then 0 else 1) := by
  rcases nf_cases (bg := bg) (ed := ed) (n := n) T he (100 - bg k) (bg k) (by omega) (Nat.le_refl _) with ⟨a, b⟩ | ⟨a, b, c, d⟩
  · rw [if_pos a, if_pos a, Nat.sub_zero]
    have h1 := opt_rm (bg := bg) (ed := ed) (n := n) T 100 (wfW n k) k
    rw [rm_wf] at h1
    rcases Nat.lt_or_ge (optW bg ed n T 100 (wfW n (k + 1))) (optW bg ed n T 100 (wfW n k)) with q | q
    · exfalso
      obtain ⟨v, a1, a2, a3, a4, a5, a6⟩ := opt_b (bg := bg) (ed := ed) (n := n) (T := T) (k := k) 100 (wfW n k) (Nat.le_refl _) (by rw [rm_wf]; omega)
      rw [rm_wf] at a6
      have ht : T v = false := by
        cases hT : T v with
        | true => exact absurd hT a3
        | false => rfl
      have hk : k < n := by
        rcases Nat.lt_or_ge k n with z | z
        · exact z
        · exfalso
          have : wfW n (k + 1) = wfW n k := by
            funext i
            unfold wfW
            rw [decide_eq_false (by omega), decide_eq_false (by omega)]
          rw [this] at q
          omega
      have := nf_a (bg := bg) (ed := ed) (n := n) hk a2 ht a4 a5
      exact b v a4 a5 ht (by omega)
    · omega
  · rw [if_neg (by omega), if_neg (by omega)]
    omega
end
theorem earlC {bg ed : Nat → Nat} {n : Nat} (hn : n ≤ 8) (hb : ∀ j, j < n → bg j ≤ 99 ∧ ed j ≤ 99) {C0 : xMem} (post : Int32 → xMem → Prop) {k : Nat} (hk : k < n) {T : Nat → Bool} (hp : ∀ v C', nfW bg ed n T k (100 - bg k) (bg k) = v → LQ bg ed n (if v = 100 then T else upT T v) C' → (∀ c i, c ≠ 93 → gi C' c i = gi C0 c i) → post (nI v) C') : ∀ (r v : Nat) (C : xMem), v + r = 100 → bg k ≤ v → nfW bg ed n T k r v = nfW bg ed n T k (100 - bg k) (bg k) → LQ bg ed n T C → (∀ c i, c ≠ 93 → gi C c i = gi C0 c i) → wX7_earliestFor_7 post (r + 1) (nI k) (nI (optW bg ed n T 100 (wfW n k))) (nI v) C := by
  have he := hb k hk
  have hle : ∀ T W, optW bg ed n T 100 W ≤ 100 := fun T W => by rw [← grd_opt]; exact grd_le ..
  intro r
  induction r with
  | zero =>
    intro v C hv hbv hnf hC hf
    have hcl : ed k < v := by omega
    rw [wX7_earliestFor_7]; dsimp only
    refine ⟨vl (by omega) (by decide), ?_⟩
    rw [nI_clamp (by omega), (hC.2.1 k hk).2, if_pos (nI_lt hcl (by omega))]
    exact hp 100 C (by rw [← hnf]; rfl) (by rw [if_pos rfl]; exact hC) hf
  | succ r ih =>
    intro v C hv hbv hnf hC hf
    rw [wX7_earliestFor_7]; dsimp only
    refine ⟨vl (by omega) (by decide), ?_⟩
    rw [nI_clamp (by omega), (hC.2.1 k hk).2]
    rw [nfW] at hnf
    by_cases c : ed k < v
    · rw [if_pos c] at hnf
      rw [if_pos (nI_lt c (by omega))]
      exact hp 100 C hnf.symm (by rw [if_pos rfl]; exact hC) hf
    rw [if_neg c] at hnf
    have hv100 : v < 100 := by omega
    rw [if_neg (nI_nlt (by omega) (by omega)), if_neg (show ¬ (100 : Int32) ≤ nI v from nI_ge hv100 (by decide))]
    have hvv := vl (n := v) (N := 100) hv100 (by decide)
    refine ⟨hvv, ?_⟩
    rw [nI_clamp (by omega), hC.2.2 v hv100]
    have nx : ∀ C', nfW bg ed n T k r (v + 1) = nfW bg ed n T k (100 - bg k) (bg k) → LQ bg ed n T C' → (∀ c i, c ≠ 93 → gi C' c i = gi C0 c i) → wX7_earliestFor_61 (wX7_earliestFor_7 post (r + 1)) post (nI k) (nI (optW bg ed n T 100 (wfW n k))) (nI v) C' := by
      intro C' h1 h2 h3 v1 e1
      subst e1
      rw [nI_1]
      exact ih (v + 1) C' (by omega) (by omega) h1 h2 h3
    by_cases t : T v = true
    · rw [b2i_t t, if_neg (by decide)]
      rw [if_neg (fun q => by rw [t] at q; cases q.1)] at hnf
      exact nx C hnf hC hf
    rw [b2i_f t, if_pos rfl]
    have tf : T v = false := by
      cases hT : T v with
      | true => exact absurd hT t
      | false => rfl
    refine ⟨hvv, ?_⟩
    intro M7 e7
    have hC7 : LQ bg ed n (upT T v) M7 := by
      obtain ⟨a1, a2, a3⟩ := hC
      refine ⟨by rw [e7, g_c (by decide)]; exact a1, fun j hj => by rw [e7, g_c (by decide), g_c (by decide)]; exact a2 j hj, fun d hd => ?_⟩
      rw [e7, gi_si]
      by_cases q : d = v
      · rw [if_pos ⟨rfl, q⟩, q, b2i_t (up_v T v)]
      · rw [if_neg (by omega), a3 d hd, up_o q]
    rw [nI_1]
    refine mostC hn hb hC7 (f := k + 1) (by omega) _ ?_
    have ha := nf_a (bg := bg) (ed := ed) (n := n) (T := T) hk hv100 tf hbv (by omega)
    have h1 := hle (upT T v) (wfW n (k + 1))
    have h2 := hle T (wfW n k)
    rw [show (1 : Int32) + nI (optW bg ed n (upT T v) 100 (wfW n (k + 1))) = nI (1 + optW bg ed n (upT T v) 100 (wfW n (k + 1))) from nI_add 1 _]
    by_cases q : optW bg ed n (upT T v) 100 (wfW n (k + 1)) + 1 = optW bg ed n T 100 (wfW n k)
    · rw [if_pos ⟨tf, q⟩] at hnf
      rw [if_neg (nI_nlt (by omega) (by omega))]
      exact hp v M7 hnf.symm (by rw [if_neg (by omega)]; exact hC7) (fun c i z => by rw [e7, g_c z]; exact hf c i z)
    · rw [if_neg (fun z => q z.2)] at hnf
      rw [if_pos (nI_lt (by omega) (by omega))]
      refine ⟨hvv, ?_⟩
      intro M12 e12
      refine nx M12 hnf ?_ (fun c i z => by rw [e12, g_c z, e7, g_c z]; exact hf c i z)
      obtain ⟨a1, a2, a3⟩ := hC
      refine ⟨by rw [e12, g_c (by decide), e7, g_c (by decide)]; exact a1, fun j hj => by rw [e12, g_c (by decide), g_c (by decide), e7, g_c (by decide), g_c (by decide)]; exact a2 j hj, fun d hd => ?_⟩
      rw [e12, gi_si]
      by_cases q2 : d = v
      · rw [if_pos ⟨rfl, q2⟩, q2, b2i_f t]
      · rw [if_neg (by omega), e7, gi_si, if_neg (by omega)]; exact a3 d hd

theorem st_due {bg ed : Nat → Nat} {n : Nat} (hb : ∀ j, j < n → bg j ≤ 99 ∧ ed j ≤ 99) {k : Nat} (hk : k < n) : optW bg ed n (stW bg ed n (k + 1)).1 100 (wfW n (k + 1)) = optW bg ed n (stW bg ed n k).1 100 (wfW n k) - (if (stW bg ed n (k + 1)).2 k = 100 then 0 else 1) := by
  have h := nf_due (bg := bg) (ed := ed) (n := n) (T := (stW bg ed n k).1) (k := k) (hb k hk).2 (hb k hk).1
  have e : (stW bg ed n (k + 1)).2 k = nfW bg ed n (stW bg ed n k).1 k (100 - bg k) (bg k) := if_pos rfl
  rw [e]
  exact h
theorem st_keep (bg ed : Nat → Nat) (n : Nat) {j k : Nat} (h : j < k) : (stW bg ed n (k + 1)).2 j = (stW bg ed n k).2 j := if_neg (by omega)
theorem st_le {bg ed : Nat → Nat} {n : Nat} (hb : ∀ j, j < n → bg j ≤ 99 ∧ ed j ≤ 99) : ∀ k, k ≤ n → ∀ j, j < k → (stW bg ed n k).2 j ≤ 100 := by
  intro k
  induction k with
  | zero => intro _ j hj; omega
  | succ k ih =>
    intro hk j hj
    by_cases q : j = k
    · have e : (stW bg ed n (k + 1)).2 j = nfW bg ed n (stW bg ed n k).1 k (100 - bg k) (bg k) := if_pos q
      rw [e]
      have h9 := hb k (by omega)
      rcases nf_cases (bg := bg) (ed := ed) (n := n) (stW bg ed n k).1 h9.2 (100 - bg k) (bg k) (by omega) (Nat.le_refl _) with ⟨a, _⟩ | ⟨_, b, _⟩
      · omega
      · omega
    · rw [st_keep bg ed n (by omega)]; exact ih (by omega) j (by omega)
theorem fill93 {C : xMem} (post : xMem → Prop) (hp : ∀ C' : xMem, (∀ c i, c ≠ 93 → gi C' c i = gi C c i) → (∀ i, i < 100 → gi C' 93 i = 0) → post C') : wJ7_fill_53178 93 0 C post := by
  have hl : lC 93 = 100 := by decide
  unfold wJ7_fill_53178
  rw [hl]
  intro v1 e1
  subst e1
  have key : ∀ m i C1, i + m = 100 → (∀ c j, c ≠ 93 → gi C1 c j = gi C c j) → (∀ j, j < i → gi C1 93 j = 0) → wJ7_fill_53178_5 93 post (m + 1) 0 (nI i) (nI 100) C1 := by
    intro m
    induction m with
    | zero =>
      intro i C1 hi h1 h2
      rw [wJ7_fill_53178_5]; dsimp only
      rw [if_pos (nI_le (by omega) (by omega))]
      exact hp C1 h1 (fun j hj => h2 j (by omega))
    | succ m ih =>
      intro i C1 hi h1 h2
      rw [wJ7_fill_53178_5]; dsimp only
      rw [if_neg (nI_ge (by omega) (by omega)), hl]
      refine ⟨vl (by omega) (by decide), ?_⟩
      intro M3 e3 v4 e4
      subst e3; subst e4
      rw [nI_1, nI_clamp (by omega)]
      refine ih (i + 1) _ (by omega) (fun c j z => by rw [g_c z]; exact h1 c j z) (fun j hj => ?_)
      rw [gi_si]
      by_cases q : j = i
      · rw [if_pos ⟨rfl, q⟩]
      · rw [if_neg (by omega)]; exact h2 j (by omega)
  exact ⟨101, key 100 0 C rfl (fun _ _ _ => rfl) (fun j hj => by omega)⟩
theorem solveL {bg ed : Nat → Nat} {n : Nat} (hn : n ≤ 8) (hb : ∀ j, j < n → bg j ≤ 99 ∧ ed j ≤ 99) {C : xMem} (h4 : gi C 89 4 = nI n) (h9 : ∀ j, j < n → gi C 90 j = nI (bg j) ∧ gi C 91 j = nI (ed j)) (post : xMem → Prop) (hp : ∀ C', (∀ c i, ¬ (c = 89 ∧ i = 5) → c ≠ 92 → c ≠ 93 → gi C' c i = gi C c i) → gi C' 89 5 = nI (optW bg ed n (fun _ => false) 100 (wfW n 0)) → (∀ j, j < n → gi C' 92 j = nI ((stW bg ed n n).2 j)) → post C') : wX7_solve C post := by
  have hle : ∀ T W, optW bg ed n T 100 W ≤ 100 := fun T W => by rw [← grd_opt]; exact grd_le ..
  unfold wX7_solve
  refine fill93 _ (fun C1 f1 z1 => ?_)
  have q1 : LQ bg ed n (fun _ => false) C1 := ⟨by rw [f1 _ _ (by decide)]; exact h4, fun j hj => by rw [f1 _ _ (by decide), f1 _ _ (by decide)]; exact h9 j hj, fun d hd => by rw [z1 d hd]; exact (b2i_f (show ¬ (false = true) by decide)).symm⟩
  refine mostC hn hb q1 (f := 0) (Nat.zero_le _) _ ?_
  intro M4 e4 v5 e5
  rw [e4, g_same] at e5
  subst e5
  have q4 : LQ bg ed n (fun _ => false) M4 := ⟨by rw [e4, g_i (by decide)]; exact q1.1, fun j hj => by rw [e4, g_c (by decide), g_c (by decide)]; exact q1.2.1 j hj, fun d hd => by rw [e4, g_c (by decide)]; exact q1.2.2 d hd⟩
  have key : ∀ m k C2, k + m = n → LQ bg ed n (stW bg ed n k).1 C2 → (∀ c i, c ≠ 92 → c ≠ 93 → gi C2 c i = gi M4 c i) → (∀ j, j < k → gi C2 92 j = nI ((stW bg ed n k).2 j)) → wX7_solve_24 post (m + 1) (nI (optW bg ed n (stW bg ed n k).1 100 (wfW n k))) (nI k) C2 := by
    intro m
    induction m with
    | zero =>
      intro k C2 hk q f g
      have : k = n := by omega
      subst this
      rw [wX7_solve_24]; dsimp only
      rw [q.1, if_pos (nI_le (by omega) (by omega))]
      exact hp C2 (fun c i y1 y2 y3 => by rw [f c i y2 y3, e4, gi_si, if_neg y1]; exact f1 c i y3) (by rw [f _ _ (by decide) (by decide), e4, g_same]) g
    | succ m ih =>
      intro k C2 hk q f g
      have hkn : k < n := by omega
      have hbk := hb k hkn
      rw [wX7_solve_24]; dsimp only
      rw [q.1, if_neg (nI_ge hkn (by omega))]
      unfold wX7_earliestFor
      have hvk := vl (n := k) (N := 8) (by omega) (by decide)
      refine ⟨hvk, ?_⟩
      rw [nI_clamp (by omega), (q.2.1 k hkn).1]
      intro v2 e2
      subst e2
      refine ⟨100 - bg k + 1, ?_⟩
      refine earlC hn hb (C0 := C2) _ hkn (fun v C3 hv q3 f3 => ?_) (100 - bg k) (bg k) C2 (by omega) (Nat.le_refl _) rfl q (fun _ _ _ => rfl)
      have es2 : (stW bg ed n (k + 1)).2 k = v := (if_pos rfl : (stW bg ed n (k + 1)).2 k = _).trans hv
      have es1 : (stW bg ed n (k + 1)).1 = if v = 100 then (stW bg ed n k).1 else upT (stW bg ed n k).1 v := by rw [← hv]; rfl
      have hdue := st_due hb hkn
      rw [es2] at hdue
      have hv100 : v ≤ 100 := by rw [← es2]; exact st_le hb (k + 1) (by omega) k (by omega)
      refine ⟨hvk, ?_⟩
      intro M5 e5
      refine ⟨hvk, ?_⟩
      rw [show gi M5 92 k = nI v by rw [e5, g_same]]
      have fin : ∀ s0 : Nat, s0 = (if v = 100 then 0 else 1) → wX7_solve_61 (wX7_solve_24 post (m + 1)) post (nI k) (nI s0) (nI (optW bg ed n (stW bg ed n k).1 100 (wfW n k))) M5 := by
        intro s0 es v1 e1 v2 e2
        have hs : s0 ≤ optW bg ed n (stW bg ed n k).1 100 (wfW n k) := by
          rw [es]
          by_cases z : v = 100
          · rw [if_pos z]; omega
          · rw [if_neg z]
            rcases nf_cases (bg := bg) (ed := ed) (n := n) (stW bg ed n k).1 hbk.2 (100 - bg k) (bg k) (by omega) (Nat.le_refl _) with ⟨a, _⟩ | ⟨_, _, _, d⟩
            · exact absurd (hv.symm.trans a) z
            · omega
        rw [z_sub hs, es, ← hdue] at e1
        subst e1; subst e2
        rw [nI_1]
        refine ih (k + 1) M5 (by omega) ?_ (fun c i y1 y2 => by rw [e5, g_c y1, f3 c i y2]; exact f c i y1 y2) (fun j hj => ?_)
        · rw [es1]
          exact ⟨by rw [e5, g_c (by decide)]; exact q3.1, fun j hj => by rw [e5, g_c (by decide), g_c (by decide)]; exact q3.2.1 j hj, fun d hd => by rw [e5, g_c (by decide)]; exact q3.2.2 d hd⟩
        · by_cases y : j = k
          · rw [y, es2, e5, g_same]
          · rw [st_keep bg ed n (by omega), e5, g_i y, f3 _ _ (by decide)]; exact g j (by omega)
      by_cases z : v = 100
      · rw [if_pos (show nI v = 100 by rw [z]; rfl)]
        exact fin 0 (by rw [if_pos z])
      · rw [if_neg (show ¬ nI v = 100 from fun y => z ((nI_eq (a := v) (b := 100) (by omega) (by omega)).mp y))]
        exact fin 1 (by rw [if_neg z])
  exact ⟨n + 1, key n 0 M4 (by omega) q4 (fun _ _ _ _ => rfl) (fun j hj => by omega)⟩
