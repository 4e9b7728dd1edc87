/-! lent(), the reference's evenings -/
theorem LR_set {M0 M : xMem} {T : Nat → Bool} (h : LR M0 T M) {v : Nat} (x : Int32) : ∀ d, d ≠ v → d < 100 → gi (si M 59 v x) 59 d = b2i (T d = true) := fun d hd h1 => by rw [g_i hd]; exact h.2 d h1
theorem LR_up {M0 M : xMem} {T : Nat → Bool} (h : LR M0 T M) (v : Nat) : LR M0 (upT T v) (si M 59 v (vp_nar .boolean 1)) := by
  refine ⟨fun c i z => by rw [g_c z]; exact h.1 c i z, fun d hd => ?_⟩
  by_cases q : d = v
  · rw [q, g_same, b2i_t (up_v T v)]; exact narb_1
  · rw [LR_set h _ d q hd, up_o q]
theorem LR_dn {M0 M : xMem} {T : Nat → Bool} {v : Nat} (h : LR M0 (upT T v) M) (ht : T v = false) : LR M0 T (si M 59 v (vp_nar .boolean 0)) := by
  refine ⟨fun c i z => by rw [g_c z]; exact h.1 c i z, fun d hd => ?_⟩
  by_cases q : d = v
  · rw [q, g_same, b2i_f (by rw [ht]; decide)]; exact narb_0
  · rw [LR_set h _ d q hd, up_o q]
theorem nightM {bg ed : Nat → Nat} {n : Nat} (hn : n ≤ 8) (hb : ∀ j, j < n → bg j ≤ 99 ∧ ed j ≤ 99) {M0 : xMem} (hT0 : tpM bg ed n M0) {T : Nat → Bool} {k : Nat} (hk : k < n) {M : xMem} (hM : LR M0 T M) (post : Int32 → xMem → Prop) (hp : ∀ v M', nfW bg ed n T k (100 - bg k) (bg k) = v → LR M0 (if v = 100 then T else upT T v) M' → post (nI v) M') : wX12_nightFor (nI k) (nI n) M post := by
  have he := hb k hk
  have hle : ∀ T W, optW bg ed n T 100 W ≤ 100 := fun T W => by rw [← grd_opt]; exact grd_le ..
  unfold wX12_nightFor
  refine haveM hn hb hT0 hM (by omega) _ ?_
  rw [z_mull]
  refine byM (fun i => hM.1 1 i (by decide)) (by omega) (hT0 k hk).1 _ ?_
  have key : ∀ r v M, v + r = 100 → bg k ≤ v → nfW bg ed n T k r v = nfW bg ed n T k (100 - bg k) (bg k) → LR M0 T M → wX12_nightFor_16 post (r + 1) (nI k) (nI n) (nI (optW bg ed n T 100 (wfW n k))) (nI v) M := by
    intro r
    induction r with
    | zero =>
      intro v M hv hbv hnf hM
      have hcl : ed k < v := by omega
      rw [wX12_nightFor_16]; dsimp only
      rw [z_mull, z_add1]
      refine byM (fun i => hM.1 1 i (by decide)) (by omega) (hT0 k hk).2 _ ?_
      rw [if_pos (nI_lt hcl (by omega))]
      exact hp 100 M (by rw [← hnf]; rfl) (by rw [if_pos rfl]; exact hM)
    | succ r ih =>
      intro v M hv hbv hnf hM
      rw [wX12_nightFor_16]; dsimp only
      rw [z_mull, z_add1]
      refine byM (fun i => hM.1 1 i (by decide)) (by omega) (hT0 k hk).2 _ ?_
      rw [nfW] at hnf
      by_cases c : ed k < v
      · rw [if_pos c] at hnf
        rw [if_pos (nI_lt c (by omega))]
        exact hp 100 M hnf.symm (by rw [if_pos rfl]; exact hM)
      rw [if_neg c] at hnf
      have hv100 : v < 100 := by omega
      rw [if_neg (nI_nlt (by omega) (by omega))]
      have hvv := vl (n := v) (N := 100) hv100 (by decide)
      refine ⟨hvv, ?_⟩
      rw [nI_clamp (by omega), hM.2 v hv100]
      have nx : ∀ M', nfW bg ed n T k r (v + 1) = nfW bg ed n T k (100 - bg k) (bg k) → LR M0 T M' → wX12_nightFor_76 (wX12_nightFor_16 post (r + 1)) post (nI k) (nI n) (nI (optW bg ed n T 100 (wfW n k))) (nI v) M' := by
        intro M' h1 h2 v1 e1
        subst e1
        rw [nI_1]
        exact ih (v + 1) M' (by omega) (by omega) h1 h2
      by_cases t : T v = true
      · rw [b2i_t t, if_neg (by decide)]
        rw [if_neg (fun q => by rw [t] at q; cases q.1)] at hnf
        exact nx M hnf hM
      rw [b2i_f t, if_pos rfl]
      have tf : T v = false := by
        cases hT : T v with
        | true => exact absurd hT t
        | false => rfl
      refine ⟨hvv, ?_⟩
      intro M7 e7
      have hM7 : LR M0 (upT T v) M7 := by rw [e7]; exact LR_up hM v
      rw [nI_1]
      refine haveM hn hb hT0 hM7 (f := k + 1) (by omega) _ ?_
      have h1 := hle (upT T v) (wfW n (k + 1))
      have h2 := hle T (wfW n k)
      rw [nI_1]
      by_cases q : optW bg ed n (upT T v) 100 (wfW n (k + 1)) + 1 = optW bg ed n T 100 (wfW n k)
      · rw [if_pos ⟨tf, q⟩] at hnf
        rw [if_pos (congrArg nI q)]
        exact hp v M7 hnf.symm (by rw [if_neg (by omega)]; exact hM7)
      · rw [if_neg (fun z => q z.2)] at hnf
        rw [if_neg (fun z => q ((nI_eq (by omega) (by omega)).mp z))]
        refine ⟨hvv, ?_⟩
        intro M12 e12
        exact nx M12 hnf (by rw [e12]; exact LR_dn hM7 tf)
  exact ⟨100 - bg k + 1, key (100 - bg k) (bg k) M (by omega) (Nat.le_refl _) rfl hM⟩
/-- the evenings up to x2 -/
theorem nightsM {bg ed : Nat → Nat} {n : Nat} (hn : n ≤ 8) (hb : ∀ j, j < n → bg j ≤ 99 ∧ ed j ≤ 99) {M0 : xMem} (hT0 : tpM bg ed n M0) {j : Nat} (hj : j < n) {M : xMem} (hM : LR M0 (fun _ => false) M) (post : Int32 → xMem → Prop) (hp : ∀ M', (∀ c i, c ≠ 59 → gi M' c i = gi M0 c i) → post (nI ((stW bg ed n n).2 j)) M') : ∃ n140, wX12_lent_140 post n140 (nI n) (nI j) 100 0 M := by
  have stn : ∀ q, j < q → q ≤ n → (stW bg ed n n).2 j = (stW bg ed n q).2 j := by
    intro q h1 h2
    have : ∀ d, q + d ≤ n → (stW bg ed n (q + d)).2 j = (stW bg ed n q).2 j := by
      intro d
      induction d with
      | zero => intro _; rfl
      | succ d ih => intro h; rw [← Nat.add_assoc, st_keep bg ed n (by omega)]; exact ih (by omega)
    have h3 := this (n - q) (by omega)
    rw [show q + (n - q) = n by omega] at h3
    exact h3
  have key : ∀ m k (x3 : Int32) M, k + m = j + 1 → LR M0 (stW bg ed n k).1 M → (k = j + 1 → x3 = nI ((stW bg ed n (j + 1)).2 j)) → wX12_lent_140 post (m + 1) (nI n) (nI j) x3 (nI k) M := by
    intro m
    induction m with
    | zero =>
      intro k x3 M hk hM hx
      have hjk : j < k := by omega
      rw [wX12_lent_140]; dsimp only
      rw [if_pos (nI_lt hjk (by omega)), hx (by omega), ← stn (j + 1) (by omega) (by omega)]
      exact hp M hM.1
    | succ m ih =>
      intro k x3 M hk hM hx
      rw [wX12_lent_140]; dsimp only
      rw [if_neg (nI_nlt (by omega) (by omega))]
      refine nightM hn hb hT0 (k := k) (by omega) hM _ (fun v M' hv hM' => ?_)
      intro v4 e4
      subst e4
      rw [nI_1]
      refine ih (k + 1) (nI v) M' (by omega) ?_ (fun z => ?_)
      · have es1 : (stW bg ed n (k + 1)).1 = if v = 100 then (stW bg ed n k).1 else upT (stW bg ed n k).1 v := by rw [← hv]; rfl
        rw [es1]; exact hM'
      · have zk : k = j := by omega
        subst zk
        have es2 : (stW bg ed n (k + 1)).2 k = v := (if_pos rfl : (stW bg ed n (k + 1)).2 k = _).trans hv
        rw [es2]
  exact ⟨j + 2, key (j + 1) 0 100 M (by omega) hM (fun z => by omega)⟩
theorem clearM {bg ed : Nat → Nat} {n : Nat} {M0 : xMem} (post : Int32 → xMem → Prop) (x2 : Int32) (K : ∀ M, LR M0 (fun _ => false) M → (if x2 = 20 then wX12_canHave 0 (nI n) M (fun r4 M3 => post r4 M3) else ∃ n140 : Nat, wX12_lent_140 post n140 (nI n) x2 100 0 M)) : wX12_lent_100 post (nI n) x2 M0 := by
  unfold wX12_lent_100
  have key : ∀ m i M, i + m = 100 → (∀ c j, c ≠ 59 → gi M c j = gi M0 c j) → (∀ j, j < i → gi M 59 j = 0) → wX12_lent_102 post (m + 1) (nI n) x2 (nI i) M := by
    intro m
    induction m with
    | zero =>
      intro i M hi f g
      have : i = 100 := by omega
      subst this
      rw [wX12_lent_102]; dsimp only
      rw [if_pos (show (100 : Int32) ≤ nI 100 by decide)]
      exact K M ⟨f, fun d hd => by rw [g d hd]; exact (b2i_f (show ¬ (false = true) by decide)).symm⟩
    | succ m ih =>
      intro i M hi f g
      have hi100 : i < 100 := by omega
      rw [wX12_lent_102]; dsimp only
      rw [if_neg (show ¬ (100 : Int32) ≤ nI i from nI_ge hi100 (by decide))]
      refine ⟨vl hi100 (by decide), ?_⟩
      intro M6 e6 v7 e7
      subst e6; subst e7
      rw [nI_1, nI_clamp (by omega)]
      refine ih (i + 1) _ (by omega) (fun c j z => by rw [g_c z]; exact f c j z) (fun j hj => ?_)
      rw [gi_si]
      by_cases q : j = i
      · rw [if_pos ⟨rfl, q⟩]; exact narb_0
      · rw [if_neg (by omega)]; exact g j (by omega)
  exact ⟨101, key 100 0 M0 rfl (fun _ _ _ => rfl) (fun j hj => by omega)⟩
