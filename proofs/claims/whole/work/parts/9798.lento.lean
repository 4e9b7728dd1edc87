/-! lent(), the whole -/
theorem takeL {t : Nat → Nat} {n : Nat} (hn : n ≤ 8) {C : xMem} (h1 : ∀ i, i < 2 * n → gi C 1 i = nI (t i)) (ht : ∀ i, i < 2 * n → t i < 256) (post : Int32 → xMem → Prop) (hp : ∀ C' : xMem, (∀ c i, ¬ (c = 89 ∧ i = 4) → c ≠ 90 → c ≠ 91 → gi C' c i = gi C c i) → ((∀ k, k < n → t (2 * k) ≤ t (2 * k + 1)) → gi C' 89 4 = nI n → (∀ j, j < n → gi C' 90 j = nI (t (2 * j)) ∧ gi C' 91 j = nI (t (2 * j + 1))) → post 1 C') ∧ ((∃ k, k < n ∧ t (2 * k + 1) < t (2 * k)) → post 0 C')) : wX7_take (nI n) C post := by
  unfold wX7_take
  rw [min_eq, if_neg (show ¬ (8 : Int32) < nI n from nI_nlt (a := 8) (b := n) hn (by decide))]
  intro M3 e3
  have key : ∀ m k C1, k + m = n → (∀ c i, ¬ (c = 89 ∧ i = 4) → c ≠ 90 → c ≠ 91 → gi C1 c i = gi C c i) → gi C1 89 4 = nI n → (∀ j, j < k → t (2 * j) ≤ t (2 * j + 1)) → (∀ j, j < k → gi C1 90 j = nI (t (2 * j)) ∧ gi C1 91 j = nI (t (2 * j + 1))) → wX7_take_12 post (m + 1) (nI k) C1 := by
    intro m
    induction m with
    | zero =>
      intro k C1 hk f h4 g1 g2
      have : k = n := by omega
      subst this
      rw [wX7_take_12]; dsimp only
      rw [h4, if_pos (nI_le (Nat.le_refl _) (by omega))]
      exact (hp C1 f).1 g1 h4 g2
    | succ m ih =>
      intro k C1 hk f h4 g1 g2
      have hkn : k < n := by omega
      rw [wX7_take_12]; dsimp only
      rw [h4, if_neg (nI_ge hkn (by omega)), z_mull, z_add1, if_neg (show ¬ (260 : Int32) ≤ nI (2 * k + 1) from nI_ge (b := 260) (by omega) (by decide))]
      have v1 := vl (n := 2 * k) (N := 260) (by omega) (by decide)
      have v2 := vl (n := k) (N := 8) (by omega) (by decide)
      have v3 := vl (n := 2 * k + 1) (N := 260) (by omega) (by decide)
      refine ⟨v1, v2, ?_⟩
      intro M5 e5
      refine ⟨v3, v2, ?_⟩
      intro M8 e8
      refine ⟨v2, v2, ?_⟩
      rw [nI_clamp (by omega), nI_clamp (by omega), f _ _ (by omega) (by decide) (by decide), h1 _ (by omega)] at e5
      rw [nI_clamp (by omega), nI_clamp (by omega), e5, g_c (by decide), f _ _ (by omega) (by decide) (by decide), h1 _ (by omega)] at e8
      have f8 : ∀ c i, ¬ (c = 89 ∧ i = 4) → c ≠ 90 → c ≠ 91 → gi M8 c i = gi C c i := fun c i a1 a2 a3 => by rw [e8, g_c a3, g_c a2]; exact f c i a1 a2 a3
      have e90 : gi M8 90 k = nI (t (2 * k)) := by rw [e8, g_c (by decide), g_same]
      have e91 : gi M8 91 k = nI (t (2 * k + 1)) := by rw [e8, g_same]
      have b1 := ht (2 * k) (by omega)
      have b2 := ht (2 * k + 1) (by omega)
      rw [nI_clamp (by omega), e90, e91]
      by_cases c : t (2 * k) ≤ t (2 * k + 1)
      · rw [if_pos (nI_le c (by omega))]
        intro v12 e12
        subst e12
        rw [nI_1]
        refine ih (k + 1) M8 (by omega) f8 (by rw [e8, g_c (by decide), g_c (by decide)]; exact h4) (fun j hj => ?_) (fun j hj => ?_)
        · by_cases q : j = k
          · rw [q]; exact c
          · exact g1 j (by omega)
        · by_cases q : j = k
          · rw [q]; exact ⟨e90, e91⟩
          · rw [e8, g_c (by decide), g_i q, g_i q, g_c (by decide)]; exact g2 j (by omega)
      · rw [if_neg (nI_ge (by omega) (by omega))]
        exact (hp M8 f8).2 ⟨k, hkn, by omega⟩
  exact ⟨n + 1, key n 0 M3 (by omega) (fun c i a1 _ _ => by rw [e3, gi_si, if_neg a1]) (by rw [e3, g_same]) (fun j hj => by omega) (fun j hj => by omega)⟩
theorem lookM {t : Nat → Nat} {n : Nat} (hn : n ≤ 8) {M : xMem} (h1 : ∀ i, i < 2 * n → gi M 1 i &&& 255 = nI (t i)) (ht : ∀ i, i < 2 * n → t i < 256) (a1 : Int32) (post : Int32 → xMem → Prop) (hp : (∀ k, k < n → t (2 * k) ≤ t (2 * k + 1) ∧ t (2 * k + 1) ≤ 99) → (if a1 = 20 then wX12_lent_100 post (nI n) a1 M else if 0 ≤ a1.toInt ∧ a1.toInt ≤ (nI n - 1).toInt then wX12_lent_100 post (nI n) a1 M else post (-4) M)) (hq : (∃ k, k < n ∧ ¬ (t (2 * k) ≤ t (2 * k + 1) ∧ t (2 * k + 1) ≤ 99)) → post (-2) M) : ∃ n31, wX12_lent_31 post n31 (nI n) a1 0 M := by
  have key : ∀ m k, k + m = n → (∀ j, j < k → t (2 * j) ≤ t (2 * j + 1) ∧ t (2 * j + 1) ≤ 99) → wX12_lent_31 post (m + 1) (nI n) a1 (nI k) M := by
    intro m
    induction m with
    | zero =>
      intro k hk g
      have : k = n := by omega
      subst this
      rw [wX12_lent_31]; dsimp only
      rw [if_pos (nI_le (Nat.le_refl _) (by omega))]
      have h9 := hp g
      by_cases z : a1 = 20
      · rw [if_pos z] at h9 ⊢; exact h9
      · rw [if_neg z] at h9 ⊢
        rw [lies_eq, i64i, i64i, zj0]
        by_cases y : 0 ≤ a1.toInt ∧ a1.toInt ≤ (nI k - 1).toInt
        · rw [if_pos y] at h9; rw [b2i_t y, if_neg (by decide)]; exact h9
        · rw [if_neg y] at h9; rw [b2i_f y, if_pos rfl]; exact h9
    | succ m ih =>
      intro k hk g
      have hkn : k < n := by omega
      have b1 := ht (2 * k) (by omega)
      have b2 := ht (2 * k + 1) (by omega)
      rw [wX12_lent_31]; dsimp only
      rw [if_neg (nI_ge hkn (by omega)), z_mull, z_add1]
      refine byteAt_n (by omega) (h1 _ (by omega)) _ ?_
      by_cases c : 100 ≤ t (2 * k + 1)
      · rw [if_pos (show (100 : Int32) ≤ nI (t (2 * k + 1)) from nI_le (a := 100) c (by omega))]
        exact hq ⟨k, hkn, by omega⟩
      rw [if_neg (show ¬ (100 : Int32) ≤ nI (t (2 * k + 1)) from nI_ge (b := 100) (by omega) (by decide))]
      refine byteAt_n (by omega) (h1 _ (by omega)) _ ?_
      refine byteAt_n (by omega) (h1 _ (by omega)) _ ?_
      by_cases c2 : t (2 * k) ≤ t (2 * k + 1)
      · rw [if_pos (nI_le c2 (by omega))]
        intro v14 e14
        subst e14
        rw [nI_1]
        refine ih (k + 1) (by omega) (fun j hj => ?_)
        by_cases q : j = k
        · rw [q]; omega
        · exact g j (by omega)
      · rw [if_neg (nI_ge (by omega) (by omega))]
        exact hq ⟨k, hkn, by omega⟩
  exact ⟨n + 1, key n 0 (by omega) (fun j hj => by omega)⟩
theorem lent_ok {LL : xMem → xMem → Prop} (hLL : LLc LL) (a0 a1 : Int32) (C M : xMem) (h : RRL LL C M) : wX11_lent a0 a1 C (fun r C' => wX12_lent a0 a1 M (fun r' M' => r = r' ∧ RRL LL C' M')) := by
  have h9 := RRL_taped hLL h
  obtain ⟨⟨S, e, hl, hk, il, to, il2, to2, kp, tn, t, hR⟩, hL⟩ := id h
  obtain ⟨wT, rT, rT2⟩ := hR.2.2.2.2.1
  have hw9 := wT.1
  have z8 : (8 : Int32).toInt = 8 := by decide
  have y8 : (8 : Int64).toInt = 8 := by decide
  unfold wX11_lent wX12_lent
  rw [within_eq, zi1, z8]
  by_cases c0 : 1 ≤ a0.toInt ∧ a0.toInt ≤ 8
  rotate_left
  · rw [b2i_f c0, if_pos rfl]
    dsimp only
    rw [lies_eq, i64i, zj1, y8, b2i_f c0, if_pos rfl]
    exact ⟨rfl, h⟩
  obtain ⟨n, hn, rfl⟩ := at_n (a := a0) (n := 8) ⟨by omega, c0.2⟩ (by decide)
  have hn1 := c0.1
  rw [nI_toInt (by omega)] at hn1
  rw [b2i_t c0, if_neg (by decide), rT.1]
  simp only [lies_eq, i64i, zj1, y8]
  rw [b2i_t c0, if_neg (show ¬ (1 : Int32) = 0 by decide), rT2.1, z_mull]
  by_cases c1 : 2 * n ≤ tn
  rotate_left
  · rw [if_neg (nI_ge (by omega) (by omega)), if_neg (nI_ge (by omega) (by omega))]
    exact ⟨trivial, h⟩
  rw [if_pos (nI_le c1 (by omega))]
  simp only [if_pos (nI_le c1 (show tn < 2 ^ 31 by omega))]
  intro M5 e5
  subst e5
  simp only [forall_eq]
  have fC3 : ∀ i, i < 2 * n → gi (si C 0 1 0) 1 i = nI (t i) := fun i hi => by rw [g_c (by omega)]; exact rT.2 i (by omega)
  have fM3 : ∀ i, i < 2 * n → gi (si M 0 1 0) 1 i &&& 255 = nI (t i) := fun i hi => by rw [g_c (by omega)]; exact (rT2.2 i (by omega)).1
  have fT : ∀ i, i < 2 * n → t i < 256 := fun i hi => wT.2 i (by omega)
  have tc : ∀ q : Nat, q < 2 * n → ∃ k, k < n ∧ (q = 2 * k ∨ q = 2 * k + 1) := fun q hq => ⟨q / 2, by omega, by omega⟩
  refine tapeW (b := 99) (by omega) (by omega) fC3 fT _ (fun hall => ?_) (fun hbad => ?_)
  rotate_left
  · rw [if_pos rfl]
    refine lookM hn fM3 fT a1 _ (fun hg => ?_) (fun _ => ⟨rfl, h9⟩)
    exfalso
    obtain ⟨i, hi, h2⟩ := hbad
    obtain ⟨k, hk, q⟩ := tc i hi
    have := hg k hk
    rcases q with q | q <;> subst q <;> omega
  rw [if_neg (by decide)]
  refine takeL hn fC3 fT _ (fun C' fC => ⟨fun hg h4 h5 => ?_, fun hbad => ?_⟩)
  rotate_left
  · rw [if_pos rfl]
    have h10 : RRL LL C' (si M 0 1 0) := RRL_fr hLL h9 (fun c i hc => fC c i (by unfold cntC lawC at hc; omega) (by unfold cntC lawC at hc; omega) (by unfold cntC lawC at hc; omega)) (fun _ _ _ => rfl)
    refine lookM hn fM3 fT a1 _ (fun hg => ?_) (fun _ => ⟨rfl, h10⟩)
    exfalso
    obtain ⟨k, hk, h2⟩ := hbad
    have := hg k hk
    omega
  rw [if_neg (by decide), within_eq, zi0]
  have hg2 : ∀ k, k < n → t (2 * k) ≤ t (2 * k + 1) ∧ t (2 * k + 1) ≤ 99 := fun k hk => ⟨hg k hk, hall _ (by omega)⟩
  have hb : ∀ j, j < n → (fun j => t (2 * j)) j ≤ 99 ∧ (fun j => t (2 * j + 1)) j ≤ 99 := fun j hj => ⟨by have := hg2 j hj; dsimp only; omega, (hg2 j hj).2⟩
  have hT : tpM (fun j => t (2 * j)) (fun j => t (2 * j + 1)) n (si M 0 1 0) := fun j hj => ⟨fM3 _ (by omega), fM3 _ (by omega)⟩
  have nobad : ¬ ∃ k, k < n ∧ ¬ (t (2 * k) ≤ t (2 * k + 1) ∧ t (2 * k + 1) ≤ 99) := fun ⟨k, hk, q⟩ => q (hg2 k hk)
  have fr : ∀ C2 M2 : xMem, (∀ c i, ¬ (c = 89 ∧ i = 5) → c ≠ 92 → c ≠ 93 → gi C2 c i = gi C' c i) → (∀ c i, c ≠ 59 → gi M2 c i = gi (si M 0 1 0) c i) → RRL LL C2 M2 := fun C2 M2 f2 g2 => RRL_fr hLL h9 (fun c i hc => by
    unfold cntC lawC at hc
    rw [f2 c i (by omega) (by omega) (by omega), fC c i (by omega) (by omega) (by omega)]) (fun c i hc => g2 c i (by unfold cntM at hc; omega))
  -- what both do where something is asked
  have solved : ∀ x2 x3 : Int32, (x3 = 0 → x2 = 20) → (x3 ≠ 0 → ∃ j, j < n ∧ x2 = nI j) → wX11_lent_79 (fun r C' => ∃ n31, wX12_lent_31 (fun r' M' => r = r' ∧ RRL LL C' M') n31 (nI n) x2 0 (si M 0 1 0)) x2 x3 C' := by
    intro x2 x3 q0 q1
    unfold wX11_lent_79
    refine solveL hn hb h4 h5 _ (fun C2 f2 g1 g2 => ?_)
    by_cases z : x3 = 0
    · rw [if_pos z]
      have e20 := q0 z
      refine lookM hn fM3 fT x2 _ (fun _ => ?_) (fun q => absurd q nobad)
      rw [if_pos e20]
      refine clearM (bg := fun _ => 0) (ed := fun _ => 0) _ x2 (fun M2 hM2 => ?_)
      rw [if_pos e20]
      refine haveM (f := 0) hn hb hT hM2 (Nat.zero_le _) _ ?_
      exact ⟨g1, fr C2 M2 f2 hM2.1⟩
    · rw [if_neg z]
      obtain ⟨j, hj, rfl⟩ := q1 z
      refine ⟨vl (n := j) (N := 8) (by omega) (by decide), ?_⟩
      rw [nI_clamp (by omega), g2 j hj]
      have n20 : ¬ nI j = 20 := fun y => absurd ((nI_eq (a := j) (b := 20) (by omega) (by omega)).mp y) (by omega)
      have hin : 0 ≤ (nI j).toInt ∧ (nI j).toInt ≤ (nI n - 1).toInt := by
        rw [show nI n - 1 = nI (n - 1) from z_sub (b := 1) (by omega), nI_toInt (by omega), nI_toInt (by omega)]
        omega
      refine lookM hn fM3 fT (nI j) _ (fun _ => ?_) (fun q => absurd q nobad)
      rw [if_neg n20, if_pos hin]
      refine clearM (bg := fun _ => 0) (ed := fun _ => 0) _ (nI j) (fun M2 hM2 => ?_)
      rw [if_neg n20]
      refine nightsM hn hb hT hj hM2 _ (fun M3 f3 => ⟨rfl, fr C2 M3 f2 f3⟩)
  by_cases c2 : 0 ≤ a1.toInt ∧ a1.toInt ≤ (nI n - 1).toInt
  · rw [b2i_t c2, if_neg (by decide)]
    refine solved a1 1 (fun q => absurd q (by decide)) (fun _ => ?_)
    have hh := c2.2
    rw [show nI n - 1 = nI (n - 1) from z_sub (b := 1) (by omega), nI_toInt (by omega)] at hh
    obtain ⟨j, hj, e⟩ := at_n (a := a1) (n := n - 1) ⟨c2.1, hh⟩ (by omega)
    exact ⟨j, by omega, e⟩
  · rw [b2i_f c2, if_pos rfl]
    by_cases c3 : a1 = 20
    · rw [if_pos c3]
      exact solved a1 0 (fun _ => c3) (fun q => absurd rfl q)
    · rw [if_neg c3]
      refine lookM hn fM3 fT a1 _ (fun _ => ?_) (fun q => absurd q nobad)
      rw [if_neg c3, if_neg c2]
      refine ⟨rfl, ?_⟩
      exact RRL_fr hLL h9 (fun c i hc => by
        unfold cntC lawC at hc
        rw [fC c i (by omega) (by omega) (by omega)]) (fun _ _ _ => rfl)
