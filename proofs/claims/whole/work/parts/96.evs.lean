/-! evenings(), tried(), other(), first() -/
theorem evenings_ok {LL : xMem → xMem → Prop} (hLL : LLc LL) (hS : LSem LL) (a0 : Int32) (C M : xMem) (h : RRL LL C M) : wX11_evenings a0 C (fun r C' => wX12_evenings a0 M (fun r' M' => r = r' ∧ RRL LL C' M')) := by
  obtain ⟨⟨S, e, hl, hk, il, to, il2, to2, kp, tn, t, hR⟩, hL⟩ := id h
  obtain ⟨V, W, oV, oW, sC, sC2, sM, sM2⟩ := hS C M hL
  obtain ⟨wE, rE, rE2⟩ := hR.2.1
  obtain ⟨wH, tL, rH, rH2⟩ := hR.2.2.1
  have x1 := hR.2.2.2.2.2.1
  unfold wX11_evenings
  rw [within_eq, zi1, zi60]
  by_cases c0 : 1 ≤ a0.toInt ∧ a0.toInt ≤ 60
  rotate_left
  · rw [b2i_f c0, if_pos rfl]
    unfold wX12_evenings
    dsimp only
    rw [lies_eq, i64i, zj1, zj60, b2i_f c0, if_pos rfl]
    exact ⟨rfl, h⟩
  rw [b2i_t c0, if_neg (by decide)]
  obtain ⟨n, hn, rfl⟩ := at_n (a := a0) (n := 60) (by omega) (by decide)
  have X : CxC S e V 49 18 C := ⟨Or.inl rfl, Or.inl rfl, oV, sC, wE, rE, fun j hj => ⟨(hR.1 j hj).1, (hR.1 j hj).2.1⟩⟩
  have XM : CxM S e V 0 M := ⟨by omega, oV, sM, wE, rE2, fun j hj => ⟨(hR.1 j hj).1, (hR.1 j hj).2.2⟩⟩
  refine runC X wH tL rH (fun _ _ _ => rfl) hn _ (fun C' n0 E => ?_)
  unfold wX12_evenings
  dsimp only
  rw [lies_eq, i64i, zj1, zj60, b2i_t c0, if_neg (by decide)]
  refine runM XM wH tL x1 rH2 (fun _ _ _ _ => rfl) hn n0 _ (fun M' E' => ⟨?_, ?_⟩)
  · have a := E.2.2.2.1.1 0 (by omega)
    have b := E'.2.2.1.1 0 (by omega)
    exact a.trans b.symm
  · have w0 : wfX S 0 (hl, q0 n0, il, to) := ⟨wH, tL, Nat.le_refl _, ⟨fun _ => rfl, fun _ => rfl⟩, by show 10 ≤ 10; omega⟩
    have w2 := (wf_run (V := V) (e := e) (fun j hj => (hR.1 j hj).1) w0 n).1
    exact RRL_ev hLL hR hL E E' ⟨w2.1, w2.2.1⟩
theorem has_cases {t : Nat} (C : xMem) (n : Nat) (hn : n ≤ 10) (ht : t < 2 ^ n) (a : Int32) : (∃ k, k < n ∧ a = nI k ∧ t.testBit k = true ∧ ∀ post, wX11_has (nI t) a C post = post 1 C) ∨ ((∀ post, wX11_has (nI t) a C post = post 0 C) ∧ ∀ k, k < n → a = nI k → ¬ t.testBit k = true) := by
  have hp : 2 ^ n ≤ 1024 := Nat.pow_le_pow_right (n := 2) (by omega) hn
  by_cases q1 : 0 ≤ a.toInt ∧ a.toInt ≤ 9
  · obtain ⟨k, hk, rfl⟩ := at_n (a := a) (n := 9) q1 (by decide)
    by_cases z : t.testBit k = true
    · refine Or.inl ⟨k, ?_, rfl, z, fun post => by rw [hasC_n (by omega) (by omega), b2i_t z]⟩
      rcases Nat.lt_or_ge k n with q | q
      · exact q
      · have := Nat.testBit_lt_two_pow (x := t) (i := k) (Nat.lt_of_lt_of_le ht (Nat.pow_le_pow_right (by omega) q))
        rw [this] at z; cases z
    · refine Or.inr ⟨fun post => by rw [hasC_n (by omega) (by omega), b2i_f z], fun j hj e q => ?_⟩
      have := (nI_eq (a := k) (b := j) (by omega) (by omega)).mp e
      subst this
      exact z q
  · refine Or.inr ⟨fun post => ?_, fun j hj e q => q1 (by rw [e, nI_toInt (by omega)]; omega)⟩
    rw [hasC_eq]
    by_cases p0 : a < 0
    · rw [if_pos p0]
    · rw [if_neg p0]
      by_cases p1 : (10 : Int32) ≤ a
      · rw [if_pos p1]
      · exfalso
        apply q1
        have i0 : ¬ a.toInt < 0 := fun q => p0 (Int32.lt_iff_toInt_lt.mpr (by rw [zi0]; exact q))
        have i1 : ¬ 10 ≤ a.toInt := fun q => p1 (Int32.le_iff_toInt_le.mpr (by rw [zi10]; exact q))
        omega
theorem isTelling_c {h : xT2} {M : xMem} (hb : ∀ k, k < 4 → gi M 30 k = b2i ((h 0 0).testBit k = true)) (a : Int32) : (∃ k, k < 4 ∧ a = nI k ∧ (h 0 0).testBit k = true ∧ ∀ post, wX12_isTelling a M post = post 1 M) ∨ ((∀ post, wX12_isTelling a M post = post 0 M) ∧ ∀ k, k < 4 → a = nI k → ¬ (h 0 0).testBit k = true) := by
  by_cases q1 : 0 ≤ a.toInt ∧ a.toInt ≤ 3
  · obtain ⟨k, hk, rfl⟩ := at_n (a := a) (n := 3) q1 (by decide)
    by_cases z : (h 0 0).testBit k = true
    · exact Or.inl ⟨k, by omega, rfl, z, fun post => by rw [isTelling_eq (hb k (by omega)) (by omega), b2i_t z]⟩
    · refine Or.inr ⟨fun post => by rw [isTelling_eq (hb k (by omega)) (by omega), b2i_f z], fun j hj e q => ?_⟩
      have := (nI_eq (a := k) (b := j) (by omega) (by omega)).mp e
      subst this
      exact z q
  · exact Or.inr ⟨fun post => isTelling_out q1 M post, fun j hj e q => q1 (by rw [e, nI_toInt (by omega)]; omega)⟩
theorem isListening_c {h : xT2} {M : xMem} (hb : ∀ k, k < 10 → gi M 35 k = b2i ((h 5 0).testBit k = true)) (a : Int32) : (∃ k, k < 10 ∧ a = nI k ∧ (h 5 0).testBit k = true ∧ ∀ post, wX12_isListening a M post = post 1 M) ∨ ((∀ post, wX12_isListening a M post = post 0 M) ∧ ∀ k, k < 10 → a = nI k → ¬ (h 5 0).testBit k = true) := by
  by_cases q1 : 0 ≤ a.toInt ∧ a.toInt ≤ 9
  · obtain ⟨k, hk, rfl⟩ := at_n (a := a) (n := 9) q1 (by decide)
    by_cases z : (h 5 0).testBit k = true
    · exact Or.inl ⟨k, by omega, rfl, z, fun post => by rw [isListening_eq (hb k (by omega)) (by omega), b2i_t z]⟩
    · refine Or.inr ⟨fun post => by rw [isListening_eq (hb k (by omega)) (by omega), b2i_f z], fun j hj e q => ?_⟩
      have := (nI_eq (a := k) (b := j) (by omega) (by omega)).mp e
      subst this
      exact z q
  · exact Or.inr ⟨fun post => isListening_out q1 M post, fun j hj e q => q1 (by rw [e, nI_toInt (by omega)]; omega)⟩
theorem sub_nI {a : Int32} {k n : Nat} (h : a - (no_index (OfNat.ofNat n : Int32)) = nI k) : a = nI (OfNat.ofNat n + k) := by
  have e : a = (a - (OfNat.ofNat n : Int32)) + (OfNat.ofNat n : Int32) := by rw [Int32.sub_add_cancel]
  rw [e, h, show (OfNat.ofNat n : Int32) = nI (OfNat.ofNat n) from rfl, nI_add, Nat.add_comm]
/-- what is asked of the evenings that were tried -/
def askd (h : xT2) (a : Int32) (st : xS) (v : Nat) : Prop := (∃ j, j < 7 ∧ a = nI j ∧ v = st.2.1 j) ∨ (∃ k, k < 4 ∧ (h 0 0).testBit k = true ∧ ((a = nI (10 + k) ∧ v = st.1 2 k) ∨ (a = nI (20 + k) ∧ v = st.1 4 k))) ∨ (∃ l, l < 10 ∧ (h 5 0).testBit l = true ∧ a = nI (30 + l) ∧ v = st.1 8 l)
theorem canC {h : xT2} (h0 : h 0 0 < 16) (h5 : h 5 0 < 1024) {C : xMem} (g0 : gi C 49 0 = nI (h 0 0)) (g5 : gi C 49 5 = nI (h 5 0)) (a : Int32) (post : Int32 → xMem → Prop) (h1 : (∀ st, ∃ v, askd h a st v) → post 1 C) (h2 : (¬ (0 ≤ a.toInt ∧ a.toInt ≤ 6) ∧ (∀ k, k < 4 → a - 10 = nI k → ¬ (h 0 0).testBit k = true) ∧ (∀ k, k < 4 → a - 20 = nI k → ¬ (h 0 0).testBit k = true) ∧ ∀ l, l < 10 → a - 30 = nI l → ¬ (h 5 0).testBit l = true) → post 0 C) : wX11_canBeTried a C post := by
  unfold wX11_canBeTried
  rw [within_eq, zi0, zi6]
  by_cases c0 : 0 ≤ a.toInt ∧ a.toInt ≤ 6
  · rw [b2i_t c0, if_neg (by decide)]
    obtain ⟨j, hj, rfl⟩ := at_n (a := a) (n := 6) c0 (by decide)
    exact h1 (fun st => ⟨st.2.1 j, Or.inl ⟨j, by omega, rfl, rfl⟩⟩)
  rw [b2i_f c0, if_pos rfl, g0]
  rcases has_cases C 4 (by omega) (t := h 0 0) (by omega) (a - 10) with ⟨k, hk, e, z, q⟩ | ⟨q, z1⟩
  · rw [q, if_neg (by decide)]
    exact h1 (fun st => ⟨st.1 2 k, Or.inr (Or.inl ⟨k, hk, z, Or.inl ⟨sub_nI e, rfl⟩⟩)⟩)
  rw [q, if_pos rfl, g0]
  rcases has_cases C 4 (by omega) (t := h 0 0) (by omega) (a - 20) with ⟨k, hk, e, z, q⟩ | ⟨q, z2⟩
  · rw [q, if_neg (by decide)]
    exact h1 (fun st => ⟨st.1 4 k, Or.inr (Or.inl ⟨k, hk, z, Or.inr ⟨sub_nI e, rfl⟩⟩)⟩)
  rw [q, if_pos rfl, g5]
  rcases has_cases C 10 (by omega) (t := h 5 0) (by omega) (a - 30) with ⟨k, hk, e, z, q⟩ | ⟨q, z3⟩
  · rw [q, if_neg (by decide)]
    exact h1 (fun st => ⟨st.1 8 k, Or.inr (Or.inr ⟨k, hk, z, sub_nI e, rfl⟩)⟩)
  rw [q, if_pos rfl]
  exact h2 ⟨c0, z1, z2, z3⟩
theorem ne7 {x : Nat} (h : 7 ≤ x) (h2 : x < 2 ^ 31) : ¬ nI x = 0 ∧ ¬ nI x = 1 ∧ ¬ nI x = 2 ∧ ¬ nI x = 3 ∧ ¬ nI x = 4 ∧ ¬ nI x = 5 ∧ ¬ nI x = 6 := by
  have g : ∀ n : Nat, n < 7 → ¬ nI x = nI n := fun n hn q => by have := (nI_eq h2 (by omega)).mp q; omega
  exact ⟨g 0 (by omega), g 1 (by omega), g 2 (by omega), g 3 (by omega), g 4 (by omega), g 5 (by omega), g 6 (by omega)⟩
theorem resC {o1 : Nat} {C0 : xMem} {st : xS} {C : xMem} (E : EvC 67 o1 C0 st C) {h : xT2} {a : Int32} {v : Nat} (ha : askd h a st v) (post : Int32 → xMem → Prop) (hp : post (nI v) C) : wX1_result a C post := by
  obtain ⟨f1, f2, f3, f4, f5⟩ := E
  have hk4 : kC 67 = 4 := by decide
  have oclamp : (nI 67).toNatClampNeg = 67 := nI_clamp (by omega)
  unfold wX1_result
  rcases ha with ⟨j, hj, rfl, rfl⟩ | ⟨k, hk, hb, ⟨rfl, rfl⟩ | ⟨rfl, rfl⟩⟩ | ⟨l, hl, hb, rfl, rfl⟩
  · have q := f4.1 j hj
    have : j = 0 ∨ j = 1 ∨ j = 2 ∨ j = 3 ∨ j = 4 ∨ j = 5 ∨ j = 6 := by omega
    rcases this with rfl | rfl | rfl | rfl | rfl | rfl | rfl
    · rw [if_pos (show nI 0 = 0 from rfl)]; exact q ▸ hp
    · rw [if_neg (show ¬ nI 1 = 0 by decide), if_pos (show nI 1 = 1 from rfl)]; exact q ▸ hp
    · rw [if_neg (show ¬ nI 2 = 0 by decide), if_neg (show ¬ nI 2 = 1 by decide), if_pos (show nI 2 = 2 from rfl)]; exact q ▸ hp
    · rw [if_neg (show ¬ nI 3 = 0 by decide), if_neg (show ¬ nI 3 = 1 by decide), if_neg (show ¬ nI 3 = 2 by decide), if_pos (show nI 3 = 3 from rfl)]; exact q ▸ hp
    · rw [if_neg (show ¬ nI 4 = 0 by decide), if_neg (show ¬ nI 4 = 1 by decide), if_neg (show ¬ nI 4 = 2 by decide), if_neg (show ¬ nI 4 = 3 by decide), if_pos (show nI 4 = 4 from rfl)]; exact q ▸ hp
    · rw [if_neg (show ¬ nI 5 = 0 by decide), if_neg (show ¬ nI 5 = 1 by decide), if_neg (show ¬ nI 5 = 2 by decide), if_neg (show ¬ nI 5 = 3 by decide), if_neg (show ¬ nI 5 = 4 by decide), if_pos (show nI 5 = 5 from rfl)]; exact q ▸ hp
    · rw [if_neg (show ¬ nI 6 = 0 by decide), if_neg (show ¬ nI 6 = 1 by decide), if_neg (show ¬ nI 6 = 2 by decide), if_neg (show ¬ nI 6 = 3 by decide), if_neg (show ¬ nI 6 = 4 by decide), if_neg (show ¬ nI 6 = 5 by decide), if_pos (show nI 6 = 6 from rfl)]; exact q ▸ hp
  · obtain n7 := ne7 (x := 10 + k) (by omega) (by omega)
    rw [if_neg n7.1, if_neg n7.2.1, if_neg n7.2.2.1, if_neg n7.2.2.2.1, if_neg n7.2.2.2.2.1, if_neg n7.2.2.2.2.2.1, if_neg n7.2.2.2.2.2.2, within_eq, zi10, zi13, nI_toInt (by omega), b2i_t (by omega), if_neg (by decide), f1, oclamp, z_subl (by omega)]
    refine ⟨hk4, vl (by omega) (by decide), ?_⟩
    rw [nI_clamp (by omega), show 10 + k - 10 = k by omega, (f3.2.2.2.2.2.2.1 k hk).2.1]
    exact hp
  · obtain n7 := ne7 (x := 20 + k) (by omega) (by omega)
    rw [if_neg n7.1, if_neg n7.2.1, if_neg n7.2.2.1, if_neg n7.2.2.2.1, if_neg n7.2.2.2.2.1, if_neg n7.2.2.2.2.2.1, if_neg n7.2.2.2.2.2.2, within_eq, zi10, zi13, nI_toInt (by omega), b2i_f (by omega), if_pos rfl, within_eq, zi20, show (23 : Int32).toInt = 23 by decide, nI_toInt (by omega), b2i_t (by omega), if_neg (by decide), f1, oclamp, z_subl (by omega)]
    refine ⟨hk4, vl (by omega) (by decide), ?_⟩
    rw [nI_clamp (by omega), show 20 + k - 20 = k by omega, (f3.2.2.2.2.2.2.1 k hk).2.2.2]
    exact hp
  · obtain n7 := ne7 (x := 30 + l) (by omega) (by omega)
    rw [if_neg n7.1, if_neg n7.2.1, if_neg n7.2.2.1, if_neg n7.2.2.2.1, if_neg n7.2.2.2.2.1, if_neg n7.2.2.2.2.2.1, if_neg n7.2.2.2.2.2.2, within_eq, zi10, zi13, nI_toInt (by omega), b2i_f (by omega), if_pos rfl, within_eq, zi20, show (23 : Int32).toInt = 23 by decide, nI_toInt (by omega), b2i_f (by omega), if_pos rfl, within_eq, zi30, zi39, nI_toInt (by omega), b2i_t (by omega), if_neg (by decide), f1, oclamp, z_subl (by omega)]
    refine ⟨hk4, vl (by omega) (by decide), ?_⟩
    rw [nI_clamp (by omega), show 30 + l - 30 = l by omega, (f3.2.2.2.2.2.2.2 l hl).2.2.1]
    exact hp
theorem minT_eq {S : Nat → List Nat} {h : xT2} (tL : ∀ k, k < 4 → h 3 k ≤ (S (h 1 k)).length) : minT S h = h := by
  funext a b
  unfold minT
  by_cases z : a = 3
  · rw [if_pos z]
    by_cases z2 : b < 4
    · rw [if_pos z2, z]
      exact Nat.min_eq_left (tL b z2)
    · rw [if_neg z2, z]
  · rw [if_neg z]
