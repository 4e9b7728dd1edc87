theorem RRL_kept {LL : xMem → xMem → Prop} (hLL : LLc LL) {S : Nat → List Nat} {e h hk : xT2} {il to il2 to2 : Int32} {kp : Bool} {tn : Nat} {t : Nat → Nat} {C M C' M' : xMem} (hR : RD S e h hk il to il2 to2 kp tn t C M) (hL : LL C M) (fC : ∀ c i, cntC c i → ¬ (58 ≤ c ∧ c ≤ 66) → ¬ (c = 0 ∧ i = 11) → gi C' c i = gi C c i) (fM : ∀ c i, cntM c i → ¬ asM 1 c i → ¬ (c = 0 ∧ i = 95) → gi M' c i = gi M c i) (n1 : gi C' 0 11 = 1) (n2 : gi M' 0 95 = 1) {h' : xT2} {il' to' : Int32} (nH : wfH S h' ∧ HC 58 h' il' to' C' ∧ HA 1 h' il' to' M') : RRL LL C' M' := by
  obtain ⟨rS, ⟨wE, rE, rE2⟩, ⟨wH, tL, rH, rH2⟩, ⟨k1, k2, k3⟩, ⟨wT, rT, rT2⟩, x1, x2⟩ := hR
  unfold cntC at fC
  unfold cntM asM at fM
  refine ⟨⟨S, e, h, h', il, to, il', to', true, tn, t, fun k hk6 => ⟨(rS k hk6).1, SC_keep hk6 (fun c i _ _ => fC c i (by omega) (by omega) (by omega)) (rS k hk6).2.1, SM_keep (fun c i _ _ => fM c i (by omega) (by omega) (by omega)) (rS k hk6).2.2⟩, ⟨wE, EC_keep (fC _ _ (by omega) (by omega) (by omega)) (fun c i _ _ => fC c i (by omega) (by omega) (by omega)) rE, EM_keep (fun c i _ _ _ => fM c i (by omega) (by omega) (by omega)) rE2⟩, ⟨wH, tL, ?_, HM_keep (fun c i _ _ _ => fM c i (by omega) (by omega) (by omega)) (fun i hi => fM 0 i (by omega) (by omega) (by omega)) rH2⟩, ⟨n1, n2, fun _ => nH⟩, ⟨wT, TC_keep (fC _ _ (by omega) (by omega) (by omega)) (fun i => fC _ _ (by omega) (by omega) (by omega)) rT, TM_keep (fM _ _ (by omega) (by omega) (by omega)) (fun i => fM _ _ (by omega) (by omega) (by omega)) rT2⟩, ?_, ?_⟩, ?_⟩
  · obtain ⟨a1, a2, a3, a4, a5, a6, a7, a8⟩ := rH
    refine ⟨?_, ?_, ?_, ?_, ?_, ?_, fun k hk => ?_, fun l hl => ?_⟩
    · rw [fC _ _ (by omega) (by omega) (by omega)]; exact a1
    · rw [fC _ _ (by omega) (by omega) (by omega)]; exact a2
    · rw [fC _ _ (by omega) (by omega) (by omega)]; exact a3
    · rw [fC _ _ (by omega) (by omega) (by omega)]; exact a4
    · rw [fC _ _ (by omega) (by omega) (by omega)]; exact a5
    · rw [fC _ _ (by omega) (by omega) (by omega)]; exact a6
    · rw [fC (49 + 1) k (by omega) (by omega) (by omega), fC (49 + 2) k (by omega) (by omega) (by omega), fC (49 + 3) k (by omega) (by omega) (by omega), fC (49 + 4) k (by omega) (by omega) (by omega)]; exact a7 k hk
    · rw [fC (49 + 5) l (by omega) (by omega) (by omega), fC (49 + 6) l (by omega) (by omega) (by omega), fC (49 + 7) l (by omega) (by omega) (by omega), fC (49 + 8) l (by omega) (by omega) (by omega)]; exact a8 l hl
  · rw [fM _ _ (by omega) (by omega) (by omega)]; exact x1
  · rw [fC _ _ (by omega) (by omega) (by omega), fC _ _ (by omega) (by omega) (by omega)]; exact x2
  · refine hLL _ _ _ _ (fun c i hc => fC c i (Or.inr (Or.inr (Or.inr (Or.inl hc)))) (by unfold lawC at hc; omega) (by unfold lawC at hc; omega)) (fun c i _ _ => fM c i (by omega) (by omega) (by omega)) (fM _ _ (by omega) (by omega) (by omega)) hL
theorem keep_ok {LL : xMem → xMem → Prop} (hLL : LLc LL) (C M : xMem) (h : RRL LL C M) : wX11_keep C (fun r C' => wX12_keep M (fun r' M' => r = r' ∧ RRL LL C' M')) := by
  obtain ⟨⟨S, e, hl, hk, il, to, il2, to2, kp, tn, t, hR⟩, hL⟩ := id h
  obtain ⟨rS, ⟨wE, rE, rE2⟩, ⟨wH, tL, rH, rH2⟩, ⟨k1, k2, k3⟩, ⟨wT, rT, rT2⟩, x1, x2⟩ := id hR
  unfold wX11_keep wX12_keep
  refine takeFrom_n (by omega) rH _ (fun C1 c1 c2 => ?_)
  simp (disch := omega) only [z_lt_t, z_lt_f, z_le_t, z_le_f, z_eq_t, z_eq_f, z_lt0, z_lt1_t, z_lt1_f, z_lt2_t, z_lt2_f, z_le1_t, z_le1_f, z_le2_t, z_le2_f, z_eq1_t, z_eq1_f, z_eq2_t, z_eq2_f, z_lt1, z_lt2, z_le1, z_le2, z_eq1, z_eq2, z_lt, z_le, z_eq, z_in, z_cl, z_cl1, z_add, z_add1, z_addm, z_sub, z_subl, z_mul, z_mull, ↓forall_eq, ↓reduceIte, true_and, and_true, not_true_eq_false, not_false_eq_true, b2i_0, b2i_1, bz_b2i, bz_0, bz_1, nar_b2i, narb_0, narb_1, ↓within_eq, ↓lies_eq, i64i, zi0, zj0, zi1, zj1, zi2, zj2, zi3, zj3, zi4, zj4, zi5, zj5, zi6, zj6, zi7, zj7, zi8, zj8, zi9, zj9, zi10, zj10, zi12, zj12, zi13, zj13, zi19, zj19, zi20, zj20, zi21, zj21, zi29, zj29, zi30, zj30, zi39, zj39, zi48, zj48, zi50, zj50, zi57, zj57, zi60, zj60, zi63, zj63, zi65, zj65, zi71, zj71, zi72, zj72, zi73, zj73, zi74, zj74, zi80, zj80, zi97, zj97, zi98, zj98, zi99, zj99, zi100, zj100, zi106, zj106, zi240, zj240, zi255, zj255, zi260, zj260, zi300, zj300, zi999, zj999, zi1000, zj1000, zi1023, zj1023, zi1024, zj1024, zi9999, zj9999, zi65535, zj65535, zi65536, zj65536, z_tn, z_m1, z_m2, z_bt, z_bf, z_10]
  refine laysAside_n (r := 1) (h := hl) (il := il) (to := to) (by omega) (HM_keep (fun c i _ _ _ => g_c (by omega)) (fun i hi => g_i (by omega)) rH2) _ (fun M1 m1 m2 => ?_)
  refine ⟨?_, RRL_kept hLL hR hL (h' := hl) (il' := il) (to' := to) (fun c i hc h1 h2 => ?_) (fun c i hc h1 h2 => ?_) (g_same _ _ _ _) ?_ ⟨wH, HC_keep (fun c i _ _ => g_c (by omega)) c1, m1⟩⟩
  · rw [g_c (by omega), c2 _ _ (by omega), rH.2.2.1, m2 0 65 (by unfold asM; omega), g_i (by omega), rH2.2.2.1]
  · rw [gi_si, if_neg h2, c2 _ _ (by omega)]
  · rw [m2 _ _ h1, gi_si, if_neg h2]
  · rw [m2 _ _ (by unfold asM; omega), g_same]
def minT (S : Nat → List Nat) (h : xT2) : xT2 := fun a b => if a = 3 then (if b < 4 then min (h 3 b) (S (h 1 b)).length else h 3 b) else h a b
theorem wfH_min {S : Nat → List Nat} {h : xT2} (w : wfH S h) : wfH S (minT S h) := by
  obtain ⟨w1, w2, w3, w4, w5, w6⟩ := w
  refine ⟨w1, w2, w3, w4, fun k hk => ?_, w6⟩
  have := w5 k hk
  simp only [minT]
  simp
  refine ⟨this.1, this.2.1, ?_, this.2.2.2.1, by simpa using this.2.2.2.2.1, ?_⟩
  · rw [if_pos hk]; omega
  · intro q
    rw [if_pos hk, this.2.2.2.2.2 q]
    simp
theorem bringsBack_n {S : Nat → List Nat} {r : Nat} (hr : r < 2) {h : xT2} {il to : Int32} {M : xMem} (w : ∀ k, k < 4 → h 1 k < 6 ∧ h 3 k ≤ 72) (hS : ∀ k, k < 6 → (S k).length ≤ 72 ∧ gi M 3 k = nI (S k).length) (hh : HA r h il to M) (post : xMem → Prop) (hp : ∀ M', HM (minT S h) il to M' → (∀ c i, ¬ (c = 28 ∨ (30 ≤ c ∧ c ≤ 38) ∨ (c = 0 ∧ (i = 65 ∨ i = 66 ∨ i = 67 ∨ i = 2))) → gi M' c i = gi M c i) → post M') : wX12_bringsBack (nI r) M post := by
  obtain ⟨b1, b2, b3, b4, b5, b6⟩ := hh
  have k2 : ∀ (m j : Nat) (M1 : xMem), j + m = 10 → (∀ k, k < 4 → gi M1 30 k = b2i ((h 0 0).testBit k = true) ∧ gi M1 31 k = nI (h 1 k) ∧ gi M1 32 k = nI (h 2 k) ∧ gi M1 33 k = nI (minT S h 3 k) ∧ gi M1 34 k = nI (h 4 k)) → (∀ l, l < j → gi M1 35 l = b2i ((h 5 0).testBit l = true) ∧ gi M1 36 l = bnd (h 6 l) (-1) ∧ gi M1 37 l = nI (h 7 l) ∧ gi M1 38 l = nI (h 8 l) ∧ gi M1 28 l = nI (h 9 l)) → (∀ c i, ¬ (c = 28 ∨ (30 ≤ c ∧ c ≤ 38)) → gi M1 c i = gi M c i) → wX12_bringsBack_115 post (m + 1) (nI r) (nI j) M1 := by
    intro m
    induction m with
    | zero =>
      intro j M1 e c1 c2 c3
      have : j = 10 := by omega
      subst this
      rw [wX12_bringsBack_115]; dsimp only
      simp (disch := omega) only [z_lt_t, z_lt_f, z_le_t, z_le_f, z_eq_t, z_eq_f, z_lt0, z_lt1_t, z_lt1_f, z_lt2_t, z_lt2_f, z_le1_t, z_le1_f, z_le2_t, z_le2_f, z_eq1_t, z_eq1_f, z_eq2_t, z_eq2_f, z_lt1, z_lt2, z_le1, z_le2, z_eq1, z_eq2, z_lt, z_le, z_eq, z_in, z_cl, z_cl1, z_add, z_add1, z_addm, z_sub, z_subl, z_mul, z_mull, ↓forall_eq, ↓reduceIte, true_and, and_true, not_true_eq_false, not_false_eq_true, b2i_0, b2i_1, bz_b2i, bz_0, bz_1, nar_b2i, narb_0, narb_1, ↓within_eq, ↓lies_eq, i64i, zi0, zj0, zi1, zj1, zi2, zj2, zi3, zj3, zi4, zj4, zi5, zj5, zi6, zj6, zi7, zj7, zi8, zj8, zi9, zj9, zi10, zj10, zi12, zj12, zi13, zj13, zi19, zj19, zi20, zj20, zi21, zj21, zi29, zj29, zi30, zj30, zi39, zj39, zi48, zj48, zi50, zj50, zi57, zj57, zi60, zj60, zi63, zj63, zi65, zj65, zi71, zj71, zi72, zj72, zi73, zj73, zi74, zj74, zi80, zj80, zi97, zj97, zi98, zj98, zi99, zj99, zi100, zj100, zi106, zj106, zi240, zj240, zi255, zj255, zi260, zj260, zi300, zj300, zi999, zj999, zi1000, zj1000, zi1023, zj1023, zi1024, zj1024, zi9999, zj9999, zi65535, zj65535, zi65536, zj65536, z_tn, z_m1, z_m2, z_bt, z_bf, z_10, g_c]
      refine hp _ ⟨fun k hk => ?_, fun l hl => ?_, ?_, ?_, ?_, ?_⟩ (fun c i hc => ?_)
      · simp (disch := omega) only [g_c]; simpa [minT] using c1 k hk
      · simp (disch := omega) only [g_c]; simpa [minT] using c2 l hl
      · simp (disch := omega) only [g_i, g_same]; rw [c3 _ _ (by omega)]; simpa [minT] using b3
      · simp (disch := omega) only [g_i, g_same]; rw [c3 _ _ (by omega)]; exact b4
      · simp (disch := omega) only [g_i, g_same]; rw [c3 _ _ (by omega)]; exact b5
      · simp (disch := omega) only [g_i, g_same]; rw [c3 _ _ (by omega)]; simpa [minT] using b6
      · simp only [gi_si]
        rw [if_neg (by omega), if_neg (by omega), if_neg (by omega), if_neg (by omega)]
        exact c3 c i (by omega)
    | succ m ih =>
      intro j M1 e c1 c2 c3
      rw [wX12_bringsBack_115]; dsimp only
      simp (disch := omega) only [z_lt_t, z_lt_f, z_le_t, z_le_f, z_eq_t, z_eq_f, z_lt0, z_lt1_t, z_lt1_f, z_lt2_t, z_lt2_f, z_le1_t, z_le1_f, z_le2_t, z_le2_f, z_eq1_t, z_eq1_f, z_eq2_t, z_eq2_f, z_lt1, z_lt2, z_le1, z_le2, z_eq1, z_eq2, z_lt, z_le, z_eq, z_in, z_cl, z_cl1, z_add, z_add1, z_addm, z_sub, z_subl, z_mul, z_mull, ↓forall_eq, ↓reduceIte, true_and, and_true, not_true_eq_false, not_false_eq_true, b2i_0, b2i_1, bz_b2i, bz_0, bz_1, nar_b2i, narb_0, narb_1, ↓within_eq, ↓lies_eq, i64i, zi0, zj0, zi1, zj1, zi2, zj2, zi3, zj3, zi4, zj4, zi5, zj5, zi6, zj6, zi7, zj7, zi8, zj8, zi9, zj9, zi10, zj10, zi12, zj12, zi13, zj13, zi19, zj19, zi20, zj20, zi21, zj21, zi29, zj29, zi30, zj30, zi39, zj39, zi48, zj48, zi50, zj50, zi57, zj57, zi60, zj60, zi63, zj63, zi65, zj65, zi71, zj71, zi72, zj72, zi73, zj73, zi74, zj74, zi80, zj80, zi97, zj97, zi98, zj98, zi99, zj99, zi100, zj100, zi106, zj106, zi240, zj240, zi255, zj255, zi260, zj260, zi300, zj300, zi999, zj999, zi1000, zj1000, zi1023, zj1023, zi1024, zj1024, zi9999, zj9999, zi65535, zj65535, zi65536, zj65536, z_tn, z_m1, z_m2, z_bt, z_bf, z_10, g_c]
      refine ih (j + 1) _ (by omega) (fun k hk => ?_) (fun l hl => ?_) (fun c i hc => ?_)
      · simp (disch := omega) only [g_c]; exact c1 k hk
      · by_cases q : l = j
        · subst q
          have := b2 l (by omega)
          simp (disch := omega) only [g_c, g_same]
          rw [c3 46 _ (by omega), c3 47 _ (by omega), c3 48 _ (by omega), c3 49 _ (by omega), c3 50 _ (by omega), this.1]
          exact ⟨nar_b2i _, this.2⟩
        · simp (disch := omega) only [g_c, g_i]
          exact c2 l (by omega)
      · simp only [gi_si]
        rw [if_neg (by omega), if_neg (by omega), if_neg (by omega), if_neg (by omega), if_neg (by omega)]
        exact c3 c i hc
  have k1 : ∀ (m j : Nat) (M1 : xMem), j + m = 4 → (∀ k, k < j → gi M1 30 k = b2i ((h 0 0).testBit k = true) ∧ gi M1 31 k = nI (h 1 k) ∧ gi M1 32 k = nI (h 2 k) ∧ gi M1 33 k = nI (minT S h 3 k) ∧ gi M1 34 k = nI (h 4 k)) → (∀ c i, ¬ (c = 28 ∨ (30 ≤ c ∧ c ≤ 38)) → gi M1 c i = gi M c i) → wX12_bringsBack_2 post (m + 1) (nI r) (nI j) M1 := by
    intro m
    induction m with
    | zero =>
      intro j M1 e c1 c3
      have : j = 4 := by omega
      subst this
      rw [wX12_bringsBack_2]; dsimp only
      simp (disch := omega) only [z_lt_t, z_lt_f, z_le_t, z_le_f, z_eq_t, z_eq_f, z_lt0, z_lt1_t, z_lt1_f, z_lt2_t, z_lt2_f, z_le1_t, z_le1_f, z_le2_t, z_le2_f, z_eq1_t, z_eq1_f, z_eq2_t, z_eq2_f, z_lt1, z_lt2, z_le1, z_le2, z_eq1, z_eq2, z_lt, z_le, z_eq, z_in, z_cl, z_cl1, z_add, z_add1, z_addm, z_sub, z_subl, z_mul, z_mull, ↓forall_eq, ↓reduceIte, true_and, and_true, not_true_eq_false, not_false_eq_true, b2i_0, b2i_1, bz_b2i, bz_0, bz_1, nar_b2i, narb_0, narb_1, ↓within_eq, ↓lies_eq, i64i, zi0, zj0, zi1, zj1, zi2, zj2, zi3, zj3, zi4, zj4, zi5, zj5, zi6, zj6, zi7, zj7, zi8, zj8, zi9, zj9, zi10, zj10, zi12, zj12, zi13, zj13, zi19, zj19, zi20, zj20, zi21, zj21, zi29, zj29, zi30, zj30, zi39, zj39, zi48, zj48, zi50, zj50, zi57, zj57, zi60, zj60, zi63, zj63, zi65, zj65, zi71, zj71, zi72, zj72, zi73, zj73, zi74, zj74, zi80, zj80, zi97, zj97, zi98, zj98, zi99, zj99, zi100, zj100, zi106, zj106, zi240, zj240, zi255, zj255, zi260, zj260, zi300, zj300, zi999, zj999, zi1000, zj1000, zi1023, zj1023, zi1024, zj1024, zi9999, zj9999, zi65535, zj65535, zi65536, zj65536, z_tn, z_m1, z_m2, z_bt, z_bf, z_10]
      exact ⟨11, k2 10 0 M1 rfl c1 (fun l hl => absurd hl (by omega)) c3⟩
    | succ m ih =>
      intro j M1 e c1 c3
      have hj : j < 4 := by omega
      have hw := w j hj
      have hb := b1 j hj
      have s1 := hS (h 1 j) hw.1
      rw [wX12_bringsBack_2]; dsimp only
      unfold wX12_bringsBack_94
      simp (disch := omega) only [z_lt_t, z_lt_f, z_le_t, z_le_f, z_eq_t, z_eq_f, z_lt0, z_lt1_t, z_lt1_f, z_lt2_t, z_lt2_f, z_le1_t, z_le1_f, z_le2_t, z_le2_f, z_eq1_t, z_eq1_f, z_eq2_t, z_eq2_f, z_lt1, z_lt2, z_le1, z_le2, z_eq1, z_eq2, z_lt, z_le, z_eq, z_in, z_cl, z_cl1, z_add, z_add1, z_addm, z_sub, z_subl, z_mul, z_mull, ↓forall_eq, ↓reduceIte, true_and, and_true, not_true_eq_false, not_false_eq_true, b2i_0, b2i_1, bz_b2i, bz_0, bz_1, nar_b2i, narb_0, narb_1, ↓within_eq, ↓lies_eq, i64i, zi0, zj0, zi1, zj1, zi2, zj2, zi3, zj3, zi4, zj4, zi5, zj5, zi6, zj6, zi7, zj7, zi8, zj8, zi9, zj9, zi10, zj10, zi12, zj12, zi13, zj13, zi19, zj19, zi20, zj20, zi21, zj21, zi29, zj29, zi30, zj30, zi39, zj39, zi48, zj48, zi50, zj50, zi57, zj57, zi60, zj60, zi63, zj63, zi65, zj65, zi71, zj71, zi72, zj72, zi73, zj73, zi74, zj74, zi80, zj80, zi97, zj97, zi98, zj98, zi99, zj99, zi100, zj100, zi106, zj106, zi240, zj240, zi255, zj255, zi260, zj260, zi300, zj300, zi999, zj999, zi1000, zj1000, zi1023, zj1023, zi1024, zj1024, zi9999, zj9999, zi65535, zj65535, zi65536, zj65536, z_tn, z_m1, z_m2, z_bt, z_bf, z_10, g_c, g_same, c3 42 _ (show ¬ (42 = 28 ∨ (30 ≤ 42 ∧ 42 ≤ 38)) by omega), c3 41 _ (show ¬ (41 = 28 ∨ (30 ≤ 41 ∧ 41 ≤ 38)) by omega), c3 43 _ (show ¬ (43 = 28 ∨ (30 ≤ 43 ∧ 43 ≤ 38)) by omega), c3 44 _ (show ¬ (44 = 28 ∨ (30 ≤ 44 ∧ 44 ≤ 38)) by omega), c3 45 _ (show ¬ (45 = 28 ∨ (30 ≤ 45 ∧ 45 ≤ 38)) by omega), c3 3 _ (show ¬ (3 = 28 ∨ (30 ≤ 3 ∧ 3 ≤ 38)) by omega), hb.1, hb.2.1, hb.2.2.1, hb.2.2.2.1, hb.2.2.2.2, s1.2]
      have hm : minT S h 3 j = min (h 3 j) (S (h 1 j)).length := by simp [minT, hj]
      have fin : ∀ v : Nat, v = minT S h 3 j → wX12_bringsBack_2 post (m + 1) (nI r) (nI (j + 1)) (si (si (si (si (si M1 30 j (b2i ((h 0 0).testBit j = true))) 31 j (nI (h 1 j))) 32 j (nI (h 2 j))) 33 j (nI v)) 34 j (nI (h 4 j))) := by
        intro v hv
        subst hv
        refine ih (j + 1) _ (by omega) (fun l hl => ?_) (fun c i hc => ?_)
        · by_cases q : l = j
          · subst q
            simp (disch := omega) only [g_c, g_same]
            exact ⟨trivial, trivial, trivial, trivial, trivial⟩
          · simp (disch := omega) only [g_c, g_i]
            exact c1 l (by omega)
        · simp only [gi_si]
          rw [if_neg (by omega), if_neg (by omega), if_neg (by omega), if_neg (by omega), if_neg (by omega)]
          exact c3 c i hc
      by_cases q : (S (h 1 j)).length ≤ h 3 j
      · rw [if_pos q]
        exact fin (S (h 1 j)).length (by omega)
      · rw [if_neg q]
        exact fin (h 3 j) (by omega)
  exact ⟨5, k1 4 0 M rfl (fun k hk => absurd hk (by omega)) (fun c i _ => rfl)⟩
theorem undoC {S : Nat → List Nat} {h : xT2} {il to : Int32} {C0 : xMem} (k1 : gi C0 0 11 = 1) (w : ∀ k, k < 4 → h 1 k < 6 ∧ h 3 k ≤ 72) (hS : ∀ k, k < 6 → (S k).length ≤ 72 ∧ gi C0 (3 + 2 * k) 1 = nI (S k).length) (hh : HC 49 h il to C0) (post : Int32 → xMem → Prop) (hp : ∀ C', HC 49 (minT S h) il to C' → (∀ c i, c ≠ 52 → gi C' c i = gi C0 c i) → post 1 C') : ∃ n, wX11_undo_20 post n 0 C0 := by
  obtain ⟨a1, a2, a3, a4, a5, a6, a7, a8⟩ := hh
  have key : ∀ (m j : Nat) (C1 : xMem), j + m = 4 → (∀ k, k < 4 → gi C1 52 k = nI (if k < j then minT S h 3 k else h 3 k)) → (∀ c i, c ≠ 52 → gi C1 c i = gi C0 c i) → wX11_undo_20 post (m + 1) (nI j) C1 := by
    intro m
    induction m with
    | zero =>
      intro j C1 e c1 c3
      have : j = 4 := by omega
      subst this
      rw [wX11_undo_20]; dsimp only
      simp (disch := omega) only [z_lt_t, z_lt_f, z_le_t, z_le_f, z_eq_t, z_eq_f, z_lt0, z_lt1_t, z_lt1_f, z_lt2_t, z_lt2_f, z_le1_t, z_le1_f, z_le2_t, z_le2_f, z_eq1_t, z_eq1_f, z_eq2_t, z_eq2_f, z_lt1, z_lt2, z_le1, z_le2, z_eq1, z_eq2, z_lt, z_le, z_eq, z_in, z_cl, z_cl1, z_add, z_add1, z_addm, z_sub, z_subl, z_mul, z_mull, ↓forall_eq, ↓reduceIte, true_and, and_true, not_true_eq_false, not_false_eq_true, b2i_0, b2i_1, bz_b2i, bz_0, bz_1, nar_b2i, narb_0, narb_1, ↓within_eq, ↓lies_eq, i64i, zi0, zj0, zi1, zj1, zi2, zj2, zi3, zj3, zi4, zj4, zi5, zj5, zi6, zj6, zi7, zj7, zi8, zj8, zi9, zj9, zi10, zj10, zi12, zj12, zi13, zj13, zi19, zj19, zi20, zj20, zi21, zj21, zi29, zj29, zi30, zj30, zi39, zj39, zi48, zj48, zi50, zj50, zi57, zj57, zi60, zj60, zi63, zj63, zi65, zj65, zi71, zj71, zi72, zj72, zi73, zj73, zi74, zj74, zi80, zj80, zi97, zj97, zi98, zj98, zi99, zj99, zi100, zj100, zi106, zj106, zi240, zj240, zi255, zj255, zi260, zj260, zi300, zj300, zi999, zj999, zi1000, zj1000, zi1023, zj1023, zi1024, zj1024, zi9999, zj9999, zi65535, zj65535, zi65536, zj65536, z_tn, z_m1, z_m2, z_bt, z_bf, z_10, c3 0 11 (by omega), k1]
      refine hp C1 ⟨?_, ?_, ?_, ?_, ?_, ?_, fun k hk => ?_, fun l hl => ?_⟩ c3
      · rw [c3 _ _ (by omega)]; simpa [minT] using a1
      · rw [c3 _ _ (by omega)]; simpa [minT] using a2
      · rw [c3 _ _ (by omega)]; simpa [minT] using a3
      · rw [c3 _ _ (by omega)]; simpa [minT] using a4
      · rw [c3 _ _ (by omega)]; simpa [minT] using a5
      · rw [c3 _ _ (by omega)]; simpa [minT] using a6
      · have h2 := c1 k hk
        rw [if_pos hk] at h2
        have h3 := a7 k hk
        rw [c3 (49 + 1) _ (by omega), c3 (49 + 2) _ (by omega), c3 (49 + 4) _ (by omega)]
        exact ⟨h3.1, h3.2.1, h2, h3.2.2.2⟩
      · rw [c3 (49 + 5) _ (by omega), c3 (49 + 6) _ (by omega), c3 (49 + 7) _ (by omega), c3 (49 + 8) _ (by omega)]; exact a8 l hl
    | succ m ih =>
      intro j C1 e c1 c3
      have hj : j < 4 := by omega
      have hw := w j hj
      have hb := a7 j hj
      have s1 := hS (h 1 j) hw.1
      have h50 : gi C1 50 j = nI (h 1 j) := by rw [c3 50 j (by omega)]; exact hb.1
      have hsz : gi C1 (3 + 2 * h 1 j) 1 = nI (S (h 1 j)).length := by rw [c3 _ _ (by omega)]; exact s1.2
      have h52 := c1 j hj
      rw [if_neg (show ¬ j < j by omega)] at h52
      have hm : minT S h 3 j = min (h 3 j) (S (h 1 j)).length := by simp [minT, hj]
      have fin : ∀ v : Nat, v = minT S h 3 j → wX11_undo_20 post (m + 1) (nI (j + 1)) (si C1 52 j (nI v)) := by
        intro v hv
        subst hv
        refine ih (j + 1) _ (by omega) (fun k hk => ?_) (fun c i hc => ?_)
        · by_cases q : k = j
          · subst q
            rw [g_same, if_pos (by omega)]
          · rw [g_i q, c1 k hk]
            by_cases q2 : k < j
            · rw [if_pos q2, if_pos (by omega)]
            · rw [if_neg q2, if_neg (by omega)]
        · rw [g_c hc]; exact c3 c i hc
      rw [wX11_undo_20]; dsimp only
      unfold wX11_undo_71 wX11_storyAt
      simp (disch := omega) only [z_lt_t, z_lt_f, z_le_t, z_le_f, z_eq_t, z_eq_f, z_lt0, z_lt1_t, z_lt1_f, z_lt2_t, z_lt2_f, z_le1_t, z_le1_f, z_le2_t, z_le2_f, z_eq1_t, z_eq1_f, z_eq2_t, z_eq2_f, z_lt1, z_lt2, z_le1, z_le2, z_eq1, z_eq2, z_lt, z_le, z_eq, z_in, z_cl, z_cl1, z_add, z_add1, z_addm, z_sub, z_subl, z_mul, z_mull, ↓forall_eq, ↓reduceIte, true_and, and_true, not_true_eq_false, not_false_eq_true, b2i_0, b2i_1, bz_b2i, bz_0, bz_1, nar_b2i, narb_0, narb_1, ↓within_eq, ↓lies_eq, i64i, zi0, zj0, zi1, zj1, zi2, zj2, zi3, zj3, zi4, zj4, zi5, zj5, zi6, zj6, zi7, zj7, zi8, zj8, zi9, zj9, zi10, zj10, zi12, zj12, zi13, zj13, zi19, zj19, zi20, zj20, zi21, zj21, zi29, zj29, zi30, zj30, zi39, zj39, zi48, zj48, zi50, zj50, zi57, zj57, zi60, zj60, zi63, zj63, zi65, zj65, zi71, zj71, zi72, zj72, zi73, zj73, zi74, zj74, zi80, zj80, zi97, zj97, zi98, zj98, zi99, zj99, zi100, zj100, zi106, zj106, zi240, zj240, zi255, zj255, zi260, zj260, zi300, zj300, zi999, zj999, zi1000, zj1000, zi1023, zj1023, zi1024, zj1024, zi9999, zj9999, zi65535, zj65535, zi65536, zj65536, z_tn, z_m1, z_m2, z_bt, z_bf, z_10, h50, max_eq, min_eq, hsz, h52, if_neg (show ¬ 3 + 2 * h 1 j = 0 by omega)]
      by_cases q : (S (h 1 j)).length < h 3 j
      · rw [if_pos q]
        exact fin (S (h 1 j)).length (by omega)
      · rw [if_neg q]
        exact fin (h 3 j) (by omega)
  exact ⟨5, key 4 0 C0 rfl (fun k hk => by rw [if_neg (by omega)]; exact (a7 k hk).2.2.1) (fun c i _ => rfl)⟩
theorem undo_ok {LL : xMem → xMem → Prop} (hLL : LLc LL) (C M : xMem) (h : RRL LL C M) : wX11_undo C (fun r C' => wX12_undo M (fun r' M' => r = r' ∧ RRL LL C' M')) := by
  obtain ⟨⟨S, e, hl, hk, il, to, il2, to2, kp, tn, t, hR⟩, hL⟩ := id h
  obtain ⟨rS, ⟨wE, rE, rE2⟩, ⟨wH, tL, rH, rH2⟩, ⟨k1, k2, k3⟩, ⟨wT, rT, rT2⟩, x1, x2⟩ := id hR
  unfold wX11_undo wX12_undo
  cases kp with
  | false =>
    rw [b2i_f (by decide)] at k1 k2
    simp (disch := omega) only [z_lt_t, z_lt_f, z_le_t, z_le_f, z_eq_t, z_eq_f, z_lt0, z_lt1_t, z_lt1_f, z_lt2_t, z_lt2_f, z_le1_t, z_le1_f, z_le2_t, z_le2_f, z_eq1_t, z_eq1_f, z_eq2_t, z_eq2_f, z_lt1, z_lt2, z_le1, z_le2, z_eq1, z_eq2, z_lt, z_le, z_eq, z_in, z_cl, z_cl1, z_add, z_add1, z_addm, z_sub, z_subl, z_mul, z_mull, ↓forall_eq, ↓reduceIte, true_and, and_true, not_true_eq_false, not_false_eq_true, b2i_0, b2i_1, bz_b2i, bz_0, bz_1, nar_b2i, narb_0, narb_1, ↓within_eq, ↓lies_eq, i64i, zi0, zj0, zi1, zj1, zi2, zj2, zi3, zj3, zi4, zj4, zi5, zj5, zi6, zj6, zi7, zj7, zi8, zj8, zi9, zj9, zi10, zj10, zi12, zj12, zi13, zj13, zi19, zj19, zi20, zj20, zi21, zj21, zi29, zj29, zi30, zj30, zi39, zj39, zi48, zj48, zi50, zj50, zi57, zj57, zi60, zj60, zi63, zj63, zi65, zj65, zi71, zj71, zi72, zj72, zi73, zj73, zi74, zj74, zi80, zj80, zi97, zj97, zi98, zj98, zi99, zj99, zi100, zj100, zi106, zj106, zi240, zj240, zi255, zj255, zi260, zj260, zi300, zj300, zi999, zj999, zi1000, zj1000, zi1023, zj1023, zi1024, zj1024, zi9999, zj9999, zi65535, zj65535, zi65536, zj65536, z_tn, z_m1, z_m2, z_bt, z_bf, z_10, k1, k2]
    exact h
  | true =>
    rw [b2i_t rfl] at k1 k2
    obtain ⟨wK, rK, rK2⟩ := k3 rfl
    simp (disch := omega) only [z_lt_t, z_lt_f, z_le_t, z_le_f, z_eq_t, z_eq_f, z_lt0, z_lt1_t, z_lt1_f, z_lt2_t, z_lt2_f, z_le1_t, z_le1_f, z_le2_t, z_le2_f, z_eq1_t, z_eq1_f, z_eq2_t, z_eq2_f, z_lt1, z_lt2, z_le1, z_le2, z_eq1, z_eq2, z_lt, z_le, z_eq, z_in, z_cl, z_cl1, z_add, z_add1, z_addm, z_sub, z_subl, z_mul, z_mull, ↓forall_eq, ↓reduceIte, true_and, and_true, not_true_eq_false, not_false_eq_true, b2i_0, b2i_1, bz_b2i, bz_0, bz_1, nar_b2i, narb_0, narb_1, ↓within_eq, ↓lies_eq, i64i, zi0, zj0, zi1, zj1, zi2, zj2, zi3, zj3, zi4, zj4, zi5, zj5, zi6, zj6, zi7, zj7, zi8, zj8, zi9, zj9, zi10, zj10, zi12, zj12, zi13, zj13, zi19, zj19, zi20, zj20, zi21, zj21, zi29, zj29, zi30, zj30, zi39, zj39, zi48, zj48, zi50, zj50, zi57, zj57, zi60, zj60, zi63, zj63, zi65, zj65, zi71, zj71, zi72, zj72, zi73, zj73, zi74, zj74, zi80, zj80, zi97, zj97, zi98, zj98, zi99, zj99, zi100, zj100, zi106, zj106, zi240, zj240, zi255, zj255, zi260, zj260, zi300, zj300, zi999, zj999, zi1000, zj1000, zi1023, zj1023, zi1024, zj1024, zi9999, zj9999, zi65535, zj65535, zi65536, zj65536, z_tn, z_m1, z_m2, z_bt, z_bf, z_10, k1, k2]
    have w4 : ∀ k, k < 4 → hk 1 k < 6 ∧ hk 3 k ≤ 72 := fun k q => ⟨(wK.2.2.2.2.1 k q).1, (wK.2.2.2.2.1 k q).2.2.1⟩
    refine takeFrom_n (by omega) rK _ (fun C1 c1 c2 => ?_)
    refine undoC (S := S) (h := hk) (il := il2) (to := to2) (by rw [c2 0 11 (by omega)]; exact k1) w4 (fun k hk6 => ⟨(rS k hk6).1.1, by rw [c2 (3 + 2 * k) 1 (by omega)]; exact (rS k hk6).2.1.1⟩) c1 _ (fun C2 c3 c4 => ?_)
    refine bringsBack_n (S := S) (r := 1) (h := hk) (il := il2) (to := to2) (by omega) w4 (fun k hk6 => ⟨(rS k hk6).1.1, (rS k hk6).2.2.1⟩) rK2 _ (fun M2 m1 m2 => ?_)
    refine ⟨rfl, RRL_hall hLL hR hL (fun c i hc hn => ?_) (fun c i hc hn => m2 c i hn) (h' := minT S hk) (il' := il2) (to' := to2) ⟨wfH_min wK, fun k hk4 => ?_, c3, m1⟩⟩
    · rw [c4 _ _ (by omega), c2 _ _ (by omega)]
    · simp only [minT]
      simp [hk4]
      omega
