theorem tb_or (a k j : Nat) : ((a ||| 2 ^ k).testBit j = true) = (a.testBit j = true ∨ k = j) := by
  rw [Nat.testBit_or, Nat.testBit_two_pow]
  simp
theorem or_lt {a b n : Nat} (ha : a < 2 ^ n) (hb : b < 2 ^ n) : a ||| b < 2 ^ n := Nat.or_lt_two_pow ha hb
theorem teller_ok {LL : xMem → xMem → Prop} (hLL : LLc LL) (a0 a1 a2 : Int32) (C M : xMem) (h : RRL LL C M) : wX11_teller a0 a1 a2 C (fun r C' => wX12_teller a0 a1 a2 M (fun r' M' => r = r' ∧ RRL LL C' M')) := by
  obtain ⟨⟨S, e, hl, hk, il, to, il2, to2, kp, tn, t, hR⟩, hL⟩ := id h
  unfold wX11_teller wX11_teller_32 wX11_teller_33 wX12_teller
  by_cases h0 : 0 ≤ a0.toInt ∧ a0.toInt ≤ 3
  · obtain ⟨k, hk3, rfl⟩ := at_n (n := 3) h0 (by decide)
    rcases told_cases hR.1 a1 with ⟨s, hs, rfl, hne, q1, q2⟩ | ⟨q1, q2⟩
    · by_cases h2 : 0 ≤ a2.toInt ∧ a2.toInt ≤ 9999
      · obtain ⟨p, hp, rfl⟩ := at_n (n := 9999) h2 (by decide)
        obtain ⟨rS, ⟨wE, rE, rE2⟩, ⟨wH, tL, rH, rH2⟩, ⟨k1, k2, k3⟩, ⟨wT, rT, rT2⟩, x1, x2⟩ := id hR
        obtain ⟨w1, w2, w3, w4, w5, w6⟩ := wH
        obtain ⟨a1, a2, a3, a4, a5, a6, a7, a8⟩ := rH
        obtain ⟨b1, b2, b3, b4, b5, b6⟩ := rH2
        unfold wX4_takeTeller
        simp (disch := omega) only [z_lt_t, z_lt_f, z_le_t, z_le_f, z_eq_t, z_eq_f, z_lt0, z_lt1_t, z_lt1_f, z_lt2_t, z_lt2_f, z_le1_t, z_le1_f, z_le2_t, z_le2_f, z_eq1_t, z_eq1_f, z_eq2_t, z_eq2_f, z_lt1, z_lt2, z_le1, z_le2, z_eq1, z_eq2, z_lt, z_le, z_eq, z_in, z_cl, z_cl1, z_add, z_add1, z_addm, z_sub, z_subl, z_mul, z_mull, ↓forall_eq, ↓reduceIte, true_and, and_true, not_true_eq_false, not_false_eq_true, b2i_0, b2i_1, bz_b2i, bz_0, bz_1, nar_b2i, narb_0, narb_1, ↓within_eq, ↓lies_eq, i64i, zi0, zj0, zi1, zj1, zi2, zj2, zi3, zj3, zi4, zj4, zi5, zj5, zi6, zj6, zi7, zj7, zi8, zj8, zi9, zj9, zi10, zj10, zi12, zj12, zi13, zj13, zi19, zj19, zi20, zj20, zi21, zj21, zi29, zj29, zi30, zj30, zi39, zj39, zi48, zj48, zi50, zj50, zi57, zj57, zi60, zj60, zi63, zj63, zi65, zj65, zi71, zj71, zi72, zj72, zi73, zj73, zi74, zj74, zi80, zj80, zi97, zj97, zi98, zj98, zi99, zj99, zi100, zj100, zi106, zj106, zi240, zj240, zi255, zj255, zi260, zj260, zi300, zj300, zi999, zj999, zi1000, zj1000, zi1023, zj1023, zi1024, zj1024, zi9999, zj9999, zi65535, zj65535, zi65536, zj65536, z_tn, z_m1, z_m2, z_bt, z_bf, z_10, q1, q2, if_neg (show ¬ 3 + 2 * s = 0 by omega), z_shl, z_or, a1]
        refine RRL_hall hLL hR hL (fun c i hc hn => ?_) (fun c i hc hn => ?_) (h' := h2u (h2u (h2u (h2u (h2u hl 0 0 (hl 0 0 ||| 2 ^ k)) 1 k s) 2 k p) 3 k 0) 4 k 0) (il' := il) (to' := to) ⟨?_, ?_, ?_, ?_⟩
        · simp only [gi_si]
          rw [if_neg (by omega), if_neg (by omega), if_neg (by omega), if_neg (by omega), if_neg (by omega)]
        · simp only [gi_si]
          rw [if_neg (by omega), if_neg (by omega), if_neg (by omega), if_neg (by omega), if_neg (by omega)]
        · refine ⟨?_, by simpa [h2u] using w2, by simpa [h2u] using w3, by simpa [h2u] using w4, fun j hj => ?_, by simpa [h2u] using w6⟩
          · have := or_lt (n := 4) w1 (show 2 ^ k < 2 ^ 4 from Nat.pow_lt_pow_right (by omega) (by omega))
            simpa [h2u] using this
          · by_cases e : j = k
            · subst e
              simp [h2u, hs, hne, hp]
            · have := w5 j hj
              simp [h2u, e, Nat.testBit_or, Nat.testBit_two_pow, Ne.symm e]
              simpa using this
        · intro j hj
          by_cases e : j = k
          · subst e
            simp [h2u]
          · simpa [h2u, e] using tL j hj
        · refine ⟨by simp [gi_si, h2u], by simpa [gi_si, h2u] using a2, by simpa [gi_si, h2u] using a3, by simpa [gi_si, h2u] using a4, by simpa [gi_si, h2u] using a5, by simpa [gi_si, h2u] using a6, fun j hj => ?_, by simpa [gi_si, h2u] using a8⟩
          by_cases e : j = k
          · subst e
            simp [gi_si, h2u, nI_0]
          · simpa [gi_si, h2u, e] using a7 j hj
        · refine ⟨fun j hj => ?_, by simpa [gi_si, h2u] using b2, by simpa [gi_si, h2u] using b3, by simpa [gi_si, h2u] using b4, by simpa [gi_si, h2u] using b5, by simpa [gi_si, h2u] using b6⟩
          by_cases e : j = k
          · subst e
            simp [gi_si, h2u, nI_0, Nat.testBit_or, Nat.testBit_two_pow, b2i]
          · simpa [gi_si, h2u, e, Ne.symm e, Nat.testBit_or, Nat.testBit_two_pow] using b1 j hj
      · simp (disch := omega) only [z_lt_t, z_lt_f, z_le_t, z_le_f, z_eq_t, z_eq_f, z_lt0, z_lt1_t, z_lt1_f, z_lt2_t, z_lt2_f, z_le1_t, z_le1_f, z_le2_t, z_le2_f, z_eq1_t, z_eq1_f, z_eq2_t, z_eq2_f, z_lt1, z_lt2, z_le1, z_le2, z_eq1, z_eq2, z_lt, z_le, z_eq, z_in, z_cl, z_cl1, z_add, z_add1, z_addm, z_sub, z_subl, z_mul, z_mull, ↓forall_eq, ↓reduceIte, true_and, and_true, not_true_eq_false, not_false_eq_true, b2i_0, b2i_1, bz_b2i, bz_0, bz_1, nar_b2i, narb_0, narb_1, ↓within_eq, ↓lies_eq, i64i, zi0, zj0, zi1, zj1, zi2, zj2, zi3, zj3, zi4, zj4, zi5, zj5, zi6, zj6, zi7, zj7, zi8, zj8, zi9, zj9, zi10, zj10, zi12, zj12, zi13, zj13, zi19, zj19, zi20, zj20, zi21, zj21, zi29, zj29, zi30, zj30, zi39, zj39, zi48, zj48, zi50, zj50, zi57, zj57, zi60, zj60, zi63, zj63, zi65, zj65, zi71, zj71, zi72, zj72, zi73, zj73, zi74, zj74, zi80, zj80, zi97, zj97, zi98, zj98, zi99, zj99, zi100, zj100, zi106, zj106, zi240, zj240, zi255, zj255, zi260, zj260, zi300, zj300, zi999, zj999, zi1000, zj1000, zi1023, zj1023, zi1024, zj1024, zi9999, zj9999, zi65535, zj65535, zi65536, zj65536, z_tn, z_m1, z_m2, z_bt, z_bf, z_10, q1, q2, if_neg (show ¬ 3 + 2 * s = 0 by omega)]
        exact h
    · simp (disch := omega) only [z_lt_t, z_lt_f, z_le_t, z_le_f, z_eq_t, z_eq_f, z_lt0, z_lt1_t, z_lt1_f, z_lt2_t, z_lt2_f, z_le1_t, z_le1_f, z_le2_t, z_le2_f, z_eq1_t, z_eq1_f, z_eq2_t, z_eq2_f, z_lt1, z_lt2, z_le1, z_le2, z_eq1, z_eq2, z_lt, z_le, z_eq, z_in, z_cl, z_cl1, z_add, z_add1, z_addm, z_sub, z_subl, z_mul, z_mull, ↓forall_eq, ↓reduceIte, true_and, and_true, not_true_eq_false, not_false_eq_true, b2i_0, b2i_1, bz_b2i, bz_0, bz_1, nar_b2i, narb_0, narb_1, ↓within_eq, ↓lies_eq, i64i, zi0, zj0, zi1, zj1, zi2, zj2, zi3, zj3, zi4, zj4, zi5, zj5, zi6, zj6, zi7, zj7, zi8, zj8, zi9, zj9, zi10, zj10, zi12, zj12, zi13, zj13, zi19, zj19, zi20, zj20, zi21, zj21, zi29, zj29, zi30, zj30, zi39, zj39, zi48, zj48, zi50, zj50, zi57, zj57, zi60, zj60, zi63, zj63, zi65, zj65, zi71, zj71, zi72, zj72, zi73, zj73, zi74, zj74, zi80, zj80, zi97, zj97, zi98, zj98, zi99, zj99, zi100, zj100, zi106, zj106, zi240, zj240, zi255, zj255, zi260, zj260, zi300, zj300, zi999, zj999, zi1000, zj1000, zi1023, zj1023, zi1024, zj1024, zi9999, zj9999, zi65535, zj65535, zi65536, zj65536, z_tn, z_m1, z_m2, z_bt, z_bf, z_10, q1, q2]
      exact h
  · simp (disch := omega) only [z_lt_t, z_lt_f, z_le_t, z_le_f, z_eq_t, z_eq_f, z_lt0, z_lt1_t, z_lt1_f, z_lt2_t, z_lt2_f, z_le1_t, z_le1_f, z_le2_t, z_le2_f, z_eq1_t, z_eq1_f, z_eq2_t, z_eq2_f, z_lt1, z_lt2, z_le1, z_le2, z_eq1, z_eq2, z_lt, z_le, z_eq, z_in, z_cl, z_cl1, z_add, z_add1, z_addm, z_sub, z_subl, z_mul, z_mull, ↓forall_eq, ↓reduceIte, true_and, and_true, not_true_eq_false, not_false_eq_true, b2i_0, b2i_1, bz_b2i, bz_0, bz_1, nar_b2i, narb_0, narb_1, ↓within_eq, ↓lies_eq, i64i, zi0, zj0, zi1, zj1, zi2, zj2, zi3, zj3, zi4, zj4, zi5, zj5, zi6, zj6, zi7, zj7, zi8, zj8, zi9, zj9, zi10, zj10, zi12, zj12, zi13, zj13, zi19, zj19, zi20, zj20, zi21, zj21, zi29, zj29, zi30, zj30, zi39, zj39, zi48, zj48, zi50, zj50, zi57, zj57, zi60, zj60, zi63, zj63, zi65, zj65, zi71, zj71, zi72, zj72, zi73, zj73, zi74, zj74, zi80, zj80, zi97, zj97, zi98, zj98, zi99, zj99, zi100, zj100, zi106, zj106, zi240, zj240, zi255, zj255, zi260, zj260, zi300, zj300, zi999, zj999, zi1000, zj1000, zi1023, zj1023, zi1024, zj1024, zi9999, zj9999, zi65535, zj65535, zi65536, zj65536, z_tn, z_m1, z_m2, z_bt, z_bf, z_10]
    exact h
theorem listener_ok {LL : xMem → xMem → Prop} (hLL : LLc LL) (a0 a1 a2 : Int32) (C M : xMem) (h : RRL LL C M) : wX11_listener a0 a1 a2 C (fun r C' => wX12_listener a0 a1 a2 M (fun r' M' => r = r' ∧ RRL LL C' M')) := by
  obtain ⟨⟨S, e, hl, hk, il, to, il2, to2, kp, tn, t, hR⟩, hL⟩ := id h
  unfold wX11_listener wX11_listener_38 wX11_listener_39 wX12_listener
  obtain ⟨rS, ⟨wE, rE, rE2⟩, ⟨wH, tL, rH, rH2⟩, ⟨k1, k2, k3⟩, ⟨wT, rT, rT2⟩, x1, x2⟩ := id hR
  obtain ⟨w1, w2, w3, w4, w5, w6⟩ := wH
  obtain ⟨a1', a2', a3, a4, a5, a6, a7, a8⟩ := rH
  obtain ⟨b1, b2, b3, b4, b5, b6⟩ := rH2
  by_cases h0 : 0 ≤ a0.toInt ∧ a0.toInt ≤ 9
  · obtain ⟨l, hl9, rfl⟩ := at_n (n := 9) h0 (by decide)
    have hasC_o : ¬ (0 ≤ a1.toInt ∧ a1.toInt ≤ 3) → ∀ post, wX11_has (nI (hl 0 0)) a1 C post = post 0 C := fun q post => by
      rw [hasC_eq]
      by_cases p0 : a1 < 0
      · rw [if_pos p0]
      · rw [if_neg p0]
        by_cases p1 : (10 : Int32) ≤ a1
        · rw [if_pos p1]
        · rw [if_neg p1]
          have i0 : ¬ a1.toInt < 0 := fun q => p0 (Int32.lt_iff_toInt_lt.mpr q)
          have i1 : ¬ 10 ≤ a1.toInt := fun q => p1 (Int32.le_iff_toInt_le.mpr q)
          obtain ⟨j, hj, rfl⟩ := at_n (a := a1) (n := 9) (by omega) (by decide)
          rw [nI_toInt (by omega)] at q
          rw [bit_n (by omega) (by omega), b2i_f (fun z => by
            have := Nat.testBit_lt_two_pow (x := hl 0 0) (i := j) (Nat.lt_of_lt_of_le w1 (Nat.pow_le_pow_right (n := 2) (by omega) (show 4 ≤ j by omega)))
            rw [this] at z; cases z), if_neg (by decide)]
    by_cases h1 : 0 ≤ a1.toInt ∧ a1.toInt ≤ 3
    · obtain ⟨k, hk3, rfl⟩ := at_n (n := 3) h1 (by decide)
      by_cases tb : (hl 0 0).testBit k = true
      · by_cases h2 : 0 ≤ a2.toInt ∧ a2.toInt ≤ 99
        · obtain ⟨p, hp, rfl⟩ := at_n (n := 99) h2 (by decide)
          unfold wX4_takeListener
          simp (disch := omega) only [z_lt_t, z_lt_f, z_le_t, z_le_f, z_eq_t, z_eq_f, z_lt0, z_lt1_t, z_lt1_f, z_lt2_t, z_lt2_f, z_le1_t, z_le1_f, z_le2_t, z_le2_f, z_eq1_t, z_eq1_f, z_eq2_t, z_eq2_f, z_lt1, z_lt2, z_le1, z_le2, z_eq1, z_eq2, z_lt, z_le, z_eq, z_in, z_cl, z_cl1, z_add, z_add1, z_addm, z_sub, z_subl, z_mul, z_mull, ↓forall_eq, ↓reduceIte, true_and, and_true, not_true_eq_false, not_false_eq_true, b2i_0, b2i_1, bz_b2i, bz_0, bz_1, nar_b2i, narb_0, narb_1, ↓within_eq, ↓lies_eq, i64i, zi0, zj0, zi1, zj1, zi2, zj2, zi3, zj3, zi4, zj4, zi5, zj5, zi6, zj6, zi7, zj7, zi8, zj8, zi9, zj9, zi10, zj10, zi12, zj12, zi13, zj13, zi19, zj19, zi20, zj20, zi21, zj21, zi29, zj29, zi30, zj30, zi39, zj39, zi48, zj48, zi50, zj50, zi57, zj57, zi60, zj60, zi63, zj63, zi65, zj65, zi71, zj71, zi72, zj72, zi73, zj73, zi74, zj74, zi80, zj80, zi97, zj97, zi98, zj98, zi99, zj99, zi100, zj100, zi106, zj106, zi240, zj240, zi255, zj255, zi260, zj260, zi300, zj300, zi999, zj999, zi1000, zj1000, zi1023, zj1023, zi1024, zj1024, zi9999, zj9999, zi65535, zj65535, zi65536, zj65536, z_tn, z_m1, z_m2, z_bt, z_bf, z_10, isTelling_eq (b1 k (by omega)).1, b2i_t tb, hasC_n, a1', z_shl, z_or, a2']
          refine RRL_hall hLL hR hL (fun c i hc hn => ?_) (fun c i hc hn => ?_) (h' := h2u (h2u (h2u (h2u hl 5 0 (hl 5 0 ||| 2 ^ l)) 6 l k) 7 l p) 8 l 0) (il' := il) (to' := to) ⟨?_, ?_, ?_, ?_⟩
          · simp only [gi_si]
            rw [if_neg (by omega), if_neg (by omega), if_neg (by omega), if_neg (by omega)]
          · simp only [gi_si]
            rw [if_neg (by omega), if_neg (by omega), if_neg (by omega), if_neg (by omega)]
          · refine ⟨by simpa [h2u] using w1, ?_, by simpa [h2u] using w3, by simpa [h2u] using w4, by simpa [h2u] using w5, fun j hj => ?_⟩
            · have := or_lt (n := 10) w2 (show 2 ^ l < 2 ^ 10 from Nat.pow_lt_pow_right (by omega) (by omega))
              simpa [h2u] using this
            · by_cases e : j = l
              · subst e
                have := w6 j hj
                simp [h2u, hp]
                omega
              · have := w6 j hj
                simp [h2u, e, Nat.testBit_or, Nat.testBit_two_pow, Ne.symm e]
                simpa using this
          · simpa [h2u] using tL
          · refine ⟨by simpa [gi_si, h2u] using a1', by simp [gi_si, h2u], by simpa [gi_si, h2u] using a3, by simpa [gi_si, h2u] using a4, by simpa [gi_si, h2u] using a5, by simpa [gi_si, h2u] using a6, by simpa [gi_si, h2u] using a7, fun j hj => ?_⟩
            by_cases e : j = l
            · subst e
              have := a8 j hj
              simp [gi_si, h2u, nI_0, bnd, show k < 4 by omega]
              exact this.2.2.2
            · simpa [gi_si, h2u, e] using a8 j hj
          · refine ⟨by simpa [gi_si, h2u] using b1, fun j hj => ?_, by simpa [gi_si, h2u] using b3, by simpa [gi_si, h2u] using b4, by simpa [gi_si, h2u] using b5, by simpa [gi_si, h2u] using b6⟩
            by_cases e : j = l
            · subst e
              have := b2 j hj
              simp [gi_si, h2u, nI_0, Nat.testBit_or, Nat.testBit_two_pow, b2i, bnd, show k < 4 by omega]
              exact this.2.2.2.2
            · simpa [gi_si, h2u, e, Ne.symm e, Nat.testBit_or, Nat.testBit_two_pow] using b2 j hj
        · simp (disch := omega) only [z_lt_t, z_lt_f, z_le_t, z_le_f, z_eq_t, z_eq_f, z_lt0, z_lt1_t, z_lt1_f, z_lt2_t, z_lt2_f, z_le1_t, z_le1_f, z_le2_t, z_le2_f, z_eq1_t, z_eq1_f, z_eq2_t, z_eq2_f, z_lt1, z_lt2, z_le1, z_le2, z_eq1, z_eq2, z_lt, z_le, z_eq, z_in, z_cl, z_cl1, z_add, z_add1, z_addm, z_sub, z_subl, z_mul, z_mull, ↓forall_eq, ↓reduceIte, true_and, and_true, not_true_eq_false, not_false_eq_true, b2i_0, b2i_1, bz_b2i, bz_0, bz_1, nar_b2i, narb_0, narb_1, ↓within_eq, ↓lies_eq, i64i, zi0, zj0, zi1, zj1, zi2, zj2, zi3, zj3, zi4, zj4, zi5, zj5, zi6, zj6, zi7, zj7, zi8, zj8, zi9, zj9, zi10, zj10, zi12, zj12, zi13, zj13, zi19, zj19, zi20, zj20, zi21, zj21, zi29, zj29, zi30, zj30, zi39, zj39, zi48, zj48, zi50, zj50, zi57, zj57, zi60, zj60, zi63, zj63, zi65, zj65, zi71, zj71, zi72, zj72, zi73, zj73, zi74, zj74, zi80, zj80, zi97, zj97, zi98, zj98, zi99, zj99, zi100, zj100, zi106, zj106, zi240, zj240, zi255, zj255, zi260, zj260, zi300, zj300, zi999, zj999, zi1000, zj1000, zi1023, zj1023, zi1024, zj1024, zi9999, zj9999, zi65535, zj65535, zi65536, zj65536, z_tn, z_m1, z_m2, z_bt, z_bf, z_10, isTelling_eq (b1 k (by omega)).1, b2i_t tb, hasC_n, a1']
          exact h
      · simp (disch := omega) only [z_lt_t, z_lt_f, z_le_t, z_le_f, z_eq_t, z_eq_f, z_lt0, z_lt1_t, z_lt1_f, z_lt2_t, z_lt2_f, z_le1_t, z_le1_f, z_le2_t, z_le2_f, z_eq1_t, z_eq1_f, z_eq2_t, z_eq2_f, z_lt1, z_lt2, z_le1, z_le2, z_eq1, z_eq2, z_lt, z_le, z_eq, z_in, z_cl, z_cl1, z_add, z_add1, z_addm, z_sub, z_subl, z_mul, z_mull, ↓forall_eq, ↓reduceIte, true_and, and_true, not_true_eq_false, not_false_eq_true, b2i_0, b2i_1, bz_b2i, bz_0, bz_1, nar_b2i, narb_0, narb_1, ↓within_eq, ↓lies_eq, i64i, zi0, zj0, zi1, zj1, zi2, zj2, zi3, zj3, zi4, zj4, zi5, zj5, zi6, zj6, zi7, zj7, zi8, zj8, zi9, zj9, zi10, zj10, zi12, zj12, zi13, zj13, zi19, zj19, zi20, zj20, zi21, zj21, zi29, zj29, zi30, zj30, zi39, zj39, zi48, zj48, zi50, zj50, zi57, zj57, zi60, zj60, zi63, zj63, zi65, zj65, zi71, zj71, zi72, zj72, zi73, zj73, zi74, zj74, zi80, zj80, zi97, zj97, zi98, zj98, zi99, zj99, zi100, zj100, zi106, zj106, zi240, zj240, zi255, zj255, zi260, zj260, zi300, zj300, zi999, zj999, zi1000, zj1000, zi1023, zj1023, zi1024, zj1024, zi9999, zj9999, zi65535, zj65535, zi65536, zj65536, z_tn, z_m1, z_m2, z_bt, z_bf, z_10, isTelling_eq (b1 k (by omega)).1, b2i_f tb, hasC_n, a1']
        exact h
    · simp (disch := omega) only [z_lt_t, z_lt_f, z_le_t, z_le_f, z_eq_t, z_eq_f, z_lt0, z_lt1_t, z_lt1_f, z_lt2_t, z_lt2_f, z_le1_t, z_le1_f, z_le2_t, z_le2_f, z_eq1_t, z_eq1_f, z_eq2_t, z_eq2_f, z_lt1, z_lt2, z_le1, z_le2, z_eq1, z_eq2, z_lt, z_le, z_eq, z_in, z_cl, z_cl1, z_add, z_add1, z_addm, z_sub, z_subl, z_mul, z_mull, ↓forall_eq, ↓reduceIte, true_and, and_true, not_true_eq_false, not_false_eq_true, b2i_0, b2i_1, bz_b2i, bz_0, bz_1, nar_b2i, narb_0, narb_1, ↓within_eq, ↓lies_eq, i64i, zi0, zj0, zi1, zj1, zi2, zj2, zi3, zj3, zi4, zj4, zi5, zj5, zi6, zj6, zi7, zj7, zi8, zj8, zi9, zj9, zi10, zj10, zi12, zj12, zi13, zj13, zi19, zj19, zi20, zj20, zi21, zj21, zi29, zj29, zi30, zj30, zi39, zj39, zi48, zj48, zi50, zj50, zi57, zj57, zi60, zj60, zi63, zj63, zi65, zj65, zi71, zj71, zi72, zj72, zi73, zj73, zi74, zj74, zi80, zj80, zi97, zj97, zi98, zj98, zi99, zj99, zi100, zj100, zi106, zj106, zi240, zj240, zi255, zj255, zi260, zj260, zi300, zj300, zi999, zj999, zi1000, zj1000, zi1023, zj1023, zi1024, zj1024, zi9999, zj9999, zi65535, zj65535, zi65536, zj65536, z_tn, z_m1, z_m2, z_bt, z_bf, z_10, isTelling_out h1, a1', hasC_o h1]
      exact h
  · simp (disch := omega) only [z_lt_t, z_lt_f, z_le_t, z_le_f, z_eq_t, z_eq_f, z_lt0, z_lt1_t, z_lt1_f, z_lt2_t, z_lt2_f, z_le1_t, z_le1_f, z_le2_t, z_le2_f, z_eq1_t, z_eq1_f, z_eq2_t, z_eq2_f, z_lt1, z_lt2, z_le1, z_le2, z_eq1, z_eq2, z_lt, z_le, z_eq, z_in, z_cl, z_cl1, z_add, z_add1, z_addm, z_sub, z_subl, z_mul, z_mull, ↓forall_eq, ↓reduceIte, true_and, and_true, not_true_eq_false, not_false_eq_true, b2i_0, b2i_1, bz_b2i, bz_0, bz_1, nar_b2i, narb_0, narb_1, ↓within_eq, ↓lies_eq, i64i, zi0, zj0, zi1, zj1, zi2, zj2, zi3, zj3, zi4, zj4, zi5, zj5, zi6, zj6, zi7, zj7, zi8, zj8, zi9, zj9, zi10, zj10, zi12, zj12, zi13, zj13, zi19, zj19, zi20, zj20, zi21, zj21, zi29, zj29, zi30, zj30, zi39, zj39, zi48, zj48, zi50, zj50, zi57, zj57, zi60, zj60, zi63, zj63, zi65, zj65, zi71, zj71, zi72, zj72, zi73, zj73, zi74, zj74, zi80, zj80, zi97, zj97, zi98, zj98, zi99, zj99, zi100, zj100, zi106, zj106, zi240, zj240, zi255, zj255, zi260, zj260, zi300, zj300, zi999, zj999, zi1000, zj1000, zi1023, zj1023, zi1024, zj1024, zi9999, zj9999, zi65535, zj65535, zi65536, zj65536, z_tn, z_m1, z_m2, z_bt, z_bf, z_10]
    exact h
