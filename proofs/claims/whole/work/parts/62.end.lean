theorem end_ok {LL : xMem → xMem → Prop} (hLL : LLc LL) (a0 a1 a2 a3 a4 : Int32) (C M : xMem) (h : RRL LL C M) : wX11_end a0 a1 a2 a3 a4 C (fun r C' => wX12_end a0 a1 a2 a3 a4 M (fun r' M' => r = r' ∧ RRL LL C' M')) := by
  obtain ⟨⟨S, e, hl, hk, il, to, il2, to2, kp, tn, t, hR⟩, hL⟩ := id h
  unfold wX11_end wX11_end_57 wX11_end_58 wX12_end
  by_cases h0 : 0 ≤ a0.toInt ∧ a0.toInt ≤ 9
  · by_cases h1 : 1 ≤ a1.toInt ∧ a1.toInt ≤ 1023
    · by_cases h2 : 0 ≤ a2.toInt ∧ a2.toInt ≤ 99
      · by_cases h3 : 0 ≤ a3.toInt ∧ a3.toInt ≤ 9
        · by_cases h4 : 1 ≤ a4.toInt ∧ a4.toInt ≤ 30
          · obtain ⟨k, hk9, rfl⟩ := at_n (n := 9) h0 (by decide)
            obtain ⟨th, hth, rfl⟩ := at_n (a := a1) (n := 1023) (by omega) (by decide)
            obtain ⟨p, hp, rfl⟩ := at_n (n := 99) h2 (by decide)
            obtain ⟨st, hst, rfl⟩ := at_n (n := 9) h3 (by decide)
            obtain ⟨d, hd, rfl⟩ := at_n (a := a4) (n := 30) (by omega) (by decide)
            rw [nI_toInt (by omega)] at h1 h4
            obtain ⟨rS, ⟨wE, rE, rE2⟩, ⟨wH, tL, rH, rH2⟩, ⟨k1, k2, k3⟩, ⟨wT, rT, rT2⟩, x1, x2⟩ := id hR
            obtain ⟨w1, w2, w3, w4, w5, w6⟩ := wH
            obtain ⟨a1', a2', a3', a4', a5', a6, a7, a8⟩ := rH
            obtain ⟨b1, b2, b3, b4, b5, b6⟩ := rH2
            unfold wX2_take
            simp (disch := omega) only [z_lt_t, z_lt_f, z_le_t, z_le_f, z_eq_t, z_eq_f, z_lt0, z_lt1_t, z_lt1_f, z_lt2_t, z_lt2_f, z_le1_t, z_le1_f, z_le2_t, z_le2_f, z_eq1_t, z_eq1_f, z_eq2_t, z_eq2_f, z_lt1, z_lt2, z_le1, z_le2, z_eq1, z_eq2, z_lt, z_le, z_eq, z_in, z_cl, z_cl1, z_add, z_add1, z_addm, z_sub, z_subl, z_mul, z_mull, ↓forall_eq, ↓reduceIte, true_and, and_true, not_true_eq_false, not_false_eq_true, b2i_0, b2i_1, bz_b2i, bz_0, bz_1, nar_b2i, narb_0, narb_1, ↓within_eq, ↓lies_eq, i64i, zi0, zj0, zi1, zj1, zi2, zj2, zi3, zj3, zi4, zj4, zi5, zj5, zi6, zj6, zi7, zj7, zi8, zj8, zi9, zj9, zi10, zj10, zi12, zj12, zi13, zj13, zi19, zj19, zi20, zj20, zi21, zj21, zi29, zj29, zi30, zj30, zi39, zj39, zi48, zj48, zi50, zj50, zi57, zj57, zi60, zj60, zi63, zj63, zi65, zj65, zi71, zj71, zi72, zj72, zi73, zj73, zi74, zj74, zi80, zj80, zi97, zj97, zi98, zj98, zi99, zj99, zi100, zj100, zi106, zj106, zi240, zj240, zi255, zj255, zi260, zj260, zi300, zj300, zi999, zj999, zi1000, zj1000, zi1023, zj1023, zi1024, zj1024, zi9999, zj9999, zi65535, zj65535, zi65536, zj65536, z_tn, z_m1, z_m2, z_bt, z_bf, z_10, z_shl, z_or, rE.1, g_c]
            refine RRL_both hLL hR hL (fun c i hc hn => ?_) (fun c i hc hn => ?_) (e' := h2u (h2u (h2u (h2u e 0 0 (e 0 0 ||| 2 ^ k)) 1 k th) 2 k p) 3 k d) (h' := h2u hl 9 k st) (il' := il) (to' := to) ⟨?_, ?_, ?_⟩ ⟨?_, ?_, ?_, ?_⟩
            · unfold newC at hn
              simp only [gi_si]
              rw [if_neg (by omega), if_neg (by omega), if_neg (by omega), if_neg (by omega), if_neg (by omega)]
            · unfold newM at hn
              simp only [gi_si]
              rw [if_neg (by omega), if_neg (by omega), if_neg (by omega), if_neg (by omega), if_neg (by omega)]
            · refine ⟨?_, fun j hj => ?_⟩
              · have := or_lt (n := 10) wE.1 (show 2 ^ k < 2 ^ 10 from Nat.pow_lt_pow_right (by omega) (by omega))
                simpa [h2u] using this
              · by_cases q : j = k
                · subst q
                  simp [h2u]
                  omega
                · have := wE.2 j hj
                  simp [h2u, q, Nat.testBit_or, Nat.testBit_two_pow, Ne.symm q]
                  simpa using this
            · refine ⟨by simp [gi_si, h2u], fun j hj => ?_⟩
              by_cases q : j = k
              · subst q
                simp [gi_si, h2u]
              · simpa [gi_si, h2u, q] using rE.2 j hj
            · intro j hj
              by_cases q : j = k
              · subst q
                simp [gi_si, h2u, Nat.testBit_or, Nat.testBit_two_pow, b2i]
              · simpa [gi_si, h2u, q, Ne.symm q, Nat.testBit_or, Nat.testBit_two_pow] using rE2 j hj
            · refine ⟨by simpa [h2u] using w1, by simpa [h2u] using w2, by simpa [h2u] using w3, by simpa [h2u] using w4, by simpa [h2u] using w5, fun j hj => ?_⟩
              by_cases q : j = k
              · subst q
                have := w6 j hj
                simp [h2u]
                exact ⟨this.1, this.2.1, this.2.2.1, by omega, this.2.2.2.2⟩
              · have := w6 j hj
                simp [h2u, q]
                simpa using this
            · simpa [h2u] using tL
            · refine ⟨by simpa [gi_si, h2u] using a1', by simpa [gi_si, h2u] using a2', by simpa [gi_si, h2u] using a3', by simpa [gi_si, h2u] using a4', by simpa [gi_si, h2u] using a5', by simpa [gi_si, h2u] using a6, by simpa [gi_si, h2u] using a7, fun j hj => ?_⟩
              by_cases q : j = k
              · subst q
                have := a8 j hj
                simp [gi_si, h2u]
                exact ⟨this.1, this.2.1, this.2.2.1⟩
              · simpa [gi_si, h2u, q] using a8 j hj
            · refine ⟨by simpa [gi_si, h2u] using b1, fun j hj => ?_, by simpa [gi_si, h2u] using b3, by simpa [gi_si, h2u] using b4, by simpa [gi_si, h2u] using b5, by simpa [gi_si, h2u] using b6⟩
              by_cases q : j = k
              · subst q
                have := b2 j hj
                simp [gi_si, h2u]
                exact ⟨this.1, this.2.1, this.2.2.1, this.2.2.2.1⟩
              · simpa [gi_si, h2u, q] using b2 j hj
          · simp (disch := omega) only [z_lt_t, z_lt_f, z_le_t, z_le_f, z_eq_t, z_eq_f, z_lt0, z_lt1_t, z_lt1_f, z_lt2_t, z_lt2_f, z_le1_t, z_le1_f, z_le2_t, z_le2_f, z_eq1_t, z_eq1_f, z_eq2_t, z_eq2_f, z_lt1, z_lt2, z_le1, z_le2, z_eq1, z_eq2, z_lt, z_le, z_eq, z_in, z_cl, z_cl1, z_add, z_add1, z_addm, z_sub, z_subl, z_mul, z_mull, ↓forall_eq, ↓reduceIte, true_and, and_true, not_true_eq_false, not_false_eq_true, b2i_0, b2i_1, bz_b2i, bz_0, bz_1, nar_b2i, narb_0, narb_1, ↓within_eq, ↓lies_eq, i64i, zi0, zj0, zi1, zj1, zi2, zj2, zi3, zj3, zi4, zj4, zi5, zj5, zi6, zj6, zi7, zj7, zi8, zj8, zi9, zj9, zi10, zj10, zi12, zj12, zi13, zj13, zi19, zj19, zi20, zj20, zi21, zj21, zi29, zj29, zi30, zj30, zi39, zj39, zi48, zj48, zi50, zj50, zi57, zj57, zi60, zj60, zi63, zj63, zi65, zj65, zi71, zj71, zi72, zj72, zi73, zj73, zi74, zj74, zi80, zj80, zi97, zj97, zi98, zj98, zi99, zj99, zi100, zj100, zi106, zj106, zi240, zj240, zi255, zj255, zi260, zj260, zi300, zj300, zi999, zj999, zi1000, zj1000, zi1023, zj1023, zi1024, zj1024, zi9999, zj9999, zi65535, zj65535, zi65536, zj65536, z_tn, z_m1, z_m2, z_bt, z_bf, z_10]
            exact h
        · simp (disch := omega) only [z_lt_t, z_lt_f, z_le_t, z_le_f, z_eq_t, z_eq_f, z_lt0, z_lt1_t, z_lt1_f, z_lt2_t, z_lt2_f, z_le1_t, z_le1_f, z_le2_t, z_le2_f, z_eq1_t, z_eq1_f, z_eq2_t, z_eq2_f, z_lt1, z_lt2, z_le1, z_le2, z_eq1, z_eq2, z_lt, z_le, z_eq, z_in, z_cl, z_cl1, z_add, z_add1, z_addm, z_sub, z_subl, z_mul, z_mull, ↓forall_eq, ↓reduceIte, true_and, and_true, not_true_eq_false, not_false_eq_true, b2i_0, b2i_1, bz_b2i, bz_0, bz_1, nar_b2i, narb_0, narb_1, ↓within_eq, ↓lies_eq, i64i, zi0, zj0, zi1, zj1, zi2, zj2, zi3, zj3, zi4, zj4, zi5, zj5, zi6, zj6, zi7, zj7, zi8, zj8, zi9, zj9, zi10, zj10, zi12, zj12, zi13, zj13, zi19, zj19, zi20, zj20, zi21, zj21, zi29, zj29, zi30, zj30, zi39, zj39, zi48, zj48, zi50, zj50, zi57, zj57, zi60, zj60, zi63, zj63, zi65, zj65, zi71, zj71, zi72, zj72, zi73, zj73, zi74, zj74, zi80, zj80, zi97, zj97, zi98, zj98, zi99, zj99, zi100, zj100, zi106, zj106, zi240, zj240, zi255, zj255, zi260, zj260, zi300, zj300, zi999, zj999, zi1000, zj1000, zi1023, zj1023, zi1024, zj1024, zi9999, zj9999, zi65535, zj65535, zi65536, zj65536, z_tn, z_m1, z_m2, z_bt, z_bf, z_10]
          exact h
      · simp (disch := omega) only [z_lt_t, z_lt_f, z_le_t, z_le_f, z_eq_t, z_eq_f, z_lt0, z_lt1_t, z_lt1_f, z_lt2_t, z_lt2_f, z_le1_t, z_le1_f, z_le2_t, z_le2_f, z_eq1_t, z_eq1_f, z_eq2_t, z_eq2_f, z_lt1, z_lt2, z_le1, z_le2, z_eq1, z_eq2, z_lt, z_le, z_eq, z_in, z_cl, z_cl1, z_add, z_add1, z_addm, z_sub, z_subl, z_mul, z_mull, ↓forall_eq, ↓reduceIte, true_and, and_true, not_true_eq_false, not_false_eq_true, b2i_0, b2i_1, bz_b2i, bz_0, bz_1, nar_b2i, narb_0, narb_1, ↓within_eq, ↓lies_eq, i64i, zi0, zj0, zi1, zj1, zi2, zj2, zi3, zj3, zi4, zj4, zi5, zj5, zi6, zj6, zi7, zj7, zi8, zj8, zi9, zj9, zi10, zj10, zi12, zj12, zi13, zj13, zi19, zj19, zi20, zj20, zi21, zj21, zi29, zj29, zi30, zj30, zi39, zj39, zi48, zj48, zi50, zj50, zi57, zj57, zi60, zj60, zi63, zj63, zi65, zj65, zi71, zj71, zi72, zj72, zi73, zj73, zi74, zj74, zi80, zj80, zi97, zj97, zi98, zj98, zi99, zj99, zi100, zj100, zi106, zj106, zi240, zj240, zi255, zj255, zi260, zj260, zi300, zj300, zi999, zj999, zi1000, zj1000, zi1023, zj1023, zi1024, zj1024, zi9999, zj9999, zi65535, zj65535, zi65536, zj65536, z_tn, z_m1, z_m2, z_bt, z_bf, z_10]
        exact h
    · simp (disch := omega) only [z_lt_t, z_lt_f, z_le_t, z_le_f, z_eq_t, z_eq_f, z_lt0, z_lt1_t, z_lt1_f, z_lt2_t, z_lt2_f, z_le1_t, z_le1_f, z_le2_t, z_le2_f, z_eq1_t, z_eq1_f, z_eq2_t, z_eq2_f, z_lt1, z_lt2, z_le1, z_le2, z_eq1, z_eq2, z_lt, z_le, z_eq, z_in, z_cl, z_cl1, z_add, z_add1, z_addm, z_sub, z_subl, z_mul, z_mull, ↓forall_eq, ↓reduceIte, true_and, and_true, not_true_eq_false, not_false_eq_true, b2i_0, b2i_1, bz_b2i, bz_0, bz_1, nar_b2i, narb_0, narb_1, ↓within_eq, ↓lies_eq, i64i, zi0, zj0, zi1, zj1, zi2, zj2, zi3, zj3, zi4, zj4, zi5, zj5, zi6, zj6, zi7, zj7, zi8, zj8, zi9, zj9, zi10, zj10, zi12, zj12, zi13, zj13, zi19, zj19, zi20, zj20, zi21, zj21, zi29, zj29, zi30, zj30, zi39, zj39, zi48, zj48, zi50, zj50, zi57, zj57, zi60, zj60, zi63, zj63, zi65, zj65, zi71, zj71, zi72, zj72, zi73, zj73, zi74, zj74, zi80, zj80, zi97, zj97, zi98, zj98, zi99, zj99, zi100, zj100, zi106, zj106, zi240, zj240, zi255, zj255, zi260, zj260, zi300, zj300, zi999, zj999, zi1000, zj1000, zi1023, zj1023, zi1024, zj1024, zi9999, zj9999, zi65535, zj65535, zi65536, zj65536, z_tn, z_m1, z_m2, z_bt, z_bf, z_10]
      exact h
  · simp (disch := omega) only [z_lt_t, z_lt_f, z_le_t, z_le_f, z_eq_t, z_eq_f, z_lt0, z_lt1_t, z_lt1_f, z_lt2_t, z_lt2_f, z_le1_t, z_le1_f, z_le2_t, z_le2_f, z_eq1_t, z_eq1_f, z_eq2_t, z_eq2_f, z_lt1, z_lt2, z_le1, z_le2, z_eq1, z_eq2, z_lt, z_le, z_eq, z_in, z_cl, z_cl1, z_add, z_add1, z_addm, z_sub, z_subl, z_mul, z_mull, ↓forall_eq, ↓reduceIte, true_and, and_true, not_true_eq_false, not_false_eq_true, b2i_0, b2i_1, bz_b2i, bz_0, bz_1, nar_b2i, narb_0, narb_1, ↓within_eq, ↓lies_eq, i64i, zi0, zj0, zi1, zj1, zi2, zj2, zi3, zj3, zi4, zj4, zi5, zj5, zi6, zj6, zi7, zj7, zi8, zj8, zi9, zj9, zi10, zj10, zi12, zj12, zi13, zj13, zi19, zj19, zi20, zj20, zi21, zj21, zi29, zj29, zi30, zj30, zi39, zj39, zi48, zj48, zi50, zj50, zi57, zj57, zi60, zj60, zi63, zj63, zi65, zj65, zi71, zj71, zi72, zj72, zi73, zj73, zi74, zj74, zi80, zj80, zi97, zj97, zi98, zj98, zi99, zj99, zi100, zj100, zi106, zj106, zi240, zj240, zi255, zj255, zi260, zj260, zi300, zj300, zi999, zj999, zi1000, zj1000, zi1023, zj1023, zi1024, zj1024, zi9999, zj9999, zi65535, zj65535, zi65536, zj65536, z_tn, z_m1, z_m2, z_bt, z_bf, z_10]
    exact h
