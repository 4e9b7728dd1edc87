/-! yawns() -/
def ym (ts : List Nat) (turn th i s : Nat) : Nat := if i + 1 = turn then trn s (ts.getD i 0) &&& (1023 ^^^ th) else trn s (ts.getD i 0)
def yl (ts : List Nat) (t : Nat → Nat) (n turn th : Nat) : Nat → Nat → Nat → Bool
  | 0, _, _ => true
  | m + 1, i, s => if ts.length ≤ i + n ∧ t (i + n - ts.length) ≠ pc (ym ts turn th i s) then false else yl ts t n turn th m (i + 1) (ym ts turn th i s)
theorem ym_lt {ts : List Nat} (hw : wfS ts) {turn th i s : Nat} (hi : i < ts.length) (hs : s < 1024) : ym ts turn th i s < 1024 := by
  have h := trn_lt (hw.2 i hi) hs
  unfold ym
  split
  · have : trn s (ts.getD i 0) &&& (1023 ^^^ th) ≤ trn s (ts.getD i 0) := Nat.and_le_left
    omega
  · exact h
theorem ylC {o : Nat} {ts : List Nat} (hw : wfS ts) {C : xMem} (h1 : gi C o 1 = nI ts.length) (h2 : ∀ i, i < ts.length → gi C (o + 1) i = nI (ts.getD i 0)) {t : Nat → Nat} {n turn th : Nat} (hn : n ≤ ts.length) (hn2 : n ≤ 20) (h3 : ∀ i, i < n → gi C 1 i = nI (t i)) (ht : ∀ i, i < n → t i < 256) (hth : th < 1024) (htu : turn ≤ 72) (post : Int32 → xMem → Prop) (hp : post (b2i (yl ts t n turn th ts.length 0 0 = true)) C) : wX9_yawnsLike o (nI n) (nI turn) (nI th) C post := by
  have hl := hw.1
  have key : ∀ (m i s : Nat), i + m = ts.length → s < 1024 → post (b2i (yl ts t n turn th m i s = true)) C → wX9_yawnsLike_6 o post (m + 1) (nI n) (nI turn) (nI th) (nI s) (nI i) C := by
    intro m
    induction m with
    | zero =>
      intro i s e hs hp
      have : i = ts.length := by omega
      subst this
      rw [wX9_yawnsLike_6]; dsimp only
      simp (disch := omega) only [z_lt_t, z_lt_f, z_le_t, z_le_f, z_eq_t, z_eq_f, z_lt0, z_lt1_t, z_lt1_f, z_lt2_t, z_lt2_f, z_le1_t, z_le1_f, z_le2_t, z_le2_f, z_eq1_t, z_eq1_f, z_eq2_t, z_eq2_f, z_lt1, z_lt2, z_le1, z_le2, z_eq1, z_eq2, z_lt, z_le, z_eq, z_in, z_cl, z_cl1, z_add, z_add1, z_addm, z_sub, z_subl, z_mul, z_mull, ↓forall_eq, ↓reduceIte, true_and, and_true, not_true_eq_false, not_false_eq_true, b2i_0, b2i_1, bz_b2i, bz_0, bz_1, nar_b2i, narb_0, narb_1, ↓within_eq, ↓lies_eq, i64i, zi0, zj0, zi1, zj1, zi2, zj2, zi3, zj3, zi4, zj4, zi5, zj5, zi6, zj6, zi7, zj7, zi8, zj8, zi9, zj9, zi10, zj10, zi12, zj12, zi13, zj13, zi19, zj19, zi20, zj20, zi21, zj21, zi29, zj29, zi30, zj30, zi39, zj39, zi48, zj48, zi50, zj50, zi57, zj57, zi60, zj60, zi63, zj63, zi65, zj65, zi71, zj71, zi72, zj72, zi73, zj73, zi74, zj74, zi80, zj80, zi97, zj97, zi98, zj98, zi99, zj99, zi100, zj100, zi106, zj106, zi240, zj240, zi255, zj255, zi260, zj260, zi300, zj300, zi999, zj999, zi1000, zj1000, zi1023, zj1023, zi1024, zj1024, zi9999, zj9999, zi65535, zj65535, zi65536, zj65536, z_tn, z_m1, z_m2, z_bt, z_bf, z_10, Bool.false_eq_true, h1]
      exact hp
    | succ m ih =>
      intro i s e hs hp
      have hi : i < ts.length := by omega
      have hm := ym_lt hw (turn := turn) (th := th) hi hs
      rw [wX9_yawnsLike_6]; dsimp only
      rw [h1, if_neg (nI_ge hi (by omega))]
      refine ⟨vp_in_nI (by omega) (by decide), ?_⟩
      rw [nI_clamp (by omega), h2 i hi, behindTurn_eq, bt_n (hw.2 i hi) hs, z_add1]
      have fin : wX9_yawnsLike_46 o (wX9_yawnsLike_6 o post (m + 1)) post (nI n) (nI turn) (nI th) (nI (ym ts turn th i s)) (nI i) C := by
        unfold wX9_yawnsLike_46 wX9_yawnsLike_83
        have hp2 := hp
        unfold yl at hp2
        simp (disch := omega) only [z_lt_t, z_lt_f, z_le_t, z_le_f, z_eq_t, z_eq_f, z_lt0, z_lt1_t, z_lt1_f, z_lt2_t, z_lt2_f, z_le1_t, z_le1_f, z_le2_t, z_le2_f, z_eq1_t, z_eq1_f, z_eq2_t, z_eq2_f, z_lt1, z_lt2, z_le1, z_le2, z_eq1, z_eq2, z_lt, z_le, z_eq, z_in, z_cl, z_cl1, z_add, z_add1, z_addm, z_sub, z_subl, z_mul, z_mull, ↓forall_eq, ↓reduceIte, true_and, and_true, not_true_eq_false, not_false_eq_true, b2i_0, b2i_1, bz_b2i, bz_0, bz_1, nar_b2i, narb_0, narb_1, ↓within_eq, ↓lies_eq, i64i, zi0, zj0, zi1, zj1, zi2, zj2, zi3, zj3, zi4, zj4, zi5, zj5, zi6, zj6, zi7, zj7, zi8, zj8, zi9, zj9, zi10, zj10, zi12, zj12, zi13, zj13, zi19, zj19, zi20, zj20, zi21, zj21, zi29, zj29, zi30, zj30, zi39, zj39, zi48, zj48, zi50, zj50, zi57, zj57, zi60, zj60, zi63, zj63, zi65, zj65, zi71, zj71, zi72, zj72, zi73, zj73, zi74, zj74, zi80, zj80, zi97, zj97, zi98, zj98, zi99, zj99, zi100, zj100, zi106, zj106, zi240, zj240, zi255, zj255, zi260, zj260, zi300, zj300, zi999, zj999, zi1000, zj1000, zi1023, zj1023, zi1024, zj1024, zi9999, zj9999, zi65535, zj65535, zi65536, zj65536, z_tn, z_m1, z_m2, z_bt, z_bf, z_10, Bool.false_eq_true, h1]
        by_cases q : ts.length ≤ i + n
        · have e1 : nI i - nI (ts.length - n) = nI (i + n - ts.length) := by
            rw [z_sub (by omega)]; congr 1; omega
          rw [e1]
          have ht1 := ht (i + n - ts.length) (by omega)
          have hpc := pc_le hm
          simp (disch := omega) only [z_lt_t, z_lt_f, z_le_t, z_le_f, z_eq_t, z_eq_f, z_lt0, z_lt1_t, z_lt1_f, z_lt2_t, z_lt2_f, z_le1_t, z_le1_f, z_le2_t, z_le2_f, z_eq1_t, z_eq1_f, z_eq2_t, z_eq2_f, z_lt1, z_lt2, z_le1, z_le2, z_eq1, z_eq2, z_lt, z_le, z_eq, z_in, z_cl, z_cl1, z_add, z_add1, z_addm, z_sub, z_subl, z_mul, z_mull, ↓forall_eq, ↓reduceIte, true_and, and_true, not_true_eq_false, not_false_eq_true, b2i_0, b2i_1, bz_b2i, bz_0, bz_1, nar_b2i, narb_0, narb_1, ↓within_eq, ↓lies_eq, i64i, zi0, zj0, zi1, zj1, zi2, zj2, zi3, zj3, zi4, zj4, zi5, zj5, zi6, zj6, zi7, zj7, zi8, zj8, zi9, zj9, zi10, zj10, zi12, zj12, zi13, zj13, zi19, zj19, zi20, zj20, zi21, zj21, zi29, zj29, zi30, zj30, zi39, zj39, zi48, zj48, zi50, zj50, zi57, zj57, zi60, zj60, zi63, zj63, zi65, zj65, zi71, zj71, zi72, zj72, zi73, zj73, zi74, zj74, zi80, zj80, zi97, zj97, zi98, zj98, zi99, zj99, zi100, zj100, zi106, zj106, zi240, zj240, zi255, zj255, zi260, zj260, zi300, zj300, zi999, zj999, zi1000, zj1000, zi1023, zj1023, zi1024, zj1024, zi9999, zj9999, zi65535, zj65535, zi65536, zj65536, z_tn, z_m1, z_m2, z_bt, z_bf, z_10, Bool.false_eq_true, h3 (i + n - ts.length) (by omega)]
          rw [bitCount_eq, bc_n hm]
          simp (disch := omega) only [z_lt_t, z_lt_f, z_le_t, z_le_f, z_eq_t, z_eq_f, z_lt0, z_lt1_t, z_lt1_f, z_lt2_t, z_lt2_f, z_le1_t, z_le1_f, z_le2_t, z_le2_f, z_eq1_t, z_eq1_f, z_eq2_t, z_eq2_f, z_lt1, z_lt2, z_le1, z_le2, z_eq1, z_eq2, z_lt, z_le, z_eq, z_in, z_cl, z_cl1, z_add, z_add1, z_addm, z_sub, z_subl, z_mul, z_mull, ↓forall_eq, ↓reduceIte, true_and, and_true, not_true_eq_false, not_false_eq_true, b2i_0, b2i_1, bz_b2i, bz_0, bz_1, nar_b2i, narb_0, narb_1, ↓within_eq, ↓lies_eq, i64i, zi0, zj0, zi1, zj1, zi2, zj2, zi3, zj3, zi4, zj4, zi5, zj5, zi6, zj6, zi7, zj7, zi8, zj8, zi9, zj9, zi10, zj10, zi12, zj12, zi13, zj13, zi19, zj19, zi20, zj20, zi21, zj21, zi29, zj29, zi30, zj30, zi39, zj39, zi48, zj48, zi50, zj50, zi57, zj57, zi60, zj60, zi63, zj63, zi65, zj65, zi71, zj71, zi72, zj72, zi73, zj73, zi74, zj74, zi80, zj80, zi97, zj97, zi98, zj98, zi99, zj99, zi100, zj100, zi106, zj106, zi240, zj240, zi255, zj255, zi260, zj260, zi300, zj300, zi999, zj999, zi1000, zj1000, zi1023, zj1023, zi1024, zj1024, zi9999, zj9999, zi65535, zj65535, zi65536, zj65536, z_tn, z_m1, z_m2, z_bt, z_bf, z_10, Bool.false_eq_true]
          by_cases q2 : t (i + n - ts.length) = pc (ym ts turn th i s)
          · rw [if_neg (fun z => z.2 q2)] at hp2
            rw [if_pos q2]
            exact ih (i + 1) _ (by omega) hm hp2
          · rw [if_pos ⟨q, q2⟩] at hp2
            rw [if_neg q2]
            exact hp2
        · rw [if_neg (fun z => q z.1)] at hp2
          rw [if_pos (pk_sneg (by omega) (by omega))]
          exact ih (i + 1) _ (by omega) hm hp2
      have hs' := trn_lt (hw.2 i hi) hs
      unfold ym at fin
      by_cases q : i + 1 = turn
      · rw [if_pos q] at fin
        rw [if_pos (show nI (i + 1) = nI turn by rw [q]), andnot_n hs' hth]
        intro v6 e6
        subst e6
        exact fin
      · rw [if_neg q] at fin
        rw [if_neg (fun z => q ((nI_eq (a := i + 1) (b := turn) (by omega) (by omega)).mp z))]
        exact fin
  exact ⟨ts.length + 1, key ts.length 0 0 (by omega) (by omega) hp⟩
theorem ylM {k : Nat} (hk : k < 6) {ts : List Nat} (hw : wfS ts) {M : xMem} (h1 : gi M 3 k = nI ts.length) (h2 : ∀ i, i < ts.length → gi M 4 (72 * k + i) = nI (ts.getD i 0)) {t : Nat → Nat} {n turn th e : Nat} (he : e < 10) (hn : n ≤ ts.length) (hn2 : n ≤ 20) (h3 : ∀ i, i < n → gi M 1 i &&& 255 = nI (t i)) (ht : ∀ i, i < n → t i < 256) (hth : th < 1024) (h4 : gi M 26 e = nI th) (htu : turn ≤ 72) (post : Int32 → xMem → Prop) (hp : post (b2i (yl ts t n turn th ts.length 0 0 = true)) M) : wX12_isYawned (nI k) (nI n) (nI e) (nI turn) M post := by
  have hl := hw.1
  have key : ∀ (m i s : Nat), i + m = ts.length → s < 1024 → post (b2i (yl ts t n turn th m i s = true)) M → wX12_isYawned_14 post (m + 1) (nI k) (nI n) (nI e) (nI turn) (nI s) (nI ts.length) (nI (i + 1)) M := by
    intro m
    induction m with
    | zero =>
      intro i s e hs hp
      have : i = ts.length := by omega
      subst this
      rw [wX12_isYawned_14]; dsimp only
      simp (disch := omega) only [z_lt_t, z_lt_f, z_le_t, z_le_f, z_eq_t, z_eq_f, z_lt0, z_lt1_t, z_lt1_f, z_lt2_t, z_lt2_f, z_le1_t, z_le1_f, z_le2_t, z_le2_f, z_eq1_t, z_eq1_f, z_eq2_t, z_eq2_f, z_lt1, z_lt2, z_le1, z_le2, z_eq1, z_eq2, z_lt, z_le, z_eq, z_in, z_cl, z_cl1, z_add, z_add1, z_addm, z_sub, z_subl, z_mul, z_mull, ↓forall_eq, ↓reduceIte, true_and, and_true, not_true_eq_false, not_false_eq_true, b2i_0, b2i_1, bz_b2i, bz_0, bz_1, nar_b2i, narb_0, narb_1, ↓within_eq, ↓lies_eq, i64i, zi0, zj0, zi1, zj1, zi2, zj2, zi3, zj3, zi4, zj4, zi5, zj5, zi6, zj6, zi7, zj7, zi8, zj8, zi9, zj9, zi10, zj10, zi12, zj12, zi13, zj13, zi19, zj19, zi20, zj20, zi21, zj21, zi29, zj29, zi30, zj30, zi39, zj39, zi48, zj48, zi50, zj50, zi57, zj57, zi60, zj60, zi63, zj63, zi65, zj65, zi71, zj71, zi72, zj72, zi73, zj73, zi74, zj74, zi80, zj80, zi97, zj97, zi98, zj98, zi99, zj99, zi100, zj100, zi106, zj106, zi240, zj240, zi255, zj255, zi260, zj260, zi300, zj300, zi999, zj999, zi1000, zj1000, zi1023, zj1023, zi1024, zj1024, zi9999, zj9999, zi65535, zj65535, zi65536, zj65536, z_tn, z_m1, z_m2, z_bt, z_bf, z_10, Bool.false_eq_true]
      exact hp
    | succ m ih =>
      intro i s e9 hs hp
      have hi : i < ts.length := by omega
      have hm := ym_lt hw (turn := turn) (th := th) hi hs
      rw [wX12_isYawned_14]; dsimp only
      have eix : ((72 : Int32) * nI k + nI (i + 1)) - 1 = nI (72 * k + i) := by
        rw [z_mull, nI_add, z_subl (by omega)]
        congr 1
      rw [if_neg (nI_nlt (by omega) (by omega)), eix]
      refine ⟨vp_in_nI (by omega) (by decide), ?_⟩
      rw [nI_clamp (by omega), h2 i hi, turned_eq, td_n (hw.2 i hi) hs]
      have fin : wX12_isYawned_62 (wX12_isYawned_14 post (m + 1)) post (nI k) (nI n) (nI e) (nI turn) (nI (ym ts turn th i s)) (nI ts.length) (nI (i + 1)) M := by
        unfold wX12_isYawned_62 wX12_isYawned_94
        have hp2 := hp
        unfold yl at hp2
        simp (disch := omega) only [z_lt_t, z_lt_f, z_le_t, z_le_f, z_eq_t, z_eq_f, z_lt0, z_lt1_t, z_lt1_f, z_lt2_t, z_lt2_f, z_le1_t, z_le1_f, z_le2_t, z_le2_f, z_eq1_t, z_eq1_f, z_eq2_t, z_eq2_f, z_lt1, z_lt2, z_le1, z_le2, z_eq1, z_eq2, z_lt, z_le, z_eq, z_in, z_cl, z_cl1, z_add, z_add1, z_addm, z_sub, z_subl, z_mul, z_mull, ↓forall_eq, ↓reduceIte, true_and, and_true, not_true_eq_false, not_false_eq_true, b2i_0, b2i_1, bz_b2i, bz_0, bz_1, nar_b2i, narb_0, narb_1, ↓within_eq, ↓lies_eq, i64i, zi0, zj0, zi1, zj1, zi2, zj2, zi3, zj3, zi4, zj4, zi5, zj5, zi6, zj6, zi7, zj7, zi8, zj8, zi9, zj9, zi10, zj10, zi12, zj12, zi13, zj13, zi19, zj19, zi20, zj20, zi21, zj21, zi29, zj29, zi30, zj30, zi39, zj39, zi48, zj48, zi50, zj50, zi57, zj57, zi60, zj60, zi63, zj63, zi65, zj65, zi71, zj71, zi72, zj72, zi73, zj73, zi74, zj74, zi80, zj80, zi97, zj97, zi98, zj98, zi99, zj99, zi100, zj100, zi106, zj106, zi240, zj240, zi255, zj255, zi260, zj260, zi300, zj300, zi999, zj999, zi1000, zj1000, zi1023, zj1023, zi1024, zj1024, zi9999, zj9999, zi65535, zj65535, zi65536, zj65536, z_tn, z_m1, z_m2, z_bt, z_bf, z_10, Bool.false_eq_true]
        by_cases q : ts.length ≤ i + n
        · rw [if_neg (by omega)]
          have e1 : nI (i + 1) - nI ts.length + nI n - 1 = nI (i + n - ts.length) := by
            have a1 : nI (i + 1) - nI ts.length + nI n = nI (i + 1 + n) - nI ts.length := by
              rw [← nI_add (i + 1) n, Int32.sub_eq_add_neg, Int32.sub_eq_add_neg, Int32.add_assoc, Int32.add_assoc, Int32.add_comm (-nI ts.length)]
            rw [a1, z_sub (by omega), z_subl (by omega)]
            congr 1
            omega
          rw [e1]
          have ht1 := ht (i + n - ts.length) (by omega)
          have hpc := pc_le hm
          refine byteAt_n (by omega) (h3 (i + n - ts.length) (by omega)) _ ?_
          refine sizeOf_n hm M _ ?_
          simp (disch := omega) only [z_lt_t, z_lt_f, z_le_t, z_le_f, z_eq_t, z_eq_f, z_lt0, z_lt1_t, z_lt1_f, z_lt2_t, z_lt2_f, z_le1_t, z_le1_f, z_le2_t, z_le2_f, z_eq1_t, z_eq1_f, z_eq2_t, z_eq2_f, z_lt1, z_lt2, z_le1, z_le2, z_eq1, z_eq2, z_lt, z_le, z_eq, z_in, z_cl, z_cl1, z_add, z_add1, z_addm, z_sub, z_subl, z_mul, z_mull, ↓forall_eq, ↓reduceIte, true_and, and_true, not_true_eq_false, not_false_eq_true, b2i_0, b2i_1, bz_b2i, bz_0, bz_1, nar_b2i, narb_0, narb_1, ↓within_eq, ↓lies_eq, i64i, zi0, zj0, zi1, zj1, zi2, zj2, zi3, zj3, zi4, zj4, zi5, zj5, zi6, zj6, zi7, zj7, zi8, zj8, zi9, zj9, zi10, zj10, zi12, zj12, zi13, zj13, zi19, zj19, zi20, zj20, zi21, zj21, zi29, zj29, zi30, zj30, zi39, zj39, zi48, zj48, zi50, zj50, zi57, zj57, zi60, zj60, zi63, zj63, zi65, zj65, zi71, zj71, zi72, zj72, zi73, zj73, zi74, zj74, zi80, zj80, zi97, zj97, zi98, zj98, zi99, zj99, zi100, zj100, zi106, zj106, zi240, zj240, zi255, zj255, zi260, zj260, zi300, zj300, zi999, zj999, zi1000, zj1000, zi1023, zj1023, zi1024, zj1024, zi9999, zj9999, zi65535, zj65535, zi65536, zj65536, z_tn, z_m1, z_m2, z_bt, z_bf, z_10, Bool.false_eq_true]
          by_cases q2 : t (i + n - ts.length) = pc (ym ts turn th i s)
          · rw [if_neg (fun z => z.2 q2)] at hp2
            rw [if_pos q2]
            exact ih (i + 1) _ (by omega) hm hp2
          · rw [if_pos ⟨q, q2⟩] at hp2
            rw [if_neg q2]
            exact hp2
        · rw [if_neg (fun z => q z.1)] at hp2
          rw [if_pos (by omega)]
          exact ih (i + 1) _ (by omega) hm hp2
      have hs' := trn_lt (hw.2 i hi) hs
      unfold ym at fin
      by_cases q : i + 1 = turn
      · rw [if_pos q] at fin
        rw [if_pos (show nI (i + 1) = nI turn by rw [q])]
        refine ⟨vp_in_nI he (by decide), ?_⟩
        rw [nI_clamp (by omega), h4, andnot_n hs' hth]
        intro v6 e6
        subst e6
        exact fin
      · rw [if_neg q] at fin
        rw [if_neg (fun z => q ((nI_eq (a := i + 1) (b := turn) (by omega) (by omega)).mp z))]
        exact fin
  unfold wX12_isYawned
  simp (disch := omega) only [z_lt_t, z_lt_f, z_le_t, z_le_f, z_eq_t, z_eq_f, z_lt0, z_lt1_t, z_lt1_f, z_lt2_t, z_lt2_f, z_le1_t, z_le1_f, z_le2_t, z_le2_f, z_eq1_t, z_eq1_f, z_eq2_t, z_eq2_f, z_lt1, z_lt2, z_le1, z_le2, z_eq1, z_eq2, z_lt, z_le, z_eq, z_in, z_cl, z_cl1, z_add, z_add1, z_addm, z_sub, z_subl, z_mul, z_mull, ↓forall_eq, ↓reduceIte, true_and, and_true, not_true_eq_false, not_false_eq_true, b2i_0, b2i_1, bz_b2i, bz_0, bz_1, nar_b2i, narb_0, narb_1, ↓within_eq, ↓lies_eq, i64i, zi0, zj0, zi1, zj1, zi2, zj2, zi3, zj3, zi4, zj4, zi5, zj5, zi6, zj6, zi7, zj7, zi8, zj8, zi9, zj9, zi10, zj10, zi12, zj12, zi13, zj13, zi19, zj19, zi20, zj20, zi21, zj21, zi29, zj29, zi30, zj30, zi39, zj39, zi48, zj48, zi50, zj50, zi57, zj57, zi60, zj60, zi63, zj63, zi65, zj65, zi71, zj71, zi72, zj72, zi73, zj73, zi74, zj74, zi80, zj80, zi97, zj97, zi98, zj98, zi99, zj99, zi100, zj100, zi106, zj106, zi240, zj240, zi255, zj255, zi260, zj260, zi300, zj300, zi999, zj999, zi1000, zj1000, zi1023, zj1023, zi1024, zj1024, zi9999, zj9999, zi65535, zj65535, zi65536, zj65536, z_tn, z_m1, z_m2, z_bt, z_bf, z_10, Bool.false_eq_true, h1]
  exact ⟨ts.length + 1, key ts.length 0 0 (by omega) (by omega) hp⟩
def yr (p : Nat → Bool) (e : Nat) (q : Nat × Nat) : Nat → Nat × Nat
  | 0 => q
  | j + 1 => if p (j + 1) = true then ((yr p e q j).1 ||| 2 ^ e, (yr p e q j).2 + 1) else yr p e q j
def yq (P : Nat → Nat → Bool) (len : Nat) : Nat → Nat × Nat
  | 0 => (0, 0)
  | e + 1 => yr (P e) e (yq P len e) len
theorem yr_no {p : Nat → Bool} {e : Nat} {q : Nat × Nat} (h : ∀ j, p j = false) : ∀ n, yr p e q n = q := by
  intro n
  induction n with
  | zero => rfl
  | succ n ih => unfold yr; rw [if_neg (by rw [h]; decide)]; exact ih
def yP (e : xT2) (ts : List Nat) (t : Nat → Nat) (n : Nat) (k turn : Nat) : Bool := (e 0 0).testBit k && yl ts t n turn (e 1 k) ts.length 0 0
theorem isTold2_eq {t k : Nat} {C : xMem} (h : gi C 41 0 = nI t) (ht : t < 1024) (hk : k < 10) (post : Int32 → xMem → Prop) : wX2_isTold (nI k) C post = post (b2i (t.testBit k = true)) C := by
  unfold wX2_isTold
  have z0 : 0 ≤ (nI k).toInt ∧ (nI k).toInt ≤ 9 := by rw [nI_toInt (by omega)]; omega
  rw [within_eq, zi0, zi9, b2i_t z0, if_neg (by decide), h, hasC_n (by omega) hk]
  by_cases q : t.testBit k = true
  · rw [b2i_t q, if_neg (by decide)]
  · rw [b2i_f q, if_pos rfl]
theorem isTold2_o {a : Int32} (h : ¬ (0 ≤ a.toInt ∧ a.toInt ≤ 9)) (C : xMem) (post : Int32 → xMem → Prop) : wX2_isTold a C post = post 0 C := by
  unfold wX2_isTold
  simp (disch := omega) only [z_lt_t, z_lt_f, z_le_t, z_le_f, z_eq_t, z_eq_f, z_lt0, z_lt1_t, z_lt1_f, z_lt2_t, z_lt2_f, z_le1_t, z_le1_f, z_le2_t, z_le2_f, z_eq1_t, z_eq1_f, z_eq2_t, z_eq2_f, z_lt1, z_lt2, z_le1, z_le2, z_eq1, z_eq2, z_lt, z_le, z_eq, z_in, z_cl, z_cl1, z_add, z_add1, z_addm, z_sub, z_subl, z_mul, z_mull, ↓forall_eq, ↓reduceIte, true_and, and_true, not_true_eq_false, not_false_eq_true, b2i_0, b2i_1, bz_b2i, bz_0, bz_1, nar_b2i, narb_0, narb_1, ↓within_eq, ↓lies_eq, i64i, zi0, zj0, zi1, zj1, zi2, zj2, zi3, zj3, zi4, zj4, zi5, zj5, zi6, zj6, zi7, zj7, zi8, zj8, zi9, zj9, zi10, zj10, zi12, zj12, zi13, zj13, zi19, zj19, zi20, zj20, zi21, zj21, zi29, zj29, zi30, zj30, zi39, zj39, zi48, zj48, zi50, zj50, zi57, zj57, zi60, zj60, zi63, zj63, zi65, zj65, zi71, zj71, zi72, zj72, zi73, zj73, zi74, zj74, zi80, zj80, zi97, zj97, zi98, zj98, zi99, zj99, zi100, zj100, zi106, zj106, zi240, zj240, zi255, zj255, zi260, zj260, zi300, zj300, zi999, zj999, zi1000, zj1000, zi1023, zj1023, zi1024, zj1024, zi9999, zj9999, zi65535, zj65535, zi65536, zj65536, z_tn, z_m1, z_m2, z_bt, z_bf, z_10, Bool.false_eq_true]
theorem yawns_ok {LL : xMem → xMem → Prop} (hLL : LLc LL) (a0 a1 a2 : Int32) (C M : xMem) (h : RRL LL C M) : wX11_yawns a0 a1 a2 C (fun r C' => wX12_yawns a0 a1 a2 M (fun r' M' => r = r' ∧ RRL LL C' M')) := by
  have h9 := RRL_taped hLL h
  obtain ⟨⟨S, e, hl, hk, il, to, il2, to2, kp, tn, t, hR⟩, hL⟩ := id h
  obtain ⟨wE, rE, rE2⟩ := hR.2.1
  obtain ⟨wT, rT, rT2⟩ := hR.2.2.2.2.1
  have hw9 := wT.1
  unfold wX11_yawns
  rcases told_cases hR.1 a0 with ⟨k, hk6, rfl, hne, q1, q2⟩ | ⟨q1, q2⟩
  rotate_left
  · rw [q1, if_pos rfl]; unfold wX12_yawns; dsimp only; rw [q2, if_pos rfl]; exact ⟨rfl, h⟩
  obtain ⟨hw, hC, hM⟩ := hR.1 k hk6
  have hl := hw.1
  rw [q1, if_neg (show ¬ 3 + 2 * k = 0 by omega), within_eq, tapeGives_eq wT.1 _ _ _ rT.1, zi0, zi1, zi20]
  -- the reference's start
  have start : ∀ post : Int32 → xMem → Prop, (if 1 ≤ a1.toInt ∧ a1.toInt ≤ 20 then if 0 ≤ a2.toInt ∧ a2.toInt ≤ 1 then if a1 ≤ nI tn then if a1 ≤ nI (S k).length then ∃ n67 : Nat, wX12_yawns_67 post n67 (nI k) a1 a2 0 0 0 (si M 0 1 0) else post (-2) (si M 0 1 0) else post (-1) M else post (-1) M else post (-1) M) → wX12_yawns (nI k) a1 a2 M post := by
    intro post hp
    unfold wX12_yawns
    rw [q2, if_neg (by decide), lies_eq, i64i, zj1, show (20 : Int64).toInt = 20 by decide]
    by_cases c1 : 1 ≤ a1.toInt ∧ a1.toInt ≤ 20
    rotate_left
    · rw [if_neg c1] at hp; rw [b2i_f c1, if_pos rfl]; exact hp
    rw [if_pos c1] at hp
    rw [b2i_t c1, if_neg (by decide), lies_eq, i64i, zj0, zj1]
    by_cases c2 : 0 ≤ a2.toInt ∧ a2.toInt ≤ 1
    rotate_left
    · rw [if_neg c2] at hp; rw [b2i_f c2, if_pos rfl]; exact hp
    rw [if_pos c2] at hp
    rw [b2i_t c2, if_neg (by decide), rT2.1]
    by_cases c3 : a1 ≤ nI tn
    rotate_left
    · rw [if_neg c3] at hp ⊢; exact hp
    rw [if_pos c3] at hp ⊢
    intro M11 e11
    subst e11
    refine ⟨vp_in_nI hk6 (by decide), ?_⟩
    rw [nI_clamp (by omega), g_c (by omega), hM.1]
    by_cases c4 : a1 ≤ nI (S k).length
    · rw [if_pos c4] at hp ⊢; exact hp
    · rw [if_neg c4] at hp ⊢; exact hp
  by_cases c2 : 0 ≤ a2.toInt ∧ a2.toInt ≤ 1
  rotate_left
  · rw [b2i_f c2, if_pos rfl]
    refine start _ ?_
    by_cases c1 : 1 ≤ a1.toInt ∧ a1.toInt ≤ 20
    · rw [if_pos c1, if_neg c2]; exact ⟨rfl, h⟩
    · rw [if_neg c1]; exact ⟨rfl, h⟩
  rw [b2i_t c2, if_neg (by decide)]
  by_cases c1 : 1 ≤ a1.toInt ∧ a1.toInt ≤ 20
  rotate_left
  · rw [b2i_f (fun z => c1 ⟨z.1, z.2.1⟩), if_pos rfl]
    refine start _ ?_
    rw [if_neg c1]; exact ⟨rfl, h⟩
  obtain ⟨n, hn, rfl⟩ := at_n (a := a1) (n := 20) (by omega) (by decide)
  have hn1 := c1.1
  rw [nI_toInt (by omega)] at hn1
  have en : (nI n).toInt = (n : Int) := nI_toInt (by omega)
  by_cases c3 : n ≤ tn
  rotate_left
  · rw [b2i_f (by omega), if_pos rfl]
    refine start _ ?_
    rw [if_pos c1, if_pos c2, if_neg (nI_ge (by omega) (by omega))]; exact ⟨rfl, h⟩
  rw [b2i_t (by omega), if_neg (by decide)]
  intro M9 e9
  subst e9
  rw [g_c (by omega), hC.1]
  by_cases c4 : n ≤ (S k).length
  rotate_left
  · rw [if_neg (nI_ge (by omega) (by omega))]
    refine start _ ?_
    rw [if_pos c1, if_pos c2, if_pos (nI_le c3 (by omega)), if_neg (nI_ge (by omega) (by omega))]
    exact ⟨rfl, h9⟩
  rw [if_pos (nI_le c4 (by omega))]
  have start2 : ∀ post : Int32 → xMem → Prop, (∃ n67 : Nat, wX12_yawns_67 post n67 (nI k) (nI n) a2 0 0 0 (si M 0 1 0)) → wX12_yawns (nI k) (nI n) a2 M post := by
    intro post hp
    refine start _ ?_
    rw [if_pos c1, if_pos c2, if_pos (nI_le c3 (by omega)), if_pos (nI_le c4 (by omega))]
    exact hp
  have fC3 : ∀ i, i < n → gi (si C 0 1 0) 1 i = nI (t i) := fun i hi => by rw [g_c (by omega)]; exact rT.2 i (by omega)
  have fM3 : ∀ i, i < n → gi (si M 0 1 0) 1 i &&& 255 = nI (t i) := fun i hi => by rw [g_c (by omega)]; exact (rT2.2 i (by omega)).1
  have fT : ∀ i, i < n → t i < 256 := fun i hi => wT.2 i (by omega)
  have fC1 : gi (si C 0 1 0) (3 + 2 * k) 1 = nI (S k).length := by rw [g_c (by omega)]; exact hC.1
  have fC2 : ∀ i, i < (S k).length → gi (si C 0 1 0) (3 + 2 * k + 1) i = nI ((S k).getD i 0) := fun i hi => by rw [g_c (by omega)]; exact hC.2.1 i hi
  have fM1 : gi (si M 0 1 0) 3 k = nI (S k).length := by rw [g_c (by omega)]; exact hM.1
  have fM2 : ∀ i, i < (S k).length → gi (si M 0 1 0) 4 (72 * k + i) = nI ((S k).getD i 0) := fun i hi => by rw [g_c (by omega)]; exact hM.2.2 i hi
  have mM : ∀ post : Int32 → xMem → Prop, post (if a2 = 0 then nI (yq (yP e (S k) t n) (S k).length 10).1 else nI (yq (yP e (S k) t n) (S k).length 10).2) (si M 0 1 0) → wX12_yawns_67 post 11 (nI k) (nI n) a2 0 0 0 (si M 0 1 0) := by
    intro post hp
    have inn : ∀ (K67 : Int32 → Int32 → Int32 → Int32 → Int32 → Int32 → xMem → Prop) (x : Nat) (q : Nat × Nat), x < 10 → K67 (nI k) (nI n) a2 (nI (yr (yP e (S k) t n x) x q (S k).length).1) (nI (yr (yP e (S k) t n x) x q (S k).length).2) (nI (x + 1)) (si M 0 1 0) → ∀ (m j : Nat), j + m = (S k).length → wX12_yawns_77 K67 post (m + 1) (nI k) (nI n) a2 (nI (yr (yP e (S k) t n x) x q j).1) (nI (yr (yP e (S k) t n x) x q j).2) (nI x) (nI (j + 1)) (si M 0 1 0) := by
      intro K67 x q hx hK m
      induction m with
      | zero =>
        intro j ej
        have : j = (S k).length := by omega
        subst this
        rw [wX12_yawns_77]; dsimp only
        simp (disch := omega) only [z_lt_t, z_lt_f, z_le_t, z_le_f, z_eq_t, z_eq_f, z_lt0, z_lt1_t, z_lt1_f, z_lt2_t, z_lt2_f, z_le1_t, z_le1_f, z_le2_t, z_le2_f, z_eq1_t, z_eq1_f, z_eq2_t, z_eq2_f, z_lt1, z_lt2, z_le1, z_le2, z_eq1, z_eq2, z_lt, z_le, z_eq, z_in, z_cl, z_cl1, z_add, z_add1, z_addm, z_sub, z_subl, z_mul, z_mull, ↓forall_eq, ↓reduceIte, true_and, and_true, not_true_eq_false, not_false_eq_true, b2i_0, b2i_1, bz_b2i, bz_0, bz_1, nar_b2i, narb_0, narb_1, ↓within_eq, ↓lies_eq, i64i, zi0, zj0, zi1, zj1, zi2, zj2, zi3, zj3, zi4, zj4, zi5, zj5, zi6, zj6, zi7, zj7, zi8, zj8, zi9, zj9, zi10, zj10, zi12, zj12, zi13, zj13, zi19, zj19, zi20, zj20, zi21, zj21, zi29, zj29, zi30, zj30, zi39, zj39, zi48, zj48, zi50, zj50, zi57, zj57, zi60, zj60, zi63, zj63, zi65, zj65, zi71, zj71, zi72, zj72, zi73, zj73, zi74, zj74, zi80, zj80, zi97, zj97, zi98, zj98, zi99, zj99, zi100, zj100, zi106, zj106, zi240, zj240, zi255, zj255, zi260, zj260, zi300, zj300, zi999, zj999, zi1000, zj1000, zi1023, zj1023, zi1024, zj1024, zi9999, zj9999, zi65535, zj65535, zi65536, zj65536, z_tn, z_m1, z_m2, z_bt, z_bf, z_10, Bool.false_eq_true, fM1]
        exact hK
      | succ m ih =>
        intro j ej
        have h8 := ih (j + 1) (by omega)
        unfold yr at h8
        rw [wX12_yawns_77]; dsimp only
        unfold wX12_yawns_126
        have hE := wE.2 x hx
        simp (disch := omega) only [z_lt_t, z_lt_f, z_le_t, z_le_f, z_eq_t, z_eq_f, z_lt0, z_lt1_t, z_lt1_f, z_lt2_t, z_lt2_f, z_le1_t, z_le1_f, z_le2_t, z_le2_f, z_eq1_t, z_eq1_f, z_eq2_t, z_eq2_f, z_lt1, z_lt2, z_le1, z_le2, z_eq1, z_eq2, z_lt, z_le, z_eq, z_in, z_cl, z_cl1, z_add, z_add1, z_addm, z_sub, z_subl, z_mul, z_mull, ↓forall_eq, ↓reduceIte, true_and, and_true, not_true_eq_false, not_false_eq_true, b2i_0, b2i_1, bz_b2i, bz_0, bz_1, nar_b2i, narb_0, narb_1, ↓within_eq, ↓lies_eq, i64i, zi0, zj0, zi1, zj1, zi2, zj2, zi3, zj3, zi4, zj4, zi5, zj5, zi6, zj6, zi7, zj7, zi8, zj8, zi9, zj9, zi10, zj10, zi12, zj12, zi13, zj13, zi19, zj19, zi20, zj20, zi21, zj21, zi29, zj29, zi30, zj30, zi39, zj39, zi48, zj48, zi50, zj50, zi57, zj57, zi60, zj60, zi63, zj63, zi65, zj65, zi71, zj71, zi72, zj72, zi73, zj73, zi74, zj74, zi80, zj80, zi97, zj97, zi98, zj98, zi99, zj99, zi100, zj100, zi106, zj106, zi240, zj240, zi255, zj255, zi260, zj260, zi300, zj300, zi999, zj999, zi1000, zj1000, zi1023, zj1023, zi1024, zj1024, zi9999, zj9999, zi65535, zj65535, zi65536, zj65536, z_tn, z_m1, z_m2, z_bt, z_bf, z_10, Bool.false_eq_true, fM1, g_c, (rE2 x hx).1]
        by_cases z : (e 0 0).testBit x = true
        · simp (disch := omega) only [z_lt_t, z_lt_f, z_le_t, z_le_f, z_eq_t, z_eq_f, z_lt0, z_lt1_t, z_lt1_f, z_lt2_t, z_lt2_f, z_le1_t, z_le1_f, z_le2_t, z_le2_f, z_eq1_t, z_eq1_f, z_eq2_t, z_eq2_f, z_lt1, z_lt2, z_le1, z_le2, z_eq1, z_eq2, z_lt, z_le, z_eq, z_in, z_cl, z_cl1, z_add, z_add1, z_addm, z_sub, z_subl, z_mul, z_mull, ↓forall_eq, ↓reduceIte, true_and, and_true, not_true_eq_false, not_false_eq_true, b2i_0, b2i_1, bz_b2i, bz_0, bz_1, nar_b2i, narb_0, narb_1, ↓within_eq, ↓lies_eq, i64i, zi0, zj0, zi1, zj1, zi2, zj2, zi3, zj3, zi4, zj4, zi5, zj5, zi6, zj6, zi7, zj7, zi8, zj8, zi9, zj9, zi10, zj10, zi12, zj12, zi13, zj13, zi19, zj19, zi20, zj20, zi21, zj21, zi29, zj29, zi30, zj30, zi39, zj39, zi48, zj48, zi50, zj50, zi57, zj57, zi60, zj60, zi63, zj63, zi65, zj65, zi71, zj71, zi72, zj72, zi73, zj73, zi74, zj74, zi80, zj80, zi97, zj97, zi98, zj98, zi99, zj99, zi100, zj100, zi106, zj106, zi240, zj240, zi255, zj255, zi260, zj260, zi300, zj300, zi999, zj999, zi1000, zj1000, zi1023, zj1023, zi1024, zj1024, zi9999, zj9999, zi65535, zj65535, zi65536, zj65536, z_tn, z_m1, z_m2, z_bt, z_bf, z_10, Bool.false_eq_true, z]
          refine ylM (th := e 1 x) hk6 hw fM1 fM2 hx c4 hn fM3 fT hE.1 (by rw [g_c (by omega)]; exact (rE2 x hx).2.1) (by omega) _ ?_
          by_cases z2 : yl (S k) t n (j + 1) (e 1 x) (S k).length 0 0 = true
          · rw [if_pos (by simp [yP, z, z2])] at h8
            rw [b2i_t z2, if_neg (by decide)]
            simp (disch := omega) only [z_lt_t, z_lt_f, z_le_t, z_le_f, z_eq_t, z_eq_f, z_lt0, z_lt1_t, z_lt1_f, z_lt2_t, z_lt2_f, z_le1_t, z_le1_f, z_le2_t, z_le2_f, z_eq1_t, z_eq1_f, z_eq2_t, z_eq2_f, z_lt1, z_lt2, z_le1, z_le2, z_eq1, z_eq2, z_lt, z_le, z_eq, z_in, z_cl, z_cl1, z_add, z_add1, z_addm, z_sub, z_subl, z_mul, z_mull, ↓forall_eq, ↓reduceIte, true_and, and_true, not_true_eq_false, not_false_eq_true, b2i_0, b2i_1, bz_b2i, bz_0, bz_1, nar_b2i, narb_0, narb_1, ↓within_eq, ↓lies_eq, i64i, zi0, zj0, zi1, zj1, zi2, zj2, zi3, zj3, zi4, zj4, zi5, zj5, zi6, zj6, zi7, zj7, zi8, zj8, zi9, zj9, zi10, zj10, zi12, zj12, zi13, zj13, zi19, zj19, zi20, zj20, zi21, zj21, zi29, zj29, zi30, zj30, zi39, zj39, zi48, zj48, zi50, zj50, zi57, zj57, zi60, zj60, zi63, zj63, zi65, zj65, zi71, zj71, zi72, zj72, zi73, zj73, zi74, zj74, zi80, zj80, zi97, zj97, zi98, zj98, zi99, zj99, zi100, zj100, zi106, zj106, zi240, zj240, zi255, zj255, zi260, zj260, zi300, zj300, zi999, zj999, zi1000, zj1000, zi1023, zj1023, zi1024, zj1024, zi9999, zj9999, zi65535, zj65535, zi65536, zj65536, z_tn, z_m1, z_m2, z_bt, z_bf, z_10, Bool.false_eq_true, z_shl, z_or]
            exact h8
          · rw [if_neg (by simp [yP, z2])] at h8
            rw [b2i_f z2, if_pos rfl]
            exact h8
        · simp (disch := omega) only [z_lt_t, z_lt_f, z_le_t, z_le_f, z_eq_t, z_eq_f, z_lt0, z_lt1_t, z_lt1_f, z_lt2_t, z_lt2_f, z_le1_t, z_le1_f, z_le2_t, z_le2_f, z_eq1_t, z_eq1_f, z_eq2_t, z_eq2_f, z_lt1, z_lt2, z_le1, z_le2, z_eq1, z_eq2, z_lt, z_le, z_eq, z_in, z_cl, z_cl1, z_add, z_add1, z_addm, z_sub, z_subl, z_mul, z_mull, ↓forall_eq, ↓reduceIte, true_and, and_true, not_true_eq_false, not_false_eq_true, b2i_0, b2i_1, bz_b2i, bz_0, bz_1, nar_b2i, narb_0, narb_1, ↓within_eq, ↓lies_eq, i64i, zi0, zj0, zi1, zj1, zi2, zj2, zi3, zj3, zi4, zj4, zi5, zj5, zi6, zj6, zi7, zj7, zi8, zj8, zi9, zj9, zi10, zj10, zi12, zj12, zi13, zj13, zi19, zj19, zi20, zj20, zi21, zj21, zi29, zj29, zi30, zj30, zi39, zj39, zi48, zj48, zi50, zj50, zi57, zj57, zi60, zj60, zi63, zj63, zi65, zj65, zi71, zj71, zi72, zj72, zi73, zj73, zi74, zj74, zi80, zj80, zi97, zj97, zi98, zj98, zi99, zj99, zi100, zj100, zi106, zj106, zi240, zj240, zi255, zj255, zi260, zj260, zi300, zj300, zi999, zj999, zi1000, zj1000, zi1023, zj1023, zi1024, zj1024, zi9999, zj9999, zi65535, zj65535, zi65536, zj65536, z_tn, z_m1, z_m2, z_bt, z_bf, z_10, Bool.false_eq_true, z]
          rw [if_neg (by simp [yP, z])] at h8
          exact h8
    have key : ∀ (m x : Nat), x + m = 10 → wX12_yawns_67 post (m + 1) (nI k) (nI n) a2 (nI (yq (yP e (S k) t n) (S k).length x).1) (nI (yq (yP e (S k) t n) (S k).length x).2) (nI x) (si M 0 1 0) := by
      intro m
      induction m with
      | zero =>
        intro x ex
        have : x = 10 := by omega
        subst this
        rw [wX12_yawns_67]; dsimp only
        simp (disch := omega) only [z_lt_t, z_lt_f, z_le_t, z_le_f, z_eq_t, z_eq_f, z_lt0, z_lt1_t, z_lt1_f, z_lt2_t, z_lt2_f, z_le1_t, z_le1_f, z_le2_t, z_le2_f, z_eq1_t, z_eq1_f, z_eq2_t, z_eq2_f, z_lt1, z_lt2, z_le1, z_le2, z_eq1, z_eq2, z_lt, z_le, z_eq, z_in, z_cl, z_cl1, z_add, z_add1, z_addm, z_sub, z_subl, z_mul, z_mull, ↓forall_eq, ↓reduceIte, true_and, and_true, not_true_eq_false, not_false_eq_true, b2i_0, b2i_1, bz_b2i, bz_0, bz_1, nar_b2i, narb_0, narb_1, ↓within_eq, ↓lies_eq, i64i, zi0, zj0, zi1, zj1, zi2, zj2, zi3, zj3, zi4, zj4, zi5, zj5, zi6, zj6, zi7, zj7, zi8, zj8, zi9, zj9, zi10, zj10, zi12, zj12, zi13, zj13, zi19, zj19, zi20, zj20, zi21, zj21, zi29, zj29, zi30, zj30, zi39, zj39, zi48, zj48, zi50, zj50, zi57, zj57, zi60, zj60, zi63, zj63, zi65, zj65, zi71, zj71, zi72, zj72, zi73, zj73, zi74, zj74, zi80, zj80, zi97, zj97, zi98, zj98, zi99, zj99, zi100, zj100, zi106, zj106, zi240, zj240, zi255, zj255, zi260, zj260, zi300, zj300, zi999, zj999, zi1000, zj1000, zi1023, zj1023, zi1024, zj1024, zi9999, zj9999, zi65535, zj65535, zi65536, zj65536, z_tn, z_m1, z_m2, z_bt, z_bf, z_10, Bool.false_eq_true]
        by_cases z : a2 = 0
        · rw [if_pos z] at hp ⊢; exact hp
        · rw [if_neg z] at hp ⊢; exact hp
      | succ m ih =>
        intro x ex
        rw [wX12_yawns_67]; dsimp only
        simp (disch := omega) only [z_lt_t, z_lt_f, z_le_t, z_le_f, z_eq_t, z_eq_f, z_lt0, z_lt1_t, z_lt1_f, z_lt2_t, z_lt2_f, z_le1_t, z_le1_f, z_le2_t, z_le2_f, z_eq1_t, z_eq1_f, z_eq2_t, z_eq2_f, z_lt1, z_lt2, z_le1, z_le2, z_eq1, z_eq2, z_lt, z_le, z_eq, z_in, z_cl, z_cl1, z_add, z_add1, z_addm, z_sub, z_subl, z_mul, z_mull, ↓forall_eq, ↓reduceIte, true_and, and_true, not_true_eq_false, not_false_eq_true, b2i_0, b2i_1, bz_b2i, bz_0, bz_1, nar_b2i, narb_0, narb_1, ↓within_eq, ↓lies_eq, i64i, zi0, zj0, zi1, zj1, zi2, zj2, zi3, zj3, zi4, zj4, zi5, zj5, zi6, zj6, zi7, zj7, zi8, zj8, zi9, zj9, zi10, zj10, zi12, zj12, zi13, zj13, zi19, zj19, zi20, zj20, zi21, zj21, zi29, zj29, zi30, zj30, zi39, zj39, zi48, zj48, zi50, zj50, zi57, zj57, zi60, zj60, zi63, zj63, zi65, zj65, zi71, zj71, zi72, zj72, zi73, zj73, zi74, zj74, zi80, zj80, zi97, zj97, zi98, zj98, zi99, zj99, zi100, zj100, zi106, zj106, zi240, zj240, zi255, zj255, zi260, zj260, zi300, zj300, zi999, zj999, zi1000, zj1000, zi1023, zj1023, zi1024, zj1024, zi9999, zj9999, zi65535, zj65535, zi65536, zj65536, z_tn, z_m1, z_m2, z_bt, z_bf, z_10, Bool.false_eq_true]
        exact ⟨_, inn _ x (yq (yP e (S k) t n) (S k).length x) (by omega) (ih (x + 1) (by omega)) (S k).length 0 (by omega)⟩
    exact key 10 0 rfl
  refine ⟨11, ?_⟩
  have fin : ∀ r : Int32, r = (if a2 = 0 then nI (yq (yP e (S k) t n) (S k).length 10).1 else nI (yq (yP e (S k) t n) (S k).length 10).2) → wX12_yawns (nI k) (nI n) a2 M (fun r' M' => r = r' ∧ RRL LL (si C 0 1 0) M') := fun r hr => start2 _ ⟨11, mM _ ⟨hr, h9⟩⟩
  have inn : ∀ (post : Int32 → xMem → Prop) (K60 : Int32 → Int32 → Nat → Int32 → Int32 → Int32 → xMem → Prop) (x : Nat) (q : Nat × Nat), x < 10 → (e 0 0).testBit x = true → K60 (nI n) a2 (3 + 2 * k) (nI (yr (yP e (S k) t n x) x q (S k).length).1) (nI (yr (yP e (S k) t n x) x q (S k).length).2) (nI (x + 1)) (si C 0 1 0) → ∀ (m j : Nat), j + m = (S k).length → wX11_yawns_70 K60 post (m + 1) (nI n) a2 (3 + 2 * k) (nI (yr (yP e (S k) t n x) x q j).1) (nI (yr (yP e (S k) t n x) x q j).2) (nI x) (nI (j + 1)) (si C 0 1 0) := by
    intro post K60 x q hx z hK m
    induction m with
    | zero =>
      intro j ej
      have : j = (S k).length := by omega
      subst this
      rw [wX11_yawns_70]; dsimp only
      unfold wX11_yawns_135
      rw [isTold2_eq (by rw [g_c (by omega)]; exact rE.1) wE.1 hx, b2i_t z, if_neg (by decide), fC1]
      simp (disch := omega) only [z_lt_t, z_lt_f, z_le_t, z_le_f, z_eq_t, z_eq_f, z_lt0, z_lt1_t, z_lt1_f, z_lt2_t, z_lt2_f, z_le1_t, z_le1_f, z_le2_t, z_le2_f, z_eq1_t, z_eq1_f, z_eq2_t, z_eq2_f, z_lt1, z_lt2, z_le1, z_le2, z_eq1, z_eq2, z_lt, z_le, z_eq, z_in, z_cl, z_cl1, z_add, z_add1, z_addm, z_sub, z_subl, z_mul, z_mull, ↓forall_eq, ↓reduceIte, true_and, and_true, not_true_eq_false, not_false_eq_true, b2i_0, b2i_1, bz_b2i, bz_0, bz_1, nar_b2i, narb_0, narb_1, ↓within_eq, ↓lies_eq, i64i, zi0, zj0, zi1, zj1, zi2, zj2, zi3, zj3, zi4, zj4, zi5, zj5, zi6, zj6, zi7, zj7, zi8, zj8, zi9, zj9, zi10, zj10, zi12, zj12, zi13, zj13, zi19, zj19, zi20, zj20, zi21, zj21, zi29, zj29, zi30, zj30, zi39, zj39, zi48, zj48, zi50, zj50, zi57, zj57, zi60, zj60, zi63, zj63, zi65, zj65, zi71, zj71, zi72, zj72, zi73, zj73, zi74, zj74, zi80, zj80, zi97, zj97, zi98, zj98, zi99, zj99, zi100, zj100, zi106, zj106, zi240, zj240, zi255, zj255, zi260, zj260, zi300, zj300, zi999, zj999, zi1000, zj1000, zi1023, zj1023, zi1024, zj1024, zi9999, zj9999, zi65535, zj65535, zi65536, zj65536, z_tn, z_m1, z_m2, z_bt, z_bf, z_10, Bool.false_eq_true]
      exact hK
    | succ m ih =>
      intro j ej
      have h8 := ih (j + 1) (by omega)
      unfold yr at h8
      rw [wX11_yawns_70]; dsimp only
      unfold wX11_yawns_129
      have hE := wE.2 x hx
      rw [isTold2_eq (by rw [g_c (by omega)]; exact rE.1) wE.1 hx, b2i_t z, if_neg (by decide), fC1]
      simp (disch := omega) only [z_lt_t, z_lt_f, z_le_t, z_le_f, z_eq_t, z_eq_f, z_lt0, z_lt1_t, z_lt1_f, z_lt2_t, z_lt2_f, z_le1_t, z_le1_f, z_le2_t, z_le2_f, z_eq1_t, z_eq1_f, z_eq2_t, z_eq2_f, z_lt1, z_lt2, z_le1, z_le2, z_eq1, z_eq2, z_lt, z_le, z_eq, z_in, z_cl, z_cl1, z_add, z_add1, z_addm, z_sub, z_subl, z_mul, z_mull, ↓forall_eq, ↓reduceIte, true_and, and_true, not_true_eq_false, not_false_eq_true, b2i_0, b2i_1, bz_b2i, bz_0, bz_1, nar_b2i, narb_0, narb_1, ↓within_eq, ↓lies_eq, i64i, zi0, zj0, zi1, zj1, zi2, zj2, zi3, zj3, zi4, zj4, zi5, zj5, zi6, zj6, zi7, zj7, zi8, zj8, zi9, zj9, zi10, zj10, zi12, zj12, zi13, zj13, zi19, zj19, zi20, zj20, zi21, zj21, zi29, zj29, zi30, zj30, zi39, zj39, zi48, zj48, zi50, zj50, zi57, zj57, zi60, zj60, zi63, zj63, zi65, zj65, zi71, zj71, zi72, zj72, zi73, zj73, zi74, zj74, zi80, zj80, zi97, zj97, zi98, zj98, zi99, zj99, zi100, zj100, zi106, zj106, zi240, zj240, zi255, zj255, zi260, zj260, zi300, zj300, zi999, zj999, zi1000, zj1000, zi1023, zj1023, zi1024, zj1024, zi9999, zj9999, zi65535, zj65535, zi65536, zj65536, z_tn, z_m1, z_m2, z_bt, z_bf, z_10, Bool.false_eq_true, g_c, (rE.2 x hx).1]
      refine ylC hw fC1 fC2 c4 hn fC3 fT hE.1 (by omega) _ ?_
      by_cases z2 : yl (S k) t n (j + 1) (e 1 x) (S k).length 0 0 = true
      · rw [if_pos (by simp [yP, z, z2])] at h8
        rw [b2i_t z2, if_neg (by decide)]
        simp (disch := omega) only [z_lt_t, z_lt_f, z_le_t, z_le_f, z_eq_t, z_eq_f, z_lt0, z_lt1_t, z_lt1_f, z_lt2_t, z_lt2_f, z_le1_t, z_le1_f, z_le2_t, z_le2_f, z_eq1_t, z_eq1_f, z_eq2_t, z_eq2_f, z_lt1, z_lt2, z_le1, z_le2, z_eq1, z_eq2, z_lt, z_le, z_eq, z_in, z_cl, z_cl1, z_add, z_add1, z_addm, z_sub, z_subl, z_mul, z_mull, ↓forall_eq, ↓reduceIte, true_and, and_true, not_true_eq_false, not_false_eq_true, b2i_0, b2i_1, bz_b2i, bz_0, bz_1, nar_b2i, narb_0, narb_1, ↓within_eq, ↓lies_eq, i64i, zi0, zj0, zi1, zj1, zi2, zj2, zi3, zj3, zi4, zj4, zi5, zj5, zi6, zj6, zi7, zj7, zi8, zj8, zi9, zj9, zi10, zj10, zi12, zj12, zi13, zj13, zi19, zj19, zi20, zj20, zi21, zj21, zi29, zj29, zi30, zj30, zi39, zj39, zi48, zj48, zi50, zj50, zi57, zj57, zi60, zj60, zi63, zj63, zi65, zj65, zi71, zj71, zi72, zj72, zi73, zj73, zi74, zj74, zi80, zj80, zi97, zj97, zi98, zj98, zi99, zj99, zi100, zj100, zi106, zj106, zi240, zj240, zi255, zj255, zi260, zj260, zi300, zj300, zi999, zj999, zi1000, zj1000, zi1023, zj1023, zi1024, zj1024, zi9999, zj9999, zi65535, zj65535, zi65536, zj65536, z_tn, z_m1, z_m2, z_bt, z_bf, z_10, Bool.false_eq_true, z_shl, z_or]
        exact h8
      · rw [if_neg (by simp [yP, z2])] at h8
        rw [b2i_f z2, if_pos rfl]
        exact h8
  have key : ∀ (m x : Nat), x + m = 10 → wX11_yawns_60 (fun r C' => wX12_yawns (nI k) (nI n) a2 M (fun r' M' => r = r' ∧ RRL LL C' M')) (m + 1) (nI n) a2 (3 + 2 * k) (nI (yq (yP e (S k) t n) (S k).length x).1) (nI (yq (yP e (S k) t n) (S k).length x).2) (nI x) (si C 0 1 0) := by
    intro m
    induction m with
    | zero =>
      intro x ex
      have : x = 10 := by omega
      subst this
      rw [wX11_yawns_60]; dsimp only
      rw [if_pos (show (10 : Int32) ≤ nI 10 by decide)]
      by_cases z : a2 = 0
      · rw [if_pos z]; exact fin _ (by rw [if_pos z])
      · rw [if_neg z]; exact fin _ (by rw [if_neg z])
    | succ m ih =>
      intro x ex
      have hx : x < 10 := by omega
      rw [wX11_yawns_60]; dsimp only
      rw [if_neg (show ¬ (10 : Int32) ≤ nI x from nI_ge hx (by decide))]
      by_cases z : (e 0 0).testBit x = true
      · exact ⟨_, inn _ _ x (yq (yP e (S k) t n) (S k).length x) hx z (ih (x + 1) (by omega)) (S k).length 0 (by omega)⟩
      · refine ⟨1, ?_⟩
        rw [wX11_yawns_70]; dsimp only
        unfold wX11_yawns_135
        rw [isTold2_eq (by rw [g_c (by omega)]; exact rE.1) wE.1 hx, b2i_f z, if_pos rfl]
        simp (disch := omega) only [z_lt_t, z_lt_f, z_le_t, z_le_f, z_eq_t, z_eq_f, z_lt0, z_lt1_t, z_lt1_f, z_lt2_t, z_lt2_f, z_le1_t, z_le1_f, z_le2_t, z_le2_f, z_eq1_t, z_eq1_f, z_eq2_t, z_eq2_f, z_lt1, z_lt2, z_le1, z_le2, z_eq1, z_eq2, z_lt, z_le, z_eq, z_in, z_cl, z_cl1, z_add, z_add1, z_addm, z_sub, z_subl, z_mul, z_mull, ↓forall_eq, ↓reduceIte, true_and, and_true, not_true_eq_false, not_false_eq_true, b2i_0, b2i_1, bz_b2i, bz_0, bz_1, nar_b2i, narb_0, narb_1, ↓within_eq, ↓lies_eq, i64i, zi0, zj0, zi1, zj1, zi2, zj2, zi3, zj3, zi4, zj4, zi5, zj5, zi6, zj6, zi7, zj7, zi8, zj8, zi9, zj9, zi10, zj10, zi12, zj12, zi13, zj13, zi19, zj19, zi20, zj20, zi21, zj21, zi29, zj29, zi30, zj30, zi39, zj39, zi48, zj48, zi50, zj50, zi57, zj57, zi60, zj60, zi63, zj63, zi65, zj65, zi71, zj71, zi72, zj72, zi73, zj73, zi74, zj74, zi80, zj80, zi97, zj97, zi98, zj98, zi99, zj99, zi100, zj100, zi106, zj106, zi240, zj240, zi255, zj255, zi260, zj260, zi300, zj300, zi999, zj999, zi1000, zj1000, zi1023, zj1023, zi1024, zj1024, zi9999, zj9999, zi65535, zj65535, zi65536, zj65536, z_tn, z_m1, z_m2, z_bt, z_bf, z_10, Bool.false_eq_true]
        have h8 := ih (x + 1) (by omega)
        unfold yq at h8
        rw [yr_no (fun j => by simp [yP, z])] at h8
        exact h8
  exact key 10 0 rfl
