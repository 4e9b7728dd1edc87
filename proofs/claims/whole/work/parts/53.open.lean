theorem open_ok {LL : xMem → xMem → Prop} (a0 a1 a2 : Int32) (C M : xMem) (h : RRL LL C M) : wX11_open a0 a1 a2 C (fun r C' => wX12_open a0 a1 a2 M (fun r' M' => r = r' ∧ RRL LL C' M')) := by
  obtain ⟨⟨S, e, hl, hk, il, to, il2, to2, kp, tn, t, hR⟩, hLL⟩ := id h
  have z1 : (0 : Int32).toInt = 0 := by decide
  have z2 : (0 : Int64).toInt = 0 := by decide
  have z3 : (1023 : Int32).toInt = 1023 := by decide
  have z4 : (1023 : Int64).toInt = 1023 := by decide
  by_cases h0 : 0 ≤ a0.toInt ∧ a0.toInt ≤ 5
  · obtain ⟨k, hk5, rfl⟩ := at_n (n := 5) h0 (by decide)
    obtain ⟨hw, hsC, hsM⟩ := hR.1 k (by omega)
    have hl72 := hw.1
    unfold wX11_open
    refine toldStory_in (by omega) hsC.1 hw.1 _ ?_
    by_cases hn : (S k).length = 0
    · rw [if_pos hn, if_pos rfl]
      unfold wX12_open
      refine isTold_in (by omega) hsM.2.1 _ ?_
      rw [b2i_f (fun q => q (List.length_eq_zero_iff.mp hn)), if_pos rfl]
      exact ⟨rfl, h⟩
    · rw [if_neg hn, if_neg (by omega), within_eq, hsC.1, nI_toInt (by omega), z1]
      have hne : S k ≠ [] := fun q => hn (by rw [q]; rfl)
      by_cases h1 : 0 ≤ a1.toInt ∧ a1.toInt ≤ ((S k).length : Int)
      · rw [b2i_t h1, if_neg (by decide), within_eq, z1, z3]
        obtain ⟨j, hj, rfl⟩ := at_n h1 (by omega)
        by_cases h2 : 0 ≤ a2.toInt ∧ a2.toInt ≤ 1023
        · rw [b2i_t h2, if_neg (by decide)]
          obtain ⟨s, hs, rfl⟩ := at_n (n := 1023) h2 (by decide)
          refine openBehindC (ts := S k) hw hsC.1 hsC.2.1 (Nat.zero_le _) (by omega) (by omega) _ ?_
          unfold wX12_open
          refine isTold_in (by omega) hsM.2.1 _ ?_
          rw [b2i_t hne, if_neg (by decide)]
          refine ⟨vp_in_nI (by omega) (by decide), ?_⟩
          rw [nI_clamp (by omega), hsM.1, lies_eq, i64i, i64i, nI_toInt (n := (S k).length) (by omega), z2, b2i_t h1, if_neg (by decide), lies_eq, i64i, z2, z4, b2i_t h2, if_neg (by decide)]
          refine openBehindM (by omega) hw hsM.2.2 hj (by omega) _ ?_
          exact ⟨rfl, h⟩
        · rw [b2i_f h2, if_pos rfl]
          unfold wX12_open
          refine isTold_in (by omega) hsM.2.1 _ ?_
          rw [b2i_t hne, if_neg (by decide)]
          refine ⟨vp_in_nI (by omega) (by decide), ?_⟩
          rw [nI_clamp (by omega), hsM.1, lies_eq, i64i, i64i, nI_toInt (n := (S k).length) (by omega), z2, b2i_t h1, if_neg (by decide), lies_eq, i64i, z2, z4, b2i_f h2, if_pos rfl]
          exact ⟨rfl, h⟩
      · rw [b2i_f h1, if_pos rfl]
        unfold wX12_open
        refine isTold_in (by omega) hsM.2.1 _ ?_
        rw [b2i_t hne, if_neg (by decide)]
        refine ⟨vp_in_nI (by omega) (by decide), ?_⟩
        rw [nI_clamp (by omega), hsM.1, lies_eq, i64i, i64i, nI_toInt (n := (S k).length) (by omega), z2, b2i_f h1, if_pos rfl]
        exact ⟨rfl, h⟩
  · unfold wX11_open wX12_open
    rw [toldStory_out h0]; dsimp only
    rw [if_pos rfl, isTold_out h0]
    rw [if_pos rfl]
    exact ⟨rfl, h⟩
