/-! wouldDo() -/
theorem wouldDo_ok {LL : xMem → xMem → Prop} (a0 a1 a2 : Int32) (C M : xMem) (h : RRL LL C M) : wX11_wouldDo a0 a1 a2 C (fun r C' => wX12_wouldDo a0 a1 a2 M (fun r' M' => r = r' ∧ RRL LL C' M')) := by
  obtain ⟨⟨S, e, hl, hk, il, to, il2, to2, kp, tn, t, hR⟩, hLL⟩ := id h
  obtain ⟨wE, rE, rE2⟩ := hR.2.1
  by_cases h0 : 0 ≤ a0.toInt ∧ a0.toInt ≤ 5
  rotate_left
  · unfold wX11_wouldDo
    rw [toldStory_out h0, if_pos rfl]
    unfold wX12_wouldDo
    dsimp only
    rw [isTold_out h0, if_pos rfl]
    exact ⟨rfl, h⟩
  obtain ⟨k, hk5, rfl⟩ := at_n (n := 5) h0 (by decide)
  obtain ⟨hw, hsC, hsM⟩ := hR.1 k (by omega)
  have hl72 := hw.1
  unfold wX11_wouldDo
  refine toldStory_in (by omega) hsC.1 hw.1 _ ?_
  by_cases hn : (S k).length = 0
  · rw [if_pos hn, if_pos rfl]
    unfold wX12_wouldDo
    refine isTold_in (by omega) hsM.2.1 _ ?_
    rw [b2i_f (fun q => q (List.length_eq_zero_iff.mp hn)), if_pos rfl]
    exact ⟨rfl, h⟩
  have hne : S k ≠ [] := fun q => hn (by rw [q]; rfl)
  rw [if_neg hn, if_neg (by omega)]
  have kk : ∀ post : Int32 → xMem → Prop, wX12_wouldDo (nI k) a1 a2 M post = wX12_isThere a1 M (fun r5 M4 =>
          if r5 = 0 then (
            post (-1) M4)
          else (
            wX12_lies ((a2 : Int32).toInt64) 0 2 M4 (fun r8 M7 =>
              if r8 = 0 then (
                post (-1) M7)
              else (
                ∃ n44 : Nat, wX12_wouldDo_44 post n44 (nI k) a1 a2 0 (-2) (-2) 0 M7)))) := by
    intro post
    unfold wX12_wouldDo
    rw [isTold_eq hsM.2.1 (by omega), b2i_t hne, if_neg (by decide)]
  by_cases h1 : 0 ≤ a1.toInt ∧ a1.toInt ≤ 9
  rotate_left
  · rw [isTold2_o h1, if_pos rfl]
    dsimp only
    rw [kk, isThere_out h1, if_pos rfl]
    exact ⟨rfl, h⟩
  obtain ⟨x, hx9, rfl⟩ := at_n (a := a1) (n := 9) h1 (by decide)
  have hx : x < 10 := by omega
  rw [isTold2_eq rE.1 wE.1 hx]
  by_cases tb : (e 0 0).testBit x = true
  rotate_left
  · rw [b2i_f tb, if_pos rfl]
    dsimp only
    rw [kk, isThere_eq (rE2 x hx).1 hx, b2i_f tb, if_pos rfl]
    exact ⟨rfl, h⟩
  rw [b2i_t tb, if_neg (by decide), within_eq, zi0, show (2 : Int32).toInt = 2 by decide]
  by_cases h2 : 0 ≤ a2.toInt ∧ a2.toInt ≤ 2
  rotate_left
  · rw [b2i_f h2, if_pos rfl]
    dsimp only
    rw [kk, isThere_eq (rE2 x hx).1 hx, b2i_t tb, if_neg (by decide), lies_eq, i64i, zj0, show (2 : Int64).toInt = 2 by decide, b2i_f h2, if_pos rfl]
    exact ⟨rfl, h⟩
  rw [b2i_t h2, if_neg (by decide)]
  have hE := (wE.2 x hx).1
  refine ⟨(S k).length + 1, ?_⟩
  refine wdC (ts := S k) (o := 3 + 2 * k) (e := x) (th := e 1 x) hw hsC.1 hsC.2.1 hx hE (rE.2 x hx).1 a2 _ ?_ (S k).length 0 (by omega) (by omega)
  rw [kk, isThere_eq (rE2 x hx).1 hx, b2i_t tb, if_neg (by decide), lies_eq, i64i, zj0, show (2 : Int64).toInt = 2 by decide, b2i_t h2, if_neg (by decide)]
  refine ⟨(S k).length + 1 + 1, ?_⟩
  rw [wX12_wouldDo_44]; dsimp only
  refine ⟨vp_in_nI (by omega) (by decide), ?_⟩
  rw [nI_clamp (by omega), hsM.1, if_neg (show ¬ nI (S k).length < 0 from nI_nlt (Nat.zero_le (S k).length) (by omega))]
  refine openBehindM (k := k) (ts := S k) (s := 0) (j := 0) (by omega) hw hsM.2.2 (by omega) (by omega) _ ?_
  rw [if_pos (show nI (List.foldl trn 0 ((S k).take 0)) = 0 from rfl)]
  intro v1 e1
  subst e1
  exact wdM (k := k) (ts := S k) (e := x) (th := e 1 x) (by omega) hw hsM.1 hsM.2.2 hx hE (rE2 x hx).2.1 a2 _ ⟨rfl, h⟩ (S k).length 0 (by omega) (by omega)
