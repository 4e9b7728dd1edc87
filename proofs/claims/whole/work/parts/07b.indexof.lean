theorem sxl_none (c : Int32) : ∀ (l : List Int32) (k : Nat), (∀ b ∈ l, ¬ b = c) → sxl c l k = -1
  | [], _, _ => rfl
  | b :: r, k, h => by
    unfold sxl
    rw [if_neg (h b List.mem_cons_self)]
    exact sxl_none c r (k + 1) (fun b hb => h b (List.mem_cons_of_mem _ hb))
theorem sg_small : ∀ i : Fin 7, ∀ b ∈ sg_byt.getD i.1 [], 0 ≤ b ∧ b ≤ 127 := by decide +kernel
theorem sg_lens : ∀ i : Fin 7, (sg_byt.getD i.1 []).length = sg_len.getD i.1 0 ∧ 0 < sg_len.getD i.1 0 ∧ sg_len.getD i.1 0 < 100 := by decide +kernel
theorem sx_low : ∀ i : Fin 7, ∀ j : Fin 256, sxl ((nI j.1).toInt8.toInt32) (sg_byt.getD i.1 []) 0 = sxl (nI j.1) (sg_byt.getD i.1 []) 0 := by decide +kernel
theorem ix_loop {i : Nat} (post : Int32 → xMem → Prop) (M : xMem) (x4 : Int32) (L : Nat) (hL : sg_len.getD i 0 = L) (hL2 : L < 100) : ∀ (l : List Int32) (k : Nat), (sg_byt.getD i []).drop k = l → k + l.length = L → post (sxl x4 l k) M → ∃ n, wJ1_indexOfChar_4cfef_7 i post n (nI L) x4 (nI k) M := by
  intro l
  induction l with
  | nil =>
    intro k _ hk hp
    refine ⟨1, ?_⟩
    rw [wJ1_indexOfChar_4cfef_7]; dsimp only
    have e : k = L := by simpa using hk
    subst e
    rw [if_pos (Int32.le_refl _)]
    exact hp
  | cons b r ih =>
    intro k hd hk hp
    have hlen : k < L := by simp at hk; omega
    have hb : (sg_byt.getD i []).getD k 0 = b := by
      have h1 : ((sg_byt.getD i []).drop k)[0]? = some b := by rw [hd]; rfl
      rw [List.getElem?_drop] at h1
      rw [List.getD_eq_getElem?_getD]
      simp at h1
      simp [h1]
    have hr : (sg_byt.getD i []).drop (k + 1) = r := by
      rw [← List.drop_drop, hd]; rfl
    have hs : sgb i (nI k) = b := by unfold sgb; rw [nI_clamp (by omega)]; exact hb
    unfold sxl at hp
    by_cases hq : b = x4
    · refine ⟨1, ?_⟩
      rw [wJ1_indexOfChar_4cfef_7]; dsimp only
      rw [if_neg (nI_ge hlen (by omega)), hL]
      refine ⟨vp_in_nI hlen (by omega), ?_⟩
      rw [hs, if_pos hq]
      rw [if_pos hq] at hp
      exact hp
    · rw [if_neg hq] at hp
      obtain ⟨n, hn⟩ := ih (k + 1) hr (by simp at hk ⊢; omega) hp
      refine ⟨n + 1, ?_⟩
      rw [wJ1_indexOfChar_4cfef_7]; dsimp only
      rw [if_neg (nI_ge hlen (by omega)), hL]
      refine ⟨vp_in_nI hlen (by omega), ?_⟩
      rw [hs, if_neg hq]
      intro v4 e4
      rw [e4, nI_1]
      exact hn
theorem ix_all {i : Nat} (hi : i < 7) (c : Int32) (M : xMem) (post : Int32 → xMem → Prop) (hp : post (sx i c) M) : wJ0_indexOf_0f7a4 i c M post := by
  obtain ⟨l1, l2, l3⟩ := sg_lens ⟨i, hi⟩
  simp only at l1 l2 l3
  have hsh : (nI (sg_len.getD i 0)) >>> ((0 : Int32) &&& 31) = nI (sg_len.getD i 0) := by
    have key : ∀ n : Fin 100, (nI n.1) >>> ((0 : Int32) &&& 31) = nI n.1 := by decide +kernel
    exact key ⟨_, l3⟩
  unfold wJ0_indexOf_0f7a4 wJ0_indexOf_7cf53 wJ0_isLatin1_aae02
  rw [if_neg (by decide), if_pos rfl]; dsimp only
  rw [if_neg (by decide)]
  unfold wJ0_length_8abf5 wJ0_coder_7d493
  rw [if_neg (by decide)]; dsimp only
  rw [hsh]
  unfold wJ1_indexOf_4cfef wJ1_canEncode_9a6ad
  by_cases h1 : c < 0
  · rw [if_pos h1]; dsimp only
    rw [if_pos rfl]
    have e : sx i c = -1 := sxl_none c _ 0 (fun b hb e => by
      have := (sg_small ⟨i, hi⟩ b hb).1
      subst e
      exact absurd h1 (Int32.not_lt.mpr this))
    rw [← e]; exact hp
  · rw [if_neg h1]
    by_cases h2 : 255 < c
    · rw [if_pos h2]; dsimp only
      rw [if_pos rfl]
      have e : sx i c = -1 := sxl_none c _ 0 (fun b hb e => by
        have := (sg_small ⟨i, hi⟩ b hb).2
        subst e
        have h3 := Int32.lt_iff_toInt_lt.mp h2
        have h4 := Int32.le_iff_toInt_le.mp this
        have e1 : (255 : Int32).toInt = 255 := by decide
        have e2 : (127 : Int32).toInt = 127 := by decide
        omega)
      rw [← e]; exact hp
    · rw [if_neg h2]; dsimp only
      rw [if_neg (by decide)]
      obtain ⟨j, hj, rfl⟩ := nI_of2 (M := 255) (n := 255) (by decide) h1 (Int32.not_lt.mp h2)
      unfold wJ9_max_7cf53
      rw [if_neg (by decide)]; dsimp only
      unfold wJ9_min_7cf53
      rw [if_neg (fun h => by have := Int32.lt_iff_toInt_lt.mp h; omega : ¬ nI (sg_len.getD i 0) < nI (sg_len.getD i 0))]; dsimp only
      rw [if_pos (show (0 : Int32) < nI (sg_len.getD i 0) from nI_lt l2 (by omega))]
      unfold wJ1_indexOfChar_4cfef
      intro v1 e1
      have e := sx_low ⟨i, hi⟩ ⟨j, by omega⟩
      simp only at e
      refine ix_loop _ M v1 _ rfl l3 (sg_byt.getD i []) 0 rfl (by rw [Nat.zero_add]; exact l1) ?_
      rw [e1, e]
      exact hp
section XIX
variable {g : xG} {x : xCx} {cc : ByteArray} {own : String} {nl pc : Nat} {ret : Option FieldType} {rm : Room} {P : Option Value → xMem → Prop} {L L' : List (Nat × Value)} {st : List Value} {M M' : xMem}
theorem x_indexOf (hg : x_inj (WC g)) (C : xOk (WC g) x cc own nl ret rm P) {i index : Nat} {ch : Int32} (hi : i < 7) (hR : 6 ≤ rm.frames ∧ 300 ≤ rm.locals) (hrest : (st.map fun v => v.category).sum ≤ 8) (hlk : Cond.methodLink own index yJ0_indexOf_0f7a4 ∈ lw_tbl) (hdg : decode cc pc = .ok (.invokevirtual index, 3)) (k : xW (WC g) x nl (pc + 3) L (.int (sx i ch) :: st) M) : xW (WC g) x nl pc L (.int ch :: .ref (gK g i) :: st) M :=
  x_callVK C (st := st) (As := [.int ch]) (i := i) hi (tJ0_indexOf_0f7a4 hg _ i ch M (fun r M' => r = sx i ch ∧ M' = M) hi (ix_all hi ch M _ ⟨rfl, rfl⟩)) hlk wi_J0_indexOf_0f7a4 wv_J0_indexOf_0f7a4 wz_J0 wc_J0_indexOf_0f7a4 rfl yd_J0_indexOf_0f7a4 rfl ⟨rfl, rfl⟩ ⟨by show 4 ≤ rm.frames; omega, by show 8 + (2 + 11) + 70 ≤ rm.locals; omega⟩ hrest rfl hdg (x_ki (fun r M' h => by
    obtain ⟨rfl, rfl⟩ := h
    exact k))
end XIX
