theorem bnd_k {v k : Nat} {z : Int32} (hk : k < 4) (hz : z.toInt < 0) : (bnd v z = nI k) = (v = k) := by
  unfold bnd
  by_cases h : v < 4
  · rw [if_pos h]; exact propext (nI_eq (by omega) (by omega))
  · rw [if_neg h]
    refine propext ⟨fun q => ?_, fun q => by omega⟩
    have := congrArg Int32.toInt q
    rw [nI_toInt (by omega)] at this
    omega
def bd2 (h : xT2) (l k : Nat) : Prop := (h 5 0).testBit l = true ∧ h 6 l = k
theorem isBoundC {o : Nat} {h : xT2} {il to : Int32} {C : xMem} (hH : HC o h il to C) (h5 : h 5 0 < 1024) {l k : Nat} (hl : l < 10) (hk : k < 4) (post : Int32 → xMem → Prop) (h1 : bd2 h l k → post 1 C) (h2 : ¬ bd2 h l k → post 0 C) : wX4_isBound o (nI l) (nI k) C post := by
  obtain ⟨a1, a2, a3, a4, a5, a6, a7, a8⟩ := hH
  unfold wX4_isBound
  rw [a2, hasC_n (by omega) hl]
  by_cases z : (h 5 0).testBit l = true
  · rw [b2i_t z, if_neg (by decide)]
    refine ⟨vl hl (by decide), ?_⟩
    rw [nI_clamp (by omega), (a8 l hl).1]
    by_cases z2 : h 6 l = k
    · rw [if_pos ((bnd_k hk (by decide)).mpr z2)]; exact h1 ⟨z, z2⟩
    · rw [if_neg (fun q => z2 ((bnd_k hk (by decide)).mp q))]; exact h2 (fun q => z2 q.2)
  · rw [b2i_f z, if_pos rfl]; exact h2 (fun q => z q.1)
theorem isBoundM {h : xT2} {il to : Int32} {M : xMem} (hH : HM h il to M) {l k : Nat} (hl : l < 10) (hk : k < 4) (post : Int32 → xMem → Prop) (h1 : bd2 h l k → post 1 M) (h2 : ¬ bd2 h l k → post 0 M) : wX12_isBound (nI l) (nI k) M post := by
  have hl2 := hH.2.1 l hl
  unfold wX12_isBound
  refine ⟨vl hl (by decide), ?_⟩
  rw [nI_clamp (by omega), hl2.1]
  by_cases z : (h 5 0).testBit l = true
  · rw [b2i_t z, if_neg (by decide)]
    refine ⟨vl hl (by decide), ?_⟩
    rw [hl2.2.1]
    by_cases z2 : h 6 l = k
    · rw [if_pos ((bnd_k hk (by decide)).mpr z2)]; exact h1 ⟨z, z2⟩
    · rw [if_neg (fun q => z2 ((bnd_k hk (by decide)).mp q))]; exact h2 (fun q => z2 q.2)
  · rw [b2i_f z, if_pos rfl]; exact h2 (fun q => z q.1)
def bdB (h : xT2) (k l : Nat) : Bool := (h 5 0).testBit l && decide (h 6 l = k)
theorem bdB_i (h : xT2) (k l : Nat) : bdB h k l = true ↔ bd2 h l k := by unfold bdB bd2; simp
theorem boundToC {o : Nat} {h : xT2} {il to : Int32} {C : xMem} (hH : HC o h il to C) (h5 : h 5 0 < 1024) {k : Nat} (hk : k < 4) (post : Int32 → xMem → Prop) (hp : post (nI (orB (bdB h k) 10)) C) : wX4_boundTo o (nI k) C post := by
  have key : ∀ (m i : Nat), i + m = 10 → wX4_boundTo_4 o post (m + 1) (nI k) (nI (orB (bdB h k) i)) (nI i) C := by
    intro m
    induction m with
    | zero =>
      intro i e
      have : i = 10 := by omega
      subst this
      rw [wX4_boundTo_4]; dsimp only
      rw [if_pos (show (10 : Int32) ≤ nI 10 by decide)]
      exact hp
    | succ m ih =>
      intro i e
      have hi : i < 10 := by omega
      have h9 := ih (i + 1) (by omega)
      unfold orB at h9
      rw [wX4_boundTo_4]; dsimp only
      unfold wX4_boundTo_25
      rw [if_neg (show ¬ (10 : Int32) ≤ nI i from nI_ge hi (by decide))]
      refine isBoundC hH h5 hi hk _ (fun q => ?_) (fun q => ?_)
      · rw [if_pos ((bdB_i h k i).mpr q)] at h9
        rw [if_neg (by decide), shl_L hi, z_or]
        simp (disch := omega) only [z_lt_t, z_lt_f, z_le_t, z_le_f, z_eq_t, z_eq_f, z_lt0, z_lt1_t, z_lt1_f, z_lt2_t, z_lt2_f, z_le1_t, z_le1_f, z_le2_t, z_le2_f, z_eq1_t, z_eq1_f, z_eq2_t, z_eq2_f, z_lt1, z_lt2, z_le1, z_le2, z_eq1, z_eq2, z_lt, z_le, z_eq, z_in, z_cl, z_cl1, z_add, z_add1, z_addm, z_sub, z_subl, z_mul, z_mull, ↓forall_eq, ↓reduceIte, true_and, and_true, not_true_eq_false, not_false_eq_true, b2i_0, b2i_1, bz_b2i, bz_0, bz_1, nar_b2i, narb_0, narb_1, ↓within_eq, ↓lies_eq, i64i, zi0, zj0, zi1, zj1, zi2, zj2, zi3, zj3, zi4, zj4, zi5, zj5, zi6, zj6, zi7, zj7, zi8, zj8, zi9, zj9, zi10, zj10, zi12, zj12, zi13, zj13, zi19, zj19, zi20, zj20, zi21, zj21, zi29, zj29, zi30, zj30, zi39, zj39, zi48, zj48, zi50, zj50, zi57, zj57, zi60, zj60, zi63, zj63, zi65, zj65, zi71, zj71, zi72, zj72, zi73, zj73, zi74, zj74, zi80, zj80, zi97, zj97, zi98, zj98, zi99, zj99, zi100, zj100, zi106, zj106, zi240, zj240, zi255, zj255, zi260, zj260, zi300, zj300, zi999, zj999, zi1000, zj1000, zi1023, zj1023, zi1024, zj1024, zi9999, zj9999, zi65535, zj65535, zi65536, zj65536, z_tn, z_m1, z_m2, z_bt, z_bf, z_10, Bool.false_eq_true]
        exact h9
      · rw [if_neg (fun z => q ((bdB_i h k i).mp z))] at h9
        rw [if_pos rfl]
        simp (disch := omega) only [z_lt_t, z_lt_f, z_le_t, z_le_f, z_eq_t, z_eq_f, z_lt0, z_lt1_t, z_lt1_f, z_lt2_t, z_lt2_f, z_le1_t, z_le1_f, z_le2_t, z_le2_f, z_eq1_t, z_eq1_f, z_eq2_t, z_eq2_f, z_lt1, z_lt2, z_le1, z_le2, z_eq1, z_eq2, z_lt, z_le, z_eq, z_in, z_cl, z_cl1, z_add, z_add1, z_addm, z_sub, z_subl, z_mul, z_mull, ↓forall_eq, ↓reduceIte, true_and, and_true, not_true_eq_false, not_false_eq_true, b2i_0, b2i_1, bz_b2i, bz_0, bz_1, nar_b2i, narb_0, narb_1, ↓within_eq, ↓lies_eq, i64i, zi0, zj0, zi1, zj1, zi2, zj2, zi3, zj3, zi4, zj4, zi5, zj5, zi6, zj6, zi7, zj7, zi8, zj8, zi9, zj9, zi10, zj10, zi12, zj12, zi13, zj13, zi19, zj19, zi20, zj20, zi21, zj21, zi29, zj29, zi30, zj30, zi39, zj39, zi48, zj48, zi50, zj50, zi57, zj57, zi60, zj60, zi63, zj63, zi65, zj65, zi71, zj71, zi72, zj72, zi73, zj73, zi74, zj74, zi80, zj80, zi97, zj97, zi98, zj98, zi99, zj99, zi100, zj100, zi106, zj106, zi240, zj240, zi255, zj255, zi260, zj260, zi300, zj300, zi999, zj999, zi1000, zj1000, zi1023, zj1023, zi1024, zj1024, zi9999, zj9999, zi65535, zj65535, zi65536, zj65536, z_tn, z_m1, z_m2, z_bt, z_bf, z_10, Bool.false_eq_true]
        exact h9
  exact ⟨11, key 10 0 rfl⟩
theorem boundSetM {h : xT2} {il to : Int32} {M : xMem} (hH : HM h il to M) {k : Nat} (hk : k < 4) (post : Int32 → xMem → Prop) (hp : post (nI (orB (bdB h k) 10)) M) : wX12_boundSet (nI k) M post := by
  have key : ∀ (m i : Nat), i + m = 10 → wX12_boundSet_4 post (m + 1) (nI k) (nI (orB (bdB h k) i)) (nI i) M := by
    intro m
    induction m with
    | zero =>
      intro i e
      have : i = 10 := by omega
      subst this
      rw [wX12_boundSet_4]; dsimp only
      rw [if_pos (show (10 : Int32) ≤ nI 10 by decide)]
      exact hp
    | succ m ih =>
      intro i e
      have hi : i < 10 := by omega
      have h9 := ih (i + 1) (by omega)
      unfold orB at h9
      rw [wX12_boundSet_4]; dsimp only
      unfold wX12_boundSet_27
      rw [if_neg (show ¬ (10 : Int32) ≤ nI i from nI_ge hi (by decide))]
      refine isBoundM hH hi hk _ (fun q => ?_) (fun q => ?_)
      · rw [if_pos ((bdB_i h k i).mpr q)] at h9
        rw [if_neg (by decide), shl_L hi, z_or]
        simp (disch := omega) only [z_lt_t, z_lt_f, z_le_t, z_le_f, z_eq_t, z_eq_f, z_lt0, z_lt1_t, z_lt1_f, z_lt2_t, z_lt2_f, z_le1_t, z_le1_f, z_le2_t, z_le2_f, z_eq1_t, z_eq1_f, z_eq2_t, z_eq2_f, z_lt1, z_lt2, z_le1, z_le2, z_eq1, z_eq2, z_lt, z_le, z_eq, z_in, z_cl, z_cl1, z_add, z_add1, z_addm, z_sub, z_subl, z_mul, z_mull, ↓forall_eq, ↓reduceIte, true_and, and_true, not_true_eq_false, not_false_eq_true, b2i_0, b2i_1, bz_b2i, bz_0, bz_1, nar_b2i, narb_0, narb_1, ↓within_eq, ↓lies_eq, i64i, zi0, zj0, zi1, zj1, zi2, zj2, zi3, zj3, zi4, zj4, zi5, zj5, zi6, zj6, zi7, zj7, zi8, zj8, zi9, zj9, zi10, zj10, zi12, zj12, zi13, zj13, zi19, zj19, zi20, zj20, zi21, zj21, zi29, zj29, zi30, zj30, zi39, zj39, zi48, zj48, zi50, zj50, zi57, zj57, zi60, zj60, zi63, zj63, zi65, zj65, zi71, zj71, zi72, zj72, zi73, zj73, zi74, zj74, zi80, zj80, zi97, zj97, zi98, zj98, zi99, zj99, zi100, zj100, zi106, zj106, zi240, zj240, zi255, zj255, zi260, zj260, zi300, zj300, zi999, zj999, zi1000, zj1000, zi1023, zj1023, zi1024, zj1024, zi9999, zj9999, zi65535, zj65535, zi65536, zj65536, z_tn, z_m1, z_m2, z_bt, z_bf, z_10, Bool.false_eq_true]
        exact h9
      · rw [if_neg (fun z => q ((bdB_i h k i).mp z))] at h9
        rw [if_pos rfl, show (0 : Int32) = nI 0 from rfl, z_or, Nat.or_zero]
        simp (disch := omega) only [z_lt_t, z_lt_f, z_le_t, z_le_f, z_eq_t, z_eq_f, z_lt0, z_lt1_t, z_lt1_f, z_lt2_t, z_lt2_f, z_le1_t, z_le1_f, z_le2_t, z_le2_f, z_eq1_t, z_eq1_f, z_eq2_t, z_eq2_f, z_lt1, z_lt2, z_le1, z_le2, z_eq1, z_eq2, z_lt, z_le, z_eq, z_in, z_cl, z_cl1, z_add, z_add1, z_addm, z_sub, z_subl, z_mul, z_mull, ↓forall_eq, ↓reduceIte, true_and, and_true, not_true_eq_false, not_false_eq_true, b2i_0, b2i_1, bz_b2i, bz_0, bz_1, nar_b2i, narb_0, narb_1, ↓within_eq, ↓lies_eq, i64i, zi0, zj0, zi1, zj1, zi2, zj2, zi3, zj3, zi4, zj4, zi5, zj5, zi6, zj6, zi7, zj7, zi8, zj8, zi9, zj9, zi10, zj10, zi12, zj12, zi13, zj13, zi19, zj19, zi20, zj20, zi21, zj21, zi29, zj29, zi30, zj30, zi39, zj39, zi48, zj48, zi50, zj50, zi57, zj57, zi60, zj60, zi63, zj63, zi65, zj65, zi71, zj71, zi72, zj72, zi73, zj73, zi74, zj74, zi80, zj80, zi97, zj97, zi98, zj98, zi99, zj99, zi100, zj100, zi106, zj106, zi240, zj240, zi255, zj255, zi260, zj260, zi300, zj300, zi999, zj999, zi1000, zj1000, zi1023, zj1023, zi1024, zj1024, zi9999, zj9999, zi65535, zj65535, zi65536, zj65536, z_tn, z_m1, z_m2, z_bt, z_bf, z_10, Bool.false_eq_true]
        exact h9
  exact ⟨11, key 10 0 rfl⟩
theorem askC_cnt {c i : Nat} (h : cntC c i) : askC 18 c i ∧ askC 25 c i := by
  unfold cntC lawC at h
  unfold askC
  omega
theorem askM_cnt {c i : Nat} (h : cntM c i) : askM c i := by
  unfold cntM at h
  unfold askM
  omega
theorem i6 {a : Int32} (n : Nat) : a = nI n ∨ ¬ a = nI n := Classical.em _
theorem endIs_ok {LL : xMem → xMem → Prop} (hLL : LLc LL) (hS : LSem LL) (a0 a1 : Int32) (C M : xMem) (h : RRL LL C M) : wX11_endIs a0 a1 C (fun r C' => wX12_endIs a0 a1 M (fun r' M' => r = r' ∧ RRL LL C' M')) := by
  obtain ⟨⟨S, e, hl, hk, il, to, il2, to2, kp, tn, t, hR⟩, hL⟩ := id h
  obtain ⟨V, W, oV, oW, sC, sC2, sM, sM2⟩ := hS C M hL
  obtain ⟨wE, rE, rE2⟩ := hR.2.1
  obtain ⟨wH, tL, rH, rH2⟩ := hR.2.2.1
  have x1 := hR.2.2.2.2.2.1
  unfold wX11_endIs
  by_cases h0 : 0 ≤ a0.toInt ∧ a0.toInt ≤ 9
  rotate_left
  · rw [isTold2_o h0, if_pos rfl]
    unfold wX12_endIs
    dsimp only
    rw [isThere_out h0, if_pos rfl]
    exact ⟨rfl, h⟩
  obtain ⟨x, hx9, rfl⟩ := at_n (a := a0) (n := 9) h0 (by decide)
  have hx : x < 10 := by omega
  have hE := wE.2 x hx
  have rEx := rE.2 x hx
  have mEx := rE2 x hx
  have rHx := rH.2.2.2.2.2.2.2 x hx
  have mHx := rH2.2.1 x hx
  rw [isTold2_eq rE.1 wE.1 hx]
  by_cases tb : (e 0 0).testBit x = true
  rotate_left
  · rw [b2i_f tb, if_pos rfl]
    unfold wX12_endIs
    dsimp only
    rw [isThere_eq mEx.1 hx, b2i_f tb, if_pos rfl]
    exact ⟨rfl, h⟩
  rw [b2i_t tb, if_neg (by decide)]
  have key : ∀ C' : xMem, (∀ c i, cntC c i → gi C' c i = gi C c i) → ∀ r : Int32, (if a1 = 0 then r = nI (e 1 x) else if a1 = 1 then r = nI (e 2 x) else if a1 = 2 then r = nI (hl 9 x) else if a1 = 3 then r = nI (e 3 x) else if a1 = 4 then r = nI (V 1 (eV e hl x)) else if a1 = 5 then r = nI (V 5 (eV e hl x)) else r = -1) → wX12_endIs (nI x) a1 M (fun r' M' => r = r' ∧ RRL LL C' M') := by
    intro C' fC r hr
    have fin : ∀ M' : xMem, (∀ c i, askM c i → gi M' c i = gi M c i) → RRL LL C' M' := fun M' hM' => RRL_fr hLL h fC (fun c i hc => hM' c i (askM_cnt hc))
    have fin0 := fin M (fun _ _ _ => rfl)
    unfold wX12_endIs
    rw [isThere_eq mEx.1 hx, b2i_t tb, if_neg (by decide)]
    by_cases c0 : a1 = 0
    · rw [if_pos c0] at hr ⊢
      refine ⟨vl hx (by decide), ?_⟩
      rw [nI_clamp (by omega), mEx.2.1]; exact ⟨hr, fin0⟩
    rw [if_neg c0] at hr ⊢
    by_cases c1 : a1 = 1
    · rw [if_pos c1] at hr ⊢
      refine ⟨vl hx (by decide), ?_⟩
      rw [nI_clamp (by omega), mEx.2.2.1]; exact ⟨hr, fin0⟩
    rw [if_neg c1] at hr ⊢
    by_cases c2 : a1 = 2
    · rw [if_pos c2] at hr ⊢
      refine ⟨vl hx (by decide), ?_⟩
      rw [nI_clamp (by omega), mHx.2.2.2.2]; exact ⟨hr, fin0⟩
    rw [if_neg c2] at hr ⊢
    by_cases c3 : a1 = 3
    · rw [if_pos c3] at hr ⊢
      refine ⟨vl hx (by decide), ?_⟩
      rw [nI_clamp (by omega), mEx.2.2.2]; exact ⟨hr, fin0⟩
    rw [if_neg c3] at hr ⊢
    by_cases c4 : a1 = 4
    · rw [if_pos c4] at hr ⊢
      exact costM sM x1 rH2 rE2 hx hE.1 _ (fun M' hM' => ⟨hr, fin M' hM'⟩)
    rw [if_neg c4] at hr ⊢
    by_cases c5 : a1 = 5
    · rw [if_pos c5] at hr ⊢
      exact forgeM sM x1 rH2 rE2 hx hE.1 _ (fun M' hM' => ⟨hr, fin M' hM'⟩)
    rw [if_neg c5] at hr ⊢
    exact ⟨hr, fin0⟩
  have kk := key C (fun _ _ _ => rfl)
  have oko : okO 49 18 := by unfold okO; omega
  by_cases c0 : a1 = 0
  · rw [if_pos c0]
    refine ⟨vl hx (by decide), ?_⟩
    rw [nI_clamp (by omega), rEx.1]; exact kk _ (by rw [if_pos c0])
  rw [if_neg c0]
  by_cases c1 : a1 = 1
  · rw [if_pos c1]
    refine ⟨vl hx (by decide), ?_⟩
    rw [nI_clamp (by omega), rEx.2.1]; exact kk _ (by rw [if_neg c0, if_pos c1])
  rw [if_neg c1]
  by_cases c2 : a1 = 2
  · rw [if_pos c2]
    refine ⟨vl hx (by decide), ?_⟩
    rw [nI_clamp (by omega), show gi C 57 x = nI (hl 9 x) from rHx.2.2.2]; exact kk _ (by rw [if_neg c0, if_neg c1, if_pos c2])
  rw [if_neg c2]
  by_cases c3 : a1 = 3
  · rw [if_pos c3]
    refine ⟨vl hx (by decide), ?_⟩
    rw [nI_clamp (by omega), rEx.2.2]; exact kk _ (by rw [if_neg c0, if_neg c1, if_neg c2, if_pos c3])
  rw [if_neg c3]
  by_cases c4 : a1 = 4
  · rw [if_pos c4]
    exact askEC oko sC rH rE hx hE.1 (kind := 1) (by omega) _ (fun C' hC' => key C' (fun c i hc => hC' c i (askC_cnt hc).1) _ (by rw [if_neg c0, if_neg c1, if_neg c2, if_neg c3, if_pos c4]))
  rw [if_neg c4]
  by_cases c5 : a1 = 5
  · rw [if_pos c5]
    exact askEC oko sC rH rE hx hE.1 (kind := 5) (by omega) _ (fun C' hC' => key C' (fun c i hc => hC' c i (askC_cnt hc).1) _ (by rw [if_neg c0, if_neg c1, if_neg c2, if_neg c3, if_neg c4, if_pos c5]))
  rw [if_neg c5]
  exact kk _ (by rw [if_neg c0, if_neg c1, if_neg c2, if_neg c3, if_neg c4, if_neg c5])
theorem tellerIs_ok {LL : xMem → xMem → Prop} (hLL : LLc LL) (hS : LSem LL) (a0 a1 : Int32) (C M : xMem) (h : RRL LL C M) : wX11_tellerIs a0 a1 C (fun r C' => wX12_tellerIs a0 a1 M (fun r' M' => r = r' ∧ RRL LL C' M')) := by
  obtain ⟨⟨S, e, hl, hk, il, to, il2, to2, kp, tn, t, hR⟩, hL⟩ := id h
  obtain ⟨V, W, oV, oW, sC, sC2, sM, sM2⟩ := hS C M hL
  obtain ⟨wH, tL, rH, rH2⟩ := hR.2.2.1
  have x1 := hR.2.2.2.2.2.1
  unfold wX11_tellerIs
  rw [within_eq, zi0, zi3]
  by_cases h0 : 0 ≤ a0.toInt ∧ a0.toInt ≤ 3
  rotate_left
  · rw [b2i_f h0, if_pos rfl]
    unfold wX12_tellerIs
    dsimp only
    rw [isTelling_out h0, if_pos rfl]
    exact ⟨rfl, h⟩
  rw [b2i_t h0, if_neg (by decide)]
  obtain ⟨k, hk3, rfl⟩ := at_n (a := a0) (n := 3) h0 (by decide)
  have hk4 : k < 4 := by omega
  have wk := wH.2.2.2.2.1 k hk4
  have rHx := rH.2.2.2.2.2.2.1 k hk4
  have mHx := rH2.1 k hk4
  have w0 := wH.1
  rw [rH.1, hasC_n (by omega) (by omega)]
  by_cases tb : (hl 0 0).testBit k = true
  rotate_left
  · rw [b2i_f tb, if_pos rfl]
    unfold wX12_tellerIs
    dsimp only
    rw [isTelling_eq mHx.1 hk4, b2i_f tb, if_pos rfl]
    exact ⟨rfl, h⟩
  rw [b2i_t tb, if_neg (by decide)]
  have key : ∀ C' : xMem, (∀ c i, cntC c i → gi C' c i = gi C c i) → ∀ r : Int32, (if a1 = 0 then r = nI (hl 1 k) else if a1 = 1 then r = nI (hl 2 k) else if a1 = 2 then r = nI (hl 3 k) else if a1 = 3 then r = nI (hl 4 k) else if a1 = 4 then r = nI (orB (bdB hl k) 10) else if a1 = 5 then r = nI (V 0 (tV hl k)) else r = -1) → wX12_tellerIs (nI k) a1 M (fun r' M' => r = r' ∧ RRL LL C' M') := by
    intro C' fC r hr
    have fin : ∀ M' : xMem, (∀ c i, askM c i → gi M' c i = gi M c i) → RRL LL C' M' := fun M' hM' => RRL_fr hLL h fC (fun c i hc => hM' c i (askM_cnt hc))
    have fin0 := fin M (fun _ _ _ => rfl)
    unfold wX12_tellerIs
    rw [isTelling_eq mHx.1 hk4, b2i_t tb, if_neg (by decide)]
    by_cases c0 : a1 = 0
    · rw [if_pos c0] at hr ⊢
      refine ⟨vl hk4 (by decide), ?_⟩
      rw [nI_clamp (by omega), mHx.2.1]; exact ⟨hr, fin0⟩
    rw [if_neg c0] at hr ⊢
    by_cases c1 : a1 = 1
    · rw [if_pos c1] at hr ⊢
      refine ⟨vl hk4 (by decide), ?_⟩
      rw [nI_clamp (by omega), mHx.2.2.1]; exact ⟨hr, fin0⟩
    rw [if_neg c1] at hr ⊢
    by_cases c2 : a1 = 2
    · rw [if_pos c2] at hr ⊢
      refine ⟨vl hk4 (by decide), ?_⟩
      rw [nI_clamp (by omega), mHx.2.2.2.1]; exact ⟨hr, fin0⟩
    rw [if_neg c2] at hr ⊢
    by_cases c3 : a1 = 3
    · rw [if_pos c3] at hr ⊢
      refine ⟨vl hk4 (by decide), ?_⟩
      rw [nI_clamp (by omega), mHx.2.2.2.2]; exact ⟨hr, fin0⟩
    rw [if_neg c3] at hr ⊢
    by_cases c4 : a1 = 4
    · rw [if_pos c4] at hr ⊢
      exact boundSetM rH2 hk4 _ ⟨hr, fin0⟩
    rw [if_neg c4] at hr ⊢
    by_cases c5 : a1 = 5
    · rw [if_pos c5] at hr ⊢
      exact speedM sM x1 rH2 hk4 wk.2.2.2.1 _ (fun M' hM' => ⟨hr, fin M' hM'⟩)
    rw [if_neg c5] at hr ⊢
    exact ⟨hr, fin0⟩
  have kk := key C (fun _ _ _ => rfl)
  have oko : okO 49 18 := by unfold okO; omega
  by_cases c0 : a1 = 0
  · rw [if_pos c0]
    refine ⟨vl hk4 (by decide), ?_⟩
    rw [nI_clamp (by omega), show gi C 50 k = nI (hl 1 k) from rHx.1]; exact kk _ (by rw [if_pos c0])
  rw [if_neg c0]
  by_cases c1 : a1 = 1
  · rw [if_pos c1]
    refine ⟨vl hk4 (by decide), ?_⟩
    rw [nI_clamp (by omega), show gi C 51 k = nI (hl 2 k) from rHx.2.1]; exact kk _ (by rw [if_neg c0, if_pos c1])
  rw [if_neg c1]
  by_cases c2 : a1 = 2
  · rw [if_pos c2]
    refine ⟨vl hk4 (by decide), ?_⟩
    rw [nI_clamp (by omega), show gi C 52 k = nI (hl 3 k) from rHx.2.2.1]; exact kk _ (by rw [if_neg c0, if_neg c1, if_pos c2])
  rw [if_neg c2]
  by_cases c3 : a1 = 3
  · rw [if_pos c3]
    refine ⟨vl hk4 (by decide), ?_⟩
    rw [nI_clamp (by omega), show gi C 53 k = nI (hl 4 k) from rHx.2.2.2]; exact kk _ (by rw [if_neg c0, if_neg c1, if_neg c2, if_pos c3])
  rw [if_neg c3]
  by_cases c4 : a1 = 4
  · rw [if_pos c4]
    exact boundToC rH wH.2.1 hk4 _ (kk _ (by rw [if_neg c0, if_neg c1, if_neg c2, if_neg c3, if_pos c4]))
  rw [if_neg c4]
  by_cases c5 : a1 = 5
  · rw [if_pos c5]
    exact askTC oko sC rH hk4 wk.2.2.2.1 (kind := 0) (by omega) _ (fun C' hC' => key C' (fun c i hc => hC' c i (askC_cnt hc).1) _ (by rw [if_neg c0, if_neg c1, if_neg c2, if_neg c3, if_neg c4, if_pos c5]))
  rw [if_neg c5]
  exact kk _ (by rw [if_neg c0, if_neg c1, if_neg c2, if_neg c3, if_neg c4, if_neg c5])
