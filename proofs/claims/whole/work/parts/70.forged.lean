/-! forged() -/
theorem nI_m1 {n : Nat} (h : n < 2 ^ 31) : ¬ nI n = -1 := fun z => by
  have h1 := congrArg Int32.toInt z
  rw [nI_toInt h] at h1
  have h2 : (-1 : Int32).toInt = -1 := by decide
  omega
def lb (n : Nat) : Nat := ((List.range 10).find? (fun k => n.testBit k)).getD 10
theorem lb_all {n : Nat} (h : n < 1024) (h0 : 1 ≤ n) : lb n < 10 ∧ n.testBit (lb n) = true ∧ (∀ i, i < lb n → n.testBit i = false) ∧ nI n &&& -(nI n) = nI (2 ^ lb n) := by
  have key : ∀ n : Fin 1024, 1 ≤ n.1 → lb n.1 < 10 ∧ n.1.testBit (lb n.1) = true ∧ (∀ i : Fin 10, i.1 < lb n.1 → n.1.testBit i.1 = false) ∧ nI n.1 &&& -(nI n.1) = nI (2 ^ lb n.1) := by decide +kernel
  obtain ⟨a, b, c, d⟩ := key ⟨n, h⟩ h0
  have a' : lb n < 10 := a
  exact ⟨a, b, fun i hi => c ⟨i, by omega⟩ hi, d⟩
theorem lowM_lb {n : Nat} (h : n < 1024) (h0 : 1 ≤ n) {M : xMem} (post : Int32 → xMem → Prop) (hp : post (nI (lb n)) M) : wX12_lowestOf (nI n) M post := by
  obtain ⟨a, b, c, d⟩ := lb_all h h0
  exact lowM h b c post hp
theorem pc_add {a n : Nat} (hn : n < 10) (ha : a < 2 ^ n) : pc (a ||| 2 ^ n) = pc a + 1 := by
  have key : ∀ n : Fin 10, ∀ a : Fin 1024, a.1 < 2 ^ n.1 → pc (a.1 ||| 2 ^ n.1) = pc a.1 + 1 := by decide +kernel
  have : 2 ^ n ≤ 512 := Nat.pow_le_pow_right (n := 2) (by omega) (show n ≤ 9 by omega)
  exact key ⟨n, hn⟩ ⟨a, by omega⟩ ha
def cntB (p : Nat → Bool) : Nat → Nat
  | 0 => 0
  | n + 1 => cntB p n + (if p n = true then 1 else 0)
theorem pc_orB {p : Nat → Bool} : ∀ n, n ≤ 10 → pc (orB p n) = cntB p n := by
  intro n
  induction n with
  | zero => intro _; exact (by decide : pc 0 = 0)
  | succ n ih =>
    intro h
    unfold orB cntB
    by_cases q : p n = true
    · rw [if_pos q, if_pos q, pc_add (by omega) (orB_lt p n), ih (by omega)]
    · rw [if_neg q, if_neg q, ih (by omega)]; rfl
theorem cntB_le (p : Nat → Bool) : ∀ n, cntB p n ≤ n := by
  intro n
  induction n with
  | zero => exact Nat.le_refl _
  | succ n ih => unfold cntB; split <;> omega
/-- the ends of given ones that may be forged: 10 smelt is none of these -/
def mb (e : xT2) (sn sm k : Nat) : Bool := if sm = 10 then !(sn.testBit (lb (e 1 k))) else decide (lb (e 1 k) = sm)
def lf (e : xT2) (g sn sm : Nat) : Nat := orB (fun k => g.testBit k && mb e sn sm k) 10
def sm32 (sm : Nat) : Int32 := if sm = 10 then -1 else nI sm
def gTold (e : xT2) (g : Nat) : Prop := ∀ k, k < 10 → g.testBit k = true → (e 0 0).testBit k = true
theorem leftC {e : xT2} {C : xMem} (wE : wfE e) (h : EC e C) {g sn sm : Nat} (hg : g < 1024) (hs : sn < 1024) (hm : sm ≤ 10) (ht : gTold e g) (post : Int32 → xMem → Prop) (hp : post (nI (lf e g sn sm)) C) : wX2_leftOf (nI g) (nI sn) (sm32 sm) C post := by
  have key : ∀ (m i : Nat), i + m = 10 → wX2_leftOf_6 post (m + 1) (nI g) (nI sn) (sm32 sm) (nI (orB (fun k => g.testBit k && mb e sn sm k) i)) (nI i) C := by
    intro m
    induction m with
    | zero =>
      intro i q
      have : i = 10 := by omega
      subst this
      rw [wX2_leftOf_6]; dsimp only
      simp (disch := omega) only [z_lt_t, z_lt_f, z_le_t, z_le_f, z_eq_t, z_eq_f, z_lt0, z_lt1_t, z_lt1_f, z_lt2_t, z_lt2_f, z_le1_t, z_le1_f, z_le2_t, z_le2_f, z_eq1_t, z_eq1_f, z_eq2_t, z_eq2_f, z_lt1, z_lt2, z_le1, z_le2, z_eq1, z_eq2, z_lt, z_le, z_eq, z_in, z_cl, z_cl1, z_add, z_add1, z_addm, z_sub, z_subl, z_mul, z_mull, ↓forall_eq, ↓reduceIte, true_and, and_true, not_true_eq_false, not_false_eq_true, b2i_0, b2i_1, bz_b2i, bz_0, bz_1, nar_b2i, narb_0, narb_1, ↓within_eq, ↓lies_eq, i64i, zi0, zj0, zi1, zj1, zi2, zj2, zi3, zj3, zi4, zj4, zi5, zj5, zi6, zj6, zi7, zj7, zi8, zj8, zi9, zj9, zi10, zj10, zi12, zj12, zi13, zj13, zi19, zj19, zi20, zj20, zi21, zj21, zi29, zj29, zi30, zj30, zi39, zj39, zi48, zj48, zi50, zj50, zi57, zj57, zi60, zj60, zi63, zj63, zi65, zj65, zi71, zj71, zi72, zj72, zi73, zj73, zi74, zj74, zi80, zj80, zi97, zj97, zi98, zj98, zi99, zj99, zi100, zj100, zi106, zj106, zi240, zj240, zi255, zj255, zi260, zj260, zi300, zj300, zi999, zj999, zi1000, zj1000, zi1023, zj1023, zi1024, zj1024, zi9999, zj9999, zi65535, zj65535, zi65536, zj65536, z_tn, z_m1, z_m2, z_bt, z_bf, z_10, Bool.false_eq_true]
      exact hp
    | succ m ih =>
      intro i q
      have hi : i < 10 := by omega
      have h9 := ih (i + 1) (by omega)
      unfold orB at h9
      have hE := wE.2 i hi
      rw [wX2_leftOf_6]; dsimp only
      have fin : ∀ s0 : Int32, (g.testBit i = true → (s0 = 0 ↔ mb e sn sm i = false)) → wX2_leftOf_56 (wX2_leftOf_6 post (m + 1)) post (nI g) (nI sn) (sm32 sm) (nI (orB (fun k => g.testBit k && mb e sn sm k) i)) (nI i) s0 C := by
        intro s0 hs0
        unfold wX2_leftOf_56 wX2_leftOf_81
        rw [hasC_n (by omega) hi]
        by_cases t : g.testBit i = true
        · rw [b2i_t t, if_neg (by decide)]
          by_cases t2 : mb e sn sm i = true
          · rw [if_neg (fun z => by rw [(hs0 t).mp z] at t2; cases t2)]
            rw [if_pos (by rw [t, t2]; rfl)] at h9
            intro v5 e5
            subst e5
            rw [z_shl (by omega), z_or]
            simp (disch := omega) only [z_lt_t, z_lt_f, z_le_t, z_le_f, z_eq_t, z_eq_f, z_lt0, z_lt1_t, z_lt1_f, z_lt2_t, z_lt2_f, z_le1_t, z_le1_f, z_le2_t, z_le2_f, z_eq1_t, z_eq1_f, z_eq2_t, z_eq2_f, z_lt1, z_lt2, z_le1, z_le2, z_eq1, z_eq2, z_lt, z_le, z_eq, z_in, z_cl, z_cl1, z_add, z_add1, z_addm, z_sub, z_subl, z_mul, z_mull, ↓forall_eq, ↓reduceIte, true_and, and_true, not_true_eq_false, not_false_eq_true, b2i_0, b2i_1, bz_b2i, bz_0, bz_1, nar_b2i, narb_0, narb_1, ↓within_eq, ↓lies_eq, i64i, zi0, zj0, zi1, zj1, zi2, zj2, zi3, zj3, zi4, zj4, zi5, zj5, zi6, zj6, zi7, zj7, zi8, zj8, zi9, zj9, zi10, zj10, zi12, zj12, zi13, zj13, zi19, zj19, zi20, zj20, zi21, zj21, zi29, zj29, zi30, zj30, zi39, zj39, zi48, zj48, zi50, zj50, zi57, zj57, zi60, zj60, zi63, zj63, zi65, zj65, zi71, zj71, zi72, zj72, zi73, zj73, zi74, zj74, zi80, zj80, zi97, zj97, zi98, zj98, zi99, zj99, zi100, zj100, zi106, zj106, zi240, zj240, zi255, zj255, zi260, zj260, zi300, zj300, zi999, zj999, zi1000, zj1000, zi1023, zj1023, zi1024, zj1024, zi9999, zj9999, zi65535, zj65535, zi65536, zj65536, z_tn, z_m1, z_m2, z_bt, z_bf, z_10, Bool.false_eq_true]
            exact h9
          · rw [if_pos ((hs0 t).mpr (by simpa using t2))]
            rw [if_neg (by rw [t]; simpa using t2)] at h9
            simp (disch := omega) only [z_lt_t, z_lt_f, z_le_t, z_le_f, z_eq_t, z_eq_f, z_lt0, z_lt1_t, z_lt1_f, z_lt2_t, z_lt2_f, z_le1_t, z_le1_f, z_le2_t, z_le2_f, z_eq1_t, z_eq1_f, z_eq2_t, z_eq2_f, z_lt1, z_lt2, z_le1, z_le2, z_eq1, z_eq2, z_lt, z_le, z_eq, z_in, z_cl, z_cl1, z_add, z_add1, z_addm, z_sub, z_subl, z_mul, z_mull, ↓forall_eq, ↓reduceIte, true_and, and_true, not_true_eq_false, not_false_eq_true, b2i_0, b2i_1, bz_b2i, bz_0, bz_1, nar_b2i, narb_0, narb_1, ↓within_eq, ↓lies_eq, i64i, zi0, zj0, zi1, zj1, zi2, zj2, zi3, zj3, zi4, zj4, zi5, zj5, zi6, zj6, zi7, zj7, zi8, zj8, zi9, zj9, zi10, zj10, zi12, zj12, zi13, zj13, zi19, zj19, zi20, zj20, zi21, zj21, zi29, zj29, zi30, zj30, zi39, zj39, zi48, zj48, zi50, zj50, zi57, zj57, zi60, zj60, zi63, zj63, zi65, zj65, zi71, zj71, zi72, zj72, zi73, zj73, zi74, zj74, zi80, zj80, zi97, zj97, zi98, zj98, zi99, zj99, zi100, zj100, zi106, zj106, zi240, zj240, zi255, zj255, zi260, zj260, zi300, zj300, zi999, zj999, zi1000, zj1000, zi1023, zj1023, zi1024, zj1024, zi9999, zj9999, zi65535, zj65535, zi65536, zj65536, z_tn, z_m1, z_m2, z_bt, z_bf, z_10, Bool.false_eq_true]
            exact h9
        · rw [b2i_f t, if_pos rfl]
          rw [if_neg (by simp [t])] at h9
          simp (disch := omega) only [z_lt_t, z_lt_f, z_le_t, z_le_f, z_eq_t, z_eq_f, z_lt0, z_lt1_t, z_lt1_f, z_lt2_t, z_lt2_f, z_le1_t, z_le1_f, z_le2_t, z_le2_f, z_eq1_t, z_eq1_f, z_eq2_t, z_eq2_f, z_lt1, z_lt2, z_le1, z_le2, z_eq1, z_eq2, z_lt, z_le, z_eq, z_in, z_cl, z_cl1, z_add, z_add1, z_addm, z_sub, z_subl, z_mul, z_mull, ↓forall_eq, ↓reduceIte, true_and, and_true, not_true_eq_false, not_false_eq_true, b2i_0, b2i_1, bz_b2i, bz_0, bz_1, nar_b2i, narb_0, narb_1, ↓within_eq, ↓lies_eq, i64i, zi0, zj0, zi1, zj1, zi2, zj2, zi3, zj3, zi4, zj4, zi5, zj5, zi6, zj6, zi7, zj7, zi8, zj8, zi9, zj9, zi10, zj10, zi12, zj12, zi13, zj13, zi19, zj19, zi20, zj20, zi21, zj21, zi29, zj29, zi30, zj30, zi39, zj39, zi48, zj48, zi50, zj50, zi57, zj57, zi60, zj60, zi63, zj63, zi65, zj65, zi71, zj71, zi72, zj72, zi73, zj73, zi74, zj74, zi80, zj80, zi97, zj97, zi98, zj98, zi99, zj99, zi100, zj100, zi106, zj106, zi240, zj240, zi255, zj255, zi260, zj260, zi300, zj300, zi999, zj999, zi1000, zj1000, zi1023, zj1023, zi1024, zj1024, zi9999, zj9999, zi65535, zj65535, zi65536, zj65536, z_tn, z_m1, z_m2, z_bt, z_bf, z_10, Bool.false_eq_true]
          exact h9
      have tl : g.testBit i = true → 1 ≤ e 1 i := fun t => hE.2.1 (ht i hi t)
      simp (disch := omega) only [z_lt_t, z_lt_f, z_le_t, z_le_f, z_eq_t, z_eq_f, z_lt0, z_lt1_t, z_lt1_f, z_lt2_t, z_lt2_f, z_le1_t, z_le1_f, z_le2_t, z_le2_f, z_eq1_t, z_eq1_f, z_eq2_t, z_eq2_f, z_lt1, z_lt2, z_le1, z_le2, z_eq1, z_eq2, z_lt, z_le, z_eq, z_in, z_cl, z_cl1, z_add, z_add1, z_addm, z_sub, z_subl, z_mul, z_mull, ↓forall_eq, ↓reduceIte, true_and, and_true, not_true_eq_false, not_false_eq_true, b2i_0, b2i_1, bz_b2i, bz_0, bz_1, nar_b2i, narb_0, narb_1, ↓within_eq, ↓lies_eq, i64i, zi0, zj0, zi1, zj1, zi2, zj2, zi3, zj3, zi4, zj4, zi5, zj5, zi6, zj6, zi7, zj7, zi8, zj8, zi9, zj9, zi10, zj10, zi12, zj12, zi13, zj13, zi19, zj19, zi20, zj20, zi21, zj21, zi29, zj29, zi30, zj30, zi39, zj39, zi48, zj48, zi50, zj50, zi57, zj57, zi60, zj60, zi63, zj63, zi65, zj65, zi71, zj71, zi72, zj72, zi73, zj73, zi74, zj74, zi80, zj80, zi97, zj97, zi98, zj98, zi99, zj99, zi100, zj100, zi106, zj106, zi240, zj240, zi255, zj255, zi260, zj260, zi300, zj300, zi999, zj999, zi1000, zj1000, zi1023, zj1023, zi1024, zj1024, zi9999, zj9999, zi65535, zj65535, zi65536, zj65536, z_tn, z_m1, z_m2, z_bt, z_bf, z_10, Bool.false_eq_true, (h.2 i hi).1]
      by_cases s : sm = 10
      · have hm1 : sm32 sm = -1 := if_pos s
        rw [if_neg (by rw [hm1]; decide)]
        by_cases z : (nI (e 1 i) &&& -nI (e 1 i)) &&& nI sn = 0
        · rw [if_pos z]
          refine fin 1 (fun t => ?_)
          obtain ⟨l1, l2, l3, l4⟩ := lb_all hE.1 (tl t)
          rw [l4, z_and] at z
          have z2 : 2 ^ lb (e 1 i) &&& sn = 0 := by
            have hle : 2 ^ lb (e 1 i) &&& sn ≤ sn := Nat.and_le_right
            exact (n0_n (by omega)).mp z
          constructor
          · intro q; exact absurd q (by decide)
          · intro q
            exfalso
            have q2 : sn.testBit (lb (e 1 i)) = true := by simpa [mb, s] using q
            have : (2 ^ lb (e 1 i) &&& sn).testBit (lb (e 1 i)) = true := by rw [Nat.testBit_and, q2, Nat.testBit_two_pow]; simp
            rw [z2, Nat.zero_testBit] at this
            cases this
        · rw [if_neg z]
          refine fin 0 (fun t => ?_)
          obtain ⟨l1, l2, l3, l4⟩ := lb_all hE.1 (tl t)
          rw [l4, z_and] at z
          constructor
          · intro _
            have : sn.testBit (lb (e 1 i)) = true := by
              cases q : sn.testBit (lb (e 1 i))
              · exfalso
                apply z
                have : 2 ^ lb (e 1 i) &&& sn = 0 := by
                  apply Nat.eq_of_testBit_eq
                  intro j
                  rw [Nat.testBit_and, Nat.testBit_two_pow, Nat.zero_testBit]
                  by_cases e : lb (e 1 i) = j
                  · rw [← e, q]; simp
                  · simp [e]
                rw [this]; rfl
              · rfl
            simp [mb, s, this]
          · intro _; rfl
      · have hs32 : sm32 sm = nI sm := if_neg s
        rw [if_pos (by rw [hs32]; exact nI_pos' (by omega))]
        by_cases h0 : e 1 i = 0
        · have hnt : g.testBit i = false := by
            cases q : g.testBit i
            · rfl
            · have := tl q; omega
          rw [h0, hs32]
          rw [show (nI 0 &&& -nI 0) = nI 0 from rfl, hasC_n (by omega) (by omega)]
          rw [hs32] at fin
          exact fin _ (fun t => by rw [hnt] at t; cases t)
        · obtain ⟨l1, l2, l3, l4⟩ := lb_all hE.1 (by omega)
          have hp2 : 2 ^ lb (e 1 i) ≤ 512 := Nat.pow_le_pow_right (n := 2) (by omega) (show lb (e 1 i) ≤ 9 by omega)
          rw [l4, hs32, hasC_n (by omega) (by omega)]
          rw [hs32] at fin
          refine fin _ (fun t => ?_)
          rw [b2i_0, Nat.testBit_two_pow]
          simp [mb, s]
  exact ⟨11, key 10 0 rfl⟩
theorem leftM {e : xT2} {M : xMem} (wE : wfE e) (h : EM e M) {g sn sm : Nat} (hg : g < 1024) (hs : sn < 1024) (hm : sm ≤ 10) (ht : gTold e g) (post : Int32 → xMem → Prop) (hp : post (nI (lf e g sn sm)) M) : wX12_leftBy (nI g) (nI sn) (sm32 sm) M post := by
  have key : ∀ (m i : Nat), i + m = 10 → wX12_leftBy_6 post (m + 1) (nI g) (nI sn) (sm32 sm) (nI (orB (fun k => g.testBit k && mb e sn sm k) i)) (nI i) M := by
    intro m
    induction m with
    | zero =>
      intro i q
      have : i = 10 := by omega
      subst this
      rw [wX12_leftBy_6]; dsimp only
      simp (disch := omega) only [z_lt_t, z_lt_f, z_le_t, z_le_f, z_eq_t, z_eq_f, z_lt0, z_lt1_t, z_lt1_f, z_lt2_t, z_lt2_f, z_le1_t, z_le1_f, z_le2_t, z_le2_f, z_eq1_t, z_eq1_f, z_eq2_t, z_eq2_f, z_lt1, z_lt2, z_le1, z_le2, z_eq1, z_eq2, z_lt, z_le, z_eq, z_in, z_cl, z_cl1, z_add, z_add1, z_addm, z_sub, z_subl, z_mul, z_mull, ↓forall_eq, ↓reduceIte, true_and, and_true, not_true_eq_false, not_false_eq_true, b2i_0, b2i_1, bz_b2i, bz_0, bz_1, nar_b2i, narb_0, narb_1, ↓within_eq, ↓lies_eq, i64i, zi0, zj0, zi1, zj1, zi2, zj2, zi3, zj3, zi4, zj4, zi5, zj5, zi6, zj6, zi7, zj7, zi8, zj8, zi9, zj9, zi10, zj10, zi12, zj12, zi13, zj13, zi19, zj19, zi20, zj20, zi21, zj21, zi29, zj29, zi30, zj30, zi39, zj39, zi48, zj48, zi50, zj50, zi57, zj57, zi60, zj60, zi63, zj63, zi65, zj65, zi71, zj71, zi72, zj72, zi73, zj73, zi74, zj74, zi80, zj80, zi97, zj97, zi98, zj98, zi99, zj99, zi100, zj100, zi106, zj106, zi240, zj240, zi255, zj255, zi260, zj260, zi300, zj300, zi999, zj999, zi1000, zj1000, zi1023, zj1023, zi1024, zj1024, zi9999, zj9999, zi65535, zj65535, zi65536, zj65536, z_tn, z_m1, z_m2, z_bt, z_bf, z_10, Bool.false_eq_true]
      exact hp
    | succ m ih =>
      intro i q
      have hi : i < 10 := by omega
      have h9 := ih (i + 1) (by omega)
      unfold orB at h9
      have hE := wE.2 i hi
      rw [wX12_leftBy_6]; dsimp only
      unfold wX12_leftBy_60 wX12_leftBy_69
      rw [if_neg (show ¬ (10 : Int32) ≤ nI i from nI_ge hi (by decide)), hasM_n (by omega) (by omega)]
      by_cases t : g.testBit i = true
      · rw [b2i_t t, if_neg (by decide)]
        refine ⟨vp_in_nI hi (by decide), ?_⟩
        have h1 := hE.2.1 (ht i hi t)
        rw [nI_clamp (by omega), (h i hi).2.1]
        obtain ⟨l1, l2, l3, l4⟩ := lb_all hE.1 h1
        refine lowM_lb hE.1 h1 _ ?_
        by_cases s : sm = 10
        · have hm1 : sm32 sm = -1 := if_pos s
          rw [if_pos hm1, hasM_n (by omega) (by omega)]
          by_cases z : sn.testBit (lb (e 1 i)) = true
          · rw [b2i_t z, if_neg (by decide)]
            rw [if_neg (by simp [mb, s, z])] at h9
            simp (disch := omega) only [z_lt_t, z_lt_f, z_le_t, z_le_f, z_eq_t, z_eq_f, z_lt0, z_lt1_t, z_lt1_f, z_lt2_t, z_lt2_f, z_le1_t, z_le1_f, z_le2_t, z_le2_f, z_eq1_t, z_eq1_f, z_eq2_t, z_eq2_f, z_lt1, z_lt2, z_le1, z_le2, z_eq1, z_eq2, z_lt, z_le, z_eq, z_in, z_cl, z_cl1, z_add, z_add1, z_addm, z_sub, z_subl, z_mul, z_mull, ↓forall_eq, ↓reduceIte, true_and, and_true, not_true_eq_false, not_false_eq_true, b2i_0, b2i_1, bz_b2i, bz_0, bz_1, nar_b2i, narb_0, narb_1, ↓within_eq, ↓lies_eq, i64i, zi0, zj0, zi1, zj1, zi2, zj2, zi3, zj3, zi4, zj4, zi5, zj5, zi6, zj6, zi7, zj7, zi8, zj8, zi9, zj9, zi10, zj10, zi12, zj12, zi13, zj13, zi19, zj19, zi20, zj20, zi21, zj21, zi29, zj29, zi30, zj30, zi39, zj39, zi48, zj48, zi50, zj50, zi57, zj57, zi60, zj60, zi63, zj63, zi65, zj65, zi71, zj71, zi72, zj72, zi73, zj73, zi74, zj74, zi80, zj80, zi97, zj97, zi98, zj98, zi99, zj99, zi100, zj100, zi106, zj106, zi240, zj240, zi255, zj255, zi260, zj260, zi300, zj300, zi999, zj999, zi1000, zj1000, zi1023, zj1023, zi1024, zj1024, zi9999, zj9999, zi65535, zj65535, zi65536, zj65536, z_tn, z_m1, z_m2, z_bt, z_bf, z_10, Bool.false_eq_true]
            exact h9
          · rw [b2i_f z, if_pos rfl]
            rw [if_pos (by simp [mb, s, t, z])] at h9
            simp (disch := omega) only [z_lt_t, z_lt_f, z_le_t, z_le_f, z_eq_t, z_eq_f, z_lt0, z_lt1_t, z_lt1_f, z_lt2_t, z_lt2_f, z_le1_t, z_le1_f, z_le2_t, z_le2_f, z_eq1_t, z_eq1_f, z_eq2_t, z_eq2_f, z_lt1, z_lt2, z_le1, z_le2, z_eq1, z_eq2, z_lt, z_le, z_eq, z_in, z_cl, z_cl1, z_add, z_add1, z_addm, z_sub, z_subl, z_mul, z_mull, ↓forall_eq, ↓reduceIte, true_and, and_true, not_true_eq_false, not_false_eq_true, b2i_0, b2i_1, bz_b2i, bz_0, bz_1, nar_b2i, narb_0, narb_1, ↓within_eq, ↓lies_eq, i64i, zi0, zj0, zi1, zj1, zi2, zj2, zi3, zj3, zi4, zj4, zi5, zj5, zi6, zj6, zi7, zj7, zi8, zj8, zi9, zj9, zi10, zj10, zi12, zj12, zi13, zj13, zi19, zj19, zi20, zj20, zi21, zj21, zi29, zj29, zi30, zj30, zi39, zj39, zi48, zj48, zi50, zj50, zi57, zj57, zi60, zj60, zi63, zj63, zi65, zj65, zi71, zj71, zi72, zj72, zi73, zj73, zi74, zj74, zi80, zj80, zi97, zj97, zi98, zj98, zi99, zj99, zi100, zj100, zi106, zj106, zi240, zj240, zi255, zj255, zi260, zj260, zi300, zj300, zi999, zj999, zi1000, zj1000, zi1023, zj1023, zi1024, zj1024, zi9999, zj9999, zi65535, zj65535, zi65536, zj65536, z_tn, z_m1, z_m2, z_bt, z_bf, z_10, Bool.false_eq_true, z_shl, z_or]
            exact h9
        · have hs32 : sm32 sm = nI sm := if_neg s
          rw [if_neg (fun z => nI_m1 (n := sm) (by omega) (by rw [← hs32]; exact z))]
          by_cases z : lb (e 1 i) = sm
          · rw [if_pos (by rw [hs32, z])]
            rw [if_pos (by simp [mb, s, t, z])] at h9
            simp (disch := omega) only [z_lt_t, z_lt_f, z_le_t, z_le_f, z_eq_t, z_eq_f, z_lt0, z_lt1_t, z_lt1_f, z_lt2_t, z_lt2_f, z_le1_t, z_le1_f, z_le2_t, z_le2_f, z_eq1_t, z_eq1_f, z_eq2_t, z_eq2_f, z_lt1, z_lt2, z_le1, z_le2, z_eq1, z_eq2, z_lt, z_le, z_eq, z_in, z_cl, z_cl1, z_add, z_add1, z_addm, z_sub, z_subl, z_mul, z_mull, ↓forall_eq, ↓reduceIte, true_and, and_true, not_true_eq_false, not_false_eq_true, b2i_0, b2i_1, bz_b2i, bz_0, bz_1, nar_b2i, narb_0, narb_1, ↓within_eq, ↓lies_eq, i64i, zi0, zj0, zi1, zj1, zi2, zj2, zi3, zj3, zi4, zj4, zi5, zj5, zi6, zj6, zi7, zj7, zi8, zj8, zi9, zj9, zi10, zj10, zi12, zj12, zi13, zj13, zi19, zj19, zi20, zj20, zi21, zj21, zi29, zj29, zi30, zj30, zi39, zj39, zi48, zj48, zi50, zj50, zi57, zj57, zi60, zj60, zi63, zj63, zi65, zj65, zi71, zj71, zi72, zj72, zi73, zj73, zi74, zj74, zi80, zj80, zi97, zj97, zi98, zj98, zi99, zj99, zi100, zj100, zi106, zj106, zi240, zj240, zi255, zj255, zi260, zj260, zi300, zj300, zi999, zj999, zi1000, zj1000, zi1023, zj1023, zi1024, zj1024, zi9999, zj9999, zi65535, zj65535, zi65536, zj65536, z_tn, z_m1, z_m2, z_bt, z_bf, z_10, Bool.false_eq_true, z_shl, z_or]
            exact h9
          · rw [if_neg (fun q => z (by rw [hs32] at q; exact (nI_eq (by omega) (by omega)).mp q))]
            rw [if_neg (by simp [mb, s, z])] at h9
            simp (disch := omega) only [z_lt_t, z_lt_f, z_le_t, z_le_f, z_eq_t, z_eq_f, z_lt0, z_lt1_t, z_lt1_f, z_lt2_t, z_lt2_f, z_le1_t, z_le1_f, z_le2_t, z_le2_f, z_eq1_t, z_eq1_f, z_eq2_t, z_eq2_f, z_lt1, z_lt2, z_le1, z_le2, z_eq1, z_eq2, z_lt, z_le, z_eq, z_in, z_cl, z_cl1, z_add, z_add1, z_addm, z_sub, z_subl, z_mul, z_mull, ↓forall_eq, ↓reduceIte, true_and, and_true, not_true_eq_false, not_false_eq_true, b2i_0, b2i_1, bz_b2i, bz_0, bz_1, nar_b2i, narb_0, narb_1, ↓within_eq, ↓lies_eq, i64i, zi0, zj0, zi1, zj1, zi2, zj2, zi3, zj3, zi4, zj4, zi5, zj5, zi6, zj6, zi7, zj7, zi8, zj8, zi9, zj9, zi10, zj10, zi12, zj12, zi13, zj13, zi19, zj19, zi20, zj20, zi21, zj21, zi29, zj29, zi30, zj30, zi39, zj39, zi48, zj48, zi50, zj50, zi57, zj57, zi60, zj60, zi63, zj63, zi65, zj65, zi71, zj71, zi72, zj72, zi73, zj73, zi74, zj74, zi80, zj80, zi97, zj97, zi98, zj98, zi99, zj99, zi100, zj100, zi106, zj106, zi240, zj240, zi255, zj255, zi260, zj260, zi300, zj300, zi999, zj999, zi1000, zj1000, zi1023, zj1023, zi1024, zj1024, zi9999, zj9999, zi65535, zj65535, zi65536, zj65536, z_tn, z_m1, z_m2, z_bt, z_bf, z_10, Bool.false_eq_true]
            exact h9
      · rw [b2i_f t, if_pos rfl]
        rw [if_neg (by simp [t])] at h9
        simp (disch := omega) only [z_lt_t, z_lt_f, z_le_t, z_le_f, z_eq_t, z_eq_f, z_lt0, z_lt1_t, z_lt1_f, z_lt2_t, z_lt2_f, z_le1_t, z_le1_f, z_le2_t, z_le2_f, z_eq1_t, z_eq1_f, z_eq2_t, z_eq2_f, z_lt1, z_lt2, z_le1, z_le2, z_eq1, z_eq2, z_lt, z_le, z_eq, z_in, z_cl, z_cl1, z_add, z_add1, z_addm, z_sub, z_subl, z_mul, z_mull, ↓forall_eq, ↓reduceIte, true_and, and_true, not_true_eq_false, not_false_eq_true, b2i_0, b2i_1, bz_b2i, bz_0, bz_1, nar_b2i, narb_0, narb_1, ↓within_eq, ↓lies_eq, i64i, zi0, zj0, zi1, zj1, zi2, zj2, zi3, zj3, zi4, zj4, zi5, zj5, zi6, zj6, zi7, zj7, zi8, zj8, zi9, zj9, zi10, zj10, zi12, zj12, zi13, zj13, zi19, zj19, zi20, zj20, zi21, zj21, zi29, zj29, zi30, zj30, zi39, zj39, zi48, zj48, zi50, zj50, zi57, zj57, zi60, zj60, zi63, zj63, zi65, zj65, zi71, zj71, zi72, zj72, zi73, zj73, zi74, zj74, zi80, zj80, zi97, zj97, zi98, zj98, zi99, zj99, zi100, zj100, zi106, zj106, zi240, zj240, zi255, zj255, zi260, zj260, zi300, zj300, zi999, zj999, zi1000, zj1000, zi1023, zj1023, zi1024, zj1024, zi9999, zj9999, zi65535, zj65535, zi65536, zj65536, z_tn, z_m1, z_m2, z_bt, z_bf, z_10, Bool.false_eq_true]
        exact h9
  exact ⟨11, key 10 0 rfl⟩
theorem lf_lt (e : xT2) (g sn sm : Nat) : lf e g sn sm < 1024 := orB_lt _ 10
theorem lf_sub {e : xT2} {g sn sm k : Nat} (h : (lf e g sn sm).testBit k = true) : k < 10 ∧ g.testBit k = true ∧ mb e sn sm k = true := by
  unfold lf at h
  rw [orB_t] at h
  simpa using h
/-- how many leave thread t -/
def cw (e : xT2) (g t : Nat) : Nat := pc (lf e g 1023 t)
theorem cw_le {e : xT2} {g t : Nat} (ht : t < 10) : cw e g t ≤ pc (lf e g 1023 t) := Nat.le_refl _
def nx (e : xT2) (g : Nat) : Nat → Int32 × Nat
  | 0 => (-2, pc g)
  | t + 1 => if max (cw e g t) (pc g - cw e g t) < (nx e g t).2 then (nI t, max (cw e g t) (pc g - cw e g t)) else nx e g t
theorem nx_le (e : xT2) (g : Nat) : ∀ t, (nx e g t).2 ≤ pc g := by
  intro t
  induction t with
  | zero => exact Nat.le_refl _
  | succ t ih =>
    unfold nx
    split
    · dsimp only; omega
    · exact ih
theorem cntB_mono {p q : Nat → Bool} (h : ∀ k, p k = true → q k = true) : ∀ n, cntB p n ≤ cntB q n := by
  intro n
  induction n with
  | zero => exact Nat.le_refl _
  | succ n ih =>
    unfold cntB
    by_cases a : p n = true
    · rw [if_pos a, if_pos (h n a)]; omega
    · rw [if_neg a]; split <;> omega
theorem pc_cnt {g : Nat} (hg : g < 1024) : pc g = cntB (fun k => g.testBit k) 10 := by
  have := pc_orB (p := fun k => g.testBit k) 10 (Nat.le_refl _)
  rw [orB_tb (n := 10) hg] at this
  exact this
theorem cw_cnt (e : xT2) (g t : Nat) : cw e g t = cntB (fun k => g.testBit k && mb e 1023 t k) 10 := pc_orB 10 (Nat.le_refl _)
theorem cw_all {e : xT2} {g t : Nat} (hg : g < 1024) : cw e g t ≤ pc g := by
  rw [cw_cnt, pc_cnt hg]
  exact cntB_mono (fun k h => by simp at h; exact h.1) 10
theorem max_n {a b : Nat} (ha : a < 2 ^ 31) (hb : b < 2 ^ 31) : (if nI a < nI b then nI b else nI a) = nI (max a b) := by
  by_cases h : a < b
  · rw [if_pos (nI_lt h hb), Nat.max_eq_right (by omega)]
  · rw [if_neg (nI_nlt (by omega) ha), Nat.max_eq_left (by omega)]
theorem min_n {a b : Nat} (ha : a < 2 ^ 31) (hb : b < 2 ^ 31) : (if nI b < nI a then nI b else nI a) = nI (min a b) := by
  by_cases h : b < a
  · rw [if_pos (nI_lt h ha), Nat.min_eq_right (by omega)]
  · rw [if_neg (nI_nlt (by omega) hb), Nat.min_eq_left (by omega)]
theorem nextC {e : xT2} {C : xMem} (wE : wfE e) (h : EC e C) {g : Nat} (hg : g < 1024) (ht : gTold e g) (post : Int32 → xMem → Prop) (hp : post (nx e g 10).1 C) : wX2_nextToSniff (nI g) C post := by
  have hpg := pc_le hg
  have key : ∀ (m i : Nat), i + m = 10 → wX2_nextToSniff_14 post (m + 1) (nI g) (nI (pc g)) (nx e g i).1 (nI (nx e g i).2) (nI i) C := by
    intro m
    induction m with
    | zero =>
      intro i q
      have : i = 10 := by omega
      subst this
      rw [wX2_nextToSniff_14]; dsimp only
      simp (disch := omega) only [z_lt_t, z_lt_f, z_le_t, z_le_f, z_eq_t, z_eq_f, z_lt0, z_lt1_t, z_lt1_f, z_lt2_t, z_lt2_f, z_le1_t, z_le1_f, z_le2_t, z_le2_f, z_eq1_t, z_eq1_f, z_eq2_t, z_eq2_f, z_lt1, z_lt2, z_le1, z_le2, z_eq1, z_eq2, z_lt, z_le, z_eq, z_in, z_cl, z_cl1, z_add, z_add1, z_addm, z_sub, z_subl, z_mul, z_mull, ↓forall_eq, ↓reduceIte, true_and, and_true, not_true_eq_false, not_false_eq_true, b2i_0, b2i_1, bz_b2i, bz_0, bz_1, nar_b2i, narb_0, narb_1, ↓within_eq, ↓lies_eq, i64i, zi0, zj0, zi1, zj1, zi2, zj2, zi3, zj3, zi4, zj4, zi5, zj5, zi6, zj6, zi7, zj7, zi8, zj8, zi9, zj9, zi10, zj10, zi12, zj12, zi13, zj13, zi19, zj19, zi20, zj20, zi21, zj21, zi29, zj29, zi30, zj30, zi39, zj39, zi48, zj48, zi50, zj50, zi57, zj57, zi60, zj60, zi63, zj63, zi65, zj65, zi71, zj71, zi72, zj72, zi73, zj73, zi74, zj74, zi80, zj80, zi97, zj97, zi98, zj98, zi99, zj99, zi100, zj100, zi106, zj106, zi240, zj240, zi255, zj255, zi260, zj260, zi300, zj300, zi999, zj999, zi1000, zj1000, zi1023, zj1023, zi1024, zj1024, zi9999, zj9999, zi65535, zj65535, zi65536, zj65536, z_tn, z_m1, z_m2, z_bt, z_bf, z_10, Bool.false_eq_true]
      exact hp
    | succ m ih =>
      intro i q
      have hi : i < 10 := by omega
      have h9 := ih (i + 1) (by omega)
      unfold nx at h9
      rw [wX2_nextToSniff_14]; dsimp only
      unfold wX2_nextToSniff_61
      rw [if_neg (show ¬ (10 : Int32) ≤ nI i from nI_ge hi (by decide))]
      have es : nI i = sm32 i := (if_neg (by omega)).symm
      have hl := leftC wE h (g := g) (sn := 1023) (sm := i) hg (by omega) (by omega) ht
      rw [← es] at hl
      refine hl _ ?_
      have hcw : cw e g i = pc (lf e g 1023 i) := rfl
      have hca := cw_all (e := e) (t := i) hg
      have hnl := nx_le e g i
      rw [bitCount_eq, bc_n (lf_lt _ _ _ _), ← hcw, z_sub hca, max_eq, max_n (by omega) (by omega)]
      simp (disch := omega) only [z_lt_t, z_lt_f, z_le_t, z_le_f, z_eq_t, z_eq_f, z_lt0, z_lt1_t, z_lt1_f, z_lt2_t, z_lt2_f, z_le1_t, z_le1_f, z_le2_t, z_le2_f, z_eq1_t, z_eq1_f, z_eq2_t, z_eq2_f, z_lt1, z_lt2, z_le1, z_le2, z_eq1, z_eq2, z_lt, z_le, z_eq, z_in, z_cl, z_cl1, z_add, z_add1, z_addm, z_sub, z_subl, z_mul, z_mull, ↓forall_eq, ↓reduceIte, true_and, and_true, not_true_eq_false, not_false_eq_true, b2i_0, b2i_1, bz_b2i, bz_0, bz_1, nar_b2i, narb_0, narb_1, ↓within_eq, ↓lies_eq, i64i, zi0, zj0, zi1, zj1, zi2, zj2, zi3, zj3, zi4, zj4, zi5, zj5, zi6, zj6, zi7, zj7, zi8, zj8, zi9, zj9, zi10, zj10, zi12, zj12, zi13, zj13, zi19, zj19, zi20, zj20, zi21, zj21, zi29, zj29, zi30, zj30, zi39, zj39, zi48, zj48, zi50, zj50, zi57, zj57, zi60, zj60, zi63, zj63, zi65, zj65, zi71, zj71, zi72, zj72, zi73, zj73, zi74, zj74, zi80, zj80, zi97, zj97, zi98, zj98, zi99, zj99, zi100, zj100, zi106, zj106, zi240, zj240, zi255, zj255, zi260, zj260, zi300, zj300, zi999, zj999, zi1000, zj1000, zi1023, zj1023, zi1024, zj1024, zi9999, zj9999, zi65535, zj65535, zi65536, zj65536, z_tn, z_m1, z_m2, z_bt, z_bf, z_10, Bool.false_eq_true]
      by_cases z : max (cw e g i) (pc g - cw e g i) < (nx e g i).2
      · rw [if_pos z] at h9
        rw [if_neg (by omega)]
        exact h9
      · rw [if_neg z] at h9
        rw [if_pos (by omega)]
        exact h9
  unfold wX2_nextToSniff
  rw [bitCount_eq, bc_n hg]
  exact ⟨11, key 10 0 rfl⟩
theorem higher_eq {x y : Nat} (hx : x < 2 ^ 31) (hy : y < 2 ^ 31) (M : xMem) (P : Int32 → xMem → Prop) : wX12_higher (nI x) (nI y) M P = P (nI (max x y)) M := by
  unfold wX12_higher
  by_cases z : x ≤ y
  · rw [if_pos (nI_le z hy), Nat.max_eq_right z]
  · rw [if_neg (nI_ge (by omega) hx), Nat.max_eq_left (by omega)]
theorem nextM {e : xT2} {M : xMem} (wE : wfE e) (h : EM e M) {g sn : Nat} (hg : g < 1024) (hs : sn < 1024) (ht : gTold e g) (hsk : ∀ t, t < 10 → sn.testBit t = true → cw e g t = 0 ∨ cw e g t = pc g) (post : Int32 → xMem → Prop) (hp : post (nx e g 10).1 M) : wX12_nextThread (nI g) (nI sn) M post := by
  have hpg := pc_le hg
  have in1 : ∀ (K12 : Int32 → Int32 → Int32 → Int32 → Int32 → xMem → Prop) (t : Nat), t < 10 → K12 (nI g) (nI sn) (nx e g (t + 1)).1 (nI (nx e g (t + 1)).2) (nI (t + 1)) M → ∀ (m i : Nat), i + m = 10 → wX12_nextThread_25 K12 post (m + 1) (nI g) (nI sn) (nx e g t).1 (nI (nx e g t).2) (nI t) (nI (cntB (fun k => g.testBit k && mb e 1023 t k) i)) (nI i) M := by
    intro K12 t htt hK m
    induction m with
    | zero =>
      intro i q
      have : i = 10 := by omega
      subst this
      rw [wX12_nextThread_25]; dsimp only
      rw [if_pos (show (10 : Int32) ≤ nI 10 by decide)]
      refine sizeOf_n hg M _ ?_
      rw [← cw_cnt]
      have hca := cw_all (e := e) (t := t) hg
      have hnl := nx_le e g t
      rw [z_sub hca]
      unfold wX12_nextThread_112
      unfold nx at hK
      rw [higher_eq (by omega) (by omega), hasM_n (by omega) (by omega)]
      by_cases z2 : sn.testBit t = true
      · rw [b2i_t z2, if_neg (by decide)]
        rw [if_neg (by have := hsk t htt z2; omega)] at hK
        simp (disch := omega) only [z_lt_t, z_lt_f, z_le_t, z_le_f, z_eq_t, z_eq_f, z_lt0, z_lt1_t, z_lt1_f, z_lt2_t, z_lt2_f, z_le1_t, z_le1_f, z_le2_t, z_le2_f, z_eq1_t, z_eq1_f, z_eq2_t, z_eq2_f, z_lt1, z_lt2, z_le1, z_le2, z_eq1, z_eq2, z_lt, z_le, z_eq, z_in, z_cl, z_cl1, z_add, z_add1, z_addm, z_sub, z_subl, z_mul, z_mull, ↓forall_eq, ↓reduceIte, true_and, and_true, not_true_eq_false, not_false_eq_true, b2i_0, b2i_1, bz_b2i, bz_0, bz_1, nar_b2i, narb_0, narb_1, ↓within_eq, ↓lies_eq, i64i, zi0, zj0, zi1, zj1, zi2, zj2, zi3, zj3, zi4, zj4, zi5, zj5, zi6, zj6, zi7, zj7, zi8, zj8, zi9, zj9, zi10, zj10, zi12, zj12, zi13, zj13, zi19, zj19, zi20, zj20, zi21, zj21, zi29, zj29, zi30, zj30, zi39, zj39, zi48, zj48, zi50, zj50, zi57, zj57, zi60, zj60, zi63, zj63, zi65, zj65, zi71, zj71, zi72, zj72, zi73, zj73, zi74, zj74, zi80, zj80, zi97, zj97, zi98, zj98, zi99, zj99, zi100, zj100, zi106, zj106, zi240, zj240, zi255, zj255, zi260, zj260, zi300, zj300, zi999, zj999, zi1000, zj1000, zi1023, zj1023, zi1024, zj1024, zi9999, zj9999, zi65535, zj65535, zi65536, zj65536, z_tn, z_m1, z_m2, z_bt, z_bf, z_10, Bool.false_eq_true]
        exact hK
      · rw [b2i_f z2, if_pos rfl]
        simp (disch := omega) only [z_lt_t, z_lt_f, z_le_t, z_le_f, z_eq_t, z_eq_f, z_lt0, z_lt1_t, z_lt1_f, z_lt2_t, z_lt2_f, z_le1_t, z_le1_f, z_le2_t, z_le2_f, z_eq1_t, z_eq1_f, z_eq2_t, z_eq2_f, z_lt1, z_lt2, z_le1, z_le2, z_eq1, z_eq2, z_lt, z_le, z_eq, z_in, z_cl, z_cl1, z_add, z_add1, z_addm, z_sub, z_subl, z_mul, z_mull, ↓forall_eq, ↓reduceIte, true_and, and_true, not_true_eq_false, not_false_eq_true, b2i_0, b2i_1, bz_b2i, bz_0, bz_1, nar_b2i, narb_0, narb_1, ↓within_eq, ↓lies_eq, i64i, zi0, zj0, zi1, zj1, zi2, zj2, zi3, zj3, zi4, zj4, zi5, zj5, zi6, zj6, zi7, zj7, zi8, zj8, zi9, zj9, zi10, zj10, zi12, zj12, zi13, zj13, zi19, zj19, zi20, zj20, zi21, zj21, zi29, zj29, zi30, zj30, zi39, zj39, zi48, zj48, zi50, zj50, zi57, zj57, zi60, zj60, zi63, zj63, zi65, zj65, zi71, zj71, zi72, zj72, zi73, zj73, zi74, zj74, zi80, zj80, zi97, zj97, zi98, zj98, zi99, zj99, zi100, zj100, zi106, zj106, zi240, zj240, zi255, zj255, zi260, zj260, zi300, zj300, zi999, zj999, zi1000, zj1000, zi1023, zj1023, zi1024, zj1024, zi9999, zj9999, zi65535, zj65535, zi65536, zj65536, z_tn, z_m1, z_m2, z_bt, z_bf, z_10, Bool.false_eq_true]
        by_cases z : max (cw e g t) (pc g - cw e g t) < (nx e g t).2
        · rw [if_pos z] at hK ⊢
          exact hK
        · rw [if_neg z] at hK ⊢
          exact hK
    | succ m ih =>
      intro i q
      have hi : i < 10 := by omega
      have h9 := ih (i + 1) (by omega)
      unfold cntB at h9
      have hE := wE.2 i hi
      have hcn := cntB_le (fun k => g.testBit k && mb e 1023 t k) i
      rw [wX12_nextThread_25]; dsimp only
      unfold wX12_nextThread_62 wX12_nextThread_63
      rw [if_neg (show ¬ (10 : Int32) ≤ nI i from nI_ge hi (by decide)), hasM_n (by omega) (by omega)]
      have z0 : ∀ x : Nat, nI x + 0 = nI x := fun x => nI_add x 0
      by_cases t1 : g.testBit i = true
      · rw [b2i_t t1, if_neg (by decide)]
        refine ⟨vp_in_nI hi (by decide), ?_⟩
        have h1 := hE.2.1 (ht i hi t1)
        rw [nI_clamp (by omega), (h i hi).2.1]
        obtain ⟨l1, l2, l3, l4⟩ := lb_all hE.1 h1
        refine lowM_lb hE.1 h1 _ ?_
        by_cases z : lb (e 1 i) = t
        · rw [if_pos (by rw [z])]
          rw [if_pos (by simp [mb, t1, z, show ¬ t = 10 by omega])] at h9
          simp (disch := omega) only [z_lt_t, z_lt_f, z_le_t, z_le_f, z_eq_t, z_eq_f, z_lt0, z_lt1_t, z_lt1_f, z_lt2_t, z_lt2_f, z_le1_t, z_le1_f, z_le2_t, z_le2_f, z_eq1_t, z_eq1_f, z_eq2_t, z_eq2_f, z_lt1, z_lt2, z_le1, z_le2, z_eq1, z_eq2, z_lt, z_le, z_eq, z_in, z_cl, z_cl1, z_add, z_add1, z_addm, z_sub, z_subl, z_mul, z_mull, ↓forall_eq, ↓reduceIte, true_and, and_true, not_true_eq_false, not_false_eq_true, b2i_0, b2i_1, bz_b2i, bz_0, bz_1, nar_b2i, narb_0, narb_1, ↓within_eq, ↓lies_eq, i64i, zi0, zj0, zi1, zj1, zi2, zj2, zi3, zj3, zi4, zj4, zi5, zj5, zi6, zj6, zi7, zj7, zi8, zj8, zi9, zj9, zi10, zj10, zi12, zj12, zi13, zj13, zi19, zj19, zi20, zj20, zi21, zj21, zi29, zj29, zi30, zj30, zi39, zj39, zi48, zj48, zi50, zj50, zi57, zj57, zi60, zj60, zi63, zj63, zi65, zj65, zi71, zj71, zi72, zj72, zi73, zj73, zi74, zj74, zi80, zj80, zi97, zj97, zi98, zj98, zi99, zj99, zi100, zj100, zi106, zj106, zi240, zj240, zi255, zj255, zi260, zj260, zi300, zj300, zi999, zj999, zi1000, zj1000, zi1023, zj1023, zi1024, zj1024, zi9999, zj9999, zi65535, zj65535, zi65536, zj65536, z_tn, z_m1, z_m2, z_bt, z_bf, z_10, Bool.false_eq_true]
          exact h9
        · rw [if_neg (fun q => z ((nI_eq (by omega) (by omega)).mp q))]
          rw [if_neg (by simp [mb, z, show ¬ t = 10 by omega])] at h9
          rw [z0]
          simp (disch := omega) only [z_lt_t, z_lt_f, z_le_t, z_le_f, z_eq_t, z_eq_f, z_lt0, z_lt1_t, z_lt1_f, z_lt2_t, z_lt2_f, z_le1_t, z_le1_f, z_le2_t, z_le2_f, z_eq1_t, z_eq1_f, z_eq2_t, z_eq2_f, z_lt1, z_lt2, z_le1, z_le2, z_eq1, z_eq2, z_lt, z_le, z_eq, z_in, z_cl, z_cl1, z_add, z_add1, z_addm, z_sub, z_subl, z_mul, z_mull, ↓forall_eq, ↓reduceIte, true_and, and_true, not_true_eq_false, not_false_eq_true, b2i_0, b2i_1, bz_b2i, bz_0, bz_1, nar_b2i, narb_0, narb_1, ↓within_eq, ↓lies_eq, i64i, zi0, zj0, zi1, zj1, zi2, zj2, zi3, zj3, zi4, zj4, zi5, zj5, zi6, zj6, zi7, zj7, zi8, zj8, zi9, zj9, zi10, zj10, zi12, zj12, zi13, zj13, zi19, zj19, zi20, zj20, zi21, zj21, zi29, zj29, zi30, zj30, zi39, zj39, zi48, zj48, zi50, zj50, zi57, zj57, zi60, zj60, zi63, zj63, zi65, zj65, zi71, zj71, zi72, zj72, zi73, zj73, zi74, zj74, zi80, zj80, zi97, zj97, zi98, zj98, zi99, zj99, zi100, zj100, zi106, zj106, zi240, zj240, zi255, zj255, zi260, zj260, zi300, zj300, zi999, zj999, zi1000, zj1000, zi1023, zj1023, zi1024, zj1024, zi9999, zj9999, zi65535, zj65535, zi65536, zj65536, z_tn, z_m1, z_m2, z_bt, z_bf, z_10, Bool.false_eq_true]
          exact h9
      · rw [b2i_f t1, if_pos rfl]
        rw [if_neg (by simp [t1])] at h9
        rw [z0]
        simp (disch := omega) only [z_lt_t, z_lt_f, z_le_t, z_le_f, z_eq_t, z_eq_f, z_lt0, z_lt1_t, z_lt1_f, z_lt2_t, z_lt2_f, z_le1_t, z_le1_f, z_le2_t, z_le2_f, z_eq1_t, z_eq1_f, z_eq2_t, z_eq2_f, z_lt1, z_lt2, z_le1, z_le2, z_eq1, z_eq2, z_lt, z_le, z_eq, z_in, z_cl, z_cl1, z_add, z_add1, z_addm, z_sub, z_subl, z_mul, z_mull, ↓forall_eq, ↓reduceIte, true_and, and_true, not_true_eq_false, not_false_eq_true, b2i_0, b2i_1, bz_b2i, bz_0, bz_1, nar_b2i, narb_0, narb_1, ↓within_eq, ↓lies_eq, i64i, zi0, zj0, zi1, zj1, zi2, zj2, zi3, zj3, zi4, zj4, zi5, zj5, zi6, zj6, zi7, zj7, zi8, zj8, zi9, zj9, zi10, zj10, zi12, zj12, zi13, zj13, zi19, zj19, zi20, zj20, zi21, zj21, zi29, zj29, zi30, zj30, zi39, zj39, zi48, zj48, zi50, zj50, zi57, zj57, zi60, zj60, zi63, zj63, zi65, zj65, zi71, zj71, zi72, zj72, zi73, zj73, zi74, zj74, zi80, zj80, zi97, zj97, zi98, zj98, zi99, zj99, zi100, zj100, zi106, zj106, zi240, zj240, zi255, zj255, zi260, zj260, zi300, zj300, zi999, zj999, zi1000, zj1000, zi1023, zj1023, zi1024, zj1024, zi9999, zj9999, zi65535, zj65535, zi65536, zj65536, z_tn, z_m1, z_m2, z_bt, z_bf, z_10, Bool.false_eq_true]
        exact h9
  have key : ∀ (m i : Nat), i + m = 10 → wX12_nextThread_12 post (m + 1) (nI g) (nI sn) (nx e g i).1 (nI (nx e g i).2) (nI i) M := by
    intro m
    induction m with
    | zero =>
      intro i q
      have : i = 10 := by omega
      subst this
      rw [wX12_nextThread_12]; dsimp only
      simp (disch := omega) only [z_lt_t, z_lt_f, z_le_t, z_le_f, z_eq_t, z_eq_f, z_lt0, z_lt1_t, z_lt1_f, z_lt2_t, z_lt2_f, z_le1_t, z_le1_f, z_le2_t, z_le2_f, z_eq1_t, z_eq1_f, z_eq2_t, z_eq2_f, z_lt1, z_lt2, z_le1, z_le2, z_eq1, z_eq2, z_lt, z_le, z_eq, z_in, z_cl, z_cl1, z_add, z_add1, z_addm, z_sub, z_subl, z_mul, z_mull, ↓forall_eq, ↓reduceIte, true_and, and_true, not_true_eq_false, not_false_eq_true, b2i_0, b2i_1, bz_b2i, bz_0, bz_1, nar_b2i, narb_0, narb_1, ↓within_eq, ↓lies_eq, i64i, zi0, zj0, zi1, zj1, zi2, zj2, zi3, zj3, zi4, zj4, zi5, zj5, zi6, zj6, zi7, zj7, zi8, zj8, zi9, zj9, zi10, zj10, zi12, zj12, zi13, zj13, zi19, zj19, zi20, zj20, zi21, zj21, zi29, zj29, zi30, zj30, zi39, zj39, zi48, zj48, zi50, zj50, zi57, zj57, zi60, zj60, zi63, zj63, zi65, zj65, zi71, zj71, zi72, zj72, zi73, zj73, zi74, zj74, zi80, zj80, zi97, zj97, zi98, zj98, zi99, zj99, zi100, zj100, zi106, zj106, zi240, zj240, zi255, zj255, zi260, zj260, zi300, zj300, zi999, zj999, zi1000, zj1000, zi1023, zj1023, zi1024, zj1024, zi9999, zj9999, zi65535, zj65535, zi65536, zj65536, z_tn, z_m1, z_m2, z_bt, z_bf, z_10, Bool.false_eq_true]
      exact hp
    | succ m ih =>
      intro i q
      rw [wX12_nextThread_12]; dsimp only
      have hi : i < 10 := by omega
      rw [if_neg (show ¬ (10 : Int32) ≤ nI i from nI_ge hi (by decide))]
      exact ⟨11, in1 _ i (by omega) (ih (i + 1) (by omega)) 10 0 rfl⟩
  unfold wX12_nextThread
  refine sizeOf_n hg M _ ?_
  exact ⟨11, key 10 0 rfl⟩
theorem told_sub {g t : Nat} (hg : g < 1024) (ht : t < 1024) : g &&& (1023 ^^^ t) = 0 ↔ ∀ k, k < 10 → g.testBit k = true → t.testBit k = true := by
  have kt : ∀ i : Fin 10, Nat.testBit 1023 i.1 = true := by decide +kernel
  constructor
  · intro h k hk hgk
    cases q : t.testBit k
    · exfalso
      have : (g &&& (1023 ^^^ t)).testBit k = true := by rw [Nat.testBit_and, Nat.testBit_xor, kt ⟨k, hk⟩, hgk, q]; rfl
      rw [h, Nat.zero_testBit] at this
      cases this
    · rfl
  · intro h
    apply Nat.eq_of_testBit_eq
    intro k
    rw [Nat.testBit_and, Nat.testBit_xor, Nat.zero_testBit]
    by_cases hk : k < 10
    · rw [kt ⟨k, hk⟩]
      cases q : g.testBit k
      · rfl
      · rw [h k hk q]; rfl
    · have := Nat.testBit_lt_two_pow (x := g) (i := k) (Nat.lt_of_lt_of_le hg (show 2 ^ 10 ≤ 2 ^ k from Nat.pow_le_pow_right (by omega) (by omega)))
      rw [this]; rfl
theorem lf_skip {e : xT2} {g sn sm t : Nat} (ht : t < 10) (h : sn.testBit t = true) : cw e (lf e g sn sm) t = 0 ∨ cw e (lf e g sn sm) t = pc (lf e g sn sm) := by
  by_cases z : sm ≠ 10 ∧ t = sm
  · right
    have : lf e (lf e g sn sm) 1023 t = lf e g sn sm := by
      rw [← orB_tb (n := 10) (lf_lt e g sn sm)]
      refine orB_congr (fun k hk => ?_)
      cases q : (lf e g sn sm).testBit k
      · rw [orB_tb (n := 10) (lf_lt e g sn sm), q]; rfl
      · rw [orB_tb (n := 10) (lf_lt e g sn sm), q]
        have := (lf_sub q).2.2
        simp [mb, z.1] at this
        simp [mb, z.2, z.1, this]
    show pc _ = _
    rw [this]
  · left
    have : lf e (lf e g sn sm) 1023 t = 0 := by
      apply Nat.eq_of_testBit_eq
      intro k
      rw [Nat.zero_testBit]
      cases q : (lf e (lf e g sn sm) 1023 t).testBit k
      · rfl
      · exfalso
        obtain ⟨h1, h2, h3⟩ := lf_sub q
        obtain ⟨-, -, h4⟩ := lf_sub h2
        simp [mb, show ¬ t = 10 by omega] at h3
        by_cases s : sm = 10
        · simp [mb, s, h3, h] at h4
        · simp [mb, s] at h4
          exact z ⟨s, by omega⟩
    show pc _ = _
    rw [this]; decide
theorem forged_ok {LL : xMem → xMem → Prop} (a0 a1 a2 a3 : Int32) (C M : xMem) (h : RRL LL C M) : wX11_forged a0 a1 a2 a3 C (fun r C' => wX12_forged a0 a1 a2 a3 M (fun r' M' => r = r' ∧ RRL LL C' M')) := by
  obtain ⟨⟨S, e, hl, hk, il, to, il2, to2, kp, tn, t, hR⟩, hLL⟩ := id h
  obtain ⟨wE, rE, rE2⟩ := hR.2.1
  have m1 : (-1 : Int64).toInt = -1 := by decide
  have hno : ¬ (1 ≤ a0.toInt ∧ a0.toInt ≤ 1023) → wX11_forged a0 a1 a2 a3 C (fun r C' => wX12_forged a0 a1 a2 a3 M (fun r' M' => r = r' ∧ RRL LL C' M')) := fun h0 => by
    unfold wX11_forged wX11_forged_50 wX11_forged_51 wX12_forged
    simp (disch := omega) only [z_lt_t, z_lt_f, z_le_t, z_le_f, z_eq_t, z_eq_f, z_lt0, z_lt1_t, z_lt1_f, z_lt2_t, z_lt2_f, z_le1_t, z_le1_f, z_le2_t, z_le2_f, z_eq1_t, z_eq1_f, z_eq2_t, z_eq2_f, z_lt1, z_lt2, z_le1, z_le2, z_eq1, z_eq2, z_lt, z_le, z_eq, z_in, z_cl, z_cl1, z_add, z_add1, z_addm, z_sub, z_subl, z_mul, z_mull, ↓forall_eq, ↓reduceIte, true_and, and_true, not_true_eq_false, not_false_eq_true, b2i_0, b2i_1, bz_b2i, bz_0, bz_1, nar_b2i, narb_0, narb_1, ↓within_eq, ↓lies_eq, i64i, zi0, zj0, zi1, zj1, zi2, zj2, zi3, zj3, zi4, zj4, zi5, zj5, zi6, zj6, zi7, zj7, zi8, zj8, zi9, zj9, zi10, zj10, zi12, zj12, zi13, zj13, zi19, zj19, zi20, zj20, zi21, zj21, zi29, zj29, zi30, zj30, zi39, zj39, zi48, zj48, zi50, zj50, zi57, zj57, zi60, zj60, zi63, zj63, zi65, zj65, zi71, zj71, zi72, zj72, zi73, zj73, zi74, zj74, zi80, zj80, zi97, zj97, zi98, zj98, zi99, zj99, zi100, zj100, zi106, zj106, zi240, zj240, zi255, zj255, zi260, zj260, zi300, zj300, zi999, zj999, zi1000, zj1000, zi1023, zj1023, zi1024, zj1024, zi9999, zj9999, zi65535, zj65535, zi65536, zj65536, z_tn, z_m1, z_m2, z_bt, z_bf, z_10, Bool.false_eq_true]
    exact h
  by_cases h0 : 1 ≤ a0.toInt ∧ a0.toInt ≤ 1023
  rotate_left
  · exact hno h0
  obtain ⟨g, hg, rfl⟩ := at_n (a := a0) (n := 1023) (by omega) (by decide)
  have hg1 : 1 ≤ g := by
    have := h0.1
    rw [nI_toInt (by omega)] at this
    omega
  -- the reference's walk over the ends
  have walk : ∀ (x1 x2 x3 x4 : Int32) (post : Int32 → xMem → Prop), (∀ k, k < 10 → g.testBit k = true → (e 0 0).testBit k = true) → wX12_leftBy (nI g) x2 x3 M (fun r3 M2 => if x4 = 0 then post r3 M2 else wX12_nextThread r3 x2 M2 (fun r6 M5 => post r6 M5)) → wX12_forged_67 post 11 (nI g) x2 x3 x4 0 M := by
    intro _ x2 x3 x4 post hg2 hp
    have key : ∀ (m i : Nat), i + m = 10 → wX12_forged_67 post (m + 1) (nI g) x2 x3 x4 (nI i) M := by
      intro m
      induction m with
      | zero =>
        intro i q
        have : i = 10 := by omega
        subst this
        rw [wX12_forged_67]; dsimp only
        rw [if_pos (show (10 : Int32) ≤ nI 10 by decide)]
        exact hp
      | succ m ih =>
        intro i q
        have hi : i < 10 := by omega
        rw [wX12_forged_67]; dsimp only
        unfold wX12_forged_95
        rw [if_neg (show ¬ (10 : Int32) ≤ nI i from nI_ge hi (by decide)), hasM_n (by omega) (by omega)]
        by_cases z : g.testBit i = true
        · rw [b2i_t z, if_neg (by decide)]
          refine ⟨vp_in_nI hi (by decide), ?_⟩
          rw [nI_clamp (by omega), (rE2 i hi).1, b2i_t (hg2 i hi z), if_neg (by decide)]
          simp (disch := omega) only [z_lt_t, z_lt_f, z_le_t, z_le_f, z_eq_t, z_eq_f, z_lt0, z_lt1_t, z_lt1_f, z_lt2_t, z_lt2_f, z_le1_t, z_le1_f, z_le2_t, z_le2_f, z_eq1_t, z_eq1_f, z_eq2_t, z_eq2_f, z_lt1, z_lt2, z_le1, z_le2, z_eq1, z_eq2, z_lt, z_le, z_eq, z_in, z_cl, z_cl1, z_add, z_add1, z_addm, z_sub, z_subl, z_mul, z_mull, ↓forall_eq, ↓reduceIte, true_and, and_true, not_true_eq_false, not_false_eq_true, b2i_0, b2i_1, bz_b2i, bz_0, bz_1, nar_b2i, narb_0, narb_1, ↓within_eq, ↓lies_eq, i64i, zi0, zj0, zi1, zj1, zi2, zj2, zi3, zj3, zi4, zj4, zi5, zj5, zi6, zj6, zi7, zj7, zi8, zj8, zi9, zj9, zi10, zj10, zi12, zj12, zi13, zj13, zi19, zj19, zi20, zj20, zi21, zj21, zi29, zj29, zi30, zj30, zi39, zj39, zi48, zj48, zi50, zj50, zi57, zj57, zi60, zj60, zi63, zj63, zi65, zj65, zi71, zj71, zi72, zj72, zi73, zj73, zi74, zj74, zi80, zj80, zi97, zj97, zi98, zj98, zi99, zj99, zi100, zj100, zi106, zj106, zi240, zj240, zi255, zj255, zi260, zj260, zi300, zj300, zi999, zj999, zi1000, zj1000, zi1023, zj1023, zi1024, zj1024, zi9999, zj9999, zi65535, zj65535, zi65536, zj65536, z_tn, z_m1, z_m2, z_bt, z_bf, z_10, Bool.false_eq_true]
          exact ih (i + 1) (by omega)
        · rw [b2i_f z, if_pos rfl]
          simp (disch := omega) only [z_lt_t, z_lt_f, z_le_t, z_le_f, z_eq_t, z_eq_f, z_lt0, z_lt1_t, z_lt1_f, z_lt2_t, z_lt2_f, z_le1_t, z_le1_f, z_le2_t, z_le2_f, z_eq1_t, z_eq1_f, z_eq2_t, z_eq2_f, z_lt1, z_lt2, z_le1, z_le2, z_eq1, z_eq2, z_lt, z_le, z_eq, z_in, z_cl, z_cl1, z_add, z_add1, z_addm, z_sub, z_subl, z_mul, z_mull, ↓forall_eq, ↓reduceIte, true_and, and_true, not_true_eq_false, not_false_eq_true, b2i_0, b2i_1, bz_b2i, bz_0, bz_1, nar_b2i, narb_0, narb_1, ↓within_eq, ↓lies_eq, i64i, zi0, zj0, zi1, zj1, zi2, zj2, zi3, zj3, zi4, zj4, zi5, zj5, zi6, zj6, zi7, zj7, zi8, zj8, zi9, zj9, zi10, zj10, zi12, zj12, zi13, zj13, zi19, zj19, zi20, zj20, zi21, zj21, zi29, zj29, zi30, zj30, zi39, zj39, zi48, zj48, zi50, zj50, zi57, zj57, zi60, zj60, zi63, zj63, zi65, zj65, zi71, zj71, zi72, zj72, zi73, zj73, zi74, zj74, zi80, zj80, zi97, zj97, zi98, zj98, zi99, zj99, zi100, zj100, zi106, zj106, zi240, zj240, zi255, zj255, zi260, zj260, zi300, zj300, zi999, zj999, zi1000, zj1000, zi1023, zj1023, zi1024, zj1024, zi9999, zj9999, zi65535, zj65535, zi65536, zj65536, z_tn, z_m1, z_m2, z_bt, z_bf, z_10, Bool.false_eq_true]
          exact ih (i + 1) (by omega)
    exact key 10 0 rfl
  have walkn : ∀ (x1 x2 x3 x4 : Int32) (post : Int32 → xMem → Prop), ¬ (∀ k, k < 10 → g.testBit k = true → (e 0 0).testBit k = true) → post (-1) M → wX12_forged_67 post 11 (nI g) x2 x3 x4 0 M := by
    intro _ x2 x3 x4 post hg2 hp
    have key : ∀ (m i : Nat), i + m = 10 → (∀ k, k < i → g.testBit k = true → (e 0 0).testBit k = true) → wX12_forged_67 post (m + 1) (nI g) x2 x3 x4 (nI i) M := by
      intro m
      induction m with
      | zero =>
        intro i q hh
        exact absurd (fun k hk => hh k (by omega)) hg2
      | succ m ih =>
        intro i q hh
        have hi : i < 10 := by omega
        rw [wX12_forged_67]; dsimp only
        unfold wX12_forged_95
        rw [if_neg (show ¬ (10 : Int32) ≤ nI i from nI_ge hi (by decide)), hasM_n (by omega) (by omega)]
        by_cases z : g.testBit i = true
        · rw [b2i_t z, if_neg (by decide)]
          refine ⟨vp_in_nI hi (by decide), ?_⟩
          rw [nI_clamp (by omega), (rE2 i hi).1]
          by_cases z2 : (e 0 0).testBit i = true
          · rw [b2i_t z2, if_neg (by decide)]
            simp (disch := omega) only [z_lt_t, z_lt_f, z_le_t, z_le_f, z_eq_t, z_eq_f, z_lt0, z_lt1_t, z_lt1_f, z_lt2_t, z_lt2_f, z_le1_t, z_le1_f, z_le2_t, z_le2_f, z_eq1_t, z_eq1_f, z_eq2_t, z_eq2_f, z_lt1, z_lt2, z_le1, z_le2, z_eq1, z_eq2, z_lt, z_le, z_eq, z_in, z_cl, z_cl1, z_add, z_add1, z_addm, z_sub, z_subl, z_mul, z_mull, ↓forall_eq, ↓reduceIte, true_and, and_true, not_true_eq_false, not_false_eq_true, b2i_0, b2i_1, bz_b2i, bz_0, bz_1, nar_b2i, narb_0, narb_1, ↓within_eq, ↓lies_eq, i64i, zi0, zj0, zi1, zj1, zi2, zj2, zi3, zj3, zi4, zj4, zi5, zj5, zi6, zj6, zi7, zj7, zi8, zj8, zi9, zj9, zi10, zj10, zi12, zj12, zi13, zj13, zi19, zj19, zi20, zj20, zi21, zj21, zi29, zj29, zi30, zj30, zi39, zj39, zi48, zj48, zi50, zj50, zi57, zj57, zi60, zj60, zi63, zj63, zi65, zj65, zi71, zj71, zi72, zj72, zi73, zj73, zi74, zj74, zi80, zj80, zi97, zj97, zi98, zj98, zi99, zj99, zi100, zj100, zi106, zj106, zi240, zj240, zi255, zj255, zi260, zj260, zi300, zj300, zi999, zj999, zi1000, zj1000, zi1023, zj1023, zi1024, zj1024, zi9999, zj9999, zi65535, zj65535, zi65536, zj65536, z_tn, z_m1, z_m2, z_bt, z_bf, z_10, Bool.false_eq_true]
            refine ih (i + 1) (by omega) (fun k hk h1 => ?_)
            by_cases ek : k = i
            · subst ek; exact z2
            · exact hh k (by omega) h1
          · rw [b2i_f z2, if_pos rfl]
            exact hp
        · rw [b2i_f z, if_pos rfl]
          simp (disch := omega) only [z_lt_t, z_lt_f, z_le_t, z_le_f, z_eq_t, z_eq_f, z_lt0, z_lt1_t, z_lt1_f, z_lt2_t, z_lt2_f, z_le1_t, z_le1_f, z_le2_t, z_le2_f, z_eq1_t, z_eq1_f, z_eq2_t, z_eq2_f, z_lt1, z_lt2, z_le1, z_le2, z_eq1, z_eq2, z_lt, z_le, z_eq, z_in, z_cl, z_cl1, z_add, z_add1, z_addm, z_sub, z_subl, z_mul, z_mull, ↓forall_eq, ↓reduceIte, true_and, and_true, not_true_eq_false, not_false_eq_true, b2i_0, b2i_1, bz_b2i, bz_0, bz_1, nar_b2i, narb_0, narb_1, ↓within_eq, ↓lies_eq, i64i, zi0, zj0, zi1, zj1, zi2, zj2, zi3, zj3, zi4, zj4, zi5, zj5, zi6, zj6, zi7, zj7, zi8, zj8, zi9, zj9, zi10, zj10, zi12, zj12, zi13, zj13, zi19, zj19, zi20, zj20, zi21, zj21, zi29, zj29, zi30, zj30, zi39, zj39, zi48, zj48, zi50, zj50, zi57, zj57, zi60, zj60, zi63, zj63, zi65, zj65, zi71, zj71, zi72, zj72, zi73, zj73, zi74, zj74, zi80, zj80, zi97, zj97, zi98, zj98, zi99, zj99, zi100, zj100, zi106, zj106, zi240, zj240, zi255, zj255, zi260, zj260, zi300, zj300, zi999, zj999, zi1000, zj1000, zi1023, zj1023, zi1024, zj1024, zi9999, zj9999, zi65535, zj65535, zi65536, zj65536, z_tn, z_m1, z_m2, z_bt, z_bf, z_10, Bool.false_eq_true]
          refine ih (i + 1) (by omega) (fun k hk h1 => ?_)
          by_cases ek : k = i
          · subst ek; exact absurd h1 z
          · exact hh k (by omega) h1
    exact key 10 0 rfl (fun k hk => absurd hk (by omega))
  -- what the reference answers
  have refN : ¬ ((0 ≤ a1.toInt ∧ a1.toInt ≤ 1023) ∧ (0 ≤ a3.toInt ∧ a3.toInt ≤ 1) ∧ (∀ k, k < 10 → g.testBit k = true → (e 0 0).testBit k = true)) → ∀ post : Int32 → xMem → Prop, post (-1) M → wX12_forged (nI g) a1 a2 a3 M post := by
    intro hn post hp
    unfold wX12_forged
    rw [lies_eq, i64i, zj1, zj1023, b2i_t h0, if_neg (by decide), lies_eq, i64i, zj0, zj1023]
    by_cases q1 : 0 ≤ a1.toInt ∧ a1.toInt ≤ 1023
    rotate_left
    · rw [b2i_f q1, if_pos rfl]; exact hp
    rw [b2i_t q1, if_neg (by decide), lies_eq, i64i, m1, show (9 : Int64).toInt = 9 by decide]
    by_cases q2 : -1 ≤ a2.toInt ∧ a2.toInt ≤ 9
    rotate_left
    · rw [b2i_f q2, if_pos rfl]; exact hp
    rw [b2i_t q2, if_neg (by decide)]
    have f51 : wX12_forged_51 post (nI g) a1 a2 a3 M := by
      unfold wX12_forged_51
      rw [lies_eq, i64i, zj0, zj1]
      by_cases q3 : 0 ≤ a3.toInt ∧ a3.toInt ≤ 1
      · rw [b2i_t q3, if_neg (by decide)]
        exact ⟨11, walkn 0 _ _ _ _ (fun z => hn ⟨q1, q3, z⟩) hp⟩
      · rw [b2i_f q3, if_pos rfl]; exact hp
    by_cases q3 : a2 = -1
    · rw [if_pos q3]; exact f51
    · rw [if_neg q3, hasM_eq]
      by_cases q8 : ((a1 >>> (a2 &&& 31)) &&& 1) = 1
      · rw [if_pos q8, if_neg (by decide)]; exact f51
      · rw [if_neg q8, if_pos rfl]; exact hp
  have clsN : (∀ post : Int32 → xMem → Prop, post (-1) M → wX12_forged (nI g) a1 a2 a3 M post) → wX11_forged_50 (fun r C' => wX12_forged (nI g) a1 a2 a3 M (fun r' M' => r = r' ∧ RRL LL C' M')) (nI g) a1 a2 a3 C := fun hh => by
    unfold wX11_forged_50 wX11_forged_51
    rw [if_pos rfl]
    exact hh _ ⟨rfl, h⟩
  unfold wX11_forged
  rw [within_eq, zi1, zi1023, b2i_t h0, if_neg (by decide), rE.1]
  by_cases q4 : ∀ k, k < 10 → g.testBit k = true → (e 0 0).testBit k = true
  rotate_left
  · rw [if_neg (fun z => q4 ((told_sub (by omega) wE.1).mp ((and0_n (by omega) wE.1).mp z)))]
    exact clsN (refN (fun z => q4 z.2.2))
  rw [if_pos ((and0_n (by omega) wE.1).mpr ((told_sub (by omega) wE.1).mpr q4)), within_eq, zi0, zi1023]
  by_cases q1 : 0 ≤ a1.toInt ∧ a1.toInt ≤ 1023
  rotate_left
  · rw [b2i_f q1, if_pos rfl]
    exact clsN (refN (fun z => q1 z.1))
  rw [b2i_t q1, if_neg (by decide), within_eq, zi0, zi1]
  by_cases q3 : 0 ≤ a3.toInt ∧ a3.toInt ≤ 1
  rotate_left
  · rw [b2i_f q3, if_pos rfl]
    exact clsN (refN (fun z => q3 z.2.1))
  rw [b2i_t q3, if_neg (by decide)]
  obtain ⟨sn, hsn, rfl⟩ := at_n (a := a1) (n := 1023) q1 (by decide)
  unfold wX11_forged_51
  rw [if_neg (by decide)]
  have both : ∀ sm, sm ≤ 10 → a2 = sm32 sm → (sm ≠ 10 → sn.testBit sm = true) → wX11_forged_73 (fun r C' => wX12_forged (nI g) (nI sn) a2 a3 M (fun r' M' => r = r' ∧ RRL LL C' M')) (nI g) (nI sn) a2 a3 C := by
    intro sm hsm e2 hin
    subst e2
    have refY : ∀ post : Int32 → xMem → Prop, wX12_leftBy (nI g) (nI sn) (sm32 sm) M (fun r3 M2 => if a3 = 0 then post r3 M2 else wX12_nextThread r3 (nI sn) M2 (fun r6 M5 => post r6 M5)) → wX12_forged (nI g) (nI sn) (sm32 sm) a3 M post := by
      intro post hp
      unfold wX12_forged
      rw [lies_eq, i64i, zj1, zj1023, b2i_t h0, if_neg (by decide), lies_eq, i64i, zj0, zj1023, b2i_t q1, if_neg (by decide), lies_eq, i64i, m1, show (9 : Int64).toInt = 9 by decide]
      have f51 : wX12_forged_51 post (nI g) (nI sn) (sm32 sm) a3 M := by
        unfold wX12_forged_51
        rw [lies_eq, i64i, zj0, zj1, b2i_t q3, if_neg (by decide)]
        exact ⟨11, walk 0 _ _ _ _ q4 hp⟩
      by_cases s : sm = 10
      · have e1 : sm32 sm = -1 := if_pos s
        rw [b2i_t (by rw [e1]; decide), if_neg (by decide), if_pos e1]
        exact f51
      · have e1 : sm32 sm = nI sm := if_neg s
        rw [b2i_t (by rw [e1, nI_toInt (by omega)]; omega), if_neg (by decide)]
        rw [if_neg (fun z => nI_m1 (n := sm) (by omega) (by rw [← e1]; exact z)), e1, hasM_n (by omega) (by omega), b2i_t (hin s), if_neg (by decide), ← e1]
        exact f51
    unfold wX11_forged_73
    refine leftC wE rE (by omega) (by omega) hsm q4 _ ?_
    have hlt : gTold e (lf e g sn sm) := fun k hk hb => q4 k hk (lf_sub hb).2.1
    by_cases c : a3 = 0
    · rw [if_pos c]
      refine refY _ (leftM wE rE2 (by omega) (by omega) hsm q4 _ ?_)
      rw [if_pos c]
      exact ⟨rfl, h⟩
    · rw [if_neg c]
      refine nextC wE rE (lf_lt _ _ _ _) hlt _ ?_
      refine refY _ (leftM wE rE2 (by omega) (by omega) hsm q4 _ ?_)
      rw [if_neg c]
      exact nextM wE rE2 (lf_lt _ _ _ _) (by omega) hlt (fun t ht hb => lf_skip ht hb) _ ⟨rfl, h⟩
  by_cases q5 : a2 = -1
  · rw [if_pos q5]
    exact both 10 (by omega) q5 (fun z => absurd rfl z)
  · rw [if_neg q5, hasC_eq]
    have refO : (∀ post : Int32 → xMem → Prop, post (-1) M → wX12_forged (nI g) (nI sn) a2 a3 M post) → wX12_forged (nI g) (nI sn) a2 a3 M (fun r' M' => (-1 : Int32) = r' ∧ RRL LL C M') := fun hh => hh _ ⟨rfl, h⟩
    have pre : ∀ post : Int32 → xMem → Prop, ((-1 ≤ a2.toInt ∧ a2.toInt ≤ 9) → wX12_has (nI sn) a2 M (fun r12 M11 => if r12 = 0 then post (-1) M11 else wX12_forged_51 post (nI g) (nI sn) a2 a3 M11)) → (¬ (-1 ≤ a2.toInt ∧ a2.toInt ≤ 9) → post (-1) M) → wX12_forged (nI g) (nI sn) a2 a3 M post := by
      intro post hp1 hp2
      unfold wX12_forged
      rw [lies_eq, i64i, zj1, zj1023, b2i_t h0, if_neg (by decide), lies_eq, i64i, zj0, zj1023, b2i_t q1, if_neg (by decide), lies_eq, i64i, m1, show (9 : Int64).toInt = 9 by decide]
      by_cases z : -1 ≤ a2.toInt ∧ a2.toInt ≤ 9
      · rw [b2i_t z, if_neg (by decide), if_neg q5]; exact hp1 z
      · rw [b2i_f z, if_pos rfl]; exact hp2 z
    have hne : ¬ a2.toInt = -1 := fun z => q5 (Int32.toInt_inj.mp (by rw [z]; decide))
    by_cases q6 : a2 < 0
    · rw [if_pos q6, if_pos rfl]
      refine refO (fun post hp => pre post (fun z => ?_) (fun _ => hp))
      have := Int32.lt_iff_toInt_lt.mp q6
      rw [zi0] at this
      omega
    · rw [if_neg q6]
      have q6' : ¬ a2.toInt < 0 := fun z => q6 (Int32.lt_iff_toInt_lt.mpr (by rw [zi0]; exact z))
      by_cases q7 : (10 : Int32) ≤ a2
      · rw [if_pos q7, if_pos rfl]
        refine refO (fun post hp => pre post (fun z => ?_) (fun _ => hp))
        have := Int32.le_iff_toInt_le.mp q7
        rw [zi10] at this
        omega
      · rw [if_neg q7]
        have q7' : ¬ 10 ≤ a2.toInt := fun z => q7 (Int32.le_iff_toInt_le.mpr (by rw [zi10]; exact z))
        obtain ⟨sm, hsm, rfl⟩ := at_n (a := a2) (n := 9) (by omega) (by decide)
        rw [bit_n (by omega) (by omega)]
        by_cases z : sn.testBit sm = true
        · rw [b2i_t z, if_pos rfl, if_neg (by decide)]
          exact both sm (by omega) (if_neg (by omega)).symm (fun _ => z)
        · rw [b2i_f z, if_neg (show ¬ (0 : Int32) = 1 by decide), if_pos rfl]
          refine refO (fun post hp => pre post (fun _ => ?_) (fun _ => hp))
          rw [hasM_n (by omega) (by omega), b2i_f z, if_pos rfl]
          exact hp
