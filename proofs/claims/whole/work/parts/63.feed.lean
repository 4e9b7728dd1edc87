theorem sh_byte (x : BitVec 32) (s : Nat) (hs : s ≤ 24) : (x.sshiftRight s &&& 255#32) = ((x >>> s) &&& 255#32) := by
  apply BitVec.eq_of_getLsbD_eq
  intro i hi
  rw [BitVec.getLsbD_and, BitVec.getLsbD_and, BitVec.getLsbD_sshiftRight, BitVec.getLsbD_ushiftRight]
  have e : (255#32).getLsbD i = decide (i < 8) := by
    have key : ∀ j : Fin 32, (255#32).getLsbD j.1 = decide (j.1 < 8) := by decide +kernel
    exact key ⟨i, hi⟩
  rw [e]
  by_cases q : i < 8
  · have : s + i < 32 := by omega
    simp [q, hi, this]
  · simp [q]
theorem tr_byte (x : BitVec 32) : ((x.signExtend 8).signExtend 32 &&& 255#32) = (x &&& 255#32) := by
  apply BitVec.eq_of_getLsbD_eq
  intro i hi
  rw [BitVec.getLsbD_and, BitVec.getLsbD_and, BitVec.getLsbD_signExtend, BitVec.getLsbD_signExtend]
  have e : (255#32).getLsbD i = decide (i < 8) := by
    have key : ∀ j : Fin 32, (255#32).getLsbD j.1 = decide (j.1 < 8) := by decide +kernel
    exact key ⟨i, hi⟩
  rw [e]
  by_cases q : i < 8
  · simp [q, hi]
  · simp [q]
theorem tr_b (x : Int32) : x.toInt8.toInt32 &&& 255 = x &&& 255 := by
  apply Int32.toBitVec_inj.mp
  exact tr_byte x.toBitVec
def fB (a : Int32) (j : Nat) : Int32 := xushr a (nI (24 - 8 * j)) &&& 255
def fB2 (a : Int32) (j : Nat) : Int32 := vp_nar .byte ((a >>> (nI (24 - 8 * j) &&& 31)).toInt8.toInt32)
theorem fB_eq (a : Int32) {j : Nat} (hj : j < 4) : fB2 a j &&& 255 = fB a j := by
  unfold fB fB2
  rw [pk_vb, tr_b]
  apply Int32.toBitVec_inj.mp
  have h : j = 0 ∨ j = 1 ∨ j = 2 ∨ j = 3 := by omega
  rcases h with rfl | rfl | rfl | rfl
  · exact sh_byte a.toBitVec 24 (by omega)
  · exact sh_byte a.toBitVec 16 (by omega)
  · exact sh_byte a.toBitVec 8 (by omega)
  · exact sh_byte a.toBitVec 0 (by omega)
theorem nI_bv (x : Int32) : x = nI x.toBitVec.toNat := by
  apply Int32.toBitVec_inj.mp
  show x.toBitVec = BitVec.ofNat 32 x.toBitVec.toNat
  simp
theorem fB_lt (a : Int32) (j : Nat) : ∃ v, v < 256 ∧ fB a j = nI v := by
  unfold fB
  rw [nI_bv (xushr a (nI (24 - 8 * j))), pk_andN (BitVec.isLt _) 8 (by decide)]
  exact ⟨_, Nat.mod_lt _ (by decide), rfl⟩
/-- four bytes more -/
def pB (f : Nat → Int32) (n j : Nat) (C C' : xMem) : Prop := ∀ c i, gi C' c i = if c = 0 ∧ i = 1 then nI (n + j) else if c = 1 ∧ n ≤ i ∧ i < n + j then f (i - n) else gi C c i
theorem pB_s {f : Nat → Int32} {n j : Nat} {C C1 : xMem} (h : pB f n j C C1) : pB f n (j + 1) C (si (si C1 1 (n + j) (f j)) 0 1 (nI (n + j + 1))) := by
  intro c i
  simp only [gi_si]
  have h0 := h c i
  by_cases q : c = 0 ∧ i = 1
  · rw [if_pos q, if_pos q]; congr 1
  · rw [if_neg q, if_neg q]
    rw [if_neg q] at h0
    by_cases q2 : c = 1 ∧ i = n + j
    · rw [if_pos q2, if_pos ⟨q2.1, by omega, by omega⟩]
      congr 1
      omega
    · rw [if_neg q2, h0]
      by_cases q3 : c = 1 ∧ n ≤ i ∧ i < n + j
      · rw [if_pos q3, if_pos ⟨q3.1, q3.2.1, by omega⟩]
      · rw [if_neg q3, if_neg (fun z => q3 ⟨z.1, z.2.1, by omega⟩)]
theorem putC {n : Nat} (hn : n + 4 ≤ 260) (a : Int32) {C : xMem} (h : gi C 0 1 = nI n) (post : xMem → Prop) (hp : ∀ C', pB (fB a) n 4 C C' → post C') : wX11_putOnTape a C post := by
  have key : ∀ (m j : Nat) (C1 : xMem), j + m = 4 → pB (fB a) n j C C1 → wX11_putOnTape_3 post (m + 1) a (if j = 4 then -8 else nI (24 - 8 * j)) C1 := by
    intro m
    induction m with
    | zero =>
      intro j C1 e hC
      have : j = 4 := by omega
      subst this
      rw [wX11_putOnTape_3]; dsimp only
      rw [if_pos rfl, if_pos (by decide)]
      exact hp C1 hC
    | succ m ih =>
      intro j C1 e hC
      have hj : j < 4 := by omega
      have h1 : gi C1 0 1 = nI (n + j) := by rw [hC 0 1, if_pos ⟨rfl, rfl⟩]
      rw [wX11_putOnTape_3]; dsimp only
      rw [if_neg (show ¬ j = 4 by omega)]
      have e8 : nI (24 - 8 * j) + (-8) = if j + 1 = 4 then -8 else nI (24 - 8 * (j + 1)) := by
        have hc : j = 0 ∨ j = 1 ∨ j = 2 ∨ j = 3 := by omega
        rcases hc with rfl | rfl | rfl | rfl <;> decide
      unfold wX11_putOnTape_43
      generalize nI (24 - 8 * j) + (-8) = x at e8 ⊢
      simp (disch := omega) only [z_lt_t, z_lt_f, z_le_t, z_le_f, z_eq_t, z_eq_f, z_lt0, z_lt1_t, z_lt1_f, z_lt2_t, z_lt2_f, z_le1_t, z_le1_f, z_le2_t, z_le2_f, z_eq1_t, z_eq1_f, z_eq2_t, z_eq2_f, z_lt1, z_lt2, z_le1, z_le2, z_eq1, z_eq2, z_lt, z_le, z_eq, z_in, z_cl, z_cl1, z_add, z_add1, z_addm, z_sub, z_subl, z_mul, z_mull, ↓forall_eq, ↓reduceIte, true_and, and_true, not_true_eq_false, not_false_eq_true, b2i_0, b2i_1, bz_b2i, bz_0, bz_1, nar_b2i, narb_0, narb_1, ↓within_eq, ↓lies_eq, i64i, zi0, zj0, zi1, zj1, zi2, zj2, zi3, zj3, zi4, zj4, zi5, zj5, zi6, zj6, zi7, zj7, zi8, zj8, zi9, zj9, zi10, zj10, zi12, zj12, zi13, zj13, zi19, zj19, zi20, zj20, zi21, zj21, zi29, zj29, zi30, zj30, zi39, zj39, zi48, zj48, zi50, zj50, zi57, zj57, zi60, zj60, zi63, zj63, zi65, zj65, zi71, zj71, zi72, zj72, zi73, zj73, zi74, zj74, zi80, zj80, zi97, zj97, zi98, zj98, zi99, zj99, zi100, zj100, zi106, zj106, zi240, zj240, zi255, zj255, zi260, zj260, zi300, zj300, zi999, zj999, zi1000, zj1000, zi1023, zj1023, zi1024, zj1024, zi9999, zj9999, zi65535, zj65535, zi65536, zj65536, z_tn, z_m1, z_m2, z_bt, z_bf, z_10, Bool.false_eq_true, h1, g_c]
      have e9 := ih (j + 1) _ (by omega) (pB_s hC)
      rw [← e8] at e9
      unfold fB at e9
      exact e9
  exact ⟨5, key 4 0 C (by omega) (fun c i => by
    by_cases q : c = 0 ∧ i = 1
    · rw [if_pos q, q.1, q.2]; exact h
    · rw [if_neg q, if_neg (by omega)])⟩
theorem putM {n : Nat} (hn : n + 4 ≤ 260) (a : Int32) {C : xMem} (h : gi C 0 1 = nI n) (post : xMem → Prop) (hp : ∀ C', pB (fB2 a) n 4 C C' → post C') : wX12_push a C post := by
  have key : ∀ (m j : Nat) (C1 : xMem), j + m = 4 → pB (fB2 a) n j C C1 → wX12_push_3 post (m + 1) a (if j = 4 then -8 else nI (24 - 8 * j)) C1 := by
    intro m
    induction m with
    | zero =>
      intro j C1 e hC
      have : j = 4 := by omega
      subst this
      rw [wX12_push_3]; dsimp only
      rw [if_pos rfl, if_pos (by decide)]
      exact hp C1 hC
    | succ m ih =>
      intro j C1 e hC
      have hj : j < 4 := by omega
      have h1 : gi C1 0 1 = nI (n + j) := by rw [hC 0 1, if_pos ⟨rfl, rfl⟩]
      rw [wX12_push_3]; dsimp only
      rw [if_neg (show ¬ j = 4 by omega)]
      have e8 : nI (24 - 8 * j) + (-8) = if j + 1 = 4 then -8 else nI (24 - 8 * (j + 1)) := by
        have hc : j = 0 ∨ j = 1 ∨ j = 2 ∨ j = 3 := by omega
        rcases hc with rfl | rfl | rfl | rfl <;> decide
      generalize nI (24 - 8 * j) + (-8) = x at e8 ⊢
      simp (disch := omega) only [z_lt_t, z_lt_f, z_le_t, z_le_f, z_eq_t, z_eq_f, z_lt0, z_lt1_t, z_lt1_f, z_lt2_t, z_lt2_f, z_le1_t, z_le1_f, z_le2_t, z_le2_f, z_eq1_t, z_eq1_f, z_eq2_t, z_eq2_f, z_lt1, z_lt2, z_le1, z_le2, z_eq1, z_eq2, z_lt, z_le, z_eq, z_in, z_cl, z_cl1, z_add, z_add1, z_addm, z_sub, z_subl, z_mul, z_mull, ↓forall_eq, ↓reduceIte, true_and, and_true, not_true_eq_false, not_false_eq_true, b2i_0, b2i_1, bz_b2i, bz_0, bz_1, nar_b2i, narb_0, narb_1, ↓within_eq, ↓lies_eq, i64i, zi0, zj0, zi1, zj1, zi2, zj2, zi3, zj3, zi4, zj4, zi5, zj5, zi6, zj6, zi7, zj7, zi8, zj8, zi9, zj9, zi10, zj10, zi12, zj12, zi13, zj13, zi19, zj19, zi20, zj20, zi21, zj21, zi29, zj29, zi30, zj30, zi39, zj39, zi48, zj48, zi50, zj50, zi57, zj57, zi60, zj60, zi63, zj63, zi65, zj65, zi71, zj71, zi72, zj72, zi73, zj73, zi74, zj74, zi80, zj80, zi97, zj97, zi98, zj98, zi99, zj99, zi100, zj100, zi106, zj106, zi240, zj240, zi255, zj255, zi260, zj260, zi300, zj300, zi999, zj999, zi1000, zj1000, zi1023, zj1023, zi1024, zj1024, zi9999, zj9999, zi65535, zj65535, zi65536, zj65536, z_tn, z_m1, z_m2, z_bt, z_bf, z_10, Bool.false_eq_true, h1, g_c]
      have e9 := ih (j + 1) _ (by omega) (pB_s hC)
      rw [← e8] at e9
      unfold fB2 at e9
      exact e9
  exact ⟨5, key 4 0 C (by omega) (fun c i => by
    by_cases q : c = 0 ∧ i = 1
    · rw [if_pos q, q.1, q.2]; exact h
    · rw [if_neg q, if_neg (by omega)])⟩
def TT (n : Nat) (C M : xMem) : Prop := gi C 0 1 = nI n ∧ gi M 0 1 = nI n ∧ ∀ i, i < n → gi M 1 i &&& 255 = gi C 1 i ∧ (∃ v, v < 256 ∧ gi C 1 i = nI v) ∧ ∃ w : Int8, gi M 1 i = w.toInt32
theorem TT_s {n : Nat} {a : Int32} {C M C' M' : xMem} (h : TT n C M) (hC : pB (fB a) n 4 C C') (hM : pB (fB2 a) n 4 M M') : TT (n + 4) C' M' := by
  refine ⟨by rw [hC 0 1, if_pos ⟨rfl, rfl⟩], by rw [hM 0 1, if_pos ⟨rfl, rfl⟩], fun i hi => ?_⟩
  rw [hC 1 i, hM 1 i, if_neg (show ¬ (1 = 0 ∧ i = 1) by omega), if_neg (show ¬ (1 = 0 ∧ i = 1) by omega)]
  by_cases q : n ≤ i
  · rw [if_pos ⟨rfl, q, hi⟩, if_pos ⟨rfl, q, hi⟩]
    exact ⟨fB_eq a (by omega), fB_lt a _, _, rfl⟩
  · rw [if_neg (show ¬ (1 = 1 ∧ n ≤ i ∧ i < n + 4) by omega), if_neg (show ¬ (1 = 1 ∧ n ≤ i ∧ i < n + 4) by omega)]
    exact h.2.2 i (by omega)
theorem pB_f {f : Nat → Int32} {n : Nat} {C C' : xMem} (h : pB f n 4 C C') {c i : Nat} (h1 : c ≠ 1) (h2 : ¬ (c = 0 ∧ i = 1)) : gi C' c i = gi C c i := by rw [h c i, if_neg h2, if_neg (by omega)]
theorem RRL_tape {LL : xMem → xMem → Prop} (hLL : LLc LL) {C M C' M' : xMem} (h : RRL LL C M) {n : Nat} (hn : n ≤ 260) (hT : TT n C' M') (fC : ∀ c i, c ≠ 1 → ¬ (c = 0 ∧ i = 1) → gi C' c i = gi C c i) (fM : ∀ c i, c ≠ 1 → ¬ (c = 0 ∧ i = 1) → gi M' c i = gi M c i) : RRL LL C' M' := by
  obtain ⟨⟨S, e, hl, hk, il, to, il2, to2, kp, tn, t, hR⟩, hL⟩ := h
  obtain ⟨rS, ⟨wE, rE, rE2⟩, ⟨wH, tL, rH, rH2⟩, ⟨k1, k2, k3⟩, ⟨wT, rT, rT2⟩, x1, x2⟩ := hR
  refine ⟨⟨S, e, hl, hk, il, to, il2, to2, kp, n, fun i => (gi C' 1 i).toBitVec.toNat, fun k hk6 => ⟨(rS k hk6).1, SC_keep hk6 (fun c i _ _ => fC c i (by omega) (by omega)) (rS k hk6).2.1, SM_keep (fun c i _ _ => fM c i (by omega) (by omega)) (rS k hk6).2.2⟩, ⟨wE, EC_keep (fC _ _ (by omega) (by omega)) (fun c i _ _ => fC c i (by omega) (by omega)) rE, EM_keep (fun c i _ _ _ => fM c i (by omega) (by omega)) rE2⟩, ⟨wH, tL, HC_keep (fun c i _ _ => fC c i (by omega) (by omega)) rH, HM_keep (fun c i _ _ _ => fM c i (by omega) (by omega)) (fun i hi => fM 0 i (by omega) (by omega)) rH2⟩, ⟨?_, ?_, fun q => ⟨(k3 q).1, HC_keep (fun c i _ _ => fC c i (by omega) (by omega)) (k3 q).2.1, HA_keep (fun c i _ _ => fM c i (by omega) (by omega)) (k3 q).2.2⟩⟩, ⟨⟨hn, fun i hi => ?_⟩, ⟨hT.1, fun i hi => nI_bv _⟩, ⟨hT.2.1, fun i hi => ?_⟩⟩, ?_, ?_⟩, ?_⟩
  · rw [fC _ _ (by omega) (by omega)]; exact k1
  · rw [fM _ _ (by omega) (by omega)]; exact k2
  · obtain ⟨v, hv, e9⟩ := (hT.2.2 i hi).2.1
    show (gi C' 1 i).toBitVec.toNat < 256
    rw [e9]
    show (BitVec.ofNat 32 v).toNat < 256
    rw [BitVec.toNat_ofNat]
    omega
  · exact ⟨by rw [(hT.2.2 i hi).1]; exact nI_bv _, (hT.2.2 i hi).2.2⟩
  · rw [fM _ _ (by omega) (by omega)]; exact x1
  · rw [fC _ _ (by omega) (by omega), fC _ _ (by omega) (by omega)]; exact x2
  · exact hLL _ _ _ _ (fun c i hc => fC c i (by unfold lawC at hc; omega) (by unfold lawC at hc; omega)) (fun c i _ _ => fM c i (by omega) (by omega)) (fM _ _ (by omega) (by omega)) hL
theorem feed_ok {LL : xMem → xMem → Prop} (hLL : LLc LL) (a0 a1 a2 a3 a4 : Int32) (C M : xMem) (h : RRL LL C M) : wX11_feed a0 a1 a2 a3 a4 C (fun r C' => wX12_feed a0 a1 a2 a3 a4 M (fun r' M' => r = r' ∧ RRL LL C' M')) := by
  obtain ⟨⟨S, e, hl, hk, il, to, il2, to2, kp, tn, t, hR⟩, hL⟩ := id h
  obtain ⟨rS, ⟨wE, rE, rE2⟩, ⟨wH, tL, rH, rH2⟩, ⟨k1, k2, k3⟩, ⟨wT, rT, rT2⟩, x1, x2⟩ := id hR
  have hT : TT tn C M := ⟨rT.1, rT2.1, fun i hi => ⟨by rw [(rT2.2 i hi).1, rT.2 i hi], ⟨_, wT.2 i hi, rT.2 i hi⟩, (rT2.2 i hi).2⟩⟩
  have hw := wT.1
  unfold wX11_feed wX12_feed
  by_cases h0 : tn + 20 ≤ 260
  · simp (disch := omega) only [z_lt_t, z_lt_f, z_le_t, z_le_f, z_eq_t, z_eq_f, z_lt0, z_lt1_t, z_lt1_f, z_lt2_t, z_lt2_f, z_le1_t, z_le1_f, z_le2_t, z_le2_f, z_eq1_t, z_eq1_f, z_eq2_t, z_eq2_f, z_lt1, z_lt2, z_le1, z_le2, z_eq1, z_eq2, z_lt, z_le, z_eq, z_in, z_cl, z_cl1, z_add, z_add1, z_addm, z_sub, z_subl, z_mul, z_mull, ↓forall_eq, ↓reduceIte, true_and, and_true, not_true_eq_false, not_false_eq_true, b2i_0, b2i_1, bz_b2i, bz_0, bz_1, nar_b2i, narb_0, narb_1, ↓within_eq, ↓lies_eq, i64i, zi0, zj0, zi1, zj1, zi2, zj2, zi3, zj3, zi4, zj4, zi5, zj5, zi6, zj6, zi7, zj7, zi8, zj8, zi9, zj9, zi10, zj10, zi12, zj12, zi13, zj13, zi19, zj19, zi20, zj20, zi21, zj21, zi29, zj29, zi30, zj30, zi39, zj39, zi48, zj48, zi50, zj50, zi57, zj57, zi60, zj60, zi63, zj63, zi65, zj65, zi71, zj71, zi72, zj72, zi73, zj73, zi74, zj74, zi80, zj80, zi97, zj97, zi98, zj98, zi99, zj99, zi100, zj100, zi106, zj106, zi240, zj240, zi255, zj255, zi260, zj260, zi300, zj300, zi999, zj999, zi1000, zj1000, zi1023, zj1023, zi1024, zj1024, zi9999, zj9999, zi65535, zj65535, zi65536, zj65536, z_tn, z_m1, z_m2, z_bt, z_bf, z_10, Bool.false_eq_true, rT.1, rT2.1]
    refine putC (by omega) a0 hT.1 _ (fun C1 c1 => ?_)
    refine putC (n := tn + 4) (by omega) a1 (by rw [c1 0 1, if_pos ⟨rfl, rfl⟩]) _ (fun C2 c2 => ?_)
    refine putC (n := tn + 8) (by omega) a2 (by rw [c2 0 1, if_pos ⟨rfl, rfl⟩]) _ (fun C3 c3 => ?_)
    refine putC (n := tn + 12) (by omega) a3 (by rw [c3 0 1, if_pos ⟨rfl, rfl⟩]) _ (fun C4 c4 => ?_)
    refine putC (n := tn + 16) (by omega) a4 (by rw [c4 0 1, if_pos ⟨rfl, rfl⟩]) _ (fun C5 c5 => ?_)
    refine putM (by omega) a0 hT.2.1 _ (fun M1 m1 => ?_)
    refine putM (n := tn + 4) (by omega) a1 (by rw [m1 0 1, if_pos ⟨rfl, rfl⟩]) _ (fun M2 m2 => ?_)
    refine putM (n := tn + 8) (by omega) a2 (by rw [m2 0 1, if_pos ⟨rfl, rfl⟩]) _ (fun M3 m3 => ?_)
    refine putM (n := tn + 12) (by omega) a3 (by rw [m3 0 1, if_pos ⟨rfl, rfl⟩]) _ (fun M4 m4 => ?_)
    refine putM (n := tn + 16) (by omega) a4 (by rw [m4 0 1, if_pos ⟨rfl, rfl⟩]) _ (fun M5 m5 => ?_)
    have t5 := TT_s (TT_s (TT_s (TT_s (TT_s hT c1 m1) c2 m2) c3 m3) c4 m4) c5 m5
    refine ⟨by rw [t5.1, t5.2.1], RRL_tape hLL h (n := tn + 20) (by omega) t5 (fun c i h1 h2 => ?_) (fun c i h1 h2 => ?_)⟩
    · rw [pB_f c5 h1 h2, pB_f c4 h1 h2, pB_f c3 h1 h2, pB_f c2 h1 h2, pB_f c1 h1 h2]
    · rw [pB_f m5 h1 h2, pB_f m4 h1 h2, pB_f m3 h1 h2, pB_f m2 h1 h2, pB_f m1 h1 h2]
  · simp (disch := omega) only [z_lt_t, z_lt_f, z_le_t, z_le_f, z_eq_t, z_eq_f, z_lt0, z_lt1_t, z_lt1_f, z_lt2_t, z_lt2_f, z_le1_t, z_le1_f, z_le2_t, z_le2_f, z_eq1_t, z_eq1_f, z_eq2_t, z_eq2_f, z_lt1, z_lt2, z_le1, z_le2, z_eq1, z_eq2, z_lt, z_le, z_eq, z_in, z_cl, z_cl1, z_add, z_add1, z_addm, z_sub, z_subl, z_mul, z_mull, ↓forall_eq, ↓reduceIte, true_and, and_true, not_true_eq_false, not_false_eq_true, b2i_0, b2i_1, bz_b2i, bz_0, bz_1, nar_b2i, narb_0, narb_1, ↓within_eq, ↓lies_eq, i64i, zi0, zj0, zi1, zj1, zi2, zj2, zi3, zj3, zi4, zj4, zi5, zj5, zi6, zj6, zi7, zj7, zi8, zj8, zi9, zj9, zi10, zj10, zi12, zj12, zi13, zj13, zi19, zj19, zi20, zj20, zi21, zj21, zi29, zj29, zi30, zj30, zi39, zj39, zi48, zj48, zi50, zj50, zi57, zj57, zi60, zj60, zi63, zj63, zi65, zj65, zi71, zj71, zi72, zj72, zi73, zj73, zi74, zj74, zi80, zj80, zi97, zj97, zi98, zj98, zi99, zj99, zi100, zj100, zi106, zj106, zi240, zj240, zi255, zj255, zi260, zj260, zi300, zj300, zi999, zj999, zi1000, zj1000, zi1023, zj1023, zi1024, zj1024, zi9999, zj9999, zi65535, zj65535, zi65536, zj65536, z_tn, z_m1, z_m2, z_bt, z_bf, z_10, Bool.false_eq_true, rT.1, rT2.1]
    exact h
