/-! law(), copy() -/
theorem copyM {M : xMem} {cs : List xQ4} {K : List (Nat × Nat)} (h : rpM 0 cs K M) (h28 : gi M 0 28 = nI K.length) (hcs : cs.length ≤ 16) (hK : K.length ≤ 240) (hc : ∀ i, i < cs.length → (cs.getD i (0, 0, 0, 0)).2.1 < 1000 ∧ (cs.getD i (0, 0, 0, 0)).2.2.1 < 1000 ∧ (cs.getD i (0, 0, 0, 0)).2.2.2 < 1000) (post : Int32 → xMem → Prop) (hp : ∀ M', fr9 1 M M' → gi M' 0 28 = gi M 0 28 → rpM 1 cs K M' → post (nI cs.length) M') : wX12_copy M post := by
  obtain ⟨b1, b2, b3⟩ := h
  simp only [Nat.mul_zero, Nat.zero_add] at b2 b3
  have l16 : ∀ j : Nat, (16 : Int32) + nI j = nI (16 + j) := fun j => nI_add 16 j
  have l240 : ∀ j : Nat, (240 : Int32) + nI j = nI (240 + j) := fun j => nI_add 240 j
  have v02 := vp0 (N := 2) (by decide) (by decide)
  have v12 := vl (n := 1) (N := 2) (by decide) (by decide)
  have loop2 : ∀ m j M1, j + m = K.length → fr9 1 M M1 → gi M1 0 28 = gi M 0 28 → (∀ i, i < cs.length → gi M1 9 (16 + i) = nI (lt7 (cs.getD i (0, 0, 0, 0)).1) ∧ gi M1 10 (16 + i) = nI (240 + (cs.getD i (0, 0, 0, 0)).2.1) ∧ gi M1 11 (16 + i) = nI (240 + (cs.getD i (0, 0, 0, 0)).2.2.1) ∧ gi M1 12 (16 + i) = nI (240 + (cs.getD i (0, 0, 0, 0)).2.2.2)) → (∀ i, i < j → gi M1 13 (240 + i) = nI (K.getD i (0, 0)).1 ∧ gi M1 14 (240 + i) = nI (K.getD i (0, 0)).2) → wX12_copy_92 post (m + 1) (nI j) M1 := by
    intro m
    induction m with
    | zero =>
      intro j M1 hj h1 h0 h2 h3
      have e15 : gi M1 15 0 = nI cs.length := by rw [h1 _ _ (by omega) (by omega) (by omega) (by omega)]; exact b1
      rw [wX12_copy_92]; dsimp only
      rw [h0, h28, if_pos (nI_le (by omega) (by omega)), e15]
      refine ⟨v02, v12, ?_⟩
      intro M4 e4
      refine ⟨v12, ?_⟩
      rw [show gi M4 15 1 = nI cs.length by rw [e4, g_same]]
      refine hp M4 (fun c i y1 y2 y3 y4 => ?_) (by rw [e4, g_c (by decide)]; exact h0) ⟨by rw [e4, g_same], fun i hi => ?_, fun i hi => ?_⟩
      · rw [e4, gi_si, if_neg y3]; exact h1 c i y1 y2 y3 y4
      · rw [e4, g_c (by decide), g_c (by decide), g_c (by decide), g_c (by decide)]
        exact h2 i hi
      · rw [e4, g_c (by decide), g_c (by decide)]
        exact h3 i (by omega)
    | succ m ih =>
      intro j M1 hj h1 h0 h2 h3
      have hjl : j < K.length := by omega
      have v1 := vl (n := j) (N := 480) (by omega) (by decide)
      have v2 := vl (n := 240 + j) (N := 480) (by omega) (by decide)
      rw [wX12_copy_92]; dsimp only
      rw [h0, h28, if_neg (nI_ge hjl (by omega)), l240]
      refine ⟨v1, v2, ?_⟩
      intro M7 e7
      refine ⟨v1, v2, ?_⟩
      intro M10 e10 v11 e11
      subst e11
      rw [nI_1]
      rw [nI_clamp (by omega), nI_clamp (by omega), h1 13 _ (by omega) (by omega) (by omega) (by omega), (b3 j hjl).1] at e7
      rw [nI_clamp (by omega), nI_clamp (by omega), e7, g_c (by decide), h1 14 _ (by omega) (by omega) (by omega) (by omega), (b3 j hjl).2] at e10
      refine ih (j + 1) M10 (by omega) (fun c i y1 y2 y3 y4 => ?_) (by rw [e10, g_c (by decide), g_c (by decide)]; exact h0) (fun i hi => ?_) (fun i hi => ?_)
      · rw [e10, gi_si, if_neg (by omega), gi_si, if_neg (by omega)]; exact h1 c i y1 y2 y3 y4
      · rw [e10, g_c (by decide), g_c (by decide), g_c (by decide), g_c (by decide), g_c (by decide), g_c (by decide), g_c (by decide), g_c (by decide)]
        exact h2 i hi
      · rw [e10, g_c (show (13 : Nat) ≠ 14 by decide), gi_si, gi_si]
        by_cases y : i = j
        · subst y
          rw [if_pos ⟨rfl, rfl⟩, if_pos ⟨rfl, rfl⟩]
          exact ⟨rfl, rfl⟩
        · rw [if_neg (by omega), if_neg (by omega), g_c (by decide)]
          exact h3 i (by omega)
  have loop1 : ∀ m j M1, j + m = cs.length → fr9 1 M M1 → gi M1 0 28 = gi M 0 28 → (∀ i, i < j → gi M1 9 (16 + i) = nI (lt7 (cs.getD i (0, 0, 0, 0)).1) ∧ gi M1 10 (16 + i) = nI (240 + (cs.getD i (0, 0, 0, 0)).2.1) ∧ gi M1 11 (16 + i) = nI (240 + (cs.getD i (0, 0, 0, 0)).2.2.1) ∧ gi M1 12 (16 + i) = nI (240 + (cs.getD i (0, 0, 0, 0)).2.2.2)) → wX12_copy_2 post (m + 1) (nI j) M1 := by
    intro m
    induction m with
    | zero =>
      intro j M1 hj h1 h0 h2
      have e15 : gi M1 15 0 = nI cs.length := by rw [h1 _ _ (by omega) (by omega) (by omega) (by omega)]; exact b1
      rw [wX12_copy_2]; dsimp only
      refine ⟨v02, ?_⟩
      rw [e15, if_pos (nI_le (by omega) (by omega))]
      exact ⟨K.length + 1, loop2 K.length 0 M1 (by omega) h1 h0 (fun i hi => h2 i (by omega)) (fun i hi => absurd hi (Nat.not_lt_zero i))⟩
    | succ m ih =>
      intro j M1 hj h1 h0 h2
      have hjl : j < cs.length := by omega
      have e15 : gi M1 15 0 = nI cs.length := by rw [h1 _ _ (by omega) (by omega) (by omega) (by omega)]; exact b1
      have v1 := vl (n := j) (N := 32) (by omega) (by decide)
      have v2 := vl (n := 16 + j) (N := 32) (by omega) (by decide)
      obtain ⟨p1, p2, p3, p4⟩ := b2 j hjl
      rw [wX12_copy_2]; dsimp only
      refine ⟨v02, ?_⟩
      rw [e15, if_neg (nI_ge hjl (by omega)), l16]
      refine ⟨v1, v2, ?_⟩
      intro M4 e4
      refine ⟨v1, v2, ?_⟩
      intro M7 e7
      refine ⟨v1, v2, ?_⟩
      intro M10 e10
      refine ⟨v1, v2, ?_⟩
      intro M13 e13 v14 e14
      subst e14
      rw [nI_1]
      rw [nI_clamp (by omega), nI_clamp (by omega), h1 9 _ (by omega) (by omega) (by omega) (by omega), p1] at e4
      rw [nI_clamp (by omega), nI_clamp (by omega), e4, g_c (by decide), h1 10 _ (by omega) (by omega) (by omega) (by omega), p2, l240] at e7
      rw [nI_clamp (by omega), nI_clamp (by omega), e7, g_c (by decide), g_c (by decide), h1 11 _ (by omega) (by omega) (by omega) (by omega), p3, l240] at e10
      rw [nI_clamp (by omega), nI_clamp (by omega), e10, g_c (by decide), g_c (by decide), g_c (by decide), h1 12 _ (by omega) (by omega) (by omega) (by omega), p4, l240] at e13
      refine ih (j + 1) M13 (by omega) (fun c i y1 y2 y3 y4 => ?_) (by rw [e13, g_c (by decide), g_c (by decide), g_c (by decide), g_c (by decide)]; exact h0) (fun i hi => ?_)
      · rw [e13, gi_si, if_neg (by omega), gi_si, if_neg (by omega), gi_si, if_neg (by omega), gi_si, if_neg (by omega)]; exact h1 c i y1 y2 y3 y4
      · by_cases y : i = j
        · subst y
          refine ⟨?_, ?_, ?_, ?_⟩
          · rw [e13, g_c (by decide), g_c (by decide), g_c (by decide), g_same]
          · rw [e13, g_c (by decide), g_c (by decide), g_same]
          · rw [e13, g_c (by decide), g_same]
          · rw [e13, g_same]
        · have := h2 i (by omega)
          have y' : 16 + i ≠ 16 + j := by omega
          refine ⟨?_, ?_, ?_, ?_⟩
          · rw [e13, g_c (by decide), g_c (by decide), g_c (by decide), g_i y']; exact this.1
          · rw [e13, g_c (by decide), g_c (by decide), g_i y', g_c (by decide)]; exact this.2.1
          · rw [e13, g_c (by decide), g_i y', g_c (by decide), g_c (by decide)]; exact this.2.2.1
          · rw [e13, g_i y', g_c (by decide), g_c (by decide), g_c (by decide)]; exact this.2.2.2
  exact ⟨cs.length + 1, loop1 cs.length 0 M (by omega) (fun _ _ _ _ _ _ => rfl) rfl (fun i hi => absurd hi (Nat.not_lt_zero i))⟩
/-- all but the laws stays -/
theorem RD_fr {S : Nat → List Nat} {e h hk : xT2} {il to il2 to2 : Int32} {kp : Bool} {tn : Nat} {t : Nat → Nat} {C M C' M' : xMem} (hR : RD S e h hk il to il2 to2 kp tn t C M) (fC : ∀ c i, cntC c i → ¬ lawC c i → gi C' c i = gi C c i) (fM : ∀ c i, cntM c i → ¬ (9 ≤ c ∧ c ≤ 15) → ¬ (c = 0 ∧ i = 28) → gi M' c i = gi M c i) : RD S e h hk il to il2 to2 kp tn t C' M' := by
  obtain ⟨rS, ⟨wE, rE, rE2⟩, ⟨wH, tL, rH, rH2⟩, ⟨k1, k2, k3⟩, ⟨wT, rT, rT2⟩, x1, x2⟩ := hR
  unfold cntC lawC at fC
  unfold cntM at fM
  refine ⟨fun k hk6 => ⟨(rS k hk6).1, SC_keep hk6 (fun c i _ _ => fC c i (by omega) (by omega)) (rS k hk6).2.1, SM_keep (fun c i _ _ => fM c i (by omega) (by omega) (by omega)) (rS k hk6).2.2⟩, ⟨wE, EC_keep (fC _ _ (by omega) (by omega)) (fun c i _ _ => fC c i (by omega) (by omega)) rE, EM_keep (fun c i _ _ _ => fM c i (by omega) (by omega) (by omega)) rE2⟩, ⟨wH, tL, ?_, HM_keep (fun c i _ _ _ => fM c i (by omega) (by omega) (by omega)) (fun i hi => fM 0 i (by omega) (by omega) (by omega)) rH2⟩, ⟨?_, ?_, fun q => ⟨(k3 q).1, HC_keep (fun c i _ _ => fC c i (by omega) (by omega)) (k3 q).2.1, HA_keep1 (fun c i _ => fM c i (by omega) (by omega) (by omega)) (k3 q).2.2⟩⟩, ⟨wT, TC_keep (fC _ _ (by omega) (by omega)) (fun i => fC _ _ (by omega) (by omega)) rT, TM_keep (fM _ _ (by omega) (by omega) (by omega)) (fun i => fM _ _ (by omega) (by omega) (by omega)) rT2⟩, ?_, ?_⟩
  · obtain ⟨a1, a2, a3, a4, a5, a6, a7, a8⟩ := rH
    refine ⟨?_, ?_, ?_, ?_, ?_, ?_, fun k hk => ?_, fun l hl => ?_⟩
    · rw [fC _ _ (by omega) (by omega)]; exact a1
    · rw [fC _ _ (by omega) (by omega)]; exact a2
    · rw [fC _ _ (by omega) (by omega)]; exact a3
    · rw [fC _ _ (by omega) (by omega)]; exact a4
    · rw [fC _ _ (by omega) (by omega)]; exact a5
    · rw [fC _ _ (by omega) (by omega)]; exact a6
    · rw [fC (49 + 1) k (by omega) (by omega), fC (49 + 2) k (by omega) (by omega), fC (49 + 3) k (by omega) (by omega), fC (49 + 4) k (by omega) (by omega)]; exact a7 k hk
    · rw [fC (49 + 5) l (by omega) (by omega), fC (49 + 6) l (by omega) (by omega), fC (49 + 7) l (by omega) (by omega), fC (49 + 8) l (by omega) (by omega)]; exact a8 l hl
  · rw [fC _ _ (by omega) (by omega)]; exact k1
  · rw [fM _ _ (by omega) (by omega) (by omega)]; exact k2
  · rw [fM _ _ (by omega) (by omega) (by omega)]; exact x1
  · rw [fC _ _ (by omega) (by omega), fC _ _ (by omega) (by omega)]; exact x2
theorem okLw_b {cs : List xQ4} {S : List Nat} {K : List (Nat × Nat)} (h : okLw cs S K) : ∀ i, i < cs.length → (cs.getD i (0, 0, 0, 0)).2.1 < 1000 ∧ (cs.getD i (0, 0, 0, 0)).2.2.1 < 1000 ∧ (cs.getD i (0, 0, 0, 0)).2.2.2 < 1000 := by
  intro i hi
  obtain ⟨k1, k2, k3, k4, k5⟩ := h
  obtain ⟨x, w1, w2, w3, w4, w5, -⟩ := okX_of (k4 (cs.getD i (0, 0, 0, 0)) (by
    rw [List.getD_eq_getElem?_getD, List.getElem?_eq_getElem hi]
    exact List.getElem_mem hi))
  omega
theorem copy_ok (C M : xMem) (h : RRL LL0 C M) : wX11_copy C (fun r C' => wX12_copy M (fun r' M' => r = r' ∧ RRL LL0 C' M')) := by
  obtain ⟨⟨S, e, hl, hk, il, to, il2, to2, kp, tn, t, hR⟩, cs, S1, K1, cs2, S2, K2, a1, a2, a3, a4, a5, a6, a7⟩ := h
  unfold wX11_copy
  refine takeFromL (Or.inl (by decide)) a1.1 a1.2.2.1 a3 _ (fun C' r1 f1 => ?_)
  rw [r1.1]
  refine copyM a5 a7 a1.1 (by rw [← a1.2.1]; exact a1.2.2.1) (okLw_b a1) _ (fun M' g1 g2 g3 => ?_)
  refine ⟨rfl, ⟨⟨S, e, hl, hk, il, to, il2, to2, kp, tn, t, RD_fr hR (fun c i y1 y2 => f1 c i (by unfold cntC at y1; unfold lawC at y1 y2; omega)) (fun c i y1 y2 y3 => g1 c i (by omega) (by omega) (by omega) (by omega))⟩, cs, S1, K1, cs, S1, K1, a1, a1, ?_, r1, ?_, g3, by rw [g2]; exact a7⟩⟩
  · exact rpC_keep a3 (fun c i y => f1 c i (by unfold lawO at y; omega))
  · obtain ⟨b1, b2, b3⟩ := a5
    have h16 := a1.1
    have h240 := a1.2.2.1
    have hSK := a1.2.1
    refine ⟨by rw [g1 _ _ (by omega) (by omega) (by omega) (by omega)]; exact b1, fun i hi => ?_, fun i hi => ?_⟩
    · rw [g1 9 _ (by omega) (by omega) (by omega) (by omega), g1 10 _ (by omega) (by omega) (by omega) (by omega), g1 11 _ (by omega) (by omega) (by omega) (by omega), g1 12 _ (by omega) (by omega) (by omega) (by omega)]
      exact b2 i hi
    · rw [g1 13 _ (by omega) (by omega) (by omega) (by omega), g1 14 _ (by omega) (by omega) (by omega) (by omega)]
      exact b3 i hi
theorem law_ok (a0 : Int32) (C M : xMem) (h : RRL LL0 C M) : wX11_law a0 C (fun r C' => wX12_law a0 M (fun r' M' => r = r' ∧ RRL LL0 C' M')) := by
  have h9 := RRL_taped LL0_c h
  obtain ⟨⟨S, e, hl, hk, il, to, il2, to2, kp, tn, t, hR⟩, hLL⟩ := id h
  obtain ⟨wT, rT, rT2⟩ := hR.2.2.2.2.1
  have hw9 := wT.1
  unfold wX11_law
  rw [tapeGives_eq wT.1 _ _ _ rT.1, zi1, zi240]
  have y240 : (240 : Int64).toInt = 240 := by decide
  have refN : ¬ (1 ≤ a0.toInt ∧ a0.toInt ≤ 240 ∧ a0.toInt ≤ (tn : Int)) → wX12_law a0 M (fun r' M' => (-1 : Int32) = r' ∧ RRL LL0 C M') := by
    intro hn
    unfold wX12_law
    rw [lies_eq, i64i, zj1, y240]
    by_cases c1 : 1 ≤ a0.toInt ∧ a0.toInt ≤ 240
    rotate_left
    · rw [b2i_f c1, if_pos rfl]; exact ⟨rfl, h⟩
    rw [b2i_t c1, if_neg n10, rT2.1]
    rw [if_neg (fun y => by
      have := Int32.le_iff_toInt_le.mp y
      rw [nI_toInt (by omega)] at this
      exact hn ⟨c1.1, c1.2, this⟩)]
    exact ⟨rfl, h⟩
  by_cases c0 : 1 ≤ a0.toInt ∧ a0.toInt ≤ 240 ∧ a0.toInt ≤ (tn : Int)
  rotate_left
  · rw [b2i_f c0, if_pos rfl]; exact refN c0
  rw [b2i_t c0, if_neg n10]
  obtain ⟨N, hN, rfl⟩ := at_n (a := a0) (n := 240) ⟨by omega, c0.2.1⟩ (by decide)
  have eN : (nI N).toInt = (N : Int) := nI_toInt (by omega)
  rw [eN] at c0
  intro M4 e4
  subst e4
  have hB : ∀ i, i < N → t i < 256 := fun i hi => wT.2 i (by omega)
  -- the reference up to its law
  have ref : ∀ post : Int32 → xMem → Prop, (∀ f M', lwP t N = .inl f → (∀ c i, ¬ (c = 0 ∧ ((3 ≤ i ∧ i ≤ 9) ∨ i = 35 ∨ i = 36)) → ¬ (16 ≤ c ∧ c ≤ 22) → gi M' c i = gi (si M 0 1 0) c i) → post f M') → (∀ cs S' K M', lwP t N = .inr (cs, S', K) → (∀ c i, ¬ (c = 0 ∧ ((3 ≤ i ∧ i ≤ 9) ∨ i = 35 ∨ i = 36)) → ¬ (16 ≤ c ∧ c ≤ 22) → ¬ (9 ≤ c ∧ c ≤ 12 ∧ i < 16) → ¬ ((c = 13 ∨ c = 14) ∧ i < 240) → ¬ (c = 15 ∧ i = 0) → ¬ (c = 0 ∧ i = 28) → gi M' c i = gi (si M 0 1 0) c i) → rpM 0 cs K M' → gi M' 0 28 = nI K.length → post (nI cs.length) M') → wX12_law (nI N) M post := by
    intro post h1 h2
    unfold wX12_law
    rw [lies_eq, i64i, eN, zj1, y240, b2i_t (by omega), if_neg n10, rT2.1, if_pos (nI_le (by omega) (by omega))]
    unfold wX12_begins
    intro M1 e1 M2 e2 M3 e3 M5 e5 M6 e6 M7 e7
    have G : ∀ c i, ¬ (c = 0 ∧ 3 ≤ i ∧ i ≤ 7) → gi M7 c i = gi (si M 0 1 0) c i := fun c i y => by
      rw [e7, gi_si, if_neg (by omega), e6, gi_si, if_neg (by omega), e5, gi_si, if_neg (by omega), e3, gi_si, if_neg (by omega), e2, gi_si, if_neg (by omega), e1]
    have hT : LTM t N M7 := by
      refine ⟨hN, fun i hi => ⟨hB i hi, ?_⟩, ?_⟩
      · rw [G _ _ (by omega), g_c (by decide)]; exact (rT2.2 i (by omega)).1
      · rw [e7, g_i (by decide), e6, g_i (by decide), e5, g_i (by decide), e3, g_same]
    have hMW : MW M7 0 [] [] M7 := ⟨fun _ _ _ _ => rfl, by rw [e7, g_i (by decide), e6, g_i (by decide), e5, g_i (by decide), e3, g_i (by decide), e2, g_same]; rfl, by rw [e7, g_i (by decide), e6, g_i (by decide), e5, g_same], by rw [e7, g_i (by decide), e6, g_same]; rfl, by rw [e7, g_same]; rfl, fun i hi => absurd hi (Nat.not_lt_zero i), fun i hi => absurd hi (Nat.not_lt_zero i)⟩
    refine ⟨242, lawRM hT post hMW (fun f M' e hF => ?_) (fun cs S' K p' M' e hG => ?_)⟩
    · unfold wX12_law_113
      obtain ⟨a, b, c⟩ := hF
      rw [b, if_neg (fun y => by
        have u1 := Int32.le_iff_toInt_le.mp y
        have u2 := Int32.lt_iff_toInt_lt.mp c
        omega)]
      exact h1 f M' e (fun c i y1 y2 => by rw [a c i (by omega) y2, G c i (by omega)])
    · obtain ⟨ok, -⟩ := lwP_ok hN hB e
      refine law113M hG ok.1 (by rw [← ok.2.1]; exact ok.2.2.1) post (fun M'' g1 g2 g3 => h2 cs S' K M'' e (fun c i y1 y2 y3 y4 y5 y6 => ?_) g2 g3)
      rw [g1 c i (by omega) (by omega) y5 y6, hG.1 c i (by omega) y2, G c i (by omega)]
  have hN1 : 1 ≤ N := by omega
  refine rdLC (B := t) hN1 hN (fun i hi => ⟨hB i hi, by rw [g_c (by decide)]; exact rT.2 i (by omega)⟩) _ (fun f C' e hF => ?_) (fun cs S' K p' C' e hG => ?_)
  · obtain ⟨fF, -, ⟨-, -, hf, -⟩, -⟩ := hF
    rw [if_pos (show f ≤ 0 from Int32.le_iff_toInt_le.mpr (by have := Int32.lt_iff_toInt_lt.mp hf; omega))]
    refine ref _ (fun f' M' e' g => ?_) (fun cs S' K M' e' => ?_)
    · rw [e] at e'
      cases e'
      refine ⟨rfl, RRL_fr LL0_c h9 (fun c i hc => ?_) (fun c i hc => ?_)⟩
      · unfold cntC lawC at hc
        exact fF c i (by omega) (by omega)
      · unfold cntM at hc
        exact g c i (by omega) (by omega)
    · rw [e] at e'; cases e'
  · obtain ⟨ok, h1⟩ := lwP_ok hN hB e
    obtain ⟨fF, -, hGS, hc0, hA⟩ := hG
    have h16 := ok.1
    rw [if_neg (show ¬ nI cs.length ≤ 0 from nI_ge (b := cs.length) (a := 0) (by omega) (by omega))]
    have r33 : rpC 33 cs S' C' := ⟨hc0, hA, hGS.2.2.2.2⟩
    refine takeFromL (Or.inr (by decide)) ok.1 ok.2.2.1 r33 _ (fun C'' r1 f1 => ?_)
    refine ref _ (fun f' M' e' g => ?_) (fun cs' S'' K' M' e' g g2 g3 => ?_)
    · rw [e] at e'; cases e'
    · rw [e] at e'
      cases e'
      obtain ⟨⟨S9, e9, hl9, hk9, il9, to9, il29, to29, kp9, tn9, t9, hR9⟩, csx, S1, K1, cs2, S2, K2, a1, a2, a3, a4, a5, a6, a7⟩ := h9
      refine ⟨rfl, ⟨⟨S9, e9, hl9, hk9, il9, to9, il29, to29, kp9, tn9, t9, RD_fr hR9 (fun c i y1 y2 => ?_) (fun c i y1 y2 y3 => ?_)⟩, cs, S', K, cs2, S2, K2, ok, a2, r1, ?_, g2, ?_, g3⟩⟩
      · unfold cntC at y1
        unfold lawC at y1 y2
        rw [f1 c i (by omega)]
        exact fF c i (by omega) (by omega)
      · unfold cntM at y1
        exact g c i (by omega) (by omega) (by omega) (by omega) (by omega) y3
      · refine rpC_keep a4 (fun c i y => ?_)
        unfold lawO at y
        rw [f1 c i (by omega)]
        exact fF c i (by omega) (by omega)
      · obtain ⟨b1, b2, b3⟩ := a6
        refine ⟨by rw [g _ _ (by omega) (by omega) (by omega) (by omega) (by omega) (by omega)]; exact b1, fun i hi => ?_, fun i hi => ?_⟩
        · rw [g 9 _ (by omega) (by omega) (by omega) (by omega) (by omega) (by omega), g 10 _ (by omega) (by omega) (by omega) (by omega) (by omega) (by omega), g 11 _ (by omega) (by omega) (by omega) (by omega) (by omega) (by omega), g 12 _ (by omega) (by omega) (by omega) (by omega) (by omega) (by omega)]
          exact b2 i hi
        · rw [g 13 _ (by omega) (by omega) (by omega) (by omega) (by omega) (by omega), g 14 _ (by omega) (by omega) (by omega) (by omega) (by omega) (by omega)]
          exact b3 i hi
