/-! story(): end -/
theorem opn_tl {B : Nat → Nat} {N p : Nat} {ts : List Nat} {stk : List (Nat × Nat × Nat)} {tl : Bool} (h : tl = true → 1 ≤ ts.length) : (opn B N p ts stk tl).2.2.2.1 = true → 1 ≤ (opn B N p ts stk tl).2.1.length := by
  have t1 := tmo_b B N p
  unfold opn
  by_cases c1 : hr B N (nxt B N p) = 40
  · rw [if_pos c1]
    by_cases c2 : stk.length = 2
    · rw [if_pos c2]; exact h
    · rw [if_neg c2]; intro z; cases z
  · rw [if_neg c1]
    split
    · exact h
    · rename_i c e
      by_cases c2 : ts.length + tmo B N p ≤ 72
      · rw [if_pos c2]
        intro _
        show 1 ≤ (rp (ts ++ [c]) ts.length (tmo B N p)).length
        rw [rp_len, List.length_append, show ts.length + [c].length - ts.length = 1 by show ts.length + 1 - ts.length = 1; omega, Nat.one_mul]
        omega
      · rw [if_neg c2]; exact h
def tlP (s : xP) : Prop := (s.2.2.2.1 = true → 1 ≤ s.2.1.length) ∧ ∀ f, f ∈ s.2.2.1 → 1 ≤ f.2.1 ∧ f.1 ≤ s.2.1.length
theorem tl_it {B : Nat → Nat} {N : Nat} (hB : ∀ i, i < N → B i < 256) : ∀ n s, okP N s → (s.2.2.2.1 = true → 1 ≤ s.2.1.length) → (itP B N s n).2.2.2.2 = 0 → ((itP B N s n).2.2.2.1 = true → 1 ≤ (itP B N s n).2.1.length) := by
  intro n
  induction n with
  | zero => intro s _ h _; exact h
  | succ n ih =>
    intro s ok h hf
    by_cases c0 : (stp B N s).2.2.2.2 = 0
    rotate_left
    · exfalso
      apply c0
      have e : itP B N s (n + 1) = stp B N s := itP_fix (s := stp B N s) (stp_bad c0) n
      rw [e] at hf
      exact hf
    refine ih (stp B N s) (stp_ok hB ok c0) ?_ hf
    obtain ⟨p, ts, stk, tl, f⟩ := s
    have h' : tl = true → 1 ≤ ts.length := h
    have ok' : okQ N p ts stk := ok
    unfold stp
    dsimp only
    by_cases c1 : f = 0
    rotate_left
    · rw [if_pos c1]; exact h'
    rw [if_neg (fun z => z c1)]
    match stk, ok' with
    | [], _ =>
      dsimp only
      by_cases c2 : N ≤ p
      · rw [if_pos c2]; exact h'
      · rw [if_neg c2]; exact opn_tl h'
    | (st, tm, at0) :: r, ok' =>
      dsimp only
      by_cases c2 : hr B N p = 41 ∧ tl = true
      · rw [if_pos c2]
        by_cases c3 : st + (ts.length - st) * tm ≤ 72
        · rw [if_pos c3]
          intro _
          show 1 ≤ (rp ts st tm).length
          obtain ⟨q1, q2, _⟩ := ok'.2.2.2.2 (st, tm, at0) (List.mem_cons_self ..)
          have q1' : st ≤ ts.length := q1
          have q2' : 1 ≤ tm := q2
          have := mul_ge (v := ts.length - st) q2'
          have := h' c2.2
          rw [rp_len]
          omega
        · rw [if_neg c3]; exact h'
      · rw [if_neg c2]; exact opn_tl h'
theorem RRL_told {LL : xMem → xMem → Prop} (hLL : LLc LL) {S : Nat → List Nat} {e h hk : xT2} {il to il2 to2 : Int32} {kp : Bool} {tn : Nat} {t : Nat → Nat} {C M C' M' : xMem} (hR : RD S e h hk il to il2 to2 kp tn t C M) (hL : LL C M) {k : Nat} (hk6 : k < 6) {ts : List Nat} (hw : wfS ts) (hne : ts ≠ []) (fC : ∀ c i, cntC c i → c ≠ 3 + 2 * k → c ≠ 3 + 2 * k + 1 → c ≠ 52 → c ≠ 53 → gi C' c i = gi C c i) (fM : ∀ c i, cntM c i → ¬ (c = 2 ∧ i = k) → ¬ (c = 3 ∧ i = k) → ¬ (c = 4 ∧ 72 * k ≤ i ∧ i < 72 * k + 72) → c ≠ 33 → c ≠ 34 → gi M' c i = gi M c i) (nC : SC ts k C') (nM : SM ts k M') (nH : HC 49 (hNew h k) il to C') (nH2 : HM (hNew h k) il to M') : RRL LL C' M' := by
  obtain ⟨rS, ⟨wE, rE, rE2⟩, ⟨wH, tL, rH, rH2⟩, ⟨k1, k2, k3⟩, ⟨wT, rT, rT2⟩, x1, x2⟩ := hR
  unfold cntC lawC at fC
  unfold cntM at fM
  have wS : ∀ {h : xT2}, wfH S h → wfH (fun j => if j = k then ts else S j) h := by
    intro h w
    obtain ⟨a1, a2, a3, a4, a5, a6⟩ := w
    refine ⟨a1, a2, a3, a4, fun x hx => ?_, a6⟩
    obtain ⟨b1, b2, b3, b4, b5, b6⟩ := a5 x hx
    refine ⟨b1, b2, b3, b4, fun q => ?_, b6⟩
    dsimp only
    by_cases z : h 1 x = k
    · rw [if_pos z]; exact hne
    · rw [if_neg z]; exact b5 q
  have e0 : ∀ a b, a ≠ 3 → a ≠ 4 → hNew h k a b = h a b := fun a b z1 z2 => if_neg (fun q => by omega)
  have e3 : ∀ a b, hNew h k a b ≤ h a b := fun a b => by unfold hNew; split <;> omega
  have wN : wfH (fun j => if j = k then ts else S j) (hNew h k) := by
    obtain ⟨a1, a2, a3, a4, a5, a6⟩ := wS wH
    refine ⟨by rw [e0 _ _ (by decide) (by decide)]; exact a1, by rw [e0 _ _ (by decide) (by decide)]; exact a2, by rw [e0 _ _ (by decide) (by decide)]; exact a3, by rw [e0 _ _ (by decide) (by decide)]; exact a4, fun x hx => ?_, fun l hl => ?_⟩
    · obtain ⟨b1, b2, b3, b4, b5, b6⟩ := a5 x hx
      have u3 := e3 3 x
      have u4 := e3 4 x
      rw [e0 0 0 (by decide) (by decide), e0 1 x (by decide) (by decide), e0 2 x (by decide) (by decide)]
      exact ⟨b1, b2, by omega, by omega, b5, fun q => by have := b6 q; omega⟩
    · have := a6 l hl
      rw [e0 5 0 (by decide) (by decide), e0 6 l (by decide) (by decide), e0 7 l (by decide) (by decide), e0 8 l (by decide) (by decide), e0 9 l (by decide) (by decide)]
      exact this
  refine ⟨⟨fun j => if j = k then ts else S j, e, hNew h k, hk, il, to, il2, to2, kp, tn, t, fun j hj => ?_, ⟨wE, EC_keep (fC _ _ (by omega) (by omega) (by omega) (by omega) (by omega)) (fun c i _ _ => fC c i (by omega) (by omega) (by omega) (by omega) (by omega)) rE, EM_keep (fun c i _ _ _ => fM c i (by omega) (by omega) (by omega) (by omega) (by omega) (by omega)) rE2⟩, ⟨wN, fun x hx => ?_, nH, nH2⟩, ⟨?_, ?_, fun q => ⟨wS (k3 q).1, HC_keep (fun c i _ _ => fC c i (by omega) (by omega) (by omega) (by omega) (by omega)) (k3 q).2.1, HA_keep1 (fun c i _ => fM c i (by omega) (by omega) (by omega) (by omega) (by omega) (by omega)) (k3 q).2.2⟩⟩, ⟨wT, TC_keep (fC _ _ (by omega) (by omega) (by omega) (by omega) (by omega)) (fun i => fC _ _ (by omega) (by omega) (by omega) (by omega) (by omega)) rT, TM_keep (fM _ _ (by omega) (by omega) (by omega) (by omega) (by omega) (by omega)) (fun i => fM _ _ (by omega) (by omega) (by omega) (by omega) (by omega) (by omega)) rT2⟩, ?_, ?_⟩, ?_⟩
  · dsimp only
    by_cases q : j = k
    · rw [if_pos q, q]; exact ⟨hw, nC, nM⟩
    · rw [if_neg q]
      obtain ⟨r1, r2, r3⟩ := rS j hj
      refine ⟨r1, ?_, ?_⟩
      · obtain ⟨s1, s2, s3, s4, s5⟩ := r2
        have F : ∀ c i, (c = 3 + 2 * j ∨ c = 3 + 2 * j + 1) → gi C' c i = gi C c i := fun c i z => fC c i (by omega) (by omega) (by omega) (by omega) (by omega)
        exact ⟨by rw [F _ _ (by omega)]; exact s1, fun i hi => by rw [F _ _ (by omega)]; exact s2 i hi, by rw [F _ _ (by omega)]; exact s3, by rw [F _ _ (by omega)]; exact s4, by rw [F _ _ (by omega)]; exact s5⟩
      · obtain ⟨s1, s2, s3⟩ := r3
        have hl := r1.1
        exact ⟨by rw [fM 3 j (by omega) (by omega) (by omega) (by omega) (by omega) (by omega)]; exact s1, by rw [fM 2 j (by omega) (by omega) (by omega) (by omega) (by omega) (by omega)]; exact s2, fun i hi => by rw [fM 4 _ (by omega) (by omega) (by omega) (by omega) (by omega) (by omega)]; exact s3 i hi⟩
  · rw [e0 1 x (by decide) (by decide)]
    dsimp only
    have u3 := e3 3 x
    have b := wH.2.2.2.2.1 x hx
    by_cases z : h 1 x = k
    · rw [if_pos z]
      by_cases q : (h 0 0).testBit x = true
      · have : hNew h k 3 x = 0 := if_pos ⟨Or.inl rfl, hx, q, z⟩
        omega
      · have := b.2.2.2.2.2 (by cases hb : (h 0 0).testBit x with | true => exact absurd hb q | false => rfl)
        omega
    · rw [if_neg z]
      have := tL x hx
      omega
  · rw [fC _ _ (by omega) (by omega) (by omega) (by omega) (by omega)]; exact k1
  · rw [fM _ _ (by omega) (by omega) (by omega) (by omega) (by omega) (by omega)]; exact k2
  · rw [fM _ _ (by omega) (by omega) (by omega) (by omega) (by omega) (by omega)]; exact x1
  · rw [fC _ _ (by omega) (by omega) (by omega) (by omega) (by omega), fC _ _ (by omega) (by omega) (by omega) (by omega) (by omega)]; exact x2
  · exact hLL _ _ _ _ (fun c i hc => by unfold lawC at hc; exact fC c i (by omega) (by omega) (by omega) (by omega) (by omega)) (fun c i _ _ => fM c i (by omega) (by omega) (by omega) (by omega) (by omega) (by omega)) (fM _ _ (by omega) (by omega) (by omega) (by omega) (by omega) (by omega)) hL
theorem storyAt_n {k : Nat} (hk : k < 6) {C : xMem} (post : Nat → xMem → Prop) : wX11_storyAt (nI k) C post = post (3 + 2 * k) C := by
  unfold wX11_storyAt
  rw [within_eq, zi0, zi5, nI_toInt (by omega), b2i_t (by omega), if_neg (by decide), nI_clamp (by omega)]
  exact propext ⟨fun q => q.2, fun q => ⟨vl hk (by decide), q⟩⟩
theorem story_ok {LL : xMem → xMem → Prop} (hLL : LLc LL) (a0 a1 : Int32) (C M : xMem) (h : RRL LL C M) : wX11_story a0 a1 C (fun r C' => wX12_story a0 a1 M (fun r' M' => r = r' ∧ RRL LL C' M')) := by
  have h9 := RRL_taped hLL h
  obtain ⟨⟨S0, e0, hl0, hk0, il0, to0, il20, to20, kp0, tn, t, hR0⟩, hL0⟩ := id h
  obtain ⟨wT, rT, rT2⟩ := hR0.2.2.2.2.1
  have htn := wT.1
  unfold wX11_story
  by_cases c0 : 0 ≤ a0.toInt ∧ a0.toInt ≤ 5
  rotate_left
  · unfold wX11_storyAt
    rw [within_eq, zi0, zi5, b2i_f c0, if_pos rfl]
    dsimp only
    rw [if_pos rfl]
    unfold wX12_story
    dsimp only
    rw [lies_eq, i64i, zj0, zj5, b2i_f c0, if_pos rfl]
    exact ⟨rfl, h⟩
  obtain ⟨k, hk5, rfl⟩ := at_n (n := 5) c0 (by decide)
  have hk : k < 6 := by omega
  rw [storyAt_n hk, if_neg (by omega), tapeGives_eq htn _ _ _ rT.1, zi1, zi80]
  have hT1 : gi M 0 1 = nI tn := rT2.1
  by_cases c1 : 1 ≤ a1.toInt ∧ a1.toInt ≤ 80 ∧ a1.toInt ≤ (tn : Int)
  rotate_left
  · rw [b2i_f c1, if_pos rfl]
    unfold wX12_story
    dsimp only
    rw [lies_eq, i64i, zj0, zj5, b2i_t c0, if_neg (by decide), lies_eq, i64i, zj1, zj80]
    by_cases c2 : 1 ≤ a1.toInt ∧ a1.toInt ≤ 80
    · rw [b2i_t c2, if_neg (by decide), hT1, if_neg (fun q => by
        have := Int32.le_iff_toInt_le.mp q
        rw [nI_toInt (by omega)] at this
        omega)]
      exact ⟨rfl, h⟩
    · rw [b2i_f c2, if_pos rfl]
      exact ⟨rfl, h⟩
  rw [b2i_t c1, if_neg (by decide)]
  obtain ⟨n, hn, rfl⟩ := at_n (a := a1) (n := 80) (by omega) (by decide)
  rw [nI_toInt (by omega)] at c1
  have hn1 : 1 ≤ n := by omega
  have hB : ∀ i, i < n → t i < 256 := fun i hi => wT.2 i (by omega)
  have tC : tapeC t n (si C 0 1 0) := ⟨hn, fun i hi => ⟨hB i hi, by rw [g_c (by decide)]; exact rT.2 i (by omega)⟩⟩
  have tM : tapeM t n (si M 0 1 0) := ⟨hn, fun i hi => ⟨hB i hi, by rw [g_c (by decide)]; exact (rT2.2 i (by omega)).1, by rw [g_c (by decide)]; exact (rT2.2 i (by omega)).2⟩⟩
  have ok0 : okQ n 0 [] [] := ⟨Nat.zero_le _, by decide, fun i hi => absurd hi (Nat.not_lt_zero _), by decide, fun f hf => by cases hf⟩
  intro M6 e6
  subst e6
  -- the reference, from the tape on
  have ref : ∀ (post : Int32 → xMem → Prop) (n0 : Nat) (sF : xP), itP t n (0, [], [], false, 0) n0 = sF → (sF.2.2.2.2 < 0 ∨ (sF.2.2.2.2 = 0 ∧ sF.2.2.1 = [] ∧ n ≤ sF.1)) → (sF.2.2.2.2 = 0 → ∀ M', PMs n (si M 0 1 0) sF.1 sF.2.1 [] sF.2.2.2.1 M' → wX12_story_102 post (nI k) M') → (sF.2.2.2.2 < 0 → ∀ M', FM (si M 0 1 0) sF.2.2.2.2 M' → wX12_story_102 post (nI k) M') → wX12_story (nI k) (nI n) M post := by
    intro post n0 sF hit hF hg hb
    unfold wX12_story
    rw [lies_eq, i64i, zj0, zj5, b2i_t c0, if_neg (by decide), lies_eq, i64i, zj1, zj80, nI_toInt (by omega), b2i_t (by omega), if_neg (by decide), hT1, if_pos (nI_le (by omega) (by omega))]
    unfold wX12_begins
    intro M1 e1 M2 e2 M3 e3 M4 e4 M9 e9 M10 e10 M11 e11
    refine ⟨n0 + 1, loopMM tM (nI k) post sF hF hg hb n0 0 [] [] false M11 ok0 ⟨fun c i z => ?_, ?_, ?_, ?_, ?_, ?_, ?_, fun i hi => absurd hi (Nat.not_lt_zero _), trivial⟩ hit⟩
    · rw [e11, gi_si, if_neg (by omega), e10, gi_si, if_neg (by omega), e9, gi_si, if_neg (by omega), e4, gi_si, if_neg (by omega), e3, gi_si, if_neg (by omega), e2, gi_si, if_neg (by omega), e1]
    · rw [e11, g_i (by decide), e10, g_i (by decide), e9, g_i (by decide), e4, g_i (by decide), e3, g_i (by decide), e2, g_same]; rfl
    · rw [e11, g_i (by decide), e10, g_i (by decide), e9, g_i (by decide), e4, g_i (by decide), e3, g_same]
    · rw [e11, g_i (by decide), e10, g_i (by decide), e9, g_i (by decide), e4, g_same]
    · rw [e11, g_i (by decide), e10, g_i (by decide), e9, g_same]; rfl
    · rw [e11, g_i (by decide), e10, g_same]; rfl
    · rw [e11, g_same]; rfl
  refine readC tC hn1 _ (fun n0 p' ts' hit ok' hN' C' hC' => ?_) (fun n0 f hf hf0 C' hfr => ?_)
  · have h1 : 1 ≤ ts'.length := by
      have := tl_it hB n0 (0, [], [], false, 0) ok0 (fun z => by cases z) (by rw [hit])
      rw [hit] at this
      exact this rfl
    have hl72 := ok'.2.1
    have hw : wfS ts' := ⟨ok'.2.1, ok'.2.2.1⟩
    rw [if_neg (show ¬ nI ts'.length ≤ (0 : Int32) from nI_ge h1 (by omega))]
    obtain ⟨⟨S, e, hl, hkk, il, to, il2, to2, kp, tn1, t1, hR⟩, hL⟩ := h9
    obtain ⟨wH, tL, rH, rH2⟩ := hR.2.2.1
    refine takeC hk hw hC'.2.2.2.2.2.2 _ (fun C2 f2 nC => ?_)
    have h16 : ∀ x, x < 4 → hl 1 x < 6 := fun x hx => (wH.2.2.2.2.1 x hx).1
    have fr2 : ∀ c i, c ≠ 15 → c ≠ 16 → c ≠ 3 + 2 * k → c ≠ 3 + 2 * k + 1 → gi C2 c i = gi (si C 0 1 0) c i := fun c i z1 z2 z3 z4 => by rw [f2 c i z3 z4]; exact hC'.1 c i z1 z2
    refine anewC wH.1 h16 hk (HC_keep (fun c i z1 z2 => fr2 c i (by omega) (by omega) (by omega) (by omega)) rH) _ (fun C3 f3 nH => ?_)
    refine ref _ n0 (p', ts', [], true, 0) hit (Or.inr ⟨rfl, rfl, hN'⟩) (fun _ M2 hM2 => ?_) (fun z => absurd (show (0 : Int32) < 0 from z) (by decide))
    refine writeM rH2 h16 hk hl72 hM2 _ (fun M3 fM a2 a3 a4 nH2 => ⟨rfl, ?_⟩)
    have hne : ts' ≠ [] := fun z => by rw [z] at h1; exact absurd h1 (by decide)
    refine RRL_told hLL hR hL hk hw hne (fun c i hc z1 z2 z3 z4 => ?_) (fun c i hc z1 z2 z3 z4 z5 => ?_) ?_ ⟨a3, by rw [a2, b2i_t hne], a4⟩ nH nH2
    · unfold cntC lawC at hc
      rw [f3 c i z3 z4]
      exact fr2 c i (by omega) (by omega) z1 z2
    · unfold cntM at hc
      exact fM c i (by omega) z1 z2 z3 z4 z5
    · obtain ⟨s1, s2, s3, s4, s5⟩ := nC
      have F : ∀ c i, (c = 3 + 2 * k ∨ c = 3 + 2 * k + 1) → gi C3 c i = gi C2 c i := fun c i z => f3 c i (by omega) (by omega)
      exact ⟨by rw [F _ _ (by omega)]; exact s1, fun i hi => by rw [F _ _ (by omega)]; exact s2 i hi, by rw [F _ _ (by omega)]; exact s3, by rw [F _ _ (by omega)]; exact s4, by rw [F _ _ (by omega)]; exact s5⟩
  · have lt : f ≤ 0 := by
      have := Int32.lt_iff_toInt_lt.mp hf0
      exact Int32.le_iff_toInt_le.mpr (by omega)
    rw [if_pos lt]
    refine ref _ n0 _ rfl (Or.inl (by rw [hf]; exact hf0)) (fun z => ?_) (fun z M2 hF => ?_)
    · rw [hf] at z
      rw [z] at hf0
      exact absurd hf0 (by decide)
    · unfold wX12_story_102
      rw [hF.2.1, hf, if_neg (fun q => by
        have := Int32.lt_iff_toInt_lt.mp hf0
        have := Int32.le_iff_toInt_le.mp q
        omega)]
      refine ⟨rfl, RRL_fr hLL h9 (fun c i hc => hfr c i (by unfold cntC lawC at hc; omega) (by unfold cntC lawC at hc; omega)) (fun c i hc => hF.1 c i (by unfold cntM at hc; omega))⟩
