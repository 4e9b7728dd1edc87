/-! fitting(), the reference -/
def RLo (M0 : xMem) (a : Nat) (ts : List Nat) (t : Nat) (M : xMem) : Prop := (∀ c i, c ≠ 55 → gi M c i = gi M0 c i) ∧ ∀ u, t ≤ u → u ≤ ts.length → ∀ s, s < 1024 → gi M 55 (1024 * u + s) = nI (upV (vL a (ts.drop u) s))
theorem far_n : (1000000000 : Int32) = nI (upV 1000) := by decide
theorem laysM {M0 : xMem} {k : Nat} (hk : k < 6) {a : Nat} (ha : a < 1024) {ts : List Nat} (hw : wfS ts) (h3 : gi M0 3 k = nI ts.length) (h4 : ∀ i, i < ts.length → gi M0 4 (72 * k + i) = nI (ts.getD i 0)) (post : xMem → Prop) (hp : ∀ M', RLo M0 a ts 0 M' → post M') : wX12_laysLeftOut (nI k) (nI a) M0 post := by
  have hl := hw.1
  have ix : ∀ u s : Nat, (1024 * nI u) + nI s = nI (1024 * u + s) := fun u s => by rw [z_mull, z_add]
  have ix2 : ∀ t : Nat, (72 * nI k) + nI t = nI (72 * k + t) := fun t => by rw [z_mull, z_add]
  have down : ∀ t M, t ≤ ts.length → RLo M0 a ts t M → wX12_laysLeftOut_58 post (t + 1) (nI k) (nI t - 1) M := by
    intro t
    induction t with
    | zero =>
      intro M _ hR
      rw [wX12_laysLeftOut_58]; dsimp only
      rw [if_pos (show nI 0 - 1 < 0 by decide)]
      exact hp M hR
    | succ t ih =>
      intro M ht hR
      have htl : t < ts.length := by omega
      have hc := hw.2 t htl
      rw [show nI (t + 1) - 1 = nI t from z_sub (b := 1) (Nat.le_add_left 1 t), wX12_laysLeftOut_58]; dsimp only
      rw [if_neg (nI_pos (by omega))]
      have key : ∀ m s M1, s + m = 1024 → (∀ c i, c ≠ 55 → gi M1 c i = gi M0 c i) → (∀ u, t + 1 ≤ u → u ≤ ts.length → ∀ s, s < 1024 → gi M1 55 (1024 * u + s) = nI (upV (vL a (ts.drop u) s))) → (∀ s', s' < s → gi M1 55 (1024 * t + s') = nI (upV (vL a (ts.drop t) s'))) → wX12_laysLeftOut_66 (wX12_laysLeftOut_58 post (t + 1)) post (m + 1) (nI k) (nI t) (nI s) M1 := by
        intro m
        induction m with
        | zero =>
          intro s M1 hs w1 w2 w3
          have : s = 1024 := by omega
          subst this
          rw [wX12_laysLeftOut_66]; dsimp only
          rw [if_pos (show (1023 : Int32) < nI 1024 by decide)]
          intro v2 e2
          rw [← Int32.sub_eq_add_neg] at e2
          subst e2
          refine ih M1 (by omega) ⟨w1, fun u hu1 hu2 s hs => ?_⟩
          by_cases y : u = t
          · subst y; exact w3 s hs
          · exact w2 u (by omega) hu2 s hs
        | succ m ihm =>
          intro s M1 hs w1 w2 w3
          have hsl : s < 1024 := by omega
          have htr := trn_lt hc hsl
          obtain ⟨b1, b2⟩ := upV_lt (a := a) (r := ts.drop (t + 1)) (by rw [List.length_drop]; omega) (trn s (ts.getD t 0))
          obtain ⟨b3, b4⟩ := upV_lt (a := a) (r := ts.drop (t + 1)) (by rw [List.length_drop]; omega) s
          rw [wX12_laysLeftOut_66]; dsimp only
          rw [if_neg (show ¬ (1023 : Int32) < nI s from nI_nlt (a := 1023) (by omega) (by decide)), ix2]
          refine ⟨vl (by omega) (by decide), ?_⟩
          rw [nI_clamp (by omega), w1 4 _ (by decide), h4 t htl, turned_eq, td_n hc hsl, nI_1, ix, ix, ix]
          refine ⟨vl (by omega) (by decide), ?_⟩
          intro v7 e7
          refine ⟨vl (by omega) (by decide), ?_⟩
          intro v9 e9
          rw [nI_clamp (by omega), w2 (t + 1) (Nat.le_refl _) (by omega) _ htr] at e7
          rw [nI_clamp (by omega), w2 (t + 1) (Nat.le_refl _) (by omega) _ hsl, nI_1, ← upV_1 b4] at e9
          have fin : ∀ s0 : Nat, s0 = upV (vL a (ts.drop t) s) → wX12_laysLeftOut_154 (wX12_laysLeftOut_58 post (t + 1)) (wX12_laysLeftOut_66 (wX12_laysLeftOut_58 post (t + 1)) post (m + 1)) post (nI k) (nI t) (nI s) (nI s0) (nI (1024 * t + s)) M1 := by
            intro s0 e0
            unfold wX12_laysLeftOut_154
            refine ⟨vl (by omega) (by decide), ?_⟩
            intro M2 e2 v3 e3
            rw [nI_clamp (by omega)] at e2
            subst e3
            rw [nI_1]
            refine ihm (s + 1) M2 (by omega) (fun c i y => by rw [e2, g_c y]; exact w1 c i y) (fun u h1 h2 s' h3 => by rw [e2, g_i (by omega)]; exact w2 u h1 h2 s' h3) (fun s' hs' => ?_)
            by_cases y : s' = s
            · rw [y, e2, g_same, e0]
            · rw [e2, g_i (by omega)]; exact w3 s' (by omega)
          subst e7; subst e9
          have ev : vL a (ts.drop t) s = min (vL a (ts.drop (t + 1)) (trn s (ts.getD t 0))) (vL a (ts.drop (t + 1)) s + 1) := by rw [drop_c htl]; rfl
          have b5 : upV (vL a (ts.drop (t + 1)) s + 1) < 2 ^ 31 := by rw [upV_1 b4]; omega
          by_cases y : upV (vL a (ts.drop (t + 1)) s + 1) ≤ upV (vL a (ts.drop (t + 1)) (trn s (ts.getD t 0)))
          · rw [if_pos (nI_le y (by omega))]
            exact fin _ (by rw [ev, Nat.min_eq_right (upV_le.mp y)])
          · rw [if_neg (nI_ge (by omega) (by omega))]
            exact fin _ (by
              have : ¬ vL a (ts.drop (t + 1)) s + 1 ≤ vL a (ts.drop (t + 1)) (trn s (ts.getD t 0)) := fun z => y (upV_le.mpr z)
              rw [ev, Nat.min_eq_left (by omega)])
      exact ⟨1025, key 1024 0 M rfl hR.1 (fun u h1 h2 s h3 => hR.2 u h1 h2 s h3) (fun s' hs' => absurd hs' (Nat.not_lt_zero s'))⟩
  have up : ∀ m s M1, s + m = 1024 → (∀ c i, c ≠ 55 → gi M1 c i = gi M0 c i) → (∀ s', s' < s → gi M1 55 (1024 * ts.length + s') = nI (upV (vL a [] s'))) → wX12_laysLeftOut_10 post (m + 1) (nI k) (nI a) (nI ts.length) (nI s) M1 := by
    intro m
    induction m with
    | zero =>
      intro s M1 hs w1 w3
      have : s = 1024 := by omega
      subst this
      rw [wX12_laysLeftOut_10]; dsimp only
      rw [if_pos (show (1023 : Int32) < nI 1024 by decide)]
      intro v2 e2
      subst e2
      refine ⟨ts.length + 1, down ts.length M1 (Nat.le_refl _) ⟨w1, fun u hu1 hu2 s hs => ?_⟩⟩
      have : u = ts.length := by omega
      subst this
      rw [List.drop_eq_nil_of_le (Nat.le_refl _)]
      exact w3 s hs
    | succ m ihm =>
      intro s M1 hs w1 w3
      have hsl : s < 1024 := by omega
      have fin : ∀ s0 : Nat, s0 = upV (vL a [] s) → wX12_laysLeftOut_46 (wX12_laysLeftOut_10 post (m + 1)) post (nI k) (nI a) (nI ts.length) (nI s) (nI s0) (nI (1024 * ts.length + s)) M1 := by
        intro s0 e0
        unfold wX12_laysLeftOut_46
        refine ⟨vl (by omega) (by decide), ?_⟩
        intro M2 e2 v3 e3
        rw [nI_clamp (by omega)] at e2
        subst e3
        rw [nI_1]
        refine ihm (s + 1) M2 (by omega) (fun c i y => by rw [e2, g_c y]; exact w1 c i y) (fun s' hs' => ?_)
        by_cases y : s' = s
        · rw [y, e2, g_same, e0]
        · rw [e2, g_i (by omega)]; exact w3 s' (by omega)
      rw [wX12_laysLeftOut_10]; dsimp only
      rw [if_neg (show ¬ (1023 : Int32) < nI s from nI_nlt (a := 1023) (by omega) (by decide)), andnot_n hsl ha, ix]
      by_cases q : subS s a
      · rw [if_pos (show nI (s &&& (1023 ^^^ a)) = 0 by rw [q]; rfl)]
        exact fin 0 (by unfold vL; rw [if_pos q]; decide)
      · have hne : ¬ nI (s &&& (1023 ^^^ a)) = 0 := fun y => q ((nI_eq (b := 0) (Nat.lt_of_le_of_lt Nat.and_le_left (by omega)) (by decide)).mp y)
        rw [if_neg hne, far_n]
        exact fin (upV 1000) (by unfold vL; rw [if_neg q])
  unfold wX12_laysLeftOut
  refine ⟨vl hk (by decide), ?_⟩
  rw [nI_clamp (by omega), h3]
  intro v2 e2
  subst e2
  exact ⟨1025, up 1024 0 M0 rfl (fun _ _ _ => rfl) (fun s' hs' => absurd hs' (Nat.not_lt_zero s'))⟩
/-- the reference's way -/
theorem wayM {M0 M : xMem} {k : Nat} (hk : k < 6) {a : Nat} {ts : List Nat} (hw : wfS ts) (h3 : gi M0 3 k = nI ts.length) (h4 : ∀ i, i < ts.length → gi M0 4 (72 * k + i) = nI (ts.getD i 0)) (hR : RLo M0 a ts 0 M) {what : Nat} (hwh : what < 1000) (post : Int32 → xMem → Prop) : ∀ m t s many, t + m = ts.length → s < 1024 → many ≤ what → what < many + (wkF a (ts.drop t) s t).length → post (nI ((wkF a (ts.drop t) s t).getD (what - many) 0)) M → wX12_fitting_71 post (m + 1) (nI k) (nI what) (nI s) (nI many) (nI t) M := by
  have hl := hw.1
  have ix : ∀ u s : Nat, (1024 * nI u) + nI s = nI (1024 * u + s) := fun u s => by rw [z_mull, z_add]
  have ix2 : ∀ t : Nat, (72 * nI k) + nI t = nI (72 * k + t) := fun t => by rw [z_mull, z_add]
  intro m
  induction m with
  | zero =>
    intro t s many ht hs hm hw2 hp
    rw [List.drop_eq_nil_of_le (by omega)] at hw2
    have : what < many + 0 := hw2
    omega
  | succ m ih =>
    intro t s many ht hs hm hw2 hp
    have htl : t < ts.length := by omega
    have hc := hw.2 t htl
    obtain ⟨b3, b4⟩ := upV_lt (a := a) (r := ts.drop (t + 1)) (by rw [List.length_drop]; omega) s
    obtain ⟨b5, b6⟩ := upV_lt (a := a) (r := ts.drop t) (by rw [List.length_drop]; omega) s
    rw [drop_c htl] at hw2 hp
    unfold wkF at hw2 hp
    have ev : vL a (ts.drop t) s = min (vL a (ts.drop (t + 1)) (trn s (ts.getD t 0))) (vL a (ts.drop (t + 1)) s + 1) := by rw [drop_c htl]; rfl
    rw [wX12_fitting_71]; dsimp only
    unfold wX12_fitting_151
    refine ⟨vl hk (by decide), ?_⟩
    rw [nI_clamp (by omega), hR.1 _ _ (by decide), h3, if_neg (nI_ge htl (by omega)), nI_1 t, ix, ix]
    refine ⟨vl (by omega) (by decide), vl (by omega) (by decide), ?_⟩
    rw [nI_clamp (by omega), nI_clamp (by omega), hR.2 (t + 1) (Nat.zero_le _) (by omega) s hs, hR.2 t (Nat.zero_le _) (by omega) s hs, nI_1, ← upV_1 b4]
    have b7 : upV (vL a (ts.drop (t + 1)) s + 1) < 2 ^ 31 := by rw [upV_1 b4]; omega
    by_cases c : vL a (ts.drop (t + 1)) s + 1 ≤ vL a (ts.drop (t + 1)) (trn s (ts.getD t 0))
    · rw [if_pos c] at hw2 hp
      rw [if_pos (by rw [ev, Nat.min_eq_right c])]
      by_cases y : many = what
      · rw [if_pos (congrArg nI y)]
        rw [y, Nat.sub_self] at hp
        exact hp
      · rw [if_neg (fun z => y ((nI_eq (by omega) (by omega)).mp z))]
        intro v10 e10 v1 e1
        subst e10; subst e1
        rw [nI_1]
        have hw3 : what < many + ((wkF a (ts.drop (t + 1)) s (t + 1)).length + 1) := hw2
        refine ih (t + 1) s (many + 1) (by omega) hs (by omega) (by omega) ?_
        rw [show what - many = (what - (many + 1)) + 1 by omega] at hp
        exact hp
    · rw [if_neg c] at hw2 hp
      have hne : ¬ nI (upV (vL a (ts.drop (t + 1)) s + 1)) = nI (upV (vL a (ts.drop t) s)) := fun z => by
        have h := (nI_eq b7 (by omega)).mp z
        have e : vL a (ts.drop (t + 1)) s + 1 ≤ vL a (ts.drop t) s := upV_le.mp (Nat.le_of_eq h)
        rw [ev] at e
        omega
      rw [if_neg hne, ix2]
      refine ⟨vl (by omega) (by decide), ?_⟩
      rw [nI_clamp (by omega), hR.1 _ _ (by decide), h4 t htl, turned_eq, td_n hc hs]
      intro v1 e1
      subst e1
      exact ih (t + 1) (trn s (ts.getD t 0)) many (by omega) (trn_lt hc hs) hm hw2 hp
theorem RD_fit {S : Nat → List Nat} {e h hk : xT2} {il to il2 to2 : Int32} {kp : Bool} {tn : Nat} {t : Nat → Nat} {C M C' M' : xMem} (hR : RD S e h hk il to il2 to2 kp tn t C M) (fC : ∀ c i, cntC c i → c ≠ 79 → gi C' c i = gi C c i) (fM : ∀ c i, cntM c i → gi M' c i = gi M c i) (hX : MX C' M') : RD S e h hk il to il2 to2 kp tn t C' M' := by
  obtain ⟨rS, ⟨wE, rE, rE2⟩, ⟨wH, tL, rH, rH2⟩, ⟨k1, k2, k3⟩, ⟨wT, rT, rT2⟩, -⟩ := hR
  unfold cntC lawC at fC
  unfold cntM at fM
  refine ⟨fun k hk6 => ⟨(rS k hk6).1, SC_keep hk6 (fun c i _ _ => fC c i (by omega) (by omega)) (rS k hk6).2.1, SM_keep (fun c i _ _ => fM c i (by omega)) (rS k hk6).2.2⟩, ⟨wE, EC_keep (fC _ _ (by omega) (by omega)) (fun c i _ _ => fC c i (by omega) (by omega)) rE, EM_keep (fun c i _ _ _ => fM c i (by omega)) rE2⟩, ⟨wH, tL, ?_, HM_keep (fun c i _ _ _ => fM c i (by omega)) (fun i hi => fM 0 i (by omega)) rH2⟩, ⟨?_, ?_, fun q => ⟨(k3 q).1, HC_keep (fun c i _ _ => fC c i (by omega) (by omega)) (k3 q).2.1, HA_keep1 (fun c i _ => fM c i (by omega)) (k3 q).2.2⟩⟩, ⟨wT, TC_keep (fC _ _ (by omega) (by omega)) (fun i => fC _ _ (by omega) (by omega)) rT, TM_keep (fM _ _ (by omega)) (fun i => fM _ _ (by omega)) rT2⟩, hX⟩
  · obtain ⟨a1, a2, a3, a4, a5, a6, a7, a8⟩ := rH
    refine ⟨?_, ?_, ?_, ?_, ?_, ?_, fun k hk => ?_, fun l hl => ?_⟩
    · rw [fC _ _ (by omega) (by omega)]; exact a1
    · rw [fC _ _ (by omega) (by omega)]; exact a2
    · rw [fC _ _ (by omega) (by omega)]; exact a3
    · rw [fC _ _ (by omega) (by omega)]; exact a4
    · rw [fC _ _ (by omega) (by omega)]; exact a5
    · rw [fC _ _ (by omega) (by omega)]; exact a6
    · rw [fC (49 + 1) k (by omega) (by omega), fC (49 + 2) k (by omega) (by omega), fC (49 + 3) k (by omega) (by omega), fC (49 + 4) k (by omega) (by omega)]; exact a7 k hk
    · rw [fC (49 + 5) l (by omega) (by omega), fC (49 + 6) l (by omega) (by omega), fC (49 + 7) l (by omega) (by omega), fC (49 + 8) l (by omega) (by omega)]; exact a8 l hl
  · rw [fC _ _ (by omega) (by omega)]; exact k1
  · rw [fM _ _ (by omega)]; exact k2
theorem fitting_ok {LL : xMem → xMem → Prop} (hLL : LLc LL) (a0 a1 a2 : Int32) (C M : xMem) (h : RRL LL C M) : wX11_fitting a0 a1 a2 C (fun r C' => wX12_fitting a0 a1 a2 M (fun r' M' => r = r' ∧ RRL LL C' M')) := by
  obtain ⟨⟨S, e, hl, hk, il, to, il2, to2, kp, tn, t, hR⟩, hL⟩ := id h
  have x2 := hR.2.2.2.2.2
  unfold wX11_fitting
  rcases told_cases hR.1 a0 with ⟨k, hk6, rfl, hne, q1, q2⟩ | ⟨q1, q2⟩
  rotate_left
  · rw [q1, if_pos rfl]; unfold wX12_fitting; dsimp only; rw [q2, if_pos rfl]; exact ⟨rfl, h⟩
  obtain ⟨hw, hC, hM⟩ := hR.1 k hk6
  have hl72 := hw.1
  rw [q1, if_neg (show ¬ 3 + 2 * k = 0 by omega), within_eq, zi0, zi1023]
  by_cases c1 : 0 ≤ a1.toInt ∧ a1.toInt ≤ 1023
  rotate_left
  · rw [b2i_f c1, if_pos rfl]; unfold wX12_fitting; dsimp only
    rw [q2, if_neg n10, lies_eq, i64i, zj0, zj1023, b2i_f c1, if_pos rfl]; exact ⟨rfl, h⟩
  obtain ⟨a, ha, rfl⟩ := at_n (a := a1) (n := 1023) c1 (by decide)
  rw [b2i_t c1, if_neg n10]
  obtain ⟨A, B, hAB, eA, eB⟩ : ∃ A B : Nat, ((A = 81 ∧ B = 82) ∨ (A = 82 ∧ B = 81)) ∧ gi C 79 2 = nI A ∧ gi C 79 3 = nI B := by
    rcases x2.2 with y | y
    · exact ⟨81, 82, Or.inl ⟨rfl, rfl⟩, y.1, y.2⟩
    · exact ⟨82, 81, Or.inr ⟨rfl, rfl⟩, y.1, y.2⟩
  refine solvC (by omega) hw hC.1 hC.2.1 (by omega) hAB eA eB _ (fun C' hS e7 e85 => ?_)
  have hv0 : vL a (S k) 0 ≤ (S k).length := vL_0 a (S k)
  have hlen : (wkF a (S k) 0 0).length = vL a (S k) 0 := wkF_len a (S k) 0 0 (by omega)
  -- what stays
  have stay : ∀ M' : xMem, (∀ c i, c ≠ 55 → gi M' c i = gi M c i) → RRL LL C' M' := by
    intro M' hM'
    obtain ⟨f, ⟨A', B', hAB', eA', eB', -⟩, -⟩ := hS
    refine ⟨⟨S, e, hl, hk, il, to, il2, to2, kp, tn, t, RD_fit hR (fun c i hc hn => f c i (by omega) (by unfold cntC lawC at hc; omega) (by unfold cntC lawC at hc; omega)) (fun c i hc => hM' c i (by unfold cntM at hc; omega)) ⟨by rw [hM' _ _ (by decide)]; exact x2.1, ?_⟩⟩, hLL _ _ _ _ (fun c i hc => f c i (by unfold lawC at hc; omega) (by unfold lawC at hc; omega) (by unfold lawC at hc; omega)) (fun c i _ _ => hM' c i (by omega)) (hM' _ _ (by decide)) hL⟩
    rcases hAB' with ⟨y1, y2⟩ | ⟨y1, y2⟩
    · subst y1; subst y2; exact Or.inl ⟨eA', eB'⟩
    · subst y1; subst y2; exact Or.inr ⟨eA', eB'⟩
  -- the reference up to its rows
  have ref : ∀ post : Int32 → xMem → Prop, (∀ M', RLo M a (S k) 0 M' → (if a2 = 100 then post (nI (vL a (S k) 0)) M' else if 0 ≤ a2.toInt ∧ a2.toInt ≤ (nI (vL a (S k) 0) - 1).toInt then ∃ n71 : Nat, wX12_fitting_71 post n71 (nI k) a2 0 0 0 M' else post (-4) M')) → wX12_fitting (nI k) (nI a) a2 M post := by
    intro post hp
    unfold wX12_fitting
    rw [q2, if_neg n10, lies_eq, i64i, zj0, zj1023, b2i_t c1, if_neg n10]
    refine laysM hk6 (by omega) hw hM.1 hM.2.2 _ (fun M' hM' => ?_)
    have h9 := hp M' hM'
    have z : gi M' 55 0 = nI (vL a (S k) 0) := by
      have := hM'.2 0 (Nat.le_refl _) (Nat.zero_le _) 0 (by decide)
      rw [show upV (vL a ((S k).drop 0) 0) = vL a (S k) 0 from if_pos (by show vL a (S k) 0 < 500; omega)] at this
      exact this
    rw [z]
    by_cases c : a2 = 100
    · rw [if_pos c] at h9 ⊢
      exact ⟨vp0 (by decide) (by decide), h9⟩
    · rw [if_neg c] at h9 ⊢
      refine ⟨vp0 (by decide) (by decide), ?_⟩
      rw [lies_eq, i64i, i64i, zj0]
      by_cases y : 0 ≤ a2.toInt ∧ a2.toInt ≤ (nI (vL a (S k) 0) - 1).toInt
      · rw [if_pos y] at h9
        rw [b2i_t y, if_neg n10]; exact h9
      · rw [if_neg y] at h9
        rw [b2i_f y, if_pos rfl]; exact h9
  rw [e7, hlen]
  by_cases c100 : a2 = 100
  · rw [if_pos c100]
    refine ref _ (fun M' hM' => ?_)
    rw [if_pos c100]
    exact ⟨rfl, stay M' hM'.1⟩
  rw [if_neg c100, within_eq, zi0]
  by_cases c2 : 0 ≤ a2.toInt ∧ a2.toInt ≤ (nI (vL a (S k) 0) - 1).toInt
  rotate_left
  · rw [b2i_f c2, if_pos rfl]
    refine ref _ (fun M' hM' => ?_)
    rw [if_neg c100, if_neg c2]
    exact ⟨rfl, stay M' hM'.1⟩
  rw [b2i_t c2, if_neg n10]
  have hpos : 1 ≤ vL a (S k) 0 := by
    rcases Nat.eq_zero_or_pos (vL a (S k) 0) with z | z
    · have h2 := c2.2
      rw [z, show (nI 0 - 1).toInt = -1 by decide] at h2
      omega
    · exact z
  have h2 := c2.2
  rw [show nI (vL a (S k) 0) - 1 = nI (vL a (S k) 0 - 1) from z_sub (b := 1) hpos, nI_toInt (by omega)] at h2
  obtain ⟨w, hwl, rfl⟩ := at_n (a := a2) (n := vL a (S k) 0 - 1) ⟨c2.1, h2⟩ (by omega)
  rw [if_neg (show ¬ (72 : Int32) ≤ nI w from nI_ge (b := 72) (by omega) (by decide))]
  refine ⟨vl (by omega) (by decide), ?_⟩
  rw [nI_clamp (by omega), e85 w (by omega)]
  refine ref _ (fun M' hM' => ?_)
  rw [if_neg c100, if_pos c2]
  refine ⟨(S k).length + 1, wayM hk6 hw hM.1 hM.2.2 hM' (by omega) _ (S k).length 0 0 0 (by omega) (by decide) (Nat.zero_le _) ?_ ?_⟩
  · show w < 0 + (wkF a (S k) 0 0).length
    omega
  · exact ⟨rfl, stay M' hM'.1⟩
