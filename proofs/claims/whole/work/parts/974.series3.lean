/-! series() -/
def rV (b : xB) : Nat := match b with | none => 1000000000 | some (m, e, _) => 100 * m + e
def okD (n : Nat) (b : xB) : Prop := match b with | none => True | some (m, e, r) => m ≤ 10 ∧ e ≤ 10 ∧ r.length = n ∧ ∀ i, i < n → r.getD i 0 < n
def stD (S : Nat → List Nat) (g n : Nat) (b : xB) (x : Nat) : xB := if mkL (dgs n n x) = 2 ^ n - 1 then updE (fun r => evS S (r.map (sa0 g))) b (dgs n n x) else b
theorem stD_ords (S : Nat → List Nat) (g n : Nat) : (List.range (n ^ n)).foldl (stD S g n) none = (ords n).foldl (updE (fun r => evS S (r.map (sa0 g)))) none := by
  unfold ords
  rw [List.foldl_filter, List.foldl_map]
  congr 1
  funext b x
  unfold stD
  by_cases q : mkL (dgs n n x) = 2 ^ n - 1
  · rw [if_pos q, if_pos (decide_eq_true q)]
  · rw [if_neg q, if_neg (fun z => q (of_decide_eq_true z))]
theorem copM {n : Nat} (hn : n ≤ 5) (K54 : Int32 → Int32 → Int32 → Int32 → xMem → Prop) (post : Int32 → xMem → Prop) (a2 x4 x5 : Int32) {M0 : xMem} (hk : ∀ M', (∀ c i, c ≠ 58 → gi M' c i = gi M0 c i) → (∀ i, i < n → gi M' 58 i = gi M0 57 i) → K54 a2 (nI n) x4 (x5 + 1) M') : ∀ m i M, i + m = n → (∀ c i, c ≠ 58 → gi M c i = gi M0 c i) → (∀ j, j < i → gi M 58 j = gi M0 57 j) → wX12_series_103 K54 post (m + 1) a2 (nI n) x4 x5 (nI i) M := by
  intro m
  induction m with
  | zero =>
    intro i M hi hf h1
    rw [wX12_series_103]; dsimp only
    rw [if_pos (nI_le (by omega) (by omega))]
    unfold wX12_series_129
    intro v1 e1
    subst e1
    exact hk M hf (fun j hj => h1 j (by omega))
  | succ m ih =>
    intro i M hi hf h1
    rw [wX12_series_103]; dsimp only
    rw [if_neg (nI_ge (by omega) (by omega))]
    refine ⟨vl (by omega) (by decide), vl (by omega) (by decide), ?_⟩
    intro M4 e4 v5 e5
    subst e4; subst e5
    rw [nI_1, nI_clamp (by omega)]
    refine ih (i + 1) _ (by omega) (fun c j q => by rw [gi_si, if_neg (by omega)]; exact hf c j q) (fun j hj => ?_)
    rw [gi_si]
    by_cases q : j = i
    · rw [if_pos ⟨rfl, q⟩, q]; exact hf 57 i (by omega)
    · rw [if_neg (by omega)]; exact h1 j (by omega)
theorem serM {S : Nat → List Nat} (hw : ∀ k, wfS (S k)) {M0 : xMem} (hS : ∀ k, k < 6 → SM (S k) k M0) {g : Nat} (hg : g < 64) (h2 : 2 ≤ pc g) (h5 : pc g ≤ 5) {m e : Nat} {row : List Nat} (hr : (ords (pc g)).foldl (updE (fun r => evS S (r.map (sa0 g)))) none = some (m, e, row)) (a2 : Int32) (post : Int32 → xMem → Prop) (hp : (row.length = pc g ∧ m ≤ 10 ∧ e ≤ 10) → ∀ M', (∀ c i, ¬ (56 ≤ c ∧ c ≤ 58) → gi M' c i = gi M0 c i) → (a2 = 20 → post (nI m) M') ∧ (a2 = 21 → post (nI e) M') ∧ (∀ j, j < pc g → a2 = nI j → post (nI (sa0 g (row.getD j 0))) M')) (ha : a2 = 20 ∨ a2 = 21 ∨ ∃ j, j < pc g ∧ a2 = nI j) : wX12_series_40 post (nI g) a2 M0 := by
  unfold wX12_series_40
  have hlen : (slN g 10).length = pc g := slN_pc (by omega)
  refine takesM (by omega) _ (fun M1 f1 t1 => ?_)
  rw [hlen] at t1
  have hs6 := sl6 hg
  have h56 : ∀ i, i < pc g → gi M1 56 i = nI (sa0 g i) := t1
  generalize hn : pc g = n at *
  have hpow : n ^ n ≤ 5 ^ 5 := Nat.le_trans (Nat.pow_le_pow_left h5 n) (Nat.pow_le_pow_right (by omega) h5)
  have h55 : (5 : Nat) ^ 5 = 3125 := by decide
  rw [hlen]
  refine ⟨n ^ n + 1, ?_⟩
  have key : ∀ (q x : Nat) (b : xB) (M : xMem), x + q = n ^ n → okD n b → (∀ c i, c ≠ 57 → c ≠ 58 → gi M c i = gi M1 c i) → (∀ i, i < (bR b).length → gi M 58 i = nI ((bR b).getD i 0)) → (List.range' x q).foldl (stD S g n) b = some (m, e, row) → wX12_series_54 post (q + 1) a2 (nI n) (nI (rV b)) (nI x) M := by
    intro q
    induction q with
    | zero =>
      intro x b M hx ob hf h58 hb
      have hb' : b = some (m, e, row) := hb
      subst hb'
      obtain ⟨o1, o2, o3, o4⟩ : m ≤ 10 ∧ e ≤ 10 ∧ row.length = n ∧ ∀ i, i < n → row.getD i 0 < n := ob
      have hp' := hp ⟨o3, o1, o2⟩ M (fun c i z => by rw [hf c i (by omega) (by omega)]; exact f1 c i (by omega))
      have z100 : ¬ ((100 : Int32) = 0) := by decide
      rw [wX12_series_54]; dsimp only
      refine powM h5 _ ?_
      rw [if_pos (nI_le (by omega) (by omega))]
      have eV : (nI (rV (some (m, e, row))) : Int32) / 100 = nI m := by
        show nI (100 * m + e) / nI 100 = nI m
        rw [nI_div (by omega) (by omega)]
        congr 1
        omega
      by_cases c1 : a2 = 20
      · rw [if_pos c1, eV]; exact ⟨z100, hp'.1 c1⟩
      rw [if_neg c1]
      by_cases c2 : a2 = 21
      · rw [if_pos c2, eV]
        refine ⟨z100, ?_⟩
        have : nI (rV (some (m, e, row))) - nI m * 100 = nI e := by
          show nI (100 * m + e) - nI m * nI 100 = nI e
          rw [z_mul, z_sub (by omega)]
          congr 1
          omega
        rw [this]
        exact hp'.2.1 c2
      rw [if_neg c2]
      obtain ⟨j, hj, rfl⟩ : ∃ j, j < n ∧ a2 = nI j := by
        rcases ha with q | q | q
        · exact absurd q c1
        · exact absurd q c2
        · exact q
      have e58 : gi M 58 j = nI (row.getD j 0) := h58 j (by show j < row.length; omega)
      have hrj := o4 j hj
      rw [nI_clamp (by omega), e58]
      refine ⟨vl (by omega) (by decide), vl (by omega) (by decide), ?_⟩
      rw [nI_clamp (by omega), hf 56 _ (by omega) (by omega), h56 _ hrj]
      exact hp'.2.2 j hj rfl
    | succ q ih =>
      intro x b M hx ob hf h58 hb
      have hxn : x < n ^ n := by omega
      rw [wX12_series_54]; dsimp only
      refine powM h5 _ ?_
      rw [if_neg (nI_ge hxn (by omega))]
      unfold wX12_opensRow
      intro v1 e1
      subst e1
      refine ⟨n + 1, digC (by omega) h5 (M0 := M) _ n x M (Nat.le_refl _) (by omega) (fun _ _ _ => rfl) (fun M2 g1 g2 _ => ?_)⟩
      have hrl := dgs_len n n x
      have hrd := fun i hi => dgs_lt (n := n) (by omega) n x i hi
      have hf2 : ∀ c i, c ≠ 57 → c ≠ 58 → gi M2 c i = gi M1 c i := fun c i z1 z2 => by rw [g1 c i z1]; exact hf c i z1 z2
      refine ordM h5 hrl hrd g2 _ ?_
      have hnx : ∀ b', okD n b' → stD S g n b x = b' → ∀ M3, (∀ c i, c ≠ 57 → c ≠ 58 → gi M3 c i = gi M1 c i) → (∀ i, i < (bR b').length → gi M3 58 i = nI ((bR b').getD i 0)) → wX12_series_54 post (q + 1) a2 (nI n) (nI (rV b')) (nI x + 1) M3 := by
        intro b' ob' eb M3 hf3 h3
        rw [nI_1]
        refine ih (x + 1) b' M3 (by omega) ob' hf3 h3 ?_
        rw [List.range'_succ, List.foldl_cons, eb] at hb
        exact hb
      by_cases c1 : mkL (dgs n n x) = 2 ^ n - 1
      rotate_left
      · rw [b2i_f c1, if_pos rfl]
        unfold wX12_series_129
        intro v1 e1
        subst e1
        refine hnx b ob (if_neg c1) M2 hf2 (fun i hi => ?_)
        rw [g1 58 i (by omega)]
        exact h58 i hi
      rw [b2i_t c1, if_neg (by decide)]
      have hSM2 : ∀ k, k < 6 → SM (S k) k M2 := fun k hk => SM_keep (fun c i z1 z2 => by rw [hf2 c i (by omega) (by omega)]; exact f1 c i (by omega)) (hS k hk)
      have hr6 : ∀ i, i < n → (dgs n n x).getD i 0 < n ∧ sa0 g ((dgs n n x).getD i 0) < 6 := fun i hi => ⟨hrd i hi, (hs6.2 _ (by have := hrd i hi; omega)).1⟩
      have h56' : ∀ i, i < n → gi M2 56 i = nI (sa0 g i) := fun i hi => by rw [hf2 56 i (by omega) (by omega)]; exact h56 i hi
      have hev := evS_w hw ((dgs n n x).map (sa0 g))
      have hpc := pc_le hev.2
      refine opnM hw hSM2 h5 hrl hr6 h56' g2 _ ?_
      have eU : stD S g n b x = updE (fun r => evS S (r.map (sa0 g))) b (dgs n n x) := if_pos c1
      by_cases c2 : 100 * (evS S ((dgs n n x).map (sa0 g))).1 + pc (evS S ((dgs n n x).map (sa0 g))).2 < rV b
      · have hV : rV b ≤ 1000000000 := by
          match b, ob with
          | none, _ => exact Nat.le_refl _
          | some (m, e, w), ob => have o1 : m ≤ 10 := ob.1; have o2 : e ≤ 10 := ob.2.1; show 100 * m + e ≤ _; omega
        rw [if_pos (nI_lt c2 (by omega))]
        refine opnM hw hSM2 h5 hrl hr6 h56' g2 _ ?_
        have eb : stD S g n b x = some ((evS S ((dgs n n x).map (sa0 g))).1, pc (evS S ((dgs n n x).map (sa0 g))).2, dgs n n x) := by
          rw [eU]
          match b, ob, c2 with
          | none, _, _ => rfl
          | some (m, e, w), ob, c2 =>
            have o2 : e ≤ 10 := ob.2.1
            have c2' : 100 * (evS S ((dgs n n x).map (sa0 g))).1 + pc (evS S ((dgs n n x).map (sa0 g))).2 < 100 * m + e := c2
            refine if_pos ?_
            show (evS S ((dgs n n x).map (sa0 g))).1 < m ∨ ((evS S ((dgs n n x).map (sa0 g))).1 = m ∧ pc (evS S ((dgs n n x).map (sa0 g))).2 < e)
            omega
        refine ⟨n + 1, copM h5 _ _ _ _ _ (M0 := M2) (fun M3 k1 k2 => ?_) n 0 M2 (by omega) (fun _ _ _ => rfl) (fun j hj => by omega)⟩
        refine hnx (some ((evS S ((dgs n n x).map (sa0 g))).1, pc (evS S ((dgs n n x).map (sa0 g))).2, dgs n n x)) ⟨hev.1, hpc, hrl, hrd⟩ eb M3 (fun c i z1 z2 => by rw [k1 c i z2]; exact hf2 c i z1 z2) (fun i hi => ?_)
        have hi' : i < (dgs n n x).length := hi
        rw [k2 i (by omega)]
        exact g2 i (by omega)
      · have hlt : 100 * (evS S ((dgs n n x).map (sa0 g))).1 + pc (evS S ((dgs n n x).map (sa0 g))).2 < 2 ^ 31 := by omega
        rw [if_neg (nI_nlt (by omega) hlt)]
        unfold wX12_series_129
        intro v1 e1
        subst e1
        refine hnx b ob ?_ M2 hf2 (fun i hi => by rw [g1 58 i (by omega)]; exact h58 i hi)
        rw [eU]
        match b, ob, c2 with
        | none, _, c2 => exact absurd (show _ < 1000000000 by omega) c2
        | some (m, e, w), ob, c2 =>
          have c2' : ¬ 100 * (evS S ((dgs n n x).map (sa0 g))).1 + pc (evS S ((dgs n n x).map (sa0 g))).2 < 100 * m + e := c2
          refine if_neg ?_
          show ¬ ((evS S ((dgs n n x).map (sa0 g))).1 < m ∨ ((evS S ((dgs n n x).map (sa0 g))).1 = m ∧ pc (evS S ((dgs n n x).map (sa0 g))).2 < e))
          have o2 : e ≤ 10 := ob.2.1
          omega
  have h0 := key (n ^ n) 0 none M1 (by omega) trivial (fun _ _ _ _ => rfl) (fun i hi => absurd hi (Nat.not_lt_zero _)) (by rw [← List.range_eq_range', stD_ords]; exact hr)
  exact h0
theorem fold_some (ev : List Nat → Nat × Nat) : ∀ (L : List (List Nat)) (b : xB), (L ≠ [] ∨ b ≠ none) → ∃ p, L.foldl (updE ev) b = some p := by
  intro L
  induction L with
  | nil =>
    intro b h
    match b, h with
    | none, h => exact absurd rfl (h.resolve_left (fun q => q rfl))
    | some p, _ => exact ⟨p, rfl⟩
  | cons r L ih =>
    intro b _
    rw [List.foldl_cons]
    refine ih _ (Or.inr ?_)
    match b with
    | none => exact fun q => nomatch q
    | some (m, e, w) =>
      unfold updE
      dsimp only
      split <;> exact fun q => nomatch q
theorem solveC {S : Nat → List Nat} (hw : ∀ k, wfS (S k)) {C : xMem} (hS : ∀ k, k < 6 → SC (S k) k C) {g : Nat} (hg : g < 64) (h2 : 2 ≤ pc g) (h5 : pc g ≤ 5) {m e : Nat} {row : List Nat} (hr : (ords (pc g)).foldl (updE (fun r => evS S (r.map (sa0 g)))) none = some (m, e, row)) (post : xMem → Prop) (hp : ∀ C', SB C (some (m, e, row.map (sa0 g))) C' → post C') : wX8_solve (nI g) C post := by
  unfold wX8_solve
  intro M1 e1 M2 e2
  subst e1; subst e2
  have hSS : ∀ k, k < 6 → SC (S k) k (si (si C 86 2 11) 86 3 11) := fun k hk => SC_keep hk (fun c i z1 z2 => by rw [gi_si, if_neg (by omega), gi_si, if_neg (by omega)]) (hS k hk)
  refine placeC hw hS 7 g [] none _ _ hg (by omega) (by show 0 + pc g ≤ 5; omega) ⟨by decide, by decide, by decide⟩ ?_ (fun i hi => absurd hi (Nat.not_lt_zero _)) (fun C' hB _ => hp C' ?_)
  · refine ⟨fun c i q => by rw [gi_si, if_neg (by omega), gi_si, if_neg (by omega)], ?_, ?_, fun i hi => absurd hi (Nat.not_lt_zero _)⟩
    · rw [gi_si, if_neg (by omega), gi_si, if_pos ⟨rfl, rfl⟩]; rfl
    · rw [gi_si, if_pos ⟨rfl, rfl⟩]; rfl
  · have e3 : (plf 7 g).foldl (fun b r => updE (evS S) b ([] ++ r)) none = some (m, e, row.map (sa0 g)) := by
      show (plf 7 g).foldl (updE (evS S)) none = _
      rw [(rows_eq hg h2 h5).1]
      have := fold_map (evS S) (List.map (sa0 g)) (ords (pc g)) none
      rw [hr] at this
      exact this
    rw [e3] at hB
    exact hB
theorem series_ok {LL : xMem → xMem → Prop} (hLL : LLc LL) (a0 a1 : Int32) (C M : xMem) (h : RRL LL C M) : wX11_series a0 a1 C (fun r C' => wX12_series a0 a1 M (fun r' M' => r = r' ∧ RRL LL C' M')) := by
  obtain ⟨⟨S, e, hl, hk, il, to, il2, to2, kp, tn, t, hR⟩, hL⟩ := id h
  have hC := fun k (hk6 : k < 6) => (⟨(hR.1 k hk6).1, (hR.1 k hk6).2.1⟩ : wfS (S k) ∧ SC (S k) k C)
  have hM := fun k (hk6 : k < 6) => (⟨(hR.1 k hk6).1, (hR.1 k hk6).2.2⟩ : wfS (S k) ∧ SM (S k) k M)
  have hw6 : ∀ k, wfS ((fun k => if k < 6 then S k else []) k) := by
    intro k
    dsimp only
    by_cases q : k < 6
    · rw [if_pos q]; exact (hC k q).1
    · rw [if_neg q]; exact ⟨by show 0 ≤ 72; omega, fun i hi => absurd hi (Nat.not_lt_zero _)⟩
  have hC6 : ∀ k, k < 6 → SC ((fun k => if k < 6 then S k else []) k) k C := fun k q => by dsimp only; rw [if_pos q]; exact (hC k q).2
  have hM6 : ∀ k, k < 6 → SM ((fun k => if k < 6 then S k else []) k) k M := fun k q => by dsimp only; rw [if_pos q]; exact (hM k q).2
  generalize (fun k => if k < 6 then S k else []) = S6 at hw6 hC6 hM6
  have refN : ∀ C', RRL LL C' M → (∀ g, okS S a0 g → ¬ (2 ≤ pc g ∧ pc g ≤ 5) ∨ (a1 ≠ 20 ∧ a1 ≠ 21 ∧ ¬ (0 ≤ a1.toInt ∧ a1.toInt ≤ (pc g : Int) - 1))) → wX12_series a0 a1 M (fun r' M' => (-1 : Int32) = r' ∧ RRL LL C' M') := by
    intro C' h hn
    unfold wX12_series
    rw [show wX12_areStories a0 2 5 M = wX12_areStories a0 (nI 2) (nI 5) M from rfl]
    refine areM (fun k hk => (hM k hk).2) a0 2 5 (by omega) (by omega) _ (fun g ho p1 p2 => ?_) (fun _ => ?_)
    · rw [if_neg (by decide)]
      rcases hn g ho with q | ⟨q1, q2, q3⟩
      · exact absurd ⟨p1, p2⟩ q
      rw [if_neg q1, if_neg q2, ho.1]
      have hg := ho.2.2.1
      refine sizeOf_n (by omega) M _ ?_
      rw [lies_eq, i64i, i64i, zj0, show nI (pc g) - 1 = nI (pc g - 1) from z_subl (n := 1) (by show 1 ≤ pc g; omega), nI_toInt (by omega), b2i_f (by omega), if_pos rfl]
      exact ⟨rfl, h⟩
    · rw [if_pos rfl]; exact ⟨rfl, h⟩
  unfold wX11_series
  rw [bitCount_eq, within_eq, zi0]
  rcases okS_c S a0 with ⟨g, ho, q0⟩ | ⟨hno, q0⟩
  rotate_left
  · have cno : ∀ s0, wX11_series_26 (fun r C' => wX12_series a0 a1 M (fun r' M' => r = r' ∧ RRL LL C' M')) a0 a1 (bc a0) s0 C := by
      intro s0
      have r0 := refN C h (fun g ho => absurd ho (hno g))
      unfold wX11_series_26
      refine areToldC hC a0 _ ?_
      rcases q0 with q0 | q0
      · rw [q0] at r0 ⊢
        rw [show (if (0 : Int32) &&& (nI (orB (tS S) 6) ^^^ (-1)) = 0 then (1 : Int32) else 0) = 1 from if_pos (by rw [Int32.zero_and]), if_neg (by decide), show bc 0 = 0 by decide, within_eq, show b2i ((2 : Int32).toInt ≤ (0 : Int32).toInt ∧ (0 : Int32).toInt ≤ (5 : Int32).toInt) = 0 by decide, if_pos rfl]
        exact r0
      · rw [if_neg q0, if_pos rfl]
        exact r0
    unfold wX11_series_25
    split
    · exact cno _
    · split <;> exact cno _
  obtain ⟨rfl, hg1, hg, hgt⟩ := id ho
  have hu : ∀ g', okS S (nI g) g' → g' = g := fun g' ho => ((nI_eq (by omega) (by have := ho.2.2.1; omega)).mp ho.1).symm
  have hpc1 : 1 ≤ pc g := by
    have key : ∀ g : Fin 64, 1 ≤ g.1 → 1 ≤ pc g.1 := by decide +kernel
    exact key ⟨g, hg⟩ hg1
  have hpc6 := pc6 hg
  rw [bc_n (by omega), show nI (pc g) - 1 = nI (pc g - 1) from z_subl (n := 1) (by show 1 ≤ pc g; omega), nI_toInt (by omega)]
  by_cases c0 : 2 ≤ pc g ∧ pc g ≤ 5
  rotate_left
  · have cno : ∀ s0, wX11_series_26 (fun r C' => wX12_series (nI g) a1 M (fun r' M' => r = r' ∧ RRL LL C' M')) (nI g) a1 (nI (pc g)) s0 C := by
      intro s0
      unfold wX11_series_26
      refine areToldC hC (nI g) _ ?_
      rw [if_pos q0, if_neg (by decide), within_eq, zi2, zi5, nI_toInt (by omega), b2i_f (by omega), if_pos rfl]
      exact refN C h (fun g' ho' => Or.inl (by rw [hu g' ho']; exact c0))
    unfold wX11_series_25
    split
    · exact cno _
    · split <;> exact cno _
  obtain ⟨p2, p5⟩ := c0
  have hrows := rows_eq hg p2 p5
  obtain ⟨⟨m, e', row⟩, hr⟩ := fold_some (fun r => evS S6 (r.map (sa0 g))) (ords (pc g)) none (Or.inl hrows.2)
  have c26 : ∀ s0, (s0 = 0 ∧ (a1 = 20 ∨ a1 = 21)) ∨ (s0 = 1 ∧ ∃ j, j < pc g ∧ a1 = nI j) → wX11_series_26 (fun r C' => wX12_series (nI g) a1 M (fun r' M' => r = r' ∧ RRL LL C' M')) (nI g) a1 (nI (pc g)) s0 C := by
    intro s0 hs
    unfold wX11_series_26
    refine areToldC hC (nI g) _ ?_
    rw [if_pos q0, if_neg (by decide), within_eq, zi2, zi5, nI_toInt (by omega), b2i_t (by omega), if_neg (by decide)]
    have fin : ∀ r C', (∀ c i, ¬ ((c = 86 ∧ (i = 2 ∨ i = 3)) ∨ c = 87 ∨ c = 88) → gi C' c i = gi C c i) → ((row.length = pc g ∧ m ≤ 10 ∧ e' ≤ 10) → (a1 = 20 → r = nI m) ∧ (a1 = 21 → r = nI e') ∧ (∀ j, j < pc g → a1 = nI j → r = nI (sa0 g (row.getD j 0)))) → wX12_series (nI g) a1 M (fun r' M' => r = r' ∧ RRL LL C' M') := by
      intro r C' fC hres
      have rr : ∀ M', (∀ c i, ¬ (56 ≤ c ∧ c ≤ 58) → gi M' c i = gi M c i) → RRL LL C' M' := fun M' fM => RRL_fr hLL h (fun c i q => fC c i (by unfold cntC lawC at q; omega)) (fun c i q => fM c i (by unfold cntM at q; omega))
      have h40 : (a1 = 20 ∨ a1 = 21 ∨ ∃ j, j < pc g ∧ a1 = nI j) → wX12_series_40 (fun r' M' => r = r' ∧ RRL LL C' M') (nI g) a1 M := by
        intro ha
        refine serM hw6 hM6 hg p2 p5 hr a1 _ (fun hb M' fM => ?_) ha
        have h9 := hres hb
        exact ⟨fun q => ⟨h9.1 q, rr M' fM⟩, fun q => ⟨h9.2.1 q, rr M' fM⟩, fun j hj q => ⟨h9.2.2 j hj q, rr M' fM⟩⟩
      unfold wX12_series
      rw [show wX12_areStories (nI g) 2 5 M = wX12_areStories (nI g) (nI 2) (nI 5) M from rfl]
      refine areM (fun k hk => (hM k hk).2) (nI g) 2 5 (by omega) (by omega) _ (fun g' ho' p1 p2 => ?_) (fun z => absurd ⟨p2, p5⟩ (z g ho))
      rw [if_neg (by decide)]
      rcases hs with ⟨_, q | q⟩ | ⟨_, j, hj, q⟩
      · rw [if_pos q]; exact h40 (Or.inl q)
      · rw [if_neg (by rw [q]; decide), if_pos q]; exact h40 (Or.inr (Or.inl q))
      · have j1 : a1 ≠ 20 := by rw [q]; exact fun z => by have := (nI_eq (a := j) (b := 20) (by omega) (by omega)).mp z; omega
        have j2 : a1 ≠ 21 := by rw [q]; exact fun z => by have := (nI_eq (a := j) (b := 21) (by omega) (by omega)).mp z; omega
        rw [if_neg j1, if_neg j2]
        refine sizeOf_n (by omega) M _ ?_
        rw [lies_eq, i64i, i64i, zj0, show nI (pc g) - 1 = nI (pc g - 1) from z_subl (n := 1) (by show 1 ≤ pc g; omega), nI_toInt (n := pc g - 1) (by omega), q, nI_toInt (by omega), b2i_t (by omega), if_neg (by decide), ← q]
        exact h40 (Or.inr (Or.inr ⟨j, hj, q⟩))
    have h64 : wX11_series_64 (fun r C' => wX12_series (nI g) a1 M (fun r' M' => r = r' ∧ RRL LL C' M')) (nI g) a1 s0 C := by
      unfold wX11_series_64
      refine solveC hw6 hC6 hg p2 p5 hr _ (fun C' hB => ?_)
      rcases hs with ⟨s, q | q⟩ | ⟨s, j, hj, q⟩
      · rw [if_pos s, if_pos q]
        exact fin _ C' hB.1 (fun _ => ⟨fun _ => hB.2.1, fun z => absurd (q.symm.trans z) (by decide), fun j hj z => absurd (q.symm.trans z) (fun z => by have := (nI_eq (a := 20) (b := j) (by omega) (by omega)).mp z; omega)⟩)
      · rw [if_pos s, if_neg (by rw [q]; decide)]
        exact fin _ C' hB.1 (fun _ => ⟨fun z => absurd (q.symm.trans z) (by decide), fun _ => hB.2.2.1, fun j hj z => absurd (q.symm.trans z) (fun z => by have := (nI_eq (a := 21) (b := j) (by omega) (by omega)).mp z; omega)⟩)
      · rw [if_neg (by rw [s]; decide)]
        subst q
        refine ⟨vl (by omega) (by decide), ?_⟩
        rw [nI_clamp (by omega)]
        refine fin _ C' hB.1 (fun hb => ⟨fun z => absurd z (fun z => by have := (nI_eq (a := j) (b := 20) (by omega) (by omega)).mp z; omega), fun z => absurd z (fun z => by have := (nI_eq (a := j) (b := 21) (by omega) (by omega)).mp z; omega), fun j' hj' z => ?_⟩)
        have z2 := (nI_eq (by omega) (by omega)).mp z
        subst z2
        have := hB.2.2.2 j (by show j < (row.map (sa0 g)).length; rw [List.length_map]; omega)
        rw [this]
        show nI ((row.map (sa0 g)).getD j 0) = _
        rw [List.getD_eq_getElem?_getD, List.getElem?_map, List.getElem?_eq_getElem (by omega), List.getD_eq_getElem?_getD, List.getElem?_eq_getElem (by omega)]
        rfl
    rcases hs with ⟨s, q | q⟩ | ⟨s, j, hj, q⟩
    · rw [if_pos s, if_pos q]; exact h64
    · rw [if_pos s, if_neg (by rw [q]; decide), if_pos q]; exact h64
    · rw [if_neg (by rw [s]; decide)]; exact h64
  by_cases c1 : 0 ≤ a1.toInt ∧ a1.toInt ≤ ((pc g - 1 : Nat) : Int)
  · rw [b2i_t c1, if_neg (by decide)]
    obtain ⟨j, hj, rfl⟩ := at_n c1 (by omega)
    have hj5 : j < 5 := by omega
    rw [if_neg (show ¬ (5 : Int32) ≤ nI j from nI_ge hj5 (by decide))]
    exact c26 1 (Or.inr ⟨rfl, j, by omega, rfl⟩)
  · rw [b2i_f c1, if_pos rfl]
    unfold wX11_series_25
    by_cases c2 : a1 = 20 ∨ a1 = 21
    · exact c26 0 (Or.inl ⟨rfl, c2⟩)
    · unfold wX11_series_26
      refine areToldC hC (nI g) _ ?_
      rw [if_pos q0, if_neg (by decide), within_eq, zi2, zi5, nI_toInt (by omega), b2i_t (by omega), if_neg (by decide), if_pos rfl, if_neg (fun z => c2 (Or.inl z)), if_neg (fun z => c2 (Or.inr z))]
      exact refN C h (fun g' ho' => Or.inr ⟨fun z => c2 (Or.inl z), fun z => c2 (Or.inr z), by rw [hu g' ho']; omega⟩)
