/-! a law asked, the reference: its answers -/
theorem vp0 {N : Nat} (h : 0 < N) (h2 : N < 2 ^ 31) : vp_in 0 N := vl (n := 0) h h2
def rpM (rr : Nat) (cs : List xQ4) (K : List (Nat × Nat)) (M : xMem) : Prop := gi M 15 rr = nI cs.length ∧ (∀ i, i < cs.length → gi M 9 (16 * rr + i) = nI (lt7 (cs.getD i (0, 0, 0, 0)).1) ∧ gi M 10 (16 * rr + i) = nI (240 * rr + (cs.getD i (0, 0, 0, 0)).2.1) ∧ gi M 11 (16 * rr + i) = nI (240 * rr + (cs.getD i (0, 0, 0, 0)).2.2.1) ∧ gi M 12 (16 * rr + i) = nI (240 * rr + (cs.getD i (0, 0, 0, 0)).2.2.2)) ∧ ∀ i, i < K.length → gi M 13 (240 * rr + i) = nI (K.getD i (0, 0)).1 ∧ gi M 14 (240 * rr + i) = nI (K.getD i (0, 0)).2
theorem hasK_mem {K k : List (Nat × Nat)} {z : Nat} (h : hasK K z k) (hl : z + k.length ≤ K.length) {x : Nat × Nat} (hx : x ∈ k) : x ∈ K := by
  obtain ⟨i, hi, e⟩ := List.mem_iff_getElem.mp hx
  have h1 := h i hi
  rw [List.getD_eq_getElem?_getD, List.getD_eq_getElem?_getD, List.getElem?_eq_getElem (by omega), List.getElem?_eq_getElem hi] at h1
  have h2 : K[z + i]'(by omega) = k[i] := h1
  rw [← e, ← h2]
  exact List.getElem_mem _
/-- a chunk of codes -/
theorem worksM {M0 : xMem} {rr : Nat} (hr : rr < 2) {K : List (Nat × Nat)} (hK : K.length ≤ 240) (hb : ∀ x, x ∈ K → okCd x) {vals : Nat → Nat} (h13 : ∀ j, j < K.length → gi M0 13 (240 * rr + j) = nI (K.getD j (0, 0)).1 ∧ gi M0 14 (240 * rr + j) = nI (K.getD j (0, 0)).2) (hv : ∀ i, i < 11 → gi M0 0 (38 + i) = nI (vals i)) (hv11 : gi M0 0 65 = nI (vals 11)) {z to : Nat} {k : List (Nat × Nat)} {f : xF} (hk : hasK K z k) (hz : to = z + k.length) (hto : to ≤ K.length) (hg : gdL k f) (post : xMem → Prop) (hp : ∀ M', (∀ c i, c ≠ 23 → c ≠ 24 → gi M' c i = gi M0 c i) → (match f vals with
    | some v => gi M' 24 0 = 0 ∧ gi M' 23 0 = v
    | none => gi M' 24 0 = 1) → post M') {M : xMem} (hM : ∀ c i, c ≠ 23 → c ≠ 24 → gi M c i = gi M0 c i) : wX12_works (nI (240 * rr + z)) (nI (240 * rr + to)) M post := by
  subst hz
  have := wkM hr hK h13 hv hv11 post k z [] [f vals] hk hto (fun x hx => hb x (hasK_mem hk hto hx)) (by show 0 + k.length ≤ 240; omega) (hg vals []) (fun M' hM' => hp M' hM'.1 hM'.2.1) M ⟨hM, trivial⟩
  rw [Nat.add_assoc] at this
  exact ⟨_, this⟩
theorem lt7_n : ∀ a < 7, ∀ b < 7, nI (lt7 a) = nI (lt7 b) → a = b := by decide +kernel
theorem ltr_n : ∀ k < 6, ltr k = nI (lt7 k) := by decide +kernel
theorem held_n (x : Int32) {b : Nat} (hb : b < 1000) (M : xMem) (post : Int32 → xMem → Prop) (h : post (nI (clN x b)) M) : wX12_held x (nI b) M post := by
  have hx := x.toInt_lt
  have e0 : (0 ≤ x) ↔ 0 ≤ x.toInt := by rw [Int32.le_iff_toInt_le, zi0]
  have eb : (x ≤ nI b) ↔ x.toInt ≤ (b : Int) := by rw [Int32.le_iff_toInt_le, nI_toInt (by omega)]
  have ex : 0 ≤ x.toInt → x = nI x.toInt.toNat := fun h => by
    apply Int32.toInt_inj.mp
    rw [nI_toInt (by omega)]
    omega
  unfold clN at h
  unfold wX12_held
  by_cases c0 : 0 ≤ x.toInt
  rotate_left
  · rw [if_pos (by omega)] at h
    rw [if_neg (fun y => c0 (e0.mp y))]
    exact h
  rw [if_pos (e0.mpr c0)]
  by_cases c1 : x.toInt ≤ (b : Int)
  · rw [if_pos (eb.mpr c1), ex c0]
    by_cases c2 : x.toInt ≤ 0
    · rw [if_pos c2] at h
      rw [show x.toInt.toNat = 0 by omega]; exact h
    · rw [if_neg c2] at h
      by_cases c3 : (b : Int) ≤ x.toInt
      · rw [if_pos c3] at h
        rw [show x.toInt.toNat = b by omega]; exact h
      · rw [if_neg c3] at h; exact h
  · rw [if_neg (fun y => c1 (eb.mp y))]
    by_cases c2 : x.toInt ≤ 0
    · omega
    · rw [if_neg c2, if_pos (by omega)] at h; exact h
theorem semM_of {rr : Nat} (hr : rr < 2) {cs : List xQ4} {S : List Nat} {K : List (Nat × Nat)} (hok : okLw cs S K) {f : Nat → xF × xF} (hf : ∀ i, i < cs.length → okX S K (cs.getD i (0, 0, 0, 0)) (f i)) {M : xMem} (hrp : rpM rr cs K M) : semM rr (lwV cs f) M := by
  obtain ⟨k1, k2, k3, k4, k5⟩ := hok
  intro M' hM' h28 h27 vals hv hv11
  obtain ⟨r1, r2, r3⟩ := hrp
  have r1' : gi M' 15 rr = nI cs.length := by rw [hM' _ _ (by decide) (by decide)]; exact r1
  have r2' : ∀ i, i < cs.length → gi M' 9 (16 * rr + i) = nI (lt7 (cs.getD i (0, 0, 0, 0)).1) ∧ gi M' 10 (16 * rr + i) = nI (240 * rr + (cs.getD i (0, 0, 0, 0)).2.1) ∧ gi M' 11 (16 * rr + i) = nI (240 * rr + (cs.getD i (0, 0, 0, 0)).2.2.1) ∧ gi M' 12 (16 * rr + i) = nI (240 * rr + (cs.getD i (0, 0, 0, 0)).2.2.2) := fun i hi => by
    rw [hM' 9 _ (by decide) (by decide), hM' 10 _ (by decide) (by decide), hM' 11 _ (by decide) (by decide), hM' 12 _ (by decide) (by decide)]
    exact r2 i hi
  have r3' : ∀ i, i < K.length → gi M' 13 (240 * rr + i) = nI (K.getD i (0, 0)).1 ∧ gi M' 14 (240 * rr + i) = nI (K.getD i (0, 0)).2 := fun i hi => by
    rw [hM' 13 _ (by decide) (by decide), hM' 14 _ (by decide) (by decide)]
    exact r3 i hi
  have v2 := vl (n := rr) (N := 2) hr (by decide)
  have e16 : (16 : Int32) * nI rr = nI (16 * rr) := z_mull 16 rr
  have so : ∀ i, i < cs.length → ∀ (M1 : xMem) (post : Int32 → xMem → Prop), (∀ c i, c ≠ 23 → c ≠ 24 → gi M1 c i = gi M' c i) → (∀ M2, (∀ c i, c ≠ 23 → c ≠ 24 → gi M2 c i = gi M' c i) → post (b2i ((f i).2 vals = some 1)) M2) → wX12_isSo (nI (16 * rr + i)) M1 post := by
    intro i hi M1 post h1 hp
    obtain ⟨w1, w2, w3, w4, w5, w6, w7, ⟨kk, u1, u2, u3⟩, -⟩ := hf i hi
    obtain ⟨-, -, p3, p4⟩ := r2' i hi
    have v32 := vl (n := 16 * rr + i) (N := 32) (by omega) (by decide)
    unfold wX12_isSo
    refine ⟨v32, v32, ?_⟩
    rw [nI_clamp (by omega), h1 11 _ (by decide) (by decide), h1 12 _ (by decide) (by decide), p3, p4]
    refine worksM hr (by omega) k5.2 r3' hv hv11 u1 u2 (by omega) u3 _ (fun M2 g1 g2 => ?_) h1
    refine ⟨vp0 (by decide) (by decide), ?_⟩
    have h9 := hp M2 g1
    match e : (f i).2 vals with
    | some v =>
      rw [e] at g2 h9
      rw [if_pos g2.1]
      refine ⟨vp0 (by decide) (by decide), ?_⟩
      rw [g2.2]
      rcases w2 vals v e with y | y
      · subst y
        rw [if_neg (by decide)]
        rw [b2i_f (by decide)] at h9
        exact h9
      · subst y
        rw [if_pos rfl]
        rw [b2i_t rfl] at h9
        exact h9
    | none =>
      rw [e] at g2 h9
      rw [if_neg (fun y => n10 (g2.symm.trans y))]
      rw [b2i_f (by decide)] at h9
      exact h9
  refine ⟨fun kind hk post hp => ?_, fun post hp => ?_⟩
  · have hb := bdK_lt kind
    have key : ∀ m i M1, i + m = cs.length → (∀ c i, c ≠ 23 → c ≠ 24 → gi M1 c i = gi M' c i) → (∀ M2, (∀ c i, c ≠ 23 → c ≠ 24 → gi M2 c i = gi M' c i) → post (nI (lwVr cs f kind vals m i)) M2) → wX12_tells_11 post (m + 1) (ltr kind) (nI (bdK kind)) (nI (16 * rr)) (nI (16 * rr + i)) M1 := by
      intro m
      induction m with
      | zero =>
        intro i M1 hi h1 h2
        rw [wX12_tells_11]; dsimp only
        rw [h1 0 27 (by decide) (by decide), h27]
        refine ⟨v2, ?_⟩
        rw [nI_clamp (by omega), h1 15 _ (by decide) (by decide), r1', z_add, if_pos (nI_le (by omega) (by omega))]
        exact h2 M1 h1
      | succ m ih =>
        intro i M1 hi h1 h2
        have hil : i < cs.length := by omega
        obtain ⟨w1, w2, w3, w4, w5, w6, w7, -, w9⟩ := hf i hil
        obtain ⟨p1, p2, p3, p4⟩ := r2' i hil
        have v32 := vl (n := 16 * rr + i) (N := 32) (by omega) (by decide)
        unfold lwVr at h2
        have nxt : ¬ ((cs.getD i (0, 0, 0, 0)).1 = kind ∧ (f i).2 vals = some 1) → ∀ M2, (∀ c i, c ≠ 23 → c ≠ 24 → gi M2 c i = gi M' c i) → wX12_tells_92 (wX12_tells_11 post (m + 1)) post (ltr kind) (nI (bdK kind)) (nI (16 * rr)) (nI (16 * rr + i)) M2 := by
          intro hn M2 hM2
          unfold wX12_tells_92
          intro v1 e1
          subst e1
          rw [nI_1]
          refine ih (i + 1) M2 (by omega) hM2 (fun M3 hM3 => ?_)
          have := h2 M3 hM3
          rw [if_neg hn] at this
          exact this
        rw [wX12_tells_11]; dsimp only
        rw [h1 0 27 (by decide) (by decide), h27]
        refine ⟨v2, ?_⟩
        rw [nI_clamp (by omega), h1 15 _ (by decide) (by decide), r1', z_add, if_neg (nI_ge (by omega) (by omega))]
        refine ⟨v32, ?_⟩
        rw [nI_clamp (by omega), h1 9 _ (by decide) (by decide), p1, ltr_n kind hk]
        by_cases ck : (cs.getD i (0, 0, 0, 0)).1 = kind
        rotate_left
        · rw [if_neg (fun y => ck (lt7_n _ w1 _ (by omega) y))]
          have := nxt (fun y => ck y.1) M1 h1
          rw [ltr_n kind hk] at this
          exact this
        rw [if_pos (by rw [ck])]
        refine so i hil M1 _ h1 (fun M2 hM2 => ?_)
        by_cases c1 : (f i).2 vals = some 1
        rotate_left
        · rw [b2i_f c1, if_pos rfl]
          have := nxt (fun y => c1 y.2) M2 hM2
          rw [ltr_n kind hk] at this
          exact this
        rw [b2i_t c1, if_neg n10]
        have k6 : kind ≠ 6 := by omega
        have h3 : ∀ M3, (∀ c i, c ≠ 23 → c ≠ 24 → gi M3 c i = gi M' c i) → post (nI (clN (((f i).1 vals).getD 0) (bdK kind))) M3 := fun M3 hM3 => by
          have := h2 M3 hM3
          rw [if_pos ⟨ck, c1⟩, if_neg k6] at this
          exact this
        obtain ⟨kk, u1, u2, u3⟩ := w9 (fun y => k6 (ck.symm.trans y))
        refine ⟨v32, v32, ?_⟩
        rw [hM2 10 _ (by decide) (by decide), hM2 11 _ (by decide) (by decide), p2, p3]
        refine worksM hr (by omega) k5.2 r3' hv hv11 u1 u2 (by omega) u3 _ (fun M3 g1 g2 => ?_) hM2
        refine ⟨vp0 (by decide) (by decide), ?_⟩
        have h9 := h3 M3 g1
        match e : (f i).1 vals with
        | some v =>
          rw [e] at g2 h9
          rw [if_pos g2.1]
          refine ⟨vp0 (by decide) (by decide), ?_⟩
          rw [g2.2]
          exact held_n v hb M3 _ h9
        | none =>
          rw [e] at g2 h9
          rw [if_neg (fun y => n10 (g2.symm.trans y))]
          have z : clN ((none : Option Int32).getD 0) (bdK kind) = 0 := by
            unfold clN
            rw [if_pos (show ((none : Option Int32).getD 0).toInt ≤ 0 by decide)]
          rw [z] at h9
          exact h9
    unfold wX12_tells
    rw [h27, e16]
    intro v1 e1
    subst e1
    exact ⟨cs.length + 1, key cs.length 0 M' (by omega) (fun _ _ _ _ => rfl) hp⟩
  · have key : ∀ m i M1, i + m = cs.length → (∀ c i, c ≠ 23 → c ≠ 24 → gi M1 c i = gi M' c i) → (∀ M2, (∀ c i, c ≠ 23 → c ≠ 24 → gi M2 c i = gi M' c i) → post (nI (lwVr cs f 6 vals m i)) M2) → wX12_goesAway_10 post (m + 1) (nI (16 * rr)) (nI (16 * rr + i)) M1 := by
      intro m
      induction m with
      | zero =>
        intro i M1 hi h1 h2
        rw [wX12_goesAway_10]; dsimp only
        rw [h1 0 27 (by decide) (by decide), h27]
        refine ⟨v2, ?_⟩
        rw [nI_clamp (by omega), h1 15 _ (by decide) (by decide), r1', z_add, if_pos (nI_le (by omega) (by omega))]
        exact h2 M1 h1
      | succ m ih =>
        intro i M1 hi h1 h2
        have hil : i < cs.length := by omega
        obtain ⟨w1, w2, -⟩ := hf i hil
        obtain ⟨p1, p2, p3, p4⟩ := r2' i hil
        have v32 := vl (n := 16 * rr + i) (N := 32) (by omega) (by decide)
        unfold lwVr at h2
        have nxt : ¬ ((cs.getD i (0, 0, 0, 0)).1 = 6 ∧ (f i).2 vals = some 1) → ∀ M2, (∀ c i, c ≠ 23 → c ≠ 24 → gi M2 c i = gi M' c i) → wX12_goesAway_46 (wX12_goesAway_10 post (m + 1)) post (nI (16 * rr)) (nI (16 * rr + i)) M2 := by
          intro hn M2 hM2
          unfold wX12_goesAway_46
          intro v1 e1
          subst e1
          rw [nI_1]
          refine ih (i + 1) M2 (by omega) hM2 (fun M3 hM3 => ?_)
          have := h2 M3 hM3
          rw [if_neg hn] at this
          exact this
        have e120 : nI (lt7 6) = 120 := by decide
        rw [wX12_goesAway_10]; dsimp only
        rw [h1 0 27 (by decide) (by decide), h27]
        refine ⟨v2, ?_⟩
        rw [nI_clamp (by omega), h1 15 _ (by decide) (by decide), r1', z_add, if_neg (nI_ge (by omega) (by omega))]
        refine ⟨v32, ?_⟩
        rw [nI_clamp (by omega), h1 9 _ (by decide) (by decide), p1]
        by_cases ck : (cs.getD i (0, 0, 0, 0)).1 = 6
        rotate_left
        · rw [if_neg (fun y => ck (lt7_n _ w1 6 (by decide) (y.trans e120.symm)))]
          exact nxt (fun y => ck y.1) M1 h1
        rw [if_pos (by rw [ck]; exact e120)]
        refine so i hil M1 _ h1 (fun M2 hM2 => ?_)
        by_cases c1 : (f i).2 vals = some 1
        rotate_left
        · rw [b2i_f c1, if_pos rfl]
          exact nxt (fun y => c1 y.2) M2 hM2
        rw [b2i_t c1, if_neg n10]
        have := h2 M2 hM2
        rw [if_pos ⟨ck, c1⟩, if_pos rfl] at this
        exact this
    unfold wX12_goesAway
    rw [h27, e16]
    intro v1 e1
    subst e1
    exact ⟨cs.length + 1, key cs.length 0 M' (by omega) (fun _ _ _ _ => rfl) hp⟩
/-! both laws -/
def LL0 (C M : xMem) : Prop := ∃ cs S K cs2 S2 K2, okLw cs S K ∧ okLw cs2 S2 K2 ∧ rpC 18 cs S C ∧ rpC 25 cs2 S2 C ∧ rpM 0 cs K M ∧ rpM 1 cs2 K2 M ∧ gi M 0 28 = nI K.length
theorem rpC_keep {o : Nat} {cs : List xQ4} {S : List Nat} {C C' : xMem} (h : rpC o cs S C) (f : ∀ c i, lawO o c i → gi C' c i = gi C c i) : rpC o cs S C' := by
  obtain ⟨a, b, c⟩ := h
  unfold lawO at f
  refine ⟨by rw [f _ _ (by omega)]; exact a, fun i hi => ?_, fun i hi => by rw [f _ _ (by omega)]; exact c i hi⟩
  rw [f (o + 1) i (by omega), f (o + 2) i (by omega), f (o + 3) i (by omega), f (o + 4) i (by omega)]
  exact b i hi
theorem rpM_keep {rr : Nat} {cs : List xQ4} {K : List (Nat × Nat)} {M M' : xMem} (h : rpM rr cs K M) (f : ∀ c i, 9 ≤ c → c ≤ 15 → gi M' c i = gi M c i) : rpM rr cs K M' := by
  obtain ⟨a, b, c⟩ := h
  refine ⟨by rw [f _ _ (by decide) (by decide)]; exact a, fun i hi => ?_, fun i hi => ?_⟩
  · rw [f 9 _ (by decide) (by decide), f 10 _ (by decide) (by decide), f 11 _ (by decide) (by decide), f 12 _ (by decide) (by decide)]
    exact b i hi
  · rw [f 13 _ (by decide) (by decide), f 14 _ (by decide) (by decide)]
    exact c i hi
theorem LL0_c : LLc LL0 := by
  intro C C' M M' hC hM h28 ⟨cs, S, K, cs2, S2, K2, a1, a2, a3, a4, a5, a6, a7⟩
  unfold lawC at hC
  exact ⟨cs, S, K, cs2, S2, K2, a1, a2, rpC_keep a3 (fun c i h => hC c i (by unfold lawO at h; omega)), rpC_keep a4 (fun c i h => hC c i (by unfold lawO at h; omega)), rpM_keep a5 hM, rpM_keep a6 hM, by rw [h28]; exact a7⟩
theorem LL0_s : LSem LL0 := by
  intro C M ⟨cs, S, K, cs2, S2, K2, a1, a2, a3, a4, a5, a6, a7⟩
  obtain ⟨f, hf⟩ := okX_all a1
  obtain ⟨f2, hf2⟩ := okX_all a2
  exact ⟨lwV cs f, lwV cs2 f2, lwV_ok _ _, lwV_ok _ _, semC_of (Or.inl rfl) a1 hf a3, semC_of (Or.inr rfl) a2 hf2 a4, semM_of (by decide) a1 hf a5, semM_of (by decide) a2 hf2 a6⟩
theorem LL0_7 : ∀ C M, LL0 C M → gi C 18 0 = gi M 15 0 := by
  intro C M ⟨cs, S, K, cs2, S2, K2, a1, a2, a3, a4, a5, a6, a7⟩
  rw [a3.1, a5.1]
theorem cpyok16 : cpyok 0 0 16 16 16 = True := eq_true ⟨by decide, by decide, by decide, by decide, by decide⟩
theorem cpyok240 : cpyok 0 0 240 240 240 = True := eq_true ⟨by decide, by decide, by decide, by decide, by decide⟩
theorem gcpy16 {C : xMem} {a b i : Nat} (h : i < 16) : gi (cpy C a b 0 0 16) b i = gi C a i := by
  rw [show (16 : Int32) = nI 16 from rfl, gcpy _ _ _ _ _ _ (by decide), if_pos ⟨rfl, h⟩]
theorem gcpy240 {C : xMem} {a b i : Nat} (h : i < 240) : gi (cpy C a b 0 0 240) b i = gi C a i := by
  rw [show (240 : Int32) = nI 240 from rfl, gcpy _ _ _ _ _ _ (by decide), if_pos ⟨rfl, h⟩]
theorem takeFromL {o o0 : Nat} (hd : o0 + 5 < o ∨ o + 5 < o0) {cs : List xQ4} {S : List Nat} (hcs : cs.length ≤ 16) (hS : S.length ≤ 240) {C : xMem} (h : rpC o0 cs S C) (post : xMem → Prop) (hp : ∀ C', rpC o cs S C' → (∀ c i, c < o ∨ o + 5 < c → gi C' c i = gi C c i) → post C') : wX5_takeFrom o o0 C post := by
  unfold wX5_takeFrom
  simp only [cpyok16, cpyok240, true_and, forall_eq]
  obtain ⟨a, b, c⟩ := h
  refine hp _ ⟨?_, fun i hi => ?_, fun i hi => ?_⟩ (fun c i hc => ?_)
  · rw [← a]; simp (disch := omega) only [g_same, g_i, g_c, gcpy_c]
  · have := b i hi
    refine ⟨?_, ?_, ?_, ?_⟩
    · rw [← this.1]; simp (disch := omega) only [g_same, g_i, g_c, gcpy_c, gcpy16]
    · rw [← this.2.1]; simp (disch := omega) only [g_same, g_i, g_c, gcpy_c, gcpy16]
    · rw [← this.2.2.1]; simp (disch := omega) only [g_same, g_i, g_c, gcpy_c, gcpy16]
    · rw [← this.2.2.2]; simp (disch := omega) only [g_same, g_i, g_c, gcpy_c, gcpy16]
  · rw [← c i hi]; simp (disch := omega) only [g_same, g_i, g_c, gcpy_c, gcpy240]
  · simp (disch := omega) only [g_same, g_i, g_c, gcpy_c]
/-- the reference takes over what it read -/
def fr9 (r : Nat) (M M' : xMem) : Prop := ∀ c i, ¬ (9 ≤ c ∧ c ≤ 12 ∧ 16 * r ≤ i ∧ i < 16 * r + 16) → ¬ ((c = 13 ∨ c = 14) ∧ 240 * r ≤ i ∧ i < 240 * r + 240) → ¬ (c = 15 ∧ i = r) → ¬ (c = 0 ∧ i = 28) → gi M' c i = gi M c i
theorem law113M {M0 M : xMem} {p : Nat} {cs : List xQ4} {K : List (Nat × Nat)} (hM : MW M0 p cs K M) (hcs : cs.length ≤ 16) (hK : K.length ≤ 240) (post : Int32 → xMem → Prop) (hp : ∀ M', fr9 0 M M' → rpM 0 cs K M' → gi M' 0 28 = nI K.length → post (nI cs.length) M') : wX12_law_113 post M := by
  obtain ⟨a0, a1, a2, a3, a4, a5, a6⟩ := hM
  have loop2 : ∀ m j M1, j + m = K.length → fr9 0 M M1 → (∀ i, i < cs.length → gi M1 9 i = nI (lt7 (cs.getD i (0, 0, 0, 0)).1) ∧ gi M1 10 i = nI (cs.getD i (0, 0, 0, 0)).2.1 ∧ gi M1 11 i = nI (cs.getD i (0, 0, 0, 0)).2.2.1 ∧ gi M1 12 i = nI (cs.getD i (0, 0, 0, 0)).2.2.2) → (∀ i, i < j → gi M1 13 i = nI (K.getD i (0, 0)).1 ∧ gi M1 14 i = nI (K.getD i (0, 0)).2) → wX12_law_191 post (m + 1) (nI j) M1 := by
    intro m
    induction m with
    | zero =>
      intro j M1 hj h1 h2 h3
      have e7 : gi M1 0 7 = nI K.length := by rw [h1 _ _ (by omega) (by omega) (by omega) (by omega)]; exact a4
      have e6 : gi M1 0 6 = nI cs.length := by rw [h1 _ _ (by omega) (by omega) (by omega) (by omega)]; exact a3
      rw [wX12_law_191]; dsimp only
      rw [e7, if_pos (nI_le (by omega) (by omega)), e6]
      refine ⟨vp0 (by decide) (by decide), ?_⟩
      intro M3 e3 M4 e4
      have z7 : gi M3 0 7 = nI K.length := by rw [e3, g_c (by decide)]; exact e7
      rw [z7] at e4
      have z6 : gi M4 0 6 = nI cs.length := by rw [e4, g_i (by decide), e3, g_c (by decide)]; exact e6
      rw [z6]
      refine hp M4 (fun c i y1 y2 y3 y4 => ?_) ⟨?_, fun i hi => ?_, fun i hi => ?_⟩ ?_
      · rw [e4, gi_si, if_neg y4, e3, gi_si, if_neg y3]; exact h1 c i y1 y2 y3 y4
      · rw [e4, g_c (by decide), e3, g_same]
      · have := h2 i hi
        simp only [Nat.mul_zero, Nat.zero_add]
        rw [e4, g_c (by decide), g_c (by decide), g_c (by decide), g_c (by decide), e3, g_c (by decide), g_c (by decide), g_c (by decide), g_c (by decide)]
        exact this
      · have := h3 i (by omega)
        simp only [Nat.mul_zero, Nat.zero_add]
        rw [e4, g_c (by decide), g_c (by decide), e3, g_c (by decide), g_c (by decide)]
        exact this
      · rw [e4, g_same]
    | succ m ih =>
      intro j M1 hj h1 h2 h3
      have hjl : j < K.length := by omega
      have e7 : gi M1 0 7 = nI K.length := by rw [h1 _ _ (by omega) (by omega) (by omega) (by omega)]; exact a4
      have v1 := vl (n := j) (N := 240) (by omega) (by decide)
      have v2 := vl (n := j) (N := 480) (by omega) (by decide)
      rw [wX12_law_191]; dsimp only
      rw [e7, if_neg (nI_ge hjl (by omega))]
      refine ⟨v1, v2, ?_⟩
      intro M7 e7'
      refine ⟨v1, v2, ?_⟩
      intro M10 e10 v11 e11
      subst e11
      rw [nI_1]
      rw [nI_clamp (by omega), h1 20 _ (by omega) (by omega) (by omega) (by omega), (a5 j hjl).1] at e7'
      rw [nI_clamp (by omega), e7', g_c (by decide), h1 21 _ (by omega) (by omega) (by omega) (by omega), (a5 j hjl).2] at e10
      refine ih (j + 1) M10 (by omega) (fun c i y1 y2 y3 y4 => ?_) (fun i hi => ?_) (fun i hi => ?_)
      · rw [e10, gi_si, if_neg (by omega), gi_si, if_neg (by omega)]; exact h1 c i y1 y2 y3 y4
      · rw [e10, g_c (by decide), g_c (by decide), g_c (by decide), g_c (by decide), g_c (by decide), g_c (by decide), g_c (by decide), g_c (by decide)]
        exact h2 i hi
      · rw [e10, g_c (show (13 : Nat) ≠ 14 by decide), gi_si, gi_si]
        by_cases y : i = j
        · subst y
          rw [if_pos ⟨rfl, rfl⟩, if_pos ⟨rfl, rfl⟩]
          exact ⟨rfl, rfl⟩
        · rw [if_neg (by omega), if_neg (by omega), g_c (by decide)]
          exact h3 i (by omega)
  have loop1 : ∀ m j M1, j + m = cs.length → fr9 0 M M1 → (∀ i, i < j → gi M1 9 i = nI (lt7 (cs.getD i (0, 0, 0, 0)).1) ∧ gi M1 10 i = nI (cs.getD i (0, 0, 0, 0)).2.1 ∧ gi M1 11 i = nI (cs.getD i (0, 0, 0, 0)).2.2.1 ∧ gi M1 12 i = nI (cs.getD i (0, 0, 0, 0)).2.2.2) → wX12_law_127 post (m + 1) (nI j) M1 := by
    intro m
    induction m with
    | zero =>
      intro j M1 hj h1 h2
      have e6 : gi M1 0 6 = nI cs.length := by rw [h1 _ _ (by omega) (by omega) (by omega) (by omega)]; exact a3
      rw [wX12_law_127]; dsimp only
      rw [e6, if_pos (nI_le (by omega) (by omega))]
      exact ⟨K.length + 1, loop2 K.length 0 M1 (by omega) h1 (fun i hi => h2 i (by omega)) (fun i hi => absurd hi (Nat.not_lt_zero i))⟩
    | succ m ih =>
      intro j M1 hj h1 h2
      have hjl : j < cs.length := by omega
      have e6 : gi M1 0 6 = nI cs.length := by rw [h1 _ _ (by omega) (by omega) (by omega) (by omega)]; exact a3
      have v1 := vl (n := j) (N := 16) (by omega) (by decide)
      have v2 := vl (n := j) (N := 32) (by omega) (by decide)
      obtain ⟨p1, p2, p3, p4⟩ := a6 j hjl
      rw [wX12_law_127]; dsimp only
      rw [e6, if_neg (nI_ge hjl (by omega))]
      refine ⟨v1, v2, ?_⟩
      intro M4 e4
      refine ⟨v1, v2, ?_⟩
      intro M7 e7
      refine ⟨v1, v2, ?_⟩
      intro M10 e10
      refine ⟨v1, v2, ?_⟩
      intro M13 e13 v14 e14
      subst e14
      rw [nI_1]
      rw [nI_clamp (by omega), h1 16 _ (by omega) (by omega) (by omega) (by omega), p1] at e4
      rw [nI_clamp (by omega), e4, g_c (by decide), h1 17 _ (by omega) (by omega) (by omega) (by omega), p2] at e7
      rw [nI_clamp (by omega), e7, g_c (by decide), g_c (by decide), h1 18 _ (by omega) (by omega) (by omega) (by omega), p3] at e10
      rw [nI_clamp (by omega), e10, g_c (by decide), g_c (by decide), g_c (by decide), h1 19 _ (by omega) (by omega) (by omega) (by omega), p4] at e13
      refine ih (j + 1) M13 (by omega) (fun c i y1 y2 y3 y4 => ?_) (fun i hi => ?_)
      · rw [e13, gi_si, if_neg (by omega), gi_si, if_neg (by omega), gi_si, if_neg (by omega), gi_si, if_neg (by omega)]; exact h1 c i y1 y2 y3 y4
      · by_cases y : i = j
        · subst y
          refine ⟨?_, ?_, ?_, ?_⟩
          · rw [e13, g_c (by decide), g_c (by decide), g_c (by decide), g_same]
          · rw [e13, g_c (by decide), g_c (by decide), g_same]
          · rw [e13, g_c (by decide), g_same]
          · rw [e13, g_same]
        · have := h2 i (by omega)
          refine ⟨?_, ?_, ?_, ?_⟩
          · rw [e13, g_c (by decide), g_c (by decide), g_c (by decide), g_i y]; exact this.1
          · rw [e13, g_c (by decide), g_c (by decide), g_i y, g_c (by decide)]; exact this.2.1
          · rw [e13, g_c (by decide), g_i y, g_c (by decide), g_c (by decide)]; exact this.2.2.1
          · rw [e13, g_i y, g_c (by decide), g_c (by decide), g_c (by decide)]; exact this.2.2.2
  unfold wX12_law_113
  rw [a2, if_pos (by decide)]
  exact ⟨cs.length + 1, loop1 cs.length 0 M (by omega) (fun _ _ _ _ _ _ => rfl) (fun i hi => absurd hi (Nat.not_lt_zero i))⟩
