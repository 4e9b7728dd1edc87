/-! series(), the reference -/
def dgs (n : Nat) : Nat → Nat → List Nat
  | 0, _ => []
  | r + 1, x => dgs n r (x / n) ++ [x % n]
theorem dgs_len (n : Nat) : ∀ r x, (dgs n r x).length = r := by
  intro r
  induction r with
  | zero => intro x; rfl
  | succ r ih => intro x; unfold dgs; rw [List.length_append, ih]; rfl
theorem dgs_lt {n : Nat} (hn : 0 < n) : ∀ r x i, i < r → (dgs n r x).getD i 0 < n := by
  intro r
  induction r with
  | zero => intro x i hi; omega
  | succ r ih =>
    intro x i hi
    unfold dgs
    rw [List.getD_eq_getElem?_getD]
    by_cases q : i < r
    · rw [List.getElem?_append_left (by rw [dgs_len]; exact q), ← List.getD_eq_getElem?_getD]; exact ih _ i q
    · rw [List.getElem?_append_right (by rw [dgs_len]; omega), dgs_len, show i - r = 0 by omega]
      exact Nat.mod_lt _ hn
/-- the rows in order, by story -/
def sa0 (g i : Nat) : Nat := (slN g 10).getD i 0
def ords (n : Nat) : List (List Nat) := ((List.range (n ^ n)).map (dgs n n)).filter (fun r => mkL r = 2 ^ n - 1)
set_option maxRecDepth 20000 in
theorem ords_plf : (ords 2 = plf 7 3 ∧ ords 3 = plf 7 7 ∧ ords 4 = plf 7 15) ∧ ords 5 = plf 7 31 := by decide +kernel
set_option maxRecDepth 20000 in
theorem plf_sa : ∀ g < 64, plf 7 g = (plf 7 (2 ^ pc g - 1)).map (List.map (sa0 g)) ∧ plf 7 g ≠ [] := by decide +kernel
theorem rows_eq {g : Nat} (hg : g < 64) (h2 : 2 ≤ pc g) (h5 : pc g ≤ 5) : plf 7 g = (ords (pc g)).map (List.map (sa0 g)) ∧ ords (pc g) ≠ [] := by
  have h1 := plf_sa g hg
  have e : ords (pc g) = plf 7 (2 ^ pc g - 1) := by
    have : pc g = 2 ∨ pc g = 3 ∨ pc g = 4 ∨ pc g = 5 := by omega
    rcases this with q | q | q | q <;> rw [q]
    · exact ords_plf.1.1
    · exact ords_plf.1.2.1
    · exact ords_plf.1.2.2
    · exact ords_plf.2
  refine ⟨by rw [e]; exact h1.1, fun q => h1.2 ?_⟩
  rw [h1.1, ← e, q]
  rfl
def mapB (f : List Nat → List Nat) (b : xB) : xB := b.map (fun p => (p.1, p.2.1, f p.2.2))
theorem fold_map (ev : List Nat → Nat × Nat) (f : List Nat → List Nat) : ∀ (L : List (List Nat)) (b : xB), (L.map f).foldl (updE ev) (mapB f b) = mapB f (L.foldl (updE (fun r => ev (f r))) b) := by
  intro L
  induction L with
  | nil => intro b; rfl
  | cons r L ih =>
    intro b
    rw [List.map_cons, List.foldl_cons, List.foldl_cons, ← ih]
    congr 1
    match b with
    | none => rfl
    | some (m, e, w) =>
      show (if _ then _ else _) = mapB f (if _ then _ else _)
      split <;> rfl
theorem digC {n : Nat} (hn : 0 < n) (hn8 : n ≤ 5) {M0 : xMem} (K : xMem → Prop) : ∀ (r x : Nat) (M : xMem), r ≤ n → x < 2 ^ 31 → (∀ c i, c ≠ 57 → gi M c i = gi M0 c i) → (∀ M', (∀ c i, c ≠ 57 → gi M' c i = gi M0 c i) → (∀ i, i < r → gi M' 57 i = nI ((dgs n r x).getD i 0)) → (∀ i, r ≤ i → gi M' 57 i = gi M 57 i) → K M') → wX12_opensRow_8 K (r + 1) (nI n) (nI x) (nI r - 1) M := by
  intro r
  induction r with
  | zero =>
    intro x M hr hx hf hK
    rw [wX12_opensRow_8]; dsimp only
    rw [if_pos (show nI 0 - 1 < 0 by decide)]
    exact hK M hf (fun i hi => by omega) (fun i hi => rfl)
  | succ r ih =>
    intro x M hr hx hf hK
    have hd : x / n ≤ x := Nat.div_le_self _ _
    have hm := Nat.mod_lt x hn
    rw [wX12_opensRow_8]; dsimp only
    rw [z_subl (by omega), show r + 1 - 1 = r by omega, if_neg (show ¬ nI r < 0 from nI_nlt (Nat.zero_le r) (by omega))]
    have n0 : ¬ (nI n = 0) := fun q => by have := (nI_eq (a := n) (b := 0) (by omega) (by decide)).mp q; omega
    refine ⟨n0, vl (by omega) (by decide), ?_⟩
    intro M4 e4
    refine ⟨n0, ?_⟩
    intro v6 e6 v7 e7
    have ev : nI x - nI x / nI n * nI n = nI (x % n) := by
      have h1 := Nat.div_add_mod x n
      have h2 : x / n * n = n * (x / n) := Nat.mul_comm _ _
      rw [nI_div hx (by omega), z_mul, z_sub (by omega)]
      congr 1
      omega
    rw [ev, nI_clamp (by omega)] at e4
    rw [nI_div hx (by omega)] at e6
    subst e4; subst e6; subst e7
    rw [show nI r + (-1) = nI r - 1 from (Int32.sub_eq_add_neg ..).symm]
    refine ih (x / n) _ (by omega) (by omega) (fun c i q => by rw [gi_si, if_neg (by omega)]; exact hf c i q) (fun M' h1 h2 h3 => hK M' h1 (fun i hi => ?_) (fun i hi => ?_))
    · show gi M' 57 i = nI ((dgs n r (x / n) ++ [x % n]).getD i 0)
      rw [List.getD_eq_getElem?_getD]
      by_cases q : i < r
      · rw [List.getElem?_append_left (by rw [dgs_len]; exact q), ← List.getD_eq_getElem?_getD]; exact h2 i q
      · rw [List.getElem?_append_right (by rw [dgs_len]; omega), dgs_len, show i - r = 0 by omega, h3 i (by omega), gi_si, if_pos ⟨rfl, by omega⟩]
        rfl
    · rw [h3 i (by omega), gi_si, if_neg (by omega)]
theorem powM {n : Nat} (hn : n ≤ 5) {M : xMem} (post : Int32 → xMem → Prop) (hp : post (nI (n ^ n)) M) : wX12_powerOf (nI n) (nI n) M post := by
  have key : ∀ m i, i + m = n → wX12_powerOf_4 post (m + 1) (nI n) (nI n) (nI (n ^ i)) (nI i) M := by
    intro m
    induction m with
    | zero =>
      intro i hi
      have : i = n := by omega
      subst this
      rw [wX12_powerOf_4]; dsimp only
      rw [if_pos (nI_le (by omega) (by omega))]
      exact hp
    | succ m ih =>
      intro i hi
      rw [wX12_powerOf_4]; dsimp only
      rw [if_neg (nI_ge (by omega) (by omega))]
      intro v2 e2 v3 e3
      subst e2; subst e3
      rw [nI_1, z_mul, ← Nat.pow_succ]
      exact ih (i + 1) (by omega)
  exact ⟨n + 1, key n 0 (by omega)⟩
theorem getD_take {L : List Nat} {i : Nat} (hi : i < L.length) : L.take (i + 1) = L.take i ++ [L.getD i 0] := by
  rw [List.take_succ, List.getElem?_eq_getElem hi, List.getD_eq_getElem?_getD, List.getElem?_eq_getElem hi]
  rfl
theorem mkL_lt {L : List Nat} (h : ∀ c, c ∈ L → c < 10) : ∀ a, a < 1024 → L.foldl (fun a k => a ||| 2 ^ k) a < 1024 := by
  induction L with
  | nil => intro a ha; exact ha
  | cons c L ih =>
    intro a ha
    exact ih (fun d hd => h d (List.mem_cons_of_mem _ hd)) _ (Nat.or_lt_two_pow (n := 10) ha (Nat.pow_lt_pow_right (by omega) (h c (List.mem_cons_self ..))))
theorem getD_mem {L : List Nat} {c : Nat} (hc : c ∈ L) : ∃ j, j < L.length ∧ L.getD j 0 = c := by
  obtain ⟨j, hj, e⟩ := List.getElem_of_mem hc
  exact ⟨j, hj, by rw [List.getD_eq_getElem?_getD, List.getElem?_eq_getElem hj]; exact e⟩
theorem ordM {n : Nat} (hn : n ≤ 5) {row : List Nat} (hl : row.length = n) (hr : ∀ i, i < n → row.getD i 0 < n) {M : xMem} (h57 : ∀ i, i < n → gi M 57 i = nI (row.getD i 0)) (post : Int32 → xMem → Prop) (hp : post (b2i (mkL row = 2 ^ n - 1)) M) : wX12_isOrder (nI n) M post := by
  have hb : ∀ c, c ∈ row → c < 10 := fun c hc => by
    obtain ⟨j, hj, e⟩ := getD_mem hc
    have := hr j (by omega)
    omega
  have key : ∀ m i, i + m = n → wX12_isOrder_4 post (m + 1) (nI n) (nI (mkL (row.take i))) (nI i) M := by
    intro m
    induction m with
    | zero =>
      intro i hi
      have : i = n := by omega
      subst this
      have h1 : mkL row < 1024 := mkL_lt hb 0 (by omega)
      have h2 : 2 ^ i ≤ 2 ^ 5 := Nat.pow_le_pow_right (by omega) hn
      rw [wX12_isOrder_4]; dsimp only
      rw [if_pos (nI_le (by omega) (by omega)), List.take_of_length_le (by omega), shl_L (by omega)]
      rw [show nI (2 ^ i) - 1 = nI (2 ^ i - 1) from z_subl (n := 1) Nat.one_le_two_pow]
      by_cases q : mkL row = 2 ^ i - 1
      · rw [if_pos (congrArg nI q)]; rw [b2i_t q] at hp; exact hp
      · rw [if_neg (fun z => q ((nI_eq (by omega) (by omega)).mp z))]; rw [b2i_f q] at hp; exact hp
    | succ m ih =>
      intro i hi
      have hin : i < n := by omega
      have := hr i hin
      rw [wX12_isOrder_4]; dsimp only
      rw [if_neg (nI_ge hin (by omega))]
      refine ⟨vl (by omega) (by decide), ?_⟩
      intro v4 e4 v5 e5
      rw [nI_clamp (by omega), h57 i hin, shl_L (by omega), z_or] at e4
      subst e4; subst e5
      rw [nI_1]
      have h := ih (i + 1) (by omega)
      rw [getD_take (by omega)] at h
      unfold mkL at h
      rw [List.foldl_append] at h
      exact h
  exact ⟨n + 1, key n 0 (by omega)⟩
theorem opnM {S : Nat → List Nat} (hw : ∀ k, wfS (S k)) {M : xMem} (hS : ∀ k, k < 6 → SM (S k) k M) {n g : Nat} (hn : n ≤ 5) {row : List Nat} (hl : row.length = n) (hr : ∀ i, i < n → row.getD i 0 < n ∧ sa0 g (row.getD i 0) < 6) (h56 : ∀ i, i < n → gi M 56 i = nI (sa0 g i)) (h57 : ∀ i, i < n → gi M 57 i = nI (row.getD i 0)) (post : Int32 → xMem → Prop) (hp : post (nI (100 * (evS S (row.map (sa0 g))).1 + pc (evS S (row.map (sa0 g))).2)) M) : wX12_opennessOf (nI n) M post := by
  have key : ∀ m i, i + m = n → wX12_opennessOf_7 post (m + 1) (nI n) (nI (evS S ((row.take i).map (sa0 g))).2) (nI (evS S ((row.take i).map (sa0 g))).1) (nI i) M := by
    intro m
    induction m with
    | zero =>
      intro i hi
      have : i = n := by omega
      subst this
      have h1 := evS_w hw (row.map (sa0 g))
      rw [wX12_opennessOf_7]; dsimp only
      rw [if_pos (nI_le (by omega) (by omega)), List.take_of_length_le (by omega)]
      refine sizeOf_n h1.2 _ _ ?_
      rw [z_mull, z_add]
      exact hp
    | succ m ih =>
      intro i hi
      have hin : i < n := by omega
      obtain ⟨r1, r2⟩ := hr i hin
      rw [wX12_opennessOf_7]; dsimp only
      rw [if_neg (nI_ge hin (by omega)), nI_clamp (n := i) (by omega), h57 i hin]
      refine ⟨vl (by omega) (by decide), vl (by omega) (by decide), ?_⟩
      rw [nI_clamp (by omega), h56 _ r1]
      intro v6 e6
      subst e6
      generalize hk : sa0 g (row.getD i 0) = k at r2 ⊢
      have hwk := hw k
      have hl72 := hwk.1
      obtain ⟨s1, s2, s3⟩ := hS k r2
      have hev := evS_w hw ((row.take i).map (sa0 g))
      have en : evS S ((row.take (i + 1)).map (sa0 g)) = (S k).foldl oTn (evS S ((row.take i).map (sa0 g))) := by
        rw [getD_take (by omega), List.map_append, ← hk]
        exact evS_app S _ _
      have h7 := ih (i + 1) (by omega)
      rw [en] at h7
      have inner : ∀ q j, j + q = (S k).length → wX12_opennessOf_30 (wX12_opennessOf_7 post (m + 1)) post (q + 1) (nI n) (nI (((S k).take j).foldl oTn (evS S ((row.take i).map (sa0 g)))).2) (nI (((S k).take j).foldl oTn (evS S ((row.take i).map (sa0 g)))).1) (nI i) (nI k) (nI j) M := by
        intro q
        induction q with
        | zero =>
          intro j hj
          rw [wX12_opennessOf_30]; dsimp only
          refine ⟨vl r2 (by decide), ?_⟩
          rw [nI_clamp (by omega), s1, if_pos (nI_le (by omega) (by omega)), show (S k).take j = S k from List.take_of_length_le (by omega)]
          intro v3 e3
          subst e3
          rw [nI_1]
          exact h7
        | succ q ihq =>
          intro j hj
          have hj2 : j < (S k).length := by omega
          have hmj := oTs_w (L := (S k).take j) (fun c hc => wfS_mem hwk c (List.mem_of_mem_take hc)) hev
          have hc := wfS_c hwk hj2
          have htl := trn_lt hc hmj.2.1
          have hpc := pc_le htl
          have h9 := ihq (j + 1) (by omega)
          rw [getD_take hj2, List.foldl_append] at h9
          rw [wX12_opennessOf_30]; dsimp only
          refine ⟨vl r2 (by decide), ?_⟩
          rw [nI_clamp (by omega), s1, if_neg (nI_ge hj2 (by omega)), z_mull, z_add]
          refine ⟨vl (by omega) (by decide), ?_⟩
          rw [nI_clamp (by omega), s3 j hj2, turned_eq, td_n hc hmj.2.1]
          refine sizeOf_n htl _ _ ?_
          have h10 : ∀ s0, s0 = nI (oTn (((S k).take j).foldl oTn (evS S ((row.take i).map (sa0 g)))) ((S k).getD j 0)).1 → wX12_opennessOf_76 (wX12_opennessOf_7 post (m + 1)) (wX12_opennessOf_30 (wX12_opennessOf_7 post (m + 1)) post (q + 1)) post (nI n) (nI (trn (((S k).take j).foldl oTn (evS S ((row.take i).map (sa0 g)))).2 ((S k).getD j 0))) (nI i) (nI k) (nI j) s0 M := by
            intro s0 e0
            subst e0
            intro v1 e1
            subst e1
            rw [nI_1]
            exact h9
          have e11 : ∀ mo : Nat × Nat, ∀ c, (oTn mo c).1 = max mo.1 (pc (trn mo.2 c)) := fun _ _ => rfl
          by_cases z : pc (trn (((S k).take j).foldl oTn (evS S ((row.take i).map (sa0 g)))).2 ((S k).getD j 0)) ≤ (((S k).take j).foldl oTn (evS S ((row.take i).map (sa0 g)))).1
          · rw [if_pos (nI_le z (by omega))]
            exact h10 _ (by rw [e11, Nat.max_eq_left z])
          · rw [if_neg (nI_ge (by omega) (by omega))]
            refine sizeOf_n htl _ _ ?_
            exact h10 _ (by rw [e11, Nat.max_eq_right (by omega)])
      exact ⟨(S k).length + 1, inner (S k).length 0 (by omega)⟩
  exact ⟨n + 1, key n 0 (by omega)⟩
