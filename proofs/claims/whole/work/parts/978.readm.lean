/-! story(), the reference's reader -/
theorem byte_raw {x : Int32} (h : ∃ w : Int8, x = w.toInt32) {v : Nat} (hv : v < 128) (h2 : x &&& 255 = nI v) : x = nI v := by
  have key : ∀ n : Fin 256, (Int8.ofBitVec (BitVec.ofFin n)).toInt32 &&& 255 = nI n.1 ∧ (n.1 < 128 → (Int8.ofBitVec (BitVec.ofFin n)).toInt32 = nI n.1) := by decide +kernel
  obtain ⟨w, rfl⟩ := h
  obtain ⟨k1, k2⟩ := key w.toBitVec.toFin
  have ew : Int8.ofBitVec (BitVec.ofFin w.toBitVec.toFin) = w := rfl
  rw [ew] at k1 k2
  have e := (nI_eq (a := w.toBitVec.toFin.1) (b := v) (by omega) (by omega)).mp (k1.symm.trans h2)
  rw [k2 (by omega), e]
def stkM : List (Nat × Nat × Nat) → xMem → Prop
  | [], _ => True
  | f :: r, M => gi M 6 r.length = nI f.1 ∧ gi M 7 r.length = nI f.2.1 ∧ gi M 8 r.length = nI f.2.2 ∧ stkM r M
theorem stkM_keep : ∀ {stk : List (Nat × Nat × Nat)} {M M' : xMem}, (∀ c i, 6 ≤ c → c ≤ 8 → i < stk.length → gi M' c i = gi M c i) → stkM stk M → stkM stk M' := by
  intro stk
  induction stk with
  | nil => intro M M' _ _; trivial
  | cons f r ih =>
    intro M M' hc h
    have hl : r.length < (f :: r).length := Nat.lt_succ_self _
    exact ⟨by rw [hc _ _ (by omega) (by omega) hl]; exact h.1, by rw [hc _ _ (by omega) (by omega) hl]; exact h.2.1, by rw [hc _ _ (by omega) (by omega) hl]; exact h.2.2.1, ih (fun c i h1 h2 h3 => hc c i h1 h2 (by omega)) h.2.2.2⟩
abbrev frM (c i : Nat) : Prop := ¬ ((c = 0 ∧ (i = 3 ∨ i = 4 ∨ i = 5 ∨ i = 14 ∨ i = 15 ∨ i = 16)) ∨ (5 ≤ c ∧ c ≤ 8))
def PMs (N : Nat) (M0 : xMem) (p : Nat) (ts : List Nat) (stk : List (Nat × Nat × Nat)) (tl : Bool) (M : xMem) : Prop := (∀ c i, frM c i → gi M c i = gi M0 c i) ∧ gi M 0 3 = nI p ∧ gi M 0 4 = nI N ∧ gi M 0 5 = 0 ∧ gi M 0 14 = nI ts.length ∧ gi M 0 15 = nI stk.length ∧ gi M 0 16 = b2i (tl = true) ∧ (∀ i, i < ts.length → gi M 5 i = nI (ts.getD i 0)) ∧ stkM stk M
def FM (M0 : xMem) (f : Int32) (M : xMem) : Prop := (∀ c i, frM c i → gi M c i = gi M0 c i) ∧ gi M 0 5 = f ∧ f < 0
def tapeM (B : Nat → Nat) (N : Nat) (M0 : xMem) : Prop := N ≤ 80 ∧ ∀ i, i < N → B i < 256 ∧ gi M0 1 i &&& 255 = nI (B i) ∧ ∃ w : Int8, gi M0 1 i = w.toInt32
theorem hereM {B : Nat → Nat} {N : Nat} {M0 M : xMem} (hT : tapeM B N M0) {p : Nat} (hp : p ≤ N) (f : ∀ i, gi M 1 i = gi M0 1 i) (h3 : gi M 0 3 = nI p) (h4 : gi M 0 4 = nI N) (post : Int32 → xMem → Prop) (h : post (nI (hr B N p)) M) : wX12_here M post := by
  have hN := hT.1
  unfold wX12_here
  rw [h3, h4]
  unfold hr at h
  by_cases q : p < N
  · rw [if_pos q] at h
    rw [if_neg (nI_ge q (by omega))]
    refine ⟨vl (by omega) (by decide), ?_⟩
    rw [nI_clamp (by omega), f, (hT.2 p q).2.1]
    exact h
  · rw [if_neg q] at h
    rw [if_pos (nI_le (by omega) (by omega))]
    exact h
theorem goodM {M : xMem} (post : Int32 → xMem → Prop) : wX12_isGood M post = post (if gi M 0 5 = 0 then 1 else 0) M := by unfold wX12_isGood; rw [ite_post]
theorem wrongM {M0 M : xMem} (f : ∀ c i, frM c i → gi M c i = gi M0 c i) (h5 : gi M 0 5 = 0) (a : Int32) (p : Nat) (hn : fw a p < 0) (post : xMem → Prop) (h : ∀ M', FM M0 (fw a p) M' → post M') : wX12_wrongs a (nI p) M post := by
  unfold wX12_wrongs
  rw [h5, if_pos (by decide)]
  unfold wX12_wrongs_22
  intro M1 e1
  subst e1
  exact h _ ⟨fun c i z => by rw [gi_si, if_neg (by omega)]; exact f c i z, g_same _ _ _ _, hn⟩
theorem FM_b {M0 : xMem} {f : Int32} {M : xMem} (h : FM M0 f M) : (if gi M 0 5 = 0 then (1 : Int32) else 0) = 0 := by
  rw [if_neg]
  rw [h.2.1]
  intro z
  have := h.2.2
  rw [z] at this
  exact absurd this (by decide)
theorem turnBy_n {b : Nat} (hb : b < 256) (M : xMem) (post : Int32 → xMem → Prop) : wX12_turnBy (nI b) M post = post (tbv b) M := by
  unfold wX12_turnBy
  have e : ∀ n : Nat, n < 256 → ((nI b = nI n) ↔ b = n) := fun n hn => nI_eq (by omega) (by omega)
  rw [lies_eq, i64i, show (97 : Int64).toInt = 97 by decide, show (106 : Int64).toInt = 106 by decide, nI_toInt (by omega)]
  by_cases c1 : 97 ≤ b ∧ b ≤ 106
  · have : tb b = some (b - 97) := if_pos c1
    rw [b2i_t (by omega), if_neg (by decide), z_subl (by omega)]
    unfold tbv
    rw [this]
  rw [b2i_f (by omega), if_pos rfl, lies_eq, i64i, show (65 : Int64).toInt = 65 by decide, show (74 : Int64).toInt = 74 by decide, nI_toInt (by omega)]
  by_cases c2 : 65 ≤ b ∧ b ≤ 74
  · have : tb b = some (b - 65 + 10) := by unfold tb; rw [if_neg c1, if_pos c2]
    rw [b2i_t (by omega), if_neg (by decide), z_subl (by omega), z_add1]
    unfold tbv
    rw [this]
  rw [b2i_f (by omega), if_pos rfl]
  by_cases c3 : b = 42
  · rw [if_pos (show nI b = 42 from (e 42 (by omega)).mpr c3)]
    have : tb b = some 20 := by unfold tb; rw [if_neg c1, if_neg c2, if_pos c3]
    unfold tbv
    rw [this]
    rfl
  rw [if_neg (show ¬ nI b = 42 from fun z => c3 ((e 42 (by omega)).mp z))]
  by_cases c4 : b = 46
  · rw [if_pos (show nI b = 46 from (e 46 (by omega)).mpr c4)]
    have : tb b = some 21 := by unfold tb; rw [if_neg c1, if_neg c2, if_neg c3, if_pos c4]
    unfold tbv
    rw [this]
    rfl
  rw [if_neg (show ¬ nI b = 46 from fun z => c4 ((e 46 (by omega)).mp z))]
  have : tb b = none := by unfold tb; rw [if_neg c1, if_neg c2, if_neg c3, if_neg c4]
  unfold tbv
  rw [this]
theorem hr_lt {B : Nat → Nat} {N : Nat} (hB : ∀ i, i < N → B i < 256) (p : Nat) : hr B N p < 256 := by
  unfold hr
  split
  · exact hB p (by assumption)
  · omega
theorem timesM {B : Nat → Nat} {N : Nat} {M0 M : xMem} (hT : tapeM B N M0) {p : Nat} (hp : p ≤ N) {ts : List Nat} {stk : List (Nat × Nat × Nat)} {tl : Bool} (hM : PMs N M0 p ts stk tl M) (post : Int32 → xMem → Prop) (h : ∀ M', PMs N M0 (nxt B N p) ts stk tl M' → post (nI (tmo B N p)) M') : wX12_timesTold M post := by
  obtain ⟨f, g3, g4, g5, g14, g15, g16, gt, gs⟩ := id hM
  have hN := hT.1
  have f1 : ∀ i, gi M 1 i = gi M0 1 i := fun i => f 1 i (by omega)
  have hB := fun i hi => (hT.2 i hi).1
  have hlt := hr_lt (B := B) (N := N) hB p
  unfold wX12_timesTold
  refine hereM hT hp f1 g3 g4 _ ?_
  rw [lies_eq, i64i, zj50, zj57, nI_toInt (by omega)]
  by_cases c : isD B N p
  · have c' := c
    obtain ⟨c1, c2, c3⟩ := c'
    have e0 : hr B N p = B p := if_pos c1
    have e1 : tmo B N p = B p - 48 := if_pos c
    have e2 : nxt B N p = p + 1 := if_pos c
    rw [e1, e2] at h
    rw [e0, b2i_t (by omega), if_neg (by decide)]
    intro M6 e6
    have h3 : gi M6 0 3 = nI (p + 1) := by rw [e6, g_same, g3, nI_1]
    rw [h3, show nI (p + 1) - 1 = nI p from z_subl (n := 1) (by show 1 ≤ p + 1; omega)]
    refine ⟨vl (by omega) (by decide), ?_⟩
    have hb := hT.2 p c1
    have hw : gi M6 1 p = nI (B p) := by
      rw [e6, g_c (by decide), f1]
      exact byte_raw hb.2.2 (by omega) hb.2.1
    have c48 : 48 ≤ B p := by omega
    rw [nI_clamp (by omega), hw, show nI (B p) - 48 = nI (B p - 48) from z_subl c48]
    refine h M6 ⟨fun c i z => by rw [e6, gi_si, if_neg (by omega)]; exact f c i z, h3, by rw [e6, g_i (by decide)]; exact g4, by rw [e6, g_i (by decide)]; exact g5, by rw [e6, g_i (by decide)]; exact g14, by rw [e6, g_i (by decide)]; exact g15, by rw [e6, g_i (by decide)]; exact g16, fun i hi => by rw [e6, g_c (by decide)]; exact gt i hi, stkM_keep (fun c i h1 h2 _ => by rw [e6, g_c (by omega)]) gs⟩
  · have e1 : tmo B N p = 1 := if_neg c
    have e2 : nxt B N p = p := if_neg c
    rw [e1, e2] at h
    have : ¬ (50 ≤ (hr B N p : Int) ∧ (hr B N p : Int) ≤ 57) := by
      intro z
      unfold hr at z
      by_cases q : p < N
      · rw [if_pos q] at z; exact c ⟨q, by omega, by omega⟩
      · rw [if_neg q] at z; omega
    rw [b2i_f this, if_pos rfl]
    exact h M hM
theorem rp_let {ts : List Nat} {c tm i : Nat} (hi : i < ts.length + tm) : (rp (ts ++ [c]) ts.length tm).getD i 0 = if i < ts.length then ts.getD i 0 else c := by
  have el : (ts ++ [c]).length - ts.length = 1 := by rw [List.length_append]; show ts.length + 1 - ts.length = 1; omega
  rw [rp_at (by rw [el, Nat.one_mul]; exact hi), el, Nat.mod_one]
  by_cases q : i < ts.length
  · rw [if_pos q, if_pos q, List.getD_eq_getElem?_getD, List.getElem?_append_left q, ← List.getD_eq_getElem?_getD]
  · rw [if_neg q, if_neg q, List.getD_eq_getElem?_getD, List.getElem?_append_right (by omega), Nat.add_zero, Nat.sub_self]
    rfl
theorem letM {B : Nat → Nat} {N : Nat} {M0 M : xMem} (hT : tapeM B N M0) {q : Nat} (hq : q < N) {ts : List Nat} {stk : List (Nat × Nat × Nat)} {tl : Bool} {c tm : Nat} (hc : tb (hr B N q) = some c) (h72 : ts.length + tm ≤ 72) (hM : PMs N M0 q ts stk tl M) (post : xMem → Prop) (h : ∀ M', PMs N M0 (q + 1) (rp (ts ++ [c]) ts.length tm) stk true M' → post M') : wX12_turnTold_219 post (nI tm) M := by
  obtain ⟨f, g3, g4, g5, g14, g15, g16, gt, gs⟩ := id hM
  have hN := hT.1
  have hB := fun i hi => (hT.2 i hi).1
  have hlt := hr_lt (B := B) (N := N) hB q
  unfold wX12_turnTold_219
  rw [goodM, if_pos g5, if_neg (by decide)]
  have el : (rp (ts ++ [c]) ts.length tm).length = ts.length + tm := by
    rw [rp_len, List.length_append, show ts.length + [c].length - ts.length = 1 by show ts.length + 1 - ts.length = 1; omega, Nat.one_mul]
  have loop : ∀ m j M1, j + m = tm → (∀ c i, c ≠ 5 → gi M1 c i = gi M c i) → (∀ i, i < ts.length + j → gi M1 5 i = nI ((rp (ts ++ [c]) ts.length tm).getD i 0)) → wX12_turnTold_229 post (m + 1) (nI tm) (nI j) M1 := by
    intro m
    induction m with
    | zero =>
      intro j M1 hj k1 k2
      have : j = tm := by omega
      subst this
      rw [wX12_turnTold_229]; dsimp only
      rw [if_pos (nI_le (by omega) (by omega))]
      intro M2 e2 M3 e3 M4 e4
      subst e2; subst e3; subst e4
      refine h _ ⟨fun c i z => ?_, ?_, ?_, ?_, ?_, ?_, ?_, fun i hi => ?_, stkM_keep (fun c i h1 h2 _ => ?_) gs⟩
      · rw [gi_si, if_neg (by omega), gi_si, if_neg (by omega), gi_si, if_neg (by omega), k1 c i (by omega)]; exact f c i z
      · rw [g_same, g_i (by decide), g_i (by decide), k1 _ _ (by decide), g3, nI_1]
      · rw [g_i (by decide), g_i (by decide), g_i (by decide), k1 _ _ (by decide)]; exact g4
      · rw [g_i (by decide), g_i (by decide), g_i (by decide), k1 _ _ (by decide)]; exact g5
      · rw [g_i (by decide), g_i (by decide), g_same, k1 _ _ (by decide), g14, z_add, el]
      · rw [g_i (by decide), g_i (by decide), g_i (by decide), k1 _ _ (by decide)]; exact g15
      · rw [g_i (by decide), g_same]; rfl
      · rw [g_c (by decide), g_c (by decide), g_c (by decide)]; exact k2 i (by omega)
      · rw [g_c (by omega), g_c (by omega), g_c (by omega), k1 c i (by omega)]
    | succ m ih =>
      intro j M1 hj k1 k2
      rw [wX12_turnTold_229]; dsimp only
      rw [if_neg (nI_ge (by omega) (by omega))]
      refine hereM (p := q) hT (by omega) (fun i => by rw [k1 1 i (by decide)]; exact f 1 i (by omega)) (by rw [k1 _ _ (by decide)]; exact g3) (by rw [k1 _ _ (by decide)]; exact g4) _ ?_
      rw [turnBy_n hlt, k1 _ _ (by decide), g14, z_add]
      have ev : tbv (hr B N q) = nI c := by unfold tbv; rw [hc]
      rw [ev]
      refine ⟨vl (by omega) (by decide), ?_⟩
      intro M10 e10 v11 e11
      subst e10; subst e11
      rw [nI_clamp (by omega), nI_1]
      refine ih (j + 1) _ (by omega) (fun c i z => by rw [g_c z]; exact k1 c i z) (fun i hi => ?_)
      rw [gi_si]
      by_cases z : i = ts.length + j
      · rw [if_pos ⟨rfl, z⟩, rp_let (by omega), if_neg (by omega)]
      · rw [if_neg (by omega)]; exact k2 i (by omega)
  exact ⟨tm + 1, loop tm 0 M (by omega) (fun _ _ _ => rfl) (fun i hi => by rw [rp_let (by omega), if_pos (by omega)]; exact gt i (by omega))⟩
theorem repM {N : Nat} {M0 M : xMem} {p : Nat} (hp : p ≤ 80) {ts : List Nat} (ht : ts.length ≤ 72) {stk : List (Nat × Nat × Nat)} {st tm at0 : Nat} (hst : st ≤ ts.length) (h1 : 1 ≤ tm) (h9 : tm ≤ 9) (hat : at0 < 300) (hM : PMs N M0 p ts stk true M) (post : xMem → Prop) (hg : st + (ts.length - st) * tm ≤ 72 → ∀ M', PMs N M0 p (rp ts st tm) stk true M' → post M') (hb : ¬ st + (ts.length - st) * tm ≤ 72 → ∀ M', FM M0 (fw 6 at0) M' → post M') : wX12_repeats (nI st) (nI tm) (nI at0) M post := by
  obtain ⟨f, g3, g4, g5, g14, g15, g16, gt, gs⟩ := id hM
  have hm : (ts.length - st) * tm ≤ 73 * 9 := Nat.mul_le_mul (by omega) h9
  have hml := mul_ge (v := ts.length - st) h1
  unfold wX12_repeats
  intro v1 e1
  rw [g14, z_sub hst] at e1
  subst e1
  rw [z_mul, z_add]
  by_cases c : st + (ts.length - st) * tm ≤ 72
  rotate_left
  · rw [if_neg (show ¬ nI (st + (ts.length - st) * tm) ≤ (72 : Int32) from nI_ge (b := st + (ts.length - st) * tm) (a := 72) (by omega) (by omega))]
    refine wrongM f g5 6 at0 (fw_n at0 hat).2 _ (fun M' hF => ?_)
    unfold wX12_repeats_26
    rw [goodM, FM_b hF, if_pos rfl]
    exact hb c M' hF
  rw [if_pos (show nI (st + (ts.length - st) * tm) ≤ (72 : Int32) from nI_le c (by decide))]
  unfold wX12_repeats_26
  rw [goodM, if_pos g5, if_neg (by decide)]
  have hlen := rp_len ts st tm
  have loop : ∀ m x M1, x + m = (ts.length - st) * tm → ts.length - st ≤ x → (∀ c i, c ≠ 5 → gi M1 c i = gi M c i) → (∀ i, i < st + x → gi M1 5 i = nI ((rp ts st tm).getD i 0)) → wX12_repeats_38 post (m + 1) (nI st) (nI tm) (nI (ts.length - st)) (nI x) M1 := by
    intro m
    induction m with
    | zero =>
      intro x M1 hx hv k1 k2
      have : x = (ts.length - st) * tm := by omega
      subst this
      rw [wX12_repeats_38]; dsimp only
      rw [z_mul, if_pos (nI_le (by omega) (by omega)), z_add]
      intro M2 e2
      subst e2
      refine hg c _ ⟨fun c i z => ?_, ?_, ?_, ?_, ?_, ?_, ?_, fun i hi => ?_, stkM_keep (fun c i h1 h2 _ => ?_) gs⟩
      · rw [gi_si, if_neg (by omega), k1 c i (by omega)]; exact f c i z
      · rw [g_i (by decide), k1 _ _ (by decide)]; exact g3
      · rw [g_i (by decide), k1 _ _ (by decide)]; exact g4
      · rw [g_i (by decide), k1 _ _ (by decide)]; exact g5
      · rw [g_same, hlen]
      · rw [g_i (by decide), k1 _ _ (by decide)]; exact g15
      · rw [g_i (by decide), k1 _ _ (by decide)]; exact g16
      · rw [g_c (by decide)]; exact k2 i (by omega)
      · rw [g_c (by omega), k1 c i (by omega)]
    | succ m ih =>
      intro x M1 hx hv k1 k2
      have hv0 : 0 < ts.length - st := by
        rcases Nat.eq_zero_or_pos (ts.length - st) with z | z
        · rw [z, Nat.zero_mul] at hx; omega
        · exact z
      have hmod := Nat.mod_lt x hv0
      have hdiv := Nat.div_add_mod x (ts.length - st)
      have hcm : x / (ts.length - st) * (ts.length - st) = (ts.length - st) * (x / (ts.length - st)) := Nat.mul_comm _ _
      rw [wX12_repeats_38]; dsimp only
      rw [z_mul, if_neg (nI_ge (by omega) (by omega)), nI_div (by omega) (by omega), z_mul, z_sub (by omega), z_add, z_add, show x - x / (ts.length - st) * (ts.length - st) = x % (ts.length - st) by omega]
      refine ⟨fun z => ?_, vl (by omega) (by decide), vl (by omega) (by decide), ?_⟩
      · have := (nI_eq (a := ts.length - st) (b := 0) (by omega) (by omega)).mp z
        omega
      intro M6 e6 v7 e7
      subst e6; subst e7
      rw [nI_clamp (by omega), nI_clamp (by omega), nI_1]
      refine ih (x + 1) _ (by omega) (by omega) (fun c i z => by rw [g_c z]; exact k1 c i z) (fun i hi => ?_)
      rw [gi_si]
      by_cases z : i = st + x
      · rw [if_pos ⟨rfl, z⟩, k2 _ (by omega), z]
        rw [rp_at (i := st + x) (by omega), rp_at (i := st + x % (ts.length - st)) (by omega), if_neg (by omega), if_neg (by omega), show st + x - st = x by omega, show st + x % (ts.length - st) - st = x % (ts.length - st) by omega, Nat.mod_mod]
      · rw [if_neg (by omega)]; exact k2 i (by omega)
  exact ⟨(ts.length - st) * tm - (ts.length - st) + 1, loop _ (ts.length - st) M (by omega) (Nat.le_refl _) (fun _ _ _ => rfl) (fun i hi => by rw [rp_old hst h1 (by omega)]; exact gt i (by omega))⟩
