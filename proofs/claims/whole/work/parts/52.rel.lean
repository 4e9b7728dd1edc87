/-! THE RELATION between the two memories, out of plain numbers: S the stories, e the ends, h the hall, t the tape -/
abbrev xT2 : Type := Nat → Nat → Nat
def bnd (v : Nat) (z : Int32) : Int32 := if v < 4 then nI v else z
def mostOf (ts : List Nat) : Nat := (List.range (ts.length + 1)).foldl (fun a i => max a (pc ((ts.take i).foldl trn 0))) 0
def comesOf : List Nat → Nat → Nat
  | [], _ => 0
  | c :: r, s => (if c < 20 then 2 ^ (c % 10) else trn s c &&& (1023 ^^^ s)) ||| comesOf r (trn s c)
/-- a story, on both sides -/
def SC (ts : List Nat) (k : Nat) (C : xMem) : Prop := gi C (3 + 2 * k) 1 = nI ts.length ∧ (∀ i, i < ts.length → gi C (3 + 2 * k + 1) i = nI (ts.getD i 0)) ∧ gi C (3 + 2 * k) 2 = nI (ts.foldl trn 0) ∧ gi C (3 + 2 * k) 3 = nI (mostOf ts) ∧ gi C (3 + 2 * k) 4 = nI (comesOf ts 0)
def SM (ts : List Nat) (k : Nat) (M : xMem) : Prop := gi M 3 k = nI ts.length ∧ gi M 2 k = b2i (ts ≠ []) ∧ ∀ i, i < ts.length → gi M 4 (72 * k + i) = nI (ts.getD i 0)
def wfS (ts : List Nat) : Prop := ts.length ≤ 72 ∧ ∀ i, i < ts.length → ts.getD i 0 < 22
def EC (e : xT2) (C : xMem) : Prop := gi C 41 0 = nI (e 0 0) ∧ ∀ k, k < 10 → gi C 42 k = nI (e 1 k) ∧ gi C 43 k = nI (e 2 k) ∧ gi C 44 k = nI (e 3 k)
def EM (e : xT2) (M : xMem) : Prop := ∀ k, k < 10 → gi M 25 k = b2i ((e 0 0).testBit k = true) ∧ gi M 26 k = nI (e 1 k) ∧ gi M 27 k = nI (e 2 k) ∧ gi M 29 k = nI (e 3 k)
def wfE (e : xT2) : Prop := e 0 0 < 1024 ∧ ∀ k, k < 10 → e 1 k < 1024 ∧ ((e 0 0).testBit k = true → 1 ≤ e 1 k) ∧ e 2 k ≤ 99 ∧ e 3 k ≤ 30
/-- a hall: rows 0 tellers (bits), 1 story, 2 purse, 3 turn, 4 open, 5 listeners (bits), 6 bound (4: went), 7 age, 8 tired, 9 stock, 10 evening, 13 X -/
def HC (o : Nat) (h : xT2) (il to : Int32) (C : xMem) : Prop := gi C o 0 = nI (h 0 0) ∧ gi C o 5 = nI (h 5 0) ∧ gi C o 10 = nI (h 10 0) ∧ gi C o 11 = il ∧ gi C o 12 = to ∧ gi C o 13 = nI (h 13 0) ∧ (∀ k, k < 4 → gi C (o + 1) k = nI (h 1 k) ∧ gi C (o + 2) k = nI (h 2 k) ∧ gi C (o + 3) k = nI (h 3 k) ∧ gi C (o + 4) k = nI (h 4 k)) ∧ ∀ l, l < 10 → gi C (o + 5) l = bnd (h 6 l) (-2) ∧ gi C (o + 6) l = nI (h 7 l) ∧ gi C (o + 7) l = nI (h 8 l) ∧ gi C (o + 8) l = nI (h 9 l)
def HM (h : xT2) (il to : Int32) (M : xMem) : Prop := (∀ k, k < 4 → gi M 30 k = b2i ((h 0 0).testBit k = true) ∧ gi M 31 k = nI (h 1 k) ∧ gi M 32 k = nI (h 2 k) ∧ gi M 33 k = nI (h 3 k) ∧ gi M 34 k = nI (h 4 k)) ∧ (∀ l, l < 10 → gi M 35 l = b2i ((h 5 0).testBit l = true) ∧ gi M 36 l = bnd (h 6 l) (-1) ∧ gi M 37 l = nI (h 7 l) ∧ gi M 38 l = nI (h 8 l) ∧ gi M 28 l = nI (h 9 l)) ∧ gi M 0 65 = nI (h 10 0) ∧ gi M 0 66 = il ∧ gi M 0 67 = to ∧ gi M 0 2 = nI (h 13 0)
def HA (r : Nat) (h : xT2) (il to : Int32) (M : xMem) : Prop := (∀ k, k < 4 → gi M 41 (4 * r + k) = b2i ((h 0 0).testBit k = true) ∧ gi M 42 (4 * r + k) = nI (h 1 k) ∧ gi M 43 (4 * r + k) = nI (h 2 k) ∧ gi M 44 (4 * r + k) = nI (h 3 k) ∧ gi M 45 (4 * r + k) = nI (h 4 k)) ∧ (∀ l, l < 10 → gi M 46 (10 * r + l) = b2i ((h 5 0).testBit l = true) ∧ gi M 47 (10 * r + l) = bnd (h 6 l) (-1) ∧ gi M 48 (10 * r + l) = nI (h 7 l) ∧ gi M 49 (10 * r + l) = nI (h 8 l) ∧ gi M 50 (10 * r + l) = nI (h 9 l)) ∧ gi M 51 r = nI (h 10 0) ∧ gi M 52 r = il ∧ gi M 53 r = to ∧ gi M 54 r = nI (h 13 0)
def wfH (S : Nat → List Nat) (h : xT2) : Prop := h 0 0 < 16 ∧ h 5 0 < 1024 ∧ h 10 0 ≤ 9999 ∧ h 13 0 < 65536 ∧ (∀ k, k < 4 → h 1 k < 6 ∧ h 2 k ≤ 9999 ∧ h 3 k ≤ 72 ∧ h 4 k < 1024 ∧ ((h 0 0).testBit k = true → S (h 1 k) ≠ []) ∧ ((h 0 0).testBit k = false → h 3 k = 0)) ∧ ∀ l, l < 10 → h 6 l ≤ 4 ∧ h 7 l ≤ 99 ∧ h 8 l ≤ 9 ∧ h 9 l ≤ 9 ∧ ((h 5 0).testBit l = false → h 8 l = 0)
def TC (tn : Nat) (t : Nat → Nat) (C : xMem) : Prop := gi C 0 1 = nI tn ∧ ∀ i, i < tn → gi C 1 i = nI (t i)
def TM (tn : Nat) (t : Nat → Nat) (M : xMem) : Prop := gi M 0 1 = nI tn ∧ ∀ i, i < tn → gi M 1 i &&& 255 = nI (t i) ∧ ∃ w : Int8, gi M 1 i = w.toInt32
def wfT (tn : Nat) (t : Nat → Nat) : Prop := tn ≤ 260 ∧ ∀ i, i < tn → t i < 256
/-- the fitting's two rows, and that the reference asks the law that stands -/
def MX (C M : xMem) : Prop := gi M 0 27 = 0 ∧ ((gi C 79 2 = 81 ∧ gi C 79 3 = 82) ∨ (gi C 79 2 = 82 ∧ gi C 79 3 = 81))
/-- all but the laws -/
def RD (S : Nat → List Nat) (e h hk : xT2) (il to il2 to2 : Int32) (kp : Bool) (tn : Nat) (t : Nat → Nat) (C M : xMem) : Prop :=
  (∀ k, k < 6 → wfS (S k) ∧ SC (S k) k C ∧ SM (S k) k M) ∧ (wfE e ∧ EC e C ∧ EM e M) ∧ (wfH S h ∧ (∀ k, k < 4 → h 3 k ≤ (S (h 1 k)).length) ∧ HC 49 h il to C ∧ HM h il to M) ∧ (gi C 0 11 = b2i (kp = true) ∧ gi M 0 95 = b2i (kp = true) ∧ (kp = true → wfH S hk ∧ HC 58 hk il2 to2 C ∧ HA 1 hk il2 to2 M)) ∧ (wfT tn t ∧ TC tn t C ∧ TM tn t M) ∧ MX C M
/-- with the laws' part LL (to be said) -/
def RRL (LL : xMem → xMem → Prop) (C M : xMem) : Prop := (∃ S e h hk il to il2 to2 kp tn t, RD S e h hk il to il2 to2 kp tn t C M) ∧ LL C M
theorem at_n {a : Int32} {n : Nat} (h : 0 ≤ a.toInt ∧ a.toInt ≤ (n : Int)) (hn : n < 2 ^ 30) : ∃ k : Nat, k ≤ n ∧ a = nI k := by
  obtain ⟨k, hk, e⟩ := nI_of' (x := a) (n + 1) h.1 (by omega)
  exact ⟨k, by omega, e⟩
theorem toldStory_out {a : Int32} (h : ¬ (0 ≤ a.toInt ∧ a.toInt ≤ 5)) (C : xMem) (post : Nat → xMem → Prop) : wX11_toldStory a C post = post 0 C := by
  have e1 : (0 : Int32).toInt = 0 := by decide
  have e2 : (5 : Int32).toInt = 5 := by decide
  unfold wX11_toldStory wX11_storyAt
  rw [within_eq, e1, e2, b2i_f h, if_pos rfl]; dsimp only
  rw [if_pos rfl]
theorem toldStory_in {k n : Nat} (hk : k < 6) {C : xMem} (hs : gi C (3 + 2 * k) 1 = nI n) (hn : n ≤ 72) (post : Nat → xMem → Prop) (hp : post (if n = 0 then 0 else 3 + 2 * k) C) : wX11_toldStory (nI k) C post := by
  have e1 : (0 : Int32).toInt = 0 := by decide
  have e2 : (5 : Int32).toInt = 5 := by decide
  have hi : 0 ≤ (nI k).toInt ∧ (nI k).toInt ≤ 5 := by rw [nI_toInt (by omega)]; omega
  unfold wX11_toldStory wX11_storyAt
  rw [within_eq, e1, e2, b2i_t hi, if_neg (by decide)]
  refine ⟨vp_in_nI hk (by decide), ?_⟩
  rw [nI_clamp (by omega)]; dsimp only
  rw [if_neg (by omega), hs]
  by_cases h0 : n = 0
  · subst h0
    rw [if_pos rfl] at hp
    rw [if_pos nI_0]
    exact hp
  · rw [if_neg h0] at hp
    rw [if_neg (nI_ne0 (by omega) (by omega))]
    exact hp
theorem isTold_out {a : Int32} (h : ¬ (0 ≤ a.toInt ∧ a.toInt ≤ 5)) (M : xMem) (post : Int32 → xMem → Prop) : wX12_isTold a M post = post 0 M := by
  have e1 : (0 : Int64).toInt = 0 := by decide
  have e2 : (5 : Int64).toInt = 5 := by decide
  unfold wX12_isTold
  rw [lies_eq, i64i, e1, e2, b2i_f h, if_pos rfl]
theorem isTold_in {k : Nat} {p : Prop} [Decidable p] (hk : k < 6) {M : xMem} (hs : gi M 2 k = b2i p) (post : Int32 → xMem → Prop) (hp : post (b2i p) M) : wX12_isTold (nI k) M post := by
  have e1 : (0 : Int64).toInt = 0 := by decide
  have e2 : (5 : Int64).toInt = 5 := by decide
  have hi : 0 ≤ (nI k).toInt ∧ (nI k).toInt ≤ 5 := by rw [nI_toInt (by omega)]; omega
  unfold wX12_isTold
  rw [lies_eq, i64i, e1, e2, b2i_t hi, if_neg (by decide)]
  refine ⟨vp_in_nI hk (by decide), ?_⟩
  rw [nI_clamp (by omega), hs]
  by_cases h : p
  · rw [b2i_t h] at hp ⊢
    rw [if_neg (by decide)]
    exact hp
  · rw [b2i_f h] at hp ⊢
    rw [if_pos rfl]
    exact hp
/-- what is open behind turns i to j - 1, begun with s -/
theorem fold_lt {ts : List Nat} (h : ∀ c ∈ ts, c < 22) : ∀ s, s < 1024 → ts.foldl trn s < 1024 := by
  induction ts with
  | nil => intro s hs; exact hs
  | cons c r ih =>
    intro s hs
    exact ih (fun c hc => h c (List.mem_cons_of_mem _ hc)) _ (trn_lt (h c List.mem_cons_self) hs)
theorem obC {o : Nat} {ts : List Nat} (hw : wfS ts) {C : xMem} (h1 : gi C o 1 = nI ts.length) (h2 : ∀ i, i < ts.length → gi C (o + 1) i = nI (ts.getD i 0)) (post : Int32 → xMem → Prop) (j : Nat) (hj : j ≤ 1000) : ∀ (m i s : Nat), i ≤ ts.length → s < 1024 → ts.length ≤ i + m → post (nI (((ts.take j).drop i).foldl trn s)) C → wX9_openBehind_10 o post (m + 1) (nI j) (nI s) (nI i) C := by
  intro m
  induction m with
  | zero =>
    intro i s hi hs hm hp
    rw [wX9_openBehind_10]; dsimp only
    have e : (ts.take j).drop i = [] := List.drop_eq_nil_of_le (by rw [List.length_take]; omega)
    rw [e] at hp
    have hl := hw.1
    by_cases hq : j ≤ i
    · rw [if_pos (nI_le hq (by omega))]; exact hp
    · rw [if_neg (nI_ge (by omega) (by omega)), h1, if_pos (nI_le (by omega) (by omega))]; exact hp
  | succ m ih =>
    intro i s hi hs hm hp
    have hl := hw.1
    rw [wX9_openBehind_10]; dsimp only
    by_cases hq : j ≤ i
    · rw [if_pos (nI_le hq (by omega))]
      rw [List.drop_eq_nil_of_le (by rw [List.length_take]; omega)] at hp
      exact hp
    · rw [if_neg (nI_ge (by omega) (by omega)), h1]
      by_cases hq2 : ts.length ≤ i
      · rw [if_pos (nI_le hq2 (by omega))]
        rw [List.drop_eq_nil_of_le (by rw [List.length_take]; omega)] at hp
        exact hp
      · rw [if_neg (nI_ge (by omega) (by omega))]
        refine ⟨vp_in_nI (by omega) (by decide), ?_⟩
        rw [nI_clamp (by omega), h2 i (by omega), behindTurn_eq, bt_n (hw.2 i (by omega)) hs]
        intro v6 e6
        subst e6
        rw [nI_1]
        refine ih (i + 1) _ (by omega) (trn_lt (hw.2 i (by omega)) hs) (by omega) ?_
        have e : (ts.take j).drop i = ts.getD i 0 :: (ts.take j).drop (i + 1) := by
          rw [List.drop_eq_getElem_cons (by rw [List.length_take]; omega)]
          congr 1
          rw [List.getElem_take, List.getD_eq_getElem?_getD, List.getElem?_eq_getElem (by omega)]
          rfl
        rw [e] at hp
        exact hp
theorem openBehindC {o : Nat} {ts : List Nat} (hw : wfS ts) {C : xMem} (h1 : gi C o 1 = nI ts.length) (h2 : ∀ i, i < ts.length → gi C (o + 1) i = nI (ts.getD i 0)) {i j s : Nat} (hi : i ≤ ts.length) (hj : j ≤ 1000) (hs : s < 1024) (post : Int32 → xMem → Prop) (hp : post (nI (((ts.take j).drop i).foldl trn s)) C) : wX9_openBehind o (nI i) (nI j) (nI s) C post := by
  have hl := hw.1
  unfold wX9_openBehind
  rw [max_eq]
  have e : (if (0 : Int32) < nI i then nI i else 0) = nI i := by
    by_cases h0 : i = 0
    · subst h0; rfl
    · rw [if_pos (show (0 : Int32) < nI i from nI_lt (a := 0) (by omega) (by omega))]
  rw [e]
  exact ⟨ts.length + 1, obC hw h1 h2 post j hj ts.length i s hi hs (by omega) hp⟩
theorem obM {k : Nat} (hk : k < 6) {ts : List Nat} (hw : wfS ts) {M : xMem} (h2 : ∀ i, i < ts.length → gi M 4 (72 * k + i) = nI (ts.getD i 0)) (post : Int32 → xMem → Prop) (j : Nat) (hj : j ≤ ts.length) : ∀ (m i s : Nat), i ≤ j → s < 1024 → j ≤ i + m → post (nI (((ts.take j).drop i).foldl trn s)) M → wX12_openBehind_6 post (m + 1) (nI k) (nI j) (nI s) (nI i) M := by
  have hl := hw.1
  have ix : ∀ i, (72 * nI k) + nI i = nI (72 * k + i) := fun i => by rw [show (72 : Int32) = nI 72 from rfl, pk_mul, nI_add]
  intro m
  induction m with
  | zero =>
    intro i s hi hs hm hp
    rw [wX12_openBehind_6]; dsimp only
    rw [if_pos (nI_le (by omega) (by omega))]
    rw [List.drop_eq_nil_of_le (by rw [List.length_take]; omega)] at hp
    exact hp
  | succ m ih =>
    intro i s hi hs hm hp
    rw [wX12_openBehind_6]; dsimp only
    by_cases hq : j ≤ i
    · rw [if_pos (nI_le hq (by omega))]
      rw [List.drop_eq_nil_of_le (by rw [List.length_take]; omega)] at hp
      exact hp
    · rw [if_neg (nI_ge (by omega) (by omega)), ix i]
      refine ⟨vp_in_nI (by omega) (by decide), ?_⟩
      rw [nI_clamp (by omega), h2 i (by omega), turned_eq, td_n (hw.2 i (by omega)) hs]
      intro v6 e6
      subst e6
      rw [nI_1]
      refine ih (i + 1) _ (by omega) (trn_lt (hw.2 i (by omega)) hs) (by omega) ?_
      have e : (ts.take j).drop i = ts.getD i 0 :: (ts.take j).drop (i + 1) := by
        rw [List.drop_eq_getElem_cons (by rw [List.length_take]; omega)]
        congr 1
        rw [List.getElem_take, List.getD_eq_getElem?_getD, List.getElem?_eq_getElem (by omega)]
        rfl
      rw [e] at hp
      exact hp
theorem openBehindM {k : Nat} (hk : k < 6) {ts : List Nat} (hw : wfS ts) {M : xMem} (h2 : ∀ i, i < ts.length → gi M 4 (72 * k + i) = nI (ts.getD i 0)) {j s : Nat} (hj : j ≤ ts.length) (hs : s < 1024) (post : Int32 → xMem → Prop) (hp : post (nI ((ts.take j).foldl trn s)) M) : wX12_openBehind (nI k) (nI j) (nI s) M post :=
  ⟨j + 1, obM hk hw h2 post j hj j 0 s (Nat.zero_le _) hs (by omega) hp⟩
