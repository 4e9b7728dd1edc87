/-! fitting(), the class -/
theorem gl_sl (M : xMem) (c i : Nat) (v : Int64) (c' i' : Nat) : gl (sl M c i v) c' i' = if c' = c ∧ i' = i then v else gl M c' i' := by
  unfold gl sl vp_updL
  by_cases h : c' = c
  · subst h
    by_cases h2 : i' = i <;> simp [h2]
  · simp [h]
/-- bit t of a long -/
def btL (w : Int64) (t : Nat) : Bool := w.toBitVec.getLsbD t
theorem btL_0 (t : Nat) : btL 0 t = false := by
  unfold btL
  show (0#64).getLsbD t = false
  exact BitVec.getLsbD_zero
theorem shA : ∀ t < 64, (((nI t).toInt64 &&& 63).toBitVec.smod 64) = BitVec.ofNat 64 t := by decide +kernel
theorem bt1 : ∀ t < 64, ∀ u < 64, btL ((1 : Int64) <<< ((nI t).toInt64 &&& 63)) u = decide (u = t) := by decide +kernel
theorem btL_or {w : Int64} {t u : Nat} (ht : t < 64) (hu : u < 64) : btL (w ||| ((1 : Int64) <<< ((nI t).toInt64 &&& 63))) u = (btL w u || decide (u = t)) := by
  rw [← bt1 t ht u hu]
  unfold btL
  rw [Int64.toBitVec_or, BitVec.getLsbD_or]
theorem shL {w : Int64} {t : Nat} (ht : t < 64) : ((w >>> ((nI t).toInt64 &&& 63)) &&& 1 = 1) ↔ btL w t = true := by
  have e : (w >>> ((nI t).toInt64 &&& 63)).toBitVec = w.toBitVec.sshiftRight t := by
    rw [Int64.toBitVec_shiftRight, shA t ht]
    show w.toBitVec.sshiftRight (BitVec.ofNat 64 t).toNat = _
    rw [BitVec.toNat_ofNat, Nat.mod_eq_of_lt (by omega)]
  have e1 : ((w >>> ((nI t).toInt64 &&& 63)) &&& 1).toBitVec = w.toBitVec.sshiftRight t &&& 1#64 := by
    rw [Int64.toBitVec_and, e]
    rfl
  have b0 : (w.toBitVec.sshiftRight t).getLsbD 0 = w.toBitVec.getLsbD t := by
    rw [BitVec.getLsbD_sshiftRight]
    simp [ht]
  unfold btL
  rw [← b0]
  constructor
  · intro h
    have := congrArg (fun x : Int64 => x.toBitVec.getLsbD 0) h
    simp only [e1, BitVec.getLsbD_and] at this
    simpa using this
  · intro h
    apply Int64.toBitVec_inj.mp
    rw [e1]
    apply BitVec.eq_of_getLsbD_eq
    intro i hi
    rw [BitVec.getLsbD_and]
    show _ = (1#64).getLsbD i
    rcases Nat.eq_zero_or_pos i with z | z
    · subst z; rw [h]; rfl
    · have : (1#64).getLsbD i = false := by
        rw [BitVec.getLsbD_one]
        simp; omega
      rw [this, Bool.and_false]
def btF (C : xMem) (u s : Nat) : Bool := if u < 64 then btL (gl C 83 s) u else btL (gl C 84 s) (u - 64)
theorem lg_eq (x y : Int64) : (lg_cmp x y = 0) ↔ x = y := by
  have h1 := lg_lt x y
  have h2 := lg_gt x y
  constructor
  · intro h
    rw [h] at h1 h2
    have a : ¬ x.toInt < y.toInt := fun z => absurd (h1.mpr z) (by decide)
    have b : ¬ y.toInt < x.toInt := fun z => absurd (h2.mpr z) (by decide)
    exact Int64.toInt_inj.mp (by omega)
  · intro h
    subst h
    unfold lg_cmp
    rw [if_neg (fun z => by have := Int64.lt_iff_toInt_lt.mp z; omega), if_pos rfl]
theorem isOutC {C : xMem} {t s : Nat} (ht : t < 72) (hs : s < 1024) (post : Int32 → xMem → Prop) (h : post (b2i (btF C t s = true)) C) : wX3_isLeftOut (nI t) (nI s) C post := by
  unfold wX3_isLeftOut wX3_isLeftOut_28
  unfold btF at h
  have vs := vl (n := s) (N := 1024) hs (by decide)
  by_cases c : t < 64
  · rw [if_pos c] at h
    rw [if_neg (show ¬ (64 : Int32) ≤ nI t from nI_ge (b := 64) c (by decide))]
    refine ⟨vs, ?_⟩
    rw [nI_clamp (by omega)]
    by_cases q : btL (gl C 83 s) t = true
    · rw [b2i_t q] at h
      rw [if_pos ((lg_eq _ _).mpr ((shL c).mpr q))]; exact h
    · rw [b2i_f q] at h
      rw [if_neg (fun z => q ((shL c).mp ((lg_eq _ _).mp z)))]; exact h
  · rw [if_neg c] at h
    rw [if_pos (show (64 : Int32) ≤ nI t from nI_le (a := 64) (by omega) (by omega)), show nI t - 64 = nI (t - 64) from z_sub (b := 64) (by omega)]
    refine ⟨vs, ?_⟩
    rw [nI_clamp (by omega)]
    by_cases q : btL (gl C 84 s) (t - 64) = true
    · rw [b2i_t q] at h
      rw [if_pos ((lg_eq _ _).mpr ((shL (by omega)).mpr q))]; exact h
    · rw [b2i_f q] at h
      rw [if_neg (fun z => q ((shL (by omega)).mp ((lg_eq _ _).mp z)))]; exact h
theorem markC {C : xMem} {t s : Nat} (ht : t < 72) (hs : s < 1024) (post : xMem → Prop) (h : ∀ C', (∀ c i, gi C' c i = gi C c i) → (∀ u s', u < 72 → btF C' u s' = (btF C u s' || decide (u = t ∧ s' = s))) → post C') : wX3_markLeftOut (nI t) (nI s) C post := by
  unfold wX3_markLeftOut
  have vs := vl (n := s) (N := 1024) hs (by decide)
  by_cases c : t < 64
  · rw [if_neg (show ¬ (64 : Int32) ≤ nI t from nI_ge (b := 64) c (by decide))]
    refine ⟨vs, vs, ?_⟩
    intro M7 e7
    rw [nI_clamp (by omega)] at e7
    refine h M7 (fun c i => by rw [e7, gi_sl]) (fun u s' hu => ?_)
    unfold btF
    by_cases cu : u < 64
    · rw [if_pos cu, if_pos cu, e7, gl_sl]
      by_cases es : s' = s
      · rw [if_pos ⟨rfl, es⟩, btL_or c cu, es]; simp
      · rw [if_neg (fun y => es y.2)]; simp [es]
    · rw [if_neg cu, if_neg cu, e7, gl_sl, if_neg (fun y => by omega)]
      have : ¬ (u = t ∧ s' = s) := fun y => by omega
      simp [this]
  · rw [if_pos (show (64 : Int32) ≤ nI t from nI_le (a := 64) (by omega) (by omega)), show nI t - 64 = nI (t - 64) from z_sub (b := 64) (by omega)]
    refine ⟨vs, vs, ?_⟩
    intro M7 e7
    rw [nI_clamp (by omega)] at e7
    refine h M7 (fun c i => by rw [e7, gi_sl]) (fun u s' hu => ?_)
    unfold btF
    by_cases cu : u < 64
    · rw [if_pos cu, if_pos cu, e7, gl_sl, if_neg (fun y => by omega)]
      have : ¬ (u = t ∧ s' = s) := fun y => by omega
      simp [this]
    · rw [if_neg cu, if_neg cu, e7, gl_sl]
      by_cases es : s' = s
      · rw [if_pos ⟨rfl, es⟩, btL_or (by omega) (by omega), es]
        have : (u - 64 = t - 64) ↔ u = t := by omega
        simp [this]
      · rw [if_neg (fun y => es y.2)]; simp [es]
theorem nb_n : ∀ c < 22, nb (nI c) = nI (if c < 10 then 2 ^ c else if c < 20 then 2 ^ (c - 10) else 0) := by decide +kernel
theorem bt20 : ∀ s < 1024, bt 20 (nI s) = nI (trn s 20) := by decide +kernel
/-- all that can ever be open -/
theorem everC {o : Nat} {ts : List Nat} (hw : wfS ts) {C : xMem} (h1 : gi C o 1 = nI ts.length) (h2 : ∀ i, i < ts.length → gi C (o + 1) i = nI (ts.getD i 0)) (post : Int32 → xMem → Prop) (hp : post (nI (tT ts ts.length)) C) : wX3_threadsEver o C post := by
  have hl := hw.1
  have loop2 : ∀ m i, i + m = ts.length → wX3_threadsEver_44 o post (m + 1) (nI (tT ts i)) (nI i) C := by
    intro m
    induction m with
    | zero =>
      intro i hi
      have : i = ts.length := by omega
      subst this
      rw [wX3_threadsEver_44]; dsimp only
      rw [h1, if_pos (nI_le (Nat.le_refl _) (by omega))]
      exact hp
    | succ m ih =>
      intro i hi
      have hil : i < ts.length := by omega
      have hc := hw.2 i hil
      have h9 := ih (i + 1) (by omega)
      rw [tT_s hil] at h9
      unfold stF at h9
      rw [wX3_threadsEver_44]; dsimp only
      unfold wX3_threadsEver_70
      rw [h1, if_neg (nI_ge hil (by omega))]
      refine ⟨vl (by omega) (by decide), ?_⟩
      rw [nI_clamp (by omega), h2 i hil]
      by_cases q : ts.getD i 0 = 20
      · rw [if_pos q] at h9
        rw [if_pos (show nI (ts.getD i 0) = 20 by rw [q]; rfl), behindTurn_eq, bt20 _ (tT_lt ts i)]
        intro v1 e1
        subst e1
        rw [nI_1]
        exact h9
      · rw [if_neg q] at h9
        rw [if_neg (show ¬ nI (ts.getD i 0) = 20 from fun y => q ((nI_eq (b := 20) (by omega) (by decide)).mp y))]
        intro v1 e1
        subst e1
        rw [nI_1]
        exact h9
  have loop1 : ∀ m i, i + m = ts.length → wX3_threadsEver_4 o post (m + 1) (nI ((ts.take i).foldl nmO 0)) (nI i) C := by
    intro m
    induction m with
    | zero =>
      intro i hi
      have : i = ts.length := by omega
      subst this
      rw [wX3_threadsEver_4]; dsimp only
      rw [h1, if_pos (nI_le (Nat.le_refl _) (by omega)), List.take_length]
      exact ⟨ts.length + 1, loop2 ts.length 0 (by omega)⟩
    | succ m ih =>
      intro i hi
      have hil : i < ts.length := by omega
      have hc := hw.2 i hil
      have h9 := ih (i + 1) (by omega)
      rw [fold_s nmO 0 hil] at h9
      have hv := vl (n := i) (N := 72) (by omega) (by decide)
      rw [wX3_threadsEver_4]; dsimp only
      unfold wX3_threadsEver_36
      rw [h1, if_neg (nI_ge hil (by omega))]
      refine ⟨hv, ?_⟩
      rw [nI_clamp (by omega), h2 i hil, isClosing_eq]
      have cl : (if nI (ts.getD i 0) < 10 then (0 : Int32) else if 20 ≤ nI (ts.getD i 0) then 0 else 1) = if 10 ≤ ts.getD i 0 ∧ ts.getD i 0 < 20 then 1 else 0 := by
        have key : ∀ c < 22, (if nI c < 10 then (0 : Int32) else if 20 ≤ nI c then 0 else 1) = if 10 ≤ c ∧ c < 20 then 1 else 0 := by decide +kernel
        exact key _ hc
      rw [cl]
      by_cases q : 10 ≤ ts.getD i 0 ∧ ts.getD i 0 < 20
      · have en : nmO ((ts.take i).foldl nmO 0) (ts.getD i 0) = (ts.take i).foldl nmO 0 := if_pos q
        rw [en] at h9
        rw [if_pos q, if_neg n10]
        intro v1 e1
        subst e1
        rw [nI_1]
        exact h9
      · have en : nmO ((ts.take i).foldl nmO 0) (ts.getD i 0) = (ts.take i).foldl nmO 0 ||| (if ts.getD i 0 < 10 then 2 ^ ts.getD i 0 else 0) := if_neg q
        rw [en] at h9
        rw [if_neg q, if_pos rfl]
        refine ⟨hv, ?_⟩
        rw [namedBy_eq, h2 i hil, nb_n _ hc]
        intro v9 e9 v1 e1
        have ez : (if ts.getD i 0 < 10 then 2 ^ ts.getD i 0 else if ts.getD i 0 < 20 then 2 ^ (ts.getD i 0 - 10) else 0) = if ts.getD i 0 < 10 then 2 ^ ts.getD i 0 else 0 := by
          by_cases w : ts.getD i 0 < 10
          · rw [if_pos w, if_pos w]
          · rw [if_neg w, if_neg w, if_neg (by omega)]
        rw [ez, z_or] at e9
        subst e9; subst e1
        rw [nI_1]
        exact h9
  exact ⟨ts.length + 1, loop1 ts.length 0 (by omega)⟩
def lsT (T u : Nat) : List Nat := (List.range u).filter (fun s => decide (subS s T))
theorem lsT_s (T u : Nat) : lsT T (u + 1) = if subS u T then lsT T u ++ [u] else lsT T u := by
  unfold lsT
  rw [List.range_succ, List.filter_append]
  by_cases q : subS u T
  · rw [if_pos q, List.filter_cons_of_pos (p := fun s => decide (subS s T)) (a := u) (l := []) (decide_eq_true q)]; rfl
  · rw [if_neg q, List.filter_cons_of_neg (p := fun s => decide (subS s T)) (a := u) (l := []) (by show ¬ decide (subS u T) = true; rw [decide_eq_false q]; decide)]; exact List.append_nil _
theorem lsT_len (T u : Nat) : (lsT T u).length ≤ u := by
  unfold lsT
  exact Nat.le_trans (List.length_filter_le _ _) (by rw [List.length_range]; exact Nat.le_refl _)
theorem lsT_mem {T s : Nat} : s ∈ lsT T 1024 ↔ s < 1024 ∧ subS s T := by
  unfold lsT
  rw [List.mem_filter, List.mem_range]
  simp
theorem setsC {T : Nat} (hT : T < 1024) {C : xMem} (post : xMem → Prop) (hp : ∀ C', (∀ c i, ¬ (c = 79 ∧ i = 1) → c ≠ 80 → gi C' c i = gi C c i) → gi C' 79 1 = nI (lsT T 1024).length → (∀ i, i < (lsT T 1024).length → gi C' 80 i = nI ((lsT T 1024).getD i 0)) → post C') : wX3_listSets (nI T) C post := by
  unfold wX3_listSets
  intro M1 e1
  have key : ∀ m u C1, u + m = 1024 → (∀ c i, ¬ (c = 79 ∧ i = 1) → c ≠ 80 → gi C1 c i = gi C c i) → gi C1 79 1 = nI (lsT T u).length → (∀ i, i < (lsT T u).length → gi C1 80 i = nI ((lsT T u).getD i 0)) → wX3_listSets_7 post (m + 1) (nI T) (nI u) C1 := by
    intro m
    induction m with
    | zero =>
      intro u C1 hu f g1 g2
      have : u = 1024 := by omega
      subst this
      rw [wX3_listSets_7]; dsimp only
      rw [if_pos (show (1024 : Int32) ≤ nI 1024 by decide)]
      exact hp C1 f g1 g2
    | succ m ih =>
      intro u C1 hu f g1 g2
      have hul : u < 1024 := by omega
      have hlen := lsT_len T u
      have h9 := ih (u + 1)
      rw [lsT_s] at h9
      rw [wX3_listSets_7]; dsimp only
      unfold wX3_listSets_42
      rw [if_neg (show ¬ (1024 : Int32) ≤ nI u from nI_ge (b := 1024) hul (by decide)), andnot_n hul hT]
      by_cases q : subS u T
      · rw [if_pos (show nI (u &&& (1023 ^^^ T)) = 0 by rw [q]; rfl), g1]
        refine ⟨vl (by omega) (by decide), ?_⟩
        intro M4 e4 M5 e5 v1 ev
        rw [nI_clamp (by omega)] at e4
        have k4 : gi M4 79 1 = nI (lsT T u).length := by rw [e4, g_c (by decide)]; exact g1
        rw [k4, nI_1] at e5
        subst ev
        rw [nI_1]
        refine h9 M5 (by omega) (fun c i y1 y2 => by rw [e5, gi_si, if_neg y1, e4, g_c y2]; exact f c i y1 y2) (by rw [if_pos q, e5, g_same, List.length_append]; rfl) (fun i hi => ?_)
        rw [if_pos q] at hi ⊢
        rw [getD_app, e5, g_c (by decide), e4, gi_si]
        rw [List.length_append] at hi
        have hi' : i < (lsT T u).length + 1 := hi
        by_cases y : i < (lsT T u).length
        · rw [if_neg (by omega), if_pos y]; exact g2 i y
        · rw [if_pos ⟨rfl, by omega⟩, if_neg y, if_pos (by omega)]
      · have hne : ¬ nI (u &&& (1023 ^^^ T)) = 0 := fun y => q ((nI_eq (b := 0) (Nat.lt_of_le_of_lt Nat.and_le_left (by omega)) (by decide)).mp y)
        rw [if_neg hne]
        intro v1 ev
        subst ev
        rw [nI_1]
        exact h9 C1 (by omega) f (by rw [if_neg q]; exact g1) (by rw [if_neg q]; exact g2)
  refine ⟨1025, key 1024 0 M1 rfl (fun c i y1 _ => by rw [e1, gi_si, if_neg y1]) (by rw [e1, g_same]; rfl) (fun i hi => absurd hi (Nat.not_lt_zero i))⟩
theorem fillG {c n : Nat} (hl : lC c = n) (hn : n ≤ 1024) (v : Int32) {C : xMem} (post : xMem → Prop) (hp : ∀ C' : xMem, (∀ c' i, c' ≠ c → gi C' c' i = gi C c' i) → post C') : wJ7_fill_53178 c v C post := by
  unfold wJ7_fill_53178
  rw [hl]
  intro v1 e1
  subst e1
  have key : ∀ m i C1, i + m = n → (∀ c' j, c' ≠ c → gi C1 c' j = gi C c' j) → wJ7_fill_53178_5 c post (m + 1) v (nI i) (nI n) C1 := by
    intro m
    induction m with
    | zero =>
      intro i C1 hi h1
      rw [wJ7_fill_53178_5]; dsimp only
      rw [if_pos (nI_le (by omega) (by omega))]
      exact hp C1 h1
    | succ m ih =>
      intro i C1 hi h1
      rw [wJ7_fill_53178_5]; dsimp only
      rw [if_neg (nI_ge (by omega) (by omega)), hl]
      refine ⟨vl (by omega) (by omega), ?_⟩
      intro M3 e3 v4 e4
      subst e3; subst e4
      rw [nI_1, nI_clamp (by omega)]
      exact ih (i + 1) _ (by omega) (fun c' j z => by rw [g_c z]; exact h1 c' j z)
  exact ⟨n + 1, key n 0 C (by omega) (fun _ _ _ => rfl)⟩
