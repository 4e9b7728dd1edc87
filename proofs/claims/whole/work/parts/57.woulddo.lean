def sO (ts : List Nat) (i : Nat) : Nat := (ts.take i).foldl trn 0
theorem sO_lt {ts : List Nat} (hw : wfS ts) (i : Nat) : sO ts i < 1024 := by
  refine fold_lt (fun c hc => ?_) 0 (by omega)
  have hc := List.mem_of_mem_take hc
  obtain ⟨j, hj, e⟩ := List.getElem_of_mem hc
  have := hw.2 j hj
  rw [List.getD_eq_getElem?_getD, List.getElem?_eq_getElem hj] at this
  rw [← e]; exact this
theorem sO_s {ts : List Nat} (i : Nat) : ((ts.take (i + 1)).drop i).foldl trn (sO ts i) = sO ts (i + 1) := by
  unfold sO
  rw [← List.foldl_append]
  congr 1
  have := List.take_append_drop i (ts.take (i + 1))
  rw [List.take_take, Nat.min_eq_left (by omega)] at this
  exact this
def fl (m v : Nat) : Int32 := if m = 0 then -2 else nI v
def wst (ts : List Nat) (th : Nat) : Nat → Nat × Nat × Nat
  | 0 => (0, 0, 0)
  | i + 1 => if ¬ sO ts (i + 1) = 0 ∧ sO ts (i + 1) &&& (1023 ^^^ th) = 0 then ((wst ts th i).1 + 1, (if (wst ts th i).1 = 0 then i + 1 else (wst ts th i).2.1), i + 1) else wst ts th i
theorem wst_le (ts : List Nat) (th : Nat) : ∀ i, (wst ts th i).1 ≤ i ∧ (wst ts th i).2.1 ≤ i ∧ (wst ts th i).2.2 ≤ i := by
  intro i
  induction i with
  | zero => exact ⟨Nat.le_refl _, Nat.le_refl _, Nat.le_refl _⟩
  | succ i ih =>
    unfold wst
    split
    · refine ⟨by dsimp only; omega, ?_, by dsimp only; omega⟩
      dsimp only
      split <;> omega
    · omega
def wans (a2 : Int32) (p : Nat × Nat × Nat) : Int32 := if a2 = 0 then nI p.1 else if a2 = 1 then fl p.1 p.2.1 else fl p.1 p.2.2
theorem fl_s (m v : Nat) : fl (m + 1) v = nI v := if_neg (by omega)
theorem and0_n {s t : Nat} (hs : s < 1024) (ht : t < 1024) : (nI s &&& (nI t ^^^ (-1)) = 0) ↔ s &&& (1023 ^^^ t) = 0 := by
  rw [andnot_n hs ht, ← nI_0]
  have : s &&& (1023 ^^^ t) ≤ s := Nat.and_le_left
  exact nI_eq (by omega) (by decide)
theorem n0_n {s : Nat} (hs : s < 1024) : (nI s = 0) ↔ s = 0 := by rw [← nI_0]; exact nI_eq (by omega) (by decide)
theorem wdC {o : Nat} {ts : List Nat} (hw : wfS ts) {C : xMem} (h1 : gi C o 1 = nI ts.length) (h2 : ∀ i, i < ts.length → gi C (o + 1) i = nI (ts.getD i 0)) {e th : Nat} (he : e < 10) (hth : th < 1024) (h3 : gi C 42 e = nI th) (a2 : Int32) (post : Int32 → xMem → Prop) (hp : post (wans a2 (wst ts th ts.length)) C) : ∀ (m i : Nat), i ≤ ts.length → ts.length ≤ i + m → wX11_wouldDo_51 post (m + 1) (nI e) a2 o (nI (wst ts th i).1) (fl (wst ts th i).1 (wst ts th i).2.1) (fl (wst ts th i).1 (wst ts th i).2.2) (nI (sO ts i)) (nI (i + 1)) C := by
  have hl := hw.1
  have fin : ∀ (n i : Nat), i = ts.length → wX11_wouldDo_51 post (n + 1) (nI e) a2 o (nI (wst ts th i).1) (fl (wst ts th i).1 (wst ts th i).2.1) (fl (wst ts th i).1 (wst ts th i).2.2) (nI (sO ts i)) (nI (i + 1)) C := by
    intro n i hi
    subst hi
    rw [wX11_wouldDo_51]; dsimp only
    rw [h1, if_pos (nI_lt (by omega) (by omega))]
    unfold wans at hp
    by_cases q0 : a2 = 0
    · rw [if_pos q0] at hp ⊢; exact hp
    · rw [if_neg q0] at hp ⊢
      by_cases q1 : a2 = 1
      · rw [if_pos q1] at hp ⊢; exact hp
      · rw [if_neg q1] at hp ⊢; exact hp
  intro m
  induction m with
  | zero => intro i hi hm; exact fin 0 i (by omega)
  | succ m ih =>
    intro i hi hm
    by_cases hq : i = ts.length
    · exact fin (m + 1) i hq
    · rw [wX11_wouldDo_51]; dsimp only
      rw [h1, if_neg (nI_nlt (by omega) (by omega)), nI_pred]
      refine openBehindC hw h1 h2 hi (by omega) (sO_lt hw i) _ ?_
      rw [sO_s]
      have hs := sO_lt hw (i + 1)
      have hnx := ih (i + 1) (by omega) (by omega)
      by_cases c0 : sO ts (i + 1) = 0
      · rw [if_pos ((n0_n hs).mpr c0)]
        have ew : wst ts th (i + 1) = wst ts th i := by
          show (if _ then _ else _) = _
          rw [if_neg (fun q => q.1 c0)]
        rw [ew] at hnx
        intro v1 e1
        subst e1
        rw [nI_1]
        exact hnx
      · rw [if_neg (fun q => c0 ((n0_n hs).mp q))]
        refine ⟨vp_in_nI he (by decide), ?_⟩
        rw [nI_clamp (by omega), h3]
        by_cases c1 : sO ts (i + 1) &&& (1023 ^^^ th) = 0
        · rw [if_pos ((and0_n hs hth).mpr c1)]
          have hle := wst_le ts th i
          have ew : wst ts th (i + 1) = ((wst ts th i).1 + 1, (if (wst ts th i).1 = 0 then i + 1 else (wst ts th i).2.1), i + 1) := by
            show (if _ then _ else _) = _
            rw [if_pos ⟨c0, c1⟩]
          rw [ew] at hnx
          simp only [fl_s] at hnx
          intro v9 e9
          subst e9
          rw [nI_1]
          by_cases c2 : (wst ts th i).1 = 0
          · rw [if_pos c2] at hnx
            rw [c2] at hnx ⊢
            rw [if_pos (show nI (0 + 1) = 1 from rfl)]
            intro v1 e1
            subst e1
            rw [nI_1]
            exact hnx
          · rw [if_neg c2] at hnx
            rw [if_neg (fun q => c2 (by
              have := (nI_eq (a := (wst ts th i).1 + 1) (b := 1) (by omega) (by decide)).mp q
              omega))]
            intro v1 e1
            subst e1
            rw [nI_1]
            have ef : fl (wst ts th i).1 (wst ts th i).2.1 = nI (wst ts th i).2.1 := if_neg c2
            rw [ef]
            exact hnx
        · rw [if_neg (fun q => c1 ((and0_n hs hth).mp q))]
          have ew : wst ts th (i + 1) = wst ts th i := by
            show (if _ then _ else _) = _
            rw [if_neg (fun q => c1 q.2)]
          rw [ew] at hnx
          intro v1 e1
          subst e1
          rw [nI_1]
          exact hnx
theorem wdM {k : Nat} (hk : k < 6) {ts : List Nat} (hw : wfS ts) {M : xMem} (h1 : gi M 3 k = nI ts.length) (h2 : ∀ i, i < ts.length → gi M 4 (72 * k + i) = nI (ts.getD i 0)) {e th : Nat} (he : e < 10) (hth : th < 1024) (h3 : gi M 26 e = nI th) (a2 : Int32) (post : Int32 → xMem → Prop) (hp : post (wans a2 (wst ts th ts.length)) M) : ∀ (m i : Nat), i ≤ ts.length → ts.length ≤ i + m → wX12_wouldDo_44 post (m + 1) (nI k) (nI e) a2 (nI (wst ts th i).1) (fl (wst ts th i).1 (wst ts th i).2.1) (fl (wst ts th i).1 (wst ts th i).2.2) (nI (i + 1)) M := by
  have hl := hw.1
  have fin : ∀ (n i : Nat), i = ts.length → wX12_wouldDo_44 post (n + 1) (nI k) (nI e) a2 (nI (wst ts th i).1) (fl (wst ts th i).1 (wst ts th i).2.1) (fl (wst ts th i).1 (wst ts th i).2.2) (nI (i + 1)) M := by
    intro n i hi
    subst hi
    rw [wX12_wouldDo_44]; dsimp only
    refine ⟨vp_in_nI hk (by decide), ?_⟩
    rw [nI_clamp (by omega), h1, if_pos (nI_lt (by omega) (by omega))]
    unfold wans at hp
    by_cases q0 : a2 = 0
    · rw [if_pos q0] at hp ⊢; exact hp
    · rw [if_neg q0] at hp ⊢
      by_cases q1 : a2 = 1
      · rw [if_pos q1] at hp ⊢; exact hp
      · rw [if_neg q1] at hp ⊢; exact hp
  intro m
  induction m with
  | zero => intro i hi hm; exact fin 0 i (by omega)
  | succ m ih =>
    intro i hi hm
    by_cases hq : i = ts.length
    · exact fin (m + 1) i hq
    · rw [wX12_wouldDo_44]; dsimp only
      refine ⟨vp_in_nI hk (by decide), ?_⟩
      rw [nI_clamp (by omega), h1, if_neg (nI_nlt (by omega) (by omega))]
      refine openBehindM (s := 0) hk hw h2 (j := i + 1) (by omega) (by omega) _ ?_
      have hs := sO_lt hw (i + 1)
      have hnx := ih (i + 1) (by omega) (by omega)
      show if nI (sO ts (i + 1)) = 0 then _ else _
      by_cases c0 : sO ts (i + 1) = 0
      · rw [if_pos ((n0_n hs).mpr c0)]
        have ew : wst ts th (i + 1) = wst ts th i := by
          show (if _ then _ else _) = _
          rw [if_neg (fun q => q.1 c0)]
        rw [ew] at hnx
        intro v1 e1
        subst e1
        rw [nI_1]
        exact hnx
      · rw [if_neg (fun q => c0 ((n0_n hs).mp q))]
        refine ⟨vp_in_nI he (by decide), ?_⟩
        rw [nI_clamp (by omega), h3]
        show if nI (sO ts (i + 1)) &&& (nI th ^^^ (-1)) = 0 then _ else _
        by_cases c1 : sO ts (i + 1) &&& (1023 ^^^ th) = 0
        · rw [if_pos ((and0_n hs hth).mpr c1)]
          have hle := wst_le ts th i
          have ew : wst ts th (i + 1) = ((wst ts th i).1 + 1, (if (wst ts th i).1 = 0 then i + 1 else (wst ts th i).2.1), i + 1) := by
            show (if _ then _ else _) = _
            rw [if_pos ⟨c0, c1⟩]
          rw [ew] at hnx
          simp only [fl_s] at hnx
          intro v9 e9
          subst e9
          rw [nI_1]
          by_cases c2 : (wst ts th i).1 = 0
          · rw [if_pos c2] at hnx
            rw [c2] at hnx ⊢
            rw [if_pos (show fl 0 (wst ts th i).2.1 = -2 from rfl)]
            intro v1 e1
            subst e1
            rw [nI_1]
            exact hnx
          · rw [if_neg c2] at hnx
            have ef : fl (wst ts th i).1 (wst ts th i).2.1 = nI (wst ts th i).2.1 := if_neg c2
            rw [ef, if_neg (fun q => by
              have h9 := congrArg Int32.toInt q
              rw [nI_toInt (by omega)] at h9
              have : (-2 : Int32).toInt = -2 := by decide
              omega)]
            intro v1 e1
            subst e1
            rw [nI_1]
            exact hnx
        · rw [if_neg (fun q => c1 ((and0_n hs hth).mp q))]
          have ew : wst ts th (i + 1) = wst ts th i := by
            show (if _ then _ else _) = _
            rw [if_neg (fun q => c1 q.2)]
          rw [ew] at hnx
          intro v1 e1
          subst e1
          rw [nI_1]
          exact hnx
