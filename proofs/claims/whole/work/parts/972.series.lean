/-! series(), the class -/
theorem nI_div {a b : Nat} (ha : a < 2 ^ 31) (hb : b < 2 ^ 31) : nI a / nI b = nI (a / b) := by
  have h3 : a / b ≤ a := Nat.div_le_self _ _
  apply Int32.toInt_inj.mp
  rw [Int32.toInt_div, nI_toInt ha, nI_toInt hb, nI_toInt (by omega), ← Int.ofNat_tdiv]
  have h4 : ((a / b : Nat) : Int) < ((2 ^ 31 : Nat) : Int) := Int.ofNat_lt.mpr (Nat.lt_of_le_of_lt h3 ha)
  have h5 : (0 : Int) ≤ ((a / b : Nat) : Int) := Int.natCast_nonneg _
  generalize ((a / b : Nat) : Int) = z at h4 h5 ⊢
  exact Int.bmod_eq_of_le (by omega) (by omega)
theorem max_nn {a b : Nat} (ha : a < 2 ^ 31) (hb : b < 2 ^ 31) : (if nI a < nI b then nI b else nI a) = nI (max a b) := by
  by_cases q : a < b
  · rw [if_pos (nI_lt q hb), Nat.max_eq_right (by omega)]
  · rw [if_neg (nI_nlt (by omega) ha), Nat.max_eq_left (by omega)]
def plk (f : Nat → List (List Nat)) (left : Nat) : Nat → Nat → List (List Nat)
  | 0, _ => []
  | m + 1, k => (if left.testBit k = true then (f (left &&& (1023 ^^^ 2 ^ k))).map (k :: ·) else []) ++ plk f left m (k + 1)
def plf : Nat → Nat → List (List Nat)
  | 0, _ => [[]]
  | f + 1, left => if left = 0 then [[]] else plk (plf f) left 6 0
def oTn (mo : Nat × Nat) (c : Nat) : Nat × Nat := (max mo.1 (pc (trn mo.2 c)), trn mo.2 c)
def oSt (S : Nat → List Nat) (mo : Nat × Nat) (k : Nat) : Nat × Nat := (S k).foldl oTn mo
def evS (S : Nat → List Nat) (row : List Nat) : Nat × Nat := row.foldl (oSt S) (0, 0)
abbrev xB : Type := Option (Nat × Nat × List Nat)
def updE (ev : List Nat → Nat × Nat) (b : xB) (row : List Nat) : xB :=
  match b with
  | none => some ((ev row).1, pc (ev row).2, row)
  | some (m, e, r) => if (ev row).1 < m ∨ ((ev row).1 = m ∧ pc (ev row).2 < e) then some ((ev row).1, pc (ev row).2, row) else some (m, e, r)
def bM (b : xB) : Nat := match b with | none => 11 | some (m, _, _) => m
def bE (b : xB) : Nat := match b with | none => 11 | some (_, e, _) => e
def bR (b : xB) : List Nat := match b with | none => [] | some (_, _, r) => r
def okB (b : xB) : Prop := bM b ≤ 11 ∧ bE b ≤ 11 ∧ (bR b).length ≤ 5
theorem oTn_w {mo : Nat × Nat} (h : mo.1 ≤ 10 ∧ mo.2 < 1024) {c : Nat} (hc : c < 22) : (oTn mo c).1 ≤ 10 ∧ (oTn mo c).2 < 1024 ∧ mo.1 ≤ (oTn mo c).1 := by
  have h1 := trn_lt hc h.2
  have h2 := pc_le h1
  unfold oTn
  dsimp only
  omega
theorem oTs_w {L : List Nat} (hL : ∀ c, c ∈ L → c < 22) : ∀ {mo : Nat × Nat} (_ : mo.1 ≤ 10 ∧ mo.2 < 1024), (L.foldl oTn mo).1 ≤ 10 ∧ (L.foldl oTn mo).2 < 1024 ∧ mo.1 ≤ (L.foldl oTn mo).1 := by
  induction L with
  | nil => intro mo h; exact ⟨h.1, h.2, Nat.le_refl _⟩
  | cons c L ih =>
    intro mo h
    have h1 := oTn_w h (hL c (List.mem_cons_self ..))
    have h2 := ih (fun d hd => hL d (List.mem_cons_of_mem _ hd)) ⟨h1.1, h1.2.1⟩
    exact ⟨h2.1, h2.2.1, Nat.le_trans h1.2.2 h2.2.2⟩
theorem oRow_w {S : Nat → List Nat} (hw : ∀ k, wfS (S k)) {row : List Nat} : ∀ {mo : Nat × Nat} (_ : mo.1 ≤ 10 ∧ mo.2 < 1024), (row.foldl (oSt S) mo).1 ≤ 10 ∧ (row.foldl (oSt S) mo).2 < 1024 ∧ mo.1 ≤ (row.foldl (oSt S) mo).1 := by
  induction row with
  | nil => intro mo h; exact ⟨h.1, h.2, Nat.le_refl _⟩
  | cons c L ih =>
    intro mo h
    have h1 := oTs_w (wfS_mem (hw c)) h
    have h2 := ih (mo := oSt S mo c) ⟨h1.1, h1.2.1⟩
    exact ⟨h2.1, h2.2.1, Nat.le_trans h1.2.2 h2.2.2⟩
theorem evS_w {S : Nat → List Nat} (hw : ∀ k, wfS (S k)) (row : List Nat) : (evS S row).1 ≤ 10 ∧ (evS S row).2 < 1024 := by
  have := oRow_w hw (row := row) (mo := (0, 0)) ⟨by omega, by omega⟩
  exact ⟨this.1, this.2.1⟩
/-- what has been opened too often already comes to nothing -/
theorem prune {S : Nat → List Nat} (hw : ∀ k, wfS (S k)) {b : xB} (ob : bM b ≤ 11) {pre : List Nat} (h : bM b < (evS S pre).1) : ∀ L : List (List Nat), L.foldl (fun b r => updE (evS S) b (pre ++ r)) b = b := by
  have h1 := evS_w hw pre
  intro L
  induction L with
  | nil => rfl
  | cons r L ih =>
    have : updE (evS S) b (pre ++ r) = b := by
      match b with
      | none => exfalso; have : (11 : Nat) < (evS S pre).1 := h; omega
      | some (m, e, w) =>
        have h2 : m < (evS S pre).1 := h
        have h3 : (evS S pre).1 ≤ (evS S (pre ++ r)).1 := by
          unfold evS
          rw [List.foldl_append]
          exact (oRow_w hw (row := r) h1).2.2
        unfold updE
        dsimp only
        rw [if_neg (by omega)]
    rw [List.foldl_cons, this]
    exact ih
/-- the class's search for a row -/
def SB (C0 : xMem) (b : xB) (C : xMem) : Prop := (∀ c i, ¬ ((c = 86 ∧ (i = 2 ∨ i = 3)) ∨ c = 87 ∨ c = 88) → gi C c i = gi C0 c i) ∧ gi C 86 2 = nI (bM b) ∧ gi C 86 3 = nI (bE b) ∧ ∀ i, i < (bR b).length → gi C 88 i = nI ((bR b).getD i 0)
def PF (pre : List Nat) (C : xMem) : Prop := ∀ i, i < pre.length → gi C 87 i = nI (pre.getD i 0)
theorem cpyok5 : cpyok 0 0 5 5 5 = True := eq_true ⟨by decide, by decide, by decide, by decide, by decide⟩
theorem updE_ok {S : Nat → List Nat} (hw : ∀ k, wfS (S k)) {b : xB} (ob : okB b) {row : List Nat} (hr : row.length ≤ 5) : okB (updE (evS S) b row) := by
  have h1 := evS_w hw row
  have h2 := pc_le h1.2
  match b with
  | none => exact ⟨by show (evS S row).1 ≤ 11; omega, by show pc (evS S row).2 ≤ 11; omega, hr⟩
  | some (m, e, w) =>
    unfold updE
    dsimp only
    split
    · exact ⟨by show (evS S row).1 ≤ 11; omega, by show pc (evS S row).2 ≤ 11; omega, hr⟩
    · exact ob
theorem rateC {S : Nat → List Nat} (hw : ∀ k, wfS (S k)) {C0 C : xMem} {b : xB} (ob : okB b) (hB : SB C0 b C) {pre : List Nat} (hp5 : pre.length ≤ 5) (hP : PF pre C) (post : xMem → Prop) (hp : ∀ C', SB C0 (updE (evS S) b pre) C' → PF pre C' → post C') : wX8_rate (nI (evS S pre).2) (nI (evS S pre).1) C post := by
  have h1 := evS_w hw pre
  have h2 := pc_le h1.2
  obtain ⟨o1, o2, o3⟩ := ob
  unfold wX8_rate
  rw [bitCount_eq, bc_n h1.2, hB.2.1]
  have go : updE (evS S) b pre = some ((evS S pre).1, pc (evS S pre).2, pre) → wX8_rate_29 post (nI (evS S pre).1) (nI (pc (evS S pre).2)) C := by
    intro e
    unfold wX8_rate_29
    intro M1 e1 M2 e2
    refine ⟨cpyok5 ▸ trivial, ?_⟩
    intro M4 e4
    subst e1; subst e2; subst e4
    refine hp _ ?_ ?_
    · rw [e]
      refine ⟨fun c i q => ?_, ?_, ?_, fun i hi => ?_⟩
      · rw [gcpy_c (by omega), gi_si, if_neg (by omega), gi_si, if_neg (by omega)]; exact hB.1 c i q
      · rw [gcpy_c (by omega), gi_si, if_neg (by omega), gi_si, if_pos ⟨rfl, rfl⟩]; rfl
      · rw [gcpy_c (by omega), gi_si, if_pos ⟨rfl, rfl⟩]; rfl
      · have hi' : i < pre.length := hi
        rw [show (5 : Int32) = nI 5 from rfl, gcpy _ _ _ _ _ _ (by decide), if_pos ⟨rfl, by omega⟩, gi_si, if_neg (by omega), gi_si, if_neg (by omega)]
        exact hP i hi'
    · intro i hi
      rw [gcpy_c (by omega), gi_si, if_neg (by omega), gi_si, if_neg (by omega)]; exact hP i hi
  match b with
  | none =>
    rw [if_pos (nI_lt (by show (evS S pre).1 < 11; omega) (by show (11 : Nat) < _; omega))]
    exact go rfl
  | some (m, e, w) =>
    have o1' : m ≤ 11 := o1
    have o2' : e ≤ 11 := o2
    show if nI (evS S pre).1 < nI m then _ else _
    by_cases q1 : (evS S pre).1 < m
    · rw [if_pos (nI_lt q1 (by omega))]
      exact go (if_pos (Or.inl q1))
    rw [if_neg (nI_nlt (by omega) (by omega))]
    show if nI (evS S pre).1 = nI m then _ else _
    by_cases q2 : (evS S pre).1 = m
    · rw [if_pos (congrArg nI q2), hB.2.2.1]
      show if nI e ≤ nI (pc (evS S pre).2) then _ else _
      by_cases q3 : pc (evS S pre).2 < e
      · rw [if_neg (nI_ge q3 (by omega))]
        exact go (if_pos (Or.inr ⟨q2, q3⟩))
      · rw [if_pos (nI_le (by omega) (by omega))]
        have : updE (evS S) (some (m, e, w)) pre = some (m, e, w) := if_neg (by omega)
        exact hp C (by rw [this]; exact hB) hP
    · rw [if_neg (fun q => q2 ((nI_eq (by omega) (by omega)).mp q))]
      have : updE (evS S) (some (m, e, w)) pre = some (m, e, w) := if_neg (by omega)
      exact hp C (by rw [this]; exact hB) hP

theorem wfS_c {ts : List Nat} (hw : wfS ts) {i : Nat} (hi : i < ts.length) : ts.getD i 0 < 22 := hw.2 i hi
theorem evS_app (S : Nat → List Nat) (pre : List Nat) (k : Nat) : evS S (pre ++ [k]) = oSt S (evS S pre) k := by
  unfold evS
  rw [List.foldl_append]
  rfl
set_option maxRecDepth 20000 in
theorem pc_rm : ∀ left < 64, ∀ k < 6, left.testBit k = true → pc (left &&& (1023 ^^^ 2 ^ k)) + 1 = pc left := by decide +kernel
theorem pc_00 : ∀ left < 64, pc left = 0 → left = 0 := by decide +kernel
theorem plk_0 (f : Nat → List (List Nat)) : ∀ m k, plk f 0 m k = [] := by
  intro m
  induction m with
  | zero => intro k; rfl
  | succ m ih => intro k; unfold plk; rw [Nat.zero_testBit, if_neg (by decide), ih, List.nil_append]
theorem fold_pre {S : Nat → List Nat} (pre : List Nat) (k : Nat) (L : List (List Nat)) (b : xB) : (L.map (k :: ·)).foldl (fun b r => updE (evS S) b (pre ++ r)) b = L.foldl (fun b r => updE (evS S) b ((pre ++ [k]) ++ r)) b := by
  rw [List.foldl_map]
  congr 1
  funext b r
  rw [List.append_assoc]
  rfl
theorem fold_okB {S : Nat → List Nat} (hw : ∀ k, wfS (S k)) {pre : List Nat} {L : List (List Nat)} : (∀ r, r ∈ L → (pre ++ r).length ≤ 5) → ∀ {b : xB}, okB b → okB (L.foldl (fun b r => updE (evS S) b (pre ++ r)) b) := by
  induction L with
  | nil => intro _ b ob; exact ob
  | cons r L ih =>
    intro h b ob
    exact ih (fun q hq => h q (List.mem_cons_of_mem _ hq)) (updE_ok hw ob (h r (List.mem_cons_self ..)))
theorem pl_len : ∀ d left, left < 64 → (∀ r, r ∈ plf d left → r.length ≤ pc left) := by
  intro d
  induction d with
  | zero => intro left _ r hr; rw [List.mem_singleton.mp hr]; exact Nat.zero_le _
  | succ d ih =>
    intro left hl r hr
    unfold plf at hr
    by_cases z : left = 0
    · rw [if_pos z] at hr; rw [List.mem_singleton.mp hr]; exact Nat.zero_le _
    · rw [if_neg z] at hr
      have : ∀ m k, k + m ≤ 6 → r ∈ plk (plf d) left m k → r.length ≤ pc left := by
        intro m
        induction m with
        | zero => intro k _ q; cases q
        | succ m ihm =>
          intro k hk q
          unfold plk at q
          rcases List.mem_append.mp q with q | q
          · by_cases t : left.testBit k = true
            · rw [if_pos t] at q
              obtain ⟨r', h1, h2⟩ := List.mem_map.mp q
              have h3 := ih (left &&& (1023 ^^^ 2 ^ k)) (Nat.lt_of_le_of_lt Nat.and_le_left hl) r' h1
              have h4 := pc_rm left hl k (by omega) t
              rw [← h2]
              show r'.length + 1 ≤ _
              omega
            · rw [if_neg t] at q; cases q
          · exact ihm (k + 1) (by omega) q
      exact this 6 0 (by omega) hr
/-- the class's place, over the rows that are left -/
theorem placeC {S : Nat → List Nat} (hw : ∀ k, wfS (S k)) {C0 : xMem} (hS : ∀ k, k < 6 → SC (S k) k C0) : ∀ (d left : Nat) (pre : List Nat) (b : xB) (C : xMem) (post : xMem → Prop), left < 64 → pc left ≤ d → pre.length + pc left ≤ 5 → okB b → SB C0 b C → PF pre C → (∀ C', SB C0 ((plf d left).foldl (fun b r => updE (evS S) b (pre ++ r)) b) C' → PF pre C' → post C') → wX8_place (d + 1) (nI pre.length) (nI left) (nI (evS S pre).2) (nI (evS S pre).1) C post := by
  have frS : ∀ {b C}, SB C0 b C → ∀ k, k < 6 → SC (S k) k C := by
    intro b C hB k hk
    obtain ⟨s1, s2, s3, s4, s5⟩ := hS k hk
    exact ⟨by rw [hB.1 _ _ (by omega)]; exact s1, fun i hi => by rw [hB.1 _ _ (by omega)]; exact s2 i hi, by rw [hB.1 _ _ (by omega)]; exact s3, by rw [hB.1 _ _ (by omega)]; exact s4, by rw [hB.1 _ _ (by omega)]; exact s5⟩
  have loop0 : ∀ (rec : Int32 → Int32 → Int32 → Int32 → xMem → (xMem → Prop) → Prop) (post : xMem → Prop) (x2 x4 x5 : Int32) (C : xMem), post C → ∀ m k, k + m = 6 → wX8_place_at_15 rec post (m + 1) x2 (nI 0) x4 x5 (nI k) C := by
    intro rec post x2 x4 x5 C hp m
    induction m with
    | zero =>
      intro k hk
      have : k = 6 := by omega
      subst this
      rw [wX8_place_at_15]; dsimp only
      rw [if_pos (show (6 : Int32) ≤ nI 6 by decide)]
      exact hp
    | succ m ihm =>
      intro k hk
      have hk6 : k < 6 := by omega
      rw [wX8_place_at_15]; dsimp only
      rw [if_neg (show ¬ (6 : Int32) ≤ nI k from nI_ge hk6 (by decide))]
      by_cases q : 5 ≤ x2
      · rw [if_pos q]; exact hp
      rw [if_neg q]
      refine ⟨vl hk6 (by decide), ?_⟩
      rw [hasC_n (by omega) (by omega), b2i_f (by rw [Nat.zero_testBit]; decide), if_pos rfl]
      unfold wX8_place_at_147
      intro v1 e1
      subst e1
      rw [nI_1]
      exact ihm (k + 1) (by omega)
  intro d
  induction d with
  | zero =>
    intro left pre b C post hl hd h5 ob hB hP hp
    have z := pc_00 left hl (by omega)
    subst z
    show wX8_place_at _ _ _ _ _ _ _
    unfold wX8_place_at
    rw [if_pos (show nI 0 = 0 from rfl)]
    refine rateC hw ob hB (by omega) hP _ (fun C' hB' hP' => ?_)
    have hp' := hp C' (by show SB C0 (updE (evS S) b (pre ++ [])) C'; rw [List.append_nil]; exact hB') hP'
    unfold wX8_place_at_12
    exact ⟨7, loop0 _ _ _ _ _ _ hp' 6 0 rfl⟩
  | succ d ih =>
    intro left pre b C post hl hd h5 ob hB hP hp
    show wX8_place_at _ _ _ _ _ _ _
    unfold wX8_place_at
    by_cases z : left = 0
    · subst z
      rw [if_pos (show nI 0 = 0 from rfl)]
      refine rateC hw ob hB (by omega) hP _ (fun C' hB' hP' => ?_)
      have hp' := hp C' (by show SB C0 (updE (evS S) b (pre ++ [])) C'; rw [List.append_nil]; exact hB') hP'
      unfold wX8_place_at_12
      exact ⟨7, loop0 _ _ _ _ _ _ hp' 6 0 rfl⟩
    rw [if_neg (fun q => z ((n0_n (by omega)).mp q))]
    have hpc : 1 ≤ pc left := by
      rcases Nat.eq_zero_or_pos (pc left) with q | q
      · exact absurd (pc_00 left hl q) z
      · exact q
    have hp5 : pre.length < 5 := by omega
    have hev := evS_w hw pre
    rw [show plf (d + 1) left = plk (plf d) left 6 0 from if_neg z] at hp
    unfold wX8_place_at_12
    refine ⟨7, ?_⟩
    have key : ∀ (m k : Nat) (b : xB) (C : xMem), k + m = 6 → okB b → SB C0 b C → PF pre C → (∀ C', SB C0 ((plk (plf d) left m k).foldl (fun b r => updE (evS S) b (pre ++ r)) b) C' → PF pre C' → post C') → wX8_place_at_15 (wX8_place (d + 1)) post (m + 1) (nI pre.length) (nI left) (nI (evS S pre).2) (nI (evS S pre).1) (nI k) C := by
      intro m
      induction m with
      | zero =>
        intro k b C hk ob hB hP hp
        have : k = 6 := by omega
        subst this
        rw [wX8_place_at_15]; dsimp only
        rw [if_pos (show (6 : Int32) ≤ nI 6 by decide)]
        exact hp C hB hP
      | succ m ihm =>
        intro k b C hk ob hB hP hp
        have hk6 : k < 6 := by omega
        rw [wX8_place_at_15]; dsimp only
        rw [if_neg (show ¬ (6 : Int32) ≤ nI k from nI_ge hk6 (by decide)), if_neg (show ¬ (5 : Int32) ≤ nI pre.length from nI_ge hp5 (by decide))]
        refine ⟨vl hk6 (by decide), ?_⟩
        rw [hasC_n (by omega) (by omega)]
        unfold plk at hp
        by_cases t : left.testBit k = true
        rotate_left
        · rw [if_neg t, List.nil_append] at hp
          rw [b2i_f t, if_pos rfl]
          unfold wX8_place_at_147
          intro v1 e1
          subst e1
          rw [nI_1]
          exact ihm (k + 1) b C (by omega) ob hB hP hp
        rw [if_pos t, List.foldl_append, fold_pre] at hp
        rw [b2i_t t, if_neg (by decide), nI_clamp (by omega)]
        obtain ⟨s1, s2, s3, s4, s5⟩ := frS hB k hk6
        have hwk := hw k
        have hl72 := hwk.1
        have hrm := pc_rm left hl k hk6 t
        have hlt : left &&& (1023 ^^^ 2 ^ k) < 64 := Nat.lt_of_le_of_lt Nat.and_le_left hl
        have ef : evS S (pre ++ [k]) = (S k).foldl oTn (evS S pre) := evS_app S pre k
        have hev2 := evS_w hw (pre ++ [k])
        -- behind the turns of story k
        have fin : ∀ mx : Nat, (mx = (evS S (pre ++ [k])).1 ∨ (bM b < mx ∧ mx ≤ (evS S (pre ++ [k])).1)) → ∀ x9 : Int32, ((mx = (evS S (pre ++ [k])).1 ∧ x9 = nI (evS S (pre ++ [k])).2) ∨ bM b < mx) → wX8_place_at_110 (wX8_place (d + 1)) (wX8_place_at_15 (wX8_place (d + 1)) post (m + 1)) post (nI pre.length) (nI left) (nI (evS S pre).2) (nI (evS S pre).1) (nI k) (nI mx) x9 C := by
          intro mx h1 x9 h2
          unfold wX8_place_at_110
          refine ⟨vl hp5 (by decide), ?_⟩
          intro M2 e2
          subst e2
          rw [nI_clamp (by omega)]
          have hB2 : SB C0 b (si C 87 pre.length (nI k)) := by
            refine ⟨fun c i q => ?_, ?_, ?_, fun i hi => ?_⟩
            · rw [gi_si, if_neg (by omega)]; exact hB.1 c i q
            · rw [gi_si, if_neg (by omega)]; exact hB.2.1
            · rw [gi_si, if_neg (by omega)]; exact hB.2.2.1
            · rw [gi_si, if_neg (by omega)]; exact hB.2.2.2 i hi
          have hP2 : PF (pre ++ [k]) (si C 87 pre.length (nI k)) := by
            intro i hi
            rw [List.length_append] at hi
            have hi' : i < pre.length + 1 := hi
            rw [gi_si]
            by_cases q : i = pre.length
            · rw [if_pos ⟨rfl, q⟩, q, List.getD_eq_getElem?_getD, List.getElem?_append_right (Nat.le_refl _), Nat.sub_self]; rfl
            · rw [if_neg (by omega), List.getD_eq_getElem?_getD, List.getElem?_append_left (by omega), ← List.getD_eq_getElem?_getD]
              exact hP i (by omega)
          have hP3 : ∀ C', PF (pre ++ [k]) C' → PF pre C' := by
            intro C' q i hi
            have := q i (by rw [List.length_append]; omega)
            rw [List.getD_eq_getElem?_getD, List.getElem?_append_left (by omega), ← List.getD_eq_getElem?_getD] at this
            exact this
          have ob1 := ob.1
          rw [hB2.2.1]
          by_cases q : bM b < mx
          · rw [if_pos (nI_lt q (by omega))]
            rw [prune hw ob.1 (by omega)] at hp
            unfold wX8_place_at_147
            intro v1 e1
            subst e1
            rw [nI_1]
            exact ihm (k + 1) b _ (by omega) ob hB2 (hP3 _ hP2) hp
          · rw [if_neg (nI_nlt (by omega) (by omega))]
            rcases h2 with ⟨h2, h3⟩ | h2
            rotate_left
            · exact absurd h2 q
            have e3 : nI left &&& ((1 : Int32) <<< (nI k &&& 31) ^^^ (-1)) = nI (left &&& (1023 ^^^ 2 ^ k)) := by
              rw [shl_L (by omega), andnot_n (by omega) (Nat.lt_of_lt_of_le (Nat.pow_lt_pow_right (by omega) hk6) (by decide))]
            have e4 : nI pre.length + 1 = nI (pre ++ [k]).length := by rw [nI_1, List.length_append]; rfl
            rw [h3, h2, e3, e4]
            refine ih (left &&& (1023 ^^^ 2 ^ k)) (pre ++ [k]) b _ _ hlt (by omega) (by rw [List.length_append]; show pre.length + 1 + _ ≤ 5; omega) ob hB2 hP2 (fun C' hB' hP' => ?_)
            unfold wX8_place_at_147
            intro v1 e1
            subst e1
            rw [nI_1]
            refine ihm (k + 1) _ C' (by omega) (fold_okB hw (fun r hr => ?_) ob) hB' (hP3 _ hP') hp
            have := pl_len d _ hlt r hr
            rw [List.length_append, List.length_append]
            show pre.length + 1 + _ ≤ 5
            omega
        have inner : ∀ (n i : Nat), i + n = (S k).length → wX8_place_at_58 (wX8_place (d + 1)) (wX8_place_at_15 (wX8_place (d + 1)) post (m + 1)) post (n + 1) (nI pre.length) (nI left) (nI (evS S pre).2) (nI (evS S pre).1) (nI k) (3 + 2 * k) (nI (((S k).take i).foldl oTn (evS S pre)).1) (nI (((S k).take i).foldl oTn (evS S pre)).2) (nI i) C := by
          intro n
          induction n with
          | zero =>
            intro i hi
            rw [wX8_place_at_58]; dsimp only
            rw [s1, if_pos (nI_le (by omega) (by omega)), List.take_of_length_le (by omega), ← ef]
            exact fin _ (Or.inl rfl) _ (Or.inl ⟨rfl, rfl⟩)
          | succ n ihn =>
            intro i hi
            have hi2 : i < (S k).length := by omega
            have hmi := oTs_w (L := (S k).take i) (fun c hc => wfS_mem hwk c (List.mem_of_mem_take hc)) hev
            rw [wX8_place_at_58]; dsimp only
            rw [s1, if_neg (nI_ge hi2 (by omega)), hB.2.1]
            have ob1 := ob.1
            have mono : (((S k).take i).foldl oTn (evS S pre)).1 ≤ (evS S (pre ++ [k])).1 := by
              rw [ef]
              have e5 : (S k).foldl oTn (evS S pre) = ((S k).drop i).foldl oTn (((S k).take i).foldl oTn (evS S pre)) := by rw [← List.foldl_append, List.take_append_drop]
              rw [e5]
              exact (oTs_w (L := (S k).drop i) (fun c hc => wfS_mem hwk c (List.mem_of_mem_drop hc)) ⟨hmi.1, hmi.2.1⟩).2.2
            by_cases q : bM b < (((S k).take i).foldl oTn (evS S pre)).1
            · rw [if_pos (nI_lt q (by omega))]
              exact fin _ (Or.inr ⟨q, mono⟩) _ (Or.inr q)
            · rw [if_neg (nI_nlt (by omega) (by omega))]
              refine ⟨vl (by omega) (by decide), ?_⟩
              have hc := wfS_c hwk hi2
              rw [nI_clamp (by omega), s2 i hi2, behindTurn_eq, bt_n hc hmi.2.1, bitCount_eq, bc_n (trn_lt hc hmi.2.1), max_eq]
              intro v10 e10
              subst e10
              rw [nI_1]
              have hn := ihn (i + 1) (by omega)
              have e6 : ((S k).take (i + 1)).foldl oTn (evS S pre) = oTn (((S k).take i).foldl oTn (evS S pre)) ((S k).getD i 0) := by
                rw [List.take_succ, List.foldl_append, List.getElem?_eq_getElem hi2, List.getD_eq_getElem?_getD, List.getElem?_eq_getElem hi2]; rfl
              rw [e6] at hn
              have hpc2 := pc_le (trn_lt hc hmi.2.1)
              rw [max_nn (by omega) (by omega)]
              exact hn
        exact ⟨(S k).length + 1, inner (S k).length 0 (by omega)⟩
    exact key 6 0 b C rfl ob hB hP hp
