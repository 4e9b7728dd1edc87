/-! story(), the class's turns -/
theorem signAny {C : xMem} (h2 : gi C 15 2 = 1) (post : Int32 → xMem → Prop) (h : ∀ r, post r C) : wX10_sign C post := by
  unfold wX10_sign
  by_cases c0 : gi C 15 4 < 0
  · rw [if_pos c0]; exact h _
  rw [if_neg c0]
  by_cases c1 : gi C 15 3 ≤ gi C 15 4
  · rw [if_pos c1]; exact h _
  rw [if_neg c1, h2]
  refine ⟨by decide, ?_⟩
  rw [show lC ((1 : Int32).toNatClampNeg) = 260 by decide]
  by_cases c2 : nI 260 ≤ gi C 15 4
  · rw [if_pos c2]; exact h _
  rw [if_neg c2]
  have i0 : ¬ (gi C 15 4).toInt < 0 := fun q => c0 (Int32.lt_iff_toInt_lt.mpr (by rw [zi0]; exact q))
  have i1 : ¬ 260 ≤ (gi C 15 4).toInt := fun q => c2 (Int32.le_iff_toInt_le.mpr (by rw [nI_toInt (by decide)]; exact q))
  obtain ⟨k, hk, e⟩ := at_n (a := gi C 15 4) (n := 259) (by omega) (by decide)
  rw [e]
  exact ⟨by decide, vl (by omega) (by decide), h _⟩
theorem PC_pos {B : Nat → Nat} {N : Nat} {C0 : xMem} {p : Nat} {ts : List Nat} {C : xMem} (h : PC B N C0 p ts C) : PC B N C0 (p + 1) ts (si C 15 4 (gi C 15 4 + 1)) := by
  obtain ⟨f, g1, g2, g3, g4, g5, g6⟩ := h
  exact ⟨fun c i z1 z2 => by rw [gi_si_c _ z1]; exact f c i z1 z2, by rw [g_i (by decide)]; exact g1, by rw [g_i (by decide)]; exact g2, by rw [g_i (by decide)]; exact g3, by rw [g_same, g4, nI_1], by rw [g_i (by decide)]; exact g5, fun i hi => by rw [gi_si_c _ (by decide)]; exact g6 i hi⟩
theorem stp_opn {B : Nat → Nat} {N p : Nat} {ts : List Nat} {stk : List (Nat × Nat × Nat)} {tl : Bool} (h1 : stk = [] → p < N) (h2 : ¬ (stk ≠ [] ∧ hr B N p = 41 ∧ tl = true)) : stp B N (p, ts, stk, tl, 0) = opn B N p ts stk tl := by
  unfold stp
  dsimp only
  rw [if_neg (by decide)]
  match stk with
  | [] =>
    dsimp only
    rw [if_neg (by have := h1 rfl; omega)]
  | (st, tm, at0) :: r =>
    dsimp only
    rw [if_neg (fun q => h2 ⟨(by intro z; cases z), q⟩)]
theorem sgn41 {B : Nat → Nat} {N p : Nat} (hB : ∀ i, i < N → B i < 256) (v : Nat) (hv : 0 < v ∧ v < 256) : (sgn B N p = nI v) ↔ hr B N p = v := by
  unfold sgn hr
  by_cases q : p < N
  · rw [if_pos q, if_pos q]
    have := hB p q
    exact nI_eq (by omega) (by omega)
  · rw [if_neg q, if_neg q]
    constructor
    · intro z
      have := congrArg Int32.toInt z
      rw [nI_toInt (by omega), z_m1] at this
      omega
    · intro z; omega
abbrev gdP (B : Nat → Nat) (N : Nat) (C0 : xMem) (s : xP) (p : Nat) (stk : List (Nat × Nat × Nat)) (post : xMem → Prop) : Prop := ∀ n p' ts', itP B N s n = (p', ts', stk, true, 0) → okQ N p' ts' stk → p < p' → ∀ C', PC B N C0 p' ts' C' → post C'
abbrev bdP (B : Nat → Nat) (N : Nat) (C0 : xMem) (s : xP) (post : xMem → Prop) : Prop := ∀ n f, (itP B N s n).2.2.2.2 = f → f < 0 → ∀ C', FC C0 f C' → post C'
def turnP (B : Nat → Nat) (N : Nat) (C0 : xMem) (rec : Int32 → xMem → (xMem → Prop) → Prop) (stk : List (Nat × Nat × Nat)) : Prop := ∀ p ts tl C post, okQ N p ts stk → PC B N C0 p ts C → (stk = [] → p < N) → ¬ (stk ≠ [] ∧ hr B N p = 41 ∧ tl = true) → gdP B N C0 (p, ts, stk, tl, 0) p stk post → bdP B N C0 (p, ts, stk, tl, 0) post → wX10_readTurn rec (nI stk.length) C post
theorem loopT {B : Nat → Nat} {N : Nat} {C0 : xMem} (hT : tapeC B N C0) {rec : Int32 → xMem → (xMem → Prop) → Prop} {stk : List (Nat × Nat × Nat)} (hl2 : stk.length ≤ 2) (T : turnP B N C0 rec stk) (s0 : xP) (post : xMem → Prop) (p0 : Nat) (hg : ∀ n p' ts', itP B N s0 n = (p', ts', stk, true, 0) → okQ N p' ts' stk → p0 < p' → (stk = [] → N ≤ p') → (stk ≠ [] → hr B N p' = 41) → ∀ C', PC B N C0 p' ts' C' → post C') (hb : bdP B N C0 s0 post) : ∀ (m x3 p : Nat) (ts : List Nat) (tl : Bool) (C : xMem) (n0 : Nat), x3 + m = 81 → x3 + min stk.length 1 ≤ p → p0 ≤ p → itP B N s0 n0 = (p, ts, stk, tl, 0) → okQ N p ts stk → PC B N C0 p ts C → (stk = [] → p < N) → ¬ (stk ≠ [] ∧ hr B N p = 41 ∧ tl = true) → wX10_readTurns_at_4 rec post m (nI stk.length) 1 (nI x3) C := by
  have hN := hT.1
  have hB := fun i hi => (hT.2 i hi).1
  intro m
  induction m with
  | zero =>
    intro x3 p ts tl C n0 h81 hx hp0 hi ok hC h1 h2
    have := ok.1
    omega
  | succ m ih =>
    intro x3 p ts tl C n0 h81 hx hp0 hi ok hC h1 h2
    have hpN := ok.1
    have hx80 : x3 < 80 := by
      match stk, h1, hx with
      | [], h1, hx => have := h1 rfl; omega
      | _ :: _, _, hx =>
        rw [List.length_cons] at hx
        omega
    have hm : ∃ m', m = m' + 1 := ⟨m - 1, by omega⟩
    rw [wX10_readTurns_at_4]; dsimp only
    rw [if_neg (show ¬ (80 : Int32) ≤ nI x3 from nI_ge hx80 (by decide)), if_neg (by decide)]
    -- what stops
    have stop : ∀ s0' C', post C' → (s0' = 1 ∨ ¬ gi C' 15 5 = 0) → wX10_readTurns_at_56 rec (wX10_readTurns_at_4 rec post m) post (nI stk.length) (nI x3) s0' C' := by
      intro s0' C' hp hs
      obtain ⟨m', em⟩ := hm
      have e75 : wX10_readTurns_at_75 rec (wX10_readTurns_at_4 rec post m) post (nI stk.length) (nI x3) 0 C' := by
        intro v1 e1
        subst e1
        rw [em, wX10_readTurns_at_4]; dsimp only
        split
        · exact hp
        · rw [if_pos rfl]; exact hp
      unfold wX10_readTurns_at_56 wX10_readTurns_at_74
      rcases hs with q | q
      · rw [q]
        split
        · rw [if_neg (by decide)]; exact e75
        · exact e75
      · rw [if_neg q]; exact e75
    refine T p ts tl C _ ok hC h1 h2 (fun n p' ts' hit ok' hlt C' hC' => ?_) (fun n f hf hf0 C' hF => ?_)
    · have hit0 : itP B N s0 (n0 + n) = (p', ts', stk, true, 0) := by rw [itP_add, hi]; exact hit
      obtain ⟨f', g1, g2, g3, g4, g5, g6⟩ := id hC'
      have hp'N := ok'.1
      have go : (stk = [] → p' < N) → (stk ≠ [] → hr B N p' ≠ 41) → wX10_readTurns_at_56 rec (wX10_readTurns_at_4 rec post m) post (nI stk.length) (nI x3) 0 C' := by
        intro k1 k2
        unfold wX10_readTurns_at_56
        rw [if_pos g5, if_pos rfl]
        intro v1 e1
        subst e1
        rw [nI_1]
        exact ih (x3 + 1) p' ts' true C' (n0 + n) (by omega) (by omega) (by omega) hit0 ok' hC' k1 (fun z => k2 z.1 z.2.1)
      by_cases c0 : stk.length = 0
      · have hnil : stk = [] := List.length_eq_zero_iff.mp c0
        rw [if_pos (by rw [c0]; decide), g4, g3]
        by_cases c1 : p' < N
        · rw [if_pos (nI_lt c1 (by omega))]
          exact go (fun _ => c1) (fun z => absurd hnil z)
        · rw [if_neg (nI_nlt (by omega) (by omega))]
          exact stop 1 C' (hg (n0 + n) p' ts' hit0 ok' (by omega) (fun _ => by omega) (fun z => absurd hnil z) C' hC') (Or.inl rfl)
      · have hnn : stk ≠ [] := fun z => c0 (by rw [z]; rfl)
        have c0' : 0 < stk.length := by omega
        rw [if_neg (show ¬ nI stk.length ≤ (0 : Int32) from nI_ge c0' (by omega))]
        refine signC hT hp'N f' g2 g3 g4 _ ?_
        have e41 := sgn41 (B := B) (N := N) (p := p') hB 41 (by omega)
        by_cases c1 : hr B N p' = 41
        · rw [if_pos (show sgn B N p' = 41 from e41.mpr c1)]
          exact stop 1 C' (hg (n0 + n) p' ts' hit0 ok' (by omega) (fun z => absurd z hnn) (fun _ => c1) C' hC') (Or.inl rfl)
        · rw [if_neg (show ¬ sgn B N p' = 41 from fun z => c1 (e41.mp z))]
          exact go (fun z => absurd z hnn) (fun _ => c1)
    · have hpost : post C' := hb (n0 + n) f (by rw [itP_add, hi]; exact hf) hf0 C' hF
      have hne := FC_ne hF
      split
      · split <;> exact stop _ C' hpost (Or.inr hne)
      · refine signAny hF.2.2.2 _ (fun r => ?_)
        split <;> exact stop _ C' hpost (Or.inr hne)
theorem turn1 {B : Nat → Nat} {N : Nat} {C0 : xMem} (hT : tapeC B N C0) {rec : Int32 → xMem → (xMem → Prop) → Prop} {stk : List (Nat × Nat × Nat)} (hl2 : stk.length ≤ 2) (R : stk.length < 2 → ∀ fr p1 ts C1 post1, okQ N p1 ts (fr :: stk) → 1 ≤ p1 → PC B N C0 p1 ts C1 → (∀ n p' ts', itP B N (p1, ts, fr :: stk, false, 0) n = (p', ts', fr :: stk, true, 0) → okQ N p' ts' (fr :: stk) → p1 < p' → hr B N p' = 41 → ∀ C', PC B N C0 p' ts' C' → post1 C') → bdP B N C0 (p1, ts, fr :: stk, false, 0) post1 → rec (nI (stk.length + 1)) C1 post1) : turnP B N C0 rec stk := by
  have hN := hT.1
  have hB := fun i hi => (hT.2 i hi).1
  intro p ts tl C post ok hC h1 h2 hg hb
  have es := stp_opn (ts := ts) h1 h2
  obtain ⟨o1, o2, o3, o4, o5⟩ := id ok
  obtain ⟨f, g1, g2, g3, g4, g5, g6⟩ := id hC
  have t1 := tmo_b B N p
  have n1 := nxt_b (B := B) (N := N) (p := p) o1
  have oks : (opn B N p ts stk tl).2.2.2.2 = 0 → okP N (opn B N p ts stk tl) := opn_ok hB ok
  have b1 : ∀ f, (opn B N p ts stk tl).2.2.2.2 = f → f < 0 → ∀ C', FC C0 f C' → post C' := fun f e h0 => hb 1 f (by show (stp B N (p, ts, stk, tl, 0)).2.2.2.2 = f; rw [es]; exact e) h0
  -- behind the digit
  have c43 : ∀ C1, PC B N C0 (nxt B N p) ts C1 → wX10_readTurn_43 rec post (nI stk.length) (nI p) (nI (tmo B N p)) C1 := by
    intro C1 hC1
    obtain ⟨f', k1, k2, k3, k4, k5, k6⟩ := id hC1
    unfold wX10_readTurn_43
    intro v1 e1
    subst e1
    refine signC hT n1.2 f' k2 k3 k4 _ ?_
    have e40 := sgn41 (B := B) (N := N) (p := nxt B N p) hB 40 (by omega)
    rw [k1]
    by_cases c1 : hr B N (nxt B N p) = 40
    · rw [if_pos (show sgn B N (nxt B N p) = 40 from e40.mpr c1)]
      have hq := hr_in (B := B) (N := N) (p := nxt B N p) (by omega)
      unfold wX10_readGroup
      by_cases c2 : stk.length < 2
      · rw [if_pos (show nI stk.length < (2 : Int32) from nI_lt c2 (by decide))]
        have eo : opn B N p ts stk tl = (nxt B N p + 1, ts, (ts.length, tmo B N p, p) :: stk, false, 0) := by
          unfold opn
          rw [if_pos c1, if_neg (by omega)]
        intro M2 e2
        subst e2
        rw [nI_1]
        have oko : okQ N (nxt B N p + 1) ts ((ts.length, tmo B N p, p) :: stk) := by
          have := oks (by rw [eo])
          rw [eo] at this
          exact this
        have i1 : ∀ n, itP B N (p, ts, stk, tl, 0) (1 + n) = itP B N (nxt B N p + 1, ts, (ts.length, tmo B N p, p) :: stk, false, 0) n := by
          intro n
          rw [itP_add]
          show itP B N (stp B N (p, ts, stk, tl, 0)) n = _
          rw [es, eo]
        refine R c2 (ts.length, tmo B N p, p) _ ts _ _ oko (by omega) (PC_pos hC1) (fun n p' ts' hit ok' hlt h41 C' hC' => ?_) (fun n f hf hf0 C' hF => ?_)
        · obtain ⟨f'', l1, l2, l3, l4, l5, l6⟩ := id hC'
          have hp' := hr_in (B := B) (N := N) (p := p') (by omega)
          rw [if_pos l5]
          refine signC hT ok'.1 f'' l2 l3 l4 _ ?_
          rw [if_pos (show sgn B N p' = 41 from (sgn41 hB 41 (by omega)).mpr h41)]
          unfold wX10_readGroup_57
          intro M1 e1
          subst e1
          have hst := (ok'.2.2.2.2 (ts.length, tmo B N p, p) (List.mem_cons_self ..)).1
          have ecl : stp B N (p', ts', (ts.length, tmo B N p, p) :: stk, true, 0) = if ts.length + (ts'.length - ts.length) * tmo B N p ≤ 72 then (p' + 1, rp ts' ts.length (tmo B N p), stk, true, 0) else (p', ts', (ts.length, tmo B N p, p) :: stk, true, fw 6 p) := by
            unfold stp
            dsimp only
            rw [if_neg (by decide), if_pos ⟨h41, rfl⟩]
          have i2 : itP B N (p, ts, stk, tl, 0) (1 + n + 1) = stp B N (p', ts', (ts.length, tmo B N p, p) :: stk, true, 0) := by
            rw [itP_add, i1, hit]
            rfl
          have ok3 := stp_ok hB (s := (p', ts', (ts.length, tmo B N p, p) :: stk, true, 0)) ok'
          refine t70C hN rec o1 (by have := ok'.2.1; omega) hst t1.1 t1.2 (PC_pos hC') post (fun hle C2 hC2 => ?_) (fun hle C2 hF => ?_)
          · rw [if_pos hle] at ecl
            refine hg (1 + n + 1) (p' + 1) _ (by rw [i2, ecl]) ?_ (by omega) C2 hC2
            have := ok3 (by rw [ecl])
            rw [ecl] at this
            exact this
          · rw [if_neg hle] at ecl
            exact hb (1 + n + 1) (fw 6 p) (by rw [i2, ecl]) (fw_n p (by omega)).2 C2 hF
        · rw [if_neg (FC_ne hF)]
          unfold wX10_readGroup_57
          intro M1 e1
          subst e1
          have hF' := FC_si hF 4 ⟨by decide, by decide⟩ (gi C' 15 4 + 1)
          exact t70F rec hF' _ _ _ post (hb (1 + n) f (by rw [i1]; exact hf) hf0 _ hF')
      · rw [if_neg (show ¬ nI stk.length < (2 : Int32) from nI_nlt (b := 2) (by omega) (by omega)), k4]
        have eo : opn B N p ts stk tl = (p, ts, stk, tl, fw 5 (nxt B N p)) := by
          unfold opn
          rw [if_pos c1, if_pos (by omega)]
        have h0 := (fw_n (nxt B N p) (by omega)).1.2
        refine refC f' k5 k2 5 _ h0 _ (fun C' hF => ?_)
        exact t70F rec hF _ _ _ post (b1 _ (by rw [eo]) h0 C' hF)
    · rw [if_neg (show ¬ sgn B N (nxt B N p) = 40 from fun z => c1 (e40.mp z))]
      refine letC hT n1.2 o2 hC1 _ (fun c e C' hC' => ?_) (fun e C' hF => ?_)
      · have hq : nxt B N p < N := by
          refine hr_in (B := B) (fun z => ?_)
          rw [z] at e
          cases e
        have el : ts.length + ((ts ++ [c]).length - ts.length) * tmo B N p = ts.length + tmo B N p := by
          rw [List.length_append, show ts.length + [c].length - ts.length = 1 by show ts.length + 1 - ts.length = 1; omega, Nat.one_mul]
        have eo : opn B N p ts stk tl = if ts.length + tmo B N p ≤ 72 then (nxt B N p + 1, rp (ts ++ [c]) ts.length (tmo B N p), stk, true, 0) else (p, ts, stk, tl, fw 6 p) := by
          unfold opn
          rw [if_neg c1, e]
        refine t70C hN rec o1 (by rw [List.length_append]; show ts.length + 1 ≤ 73; omega) (by rw [List.length_append]; omega) t1.1 t1.2 hC' post (fun hle C2 hC2 => ?_) (fun hle C2 hF => ?_)
        · rw [el] at hle
          rw [if_pos hle] at eo
          refine hg 1 (nxt B N p + 1) _ (by show stp B N (p, ts, stk, tl, 0) = _; rw [es, eo]) ?_ (by omega) C2 hC2
          have := oks (by rw [eo])
          rw [eo] at this
          exact this
        · rw [el] at hle
          rw [if_neg hle] at eo
          exact b1 _ (by rw [eo]) (fw_n p (by omega)).2 C2 hF
      · have eo : opn B N p ts stk tl = (p, ts, stk, tl, fw 1 (nxt B N p)) := by
          unfold opn
          rw [if_neg c1, e]
        exact t70F rec hF _ _ _ post (b1 _ (by rw [eo]) (fw_n _ (by omega)).1.1 C' hF)
  unfold wX10_readTurn
  intro v1 e1
  subst e1
  refine signC hT o1 f g2 g3 g4 _ ?_
  rw [g4]
  have no : ¬ isD B N p → wX10_readTurn_43 rec post (nI stk.length) (nI p) 1 C := by
    intro z
    have e1 : tmo B N p = 1 := if_neg z
    have e2 : nxt B N p = p := if_neg z
    rw [e1, e2] at c43
    exact c43 C hC
  by_cases c0 : p < N
  rotate_left
  · rw [show sgn B N p = -1 from if_neg c0, if_pos (by decide)]
    exact no (fun z => c0 z.1)
  have hb8 := hB p c0
  have e0 : sgn B N p = nI (B p) := if_pos c0
  rw [e0]
  by_cases c1 : B p < 50
  · rw [if_pos (show nI (B p) < (50 : Int32) from nI_lt c1 (by decide))]
    exact no (fun z => by have := z.2.1; omega)
  rw [if_neg (show ¬ nI (B p) < (50 : Int32) from nI_nlt (b := 50) (by omega) (by omega))]
  refine signC hT o1 f g2 g3 g4 _ ?_
  rw [e0]
  by_cases c2 : 57 < B p
  · rw [if_pos (show (57 : Int32) < nI (B p) from nI_lt c2 (by omega))]
    exact no (fun z => by have := z.2.2; omega)
  rw [if_neg (show ¬ (57 : Int32) < nI (B p) from nI_nlt (a := 57) (by omega) (by omega))]
  refine signC hT o1 f g2 g3 g4 _ ?_
  rw [e0]
  intro v10 e10 M11 e11
  have c48 : 48 ≤ B p := by omega
  rw [show nI (B p) - 48 = nI (B p - 48) from z_subl c48] at e10
  subst e10; subst e11
  have hD : isD B N p := ⟨c0, by omega, by omega⟩
  have e1 : tmo B N p = B p - 48 := if_pos hD
  have e2 : nxt B N p = p + 1 := if_pos hD
  rw [e1, e2] at c43
  exact c43 _ (PC_pos hC)
theorem turnT {B : Nat → Nat} {N : Nat} {C0 : xMem} (hT : tapeC B N C0) : ∀ d stk, stk.length ≤ 2 → 2 ≤ stk.length + d → turnP B N C0 (wX10_readTurns d) stk := by
  intro d
  induction d with
  | zero => intro stk hl hd; exact turn1 hT hl (fun h => by omega)
  | succ d ihd =>
    intro stk hl hd
    refine turn1 hT hl (fun h fr p1 ts C1 post1 ok hp1 hC hg hb => ?_)
    show wX10_readTurns_at _ _ _ _
    unfold wX10_readTurns_at
    refine ⟨81, ?_⟩
    have ll : (fr :: stk).length = stk.length + 1 := rfl
    have := loopT hT (rec := wX10_readTurns d) (stk := fr :: stk) (by omega) (ihd (fr :: stk) (by omega) (by omega)) (p1, ts, fr :: stk, false, 0) post1 p1 (fun n p' ts' hit ok' hlt _ h41 C' hC' => hg n p' ts' hit ok' hlt (h41 (by intro z; cases z)) C' hC') hb 81 0 p1 ts false C1 0 (by omega) (by rw [ll]; omega) (Nat.le_refl _) rfl ok hC (by intro z; cases z) (by intro z; exact absurd z.2.2 (by decide))
    exact this
/-- the whole reading: what it comes to -/
theorem readC {B : Nat → Nat} {N : Nat} {C : xMem} (hT : tapeC B N C) (h1 : 1 ≤ N) (post : Int32 → xMem → Prop) (hg : ∀ n p' ts', itP B N (0, [], [], false, 0) n = (p', ts', [], true, 0) → okQ N p' ts' [] → N ≤ p' → ∀ C', PC B N C p' ts' C' → post (nI ts'.length) C') (hb : ∀ n f, (itP B N (0, [], [], false, 0) n).2.2.2.2 = f → f < 0 → ∀ C', (∀ c i, c ≠ 15 → c ≠ 16 → gi C' c i = gi C c i) → post f C') : wX10_read (nI N) C post := by
  have hN := hT.1
  unfold wX10_read
  intro M1 e1
  rw [min_eq, show (if (260 : Int32) < nI N then (260 : Int32) else nI N) = nI N from if_neg (show ¬ nI 260 < _ from nI_nlt (by omega) (by omega))]
  intro M4 e4 M5 e5 M6 e6 M7 e7
  subst e1; subst e4; subst e5; subst e6; subst e7
  show wX10_readTurns_at _ _ _ _
  unfold wX10_readTurns_at
  refine ⟨81, ?_⟩
  refine loopT hT (rec := wX10_readTurns 4) (stk := []) (by decide) (turnT hT 4 [] (by decide) (by decide)) (0, [], [], false, 0) _ 0 (fun n p' ts' hit ok' hlt hN' _ C' hC' => ?_) (fun n f hf hf0 C' hF => ?_) 81 0 0 [] false _ 0 (by omega) (by decide) (Nat.le_refl _) rfl ⟨Nat.zero_le _, by decide, fun i hi => absurd hi (Nat.not_lt_zero _), by decide, fun f hf => by cases hf⟩ ?_ (fun _ => by omega) (fun z => z.1 rfl)
  · rw [if_pos hC'.2.2.2.2.2.1, hC'.2.1]
    exact hg n p' ts' hit ok' (hN' rfl) C' hC'
  · rw [if_neg (FC_ne hF), hF.2.1]
    exact hb n f hf hf0 C' hF.1
  · refine ⟨fun c i z1 z2 => by simp only [gi_si_c _ z1], ?_, ?_, ?_, ?_, ?_, fun i hi => absurd hi (Nat.not_lt_zero _)⟩
    · rw [g_same]; rfl
    · rw [g_i (by decide), g_i (by decide), g_i (by decide), g_i (by decide), g_same]
    · rw [g_i (by decide), g_i (by decide), g_i (by decide), g_same]
    · rw [g_i (by decide), g_i (by decide), g_same]; rfl
    · rw [g_i (by decide), g_same]
