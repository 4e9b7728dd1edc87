/-! story(), the reference's loop -/
theorem opnMM {B : Nat → Nat} {N : Nat} {M0 M : xMem} (hT : tapeM B N M0) {p : Nat} {ts : List Nat} {stk : List (Nat × Nat × Nat)} {tl : Bool} (ok : okQ N p ts stk) (hM : PMs N M0 p ts stk tl M) (post : xMem → Prop) (hg : ∀ p' ts' stk' tl', opn B N p ts stk tl = (p', ts', stk', tl', 0) → ∀ M', PMs N M0 p' ts' stk' tl' M' → post M') (hb : ∀ f, (opn B N p ts stk tl).2.2.2.2 = f → f < 0 → ∀ M', FM M0 f M' → post M') : wX12_turnTold_80 post (nI p) M := by
  have hN := hT.1
  have hB := fun i hi => (hT.2 i hi).1
  obtain ⟨o1, o2, o3, o4, o5⟩ := id ok
  have n1 := nxt_b (B := B) (N := N) (p := p) o1
  have t1 := tmo_b B N p
  have hlt := hr_lt (B := B) (N := N) hB (nxt B N p)
  have b111 : ∀ f M' x1 x2, FM M0 f M' → post M' → wX12_turnTold_111 post x1 x2 M' := by
    intro f M' x1 x2 hF hp
    unfold wX12_turnTold_111
    rw [goodM, FM_b hF, if_pos rfl]
    exact hp
  have b219 : ∀ f M' x2, FM M0 f M' → post M' → wX12_turnTold_219 post x2 M' := by
    intro f M' x2 hF hp
    unfold wX12_turnTold_219
    rw [goodM, FM_b hF, if_pos rfl]
    exact hp
  unfold wX12_turnTold_80
  refine timesM hT o1 hM _ (fun M1 hM1 => ?_)
  obtain ⟨f, g3, g4, g5, g14, g15, g16, gt, gs⟩ := id hM1
  have f1 : ∀ i, gi M1 1 i = gi M0 1 i := fun i => f 1 i (by omega)
  refine hereM hT n1.2 f1 g3 g4 _ ?_
  by_cases c1 : hr B N (nxt B N p) = 40
  · rw [if_pos (show nI (hr B N (nxt B N p)) = 40 by rw [c1]; rfl), g15]
    by_cases c2 : stk.length = 2
    · rw [if_pos (show nI stk.length = 2 by rw [c2]; rfl), g3]
      have eo : opn B N p ts stk tl = (p, ts, stk, tl, fw 5 (nxt B N p)) := by unfold opn; rw [if_pos c1, if_pos c2]
      have h0 := (fw_n (nxt B N p) (by omega)).1.2
      refine wrongM f g5 5 _ h0 _ (fun M' hF => b111 _ M' _ _ hF (hb _ (by rw [eo]) h0 M' hF))
    · rw [if_neg (show ¬ nI stk.length = 2 from fun z => c2 ((nI_eq (a := stk.length) (b := 2) (by omega) (by omega)).mp z))]
      have eo : opn B N p ts stk tl = (nxt B N p + 1, ts, (ts.length, tmo B N p, p) :: stk, false, 0) := by unfold opn; rw [if_pos c1, if_neg c2]
      unfold wX12_turnTold_111
      rw [goodM, if_pos g5, if_neg (by decide), g15]
      have hv := vl (n := stk.length) (N := 2) (by omega) (by decide)
      refine ⟨hv, ?_⟩
      intro M5 e5
      have x5 : gi M5 0 15 = nI stk.length := by rw [e5, g_c (by decide)]; exact g15
      refine ⟨x5 ▸ hv, ?_⟩
      intro M7 e7
      have x7 : gi M7 0 15 = nI stk.length := by rw [e7, g_c (by decide)]; exact x5
      refine ⟨x7 ▸ hv, ?_⟩
      intro M9 e9 M10 e10 M11 e11 M12 e12
      rw [nI_clamp (by omega), g14] at e5
      rw [x5, nI_clamp (by omega)] at e7
      rw [x7, nI_clamp (by omega)] at e9
      have x9 : gi M9 0 15 = nI stk.length := by rw [e9, g_c (by decide)]; exact x7
      refine hg _ _ _ _ eo M12 ⟨fun c i z => ?_, ?_, ?_, ?_, ?_, ?_, ?_, fun i hi => ?_, ?_, ?_, ?_, ?_⟩
      · rw [e12, gi_si, if_neg (by omega), e11, gi_si, if_neg (by omega), e10, gi_si, if_neg (by omega), e9, gi_si, if_neg (by omega), e7, gi_si, if_neg (by omega), e5, gi_si, if_neg (by omega)]; exact f c i z
      · rw [e12, g_same, e11, g_i (by decide), e10, g_i (by decide), e9, g_c (by decide), e7, g_c (by decide), e5, g_c (by decide), g3, nI_1]
      · rw [e12, g_i (by decide), e11, g_i (by decide), e10, g_i (by decide), e9, g_c (by decide), e7, g_c (by decide), e5, g_c (by decide)]; exact g4
      · rw [e12, g_i (by decide), e11, g_i (by decide), e10, g_i (by decide), e9, g_c (by decide), e7, g_c (by decide), e5, g_c (by decide)]; exact g5
      · rw [e12, g_i (by decide), e11, g_i (by decide), e10, g_i (by decide), e9, g_c (by decide), e7, g_c (by decide), e5, g_c (by decide)]; exact g14
      · rw [e12, g_i (by decide), e11, g_i (by decide), e10, g_same, x9, nI_1]; rfl
      · rw [e12, g_i (by decide), e11, g_same]; rfl
      · rw [e12, g_c (by decide), e11, g_c (by decide), e10, g_c (by decide), e9, g_c (by decide), e7, g_c (by decide), e5, g_c (by decide)]; exact gt i hi
      · rw [e12, g_c (by decide), e11, g_c (by decide), e10, g_c (by decide), e9, g_c (by decide), e7, g_c (by decide), e5, g_same]
      · rw [e12, g_c (by decide), e11, g_c (by decide), e10, g_c (by decide), e9, g_c (by decide), e7, g_same]
      · rw [e12, g_c (by decide), e11, g_c (by decide), e10, g_c (by decide), e9, g_same]
      · refine stkM_keep (fun c i h1 h2 h3 => ?_) gs
        rw [e12, g_c (by omega), e11, g_c (by omega), e10, g_c (by omega), e9, gi_si, if_neg (by omega), e7, gi_si, if_neg (by omega), e5, gi_si, if_neg (by omega)]
  · rw [if_neg (show ¬ nI (hr B N (nxt B N p)) = 40 from fun z => c1 ((nI_eq (a := hr B N (nxt B N p)) (b := 40) (by omega) (by omega)).mp z))]
    refine hereM hT n1.2 f1 g3 g4 _ ?_
    rw [turnBy_n hlt]
    match et : tb (hr B N (nxt B N p)) with
    | none =>
      have eo : opn B N p ts stk tl = (p, ts, stk, tl, fw 1 (nxt B N p)) := by unfold opn; rw [if_neg c1, et]
      have h0 := (fw_n (nxt B N p) (by omega)).1.1
      rw [show tbv (hr B N (nxt B N p)) = -1 by unfold tbv; rw [et], if_pos rfl, g3]
      exact wrongM f g5 1 _ h0 _ (fun M' hF => b219 _ M' _ hF (hb _ (by rw [eo]) h0 M' hF))
    | some c =>
      have hc := tb_lt _ hlt c et
      have eo : opn B N p ts stk tl = if ts.length + tmo B N p ≤ 72 then (nxt B N p + 1, rp (ts ++ [c]) ts.length (tmo B N p), stk, true, 0) else (p, ts, stk, tl, fw 6 p) := by unfold opn; rw [if_neg c1, et]
      have hq : nxt B N p < N := by
        refine hr_in (B := B) (fun z => ?_)
        rw [z] at et
        cases et
      rw [show tbv (hr B N (nxt B N p)) = nI c by unfold tbv; rw [et], if_neg (fun z => by
        have := congrArg Int32.toInt z
        rw [nI_toInt (by omega), z_m1] at this
        omega), g14, z_add]
      by_cases c2 : ts.length + tmo B N p ≤ 72
      · rw [if_pos (show nI (ts.length + tmo B N p) ≤ (72 : Int32) from nI_le c2 (by decide))]
        rw [if_pos c2] at eo
        exact letM hT hq et c2 hM1 post (hg _ _ _ _ eo)
      · rw [if_neg (show ¬ nI (ts.length + tmo B N p) ≤ (72 : Int32) from nI_ge (b := ts.length + tmo B N p) (a := 72) (by omega) (by omega))]
        rw [if_neg c2] at eo
        have h0 := (fw_n p (by omega)).2
        exact wrongM f g5 6 _ h0 _ (fun M' hF => b219 _ M' _ hF (hb _ (by rw [eo]) h0 M' hF))
theorem turnMM {B : Nat → Nat} {N : Nat} {M0 M : xMem} (hT : tapeM B N M0) {p : Nat} {ts : List Nat} {stk : List (Nat × Nat × Nat)} {tl : Bool} (ok : okQ N p ts stk) (hpN : p < N) (hM : PMs N M0 p ts stk tl M) (post : xMem → Prop) (hg : ∀ p' ts' stk' tl', stp B N (p, ts, stk, tl, 0) = (p', ts', stk', tl', 0) → ∀ M', PMs N M0 p' ts' stk' tl' M' → post M') (hb : ∀ f, (stp B N (p, ts, stk, tl, 0)).2.2.2.2 = f → f < 0 → ∀ M', FM M0 f M' → post M') : wX12_turnTold M post := by
  have hN := hT.1
  have hB := fun i hi => (hT.2 i hi).1
  obtain ⟨o1, o2, o3, o4, o5⟩ := id ok
  obtain ⟨f, g3, g4, g5, g14, g15, g16, gt, gs⟩ := id hM
  have hlt := hr_lt (B := B) (N := N) hB p
  have o80 : ¬ (stk ≠ [] ∧ hr B N p = 41 ∧ tl = true) → wX12_turnTold_80 post (nI p) M := by
    intro h2
    have es := stp_opn (B := B) (ts := ts) (fun _ => hpN) h2
    rw [es] at hg hb
    exact opnMM hT ok hM post hg hb
  unfold wX12_turnTold
  intro v1 e1
  rw [g3] at e1
  subst e1
  refine hereM hT o1 (fun i => f 1 i (by omega)) g3 g4 _ ?_
  by_cases c1 : hr B N p = 41
  rotate_left
  · rw [if_neg (show ¬ nI (hr B N p) = 41 from fun z => c1 ((nI_eq (a := hr B N p) (b := 41) (by omega) (by omega)).mp z))]
    exact o80 (fun z => c1 z.2.1)
  rw [if_pos (show nI (hr B N p) = 41 by rw [c1]; rfl), g15, g16]
  match stk, o80, hg, hb, o4, o5, gs, ok, hM with
  | [], o80, hg, hb, o4, o5, gs, ok, hM =>
    rw [if_pos (by decide)]
    exact o80 (fun z => z.1 rfl)
  | (st, tm, at0) :: r, o80, hg, hb, o4, o5, gs, ok, hM =>
    have hl : ((st, tm, at0) :: r).length = r.length + 1 := rfl
    have hl1 : 0 < ((st, tm, at0) :: r).length := by omega
    rw [if_neg (show ¬ nI ((st, tm, at0) :: r).length ≤ 0 from nI_ge hl1 (by omega))]
    by_cases c2 : tl = true
    rotate_left
    · rw [b2i_f c2, if_pos rfl]
      exact o80 (fun z => c2 z.2.2)
    rw [b2i_t c2, if_neg (by decide)]
    subst c2
    obtain ⟨s1, s2, s3, s4⟩ := gs
    have s1' : gi M 6 r.length = nI st := s1
    have s2' : gi M 7 r.length = nI tm := s2
    have s3' : gi M 8 r.length = nI at0 := s3
    obtain ⟨p1, p2, p3, p4⟩ := o5 (st, tm, at0) (List.mem_cons_self ..)
    have p1' : st ≤ ts.length := p1
    have p2' : 1 ≤ tm := p2
    have p3' : tm ≤ 9 := p3
    have p4' : at0 ≤ N := p4
    intro M7 e7 M8 e8
    rw [hl, show nI (r.length + 1) - 1 = nI r.length from z_subl (n := 1) (by show 1 ≤ r.length + 1; omega)] at e7
    have hM8 : PMs N M0 (p + 1) ts r true M8 := by
      refine ⟨fun c i z => ?_, ?_, ?_, ?_, ?_, ?_, ?_, fun i hi => ?_, ?_⟩
      · rw [e8, gi_si, if_neg (by omega), e7, gi_si, if_neg (by omega)]; exact f c i z
      · rw [e8, g_same, e7, g_i (by decide), g3, nI_1]
      · rw [e8, g_i (by decide), e7, g_i (by decide)]; exact g4
      · rw [e8, g_i (by decide), e7, g_i (by decide)]; exact g5
      · rw [e8, g_i (by decide), e7, g_i (by decide)]; exact g14
      · rw [e8, g_i (by decide), e7, g_same]
      · rw [e8, g_i (by decide), e7, g_i (by decide)]; exact g16
      · rw [e8, g_c (by decide), e7, g_c (by decide)]; exact gt i hi
      · exact stkM_keep (fun c i h1 h2 _ => by rw [e8, g_c (by omega), e7, g_c (by omega)]) s4
    have x15 : gi M8 0 15 = nI r.length := hM8.2.2.2.2.2.1
    have q6 : gi M8 6 r.length = nI st := by rw [e8, g_c (by decide), e7, g_c (by decide)]; exact s1'
    have q7 : gi M8 7 r.length = nI tm := by rw [e8, g_c (by decide), e7, g_c (by decide)]; exact s2'
    have q8 : gi M8 8 r.length = nI at0 := by rw [e8, g_c (by decide), e7, g_c (by decide)]; exact s3'
    have hv := vl (n := r.length) (N := 2) (by omega) (by decide)
    rw [x15, nI_clamp (by omega), q6, q7, q8]
    refine ⟨hv, hv, hv, ?_⟩
    have ecl : stp B N (p, ts, (st, tm, at0) :: r, true, 0) = if st + (ts.length - st) * tm ≤ 72 then (p + 1, rp ts st tm, r, true, 0) else (p, ts, (st, tm, at0) :: r, true, fw 6 at0) := by
      unfold stp
      dsimp only
      rw [if_neg (by decide), if_pos ⟨c1, rfl⟩]
    refine repM (by omega) o2 p1' p2' p3' (by omega) hM8 _ (fun hle M' hM' => ?_) (fun hle M' hF => ?_)
    · rw [if_pos hle] at ecl
      exact hg _ _ _ _ ecl M' hM'
    · rw [if_neg hle] at ecl
      exact hb _ (by rw [ecl]) (fw_n at0 (by omega)).2 M' hF
theorem itP_fix {B : Nat → Nat} {N : Nat} {s : xP} (h : stp B N s = s) : ∀ n, itP B N s n = s := by
  intro n
  induction n with
  | zero => rfl
  | succ n ih => show itP B N (stp B N s) n = s; rw [h]; exact ih
theorem stp_bad {B : Nat → Nat} {N : Nat} {s : xP} (h : ¬ s.2.2.2.2 = 0) : stp B N s = s := by unfold stp; rw [if_pos h]
theorem loopMM {B : Nat → Nat} {N : Nat} {M0 : xMem} (hT : tapeM B N M0) (k : Int32) (post : Int32 → xMem → Prop) (sF : xP) (hF : sF.2.2.2.2 < 0 ∨ (sF.2.2.2.2 = 0 ∧ sF.2.2.1 = [] ∧ N ≤ sF.1)) (hg : sF.2.2.2.2 = 0 → ∀ M', PMs N M0 sF.1 sF.2.1 [] sF.2.2.2.1 M' → wX12_story_102 post k M') (hb : sF.2.2.2.2 < 0 → ∀ M', FM M0 sF.2.2.2.2 M' → wX12_story_102 post k M') : ∀ (n p : Nat) (ts : List Nat) (stk : List (Nat × Nat × Nat)) (tl : Bool) (M : xMem), okQ N p ts stk → PMs N M0 p ts stk tl M → itP B N (p, ts, stk, tl, 0) n = sF → wX12_story_54 post (n + 1) k M := by
  have hN := hT.1
  have hB := fun i hi => (hT.2 i hi).1
  have out : ∀ p ts tl M, PMs N M0 p ts [] tl M → sF = (p, ts, [], tl, 0) → wX12_story_79 post k M := by
    intro p ts tl M hM e
    subst e
    unfold wX12_story_79
    rw [goodM, if_pos hM.2.2.2.1, if_neg (by decide), hM.2.2.2.2.2.1, if_pos (by decide)]
    exact hg rfl M hM
  have bad : ∀ f M, FM M0 f M → sF.2.2.2.2 = f → wX12_story_79 post k M := by
    intro f M hFM e
    unfold wX12_story_79
    rw [goodM, FM_b hFM, if_pos rfl]
    exact hb (by rw [e]; exact hFM.2.2) M (by rw [e]; exact hFM)
  intro n
  induction n with
  | zero =>
    intro p ts stk tl M ok hM hit
    have hit' : (p, ts, stk, tl, (0 : Int32)) = sF := hit
    rw [← hit'] at hF
    rcases hF with q | ⟨_, q, q2⟩
    · exact absurd (show (0 : Int32) < 0 from q) (by decide)
    have q' : stk = [] := q
    have q2' : N ≤ p := q2
    subst q'
    have ok1 := ok.1
    rw [wX12_story_54]; dsimp only
    rw [goodM, if_pos hM.2.2.2.1, if_neg (by decide), hM.2.2.1, hM.2.1, if_pos (nI_le q2' (by omega))]
    exact out p ts tl M hM hit'.symm
  | succ n ih =>
    intro p ts stk tl M ok hM hit
    have ok1 := ok.1
    rw [wX12_story_54]; dsimp only
    rw [goodM, if_pos hM.2.2.2.1, if_neg (by decide), hM.2.2.1, hM.2.1]
    by_cases c : N ≤ p
    · rw [if_pos (nI_le c (by omega))]
      match stk, ok, hM, hit with
      | [], ok, hM, hit =>
        have es : stp B N (p, ts, [], tl, 0) = (p, ts, [], tl, 0) := by
          unfold stp
          dsimp only
          rw [if_neg (by decide), if_pos c]
        rw [itP_fix es] at hit
        exact out p ts tl M hM hit.symm
      | fr :: r, ok, hM, hit =>
        have nd : ¬ isD B N p := fun z => by have := z.1; omega
        have en : nxt B N p = p := if_neg nd
        have eh : hr B N p = 0 := if_neg (by omega)
        have es : stp B N (p, ts, fr :: r, tl, 0) = (p, ts, fr :: r, tl, fw 1 p) := by
          obtain ⟨st, tm, at0⟩ := fr
          unfold stp
          dsimp only
          rw [if_neg (by decide), if_neg (by rw [eh]; intro z; exact absurd z.1 (by decide))]
          unfold opn
          rw [en, eh, if_neg (by decide)]
          rfl
        have h0 := (fw_n p (by omega)).1.1
        have hne : ¬ fw 1 p = 0 := fun z => by rw [z] at h0; exact absurd h0 (by decide)
        have e2 : itP B N (p, ts, fr :: r, tl, 0) (n + 1) = (p, ts, fr :: r, tl, fw 1 p) := by
          show itP B N (stp B N (p, ts, fr :: r, tl, 0)) n = _
          rw [es]
          have hfx : stp B N (p, ts, fr :: r, tl, fw 1 p) = (p, ts, fr :: r, tl, fw 1 p) := stp_bad (s := (p, ts, fr :: r, tl, fw 1 p)) hne
          exact itP_fix hfx n
        rw [e2] at hit
        unfold wX12_story_79
        have hl1 : 0 < (fr :: r).length := Nat.succ_pos _
        have o4 := ok.2.2.2.1
        rw [goodM, if_pos hM.2.2.2.1, if_neg (by decide), hM.2.2.2.2.2.1, if_neg (show ¬ nI (fr :: r).length ≤ 0 from nI_ge hl1 (by omega)), hM.2.1]
        refine wrongM hM.1 hM.2.2.2.1 1 p h0 _ (fun M' hFM => ?_)
        have e3 : sF.2.2.2.2 = fw 1 p := by rw [← hit]
        exact hb (by rw [e3]; exact h0) M' (by rw [e3]; exact hFM)
    · rw [if_neg (nI_ge (by omega) (by omega))]
      have hit2 : itP B N (stp B N (p, ts, stk, tl, 0)) n = sF := hit
      have oks := stp_ok hB (s := (p, ts, stk, tl, 0)) ok
      refine turnMM hT ok (by omega) hM _ (fun p' ts' stk' tl' e M' hM' => ?_) (fun f e h0 M' hFM => ?_)
      · rw [e] at hit2 oks
        exact ih p' ts' stk' tl' M' (oks rfl) hM' hit2
      · have hne : ¬ (stp B N (p, ts, stk, tl, 0)).2.2.2.2 = 0 := fun z => by rw [← e, z] at h0; exact absurd h0 (by decide)
        rw [itP_fix (stp_bad hne)] at hit2
        rw [wX12_story_54]; dsimp only
        rw [goodM, FM_b hFM, if_pos rfl]
        exact bad f M' hFM (by rw [← hit2]; exact e)
