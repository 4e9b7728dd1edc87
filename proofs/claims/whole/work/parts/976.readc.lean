/-! story(), the class's reader -/
def PC (B : Nat → Nat) (N : Nat) (C0 : xMem) (p : Nat) (ts : List Nat) (C : xMem) : Prop := (∀ c i, c ≠ 15 → c ≠ 16 → gi C c i = gi C0 c i) ∧ gi C 15 1 = nI ts.length ∧ gi C 15 2 = 1 ∧ gi C 15 3 = nI N ∧ gi C 15 4 = nI p ∧ gi C 15 5 = 0 ∧ ∀ i, i < ts.length → gi C 16 i = nI (ts.getD i 0)
def FC (C0 : xMem) (f : Int32) (C : xMem) : Prop := (∀ c i, c ≠ 15 → c ≠ 16 → gi C c i = gi C0 c i) ∧ gi C 15 5 = f ∧ f < 0 ∧ gi C 15 2 = 1
def sgn (B : Nat → Nat) (N p : Nat) : Int32 := if p < N then nI (B p) else -1
def tapeC (B : Nat → Nat) (N : Nat) (C0 : xMem) : Prop := N ≤ 80 ∧ ∀ i, i < N → B i < 256 ∧ gi C0 1 i = nI (B i)
theorem signC {B : Nat → Nat} {N : Nat} {C0 : xMem} (hT : tapeC B N C0) {p : Nat} (hp : p ≤ N) {C : xMem} (f : ∀ c i, c ≠ 15 → c ≠ 16 → gi C c i = gi C0 c i) (h2 : gi C 15 2 = 1) (h3 : gi C 15 3 = nI N) (h4 : gi C 15 4 = nI p) (post : Int32 → xMem → Prop) (h : post (sgn B N p) C) : wX10_sign C post := by
  obtain ⟨hN, hB⟩ := hT
  unfold wX10_sign
  rw [h4, h3, h2, if_neg (show ¬ nI p < 0 from nI_nlt (Nat.zero_le p) (by omega))]
  unfold sgn at h
  by_cases q : p < N
  · rw [if_pos q] at h
    rw [if_neg (nI_ge q (by omega))]
    refine ⟨by decide, ?_⟩
    rw [show lC ((1 : Int32).toNatClampNeg) = 260 by decide, if_neg (nI_ge (by omega) (by omega))]
    refine ⟨by decide, vl (by omega) (by decide), ?_⟩
    rw [show (1 : Int32).toNatClampNeg = 1 by decide, nI_clamp (by omega), f _ _ (by decide) (by decide), (hB p q).2]
    exact h
  · rw [if_neg q] at h
    rw [if_pos (nI_le (by omega) (by omega))]
    exact h
theorem refC {C0 C : xMem} (f : ∀ c i, c ≠ 15 → c ≠ 16 → gi C c i = gi C0 c i) (h5 : gi C 15 5 = 0) (h2 : gi C 15 2 = 1) (a : Int32) (p : Nat) (hn : fw a p < 0) (post : xMem → Prop) (h : ∀ C', FC C0 (fw a p) C' → post C') : wX10_refuse a (nI p) C post := by
  unfold wX10_refuse
  rw [if_pos h5]
  intro M2 e2
  subst e2
  exact h _ ⟨fun c i z1 z2 => by rw [gi_si_c _ z1]; exact f c i z1 z2, g_same _ _ _ _, hn, by rw [g_i (by decide)]; exact h2⟩
theorem FC_si {C0 : xMem} {f : Int32} {C : xMem} (h : FC C0 f C) (i : Nat) (hi : i ≠ 5 ∧ i ≠ 2) (v : Int32) : FC C0 f (si C 15 i v) := by
  obtain ⟨a, b, c, d⟩ := h
  exact ⟨fun c i z1 z2 => by rw [gi_si_c _ z1]; exact a c i z1 z2, by rw [g_i (Ne.symm hi.1)]; exact b, c, by rw [g_i (Ne.symm hi.2)]; exact d⟩
theorem FC_ne {C0 : xMem} {f : Int32} {C : xMem} (h : FC C0 f C) : ¬ gi C 15 5 = 0 := by
  obtain ⟨a, b, c, d⟩ := h
  rw [b]
  intro z
  rw [z] at c
  exact absurd c (by decide)
/-- behind a letter or a group: the times -/
theorem t70C {B : Nat → Nat} {N : Nat} {C0 : xMem} (hN : N ≤ 80) (rec : Int32 → xMem → (xMem → Prop) → Prop) {p p0 : Nat} (hp0 : p0 ≤ N) {us : List Nat} (hu : us.length ≤ 73) {st tm : Nat} (hst : st ≤ us.length) (h1 : 1 ≤ tm) (h9 : tm ≤ 9) {C : xMem} (hC : PC B N C0 p us C) (post : xMem → Prop) (hg : st + (us.length - st) * tm ≤ 72 → ∀ C', PC B N C0 p (rp us st tm) C' → post C') (hb : ¬ st + (us.length - st) * tm ≤ 72 → ∀ C', FC C0 (fw 6 p0) C' → post C') : wX10_readTurn_70 rec post (nI p0) (nI tm) (nI st) C := by
  obtain ⟨f, g1, g2, g3, g4, g5, g6⟩ := id hC
  have hm : (us.length - st) * tm ≤ 73 * 9 := Nat.mul_le_mul (by omega) h9
  have hml := mul_ge (v := us.length - st) h1
  have go : st + (us.length - st) * tm ≤ 72 → wX10_readTurn_101 rec post (nI tm) (nI st) C := by
    intro hle
    have K := hg hle
    unfold wX10_readTurn_101 wX10_repeat
    rw [if_pos g5, g1, z_sub hst, z_mul, z_add, min_eq, show (if (72 : Int32) < nI (st + (us.length - st) * tm) then (72 : Int32) else nI (st + (us.length - st) * tm)) = nI (st + (us.length - st) * tm) from if_neg (show ¬ nI 72 < _ from nI_nlt hle (by omega))]
    intro v3 e3 v4 e4
    subst e3; subst e4
    rw [g1, z_sub hst]
    generalize hL : st + (us.length - st) * tm = L at *
    have hLl : (rp us st tm).length = L := by rw [rp_len, hL]
    have loop : ∀ m i C1, i + m = L → us.length ≤ i → (∀ c j, c ≠ 15 → c ≠ 16 → gi C1 c j = gi C0 c j) → gi C1 15 1 = nI i → (∀ j, j ≠ 1 → gi C1 15 j = gi C 15 j) → (∀ j, j < i → gi C1 16 j = nI ((rp us st tm).getD j 0)) → wX10_repeat_30 post (m + 1) (nI L) (nI (us.length - st)) (nI i) C1 := by
      intro m
      induction m with
      | zero =>
        intro i C1 hi hui f1 k1 k2 k3
        have : i = L := by omega
        subst this
        rw [wX10_repeat_30]; dsimp only
        rw [if_pos (nI_le (by omega) (by omega))]
        exact K C1 ⟨f1, by rw [hLl]; exact k1, by rw [k2 _ (by decide)]; exact g2, by rw [k2 _ (by decide)]; exact g3, by rw [k2 _ (by decide)]; exact g4, by rw [k2 _ (by decide)]; exact g5, fun j hj => k3 j (by omega)⟩
      | succ m ih =>
        intro i C1 hi hui f1 k1 k2 k3
        rw [wX10_repeat_30]; dsimp only
        have hb := rp_back (ts := us) (st := st) (tm := tm) (i := i) hst hui (by omega)
        rw [if_neg (nI_ge (by omega) (by omega)), z_sub (by omega), if_neg (show ¬ nI (i - (us.length - st)) < 0 from nI_nlt (Nat.zero_le _) (by omega))]
        refine ⟨vl (by omega) (by decide), vl (by omega) (by decide), ?_⟩
        intro M5 e5 M6 e6 v7 e7
        subst e5; subst e6; subst e7
        rw [nI_clamp (by omega), nI_clamp (by omega), nI_1]
        refine ih (i + 1) _ (by omega) (by omega) (fun c j z1 z2 => ?_) ?_ (fun j hj => ?_) (fun j hj => ?_)
        · rw [gi_si_c _ z1, gi_si_c _ z2]; exact f1 c j z1 z2
        · rw [g_same, gi_si_c _ (by decide), k1, nI_1]
        · rw [g_i hj, gi_si_c _ (by decide)]; exact k2 j hj
        · rw [gi_si_c _ (by decide), gi_si]
          by_cases q : j = i
          · rw [if_pos ⟨rfl, q⟩, q, k3 _ (by omega), hb.1]
          · rw [if_neg (by omega)]; exact k3 j (by omega)
    refine ⟨(L - us.length) + 1, loop (L - us.length) us.length C (by omega) (Nat.le_refl _) f g1 (fun _ _ => rfl) (fun j hj => ?_)⟩
    rw [g6 j hj, rp_old hst h1 hj]
  unfold wX10_readTurn_70
  rw [if_pos g5, g1, z_sub hst, z_mul, z_add]
  by_cases c : st + (us.length - st) * tm ≤ 72
  · rw [if_pos (show nI (st + (us.length - st) * tm) ≤ (72 : Int32) from nI_le c (by decide))]
    exact go c
  · rw [if_neg (show ¬ nI (st + (us.length - st) * tm) ≤ (72 : Int32) from nI_ge (b := st + (us.length - st) * tm) (a := 72) (by omega) (by omega))]
    refine refC f g5 g2 6 p0 (fw_n p0 (by omega)).2 _ (fun C' hF => ?_)
    unfold wX10_readTurn_101
    rw [if_neg (FC_ne hF)]
    exact hb c C' hF
theorem t70F {C0 : xMem} (rec : Int32 → xMem → (xMem → Prop) → Prop) {f : Int32} {C : xMem} (h : FC C0 f C) (x2 x3 x4 : Int32) (post : xMem → Prop) (hp : post C) : wX10_readTurn_70 rec post x2 x3 x4 C := by
  unfold wX10_readTurn_70 wX10_readTurn_101
  rw [if_neg (FC_ne h), if_neg (FC_ne h)]
  exact hp
theorem letC {B : Nat → Nat} {N : Nat} {C0 : xMem} (hT : tapeC B N C0) {q : Nat} (hq : q ≤ N) {ts : List Nat} (ht : ts.length ≤ 72) {C : xMem} (hC : PC B N C0 q ts C) (post : xMem → Prop) (h1 : ∀ c, tb (hr B N q) = some c → ∀ C', PC B N C0 (q + 1) (ts ++ [c]) C' → post C') (h2 : tb (hr B N q) = none → ∀ C', FC C0 (fw 1 q) C' → post C') : wX10_readLetter C post := by
  obtain ⟨f, g1, g2, g3, g4, g5, g6⟩ := id hC
  have hN := hT.1
  have bad : tb (hr B N q) = none → wX10_readLetter_21 post (-1) C := by
    intro e
    unfold wX10_readLetter_21 wX10_readLetter_70
    rw [if_neg (by decide), g4]
    refine refC f g5 g2 1 q (fw_n q (by omega)).1.1 _ (fun C' hF => ?_)
    intro M1 e1
    subst e1
    exact h2 e _ (FC_si hF 4 ⟨by decide, by decide⟩ _)
  unfold wX10_readLetter
  refine signC hT hq f g2 g3 g4 _ ?_
  by_cases c0 : q < N
  · have e0 : sgn B N q = nI (B q) := if_pos c0
    have e1 : hr B N q = B q := if_pos c0
    have hb := (hT.2 q c0).1
    rw [e0, if_pos (show (0 : Int32) ≤ nI (B q) from nI_le (Nat.zero_le _) (by omega))]
    refine signC hT hq f g2 g3 g4 _ ?_
    rw [e0, sx_tb _ hb]
    rw [e1] at h1 h2 bad
    unfold tbv
    match et : tb (B q) with
    | none => exact bad et
    | some c =>
      have hc := tb_lt _ hb c et
      dsimp only
      unfold wX10_readLetter_21 wX10_readLetter_70
      rw [if_pos (show (0 : Int32) ≤ nI c from nI_le (Nat.zero_le _) (by omega)), g1]
      have h73 : ts.length < 73 := by omega
      rw [if_neg (show ¬ (73 : Int32) ≤ nI ts.length from nI_ge h73 (by decide))]
      refine ⟨vl h73 (by decide), ?_⟩
      intro M4 e4 M5 e5 M6 e6
      subst e4; subst e5; subst e6
      rw [nI_clamp (by omega)]
      refine h1 c et _ ⟨fun c i z1 z2 => ?_, ?_, ?_, ?_, ?_, ?_, fun i hi => ?_⟩
      · rw [gi_si_c _ z1, gi_si_c _ z1, gi_si_c _ z2]; exact f c i z1 z2
      · rw [g_i (by decide), g_same, gi_si_c _ (by decide), g1, nI_1, List.length_append]; rfl
      · rw [g_i (by decide), g_i (by decide), gi_si_c _ (by decide)]; exact g2
      · rw [g_i (by decide), g_i (by decide), gi_si_c _ (by decide)]; exact g3
      · rw [g_same, g_i (by decide), gi_si_c _ (by decide), g4, nI_1]
      · rw [g_i (by decide), g_i (by decide), gi_si_c _ (by decide)]; exact g5
      · rw [List.length_append] at hi
        have hi' : i < ts.length + 1 := hi
        rw [gi_si_c _ (by decide), gi_si_c _ (by decide), gi_si, List.getD_eq_getElem?_getD]
        by_cases q : i = ts.length
        · rw [if_pos ⟨rfl, q⟩, q, List.getElem?_append_right (Nat.le_refl _), Nat.sub_self]; rfl
        · rw [if_neg (by omega), List.getElem?_append_left (by omega), ← List.getD_eq_getElem?_getD]; exact g6 i (by omega)
  · have e0 : sgn B N q = -1 := if_neg c0
    have e1 : hr B N q = 0 := if_neg c0
    rw [e0, if_neg (by decide)]
    exact bad (by rw [e1]; rfl)
