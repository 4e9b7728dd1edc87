/-! law(), the class's reader -/
theorem fwL : ∀ p < 300, ((fw 1 p < 0 ∧ fw 2 p < 0) ∧ fw 4 p < 0) ∧ fw 5 p < 0 := by decide +kernel
def LTC (B : Nat → Nat) (N : Nat) (C0 : xMem) : Prop := N ≤ 240 ∧ (∀ i, i < N → B i < 256 ∧ gi C0 1 i = nI (B i)) ∧ gi C0 32 1 = 1 ∧ gi C0 32 2 = nI N
def frL (C0 C : xMem) : Prop := ∀ c i, ¬ (c = 32 ∧ (i = 3 ∨ i = 4)) → ¬ (c = 33 ∧ i = 5) → c ≠ 38 → gi C c i = gi C0 c i
def GSt (C0 : xMem) (p : Nat) (S : List Nat) (C : xMem) : Prop := frL C0 C ∧ gi C 32 3 = nI p ∧ gi C 32 4 = 0 ∧ gi C 33 5 = nI S.length ∧ ∀ i, i < S.length → gi C 38 i = nI (S.getD i 0)
def FSt (C0 : xMem) (f : Int32) (C : xMem) : Prop := frL C0 C ∧ gi C 32 4 = f ∧ f < 0 ∧ ∃ z, z ≤ 240 ∧ gi C 33 5 = nI z
def OUT (C0 : xMem) (S : List Nat) (r : xR) (C : xMem) : Prop := match r with
  | .inl f => FSt C0 f C
  | .inr q => GSt C0 q.1 (S ++ q.2.1) C
theorem FSt_ne {C0 : xMem} {f : Int32} {C : xMem} (h : FSt C0 f C) : ¬ gi C 32 4 = 0 := by
  obtain ⟨a, b, c, d⟩ := h
  rw [b]
  intro z
  rw [z] at c
  exact absurd c (by decide)
theorem FSt_at {C0 : xMem} {f : Int32} {C : xMem} (h : FSt C0 f C) (v : Int32) : FSt C0 f (si C 32 3 v) := by
  obtain ⟨a, b, c, z, hz, d⟩ := h
  refine ⟨fun c i h1 h2 h3 => ?_, by rw [g_i (by decide)]; exact b, c, z, hz, by rw [g_c (by decide)]; exact d⟩
  rw [gi_si, if_neg (by omega)]
  exact a c i h1 h2 h3
theorem GSt_at {C0 : xMem} {p : Nat} {S : List Nat} {C : xMem} (h : GSt C0 p S C) {v : Int32} {q : Nat} (hv : v = nI q) : GSt C0 q S (si C 32 3 v) := by
  obtain ⟨a, b, c, d, e⟩ := h
  subst hv
  refine ⟨fun c i h1 h2 h3 => ?_, g_same _ _ _ _, by rw [g_i (by decide)]; exact c, by rw [g_c (by decide)]; exact d, fun i hi => by rw [g_c (by decide)]; exact e i hi⟩
  rw [gi_si, if_neg (by omega)]
  exact a c i h1 h2 h3
theorem GSt_fst {C0 : xMem} {p : Nat} {S : List Nat} {C : xMem} (h : GSt C0 p S C) (hS : S.length ≤ 240) {f : Int32} (hf : f < 0) : FSt C0 f (si C 32 4 f) := by
  obtain ⟨a, b, c, d, e⟩ := h
  refine ⟨fun c i h1 h2 h3 => ?_, g_same _ _ _ _, hf, S.length, hS, by rw [g_c (by decide)]; exact d⟩
  rw [gi_si, if_neg (by omega)]
  exact a c i h1 h2 h3
theorem kl1 : kC ((1 : Int32).toNatClampNeg) = 20 := by decide
theorem ll1 : lC ((1 : Int32).toNatClampNeg) = 260 := by decide
theorem t1 : (1 : Int32).toNatClampNeg = 1 := by decide
theorem signL {B : Nat → Nat} {N : Nat} {C0 : xMem} (hT : LTC B N C0) {p : Nat} (hp : p ≤ N) {S : List Nat} {C : xMem} (hC : GSt C0 p S C) (post : Int32 → xMem → Prop) (h : post (sgn B N p) C) : wX6_sign C post := by
  obtain ⟨hN, hB, t4, t5⟩ := hT
  obtain ⟨f, h3, -, -, -⟩ := hC
  have e1 : gi C 32 1 = 1 := by rw [f _ _ (by decide) (by decide) (by decide)]; exact t4
  have e2 : gi C 32 2 = nI N := by rw [f _ _ (by decide) (by decide) (by decide)]; exact t5
  unfold wX6_sign
  rw [h3, e2, e1, if_neg (show ¬ nI p < 0 from nI_nlt (Nat.zero_le p) (by omega))]
  unfold sgn at h
  by_cases q : p < N
  · rw [if_pos q] at h
    rw [if_neg (nI_ge q (by omega))]
    refine ⟨kl1, ?_⟩
    rw [ll1, if_neg (nI_ge (by omega) (by omega))]
    refine ⟨kl1, vl (by omega) (by decide), ?_⟩
    rw [t1, nI_clamp (by omega), f _ _ (by omega) (by omega) (by decide), (hB p q).2]
    exact h
  · rw [if_neg q] at h
    rw [if_pos (nI_le (by omega) (by omega))]
    exact h
theorem signF {B : Nat → Nat} {N : Nat} {C0 : xMem} (hT : LTC B N C0) {g : Int32} {C : xMem} (hC : FSt C0 g C) (post : Int32 → xMem → Prop) (h : ∀ r, post r C) : wX6_sign C post := by
  obtain ⟨hN, hB, t4, t5⟩ := hT
  obtain ⟨f, -, -, -⟩ := hC
  have e1 : gi C 32 1 = 1 := by rw [f _ _ (by decide) (by decide) (by decide)]; exact t4
  have e2 : gi C 32 2 = nI N := by rw [f _ _ (by decide) (by decide) (by decide)]; exact t5
  unfold wX6_sign
  rw [e2, e1]
  by_cases c0 : gi C 32 3 < 0
  · rw [if_pos c0]; exact h _
  rw [if_neg c0]
  by_cases c1 : nI N ≤ gi C 32 3
  · rw [if_pos c1]; exact h _
  rw [if_neg c1]
  refine ⟨kl1, ?_⟩
  rw [ll1]
  by_cases c2 : nI 260 ≤ gi C 32 3
  · rw [if_pos c2]; exact h _
  rw [if_neg c2]
  have c0' : 0 ≤ (gi C 32 3).toInt := by
    have : ¬ (gi C 32 3).toInt < (0 : Int32).toInt := fun q => c0 (Int32.lt_iff_toInt_lt.mpr q)
    rw [zi0] at this
    omega
  have c2' : (gi C 32 3).toInt < 260 := by
    have : ¬ (nI 260).toInt ≤ (gi C 32 3).toInt := fun q => c2 (Int32.le_iff_toInt_le.mpr q)
    rw [nI_toInt (by omega)] at this
    omega
  obtain ⟨j, hj, e⟩ := nI_of' 260 c0' c2'
  rw [e]
  exact ⟨kl1, vl hj (by decide), h _⟩
theorem sgn_is {B : Nat → Nat} {N p c : Nat} (hB : ∀ i, i < N → B i < 256) (hc : 0 < c) (hc2 : c < 256) : (sgn B N p = nI c) ↔ (hr B N p = c) := by
  unfold sgn hr
  by_cases q : p < N
  · rw [if_pos q, if_pos q]
    exact nI_eq (by have := hB p q; omega) (by omega)
  · rw [if_neg q, if_neg q]
    exact ⟨fun z => absurd z.symm (ne_m1 (by omega)), fun z => by omega⟩
theorem refuseL {C0 : xMem} {p : Nat} {S : List Nat} {C : xMem} (hC : GSt C0 p S C) (hS : S.length ≤ 240) (a : Int32) (hf : fw a p < 0) (post : xMem → Prop) (h : ∀ C', FSt C0 (fw a p) C' → post C') : wX6_refuse a C post := by
  unfold wX6_refuse
  rw [if_pos hC.2.2.1, hC.2.1]
  intro M2 e2
  subst e2
  exact h _ (GSt_fst hC hS hf)
theorem refuseF {C0 : xMem} {f : Int32} {C : xMem} (hC : FSt C0 f C) (a : Int32) (post : xMem → Prop) (h : post C) : wX6_refuse a C post := by
  unfold wX6_refuse
  rw [if_neg (FSt_ne hC)]
  exact h
theorem takeG {B : Nat → Nat} {N : Nat} {C0 : xMem} (hT : LTC B N C0) {p : Nat} (hp : p ≤ N) {S : List Nat} (hS : S.length ≤ 240) {C : xMem} (hC : GSt C0 p S C) {c : Nat} (hc : 0 < c) (hc2 : c < 256) (post : xMem → Prop) (h1 : hr B N p = c → ∀ C', GSt C0 (p + 1) S C' → post C') (h2 : ¬ hr B N p = c → ∀ C', FSt C0 (fw 1 p) C' → post C') : wX6_take (nI c) C post := by
  have hN := hT.1
  unfold wX6_take
  refine signL hT hp hC _ ?_
  have es := sgn_is (B := B) (N := N) (p := p) (fun i hi => (hT.2.1 i hi).1) hc hc2
  unfold wX6_take_13
  by_cases q : hr B N p = c
  · rw [if_pos (es.mpr q)]
    intro M1 e1
    subst e1
    exact h1 q _ (GSt_at hC (by rw [hC.2.1, nI_1]))
  · rw [if_neg (fun z => q (es.mp z))]
    refine refuseL hC hS 1 (fwL p (by omega)).1.1.1 _ (fun C' hF => ?_)
    intro M1 e1
    subst e1
    exact h2 q _ (FSt_at hF _)
theorem takeF {B : Nat → Nat} {N : Nat} {C0 : xMem} (hT : LTC B N C0) {f : Int32} {C : xMem} (hC : FSt C0 f C) (c : Int32) (post : xMem → Prop) (h : ∀ C', FSt C0 f C' → post C') : wX6_take c C post := by
  unfold wX6_take
  refine signF hT hC _ (fun r => ?_)
  unfold wX6_take_13
  by_cases q : r = c
  · rw [if_pos q]
    intro M1 e1
    subst e1
    exact h _ (FSt_at hC _)
  · rw [if_neg q]
    refine refuseF hC _ _ ?_
    intro M1 e1
    subst e1
    exact h _ (FSt_at hC _)
theorem openF {C0 : xMem} {f : Int32} {C : xMem} (hC : FSt C0 f C) (a : Int32) (post : xMem → Prop) (h : ∀ C', FSt C0 f C' → post C') : wX6_openAt a C post := by
  unfold wX6_openAt wX6_openAt_11
  split
  · intro M1 e1; subst e1; exact h _ (FSt_at hC _)
  · refine refuseF hC _ _ ?_
    intro M1 e1; subst e1; exact h _ (FSt_at hC _)
theorem openG {N : Nat} (hN : N ≤ 240) {C0 : xMem} {p : Nat} (hp : p ≤ N) {S : List Nat} (hS : S.length ≤ 240) {C : xMem} (hC : GSt C0 p S C) {d : Nat} (hd : d ≤ 6) (post : xMem → Prop) (h1 : d < 6 → ∀ C', GSt C0 (p + 1) S C' → post C') (h2 : d = 6 → ∀ C', FSt C0 (fw 5 p) C' → post C') : wX6_openAt (nI d) C post := by
  unfold wX6_openAt wX6_openAt_11
  by_cases q : d < 6
  · rw [if_pos (show nI d < 6 from nI_lt (b := 6) q (by decide))]
    intro M1 e1; subst e1
    exact h1 q _ (GSt_at hC (by rw [hC.2.1, nI_1]))
  · rw [if_neg (show ¬ nI d < 6 from nI_nlt (b := 6) (by omega) (by omega))]
    refine refuseL hC hS 5 (fwL p (by omega)).2 _ (fun C' hF => ?_)
    intro M1 e1; subst e1
    exact h2 (by omega) _ (FSt_at hF _)
/-- steps -/
theorem stepF {C0 : xMem} {f : Int32} {C : xMem} (hC : FSt C0 f C) (a b : Int32) (post : xMem → Prop) (h : ∀ C', FSt C0 f C' → post C') : wX5_addStep 33 a b C post := by
  obtain ⟨fr, h4, hf, z, hz, h5⟩ := id hC
  unfold wX5_addStep
  rw [h5]
  by_cases q : 240 ≤ z
  · rw [if_pos (show (240 : Int32) ≤ nI z from nI_le (a := 240) q (by omega))]
    exact h _ hC
  · rw [if_neg (show ¬ (240 : Int32) ≤ nI z from nI_ge (b := 240) (by omega) (by decide))]
    refine ⟨vl (by omega) (by decide), ?_⟩
    intro M3 e3 M4 e4
    subst e3; subst e4
    refine h _ ⟨fun c i h1 h2 h3 => ?_, ?_, hf, z + 1, by omega, ?_⟩
    · rw [gi_si, if_neg (by omega), g_c h3]; exact fr c i h1 h2 h3
    · rw [g_c (by decide), g_c (by decide)]; exact h4
    · rw [g_same, g_c (by decide), h5, nI_1]
theorem getD_app (a : List Nat) (x i : Nat) : (a ++ [x]).getD i 0 = if i < a.length then a.getD i 0 else if i = a.length then x else 0 := by
  rw [List.getD_eq_getElem?_getD]
  by_cases q : i < a.length
  · rw [if_pos q, List.getElem?_append_left q, ← List.getD_eq_getElem?_getD]
  · rw [if_neg q, List.getElem?_append_right (by omega)]
    by_cases z : i = a.length
    · rw [if_pos z, z, Nat.sub_self]; rfl
    · rw [if_neg z, List.getElem?_eq_none (by show 1 ≤ _; omega)]; rfl
theorem stepG {C0 : xMem} {p : Nat} {S : List Nat} {C : xMem} (hC : GSt C0 p S C) (hS : S.length < 240) {a b : Int32} {w : Nat} (hw : (b <<< (4 &&& 31)) ||| a = nI w) (post : xMem → Prop) (h : ∀ C', GSt C0 p (S ++ [w]) C' → post C') : wX5_addStep 33 a b C post := by
  obtain ⟨fr, h3, h4, h5, h6⟩ := id hC
  unfold wX5_addStep
  rw [h5, if_neg (show ¬ (240 : Int32) ≤ nI S.length from nI_ge (b := 240) (by omega) (by decide))]
  refine ⟨vl (by omega) (by decide), ?_⟩
  intro M3 e3 M4 e4
  subst e3; subst e4
  rw [hw, nI_clamp (by omega)]
  refine h _ ⟨fun c i h1 h2 h3 => ?_, ?_, ?_, ?_, fun i hi => ?_⟩
  · rw [gi_si, if_neg (by omega), g_c h3]; exact fr c i h1 h2 h3
  · rw [g_c (by decide), g_c (by decide)]; exact h3
  · rw [g_c (by decide), g_c (by decide)]; exact h4
  · rw [g_same, g_c (by decide), h5, nI_1, List.length_append]; rfl
  · rw [List.length_append] at hi
    have hi' : i < S.length + 1 := hi
    rw [g_c (by decide), getD_app]
    by_cases q : i < S.length
    · rw [if_pos q, g_i (by omega)]; exact h6 i q
    · have : i = S.length := by omega
      rw [if_neg q, if_pos this, this]; exact g_same _ _ _ _
theorem sw_op : ∀ c < 8, ((0 : Int32) <<< (4 &&& 31)) ||| (5 + nI c) = nI (5 + c) := by decide +kernel
theorem sw_let : ∀ c < 12, ((nI c) <<< (4 &&& 31)) ||| 1 = nI (16 * c + 1) := by decide +kernel
theorem sw_not : ((0 : Int32) <<< (4 &&& 31)) ||| 2 = nI 2 := by decide
theorem sw_and : ((0 : Int32) <<< (4 &&& 31)) ||| 3 = nI 3 := by decide
theorem sw_or : ((0 : Int32) <<< (4 &&& 31)) ||| 4 = nI 4 := by decide
theorem sw_lp3 : ∀ z < 241, nI 3 ||| (nI z <<< (4 &&& 31)) = nI (3 + 16 * z) := by decide +kernel
theorem sw_lp4 : ∀ z < 241, nI 4 ||| (nI z <<< (4 &&& 31)) = nI (4 + 16 * z) := by decide +kernel
theorem leapG {C0 : xMem} {p : Nat} {A Z : List Nat} {o : Nat} {C : xMem} (hC : GSt C0 p (A ++ [o] ++ Z) C) (ho : o = 3 ∨ o = 4) (hS : A.length + 1 + Z.length ≤ 240) (post : xMem → Prop) (h : ∀ C', GSt C0 p (A ++ [o + 16 * (A.length + 1 + Z.length)] ++ Z) C' → post C') : wX5_leapHere 33 (nI A.length) C post := by
  obtain ⟨fr, h3, h4, h5, h6⟩ := id hC
  have hv := vl (n := A.length) (N := 240) (by omega) (by decide)
  have hA : (A ++ [o] ++ Z).getD A.length 0 = o := by
    rw [List.append_assoc, List.getD_eq_getElem?_getD, List.getElem?_append_right (Nat.le_refl _), Nat.sub_self]; rfl
  have hlen : (A ++ [o] ++ Z).length = A.length + 1 + Z.length := len3m A Z o
  unfold wX5_leapHere
  rw [if_neg (show ¬ nI A.length < 0 from nI_nlt (Nat.zero_le _) (by omega)), if_neg (show ¬ (240 : Int32) ≤ nI A.length from nI_ge (b := 240) (by omega) (by decide))]
  refine ⟨hv, hv, ?_⟩
  intro M5 e5
  rw [nI_clamp (by omega), h6 _ (by rw [hlen]; omega), hA, h5, hlen] at e5
  have ew : nI o ||| (nI (A.length + 1 + Z.length) <<< (4 &&& 31)) = nI (o + 16 * (A.length + 1 + Z.length)) := by
    rcases ho with q | q <;> subst q
    · exact sw_lp3 _ (by omega)
    · exact sw_lp4 _ (by omega)
  rw [ew] at e5
  subst e5
  refine h _ ⟨fun c i h1 h2 h3 => ?_, ?_, ?_, ?_, fun i hi => ?_⟩
  · rw [g_c h3]; exact fr c i h1 h2 h3
  · rw [g_c (by decide)]; exact h3
  · rw [g_c (by decide)]; exact h4
  · rw [g_c (by decide), h5, hlen, len3m]
  · rw [len3m] at hi
    by_cases q : i = A.length
    · rw [q, g_same, List.append_assoc, List.getD_eq_getElem?_getD, List.getElem?_append_right (Nat.le_refl _), Nat.sub_self]; rfl
    · rw [g_i q, h6 i (by rw [hlen]; omega), List.append_assoc, List.append_assoc, List.getD_eq_getElem?_getD, List.getD_eq_getElem?_getD]
      rcases Nat.lt_or_ge i A.length with z | z
      · rw [List.getElem?_append_left z, List.getElem?_append_left z]
      · rw [List.getElem?_append_right z, List.getElem?_append_right z, show i - A.length = (i - A.length - 1) + 1 by omega]
        rfl
/-- places among signs -/
def pl2 (c : Nat) : Int32 := if lix c < 12 then nI (lix c) else -1
def pl1 (c : Nat) : Int32 := if kix c < 7 then nI (kix c) else -1
def pl3 (c : Nat) : Int32 := if isT c then nI ([42, 47, 37].idxOf c) else -1
def pl4 (c : Nat) : Int32 := if six c < 8 then nI (six c) else -1
def pl5 (c : Nat) : Int32 := if isPl c then nI ([43, 45].idxOf c) else -1
def pl6 (c : Nat) : Int32 := if isCm c then nI ([60, 62, 61].idxOf c) else -1
set_option maxRecDepth 20000 in
theorem sx_1 : ∀ b < 256, sx 1 (((nI b).toUInt32 % 65536).toInt32) = pl1 b := by decide +kernel
set_option maxRecDepth 20000 in
theorem sx_2 : ∀ b < 256, sx 2 (((nI b).toUInt32 % 65536).toInt32) = pl2 b := by decide +kernel
set_option maxRecDepth 20000 in
theorem sx_3 : ∀ b < 256, sx 3 (((nI b).toUInt32 % 65536).toInt32) = pl3 b := by decide +kernel
set_option maxRecDepth 20000 in
theorem sx_4 : ∀ b < 256, sx 4 (((nI b).toUInt32 % 65536).toInt32) = pl4 b := by decide +kernel
set_option maxRecDepth 20000 in
theorem sx_5 : ∀ b < 256, sx 5 (((nI b).toUInt32 % 65536).toInt32) = pl5 b := by decide +kernel
set_option maxRecDepth 20000 in
theorem sx_6 : ∀ b < 256, sx 6 (((nI b).toUInt32 % 65536).toInt32) = pl6 b := by decide +kernel
theorem placeL {B : Nat → Nat} {N : Nat} {C0 : xMem} (hT : LTC B N C0) {p : Nat} (hp : p ≤ N) {S : List Nat} {C : xMem} (hC : GSt C0 p S C) {o : Nat} {F : Nat → Int32} (hF : ∀ b < 256, sx o (((nI b).toUInt32 % 65536).toInt32) = F b) (h0 : F 0 = -1) (post : Int32 → xMem → Prop) (h : post (F (hr B N p)) C) : wX6_placeIn o C post := by
  unfold wX6_placeIn
  refine signL hT hp hC _ ?_
  unfold hr at h
  by_cases q : p < N
  · have hb := (hT.2.1 p q).1
    have e0 : sgn B N p = nI (B p) := if_pos q
    rw [if_pos q] at h
    rw [e0, if_pos (show (0 : Int32) ≤ nI (B p) from nI_le (Nat.zero_le _) (by omega))]
    refine signL hT hp hC _ ?_
    rw [e0, hF _ hb]
    exact h
  · have e0 : sgn B N p = -1 := if_neg q
    rw [if_neg q, h0] at h
    rw [e0, if_neg (by decide)]
    exact h
theorem placeF {B : Nat → Nat} {N : Nat} {C0 : xMem} (hT : LTC B N C0) {f : Int32} {C : xMem} (hC : FSt C0 f C) (o : Nat) (post : Int32 → xMem → Prop) (h : ∀ r, post r C) : wX6_placeIn o C post := by
  unfold wX6_placeIn
  refine signF hT hC _ (fun r => ?_)
  split
  · exact signF hT hC _ (fun r => h _)
  · exact h _
theorem digitL {B : Nat → Nat} {N : Nat} {C0 : xMem} (hT : LTC B N C0) {p : Nat} (hp : p ≤ N) {S : List Nat} {C : xMem} (hC : GSt C0 p S C) (post : Int32 → xMem → Prop) (h : post (b2i (isDg (hr B N p))) C) : wX6_isDigit C post := by
  unfold wX6_isDigit
  refine signL hT hp hC _ ?_
  unfold hr at h
  by_cases q : p < N
  · have hb := (hT.2.1 p q).1
    have e0 : sgn B N p = nI (B p) := if_pos q
    rw [if_pos q] at h
    rw [e0]
    by_cases c : B p < 48
    · rw [if_pos (show nI (B p) < 48 from nI_lt (b := 48) c (by decide))]
      rw [b2i_f (by omega)] at h
      exact h
    rw [if_neg (show ¬ nI (B p) < 48 from nI_nlt (b := 48) (by omega) (by omega))]
    refine signL hT hp hC _ ?_
    rw [e0]
    by_cases c2 : 57 < B p
    · rw [if_pos (show 57 < nI (B p) from nI_lt (a := 57) c2 (by omega))]
      rw [b2i_f (by omega)] at h
      exact h
    rw [if_neg (show ¬ 57 < nI (B p) from nI_nlt (a := 57) (by omega) (by decide))]
    rw [b2i_t (by omega)] at h
    exact h
  · have e0 : sgn B N p = -1 := if_neg q
    rw [if_neg q, b2i_f (by omega)] at h
    rw [e0, if_pos (by decide)]
    exact h
theorem sh4 {v : Nat} (h : v < 2 ^ 27) : nI v <<< (4 &&& 31) = nI (16 * v) := by
  have e : ((4 : Int32) &&& 31) = 4 := by decide
  rw [e]
  apply Int32.toBitVec_inj.mp
  rw [Int32.toBitVec_shiftLeft, show ((4 : Int32).toBitVec.smod 32) = 4#32 by decide]
  apply BitVec.eq_of_toNat_eq
  rw [BitVec.shiftLeft_eq', BitVec.toNat_shiftLeft, show (4#32 : BitVec 32).toNat = 4 from rfl]
  have hv : (nI v).toBitVec.toNat = v := by
    show (BitVec.ofNat 32 v).toNat = v
    rw [BitVec.toNat_ofNat, Nat.mod_eq_of_lt (by omega)]
  have hw : (nI (16 * v)).toBitVec.toNat = 16 * v := by
    show (BitVec.ofNat 32 (16 * v)).toNat = 16 * v
    rw [BitVec.toNat_ofNat, Nat.mod_eq_of_lt (by omega)]
  rw [hv, hw, Nat.shiftLeft_eq, Nat.mod_eq_of_lt (by omega)]
  omega
theorem sw_num {v : Nat} (h : v < 2 ^ 27) : (nI v <<< (4 &&& 31)) ||| 0 = nI (16 * v) := by
  rw [sh4 h, show (0 : Int32) = nI 0 from rfl, z_or, Nat.or_zero]
theorem ndg_s (B : Nat → Nat) (N m p : Nat) : ndg B N (m + 1) p = if isDg (hr B N p) then 1 + ndg B N m (p + 1) else 0 := rfl
/-- a number -/
theorem numC {B : Nat → Nat} {N : Nat} {C0 : xMem} (hT : LTC B N C0) {S : List Nat} {p : Nat} (hp : p ≤ N) (hS : S.length ≤ p) {C : xMem} (hC : GSt C0 p S C) (post : xMem → Prop) (h0 : ndg B N 6 p = 0 → ∀ C', FSt C0 (fw 1 p) C' → post C') (h6 : ndg B N 6 p = 6 → ∀ C', FSt C0 (fw 2 (p + 5)) C' → post C') (h1 : ndg B N 6 p ≠ 0 → ndg B N 6 p ≠ 6 → ∀ C', GSt C0 (p + ndg B N 6 p) (S ++ [16 * vdg B N (ndg B N 6 p) p 0]) C' → post C') : wX6_readNumber C post := by
  have hN := hT.1
  have fin : ∀ j a C1, j ≤ 5 → p + j ≤ N → GSt C0 (p + j) S C1 → ndg B N 6 p = j + ndg B N (6 - j) (p + j) → (j = 5 ∨ ¬ isDg (hr B N (p + j))) → (j ≠ 0 → a < 100000 ∧ S.length < 240) → (¬ isDg (hr B N (p + j)) → a = vdg B N (ndg B N 6 p) p 0) → wX6_readNumber_45 post (nI a) (nI j) C1 := by
    intro j a C1 hj hpj hC1 hn hd ha hv
    unfold wX6_readNumber_45 wX6_readNumber_69
    by_cases z : j = 0
    · subst z
      have hnd : ¬ isDg (hr B N p) := by
        rcases hd with q | q
        · omega
        · exact q
      rw [if_pos (show nI 0 = 0 from rfl)]
      refine refuseL hC1 (by omega) 1 (fwL _ (by omega)).1.1.1 _ (fun C' hF => ?_)
      refine stepF hF _ _ _ (fun C2 hF2 => h0 ?_ C2 hF2)
      rw [ndg_s, if_neg hnd]
    · rw [if_neg (show ¬ nI j = 0 from fun q => z ((nI_eq (a := j) (b := 0) (by omega) (by omega)).mp q))]
      refine digitL hT hpj hC1 _ ?_
      obtain ⟨a1, a2⟩ := ha z
      by_cases q : isDg (hr B N (p + j))
      · have hj5 : j = 5 := by
          rcases hd with w | w
          · exact w
          · exact absurd q w
        subst hj5
        rw [b2i_t q, if_neg (by decide)]
        refine refuseL hC1 (by omega) 2 (fwL _ (by omega)).1.1.2 _ (fun C' hF => ?_)
        refine stepF hF _ _ _ (fun C2 hF2 => h6 ?_ C2 hF2)
        rw [hn, show 6 - 5 = 0 + 1 from rfl, ndg_s, if_pos q]
        rfl
      · rw [b2i_f q, if_pos rfl]
        have hnj : ndg B N 6 p = j := by
          rw [hn, show 6 - j = (5 - j) + 1 by omega, ndg_s, if_neg q, Nat.add_zero]
        refine stepG hC1 a2 (sw_num (by omega)) _ (fun C2 hC2 => h1 (by omega) (by omega) C2 ?_)
        rw [hv q] at hC2
        rw [hnj] at hC2 ⊢
        exact hC2
  have key : ∀ m j a C1, j + m = 5 → p + j ≤ N → GSt C0 (p + j) S C1 → ndg B N 6 p = j + ndg B N (6 - j) (p + j) → a < 10 ^ j → (j ≠ 0 → S.length < 240) → (vdg B N (ndg B N 6 p) p 0 = vdg B N (ndg B N (6 - j) (p + j)) (p + j) a) → wX6_readNumber_4 post (m + 1) (nI a) (nI j) C1 := by
    intro m
    induction m with
    | zero =>
      intro j a C1 hj hpj hC1 hn ha hs hv
      have : j = 5 := by omega
      subst this
      rw [wX6_readNumber_4]; dsimp only
      rw [if_pos (show (5 : Int32) ≤ nI 5 by decide)]
      refine fin 5 a C1 (by omega) hpj hC1 hn (Or.inl rfl) (fun _ => ⟨ha, hs (by decide)⟩) (fun q => ?_)
      rw [hv, show 6 - 5 = 0 + 1 from rfl, ndg_s, if_neg q]
      rfl
    | succ m ih =>
      intro j a C1 hj hpj hC1 hn ha hs hv
      rw [wX6_readNumber_4]; dsimp only
      have h10 : (10 : Nat) ^ (j + 1) = 10 * 10 ^ j := by rw [Nat.pow_succ]; omega
      have h10b : (10 : Nat) ^ (j + 1) ≤ 10 ^ 5 := Nat.pow_le_pow_right (by omega) (by omega)
      have h10c : (10 : Nat) ^ 5 = 100000 := by decide
      have e6 : 6 - j = (6 - (j + 1)) + 1 := by omega
      rw [if_neg (show ¬ (5 : Int32) ≤ nI j from nI_ge (b := 5) (by omega) (by decide))]
      refine digitL hT hpj hC1 _ ?_
      by_cases q : isDg (hr B N (p + j))
      · have hpl : p + j < N := hr_pos (B := B) (by omega)
        rw [b2i_t q, if_neg (by decide)]
        refine signL hT hpj hC1 _ ?_
        intro v7 e7 M8 e8 v9 e9
        have es : sgn B N (p + j) = nI (hr B N (p + j)) := by unfold sgn hr; rw [if_pos hpl, if_pos hpl]
        rw [es, z_mull, z_add, z_subl (by omega)] at e7
        subst e7; subst e8; subst e9
        rw [nI_1]
        have hn1 : ndg B N (6 - j) (p + j) = 1 + ndg B N (6 - (j + 1)) (p + (j + 1)) := by
          rw [e6, ndg_s, if_pos q]; rfl
        refine ih (j + 1) (10 * a + hr B N (p + j) - 48) _ (by omega) (by omega) (GSt_at hC1 (by rw [hC1.2.1, nI_1]; rfl)) ?_ (by omega) (fun _ => by omega) ?_
        · rw [hn, hn1]; omega
        · rw [hv, hn1, Nat.add_comm 1]; rfl
      · rw [b2i_f q, if_pos rfl]
        refine fin j a C1 (by omega) hpj hC1 hn (Or.inr q) (fun z => ⟨?_, hs z⟩) (fun _ => ?_)
        · have : (10 : Nat) ^ j ≤ 10 ^ 5 := Nat.pow_le_pow_right (by omega) (by omega)
          omega
        · rw [hv, e6, ndg_s, if_neg q]; rfl
  refine ⟨6, key 5 0 0 C rfl (by omega) hC ?_ (by decide) (fun q => absurd rfl q) rfl⟩
  rw [Nat.zero_add]; rfl
