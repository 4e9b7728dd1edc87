theorem vl {n N : Nat} (h : n < N) (hN : N < 2 ^ 31) : vp_in (nI n) N := vp_in_nI h hN
theorem i12 {i : Nat} (h : i < 12) : i = 0 ∨ i = 1 ∨ i = 2 ∨ i = 3 ∨ i = 4 ∨ i = 5 ∨ i = 6 ∨ i = 7 ∨ i = 8 ∨ i = 9 ∨ i = 10 ∨ i = 11 := by omega
theorem beginC {o : Nat} (ho : o ≠ 77) {ev : Nat} {C : xMem} (h10 : gi C o 10 = nI ev) (post : xMem → Prop) (hp : ∀ C' : xMem, (∀ c i, c ≠ 77 → gi C' c i = gi C c i) → (∀ i, i < 11 → gi C' 77 i = nI 0) → gi C' 77 11 = nI ev → post C') : wX0_begin o C post := by
  unfold wX0_begin
  refine fill77 _ (fun C1 f1 f2 => ?_)
  refine ⟨vl (n := 11) (by decide) (by decide), ?_⟩
  intro M3 e3
  subst e3
  refine hp _ (fun c i hc => by rw [g_c hc]; exact f1 c i hc) (fun i hi => by rw [g_i (by omega)]; exact f2 i (by omega)) ?_
  rw [g_same, f1 _ _ ho, h10]
theorem putTC {o k : Nat} (ho : o + 4 < 77) (hk : k < 4) {a b d : Nat} (hd : d < 1024) {C : xMem} (h3 : gi C (o + 3) k = nI a) (h2 : gi C (o + 2) k = nI b) (h4 : gi C (o + 4) k = nI d) (post : xMem → Prop) (hp : ∀ C' : xMem, (∀ c i, c ≠ 77 → gi C' c i = gi C c i) → (∀ i, 4 ≤ i → gi C' 77 i = gi C 77 i) → gi C' 77 0 = nI k → gi C' 77 1 = nI a → gi C' 77 2 = nI b → gi C' 77 3 = nI (pc d) → post C') : wX0_putTeller o (nI k) C post := by
  unfold wX0_putTeller
  refine ⟨vl (n := 0) (by decide) (by decide), ?_⟩
  intro M2 e2
  subst e2
  refine ⟨vl hk (by decide), vl (n := 1) (by decide) (by decide), ?_⟩
  intro M5 e5
  subst e5
  refine ⟨vl hk (by decide), vl (n := 2) (by decide) (by decide), ?_⟩
  intro M8 e8
  subst e8
  refine ⟨vl hk (by decide), ?_⟩
  simp (disch := omega) only [nI_clamp, g_c, h4, h3, h2]
  rw [bitCount_eq, bc_n hd]
  refine ⟨vl (n := 3) (by decide) (by decide), ?_⟩
  intro M13 e13
  subst e13
  refine hp _ (fun c i hc => by rw [g_c hc, g_c hc, g_c hc, g_c hc]) (fun i hi => by rw [g_i (by omega), g_i (by omega), g_i (by omega), g_i (by omega)]) ?_ ?_ ?_ ?_
  · rw [g_i (by omega), g_i (by omega), g_i (by omega), g_same]
  · rw [g_i (by omega), g_i (by omega), g_same]
  · rw [g_i (by omega), g_same]
  · rw [g_same]
/-- what counts for the questions of the class -/
def askC (o1 c i : Nat) : Prop := c ≠ 77 ∧ ¬ (c = o1 ∧ i = 8) ∧ c ≠ o1 + 6
def okO (o o1 : Nat) : Prop := 49 ≤ o ∧ o ≤ 67 ∧ (o1 = 18 ∨ o1 = 25)
theorem askTC {o o1 : Nat} (ho : okO o o1) {V : xV} {C : xMem} (hV : semC o1 V C) {h : xT2} {il to : Int32} (hH : HC o h il to C) {k : Nat} (hk : k < 4) (h4 : h 4 k < 1024) {kind : Nat} (hkd : kind < 7) (post : Int32 → xMem → Prop) (hp : ∀ C' : xMem, (∀ c i, askC o1 c i → gi C' c i = gi C c i) → post (nI (V kind (tV h k))) C') : wX0_ofTeller o o1 (nI kind) (nI k) C post := by
  obtain ⟨o49, o67, o1v⟩ := ho
  obtain ⟨a1, a2, a3, a4, a5, a6, a7, a8⟩ := hH
  have hk7 := a7 k hk
  unfold wX0_ofTeller
  refine beginC (by omega) a3 _ (fun C1 f1 f2 f3 => ?_)
  refine putTC (by omega) hk h4 (by rw [f1 _ _ (by omega)]; exact hk7.2.2.1) (by rw [f1 _ _ (by omega)]; exact hk7.2.1) (by rw [f1 _ _ (by omega)]; exact hk7.2.2.2) _ (fun C2 g1 g2 g3 g4 g5 g6 => ?_)
  refine hV kind hkd C2 (fun c i hc => by unfold lawO at hc; rw [g1 _ _ (by omega), f1 _ _ (by omega)]) (tV h k) (fun i hi => ?_) _ (fun C3 k1 => hp C3 (fun c i hc => ?_))
  · rcases i12 hi with rfl | rfl | rfl | rfl | rfl | rfl | rfl | rfl | rfl | rfl | rfl | rfl
    · exact g3
    · exact g4
    · exact g5
    · exact g6
    all_goals first | (rw [g2 _ (by omega), f2 _ (by omega)]; rfl) | (rw [g2 _ (by omega), f3]; rfl)
  · unfold askC at hc
    rw [k1 _ _ hc.2.1 hc.2.2, g1 _ _ hc.1, f1 _ _ hc.1]
theorem askLC {o o1 : Nat} (ho : okO o o1) {V : xV} {C : xMem} (hV : semC o1 V C) {h : xT2} {il to : Int32} (hH : HC o h il to C) {k l : Nat} (hk : k < 4) (hl : l < 10) (h4 : h 4 k < 1024) {kind : Nat} (hkd : kind < 7) (post : Int32 → xMem → Prop) (hp : ∀ C' : xMem, (∀ c i, askC o1 c i → gi C' c i = gi C c i) → post (nI (V kind (lV h k l))) C') : wX0_ofListener o o1 (nI kind) (nI k) (nI l) C post := by
  obtain ⟨o49, o67, o1v⟩ := ho
  obtain ⟨a1, a2, a3, a4, a5, a6, a7, a8⟩ := hH
  have hk7 := a7 k hk
  have hl8 := a8 l hl
  unfold wX0_ofListener
  refine beginC (by omega) a3 _ (fun C1 f1 f2 f3 => ?_)
  refine putTC (by omega) hk h4 (by rw [f1 _ _ (by omega)]; exact hk7.2.2.1) (by rw [f1 _ _ (by omega)]; exact hk7.2.1) (by rw [f1 _ _ (by omega)]; exact hk7.2.2.2) _ (fun C2 g1 g2 g3 g4 g5 g6 => ?_)
  refine ⟨vl (n := 4) (by decide) (by decide), ?_⟩
  intro M4 e4
  subst e4
  refine ⟨vl hl (by decide), vl (n := 5) (by decide) (by decide), ?_⟩
  intro M7 e7
  subst e7
  refine ⟨vl hl (by decide), vl (n := 6) (by decide) (by decide), ?_⟩
  intro M10 e10
  subst e10
  rw [nI_clamp (by omega), g_c (by omega), g_c (by omega), g_c (by omega), g1 _ _ (by omega), f1 _ _ (by omega), g1 _ _ (by omega), f1 _ _ (by omega), hl8.2.1, hl8.2.2.1]
  refine hV kind hkd _ (fun c i hc => by unfold lawO at hc; rw [g_c (by omega), g_c (by omega), g_c (by omega), g1 _ _ (by omega), f1 _ _ (by omega)]) (lV h k l) (fun i hi => ?_) _ (fun C3 k1 => hp C3 (fun c i hc => ?_))
  · rcases i12 hi with rfl | rfl | rfl | rfl | rfl | rfl | rfl | rfl | rfl | rfl | rfl | rfl
    · rw [g_i (by omega), g_i (by omega), g_i (by omega)]; exact g3
    · rw [g_i (by omega), g_i (by omega), g_i (by omega)]; exact g4
    · rw [g_i (by omega), g_i (by omega), g_i (by omega)]; exact g5
    · rw [g_i (by omega), g_i (by omega), g_i (by omega)]; exact g6
    · rw [g_i (by omega), g_i (by omega), g_same]; rfl
    · rw [g_i (by omega), g_same]; rfl
    · rw [g_same]; rfl
    all_goals first | (rw [g_i (by omega), g_i (by omega), g_i (by omega), g2 _ (by omega), f2 _ (by omega)]; rfl) | (rw [g_i (by omega), g_i (by omega), g_i (by omega), g2 _ (by omega), f3]; rfl)
  · unfold askC at hc
    rw [k1 _ _ hc.2.1 hc.2.2, g_c hc.1, g_c hc.1, g_c hc.1, g1 _ _ hc.1, f1 _ _ hc.1]
theorem askEC {o o1 : Nat} (ho : okO o o1) {V : xV} {C : xMem} (hV : semC o1 V C) {e h : xT2} {il to : Int32} (hH : HC o h il to C) (hE : EC e C) {x : Nat} (hx : x < 10) (h1 : e 1 x < 1024) {kind : Nat} (hkd : kind < 7) (post : Int32 → xMem → Prop) (hp : ∀ C' : xMem, (∀ c i, askC o1 c i → gi C' c i = gi C c i) → post (nI (V kind (eV e h x))) C') : wX0_ofEnd o o1 (nI kind) (nI x) C post := by
  obtain ⟨o49, o67, o1v⟩ := ho
  obtain ⟨a1, a2, a3, a4, a5, a6, a7, a8⟩ := hH
  have hx8 := a8 x hx
  have hEx := hE.2 x hx
  unfold wX0_ofEnd
  refine beginC (by omega) a3 _ (fun C1 f1 f2 f3 => ?_)
  refine ⟨vl (n := 7) (by decide) (by decide), ?_⟩
  intro M3 e3
  subst e3
  refine ⟨vl hx (by decide), vl (n := 8) (by decide) (by decide), ?_⟩
  intro M6 e6
  subst e6
  refine ⟨vl hx (by decide), vl (n := 9) (by decide) (by decide), ?_⟩
  intro M9 e9
  subst e9
  refine ⟨vl hx (by decide), ?_⟩
  rw [nI_clamp (by omega), g_c (c' := 42) (by omega), g_c (c' := 42) (by omega), g_c (c' := 42) (by omega), f1 42 _ (by omega), hEx.1, bitCount_eq, bc_n h1]
  refine ⟨vl (n := 10) (by decide) (by decide), ?_⟩
  intro M14 e14
  subst e14
  rw [g_c (c' := 43) (by omega), f1 43 _ (by omega), hEx.2.1, g_c (c' := o + 8) (by omega), g_c (c' := o + 8) (by omega), f1 (o + 8) _ (by omega), hx8.2.2.2]
  refine hV kind hkd _ (fun c i hc => by unfold lawO at hc; rw [g_c (by omega), g_c (by omega), g_c (by omega), g_c (by omega), f1 _ _ (by omega)]) (eV e h x) (fun i hi => ?_) _ (fun C3 k1 => hp C3 (fun c i hc => ?_))
  · rcases i12 hi with rfl | rfl | rfl | rfl | rfl | rfl | rfl | rfl | rfl | rfl | rfl | rfl
    rotate_left 7
    · rw [g_i (by omega), g_i (by omega), g_i (by omega), g_same]; rfl
    · rw [g_i (by omega), g_i (by omega), g_same]; rfl
    · rw [g_i (by omega), g_same]; rfl
    · rw [g_same]; rfl
    all_goals first | (rw [g_i (by omega), g_i (by omega), g_i (by omega), g_i (by omega), f2 _ (by omega)]; rfl) | (rw [g_i (by omega), g_i (by omega), g_i (by omega), g_i (by omega), f3]; rfl)
  · unfold askC at hc
    rw [k1 _ _ hc.2.1 hc.2.2, g_c hc.1, g_c hc.1, g_c hc.1, g_c hc.1, f1 _ _ hc.1]
/-! the reference -/
theorem i11 {i : Nat} (h : i < 11) : i = 0 ∨ i = 1 ∨ i = 2 ∨ i = 3 ∨ i = 4 ∨ i = 5 ∨ i = 6 ∨ i = 7 ∨ i = 8 ∨ i = 9 ∨ i = 10 := by omega
theorem tStM {h : xT2} {il to : Int32} {M : xMem} (hH : HM h il to M) {k : Nat} (hk : k < 4) (h4 : h 4 k < 1024) (post : xMem → Prop) (hp : ∀ M' : xMem, (∀ c i, ¬ (c = 0 ∧ 38 ≤ i ∧ i ≤ 48) → gi M' c i = gi M c i) → (∀ i, i < 11 → gi M' 0 (38 + i) = nI (tV h k i)) → post M') : wX12_tellerStands (nI k) M post := by
  obtain ⟨b1, b2, b3, b4, b5, b6⟩ := hH
  have hk1 := b1 k hk
  unfold wX12_tellerStands
  intro M1 e1
  subst e1
  refine ⟨vl hk (by decide), ?_⟩
  intro M3 e3
  subst e3
  refine ⟨vl hk (by decide), ?_⟩
  intro M5 e5
  subst e5
  refine ⟨vl hk (by decide), ?_⟩
  rw [nI_clamp (by omega), g_c (by omega), g_c (by omega), g_c (by omega), hk1.2.2.2.2, g_c (by omega), hk1.2.2.2.1, g_c (by omega), g_c (by omega), hk1.2.2.1]
  refine sizeOf_n h4 _ _ ?_
  simp (disch := omega) only [z_lt_t, z_lt_f, z_le_t, z_le_f, z_eq_t, z_eq_f, z_lt0, z_lt1_t, z_lt1_f, z_lt2_t, z_lt2_f, z_le1_t, z_le1_f, z_le2_t, z_le2_f, z_eq1_t, z_eq1_f, z_eq2_t, z_eq2_f, z_lt1, z_lt2, z_le1, z_le2, z_eq1, z_eq2, z_lt, z_le, z_eq, z_in, z_cl, z_cl1, z_add, z_add1, z_addm, z_sub, z_subl, z_mul, z_mull, ↓forall_eq, ↓reduceIte, true_and, and_true, not_true_eq_false, not_false_eq_true, b2i_0, b2i_1, bz_b2i, bz_0, bz_1, nar_b2i, narb_0, narb_1, ↓within_eq, ↓lies_eq, i64i, zi0, zj0, zi1, zj1, zi2, zj2, zi3, zj3, zi4, zj4, zi5, zj5, zi6, zj6, zi7, zj7, zi8, zj8, zi9, zj9, zi10, zj10, zi12, zj12, zi13, zj13, zi19, zj19, zi20, zj20, zi21, zj21, zi29, zj29, zi30, zj30, zi39, zj39, zi48, zj48, zi50, zj50, zi57, zj57, zi60, zj60, zi63, zj63, zi65, zj65, zi71, zj71, zi72, zj72, zi73, zj73, zi74, zj74, zi80, zj80, zi97, zj97, zi98, zj98, zi99, zj99, zi100, zj100, zi106, zj106, zi240, zj240, zi255, zj255, zi260, zj260, zi300, zj300, zi999, zj999, zi1000, zj1000, zi1023, zj1023, zi1024, zj1024, zi9999, zj9999, zi65535, zj65535, zi65536, zj65536, z_tn, z_m1, z_m2, z_bt, z_bf, z_10, Bool.false_eq_true]
  refine hp _ (fun c i hc => ?_) (fun i hi => ?_)
  · simp only [gi_si]
    rw [if_neg (by omega), if_neg (by omega), if_neg (by omega), if_neg (by omega), if_neg (by omega), if_neg (by omega), if_neg (by omega), if_neg (by omega), if_neg (by omega), if_neg (by omega), if_neg (by omega)]
  · rcases i11 hi with rfl | rfl | rfl | rfl | rfl | rfl | rfl | rfl | rfl | rfl | rfl <;> simp [gi_si, tV] <;> rfl
theorem lStM {h : xT2} {il to : Int32} {M : xMem} (hH : HM h il to M) {k l : Nat} (hk : k < 4) (hl : l < 10) (h4 : h 4 k < 1024) (hb : gi M 36 l = nI k) (post : xMem → Prop) (hp : ∀ M' : xMem, (∀ c i, ¬ (c = 0 ∧ 38 ≤ i ∧ i ≤ 48) → gi M' c i = gi M c i) → (∀ i, i < 11 → gi M' 0 (38 + i) = nI (lV h k l i)) → post M') : wX12_listenerStands (nI l) M post := by
  have hl2 := hH.2.1 l hl
  unfold wX12_listenerStands
  refine ⟨vl hl (by decide), ?_⟩
  rw [nI_clamp (by omega), hb]
  refine tStM hH hk h4 _ (fun M2 f1 f2 => ?_)
  intro M3 e3
  subst e3
  refine ⟨vl hl (by decide), ?_⟩
  intro M5 e5
  subst e5
  refine ⟨vl hl (by decide), ?_⟩
  intro M7 e7
  subst e7
  simp (disch := omega) only [nI_clamp, g_c, f1, hl2.2.2.2.1, hl2.2.2.1]
  refine hp _ (fun c i hc => ?_) (fun i hi => ?_)
  · simp only [gi_si]
    rw [if_neg (by omega), if_neg (by omega), if_neg (by omega)]
    exact f1 c i hc
  · by_cases q : i = 4 ∨ i = 5 ∨ i = 6
    · rcases q with rfl | rfl | rfl
      · rw [g_i (by omega), g_i (by omega), g_same]; rfl
      · rw [g_i (by omega), g_same]; rfl
      · rw [g_same]; rfl
    · rw [g_i (by omega), g_i (by omega), g_i (by omega), f2 i hi]
      unfold lV
      rw [if_neg (by omega), if_neg (by omega), if_neg (by omega)]
theorem eStM {e h : xT2} {il to : Int32} {M : xMem} (hH : HM h il to M) (hE : EM e M) {x : Nat} (hx : x < 10) (h1 : e 1 x < 1024) (post : xMem → Prop) (hp : ∀ M' : xMem, (∀ c i, ¬ (c = 0 ∧ 38 ≤ i ∧ i ≤ 48) → gi M' c i = gi M c i) → (∀ i, i < 11 → gi M' 0 (38 + i) = nI (eV e h x i)) → post M') : wX12_endStands (nI x) M post := by
  have hl2 := hH.2.1 x hx
  have hE2 := hE x hx
  unfold wX12_endStands
  simp (disch := omega) only [z_lt_t, z_lt_f, z_le_t, z_le_f, z_eq_t, z_eq_f, z_lt0, z_lt1_t, z_lt1_f, z_lt2_t, z_lt2_f, z_le1_t, z_le1_f, z_le2_t, z_le2_f, z_eq1_t, z_eq1_f, z_eq2_t, z_eq2_f, z_lt1, z_lt2, z_le1, z_le2, z_eq1, z_eq2, z_lt, z_le, z_eq, z_in, z_cl, z_cl1, z_add, z_add1, z_addm, z_sub, z_subl, z_mul, z_mull, ↓forall_eq, ↓reduceIte, true_and, and_true, not_true_eq_false, not_false_eq_true, b2i_0, b2i_1, bz_b2i, bz_0, bz_1, nar_b2i, narb_0, narb_1, ↓within_eq, ↓lies_eq, i64i, zi0, zj0, zi1, zj1, zi2, zj2, zi3, zj3, zi4, zj4, zi5, zj5, zi6, zj6, zi7, zj7, zi8, zj8, zi9, zj9, zi10, zj10, zi12, zj12, zi13, zj13, zi19, zj19, zi20, zj20, zi21, zj21, zi29, zj29, zi30, zj30, zi39, zj39, zi48, zj48, zi50, zj50, zi57, zj57, zi60, zj60, zi63, zj63, zi65, zj65, zi71, zj71, zi72, zj72, zi73, zj73, zi74, zj74, zi80, zj80, zi97, zj97, zi98, zj98, zi99, zj99, zi100, zj100, zi106, zj106, zi240, zj240, zi255, zj255, zi260, zj260, zi300, zj300, zi999, zj999, zi1000, zj1000, zi1023, zj1023, zi1024, zj1024, zi9999, zj9999, zi65535, zj65535, zi65536, zj65536, z_tn, z_m1, z_m2, z_bt, z_bf, z_10, Bool.false_eq_true, g_c, hE2.2.1, hE2.2.2.1, hl2.2.2.2.2]
  refine sizeOf_n h1 _ _ ?_
  refine hp _ (fun c i hc => ?_) (fun i hi => ?_)
  · simp only [gi_si]
    rw [if_neg (by omega), if_neg (by omega), if_neg (by omega), if_neg (by omega), if_neg (by omega), if_neg (by omega), if_neg (by omega), if_neg (by omega), if_neg (by omega), if_neg (by omega), if_neg (by omega)]
  · rcases i11 hi with rfl | rfl | rfl | rfl | rfl | rfl | rfl | rfl | rfl | rfl | rfl <;> simp [gi_si, eV] <;> rfl
def askM (c i : Nat) : Prop := c ≠ 23 ∧ c ≠ 24 ∧ ¬ (c = 0 ∧ 38 ≤ i ∧ i ≤ 48)
/-- asked, once they stand -/
theorem tellsM {r : Nat} {V : xV} {M M1 : xMem} (hV : semM r V M) (f1 : ∀ c i, ¬ (c = 0 ∧ 38 ≤ i ∧ i ≤ 48) → gi M1 c i = gi M c i) (h27 : gi M 0 27 = nI r) {vals : Nat → Nat} (f2 : ∀ i, i < 11 → gi M1 0 (38 + i) = nI (vals i)) (h65 : gi M 0 65 = nI (vals 11)) {kind : Nat} (hk : kind < 6) (post : Int32 → xMem → Prop) (hp : ∀ M' : xMem, (∀ c i, c ≠ 23 → c ≠ 24 → gi M' c i = gi M1 c i) → post (nI (V kind vals)) M') : wX12_tells (ltr kind) (nI (bdK kind)) M1 post :=
  (hV M1 (fun c i q1 q2 => f1 c i (by omega)) (f1 _ _ (by omega)) (by rw [f1 _ _ (by omega)]; exact h27) vals f2 (by rw [f1 _ _ (by omega)]; exact h65)).1 kind hk post hp
theorem goesM {r : Nat} {V : xV} {M M1 : xMem} (hV : semM r V M) (f1 : ∀ c i, ¬ (c = 0 ∧ 38 ≤ i ∧ i ≤ 48) → gi M1 c i = gi M c i) (h27 : gi M 0 27 = nI r) {vals : Nat → Nat} (f2 : ∀ i, i < 11 → gi M1 0 (38 + i) = nI (vals i)) (h65 : gi M 0 65 = nI (vals 11)) (post : Int32 → xMem → Prop) (hp : ∀ M' : xMem, (∀ c i, c ≠ 23 → c ≠ 24 → gi M' c i = gi M1 c i) → post (nI (V 6 vals)) M') : wX12_goesAway M1 post :=
  (hV M1 (fun c i q1 q2 => f1 c i (by omega)) (f1 _ _ (by omega)) (by rw [f1 _ _ (by omega)]; exact h27) vals f2 (by rw [f1 _ _ (by omega)]; exact h65)).2 post hp
theorem speedM {r : Nat} {V : xV} {M : xMem} (hV : semM r V M) (h27 : gi M 0 27 = nI r) {h : xT2} {il to : Int32} (hH : HM h il to M) {k : Nat} (hk : k < 4) (h4 : h 4 k < 1024) (post : Int32 → xMem → Prop) (hp : ∀ M' : xMem, (∀ c i, askM c i → gi M' c i = gi M c i) → post (nI (V 0 (tV h k))) M') : wX12_speedOf (nI k) M post := by
  unfold wX12_speedOf
  refine tStM hH hk h4 _ (fun M1 f1 f2 => ?_)
  exact tellsM (kind := 0) hV f1 h27 f2 hH.2.2.1 (by decide) _ (fun M2 g1 => hp M2 (fun c i hc => by rw [g1 c i hc.1 hc.2.1, f1 c i hc.2.2]))
theorem costM {r : Nat} {V : xV} {M : xMem} (hV : semM r V M) (h27 : gi M 0 27 = nI r) {e h : xT2} {il to : Int32} (hH : HM h il to M) (hE : EM e M) {x : Nat} (hx : x < 10) (h1 : e 1 x < 1024) (post : Int32 → xMem → Prop) (hp : ∀ M' : xMem, (∀ c i, askM c i → gi M' c i = gi M c i) → post (nI (V 1 (eV e h x))) M') : wX12_costOf (nI x) M post := by
  unfold wX12_costOf
  refine eStM hH hE hx h1 _ (fun M1 f1 f2 => ?_)
  exact tellsM (kind := 1) hV f1 h27 f2 hH.2.2.1 (by decide) _ (fun M2 g1 => hp M2 (fun c i hc => by rw [g1 c i hc.1 hc.2.1, f1 c i hc.2.2]))
theorem forgeM {r : Nat} {V : xV} {M : xMem} (hV : semM r V M) (h27 : gi M 0 27 = nI r) {e h : xT2} {il to : Int32} (hH : HM h il to M) (hE : EM e M) {x : Nat} (hx : x < 10) (h1 : e 1 x < 1024) (post : Int32 → xMem → Prop) (hp : ∀ M' : xMem, (∀ c i, askM c i → gi M' c i = gi M c i) → post (nI (V 5 (eV e h x))) M') : wX12_forgingOf (nI x) M post := by
  unfold wX12_forgingOf
  refine eStM hH hE hx h1 _ (fun M1 f1 f2 => ?_)
  exact tellsM (kind := 5) hV f1 h27 f2 hH.2.2.1 (by decide) _ (fun M2 g1 => hp M2 (fun c i hc => by rw [g1 c i hc.1 hc.2.1, f1 c i hc.2.2]))
