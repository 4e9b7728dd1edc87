/-! THE LAWS, as what they answer: V of a kind (n p t s f g x) and of what the letters stand for -/
abbrev xV : Type := Nat → (Nat → Nat) → Nat
def bdK (k : Nat) : Nat := [20, 999, 9, 9, 99, 10, 1].getD k 0
def ltr (k : Nat) : Int32 := [110, 112, 116, 115, 102, 103].getD k 0
def lawO (o c i : Nat) : Prop := o ≤ c ∧ c ≤ o + 5 ∧ ¬ (c = o ∧ i = 8)
def semC (o : Nat) (V : xV) (C : xMem) : Prop := ∀ kind : Nat, kind < 7 → ∀ C' : xMem, (∀ c i, lawO o c i → gi C' c i = gi C c i) → ∀ vals : Nat → Nat, (∀ i, i < 12 → gi C' 77 i = nI (vals i)) → ∀ post : Int32 → xMem → Prop, (∀ C'' : xMem, (∀ c i, ¬ (c = o ∧ i = 8) → c ≠ o + 6 → gi C'' c i = gi C' c i) → post (nI (V kind vals)) C'') → wX5_worthOf o (nI kind) C' post
def semM (r : Nat) (V : xV) (M : xMem) : Prop := ∀ M' : xMem, (∀ c i, 9 ≤ c → c ≤ 15 → gi M' c i = gi M c i) → gi M' 0 28 = gi M 0 28 → gi M' 0 27 = nI r → ∀ vals : Nat → Nat, (∀ i, i < 11 → gi M' 0 (38 + i) = nI (vals i)) → gi M' 0 65 = nI (vals 11) → (∀ kind : Nat, kind < 6 → ∀ post : Int32 → xMem → Prop, (∀ M'' : xMem, (∀ c i, c ≠ 23 → c ≠ 24 → gi M'' c i = gi M' c i) → post (nI (V kind vals)) M'') → wX12_tells (ltr kind) (nI (bdK kind)) M' post) ∧ (∀ post : Int32 → xMem → Prop, (∀ M'' : xMem, (∀ c i, c ≠ 23 → c ≠ 24 → gi M'' c i = gi M' c i) → post (nI (V 6 vals)) M'') → wX12_goesAway M' post)
def okV (V : xV) : Prop := ∀ kind vals, kind < 7 → V kind vals ≤ bdK kind
/-- what both laws mean -/
def LSem (LL : xMem → xMem → Prop) : Prop := ∀ C M, LL C M → ∃ V W : xV, okV V ∧ okV W ∧ semC 18 V C ∧ semC 25 W C ∧ semM 0 V M ∧ semM 1 W M
theorem semC_keep {o : Nat} {V : xV} {C C' : xMem} (h : semC o V C) (hc : ∀ c i, lawO o c i → gi C' c i = gi C c i) : semC o V C' := fun kind hk C2 h2 => h kind hk C2 (fun c i hl => by rw [h2 c i hl, hc c i hl])
theorem semM_keep {r : Nat} {V : xV} {M M' : xMem} (h : semM r V M) (hc : ∀ c i, 9 ≤ c → c ≤ 15 → gi M' c i = gi M c i) (h0 : gi M' 0 28 = gi M 0 28) : semM r V M' := fun M2 h2 h3 => h M2 (fun c i q1 q2 => by rw [h2 c i q1 q2, hc c i q1 q2]) (by rw [h3, h0])
def tV (h : xT2) (k i : Nat) : Nat := if i = 0 then k else if i = 1 then h 3 k else if i = 2 then h 2 k else if i = 3 then pc (h 4 k) else if i = 11 then h 10 0 else 0
def lV (h : xT2) (k l i : Nat) : Nat := if i = 4 then l else if i = 5 then h 7 l else if i = 6 then h 8 l else tV h k i
def eV (e h : xT2) (x i : Nat) : Nat := if i = 7 then x else if i = 8 then e 2 x else if i = 9 then h 9 x else if i = 10 then pc (e 1 x) else if i = 11 then h 10 0 else 0
theorem fill77 {C : xMem} (post : xMem → Prop) (hp : ∀ C' : xMem, (∀ c i, c ≠ 77 → gi C' c i = gi C c i) → (∀ i, i < 12 → gi C' 77 i = nI 0) → post C') : wJ7_fill_53178 77 0 C post := by
  have key : ∀ (m i : Nat) (C' : xMem), i + m = 12 → (∀ c j, c ≠ 77 → gi C' c j = gi C c j) → (∀ j, j < i → gi C' 77 j = nI 0) → wJ7_fill_53178_5 77 post (m + 1) 0 (nI i) (nI 12) C' := by
    intro m
    induction m with
    | zero =>
      intro i C' e h1 h2
      have : i = 12 := by omega
      subst this
      rw [wJ7_fill_53178_5]; dsimp only
      simp (disch := omega) only [z_lt_t, z_lt_f, z_le_t, z_le_f, z_eq_t, z_eq_f, z_lt0, z_lt1_t, z_lt1_f, z_lt2_t, z_lt2_f, z_le1_t, z_le1_f, z_le2_t, z_le2_f, z_eq1_t, z_eq1_f, z_eq2_t, z_eq2_f, z_lt1, z_lt2, z_le1, z_le2, z_eq1, z_eq2, z_lt, z_le, z_eq, z_in, z_cl, z_cl1, z_add, z_add1, z_addm, z_sub, z_subl, z_mul, z_mull, ↓forall_eq, ↓reduceIte, true_and, and_true, not_true_eq_false, not_false_eq_true, b2i_0, b2i_1, bz_b2i, bz_0, bz_1, nar_b2i, narb_0, narb_1, ↓within_eq, ↓lies_eq, i64i, zi0, zj0, zi1, zj1, zi2, zj2, zi3, zj3, zi4, zj4, zi5, zj5, zi6, zj6, zi7, zj7, zi8, zj8, zi9, zj9, zi10, zj10, zi12, zj12, zi13, zj13, zi19, zj19, zi20, zj20, zi21, zj21, zi29, zj29, zi30, zj30, zi39, zj39, zi48, zj48, zi50, zj50, zi57, zj57, zi60, zj60, zi63, zj63, zi65, zj65, zi71, zj71, zi72, zj72, zi73, zj73, zi74, zj74, zi80, zj80, zi97, zj97, zi98, zj98, zi99, zj99, zi100, zj100, zi106, zj106, zi240, zj240, zi255, zj255, zi260, zj260, zi300, zj300, zi999, zj999, zi1000, zj1000, zi1023, zj1023, zi1024, zj1024, zi9999, zj9999, zi65535, zj65535, zi65536, zj65536, z_tn, z_m1, z_m2, z_bt, z_bf, z_10, Bool.false_eq_true]
      exact hp C' h1 h2
    | succ m ih =>
      intro i C' e h1 h2
      have hi : i < 12 := by omega
      rw [wJ7_fill_53178_5]; dsimp only
      rw [show lC 77 = 12 from rfl]
      simp (disch := omega) only [z_lt_t, z_lt_f, z_le_t, z_le_f, z_eq_t, z_eq_f, z_lt0, z_lt1_t, z_lt1_f, z_lt2_t, z_lt2_f, z_le1_t, z_le1_f, z_le2_t, z_le2_f, z_eq1_t, z_eq1_f, z_eq2_t, z_eq2_f, z_lt1, z_lt2, z_le1, z_le2, z_eq1, z_eq2, z_lt, z_le, z_eq, z_in, z_cl, z_cl1, z_add, z_add1, z_addm, z_sub, z_subl, z_mul, z_mull, ↓forall_eq, ↓reduceIte, true_and, and_true, not_true_eq_false, not_false_eq_true, b2i_0, b2i_1, bz_b2i, bz_0, bz_1, nar_b2i, narb_0, narb_1, ↓within_eq, ↓lies_eq, i64i, zi0, zj0, zi1, zj1, zi2, zj2, zi3, zj3, zi4, zj4, zi5, zj5, zi6, zj6, zi7, zj7, zi8, zj8, zi9, zj9, zi10, zj10, zi12, zj12, zi13, zj13, zi19, zj19, zi20, zj20, zi21, zj21, zi29, zj29, zi30, zj30, zi39, zj39, zi48, zj48, zi50, zj50, zi57, zj57, zi60, zj60, zi63, zj63, zi65, zj65, zi71, zj71, zi72, zj72, zi73, zj73, zi74, zj74, zi80, zj80, zi97, zj97, zi98, zj98, zi99, zj99, zi100, zj100, zi106, zj106, zi240, zj240, zi255, zj255, zi260, zj260, zi300, zj300, zi999, zj999, zi1000, zj1000, zi1023, zj1023, zi1024, zj1024, zi9999, zj9999, zi65535, zj65535, zi65536, zj65536, z_tn, z_m1, z_m2, z_bt, z_bf, z_10, Bool.false_eq_true]
      refine ih (i + 1) _ (by omega) (fun c j hc => by rw [g_c hc]; exact h1 c j hc) (fun j hj => ?_)
      by_cases ej : j = i
      · subst ej; rw [g_same]; rfl
      · rw [g_i ej]; exact h2 j (by omega)
  unfold wJ7_fill_53178
  rw [show lC 77 = 12 from rfl]
  intro v1 e1
  subst e1
  exact ⟨13, key 12 0 C rfl (fun _ _ _ => rfl) (fun j hj => absurd hj (by omega))⟩
