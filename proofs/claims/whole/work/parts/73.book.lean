/-! book() -/
def tsm (S : Nat → List Nat) (m : Nat) : Nat → Nat
  | 0 => 0
  | k + 1 => if m.testBit k = true then tsm S m k + (S k).length else tsm S m k
theorem tsm_le {S : Nat → List Nat} (hw : ∀ k, k < 6 → wfS (S k)) (m : Nat) : ∀ i, i ≤ 6 → tsm S m i ≤ 72 * i := by
  intro i
  induction i with
  | zero => intro _; exact Nat.le_refl _
  | succ i ih =>
    intro h
    have := (hw i (by omega)).1
    have := ih (by omega)
    unfold tsm
    split <;> omega
theorem turnsC {S : Nat → List Nat} {C : xMem} (h : ∀ k, k < 6 → wfS (S k) ∧ SC (S k) k C) {g : Nat} (hg : g < 1024) (post : Int32 → xMem → Prop) (hp : post (nI (tsm S g 6)) C) : wX11_turnsOf (nI g) C post := by
  have key : ∀ (m i : Nat), i + m = 6 → wX11_turnsOf_4 post (m + 1) (nI g) (nI (tsm S g i)) (nI i) C := by
    intro m
    induction m with
    | zero =>
      intro i e
      have : i = 6 := by omega
      subst this
      rw [wX11_turnsOf_4]; dsimp only
      rw [if_pos (show (6 : Int32) ≤ nI 6 by decide)]
      exact hp
    | succ m ih =>
      intro i e
      have hi : i < 6 := by omega
      have h9 := ih (i + 1) (by omega)
      have hS := (h i hi).2
      unfold tsm at h9
      rw [wX11_turnsOf_4]; dsimp only
      unfold wX11_turnsOf_38
      rw [if_neg (show ¬ (6 : Int32) ≤ nI i from nI_ge hi (by decide)), toldStory_eq hS.1 hi (h i hi).1.1]
      by_cases q : (S i).length = 0
      · rw [if_pos q, if_pos rfl]
        rw [q] at h9
        simp (disch := omega) only [z_lt_t, z_lt_f, z_le_t, z_le_f, z_eq_t, z_eq_f, z_lt0, z_lt1_t, z_lt1_f, z_lt2_t, z_lt2_f, z_le1_t, z_le1_f, z_le2_t, z_le2_f, z_eq1_t, z_eq1_f, z_eq2_t, z_eq2_f, z_lt1, z_lt2, z_le1, z_le2, z_eq1, z_eq2, z_lt, z_le, z_eq, z_in, z_cl, z_cl1, z_add, z_add1, z_addm, z_sub, z_subl, z_mul, z_mull, ↓forall_eq, ↓reduceIte, true_and, and_true, not_true_eq_false, not_false_eq_true, b2i_0, b2i_1, bz_b2i, bz_0, bz_1, nar_b2i, narb_0, narb_1, ↓within_eq, ↓lies_eq, i64i, zi0, zj0, zi1, zj1, zi2, zj2, zi3, zj3, zi4, zj4, zi5, zj5, zi6, zj6, zi7, zj7, zi8, zj8, zi9, zj9, zi10, zj10, zi12, zj12, zi13, zj13, zi19, zj19, zi20, zj20, zi21, zj21, zi29, zj29, zi30, zj30, zi39, zj39, zi48, zj48, zi50, zj50, zi57, zj57, zi60, zj60, zi63, zj63, zi65, zj65, zi71, zj71, zi72, zj72, zi73, zj73, zi74, zj74, zi80, zj80, zi97, zj97, zi98, zj98, zi99, zj99, zi100, zj100, zi106, zj106, zi240, zj240, zi255, zj255, zi260, zj260, zi300, zj300, zi999, zj999, zi1000, zj1000, zi1023, zj1023, zi1024, zj1024, zi9999, zj9999, zi65535, zj65535, zi65536, zj65536, z_tn, z_m1, z_m2, z_bt, z_bf, z_10, Bool.false_eq_true]
        by_cases z : g.testBit i = true
        · rw [if_pos z] at h9; exact h9
        · rw [if_neg z] at h9; exact h9
      · rw [if_neg q, if_neg (by omega), hasC_n (by omega) (by omega)]
        by_cases z : g.testBit i = true
        · rw [if_pos z] at h9
          rw [b2i_t z, if_neg (by decide)]
          simp (disch := omega) only [z_lt_t, z_lt_f, z_le_t, z_le_f, z_eq_t, z_eq_f, z_lt0, z_lt1_t, z_lt1_f, z_lt2_t, z_lt2_f, z_le1_t, z_le1_f, z_le2_t, z_le2_f, z_eq1_t, z_eq1_f, z_eq2_t, z_eq2_f, z_lt1, z_lt2, z_le1, z_le2, z_eq1, z_eq2, z_lt, z_le, z_eq, z_in, z_cl, z_cl1, z_add, z_add1, z_addm, z_sub, z_subl, z_mul, z_mull, ↓forall_eq, ↓reduceIte, true_and, and_true, not_true_eq_false, not_false_eq_true, b2i_0, b2i_1, bz_b2i, bz_0, bz_1, nar_b2i, narb_0, narb_1, ↓within_eq, ↓lies_eq, i64i, zi0, zj0, zi1, zj1, zi2, zj2, zi3, zj3, zi4, zj4, zi5, zj5, zi6, zj6, zi7, zj7, zi8, zj8, zi9, zj9, zi10, zj10, zi12, zj12, zi13, zj13, zi19, zj19, zi20, zj20, zi21, zj21, zi29, zj29, zi30, zj30, zi39, zj39, zi48, zj48, zi50, zj50, zi57, zj57, zi60, zj60, zi63, zj63, zi65, zj65, zi71, zj71, zi72, zj72, zi73, zj73, zi74, zj74, zi80, zj80, zi97, zj97, zi98, zj98, zi99, zj99, zi100, zj100, zi106, zj106, zi240, zj240, zi255, zj255, zi260, zj260, zi300, zj300, zi999, zj999, zi1000, zj1000, zi1023, zj1023, zi1024, zj1024, zi9999, zj9999, zi65535, zj65535, zi65536, zj65536, z_tn, z_m1, z_m2, z_bt, z_bf, z_10, Bool.false_eq_true, hS.1]
          exact h9
        · rw [if_neg z] at h9
          rw [b2i_f z, if_pos rfl]
          simp (disch := omega) only [z_lt_t, z_lt_f, z_le_t, z_le_f, z_eq_t, z_eq_f, z_lt0, z_lt1_t, z_lt1_f, z_lt2_t, z_lt2_f, z_le1_t, z_le1_f, z_le2_t, z_le2_f, z_eq1_t, z_eq1_f, z_eq2_t, z_eq2_f, z_lt1, z_lt2, z_le1, z_le2, z_eq1, z_eq2, z_lt, z_le, z_eq, z_in, z_cl, z_cl1, z_add, z_add1, z_addm, z_sub, z_subl, z_mul, z_mull, ↓forall_eq, ↓reduceIte, true_and, and_true, not_true_eq_false, not_false_eq_true, b2i_0, b2i_1, bz_b2i, bz_0, bz_1, nar_b2i, narb_0, narb_1, ↓within_eq, ↓lies_eq, i64i, zi0, zj0, zi1, zj1, zi2, zj2, zi3, zj3, zi4, zj4, zi5, zj5, zi6, zj6, zi7, zj7, zi8, zj8, zi9, zj9, zi10, zj10, zi12, zj12, zi13, zj13, zi19, zj19, zi20, zj20, zi21, zj21, zi29, zj29, zi30, zj30, zi39, zj39, zi48, zj48, zi50, zj50, zi57, zj57, zi60, zj60, zi63, zj63, zi65, zj65, zi71, zj71, zi72, zj72, zi73, zj73, zi74, zj74, zi80, zj80, zi97, zj97, zi98, zj98, zi99, zj99, zi100, zj100, zi106, zj106, zi240, zj240, zi255, zj255, zi260, zj260, zi300, zj300, zi999, zj999, zi1000, zj1000, zi1023, zj1023, zi1024, zj1024, zi9999, zj9999, zi65535, zj65535, zi65536, zj65536, z_tn, z_m1, z_m2, z_bt, z_bf, z_10, Bool.false_eq_true]
          exact h9
  exact ⟨7, key 6 0 rfl⟩
def vol (g b c : Nat) : Nat := if ((b = 6 ∨ g.testBit b = true) ∧ (c = 6 ∨ g.testBit c = true)) ∧ (b < c ∨ b = 6) ∧ ¬ g &&& (2 ^ b - 1) = 0 then 1 + (if b < 6 then 1 else 0) + (if c < 6 then 1 else 0) else 0
theorem volC {g b c : Nat} (hg : g < 64) (hb : b ≤ 6) (hc : c ≤ 6) (M : xMem) (post : Int32 → xMem → Prop) : wX11_volumesCutAt (nI g) (nI b) (nI c) M post = post (nI (vol g b c)) M := by
  have e97 : ∀ s0 : Nat, wX11_volumesCutAt_97 post (nI c) (nI s0) 1 M = post (nI (1 + s0 + (if c < 6 then 1 else 0))) M := fun s0 => by
    unfold wX11_volumesCutAt_97
    by_cases q : c < 6
    · rw [if_neg (show ¬ (6 : Int32) ≤ nI c from nI_ge q (by decide)), if_pos q]
      rw [show (1 : Int32) = nI 1 from rfl, nI_add, nI_add]
    · rw [if_pos (show (6 : Int32) ≤ nI c from nI_le (a := 6) (by omega) (by omega)), if_neg q]
      rw [show (1 : Int32) = nI 1 from rfl, show (0 : Int32) = nI 0 from rfl, nI_add, nI_add]
  have e67 : ∀ (p q r : Prop) [Decidable p] [Decidable q] [Decidable r], wX11_volumesCutAt_67 post (nI b) (nI c) (b2i p) (b2i q) (b2i r) M = post (nI (if p ∧ q ∧ r then 1 + (if b < 6 then 1 else 0) + (if c < 6 then 1 else 0) else 0)) M := fun p q r _ _ _ => by
    unfold wX11_volumesCutAt_67
    by_cases hp : p
    rotate_left
    · rw [b2i_f hp, if_pos rfl, if_neg (fun z => hp z.1)]; rfl
    by_cases hq : q
    rotate_left
    · rw [b2i_t hp, b2i_f hq, if_neg (by decide), if_pos rfl, if_neg (fun z => hq z.2.1)]; rfl
    by_cases hr : r
    rotate_left
    · rw [b2i_t hp, b2i_t hq, b2i_f hr, if_neg (by decide), if_neg (by decide), if_pos rfl, if_neg (fun z => hr z.2.2)]; rfl
    rw [b2i_t hp, b2i_t hq, b2i_t hr, if_neg (show ¬ (1 : Int32) = 0 by decide), if_neg (show ¬ (1 : Int32) = 0 by decide), if_neg (show ¬ (1 : Int32) = 0 by decide), if_pos (show p ∧ q ∧ r from ⟨hp, hq, hr⟩)]
    by_cases z : b < 6
    · rw [if_neg (show ¬ (6 : Int32) ≤ nI b from nI_ge z (by decide)), if_pos z]
      exact e97 1
    · rw [if_pos (show (6 : Int32) ≤ nI b from nI_le (a := 6) (by omega) (by omega)), if_neg z]
      exact e97 0
  have ez : ((1 : Int32) <<< (nI b &&& 31)) - 1 = nI (2 ^ b - 1) := by
    have key : ∀ b : Fin 7, ((1 : Int32) <<< (nI b.1 &&& 31)) - 1 = nI (2 ^ b.1 - 1) := by decide +kernel
    exact key ⟨b, by omega⟩
  have e50 : ∀ (p q : Prop) [Decidable p] [Decidable q], wX11_volumesCutAt_50 post (nI g) (nI b) (nI c) (b2i p) (b2i q) M = post (nI (if p ∧ q ∧ ¬ g &&& (2 ^ b - 1) = 0 then 1 + (if b < 6 then 1 else 0) + (if c < 6 then 1 else 0) else 0)) M := fun p q _ _ => by
    unfold wX11_volumesCutAt_50
    have hle : g &&& (2 ^ b - 1) ≤ g := Nat.and_le_left
    rw [ez, z_and, ← e67]
    by_cases z : g &&& (2 ^ b - 1) = 0
    · rw [if_pos (show nI (g &&& (2 ^ b - 1)) = 0 by rw [z]; rfl), b2i_f (p := ¬ g &&& (2 ^ b - 1) = 0) (fun y => y z)]
    · rw [if_neg (fun y => z ((n0_n (by omega)).mp y)), b2i_t (p := ¬ g &&& (2 ^ b - 1) = 0) z]
  have e33 : ∀ (p : Prop) [Decidable p], wX11_volumesCutAt_33 post (nI g) (nI b) (nI c) (b2i p) M = post (nI (if p ∧ (b < c ∨ b = 6) ∧ ¬ g &&& (2 ^ b - 1) = 0 then 1 + (if b < 6 then 1 else 0) + (if c < 6 then 1 else 0) else 0)) M := fun p _ => by
    unfold wX11_volumesCutAt_33 wX11_volumesCutAt_45
    rw [← e50]
    by_cases z : b < c
    · rw [if_pos (nI_lt z (by omega)), b2i_t (p := b < c ∨ b = 6) (Or.inl z)]
    · rw [if_neg (nI_nlt (by omega) (by omega))]
      by_cases z2 : b = 6
      · rw [if_pos (show nI b = 6 by rw [z2]; rfl), b2i_t (p := b < c ∨ b = 6) (Or.inr z2)]
      · rw [if_neg (show ¬ nI b = 6 from fun y => z2 ((nI_eq (b := 6) (by omega) (by omega)).mp y)), b2i_f (p := b < c ∨ b = 6) (by omega)]
  have e14 : ∀ (p : Prop) [Decidable p], p → wX11_volumesCutAt_14 post (nI g) (nI b) (nI c) M = post (nI (if (p ∧ (c = 6 ∨ g.testBit c = true)) ∧ (b < c ∨ b = 6) ∧ ¬ g &&& (2 ^ b - 1) = 0 then 1 + (if b < 6 then 1 else 0) + (if c < 6 then 1 else 0) else 0)) M := fun p _ hp => by
    unfold wX11_volumesCutAt_14 wX11_volumesCutAt_28 wX11_volumesCutAt_32
    rw [← e33]
    by_cases z : c = 6
    · rw [if_pos (show nI c = 6 by rw [z]; rfl), b2i_t (p := p ∧ (c = 6 ∨ g.testBit c = true)) ⟨hp, Or.inl z⟩]
    · rw [if_neg (show ¬ nI c = 6 from fun y => z ((nI_eq (b := 6) (by omega) (by omega)).mp y)), hasC_n (by omega) (by omega)]
      by_cases z2 : g.testBit c = true
      · rw [b2i_t (p := g.testBit c = true) z2, if_neg (show ¬ (1 : Int32) = 0 by decide), b2i_t (p := p ∧ (c = 6 ∨ g.testBit c = true)) ⟨hp, Or.inr z2⟩]
      · rw [b2i_f (p := g.testBit c = true) z2, if_pos rfl, b2i_f (p := p ∧ (c = 6 ∨ g.testBit c = true)) (fun y => by
          rcases y.2 with y | y
          · exact z y
          · exact z2 y)]
  unfold wX11_volumesCutAt vol
  by_cases z : b = 6
  · rw [if_pos (show nI b = 6 by rw [z]; rfl)]
    exact e14 _ (Or.inl z)
  · rw [if_neg (show ¬ nI b = 6 from fun y => z ((nI_eq (b := 6) (by omega) (by omega)).mp y)), hasC_n (by omega) (by omega)]
    by_cases z2 : g.testBit b = true
    · rw [b2i_t z2, if_neg (show ¬ (1 : Int32) = 0 by decide)]
      exact e14 _ (Or.inr z2)
    · rw [b2i_f z2, if_pos rfl]
      unfold wX11_volumesCutAt_32
      have h9 := e33 ((b = 6 ∨ g.testBit b = true) ∧ (c = 6 ∨ g.testBit c = true))
      rw [b2i_f (p := (b = 6 ∨ g.testBit b = true) ∧ (c = 6 ∨ g.testBit c = true)) (fun y => by
        rcases y.1 with y | y
        · exact z y
        · exact z2 y)] at h9
      exact h9
/-- a way to cut: what lies ahead, between, behind; where -/
abbrev xK : Type := (Nat × Nat × Nat) × Nat × Nat
def th3 (S : Nat → List Nat) (m : Nat × Nat × Nat) : Nat := max (tsm S m.1 6) (max (tsm S m.2.1 6) (tsm S m.2.2 6))
theorem th3_le {S : Nat → List Nat} (hw : ∀ k, k < 6 → wfS (S k)) (m : Nat × Nat × Nat) : th3 S m ≤ 432 := by
  have a := tsm_le hw m.1 6 (Nat.le_refl _)
  have b := tsm_le hw m.2.1 6 (Nat.le_refl _)
  have c := tsm_le hw m.2.2 6 (Nat.le_refl _)
  unfold th3
  omega
def stK (S : Nat → List Nat) (st : Nat × Nat × Nat) (k : xK) : Nat × Nat × Nat := if th3 S k.1 < st.1 then (th3 S k.1, k.2) else st
theorem stK_le {S : Nat → List Nat} {st : Nat × Nat × Nat} {k : xK} {b : Nat} (h : st.1 ≤ b) : (stK S st k).1 ≤ b := by
  unfold stK
  by_cases z : th3 S k.1 < st.1
  · rw [if_pos z]; exact Nat.le_trans (Nat.le_of_lt z) h
  · rw [if_neg z]; exact h
def m3C (g b c : Nat) : Nat × Nat × Nat := (g &&& (2 ^ b - 1), (g &&& (2 ^ c - 1)) &&& (1023 ^^^ (2 ^ b - 1)), g &&& (1023 ^^^ (2 ^ c - 1)))
/-- the class's cuts: 7 is none -/
def lCi (g v b : Nat) : Nat → Nat → List xK
  | 0, _ => []
  | m + 1, c => (if vol g b c = v then [(m3C g b c, (if v ≤ 1 then 7 else b), (if v ≤ 2 then 7 else c))] else []) ++ lCi g v b m (c + 1)
def lCo (g v : Nat) : Nat → Nat → List xK
  | 0, _ => []
  | m + 1, b => lCi g v b (7 - b) b ++ lCo g v m (b + 1)
def d7 (n : Nat) : Int32 := if n = 7 then -2 else nI n
theorem bookC {S : Nat → List Nat} {C : xMem} (h : ∀ k, k < 6 → wfS (S k) ∧ SC (S k) k C) {g v : Nat} (hg : g < 64) (hv : v ≤ 3) (a2 : Int32) (post : Int32 → xMem → Prop) (st0 : Nat × Nat × Nat) (h0 : st0.1 ≤ 433 ∧ st0.2.1 ≤ 7 ∧ st0.2.2 ≤ 7) (hp : post (if a2 = 0 then nI ((lCo g v 6 1).foldl (stK S) st0).1 else if a2 = 1 then d7 ((lCo g v 6 1).foldl (stK S) st0).2.1 else d7 ((lCo g v 6 1).foldl (stK S) st0).2.2) C) : wX11_book_73 post 7 (nI g) (nI v) a2 (nI st0.1) (d7 st0.2.1) (d7 st0.2.2) 1 C := by
  have hw : ∀ k, k < 6 → wfS (S k) := fun k hk => (h k hk).1
  have inn : ∀ (K73 : Int32 → Int32 → Int32 → Int32 → Int32 → Int32 → Int32 → xMem → Prop) (b : Nat), 1 ≤ b → b ≤ 6 → ∀ (m c : Nat) (st : Nat × Nat × Nat), c + m = 7 → st.1 ≤ 433 → (K73 (nI g) (nI v) a2 (nI ((lCi g v b m c).foldl (stK S) st).1) (d7 ((lCi g v b m c).foldl (stK S) st).2.1) (d7 ((lCi g v b m c).foldl (stK S) st).2.2) (nI (b + 1)) C) → wX11_book_84 K73 post (m + 1) (nI g) (nI v) a2 (nI st.1) (d7 st.2.1) (d7 st.2.2) (nI b) (nI c) C := by
    intro K73 b hb1 hb m
    induction m with
    | zero =>
      intro c st e hs hK
      have : c = 7 := by omega
      subst this
      rw [wX11_book_84]; dsimp only
      simp (disch := omega) only [z_lt_t, z_lt_f, z_le_t, z_le_f, z_eq_t, z_eq_f, z_lt0, z_lt1_t, z_lt1_f, z_lt2_t, z_lt2_f, z_le1_t, z_le1_f, z_le2_t, z_le2_f, z_eq1_t, z_eq1_f, z_eq2_t, z_eq2_f, z_lt1, z_lt2, z_le1, z_le2, z_eq1, z_eq2, z_lt, z_le, z_eq, z_in, z_cl, z_cl1, z_add, z_add1, z_addm, z_sub, z_subl, z_mul, z_mull, ↓forall_eq, ↓reduceIte, true_and, and_true, not_true_eq_false, not_false_eq_true, b2i_0, b2i_1, bz_b2i, bz_0, bz_1, nar_b2i, narb_0, narb_1, ↓within_eq, ↓lies_eq, i64i, zi0, zj0, zi1, zj1, zi2, zj2, zi3, zj3, zi4, zj4, zi5, zj5, zi6, zj6, zi7, zj7, zi8, zj8, zi9, zj9, zi10, zj10, zi12, zj12, zi13, zj13, zi19, zj19, zi20, zj20, zi21, zj21, zi29, zj29, zi30, zj30, zi39, zj39, zi48, zj48, zi50, zj50, zi57, zj57, zi60, zj60, zi63, zj63, zi65, zj65, zi71, zj71, zi72, zj72, zi73, zj73, zi74, zj74, zi80, zj80, zi97, zj97, zi98, zj98, zi99, zj99, zi100, zj100, zi106, zj106, zi240, zj240, zi255, zj255, zi260, zj260, zi300, zj300, zi999, zj999, zi1000, zj1000, zi1023, zj1023, zi1024, zj1024, zi9999, zj9999, zi65535, zj65535, zi65536, zj65536, z_tn, z_m1, z_m2, z_bt, z_bf, z_10, Bool.false_eq_true]
      exact hK
    | succ m ih =>
      intro c st e hs hK
      have hc : c ≤ 6 := by omega
      rw [wX11_book_84]; dsimp only
      unfold wX11_book_108 wX11_book_129 wX11_book_170
      rw [if_neg (show ¬ (6 : Int32) < nI c from nI_nlt (a := 6) hc (by omega)), volC hg hb hc]
      unfold lCi at hK
      rw [List.foldl_append] at hK
      have hv1 : vol g b c ≤ 3 := by
        unfold vol
        split
        · split <;> split <;> omega
        · omega
      simp (disch := omega) only [z_lt_t, z_lt_f, z_le_t, z_le_f, z_eq_t, z_eq_f, z_lt0, z_lt1_t, z_lt1_f, z_lt2_t, z_lt2_f, z_le1_t, z_le1_f, z_le2_t, z_le2_f, z_eq1_t, z_eq1_f, z_eq2_t, z_eq2_f, z_lt1, z_lt2, z_le1, z_le2, z_eq1, z_eq2, z_lt, z_le, z_eq, z_in, z_cl, z_cl1, z_add, z_add1, z_addm, z_sub, z_subl, z_mul, z_mull, ↓forall_eq, ↓reduceIte, true_and, and_true, not_true_eq_false, not_false_eq_true, b2i_0, b2i_1, bz_b2i, bz_0, bz_1, nar_b2i, narb_0, narb_1, ↓within_eq, ↓lies_eq, i64i, zi0, zj0, zi1, zj1, zi2, zj2, zi3, zj3, zi4, zj4, zi5, zj5, zi6, zj6, zi7, zj7, zi8, zj8, zi9, zj9, zi10, zj10, zi12, zj12, zi13, zj13, zi19, zj19, zi20, zj20, zi21, zj21, zi29, zj29, zi30, zj30, zi39, zj39, zi48, zj48, zi50, zj50, zi57, zj57, zi60, zj60, zi63, zj63, zi65, zj65, zi71, zj71, zi72, zj72, zi73, zj73, zi74, zj74, zi80, zj80, zi97, zj97, zi98, zj98, zi99, zj99, zi100, zj100, zi106, zj106, zi240, zj240, zi255, zj255, zi260, zj260, zi300, zj300, zi999, zj999, zi1000, zj1000, zi1023, zj1023, zi1024, zj1024, zi9999, zj9999, zi65535, zj65535, zi65536, zj65536, z_tn, z_m1, z_m2, z_bt, z_bf, z_10, Bool.false_eq_true]
      by_cases q : vol g b c = v
      · rw [if_pos q] at hK
        rw [if_pos q]
        have hK' : K73 (nI g) (nI v) a2 (nI ((lCi g v b m (c + 1)).foldl (stK S) (stK S st (m3C g b c, (if v ≤ 1 then 7 else b), (if v ≤ 2 then 7 else c)))).1) (d7 ((lCi g v b m (c + 1)).foldl (stK S) (stK S st (m3C g b c, (if v ≤ 1 then 7 else b), (if v ≤ 2 then 7 else c)))).2.1) (d7 ((lCi g v b m (c + 1)).foldl (stK S) (stK S st (m3C g b c, (if v ≤ 1 then 7 else b), (if v ≤ 2 then 7 else c)))).2.2) (nI (b + 1)) C := hK
        have h9 := ih (c + 1) (stK S st (m3C g b c, (if v ≤ 1 then 7 else b), (if v ≤ 2 then 7 else c))) (by omega) (stK_le hs) hK'
        have ez : ∀ b, b ≤ 6 → ((1 : Int32) <<< (nI b &&& 31)) - 1 = nI (2 ^ b - 1) := fun b hb => by
          have key : ∀ b : Fin 7, ((1 : Int32) <<< (nI b.1 &&& 31)) - 1 = nI (2 ^ b.1 - 1) := by decide +kernel
          exact key ⟨b, by omega⟩
        have hpb : 2 ^ b ≤ 64 := Nat.pow_le_pow_right (n := 2) (by omega) hb
        have hpc : 2 ^ c ≤ 64 := Nat.pow_le_pow_right (n := 2) (by omega) hc
        have l1 : g &&& (2 ^ b - 1) ≤ g := Nat.and_le_left
        have l2 : g &&& (2 ^ c - 1) ≤ g := Nat.and_le_left
        have l3 : g &&& (2 ^ c - 1) &&& (1023 ^^^ (2 ^ b - 1)) ≤ g &&& (2 ^ c - 1) := Nat.and_le_left
        have l4 : g &&& (1023 ^^^ (2 ^ c - 1)) ≤ g := Nat.and_le_left
        unfold wX11_thickestCutAt
        rw [ez b hb, ez c hc]
        intro v1 e1 v2 e2
        subst e1; subst e2
        rw [z_and, z_and, andnot_n (by omega) (by omega), andnot_n (by omega) (by omega)]
        refine turnsC h (by omega) _ ?_
        refine turnsC h (by omega) _ ?_
        refine turnsC h (by omega) _ ?_
        have t1 := tsm_le hw (g &&& (2 ^ b - 1)) 6 (Nat.le_refl _)
        have t2 := tsm_le hw (g &&& (2 ^ c - 1) &&& (1023 ^^^ (2 ^ b - 1))) 6 (Nat.le_refl _)
        have t3 := tsm_le hw (g &&& (1023 ^^^ (2 ^ c - 1))) 6 (Nat.le_refl _)
        rw [max_eq, max_n (by omega) (by omega), max_eq, max_n (by omega) (by omega)]
        have eth : max (tsm S (g &&& (2 ^ b - 1)) 6) (max (tsm S (g &&& (2 ^ c - 1) &&& (1023 ^^^ (2 ^ b - 1))) 6) (tsm S (g &&& (1023 ^^^ (2 ^ c - 1))) 6)) = th3 S (m3C g b c) := rfl
        rw [eth]
        have hth := th3_le hw (m3C g b c)
        unfold stK at h9
        dsimp only at h9
        simp (disch := omega) only [z_lt_t, z_lt_f, z_le_t, z_le_f, z_eq_t, z_eq_f, z_lt0, z_lt1_t, z_lt1_f, z_lt2_t, z_lt2_f, z_le1_t, z_le1_f, z_le2_t, z_le2_f, z_eq1_t, z_eq1_f, z_eq2_t, z_eq2_f, z_lt1, z_lt2, z_le1, z_le2, z_eq1, z_eq2, z_lt, z_le, z_eq, z_in, z_cl, z_cl1, z_add, z_add1, z_addm, z_sub, z_subl, z_mul, z_mull, ↓forall_eq, ↓reduceIte, true_and, and_true, not_true_eq_false, not_false_eq_true, b2i_0, b2i_1, bz_b2i, bz_0, bz_1, nar_b2i, narb_0, narb_1, ↓within_eq, ↓lies_eq, i64i, zi0, zj0, zi1, zj1, zi2, zj2, zi3, zj3, zi4, zj4, zi5, zj5, zi6, zj6, zi7, zj7, zi8, zj8, zi9, zj9, zi10, zj10, zi12, zj12, zi13, zj13, zi19, zj19, zi20, zj20, zi21, zj21, zi29, zj29, zi30, zj30, zi39, zj39, zi48, zj48, zi50, zj50, zi57, zj57, zi60, zj60, zi63, zj63, zi65, zj65, zi71, zj71, zi72, zj72, zi73, zj73, zi74, zj74, zi80, zj80, zi97, zj97, zi98, zj98, zi99, zj99, zi100, zj100, zi106, zj106, zi240, zj240, zi255, zj255, zi260, zj260, zi300, zj300, zi999, zj999, zi1000, zj1000, zi1023, zj1023, zi1024, zj1024, zi9999, zj9999, zi65535, zj65535, zi65536, zj65536, z_tn, z_m1, z_m2, z_bt, z_bf, z_10, Bool.false_eq_true]
        by_cases z : th3 S (m3C g b c) < st.1
        · rw [if_pos z] at h9
          rw [if_neg (by omega)]
          unfold wX11_book_154 wX11_book_168 wX11_book_170
          by_cases y1 : v ≤ 1
          · rw [if_pos y1, if_pos (show v ≤ 2 by omega)] at h9
            rw [if_pos y1]
            simp (disch := omega) only [z_lt_t, z_lt_f, z_le_t, z_le_f, z_eq_t, z_eq_f, z_lt0, z_lt1_t, z_lt1_f, z_lt2_t, z_lt2_f, z_le1_t, z_le1_f, z_le2_t, z_le2_f, z_eq1_t, z_eq1_f, z_eq2_t, z_eq2_f, z_lt1, z_lt2, z_le1, z_le2, z_eq1, z_eq2, z_lt, z_le, z_eq, z_in, z_cl, z_cl1, z_add, z_add1, z_addm, z_sub, z_subl, z_mul, z_mull, ↓forall_eq, ↓reduceIte, true_and, and_true, not_true_eq_false, not_false_eq_true, b2i_0, b2i_1, bz_b2i, bz_0, bz_1, nar_b2i, narb_0, narb_1, ↓within_eq, ↓lies_eq, i64i, zi0, zj0, zi1, zj1, zi2, zj2, zi3, zj3, zi4, zj4, zi5, zj5, zi6, zj6, zi7, zj7, zi8, zj8, zi9, zj9, zi10, zj10, zi12, zj12, zi13, zj13, zi19, zj19, zi20, zj20, zi21, zj21, zi29, zj29, zi30, zj30, zi39, zj39, zi48, zj48, zi50, zj50, zi57, zj57, zi60, zj60, zi63, zj63, zi65, zj65, zi71, zj71, zi72, zj72, zi73, zj73, zi74, zj74, zi80, zj80, zi97, zj97, zi98, zj98, zi99, zj99, zi100, zj100, zi106, zj106, zi240, zj240, zi255, zj255, zi260, zj260, zi300, zj300, zi999, zj999, zi1000, zj1000, zi1023, zj1023, zi1024, zj1024, zi9999, zj9999, zi65535, zj65535, zi65536, zj65536, z_tn, z_m1, z_m2, z_bt, z_bf, z_10, Bool.false_eq_true]
            exact h9
          · rw [if_neg y1] at h9
            rw [if_neg y1]
            have eb : d7 b = nI b := if_neg (by omega)
            try simp (disch := omega) only [z_lt_t, z_lt_f, z_le_t, z_le_f, z_eq_t, z_eq_f, z_lt0, z_lt1_t, z_lt1_f, z_lt2_t, z_lt2_f, z_le1_t, z_le1_f, z_le2_t, z_le2_f, z_eq1_t, z_eq1_f, z_eq2_t, z_eq2_f, z_lt1, z_lt2, z_le1, z_le2, z_eq1, z_eq2, z_lt, z_le, z_eq, z_in, z_cl, z_cl1, z_add, z_add1, z_addm, z_sub, z_subl, z_mul, z_mull, ↓forall_eq, ↓reduceIte, true_and, and_true, not_true_eq_false, not_false_eq_true, b2i_0, b2i_1, bz_b2i, bz_0, bz_1, nar_b2i, narb_0, narb_1, ↓within_eq, ↓lies_eq, i64i, zi0, zj0, zi1, zj1, zi2, zj2, zi3, zj3, zi4, zj4, zi5, zj5, zi6, zj6, zi7, zj7, zi8, zj8, zi9, zj9, zi10, zj10, zi12, zj12, zi13, zj13, zi19, zj19, zi20, zj20, zi21, zj21, zi29, zj29, zi30, zj30, zi39, zj39, zi48, zj48, zi50, zj50, zi57, zj57, zi60, zj60, zi63, zj63, zi65, zj65, zi71, zj71, zi72, zj72, zi73, zj73, zi74, zj74, zi80, zj80, zi97, zj97, zi98, zj98, zi99, zj99, zi100, zj100, zi106, zj106, zi240, zj240, zi255, zj255, zi260, zj260, zi300, zj300, zi999, zj999, zi1000, zj1000, zi1023, zj1023, zi1024, zj1024, zi9999, zj9999, zi65535, zj65535, zi65536, zj65536, z_tn, z_m1, z_m2, z_bt, z_bf, z_10, Bool.false_eq_true]
            by_cases y2 : v ≤ 2
            · rw [if_pos y2] at h9 ⊢
              rw [show ((th3 S (m3C g b c), b, 7) : Nat × Nat × Nat).2.1 = b from rfl, eb] at h9
              exact h9
            · rw [if_neg y2] at h9 ⊢
              have ec : d7 c = nI c := if_neg (by omega)
              rw [show ((th3 S (m3C g b c), b, c) : Nat × Nat × Nat).2.1 = b from rfl, show ((th3 S (m3C g b c), b, c) : Nat × Nat × Nat).2.2 = c from rfl, eb, ec] at h9
              exact h9
        · rw [if_neg z] at h9
          rw [if_pos (by omega)]
          exact h9
      · rw [if_neg q] at hK
        rw [if_neg q]
        have h9 := ih (c + 1) st (by omega) hs hK
        try simp (disch := omega) only [z_lt_t, z_lt_f, z_le_t, z_le_f, z_eq_t, z_eq_f, z_lt0, z_lt1_t, z_lt1_f, z_lt2_t, z_lt2_f, z_le1_t, z_le1_f, z_le2_t, z_le2_f, z_eq1_t, z_eq1_f, z_eq2_t, z_eq2_f, z_lt1, z_lt2, z_le1, z_le2, z_eq1, z_eq2, z_lt, z_le, z_eq, z_in, z_cl, z_cl1, z_add, z_add1, z_addm, z_sub, z_subl, z_mul, z_mull, ↓forall_eq, ↓reduceIte, true_and, and_true, not_true_eq_false, not_false_eq_true, b2i_0, b2i_1, bz_b2i, bz_0, bz_1, nar_b2i, narb_0, narb_1, ↓within_eq, ↓lies_eq, i64i, zi0, zj0, zi1, zj1, zi2, zj2, zi3, zj3, zi4, zj4, zi5, zj5, zi6, zj6, zi7, zj7, zi8, zj8, zi9, zj9, zi10, zj10, zi12, zj12, zi13, zj13, zi19, zj19, zi20, zj20, zi21, zj21, zi29, zj29, zi30, zj30, zi39, zj39, zi48, zj48, zi50, zj50, zi57, zj57, zi60, zj60, zi63, zj63, zi65, zj65, zi71, zj71, zi72, zj72, zi73, zj73, zi74, zj74, zi80, zj80, zi97, zj97, zi98, zj98, zi99, zj99, zi100, zj100, zi106, zj106, zi240, zj240, zi255, zj255, zi260, zj260, zi300, zj300, zi999, zj999, zi1000, zj1000, zi1023, zj1023, zi1024, zj1024, zi9999, zj9999, zi65535, zj65535, zi65536, zj65536, z_tn, z_m1, z_m2, z_bt, z_bf, z_10, Bool.false_eq_true]
        exact h9
  have st_le : ∀ (L : List xK) (st : Nat × Nat × Nat), st.1 ≤ 433 → (L.foldl (stK S) st).1 ≤ 433 := by
    intro L
    induction L with
    | nil => intro st hs; exact hs
    | cons k r ih =>
      intro st hs
      refine ih _ ?_
      unfold stK
      split
      · have := th3_le hw k.1
        dsimp only
        omega
      · exact hs
  have key : ∀ (m b : Nat) (st : Nat × Nat × Nat), 1 ≤ b → b + m = 7 → st.1 ≤ 433 → post (if a2 = 0 then nI ((lCo g v m b).foldl (stK S) st).1 else if a2 = 1 then d7 ((lCo g v m b).foldl (stK S) st).2.1 else d7 ((lCo g v m b).foldl (stK S) st).2.2) C → wX11_book_73 post (m + 1) (nI g) (nI v) a2 (nI st.1) (d7 st.2.1) (d7 st.2.2) (nI b) C := by
    intro m
    induction m with
    | zero =>
      intro b st h1 e hs hp
      have : b = 7 := by omega
      subst this
      rw [wX11_book_73]; dsimp only
      rw [if_pos (show (6 : Int32) < nI 7 by decide)]
      have hp2 : post (if a2 = 0 then nI st.1 else if a2 = 1 then d7 st.2.1 else d7 st.2.2) C := hp
      by_cases z : a2 = 0
      · rw [if_pos z] at hp2 ⊢; exact hp2
      · rw [if_neg z] at hp2 ⊢
        by_cases z : a2 = 1
        · rw [if_pos z] at hp2 ⊢; exact hp2
        · rw [if_neg z] at hp2 ⊢; exact hp2
    | succ m ih =>
      intro b st h1 e hs hp
      rw [wX11_book_73]; dsimp only
      rw [if_neg (show ¬ (6 : Int32) < nI b from nI_nlt (a := 6) (by omega) (by omega))]
      unfold lCo at hp
      simp only [List.foldl_append] at hp
      exact ⟨7 - b + 1, inn _ b h1 (by omega) (7 - b) b st (by omega) hs (ih (b + 1) _ (by omega) (by omega) (st_le _ _ hs) hp)⟩
  exact key 6 1 st0 (Nat.le_refl _) rfl h0.1 hp
