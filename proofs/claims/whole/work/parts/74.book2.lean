theorem tsm_sl (S : Nat → List Nat) (m : Nat) : ∀ n, tsm S m n = ((slN m n).map (fun k => (S k).length)).sum := by
  intro n
  induction n with
  | zero => rfl
  | succ n ih =>
    unfold tsm
    rw [slN_s]
    by_cases h : m.testBit n = true
    · rw [if_pos h, if_pos h, List.map_append, List.sum_append, ih]
      simp
    · rw [if_neg h, if_neg h, ih]
def mkL (L : List Nat) : Nat := L.foldl (fun a k => a ||| 2 ^ k) 0
/-- the stories at places f to t (not t) of those that are set -/
def seg (g f t : Nat) : List Nat := ((slN g 10).drop f).take (t - f)
theorem seg_mk {g f t : Nat} (hg : g < 64) (hf : f ≤ 6) (ht : t ≤ 6) : seg g f t = slN (mkL (seg g f t)) 6 := by
  have key : ∀ g : Fin 64, ∀ f t : Fin 7, seg g.1 f.1 t.1 = slN (mkL (seg g.1 f.1 t.1)) 6 := by decide +kernel
  exact key ⟨g, hg⟩ ⟨f, by omega⟩ ⟨t, by omega⟩
theorem sl6 {g : Nat} (hg : g < 64) : (slN g 10).length ≤ 6 ∧ ∀ i, i < (slN g 10).length → (slN g 10).getD i 0 < 6 ∧ g.testBit ((slN g 10).getD i 0) = true := by
  have key : ∀ g : Fin 64, (slN g.1 10).length ≤ 6 ∧ ∀ i : Fin 6, i.1 < (slN g.1 10).length → (slN g.1 10).getD i.1 0 < 6 ∧ g.1.testBit ((slN g.1 10).getD i.1 0) = true := by decide +kernel
  obtain ⟨a, b⟩ := key ⟨g, hg⟩
  have a' : (slN g 10).length ≤ 6 := a
  exact ⟨a, fun i hi => b ⟨i, by omega⟩ hi⟩
theorem pagesM {S : Nat → List Nat} {M : xMem} (h : ∀ k, k < 6 → wfS (S k) ∧ SM (S k) k M) {g : Nat} (hg : g < 64) (h56 : ∀ i, i < (slN g 10).length → gi M 56 i = nI ((slN g 10).getD i 0)) {f t : Nat} (hf : f ≤ t) (ht : t ≤ (slN g 10).length) (post : Int32 → xMem → Prop) (hp : post (nI (tsm S (mkL (seg g f t)) 6)) M) : wX12_pagesOf (nI f) (nI t) M post := by
  obtain ⟨l6, lk⟩ := sl6 hg
  have e0 : tsm S (mkL (seg g f t)) 6 = (((((slN g 10).drop f).take (t - f))).map (fun k => (S k).length)).sum := by
    rw [tsm_sl, ← seg_mk hg (by omega) (by omega)]
    rfl
  have key : ∀ (m i a : Nat), f ≤ i → i + m = t → a ≤ 72 * i → a + ((((slN g 10).drop i).take (t - i)).map (fun k => (S k).length)).sum = tsm S (mkL (seg g f t)) 6 → wX12_pagesOf_5 post (m + 1) (nI t) (nI a) (nI i) M := by
    intro m
    induction m with
    | zero =>
      intro i a hi e ha hs
      have : i = t := by omega
      subst this
      rw [wX12_pagesOf_5]; dsimp only
      rw [if_pos (nI_le (Nat.le_refl _) (by omega))]
      rw [Nat.sub_self, List.take_zero] at hs
      have : a = tsm S (mkL (seg g f i)) 6 := by simpa using hs
      rw [this]; exact hp
    | succ m ih =>
      intro i a hi e ha hs
      have hil : i < (slN g 10).length := by omega
      have hk := (lk i hil).1
      have hS := h _ hk
      have hl := hS.1.1
      rw [wX12_pagesOf_5]; dsimp only
      simp (disch := omega) only [z_lt_t, z_lt_f, z_le_t, z_le_f, z_eq_t, z_eq_f, z_lt0, z_lt1_t, z_lt1_f, z_lt2_t, z_lt2_f, z_le1_t, z_le1_f, z_le2_t, z_le2_f, z_eq1_t, z_eq1_f, z_eq2_t, z_eq2_f, z_lt1, z_lt2, z_le1, z_le2, z_eq1, z_eq2, z_lt, z_le, z_eq, z_in, z_cl, z_cl1, z_add, z_add1, z_addm, z_sub, z_subl, z_mul, z_mull, ↓forall_eq, ↓reduceIte, true_and, and_true, not_true_eq_false, not_false_eq_true, b2i_0, b2i_1, bz_b2i, bz_0, bz_1, nar_b2i, narb_0, narb_1, ↓within_eq, ↓lies_eq, i64i, zi0, zj0, zi1, zj1, zi2, zj2, zi3, zj3, zi4, zj4, zi5, zj5, zi6, zj6, zi7, zj7, zi8, zj8, zi9, zj9, zi10, zj10, zi12, zj12, zi13, zj13, zi19, zj19, zi20, zj20, zi21, zj21, zi29, zj29, zi30, zj30, zi39, zj39, zi48, zj48, zi50, zj50, zi57, zj57, zi60, zj60, zi63, zj63, zi65, zj65, zi71, zj71, zi72, zj72, zi73, zj73, zi74, zj74, zi80, zj80, zi97, zj97, zi98, zj98, zi99, zj99, zi100, zj100, zi106, zj106, zi240, zj240, zi255, zj255, zi260, zj260, zi300, zj300, zi999, zj999, zi1000, zj1000, zi1023, zj1023, zi1024, zj1024, zi9999, zj9999, zi65535, zj65535, zi65536, zj65536, z_tn, z_m1, z_m2, z_bt, z_bf, z_10, Bool.false_eq_true, h56 i hil, hS.2.1]
      refine ih (i + 1) _ (by omega) (by omega) (by omega) ?_
      rw [← hs]
      have e1 : ((slN g 10).drop i).take (t - i) = (slN g 10).getD i 0 :: ((slN g 10).drop (i + 1)).take (t - (i + 1)) := by
        rw [List.drop_eq_getElem_cons hil, show t - i = (t - (i + 1)) + 1 by omega, List.take_succ_cons]
        congr 1
        rw [List.getD_eq_getElem?_getD, List.getElem?_eq_getElem hil]
        rfl
      rw [e1, List.map_cons, List.sum_cons]
      omega
  exact ⟨t - f + 1, key (t - f) f 0 (Nat.le_refl _) (by omega) (Nat.zero_le _) (by rw [e0]; omega)⟩
def isv (v n a b : Nat) : Bool := if v = 1 then decide (a = n) && decide (b = n) else if v = 2 then decide (a < n) && decide (b = n) else decide (a < b) && decide (b < n)
def m3M (g n a b : Nat) : Nat × Nat × Nat := (mkL (seg g 0 a), mkL (seg g a b), mkL (seg g b n))
def lMi (g v n a : Nat) : Nat → Nat → List xK
  | 0, _ => []
  | m + 1, b => (if isv v n a b = true then [(m3M g n a b, a, b)] else []) ++ lMi g v n a m (b + 1)
def lMo (g v n : Nat) : Nat → Nat → List xK
  | 0, _ => []
  | m + 1, a => lMi g v n a (n + 1 - a) a ++ lMo g v n m (a + 1)
def sa7 (g x : Nat) : Nat := (slN g 10).getD x 7
def fk (g : Nat) (k : xK) : xK := (k.1, sa7 g k.2.1, sa7 g k.2.2)
def fs (g : Nat) (st : Nat × Nat × Nat) : Nat × Nat × Nat := (st.1, sa7 g st.2.1, sa7 g st.2.2)
theorem fold_f (S : Nat → List Nat) (g : Nat) : ∀ (L : List xK) (st : Nat × Nat × Nat), (L.map (fk g)).foldl (stK S) (fs g st) = fs g (L.foldl (stK S) st) := by
  intro L
  induction L with
  | nil => intro st; rfl
  | cons k r ih =>
    intro st
    have : stK S (fs g st) (fk g k) = fs g (stK S st k) := by
      unfold stK
      by_cases h : th3 S k.1 < st.1
      · rw [if_pos h, if_pos (show th3 S (fk g k).1 < (fs g st).1 from h)]; rfl
      · rw [if_neg h, if_neg (show ¬ th3 S (fk g k).1 < (fs g st).1 from h)]
    show ((r.map (fk g)).foldl (stK S) (stK S (fs g st) (fk g k))) = _
    rw [this]
    exact ih _
theorem cuts_eq {g v : Nat} (hg : g < 64) (h1 : 1 ≤ v) (h2 : v ≤ 3) (h3 : v ≤ (slN g 10).length) : lCo g v 6 1 = (lMo g v (slN g 10).length (slN g 10).length 1).map (fk g) ∧ lCo g v 6 1 ≠ [] := by
  have key : ∀ g : Fin 64, ∀ v : Fin 4, 1 ≤ v.1 → v.1 ≤ (slN g.1 10).length → lCo g.1 v.1 6 1 = (lMo g.1 v.1 (slN g.1 10).length (slN g.1 10).length 1).map (fk g.1) ∧ lCo g.1 v.1 6 1 ≠ [] := by decide +kernel
  exact key ⟨g, hg⟩ ⟨v, by omega⟩ h1 h3
theorem fold_0 {S : Nat → List Nat} (hw : ∀ k, k < 6 → wfS (S k)) {L : List xK} (hL : L ≠ []) {s s' : Nat × Nat × Nat} (h : 433 ≤ s.1) (h' : 433 ≤ s'.1) : L.foldl (stK S) s = L.foldl (stK S) s' := by
  cases L with
  | nil => exact absurd rfl hL
  | cons k r =>
    have := th3_le hw k.1
    show r.foldl (stK S) (stK S s k) = r.foldl (stK S) (stK S s' k)
    unfold stK
    rw [if_pos (by omega), if_pos (by omega)]
theorem d7_n {n : Nat} (h : n < 7) : d7 n = nI n := if_neg (by omega)
theorem bookM {S : Nat → List Nat} {M : xMem} (h : ∀ k, k < 6 → wfS (S k) ∧ SM (S k) k M) {g v : Nat} (hg : g < 64) (h56 : ∀ i, i < (slN g 10).length → gi M 56 i = nI ((slN g 10).getD i 0)) (hv1 : 1 ≤ v) (hv : v ≤ 3) (hn1 : 1 ≤ (slN g 10).length) (a2 : Int32) (post : Int32 → xMem → Prop) (hp : post (if a2 = 0 then nI ((lMo g v (slN g 10).length (slN g 10).length 1).foldl (stK S) (1000000000, (slN g 10).length, (slN g 10).length)).1 else if a2 = 1 then d7 (sa7 g ((lMo g v (slN g 10).length (slN g 10).length 1).foldl (stK S) (1000000000, (slN g 10).length, (slN g 10).length)).2.1) else d7 (sa7 g ((lMo g v (slN g 10).length (slN g 10).length 1).foldl (stK S) (1000000000, (slN g 10).length, (slN g 10).length)).2.2)) M) : ∃ n68, wX12_book_68 post n68 (nI v) a2 (nI (slN g 10).length) 1000000000 (nI (slN g 10).length) (nI (slN g 10).length) 1 M := by
  obtain ⟨l6, lk⟩ := sl6 hg
  have hw : ∀ k, k < 6 → wfS (S k) := fun k hk => (h k hk).1
  have stok : ∀ (L : List xK) (st : Nat × Nat × Nat), (st.1 ≤ 1000000000 ∧ st.2.1 ≤ (slN g 10).length ∧ st.2.2 ≤ (slN g 10).length) → (∀ k ∈ L, k.2.1 ≤ (slN g 10).length ∧ k.2.2 ≤ (slN g 10).length) → ((L.foldl (stK S) st).1 ≤ 1000000000 ∧ (L.foldl (stK S) st).2.1 ≤ (slN g 10).length ∧ (L.foldl (stK S) st).2.2 ≤ (slN g 10).length) := by
    intro L
    induction L with
    | nil => intro st hs _; exact hs
    | cons k r ih =>
      intro st hs hk
      refine ih _ ?_ (fun k' hk' => hk k' (List.mem_cons_of_mem _ hk'))
      have := hk k List.mem_cons_self
      unfold stK
      split
      · have := th3_le hw k.1
        dsimp only
        omega
      · exact hs
  have lin : ∀ a, a ≤ (slN g 10).length → ∀ m b, b + m = (slN g 10).length + 1 → ∀ k ∈ lMi g v (slN g 10).length a m b, k.2.1 ≤ (slN g 10).length ∧ k.2.2 ≤ (slN g 10).length := by
    intro a ha m
    induction m with
    | zero => intro b e k hk; cases hk
    | succ m ih =>
      intro b e k hk
      unfold lMi at hk
      rcases List.mem_append.mp hk with q | q
      · split at q
        · rcases List.mem_cons.mp q with q | q
          · subst q; exact ⟨ha, by show b ≤ _; omega⟩
          · cases q
        · cases q
      · exact ih (b + 1) (by omega) k q
  have inn : ∀ (K68 : Int32 → Int32 → Int32 → Int32 → Int32 → Int32 → Int32 → xMem → Prop) (a : Nat), 1 ≤ a → a ≤ (slN g 10).length → ∀ (m b : Nat) (st : Nat × Nat × Nat), a ≤ b → b + m = (slN g 10).length + 1 → (st.1 ≤ 1000000000 ∧ st.2.1 ≤ (slN g 10).length ∧ st.2.2 ≤ (slN g 10).length) → K68 (nI v) a2 (nI (slN g 10).length) (nI ((lMi g v (slN g 10).length a m b).foldl (stK S) st).1) (nI ((lMi g v (slN g 10).length a m b).foldl (stK S) st).2.1) (nI ((lMi g v (slN g 10).length a m b).foldl (stK S) st).2.2) (nI (a + 1)) M → wX12_book_79 K68 post (m + 1) (nI v) a2 (nI (slN g 10).length) (nI st.1) (nI st.2.1) (nI st.2.2) (nI a) (nI b) M := by
    intro K68 a ha1 ha m
    induction m with
    | zero =>
      intro b st hab e hs hK
      have : b = (slN g 10).length + 1 := by omega
      subst this
      rw [wX12_book_79]; dsimp only
      simp (disch := omega) only [z_lt_t, z_lt_f, z_le_t, z_le_f, z_eq_t, z_eq_f, z_lt0, z_lt1_t, z_lt1_f, z_lt2_t, z_lt2_f, z_le1_t, z_le1_f, z_le2_t, z_le2_f, z_eq1_t, z_eq1_f, z_eq2_t, z_eq2_f, z_lt1, z_lt2, z_le1, z_le2, z_eq1, z_eq2, z_lt, z_le, z_eq, z_in, z_cl, z_cl1, z_add, z_add1, z_addm, z_sub, z_subl, z_mul, z_mull, ↓forall_eq, ↓reduceIte, true_and, and_true, not_true_eq_false, not_false_eq_true, b2i_0, b2i_1, bz_b2i, bz_0, bz_1, nar_b2i, narb_0, narb_1, ↓within_eq, ↓lies_eq, i64i, zi0, zj0, zi1, zj1, zi2, zj2, zi3, zj3, zi4, zj4, zi5, zj5, zi6, zj6, zi7, zj7, zi8, zj8, zi9, zj9, zi10, zj10, zi12, zj12, zi13, zj13, zi19, zj19, zi20, zj20, zi21, zj21, zi29, zj29, zi30, zj30, zi39, zj39, zi48, zj48, zi50, zj50, zi57, zj57, zi60, zj60, zi63, zj63, zi65, zj65, zi71, zj71, zi72, zj72, zi73, zj73, zi74, zj74, zi80, zj80, zi97, zj97, zi98, zj98, zi99, zj99, zi100, zj100, zi106, zj106, zi240, zj240, zi255, zj255, zi260, zj260, zi300, zj300, zi999, zj999, zi1000, zj1000, zi1023, zj1023, zi1024, zj1024, zi9999, zj9999, zi65535, zj65535, zi65536, zj65536, z_tn, z_m1, z_m2, z_bt, z_bf, z_10, Bool.false_eq_true]
      exact hK
    | succ m ih =>
      intro b st hab e hs hK
      have hb : b ≤ (slN g 10).length := by omega
      rw [wX12_book_79]; dsimp only
      unfold lMi at hK
      rw [List.foldl_append] at hK
      have t1 := th3_le hw (m3M g (slN g 10).length a b)
      have b1 := tsm_le hw (mkL (seg g 0 a)) 6 (Nat.le_refl _)
      have b2 := tsm_le hw (mkL (seg g a b)) 6 (Nat.le_refl _)
      have b3 := tsm_le hw (mkL (seg g b (slN g 10).length)) 6 (Nat.le_refl _)
      have fin : wX12_book_159 K68 (wX12_book_79 K68 post (m + 1)) post (nI v) a2 (nI (slN g 10).length) (nI st.1) (nI st.2.1) (nI st.2.2) (nI a) (nI b) (b2i (isv v (slN g 10).length a b = true)) M := by
        unfold wX12_book_159 wX12_book_219
        refine pagesM h hg h56 (Nat.zero_le a) ha _ ?_
        refine pagesM h hg h56 hab hb _ ?_
        refine pagesM h hg h56 hb (Nat.le_refl _) _ ?_
        rw [higher_eq (by omega) (by omega), higher_eq (by omega) (by omega)]
        have eth : max (tsm S (mkL (seg g 0 a)) 6) (max (tsm S (mkL (seg g a b)) 6) (tsm S (mkL (seg g b (slN g 10).length)) 6)) = th3 S (m3M g (slN g 10).length a b) := rfl
        rw [eth]
        by_cases q : isv v (slN g 10).length a b = true
        · rw [if_pos q] at hK
          rw [b2i_t q, if_neg (by decide)]
          have h9 := ih (b + 1) (stK S st (m3M g (slN g 10).length a b, a, b)) (by omega) (by omega) (by
            unfold stK
            split
            · dsimp only; omega
            · exact hs) hK
          unfold stK at h9
          dsimp only at h9
          simp (disch := omega) only [z_lt_t, z_lt_f, z_le_t, z_le_f, z_eq_t, z_eq_f, z_lt0, z_lt1_t, z_lt1_f, z_lt2_t, z_lt2_f, z_le1_t, z_le1_f, z_le2_t, z_le2_f, z_eq1_t, z_eq1_f, z_eq2_t, z_eq2_f, z_lt1, z_lt2, z_le1, z_le2, z_eq1, z_eq2, z_lt, z_le, z_eq, z_in, z_cl, z_cl1, z_add, z_add1, z_addm, z_sub, z_subl, z_mul, z_mull, ↓forall_eq, ↓reduceIte, true_and, and_true, not_true_eq_false, not_false_eq_true, b2i_0, b2i_1, bz_b2i, bz_0, bz_1, nar_b2i, narb_0, narb_1, ↓within_eq, ↓lies_eq, i64i, zi0, zj0, zi1, zj1, zi2, zj2, zi3, zj3, zi4, zj4, zi5, zj5, zi6, zj6, zi7, zj7, zi8, zj8, zi9, zj9, zi10, zj10, zi12, zj12, zi13, zj13, zi19, zj19, zi20, zj20, zi21, zj21, zi29, zj29, zi30, zj30, zi39, zj39, zi48, zj48, zi50, zj50, zi57, zj57, zi60, zj60, zi63, zj63, zi65, zj65, zi71, zj71, zi72, zj72, zi73, zj73, zi74, zj74, zi80, zj80, zi97, zj97, zi98, zj98, zi99, zj99, zi100, zj100, zi106, zj106, zi240, zj240, zi255, zj255, zi260, zj260, zi300, zj300, zi999, zj999, zi1000, zj1000, zi1023, zj1023, zi1024, zj1024, zi9999, zj9999, zi65535, zj65535, zi65536, zj65536, z_tn, z_m1, z_m2, z_bt, z_bf, z_10, Bool.false_eq_true]
          by_cases z : th3 S (m3M g (slN g 10).length a b) < st.1
          · rw [if_pos z] at h9 ⊢; exact h9
          · rw [if_neg z] at h9 ⊢; exact h9
        · rw [if_neg q] at hK
          rw [b2i_f q, if_pos rfl]
          have h9 := ih (b + 1) st (by omega) (by omega) hs hK
          simp (disch := omega) only [z_lt_t, z_lt_f, z_le_t, z_le_f, z_eq_t, z_eq_f, z_lt0, z_lt1_t, z_lt1_f, z_lt2_t, z_lt2_f, z_le1_t, z_le1_f, z_le2_t, z_le2_f, z_eq1_t, z_eq1_f, z_eq2_t, z_eq2_f, z_lt1, z_lt2, z_le1, z_le2, z_eq1, z_eq2, z_lt, z_le, z_eq, z_in, z_cl, z_cl1, z_add, z_add1, z_addm, z_sub, z_subl, z_mul, z_mull, ↓forall_eq, ↓reduceIte, true_and, and_true, not_true_eq_false, not_false_eq_true, b2i_0, b2i_1, bz_b2i, bz_0, bz_1, nar_b2i, narb_0, narb_1, ↓within_eq, ↓lies_eq, i64i, zi0, zj0, zi1, zj1, zi2, zj2, zi3, zj3, zi4, zj4, zi5, zj5, zi6, zj6, zi7, zj7, zi8, zj8, zi9, zj9, zi10, zj10, zi12, zj12, zi13, zj13, zi19, zj19, zi20, zj20, zi21, zj21, zi29, zj29, zi30, zj30, zi39, zj39, zi48, zj48, zi50, zj50, zi57, zj57, zi60, zj60, zi63, zj63, zi65, zj65, zi71, zj71, zi72, zj72, zi73, zj73, zi74, zj74, zi80, zj80, zi97, zj97, zi98, zj98, zi99, zj99, zi100, zj100, zi106, zj106, zi240, zj240, zi255, zj255, zi260, zj260, zi300, zj300, zi999, zj999, zi1000, zj1000, zi1023, zj1023, zi1024, zj1024, zi9999, zj9999, zi65535, zj65535, zi65536, zj65536, z_tn, z_m1, z_m2, z_bt, z_bf, z_10, Bool.false_eq_true]
          exact h9
      unfold wX12_book_109 wX12_book_136 wX12_book_158
      unfold isv at fin
      simp (disch := omega) only [z_lt_t, z_lt_f, z_le_t, z_le_f, z_eq_t, z_eq_f, z_lt0, z_lt1_t, z_lt1_f, z_lt2_t, z_lt2_f, z_le1_t, z_le1_f, z_le2_t, z_le2_f, z_eq1_t, z_eq1_f, z_eq2_t, z_eq2_f, z_lt1, z_lt2, z_le1, z_le2, z_eq1, z_eq2, z_lt, z_le, z_eq, z_in, z_cl, z_cl1, z_add, z_add1, z_addm, z_sub, z_subl, z_mul, z_mull, ↓forall_eq, ↓reduceIte, true_and, and_true, not_true_eq_false, not_false_eq_true, b2i_0, b2i_1, bz_b2i, bz_0, bz_1, nar_b2i, narb_0, narb_1, ↓within_eq, ↓lies_eq, i64i, zi0, zj0, zi1, zj1, zi2, zj2, zi3, zj3, zi4, zj4, zi5, zj5, zi6, zj6, zi7, zj7, zi8, zj8, zi9, zj9, zi10, zj10, zi12, zj12, zi13, zj13, zi19, zj19, zi20, zj20, zi21, zj21, zi29, zj29, zi30, zj30, zi39, zj39, zi48, zj48, zi50, zj50, zi57, zj57, zi60, zj60, zi63, zj63, zi65, zj65, zi71, zj71, zi72, zj72, zi73, zj73, zi74, zj74, zi80, zj80, zi97, zj97, zi98, zj98, zi99, zj99, zi100, zj100, zi106, zj106, zi240, zj240, zi255, zj255, zi260, zj260, zi300, zj300, zi999, zj999, zi1000, zj1000, zi1023, zj1023, zi1024, zj1024, zi9999, zj9999, zi65535, zj65535, zi65536, zj65536, z_tn, z_m1, z_m2, z_bt, z_bf, z_10, Bool.false_eq_true]
      by_cases v1 : v = 1
      · subst v1
        rw [if_pos rfl]
        rw [if_pos rfl] at fin
        by_cases y1 : a = (slN g 10).length
        · rw [if_pos y1]
          by_cases y2 : b = (slN g 10).length
          · rw [b2i_t (by simp [y1, y2])] at fin
            exact fin
          · omega
        · rw [if_neg y1]
          rw [b2i_f (by simp [y1])] at fin
          exact fin
      · rw [if_neg v1] at fin ⊢
        by_cases v2 : v = 2
        · rw [if_pos v2] at fin ⊢
          by_cases y1 : (slN g 10).length ≤ a
          · rw [if_pos y1]
            rw [b2i_f (by simp; omega)] at fin
            exact fin
          · rw [if_neg y1]
            by_cases y2 : b = (slN g 10).length
            · rw [if_pos y2]
              rw [b2i_t (by simp [y2]; omega)] at fin
              exact fin
            · rw [if_neg y2]
              rw [b2i_f (by simp [y2])] at fin
              exact fin
        · rw [if_neg v2] at fin ⊢
          by_cases y1 : b ≤ a
          · rw [if_pos y1]
            rw [b2i_f (by simp; omega)] at fin
            exact fin
          · rw [if_neg y1]
            by_cases y2 : (slN g 10).length ≤ b
            · rw [if_pos y2]
              rw [b2i_f (by simp; omega)] at fin
              exact fin
            · rw [if_neg y2]
              rw [b2i_t (by simp; omega)] at fin
              exact fin
  have s7 : ∀ x, x ≤ (slN g 10).length → ∀ P : Int32 → xMem → Prop, P (d7 (sa7 g x)) M → wX12_book_250 P (nI (slN g 10).length) (nI x) M := by
    intro x hx P hP
    unfold wX12_book_250
    by_cases z : x < (slN g 10).length
    · simp (disch := omega) only [z_lt_t, z_lt_f, z_le_t, z_le_f, z_eq_t, z_eq_f, z_lt0, z_lt1_t, z_lt1_f, z_lt2_t, z_lt2_f, z_le1_t, z_le1_f, z_le2_t, z_le2_f, z_eq1_t, z_eq1_f, z_eq2_t, z_eq2_f, z_lt1, z_lt2, z_le1, z_le2, z_eq1, z_eq2, z_lt, z_le, z_eq, z_in, z_cl, z_cl1, z_add, z_add1, z_addm, z_sub, z_subl, z_mul, z_mull, ↓forall_eq, ↓reduceIte, true_and, and_true, not_true_eq_false, not_false_eq_true, b2i_0, b2i_1, bz_b2i, bz_0, bz_1, nar_b2i, narb_0, narb_1, ↓within_eq, ↓lies_eq, i64i, zi0, zj0, zi1, zj1, zi2, zj2, zi3, zj3, zi4, zj4, zi5, zj5, zi6, zj6, zi7, zj7, zi8, zj8, zi9, zj9, zi10, zj10, zi12, zj12, zi13, zj13, zi19, zj19, zi20, zj20, zi21, zj21, zi29, zj29, zi30, zj30, zi39, zj39, zi48, zj48, zi50, zj50, zi57, zj57, zi60, zj60, zi63, zj63, zi65, zj65, zi71, zj71, zi72, zj72, zi73, zj73, zi74, zj74, zi80, zj80, zi97, zj97, zi98, zj98, zi99, zj99, zi100, zj100, zi106, zj106, zi240, zj240, zi255, zj255, zi260, zj260, zi300, zj300, zi999, zj999, zi1000, zj1000, zi1023, zj1023, zi1024, zj1024, zi9999, zj9999, zi65535, zj65535, zi65536, zj65536, z_tn, z_m1, z_m2, z_bt, z_bf, z_10, Bool.false_eq_true, h56 x z]
      have := (lk x z).1
      have e2 : sa7 g x = (slN g 10).getD x 0 := by
        unfold sa7
        rw [List.getD_eq_getElem?_getD, List.getD_eq_getElem?_getD, List.getElem?_eq_getElem z]
        rfl
      rw [e2, d7_n (by omega)] at hP
      exact hP
    · have : x = (slN g 10).length := by omega
      subst this
      simp (disch := omega) only [z_lt_t, z_lt_f, z_le_t, z_le_f, z_eq_t, z_eq_f, z_lt0, z_lt1_t, z_lt1_f, z_lt2_t, z_lt2_f, z_le1_t, z_le1_f, z_le2_t, z_le2_f, z_eq1_t, z_eq1_f, z_eq2_t, z_eq2_f, z_lt1, z_lt2, z_le1, z_le2, z_eq1, z_eq2, z_lt, z_le, z_eq, z_in, z_cl, z_cl1, z_add, z_add1, z_addm, z_sub, z_subl, z_mul, z_mull, ↓forall_eq, ↓reduceIte, true_and, and_true, not_true_eq_false, not_false_eq_true, b2i_0, b2i_1, bz_b2i, bz_0, bz_1, nar_b2i, narb_0, narb_1, ↓within_eq, ↓lies_eq, i64i, zi0, zj0, zi1, zj1, zi2, zj2, zi3, zj3, zi4, zj4, zi5, zj5, zi6, zj6, zi7, zj7, zi8, zj8, zi9, zj9, zi10, zj10, zi12, zj12, zi13, zj13, zi19, zj19, zi20, zj20, zi21, zj21, zi29, zj29, zi30, zj30, zi39, zj39, zi48, zj48, zi50, zj50, zi57, zj57, zi60, zj60, zi63, zj63, zi65, zj65, zi71, zj71, zi72, zj72, zi73, zj73, zi74, zj74, zi80, zj80, zi97, zj97, zi98, zj98, zi99, zj99, zi100, zj100, zi106, zj106, zi240, zj240, zi255, zj255, zi260, zj260, zi300, zj300, zi999, zj999, zi1000, zj1000, zi1023, zj1023, zi1024, zj1024, zi9999, zj9999, zi65535, zj65535, zi65536, zj65536, z_tn, z_m1, z_m2, z_bt, z_bf, z_10, Bool.false_eq_true]
      have e2 : sa7 g (slN g 10).length = 7 := by
        unfold sa7
        rw [List.getD_eq_getElem?_getD, List.getElem?_eq_none (Nat.le_refl _)]
        rfl
      rw [e2] at hP
      exact hP
  have key : ∀ (m a : Nat) (st : Nat × Nat × Nat), 1 ≤ a → a + m = (slN g 10).length + 1 → (st.1 ≤ 1000000000 ∧ st.2.1 ≤ (slN g 10).length ∧ st.2.2 ≤ (slN g 10).length) → post (if a2 = 0 then nI ((lMo g v (slN g 10).length m a).foldl (stK S) st).1 else if a2 = 1 then d7 (sa7 g ((lMo g v (slN g 10).length m a).foldl (stK S) st).2.1) else d7 (sa7 g ((lMo g v (slN g 10).length m a).foldl (stK S) st).2.2)) M → wX12_book_68 post (m + 1) (nI v) a2 (nI (slN g 10).length) (nI st.1) (nI st.2.1) (nI st.2.2) (nI a) M := by
    intro m
    induction m with
    | zero =>
      intro a st h1 e hs hp
      have : a = (slN g 10).length + 1 := by omega
      subst this
      rw [wX12_book_68]; dsimp only
      rw [if_pos (nI_lt (by omega) (by omega))]
      have hp2 : post (if a2 = 0 then nI st.1 else if a2 = 1 then d7 (sa7 g st.2.1) else d7 (sa7 g st.2.2)) M := hp
      by_cases z : a2 = 0
      · rw [if_pos z] at hp2 ⊢; exact hp2
      · rw [if_neg z] at hp2 ⊢
        by_cases z : a2 = 1
        · rw [if_pos z] at hp2 ⊢; exact s7 _ hs.2.1 _ hp2
        · rw [if_neg z] at hp2 ⊢; exact s7 _ hs.2.2 _ hp2
    | succ m ih =>
      intro a st h1 e hs hp
      rw [wX12_book_68]; dsimp only
      rw [if_neg (nI_nlt (by omega) (by omega))]
      unfold lMo at hp
      simp only [List.foldl_append] at hp
      exact ⟨_, inn _ a h1 (by omega) ((slN g 10).length + 1 - a) a st (Nat.le_refl _) (by omega) hs (ih (a + 1) _ (by omega) (by omega) (stok _ _ hs (lin a (by omega) _ a (by omega))) hp)⟩
  exact ⟨_, key (slN g 10).length 1 (1000000000, (slN g 10).length, (slN g 10).length) (Nat.le_refl _) (by omega) ⟨Nat.le_refl _, Nat.le_refl _, Nat.le_refl _⟩ hp⟩
theorem book_ok {LL : xMem → xMem → Prop} (hLL : LLc LL) (a0 a1 a2 : Int32) (C M : xMem) (h : RRL LL C M) : wX11_book a0 a1 a2 C (fun r C' => wX12_book a0 a1 a2 M (fun r' M' => r = r' ∧ RRL LL C' M')) := by
  obtain ⟨⟨S, e, hl, hk, il, to, il2, to2, kp, tn, t, hR⟩, hL⟩ := id h
  have hC := fun k (hk6 : k < 6) => (⟨(hR.1 k hk6).1, (hR.1 k hk6).2.1⟩ : wfS (S k) ∧ SC (S k) k C)
  have hM := fun k (hk6 : k < 6) => (⟨(hR.1 k hk6).1, (hR.1 k hk6).2.2⟩ : wfS (S k) ∧ SM (S k) k M)
  have n1 : (1 : Int32) = nI 1 := rfl
  have n6 : (6 : Int32) = nI 6 := rfl
  have refN : (∀ g, okS S a0 g → ¬ (1 ≤ pc g ∧ pc g ≤ 6) ∨ ¬ (1 ≤ a1.toInt ∧ a1.toInt ≤ 3) ∨ (pc g : Int) < a1.toInt ∨ ¬ (0 ≤ a2.toInt ∧ a2.toInt ≤ 2)) → wX12_book a0 a1 a2 M (fun r' M' => (-1 : Int32) = r' ∧ RRL LL C M') := by
    intro hn
    unfold wX12_book
    rw [show wX12_areStories a0 1 6 M = wX12_areStories a0 (nI 1) (nI 6) M from rfl]
    refine areM (fun k hk => (hM k hk).2) a0 1 6 (by omega) (by omega) _ (fun g ho p1 p2 => ?_) (fun _ => ?_)
    · rw [if_neg (by decide), lies_eq, i64i, zj1, zj3]
      have h3 := hn g ho
      by_cases q1 : 1 ≤ a1.toInt ∧ a1.toInt ≤ 3
      rotate_left
      · rw [b2i_f q1, if_pos rfl]; exact ⟨rfl, h⟩
      rw [b2i_t q1, if_neg (by decide), ho.1]
      have hg := ho.2.2.1
      refine sizeOf_n (by omega) M _ ?_
      by_cases q2 : (pc g : Int) < a1.toInt
      · rw [if_pos (Int32.lt_iff_toInt_lt.mpr (by rw [nI_toInt (by omega)]; exact q2))]; exact ⟨rfl, h⟩
      rw [if_neg (fun z => q2 (by have := Int32.lt_iff_toInt_lt.mp z; rw [nI_toInt (by omega)] at this; exact this)), lies_eq, i64i, zj0, zj2]
      by_cases q3 : 0 ≤ a2.toInt ∧ a2.toInt ≤ 2
      · omega
      · rw [b2i_f q3, if_pos rfl]; exact ⟨rfl, h⟩
    · rw [if_pos rfl]; exact ⟨rfl, h⟩
  have c38 : ∀ post : Int32 → xMem → Prop, post (-1) C → wX11_book_38 post a0 a1 a2 C := fun post hp => by
    unfold wX11_book_38 wX11_book_39
    rw [if_pos rfl]; exact hp
  unfold wX11_book
  rw [bitCount_eq]
  rcases okS_c S a0 with ⟨g, ho, q0⟩ | ⟨hno, q0⟩
  rotate_left
  · rcases q0 with q0 | q0
    · rw [q0, show bc 0 = 0 by decide, if_pos (by decide), ← q0]
      exact c38 _ (refN (fun g ho => absurd ho (hno g)))
    · split
      · exact c38 _ (refN (fun g ho => absurd ho (hno g)))
      · refine areToldC hC a0 _ ?_
        rw [if_neg q0, if_pos rfl]
        exact c38 _ (refN (fun g ho => absurd ho (hno g)))
  obtain ⟨rfl, hg1, hg, hgt⟩ := id ho
  have hu : ∀ g', okS S (nI g) g' → g' = g := fun g' ho => ((nI_eq (by omega) (by have := ho.2.2.1; omega)).mp ho.1).symm
  have hpcg : (slN g 10).length = pc g := slN_pc (by omega)
  have hpc1 : 1 ≤ pc g := by
    have key : ∀ g : Fin 64, 1 ≤ g.1 → 1 ≤ pc g.1 := by decide +kernel
    exact key ⟨g, hg⟩ hg1
  have hpc6 := pc6 hg
  rw [bc_n (by omega), if_neg (show ¬ nI (pc g) < 1 from nI_nlt (b := 1) hpc1 (by omega))]
  refine areToldC hC _ _ ?_
  rw [if_pos q0, if_neg (by decide), min_eq, show (3 : Int32) = nI 3 from rfl, min_n (by omega) (by omega), within_eq, zi1, nI_toInt (by omega)]
  by_cases q1 : 1 ≤ a1.toInt ∧ a1.toInt ≤ ((min 3 (pc g) : Nat) : Int)
  rotate_left
  · rw [b2i_f q1, if_pos rfl]
    exact c38 _ (refN (fun g' ho' => by rw [hu g' ho']; omega))
  rw [b2i_t q1, if_neg (by decide)]
  obtain ⟨v, hv, rfl⟩ := at_n (a := a1) (n := 3) (by omega) (by decide)
  rw [nI_toInt (by omega)] at q1
  unfold wX11_book_39
  rw [if_neg (by decide), within_eq, zi0, zi2]
  by_cases q2 : 0 ≤ a2.toInt ∧ a2.toInt ≤ 2
  rotate_left
  · rw [b2i_f q2, if_pos rfl]
    exact refN (fun g' ho' => Or.inr (Or.inr (Or.inr q2)))
  rw [b2i_t q2, if_neg (by decide)]
  obtain ⟨hcut, hne⟩ := cuts_eq (g := g) (v := v) hg (by omega) hv (by omega)
  refine ⟨7, bookC hC hg hv a2 _ (433, 7, 7) ⟨Nat.le_refl _, Nat.le_refl _, Nat.le_refl _⟩ ?_⟩
  unfold wX12_book
  rw [show wX12_areStories (nI g) 1 6 M = wX12_areStories (nI g) (nI 1) (nI 6) M from rfl]
  refine areM (fun k hk => (hM k hk).2) (nI g) 1 6 (by omega) (by omega) _ (fun g' ho' p1 p2 => ?_) (fun z => absurd ⟨hpc1, hpc6⟩ (z g ho))
  rw [if_neg (by decide), lies_eq, i64i, zj1, zj3, nI_toInt (by omega), b2i_t (by omega), if_neg (by decide)]
  refine sizeOf_n (by omega) M _ ?_
  rw [if_neg (nI_nlt (by omega) (by omega)), lies_eq, i64i, zj0, zj2, b2i_t q2, if_neg (by decide)]
  refine takesM (by omega) _ (fun M' f1 f2 => ?_)
  have hM' := fun k (hk6 : k < 6) => (⟨(hM k hk6).1, SM_keep (fun c i _ _ => f1 c i (by omega)) (hM k hk6).2⟩ : wfS (S k) ∧ SM (S k) k M')
  refine bookM hM' hg f2 (by omega) hv (by omega) a2 _ ⟨?_, ?_⟩
  · have e1 : (lCo g v 6 1).foldl (stK S) (433, 7, 7) = fs g ((lMo g v (slN g 10).length (slN g 10).length 1).foldl (stK S) (1000000000, (slN g 10).length, (slN g 10).length)) := by
      rw [← fold_f, ← hcut]
      exact fold_0 (fun k hk6 => (hC k hk6).1) hne (Nat.le_refl _) (by show 433 ≤ 1000000000; omega)
    rw [e1]
    rfl
  · exact RRL_fr hLL h (fun _ _ _ => rfl) (fun c i hc => f1 c i (by unfold cntM at hc; omega))
