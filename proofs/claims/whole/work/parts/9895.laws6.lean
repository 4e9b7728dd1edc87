/-! a law asked, the class: its answers -/
theorem reckC {o to : Nat} {S : List Nat} {vals : Nat → Nat} {C0 : xMem} (hS : to ≤ S.length) (hS2 : S.length ≤ 240) (hb : ∀ w, w ∈ S → w < 2 ^ 27) (ho : o = 18 ∨ o = 25) (h1 : ∀ i, i < S.length → gi C0 (o + 5) i = nI (S.getD i 0)) (h2 : ∀ i, i < 12 → gi C0 77 i = nI (vals i)) {z : Nat} (hz : z ≤ to) {f : xF} (hR : (∀ v, f vals = some v → Rc S to vals (z, []) (to, [v])) ∧ (f vals = none → Rf S to vals (z, []))) (post : Int32 → xMem → Prop) (hp : ∀ C', (∀ c i, ¬ (c = o ∧ i = 8) → c ≠ o + 6 → gi C' c i = gi C0 c i) → post ((f vals).getD 0) C') : wX5_reckon o (nI z) (nI to) C0 post := by
  have step : ∀ q q1 : Nat × List Int32, q.1 < to → stL S vals q.1 q.2 = some q1 → (q1.2.length ≤ 64 → ∃ n, ∀ C, STc C0 o q1.2 C → wX5_reckon_15 o post n (nI to) (nI q1.2.length) (nI q1.1) C) → (q.2.length ≤ 64 → ∃ n, ∀ C, STc C0 o q.2 C → wX5_reckon_15 o post n (nI to) (nI q.2.length) (nI q.1) C) := by
    intro q q1 hlt e hp1 ht
    obtain ⟨n, hn⟩ := hp1 (stL_len e ht)
    refine ⟨n + 1, fun C hC => rk1 hS hS2 hb ho h1 h2 post hlt ht n hC (fun q' e' => ?_) (fun e' => ?_)⟩
    · rw [e] at e'
      cases e'
      exact hn
    · rw [e] at e'; cases e'
  unfold wX5_reckon
  intro M1 e1
  have emx : (if (0 : Int32) < nI z then nI z else 0) = nI z := by
    by_cases h0 : z = 0
    · subst h0; rfl
    · rw [if_pos (show (0 : Int32) < nI z from nI_lt (a := 0) (by omega) (by omega))]
  rw [max_eq, emx]
  have h0 : STc C0 o [] M1 := ⟨fun c i y1 y2 => by rw [e1, gi_si, if_neg y1], by rw [e1, g_same], trivial⟩
  match e : f vals with
  | some v =>
    rw [e] at hp
    obtain ⟨n, hn⟩ := (hR.1 v e) (fun q => q.2.length ≤ 64 → ∃ n, ∀ C, STc C0 o q.2 C → wX5_reckon_15 o post n (nI to) (nI q.2.length) (nI q.1) C) (fun _ => ⟨1, fun C hC => by
      show wX5_reckon_15 o post 1 (nI to) (nI 1) (nI to) C
      rw [wX5_reckon_15]; dsimp only
      rw [if_pos (nI_le (Nat.le_refl _) (by omega))]
      unfold wX5_reckon_277
      rw [if_pos hC.2.1, if_pos (show (1 : Int32) ≤ nI 1 by decide), show nI 1 - 1 = nI 0 by decide]
      refine ⟨vl (n := 0) (by decide) (by decide), ?_⟩
      rw [nI_clamp (by decide), show gi C (o + 6) 0 = v from hC.2.2.1]
      exact hp C hC.1⟩) step (Nat.zero_le _)
    exact ⟨n, hn M1 h0⟩
  | none =>
    rw [e] at hp
    obtain ⟨n, hn⟩ := (hR.2 e) (fun q => q.2.length ≤ 64 → ∃ n, ∀ C, STc C0 o q.2 C → wX5_reckon_15 o post n (nI to) (nI q.2.length) (nI q.1) C) (fun q hlt e' ht => ⟨2, fun C hC => rk1 hS hS2 hb ho h1 h2 post hlt ht 1 hC (fun q' e'' => by rw [e'] at e''; cases e'') (fun _ C' x4 x5 hf h8 => rkF h8 (hp C' hf) 0 _ _ _)⟩) step (Nat.zero_le _)
    exact ⟨n, hn M1 h0⟩
def clN (x : Int32) (b : Nat) : Nat := if x.toInt ≤ 0 then 0 else if (b : Int) ≤ x.toInt then b else x.toInt.toNat
theorem clN_le (x : Int32) (b : Nat) : clN x b ≤ b := by
  unfold clN
  split
  · omega
  · split <;> omega
theorem clN_C {x : Int32} {b : Nat} (hb : b < 1000) : (if (0 : Int32) < (if nI b < x then nI b else x) then (if nI b < x then nI b else x) else 0) = nI (clN x b) := by
  have hx := x.toInt_lt
  have e0 : (0 < x) ↔ 0 < x.toInt := by rw [Int32.lt_iff_toInt_lt, zi0]
  have eb : (nI b < x) ↔ (b : Int) < x.toInt := by rw [Int32.lt_iff_toInt_lt, nI_toInt (by omega)]
  have ex : 0 ≤ x.toInt → x = nI x.toInt.toNat := fun h => by
    apply Int32.toInt_inj.mp
    rw [nI_toInt (by omega)]
    omega
  unfold clN
  by_cases c1 : (b : Int) < x.toInt
  · have e : (if x.toInt ≤ 0 then 0 else if (b : Int) ≤ x.toInt then b else x.toInt.toNat) = b := by rw [if_neg (by omega), if_pos (by omega)]
    rw [if_pos (eb.mpr c1), e]
    rcases Nat.eq_zero_or_pos b with z | z
    · subst z; rfl
    · rw [if_pos (show (0 : Int32) < nI b from nI_lt (a := 0) z (by omega))]
  · rw [if_neg (fun y => c1 (eb.mp y))]
    by_cases c2 : 0 < x.toInt
    · have e : (if x.toInt ≤ 0 then 0 else if (b : Int) ≤ x.toInt then b else x.toInt.toNat) = if (b : Int) ≤ x.toInt then b else x.toInt.toNat := if_neg (by omega)
      rw [if_pos (e0.mpr c2), e]
      by_cases c3 : (b : Int) ≤ x.toInt
      · rw [if_pos c3]
        have : x.toInt = (b : Int) := by omega
        have h := ex (by omega)
        rw [this] at h
        exact h
      · rw [if_neg c3]; exact ex (by omega)
    · have e : (if x.toInt ≤ 0 then 0 else if (b : Int) ≤ x.toInt then b else x.toInt.toNat) = 0 := if_pos (by omega)
      rw [if_neg (fun y => c2 (e0.mp y)), e]; rfl
/-- what the clauses from i on say -/
def lwVr (cs : List xQ4) (f : Nat → xF × xF) (kind : Nat) (vals : Nat → Nat) : Nat → Nat → Nat
  | 0, _ => 0
  | m + 1, i => if (cs.getD i (0, 0, 0, 0)).1 = kind ∧ (f i).2 vals = some 1 then (if kind = 6 then 1 else clN (((f i).1 vals).getD 0) (bdK kind)) else lwVr cs f kind vals m (i + 1)
def lwV (cs : List xQ4) (f : Nat → xF × xF) : xV := fun kind vals => lwVr cs f kind vals cs.length 0
def okX (S : List Nat) (K : List (Nat × Nat)) (c : xQ4) (x : xF × xF) : Prop := c.1 < 7 ∧ blF x.2 ∧ c.2.1 ≤ c.2.2.1 ∧ c.2.2.1 ≤ c.2.2.2 ∧ c.2.2.2 ≤ S.length ∧ (∀ vals, (∀ v, x.2 vals = some v → Rc S c.2.2.2 vals (c.2.2.1, []) (c.2.2.2, [v])) ∧ (x.2 vals = none → Rf S c.2.2.2 vals (c.2.2.1, []))) ∧ (c.1 ≠ 6 → ∀ vals, (∀ v, x.1 vals = some v → Rc S c.2.2.1 vals (c.2.1, []) (c.2.2.1, [v])) ∧ (x.1 vals = none → Rf S c.2.2.1 vals (c.2.1, []))) ∧ (∃ k2, hasK K c.2.2.1 k2 ∧ c.2.2.2 = c.2.2.1 + k2.length ∧ gdL k2 x.2) ∧ (c.1 ≠ 6 → ∃ k1, hasK K c.2.1 k1 ∧ c.2.2.1 = c.2.1 + k1.length ∧ gdL k1 x.1)
theorem okX_of {S : List Nat} {K : List (Nat × Nat)} {c : xQ4} (h : okCl S K c) : ∃ x, okX S K c x := by
  obtain ⟨a0, s1, s2, k1, k2, a1, a2, a3, a4, a5, a6, a7, a8, a9, a10, fC, b1, b2, b3⟩ := h
  have hC : ∀ vals, (∀ v, fC vals = some v → Rc S c.2.2.2 vals (c.2.2.1, []) (c.2.2.2, [v])) ∧ (fC vals = none → Rf S c.2.2.2 vals (c.2.2.1, [])) := fun vals => by
    have := b2 S c.2.2.2 a2 (by omega) vals [] (by decide)
    rw [← a8] at this
    exact this
  by_cases q : c.1 = 6
  · exact ⟨(fC, fC), a0, b1, by omega, by omega, a9, hC, fun y => absurd q y, ⟨k2, a4, by omega, b3⟩, fun y => absurd q y⟩
  · obtain ⟨fE, c1, c2⟩ := a10 q
    refine ⟨(fE, fC), a0, b1, by omega, by omega, a9, hC, fun _ vals => ?_, ⟨k2, a4, by omega, b3⟩, fun _ => ⟨k1, a3, by omega, c2⟩⟩
    have := c1 S c.2.2.1 a1 (by omega) vals [] (by decide)
    rw [← a7] at this
    exact this
theorem okX_all {cs : List xQ4} {S : List Nat} {K : List (Nat × Nat)} (h : okLw cs S K) : ∃ f : Nat → xF × xF, ∀ i, i < cs.length → okX S K (cs.getD i (0, 0, 0, 0)) (f i) := by
  have : ∀ i, ∃ x : xF × xF, i < cs.length → okX S K (cs.getD i (0, 0, 0, 0)) x := by
    intro i
    by_cases q : i < cs.length
    · obtain ⟨x, hx⟩ := okX_of (h.2.2.2.1 (cs.getD i (0, 0, 0, 0)) (by
        rw [List.getD_eq_getElem?_getD, List.getElem?_eq_getElem q]
        exact List.getElem_mem q))
      exact ⟨x, fun _ => hx⟩
    · exact ⟨(fun _ => none, fun _ => none), fun y => absurd y q⟩
  exact Classical.axiomOfChoice this
def rpC (o : Nat) (cs : List xQ4) (S : List Nat) (C : xMem) : Prop := gi C o 0 = nI cs.length ∧ (∀ i, i < cs.length → gi C (o + 1) i = nI (cs.getD i (0, 0, 0, 0)).1 ∧ gi C (o + 2) i = nI (cs.getD i (0, 0, 0, 0)).2.1 ∧ gi C (o + 3) i = nI (cs.getD i (0, 0, 0, 0)).2.2.1 ∧ gi C (o + 4) i = nI (cs.getD i (0, 0, 0, 0)).2.2.2) ∧ ∀ i, i < S.length → gi C (o + 5) i = nI (S.getD i 0)
theorem bdK_lt (k : Nat) : bdK k < 1000 := by
  match k with
  | 0 => decide
  | 1 => decide
  | 2 => decide
  | 3 => decide
  | 4 => decide
  | 5 => decide
  | 6 => decide
  | k + 7 => exact (by decide : (0 : Nat) < 1000)
theorem lwV_ok (cs : List xQ4) (f : Nat → xF × xF) : okV (lwV cs f) := by
  intro kind vals hk
  have key : ∀ m i, lwVr cs f kind vals m i ≤ bdK kind := by
    intro m
    induction m with
    | zero => intro i; exact Nat.zero_le _
    | succ m ih =>
      intro i
      unfold lwVr
      split
      · split
        · rename_i q; subst q; decide
        · exact clN_le _ _
      · exact ih _
  exact key _ _
theorem bd_n {k : Nat} (h : k < 7) : bd_at (nI k) = nI (bdK k) := by
  have key : ∀ k < 7, bd_at (nI k) = nI (bdK k) := by decide +kernel
  exact key k h
theorem semC_of {o : Nat} (ho : o = 18 ∨ o = 25) {cs : List xQ4} {S : List Nat} {K : List (Nat × Nat)} (hok : okLw cs S K) {f : Nat → xF × xF} (hf : ∀ i, i < cs.length → okX S K (cs.getD i (0, 0, 0, 0)) (f i)) {C : xMem} (hr : rpC o cs S C) : semC o (lwV cs f) C := by
  obtain ⟨k1, k2, k3, k4, k5⟩ := hok
  intro kind hk C' hC' vals hv post hp
  obtain ⟨r1, r2, r3⟩ := hr
  have r1' : gi C' o 0 = nI cs.length := by rw [hC' _ _ (by unfold lawO; omega)]; exact r1
  have r2' : ∀ i, i < cs.length → gi C' (o + 1) i = nI (cs.getD i (0, 0, 0, 0)).1 ∧ gi C' (o + 2) i = nI (cs.getD i (0, 0, 0, 0)).2.1 ∧ gi C' (o + 3) i = nI (cs.getD i (0, 0, 0, 0)).2.2.1 ∧ gi C' (o + 4) i = nI (cs.getD i (0, 0, 0, 0)).2.2.2 := fun i hi => by
    rw [hC' (o + 1) i (by unfold lawO; omega), hC' (o + 2) i (by unfold lawO; omega), hC' (o + 3) i (by unfold lawO; omega), hC' (o + 4) i (by unfold lawO; omega)]
    exact r2 i hi
  have r3' : ∀ i, i < S.length → gi C' (o + 5) i = nI (S.getD i 0) := fun i hi => by rw [hC' _ _ (by unfold lawO; omega)]; exact r3 i hi
  have hb := bdK_lt kind
  have fin : ∀ (x : Int32) C1, (∀ c i, ¬ (c = o ∧ i = 8) → c ≠ o + 6 → gi C1 c i = gi C' c i) → (∀ C1, (∀ c i, ¬ (c = o ∧ i = 8) → c ≠ o + 6 → gi C1 c i = gi C' c i) → post (nI (clN x (bdK kind))) C1) → wX5_worthOf_73 o post (nI kind) x C1 := by
    intro x C1 hC1 hk1
    unfold wX5_worthOf_73 wX5_worthOf_96
    rw [if_neg (nI_pos (by omega)), if_neg (show ¬ (7 : Int32) ≤ nI kind from nI_ge (b := 7) hk (by decide))]
    refine ⟨vl hk (by decide), ?_⟩
    rw [min_eq, max_eq, bd_n hk, clN_C hb]
    exact hk1 C1 hC1
  have key : ∀ m i C1, i + m = cs.length → (∀ c i, ¬ (c = o ∧ i = 8) → c ≠ o + 6 → gi C1 c i = gi C' c i) → (∀ C1, (∀ c i, ¬ (c = o ∧ i = 8) → c ≠ o + 6 → gi C1 c i = gi C' c i) → post (nI (lwVr cs f kind vals m i)) C1) → wX5_worthOf_2 o post (m + 1) (nI kind) (nI i) C1 := by
    intro m
    induction m with
    | zero =>
      intro i C1 hi h1 h2
      rw [wX5_worthOf_2]; dsimp only
      rw [h1 _ _ (by omega) (by omega), r1', if_pos (nI_le (by omega) (by omega))]
      exact h2 C1 h1
    | succ m ih =>
      intro i C1 hi h1 h2
      have hil : i < cs.length := by omega
      obtain ⟨w1, w2, w3, w4, w5, w6, w7, -, -⟩ := hf i hil
      obtain ⟨p1, p2, p3, p4⟩ := r2' i hil
      have hv16 := vl (n := i) (N := 16) (by omega) (by decide)
      have s1 : ∀ C2, (∀ c i, ¬ (c = o ∧ i = 8) → c ≠ o + 6 → gi C2 c i = gi C' c i) → ∀ j, j < S.length → gi C2 (o + 5) j = nI (S.getD j 0) := fun C2 h j hj => by rw [h _ _ (by omega) (by omega)]; exact r3' j hj
      have s2 : ∀ C2, (∀ c i, ¬ (c = o ∧ i = 8) → c ≠ o + 6 → gi C2 c i = gi C' c i) → ∀ j, j < 12 → gi C2 77 j = nI (vals j) := fun C2 h j hj => by rw [h _ _ (by omega) (by omega)]; exact hv j hj
      unfold lwVr at h2
      have nxt : ¬ ((cs.getD i (0, 0, 0, 0)).1 = kind ∧ (f i).2 vals = some 1) → ∀ C2, (∀ c i, ¬ (c = o ∧ i = 8) → c ≠ o + 6 → gi C2 c i = gi C' c i) → wX5_worthOf_110 o (wX5_worthOf_2 o post (m + 1)) post (nI kind) (nI i) C2 := by
        intro hn C2 hC2
        unfold wX5_worthOf_110
        intro v1 e1
        subst e1
        rw [nI_1]
        refine ih (i + 1) C2 (by omega) hC2 (fun C3 hC3 => ?_)
        have := h2 C3 hC3
        rw [if_neg hn] at this
        exact this
      rw [wX5_worthOf_2]; dsimp only
      rw [h1 _ _ (by omega) (by omega), r1', if_neg (nI_ge hil (by omega)), if_neg (show ¬ (16 : Int32) ≤ nI i from nI_ge (b := 16) (by omega) (by decide))]
      refine ⟨hv16, ?_⟩
      rw [nI_clamp (by omega), h1 (o + 1) _ (by omega) (by omega), p1]
      by_cases ck : (cs.getD i (0, 0, 0, 0)).1 = kind
      rotate_left
      · rw [if_neg (fun y => ck ((nI_eq (by omega) (by omega)).mp y))]
        exact nxt (fun y => ck y.1) C1 h1
      rw [if_pos (congrArg nI ck)]
      refine ⟨hv16, hv16, ?_⟩
      rw [h1 (o + 3) _ (by omega) (by omega), h1 (o + 4) _ (by omega) (by omega), p3, p4]
      refine reckC w5 k3 k5.1 ho (s1 C1 h1) (s2 C1 h1) w4 (w6 vals) _ (fun C2 hC2 => ?_)
      have hC2' : ∀ c i, ¬ (c = o ∧ i = 8) → c ≠ o + 6 → gi C2 c i = gi C' c i := fun c i y1 y2 => by rw [hC2 c i y1 y2]; exact h1 c i y1 y2
      by_cases c1 : (f i).2 vals = some 1
      rotate_left
      · have e0 : ((f i).2 vals).getD 0 = 0 := by
          match e : (f i).2 vals with
          | none => rfl
          | some x =>
            rcases w2 vals x e with y | y
            · subst y; rfl
            · subst y; exact absurd e c1
        rw [e0, if_pos rfl]
        exact nxt (fun y => c1 y.2) C2 hC2'
      rw [c1, if_neg (show ¬ (some (1 : Int32)).getD 0 = 0 from n10)]
      have h3 : ∀ C3, (∀ c i, ¬ (c = o ∧ i = 8) → c ≠ o + 6 → gi C3 c i = gi C' c i) → post (nI (if kind = 6 then 1 else clN (((f i).1 vals).getD 0) (bdK kind))) C3 := fun C3 hC3 => by
        have := h2 C3 hC3
        rw [if_pos ⟨ck, c1⟩] at this
        exact this
      by_cases c6 : kind = 6
      · rw [if_pos c6] at h3
        rw [if_pos (show nI kind = 6 by rw [c6]; rfl)]
        refine fin 1 C2 hC2' (fun C3 hC3 => ?_)
        have := h3 C3 hC3
        subst c6
        rw [show clN 1 (bdK 6) = 1 by decide]
        exact this
      · rw [if_neg c6] at h3
        rw [if_neg (show ¬ nI kind = 6 from fun y => c6 ((nI_eq (b := 6) (by omega) (by decide)).mp y))]
        refine ⟨hv16, hv16, ?_⟩
        rw [hC2' (o + 2) _ (by omega) (by omega), hC2' (o + 3) _ (by omega) (by omega), p2, p3]
        refine reckC (by omega) k3 k5.1 ho (s1 C2 hC2') (s2 C2 hC2') w3 (w7 (fun y => c6 (ck.symm.trans y)) vals) _ (fun C3 hC3 => ?_)
        exact fin _ C3 (fun c i y1 y2 => by rw [hC3 c i y1 y2]; exact hC2' c i y1 y2) h3
  exact ⟨cs.length + 1, key cs.length 0 C' (by omega) (fun _ _ _ _ => rfl) (fun C1 hC1 => hp C1 (fun c i y1 y2 => hC1 c i y1 y2))⟩
