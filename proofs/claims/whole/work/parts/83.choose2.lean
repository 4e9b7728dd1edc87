/-- what CHEAPEST chooses among, and what each costs -/
def thF (e h : xT2) : Nat := orB (fun x => (e 0 0).testBit x && decide (h 9 x ≠ 0)) 10
def costF (V : xV) (e h : xT2) (x : Nat) : Nat := V 1 (eV e h x)
theorem srB_1 (P : Nat → Bool) (c p : Nat → Nat) : srB P c p 1 = 0 := by
  show (if _ then 0 else 0) = 0
  split <;> rfl
theorem dpC0 {L cst ol : Nat → Nat} {n w : Nat} (hn : n ≤ 10) (hw : w < 1024) (hL : ∀ j, j < n → L j < 10) (hc : ∀ j, j < n → cst j ≤ 999) (ho : ∀ j, j < n → ol j < 1024) {C0 : xMem} (h46 : ∀ j, j < n → gi C0 46 j = nI (L j)) (h45 : ∀ j, j < n → gi C0 45 (L j) = nI (cst j)) (h42 : ∀ j, j < n → gi C0 42 (L j) &&& nI w = nI (ol j)) (o o1 : Nat) (post : Int32 → xMem → Prop) (hp : ∀ C : xMem, (∀ c i, ¬ ((c = 41 ∧ (i = 8 ∨ i = 9)) ∨ c = 47 ∨ c = 48) → gi C c i = gi C0 c i) → gi C 41 8 = nI (es L n (srB (owP ol n w) (ws cst n) pc (2 ^ n))) → (srB (owP ol n w) (ws cst n) pc (2 ^ n) ≠ 0 → gi C 41 9 = nI (ws cst n (srB (owP ol n w) (ws cst n) pc (2 ^ n)))) → post (b2i (srB (owP ol n w) (ws cst n) pc (2 ^ n) ≠ 0)) C) : wX2_chooseFor_88 o o1 post (n + 1) (nI w) (nI n) 0 0 C0 := by
  have h := dpC hn hw hL hc ho h46 h45 h42 o o1 post hp n 0 (by omega) C0 ⟨fun _ _ _ _ => rfl, fun s' a b => absurd b (by omega)⟩
  rw [show (2 : Nat) ^ 0 = 1 from rfl, srB_1] at h
  exact h
theorem thF_lt (e h : xT2) : thF e h < 1024 := orB_lt _ 10
theorem thF_t (e h : xT2) (x : Nat) : (thF e h).testBit x = true ↔ x < 10 ∧ (e 0 0).testBit x = true ∧ h 9 x ≠ 0 := by
  unfold thF
  rw [orB_t]
  simp
def cB (V : xV) (e h : xT2) (w : Nat) : Nat := cBest (e 1) (costF V e h) w (thF e h)
def cP (V : xV) (e h : xT2) (w : Nat) : Nat := ws (costF V e h) 10 (cB V e h w)
theorem chT_t (e1 : Nat → Nat) (w th x : Nat) : (chT e1 w th).testBit x = true ↔ x < 10 ∧ th.testBit x = true ∧ e1 x &&& w ≠ 0 := by
  unfold chT
  rw [orB_t]
  simp
/-- the cells that the class's choosing may change -/
def chC (o1 c i : Nat) : Prop := askC o1 c i ∧ ¬ (45 ≤ c ∧ c ≤ 48) ∧ ¬ (c = 41 ∧ (i = 8 ∨ i = 9))
theorem chooseC {o o1 : Nat} (ho : okO o o1) {V : xV} (oV : okV V) {C : xMem} (hV : semC o1 V C) {e h : xT2} {il to : Int32} (hH : HC o h il to C) (wE : wfE e) (hE : EC e C) (h9 : ∀ x, x < 10 → h 9 x ≤ 9) {w : Nat} (hw : w < 1024) (hw1 : 1 ≤ w) (post : Int32 → xMem → Prop) (hp : ∀ C' : xMem, (∀ c i, chC o1 c i → gi C' c i = gi C c i) → gi C' 41 8 = nI (cB V e h w) → (cB V e h w ≠ 0 → gi C' 41 9 = nI (cP V e h w)) → (∀ x, x < 10 → (cB V e h w).testBit x = true → gi C' 45 x = nI (costF V e h x)) → post (b2i (cB V e h w ≠ 0)) C') : wX2_chooseFor (nI w) o o1 C post := by
  have hc9 : ∀ x, costF V e h x ≤ 999 := fun x => oV 1 _ (by omega)
  obtain ⟨q1, q2, q3, q4⟩ := cheap_eq (e1 := e 1) (cost := costF V e h) (fun x hx => (wE.2 x hx).1) hw hw1 (thF_lt e h)
  have hct := ct_le (chT (e 1) w (thF e h)) 10
  have hcl := fun j (hj : j < ct (chT (e 1) w (thF e h)) 10) => cl_in (chT (e 1) w (thF e h)) 10 j hj
  obtain ⟨o49, o67, o1v⟩ := id ho
  have key : ∀ (m x : Nat) (C' : xMem), x + m = 10 → (∀ c i, askC o1 c i → c ≠ 45 → c ≠ 46 → gi C' c i = gi C c i) → (∀ j, j < ct (chT (e 1) w (thF e h)) x → gi C' 46 j = nI (cl (chT (e 1) w (thF e h)) x j)) → (∀ y, y < x → (chT (e 1) w (thF e h)).testBit y = true → gi C' 45 y = nI (costF V e h y)) → wX2_chooseFor_6 o o1 post (m + 1) (nI w) (nI (ct (chT (e 1) w (thF e h)) x)) (nI x) C' := by
    intro m
    induction m with
    | zero =>
      intro x C' ex f1 f2 f3
      have : x = 10 := by omega
      subst this
      rw [wX2_chooseFor_6]; dsimp only
      rw [if_pos (show (10 : Int32) ≤ nI 10 by decide)]
      refine ⟨ct (chT (e 1) w (thF e h)) 10 + 1, dpC0 (L := cl (chT (e 1) w (thF e h)) 10) (cst := fun j => costF V e h (cl (chT (e 1) w (thF e h)) 10 j)) (ol := fun j => e 1 (cl (chT (e 1) w (thF e h)) 10 j) &&& w) hct hw (fun j hj => (hcl j hj).1) (fun j _ => hc9 _) (fun j hj => ?_) f2 (fun j hj => f3 _ (hcl j hj).1 (hcl j hj).2) (fun j hj => ?_) o o1 post (fun C4 g1 g2 g3 => ?_)⟩
      · exact Nat.lt_of_le_of_lt Nat.and_le_right hw
      · rw [f1 42 _ (by unfold askC; omega) (by omega) (by omega), (hE.2 _ (hcl j hj).1).1, z_and]
      · have hsr : srB (owP (fun j => e 1 (cl (chT (e 1) w (thF e h)) 10 j) &&& w) (ct (chT (e 1) w (thF e h)) 10) w) (ws (fun j => costF V e h (cl (chT (e 1) w (thF e h)) 10 j)) (ct (chT (e 1) w (thF e h)) 10)) pc (2 ^ ct (chT (e 1) w (thF e h)) 10) = cPlace (e 1) (costF V e h) w (thF e h) := rfl
        rw [hsr] at g2 g3 ⊢
        have hz : (cPlace (e 1) (costF V e h) w (thF e h) ≠ 0) = (cB V e h w ≠ 0) := propext ⟨fun a b => a (q1.mpr b), fun a b => a (q1.mp b)⟩
        have hfin := hp C4 (fun c i hc => by
          unfold chC at hc
          rw [g1 c i (by omega), f1 c i hc.1 (by omega) (by omega)]) (by rw [g2, q2]; rfl) (fun a => by
          rw [g3 (by rw [hz]; exact a), q3]; rfl) (fun y hy hb => by
          rw [g1 _ _ (by omega)]
          refine f3 y hy ?_
          rw [show cB V e h w = cBest (e 1) (costF V e h) w (thF e h) from rfl, ← q2] at hb
          obtain ⟨j, b1, b2, b3⟩ := (es_t _ _ _ _).mp hb
          rw [← b3]
          exact (hcl j b1).2)
        by_cases z : cB V e h w = 0
        · rw [b2i_f (fun q => q z)] at hfin
          rw [b2i_f (by rw [hz]; exact fun q => q z)]
          exact hfin
        · rw [b2i_t z] at hfin
          rw [b2i_t (by rw [hz]; exact z)]
          exact hfin
    | succ m ih =>
      intro x C' ex f1 f2 f3
      have hx : x < 10 := by omega
      have hEx := wE.2 x hx
      have hctx := ct_le (chT (e 1) w (thF e h)) x
      have hH' : HC o h il to C' := by
        obtain ⟨a1, a2, a3, a4, a5, a6, a7, a8⟩ := hH
        have F : ∀ c i, o ≤ c → c ≤ o + 8 → gi C' c i = gi C c i := fun c i u v => f1 c i (by unfold askC; omega) (by omega) (by omega)
        exact HC_keep F ⟨a1, a2, a3, a4, a5, a6, a7, a8⟩
      have hE' : EC e C' := EC_keep (f1 _ _ (by unfold askC; omega) (by omega) (by omega)) (fun c i u v => f1 c i (by unfold askC; omega) (by omega) (by omega)) hE
      have hV' : semC o1 V C' := semC_keep hV (fun c i hc => f1 c i (by unfold lawO at hc; unfold askC; omega) (by unfold lawO at hc; omega) (by unfold lawO at hc; omega))
      have skip : ¬ (chT (e 1) w (thF e h)).testBit x = true → wX2_chooseFor_76 o o1 (wX2_chooseFor_6 o o1 post (m + 1)) post (nI w) (nI (ct (chT (e 1) w (thF e h)) x)) (nI x) C' := fun q => by
        have e1 : ct (chT (e 1) w (thF e h)) (x + 1) = ct (chT (e 1) w (thF e h)) x := if_neg q
        have e2 : ∀ j, cl (chT (e 1) w (thF e h)) (x + 1) j = cl (chT (e 1) w (thF e h)) x j := fun j => if_neg (fun z => q z.1)
        have h8 := ih (x + 1) C' (by omega) f1 (fun j hj => by rw [e2]; rw [e1] at hj; exact f2 j hj) (fun y hy hb => by
          by_cases ey : y = x
          · subst ey; exact absurd hb q
          · exact f3 y (by omega) hb)
        rw [e1] at h8
        unfold wX2_chooseFor_76
        simp (disch := omega) only [z_lt_t, z_lt_f, z_le_t, z_le_f, z_eq_t, z_eq_f, z_lt0, z_lt1_t, z_lt1_f, z_lt2_t, z_lt2_f, z_le1_t, z_le1_f, z_le2_t, z_le2_f, z_eq1_t, z_eq1_f, z_eq2_t, z_eq2_f, z_lt1, z_lt2, z_le1, z_le2, z_eq1, z_eq2, z_lt, z_le, z_eq, z_in, z_cl, z_cl1, z_add, z_add1, z_addm, z_sub, z_subl, z_mul, z_mull, ↓forall_eq, ↓reduceIte, true_and, and_true, not_true_eq_false, not_false_eq_true, b2i_0, b2i_1, bz_b2i, bz_0, bz_1, nar_b2i, narb_0, narb_1, ↓within_eq, ↓lies_eq, i64i, zi0, zj0, zi1, zj1, zi2, zj2, zi3, zj3, zi4, zj4, zi5, zj5, zi6, zj6, zi7, zj7, zi8, zj8, zi9, zj9, zi10, zj10, zi12, zj12, zi13, zj13, zi19, zj19, zi20, zj20, zi21, zj21, zi29, zj29, zi30, zj30, zi39, zj39, zi48, zj48, zi50, zj50, zi57, zj57, zi60, zj60, zi63, zj63, zi65, zj65, zi71, zj71, zi72, zj72, zi73, zj73, zi74, zj74, zi80, zj80, zi97, zj97, zi98, zj98, zi99, zj99, zi100, zj100, zi106, zj106, zi240, zj240, zi255, zj255, zi260, zj260, zi300, zj300, zi999, zj999, zi1000, zj1000, zi1023, zj1023, zi1024, zj1024, zi9999, zj9999, zi65535, zj65535, zi65536, zj65536, z_tn, z_m1, z_m2, z_bt, z_bf, z_10, Bool.false_eq_true]
        exact h8
      rw [wX2_chooseFor_6]; dsimp only
      rw [if_neg (show ¬ (10 : Int32) ≤ nI x from nI_ge hx (by decide)), f1 41 0 (by unfold askC; omega) (by omega) (by omega), hE.1, hasC_n (by have := wE.1; omega) hx]
      by_cases z1 : (e 0 0).testBit x = true
      rotate_left
      · rw [b2i_f z1, if_pos rfl]
        exact skip (fun q => z1 ((thF_t e h x).mp ((chT_t _ _ _ x).mp q).2.1).2.1)
      rw [b2i_t z1, if_neg (by decide)]
      refine ⟨vl hx (by decide), ?_⟩
      rw [nI_clamp (by omega), (hH'.2.2.2.2.2.2.2 x hx).2.2.2]
      have hs9 := h9 x hx
      by_cases z2 : h 9 x = 0
      · rw [z2, if_pos (show nI 0 ≤ (0 : Int32) by decide)]
        exact skip (fun q => ((thF_t e h x).mp ((chT_t _ _ _ x).mp q).2.1).2.2 z2)
      rw [if_neg (show ¬ nI (h 9 x) ≤ (0 : Int32) from nI_ge (a := 0) (by omega) (by omega))]
      refine ⟨vl hx (by decide), ?_⟩
      rw [(hE'.2 x hx).1, z_and]
      have hle : e 1 x &&& w ≤ w := Nat.and_le_right
      by_cases z3 : e 1 x &&& w = 0
      · rw [z3, if_pos (show nI 0 = (0 : Int32) from rfl)]
        exact skip (fun q => ((chT_t _ _ _ x).mp q).2.2 z3)
      rw [if_neg (fun q => z3 ((n0_n (by omega)).mp q))]
      have hT : (chT (e 1) w (thF e h)).testBit x = true := (chT_t _ _ _ x).mpr ⟨hx, (thF_t e h x).mpr ⟨hx, z1, z2⟩, z3⟩
      refine askEC ho hV' hH' hE' hx hEx.1 (kind := 1) (by omega) _ (fun C2 k1 => ?_)
      refine ⟨vl hx (by decide), ?_⟩
      intro M12 e12
      subst e12
      refine ⟨vl (by omega) (by decide), ?_⟩
      intro M14 e14
      subst e14
      have e1 : ct (chT (e 1) w (thF e h)) (x + 1) = ct (chT (e 1) w (thF e h)) x + 1 := if_pos hT
      simp (disch := omega) only [nI_clamp]
      have h8 := ih (x + 1) (si (si C2 45 x (nI (V 1 (eV e h x)))) 46 (ct (chT (e 1) w (thF e h)) x) (nI x)) (by omega) (fun c i hc q45 q46 => by
        rw [g_c q46, g_c q45, k1 c i hc]
        exact f1 c i hc q45 q46) (fun j hj => by
        rw [e1] at hj
        by_cases ej : j = ct (chT (e 1) w (thF e h)) x
        · subst ej
          rw [g_same]
          exact congrArg nI (if_pos ⟨hT, rfl⟩).symm
        · rw [g_i ej, g_c (by omega), k1 46 _ (by unfold askC; omega), f2 j (by omega)]
          exact congrArg nI (if_neg (fun q => ej q.2)).symm) (fun y hy hb => by
        rw [g_c (by omega)]
        by_cases ey : y = x
        · subst ey; rw [g_same]; rfl
        · rw [g_i ey, k1 45 _ (by unfold askC; omega)]
          exact f3 y (by omega) hb)
      rw [e1] at h8
      unfold wX2_chooseFor_76
      simp (disch := omega) only [z_lt_t, z_lt_f, z_le_t, z_le_f, z_eq_t, z_eq_f, z_lt0, z_lt1_t, z_lt1_f, z_lt2_t, z_lt2_f, z_le1_t, z_le1_f, z_le2_t, z_le2_f, z_eq1_t, z_eq1_f, z_eq2_t, z_eq2_f, z_lt1, z_lt2, z_le1, z_le2, z_eq1, z_eq2, z_lt, z_le, z_eq, z_in, z_cl, z_cl1, z_add, z_add1, z_addm, z_sub, z_subl, z_mul, z_mull, ↓forall_eq, ↓reduceIte, true_and, and_true, not_true_eq_false, not_false_eq_true, b2i_0, b2i_1, bz_b2i, bz_0, bz_1, nar_b2i, narb_0, narb_1, ↓within_eq, ↓lies_eq, i64i, zi0, zj0, zi1, zj1, zi2, zj2, zi3, zj3, zi4, zj4, zi5, zj5, zi6, zj6, zi7, zj7, zi8, zj8, zi9, zj9, zi10, zj10, zi12, zj12, zi13, zj13, zi19, zj19, zi20, zj20, zi21, zj21, zi29, zj29, zi30, zj30, zi39, zj39, zi48, zj48, zi50, zj50, zi57, zj57, zi60, zj60, zi63, zj63, zi65, zj65, zi71, zj71, zi72, zj72, zi73, zj73, zi74, zj74, zi80, zj80, zi97, zj97, zi98, zj98, zi99, zj99, zi100, zj100, zi106, zj106, zi240, zj240, zi255, zj255, zi260, zj260, zi300, zj300, zi999, zj999, zi1000, zj1000, zi1023, zj1023, zi1024, zj1024, zi9999, zj9999, zi65535, zj65535, zi65536, zj65536, z_tn, z_m1, z_m2, z_bt, z_bf, z_10, Bool.false_eq_true]
      exact h8
  exact ⟨11, key 10 0 C rfl (fun _ _ _ _ _ => rfl) (fun j hj => absurd hj (by unfold ct; omega)) (fun y hy => absurd hy (by omega))⟩
