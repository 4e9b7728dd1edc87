/-! tried(), other(), first() -/
/-- the reference: aside, tried, brought back -/
theorem aside {S : Nat → List Nat} {e : xT2} {V : xV} {r : Nat} (hr : r < 2) (oV : okV V) {M : xMem} (sM : semM r V M) (wE : wfE e) (rE2 : EM e M) (hS : ∀ k, k < 6 → wfS (S k) ∧ SM (S k) k M) {h : xT2} {il to : Int32} (wH : wfH S h) (tL : ∀ k, k < 4 → h 3 k ≤ (S (h 1 k)).length) (rH2 : HM h il to M) {n : Nat} (hn : n ≤ 60) (n0 : Nat) (K : xMem → Prop) (hK : ∀ M3, gi M3 0 27 = nI r → HM (sRun V S e (h, q0 n0, il, to) n).1 (sRun V S e (h, q0 n0, il, to) n).2.2.1 (sRun V S e (h, q0 n0, il, to) n).2.2.2 M3 → QM (sRun V S e (h, q0 n0, il, to) n).2.1 M3 → (∀ M4 : xMem, (∀ c i, ¬ (c = 0 ∧ i = 27) → gi M4 c i = gi M3 c i) → ∀ post : xMem → Prop, (∀ M5 : xMem, HM h il to M5 → (∀ c i, cntM c i → ¬ (c = 28 ∨ (30 ≤ c ∧ c ≤ 38) ∨ (c = 0 ∧ (i = 65 ∨ i = 66 ∨ i = 67 ∨ i = 2))) → ¬ (c = 0 ∧ i = 27) → gi M5 c i = gi M c i) → gi M5 0 27 = gi M4 0 27 → (∀ i, 71 ≤ i → i ≤ 79 → gi M5 0 i = gi M4 0 i) → post M5) → wX12_bringsBack 0 M4 post) → K M3) (P : xMem → Prop) (hP : ∀ M1 : xMem, gi M1 0 27 = gi M 0 27 → (∀ M2 : xMem, (∀ c i, gi M2 c i = if c = 0 ∧ i = 27 then nI r else gi M1 c i) → wX12_go (nI n) M2 K) → P M1) : wX12_laysAside 0 M P := by
  refine laysAside_n (r := 0) (by omega) rH2 _ (fun M1 a1 a2 => ?_)
  refine hP M1 (a2 _ _ (by unfold asM; omega)) (fun M2 e2 => ?_)
  have F : ∀ c i, ¬ asM 0 c i → ¬ (c = 0 ∧ i = 27) → gi M2 c i = gi M c i := fun c i h1 h2 => by rw [e2, if_neg h2]; exact a2 c i h1
  have XM : CxM S e V r M2 := ⟨hr, oV, semM_keep sM (fun c i x y => F c i (by unfold asM; omega) (by omega)) (F _ _ (by unfold asM; omega) (by omega)), wE, EM_keep (fun c i x y z => F c i (by unfold asM; omega) (by omega)) rE2, fun k hk => ⟨(hS k hk).1, SM_keep (fun c i x y => F c i (by unfold asM; omega) (by omega)) (hS k hk).2⟩⟩
  refine runM XM wH tL ((e2 0 27).trans (if_pos ⟨rfl, rfl⟩)) (HM_keep (fun c i x y z => F c i (by unfold asM; omega) (by omega)) (fun i hi => F 0 i (by unfold asM; omega) (by omega)) rH2) (fun _ _ _ _ => rfl) hn n0 _ (fun M3 E => ?_)
  obtain ⟨f1, f3, f4, f5⟩ := E
  refine hK M3 f1 f3 f4 (fun M4 h4 post hp => ?_)
  have G : ∀ c i, evM c i → ¬ (c = 0 ∧ i = 27) → gi M4 c i = gi M2 c i := fun c i x y => by rw [h4 c i y]; exact f5 c i x y
  refine bringsBack_n (S := S) (r := 0) (h := h) (il := il) (to := to) (by omega) (fun k hk => ⟨(wH.2.2.2.2.1 k hk).1, (wH.2.2.2.2.1 k hk).2.2.1⟩) (fun k hk => ⟨(hS k hk).1.1, by rw [G 3 k (by unfold evM cntM; omega) (by omega), F 3 k (by unfold asM; omega) (by omega)]; exact (hS k hk).2.1⟩) (HA_keep (fun c i x y => by rw [G c i (by unfold evM; omega) (by omega), e2, if_neg (by omega)]) a1) _ (fun M5 b1 b2 => ?_)
  rw [minT_eq tL] at b1
  refine hp M5 b1 (fun c i hc hnn hn27 => ?_) (b2 _ _ (by omega)) (fun i x y => b2 _ _ (by omega))
  rw [b2 c i hnn, G c i ⟨Or.inl hc, hnn⟩ hn27]
  exact F c i (by unfold cntM at hc; unfold asM; omega) hn27

theorem t59 {S : Nat → List Nat} {e : xT2} {V : xV} {r : Nat} (hr : r < 2) (oV : okV V) {M : xMem} (sM : semM r V M) (wE : wfE e) (rE2 : EM e M) (hS : ∀ k, k < 6 → wfS (S k) ∧ SM (S k) k M) {h : xT2} {il to : Int32} (wH : wfH S h) (tL : ∀ k, k < 4 → h 3 k ≤ (S (h 1 k)).length) (rH2 : HM h il to M) {n : Nat} (hn : n ≤ 60) (n0 : Nat) {a : Int32} {v : Nat} (ha : askd h a (sRun V S e (h, q0 n0, il, to) n) v) (post : Int32 → xMem → Prop) (hp : ∀ M5, HM h il to M5 → (∀ c i, cntM c i → ¬ (c = 28 ∨ (30 ≤ c ∧ c ≤ 38) ∨ (c = 0 ∧ (i = 65 ∨ i = 66 ∨ i = 67 ∨ i = 2))) → ¬ (c = 0 ∧ i = 27) → gi M5 c i = gi M c i) → gi M5 0 27 = 0 → post (nI v) M5) : wX12_triedBy_59 post (nI r) (nI n) a M := by
  unfold wX12_triedBy_59
  refine aside hr oV sM wE rE2 hS wH tL rH2 hn n0 (fun M3 => ∀ M4 : xMem, M4 = si M3 0 27 0 → _) ?_ _ (fun M1 _ b => fun M2 e2 => b M2 (fun c i => by rw [e2, gi_si]))
  intro M3 f1 f3 f4 back
  intro M4 e4
  have G : ∀ c i, ¬ (c = 0 ∧ i = 27) → gi M4 c i = gi M3 c i := fun c i x => by rw [e4, gi_si, if_neg x]
  have fin : wX12_triedBy_234 post (nI v) M4 := by
    unfold wX12_triedBy_234
    refine back M4 G _ (fun M5 b1 b2 b3 _ => hp M5 b1 b2 ?_)
    rw [b3, e4]
    exact g_same _ _ _ _
  rcases ha with ⟨j, hj, rfl, rfl⟩ | ⟨k, hk, hb, ⟨rfl, rfl⟩ | ⟨rfl, rfl⟩⟩ | ⟨l, hl, hb, rfl, rfl⟩
  · have q := f4.1 j hj
    rw [← G _ _ (by omega)] at q
    have : j = 0 ∨ j = 1 ∨ j = 2 ∨ j = 3 ∨ j = 4 ∨ j = 5 ∨ j = 6 := by omega
    rcases this with rfl | rfl | rfl | rfl | rfl | rfl | rfl
    · rw [if_pos (show nI 0 = 0 from rfl)]; intro v6 e6; rw [e6]; exact q.symm ▸ fin
    · rw [if_neg (show ¬ nI 1 = 0 by decide), if_pos (show nI 1 = 1 from rfl)]; intro v6 e6; rw [e6]; exact q.symm ▸ fin
    · rw [if_neg (show ¬ nI 2 = 0 by decide), if_neg (show ¬ nI 2 = 1 by decide), if_pos (show nI 2 = 2 from rfl)]; intro v6 e6; rw [e6]; exact q.symm ▸ fin
    · rw [if_neg (show ¬ nI 3 = 0 by decide), if_neg (show ¬ nI 3 = 1 by decide), if_neg (show ¬ nI 3 = 2 by decide), if_pos (show nI 3 = 3 from rfl)]; intro v6 e6; rw [e6]; exact q.symm ▸ fin
    · rw [if_neg (show ¬ nI 4 = 0 by decide), if_neg (show ¬ nI 4 = 1 by decide), if_neg (show ¬ nI 4 = 2 by decide), if_neg (show ¬ nI 4 = 3 by decide), if_pos (show nI 4 = 4 from rfl)]; intro v6 e6; rw [e6]; exact q.symm ▸ fin
    · rw [if_neg (show ¬ nI 5 = 0 by decide), if_neg (show ¬ nI 5 = 1 by decide), if_neg (show ¬ nI 5 = 2 by decide), if_neg (show ¬ nI 5 = 3 by decide), if_neg (show ¬ nI 5 = 4 by decide), if_pos (show nI 5 = 5 from rfl)]; intro v6 e6; rw [e6]; exact q.symm ▸ fin
    · rw [if_neg (show ¬ nI 6 = 0 by decide), if_neg (show ¬ nI 6 = 1 by decide), if_neg (show ¬ nI 6 = 2 by decide), if_neg (show ¬ nI 6 = 3 by decide), if_neg (show ¬ nI 6 = 4 by decide), if_neg (show ¬ nI 6 = 5 by decide), if_pos (show nI 6 = 6 from rfl)]; intro v6 e6; rw [e6]; exact q.symm ▸ fin
  · have g1 : 10 + k < 20 := by omega
    obtain n7 := ne7 (x := 10 + k) (by omega) (by omega)
    rw [if_neg n7.1, if_neg n7.2.1, if_neg n7.2.2.1, if_neg n7.2.2.2.1, if_neg n7.2.2.2.2.1, if_neg n7.2.2.2.2.2.1, if_neg n7.2.2.2.2.2.2, if_neg (show ¬ (20 : Int32) ≤ nI (10 + k) from nI_ge g1 (by decide)), z_subl (by omega)]
    refine ⟨vl (by omega) (by decide), ?_⟩
    unfold wX12_triedBy_232
    rw [nI_clamp (by omega), show 10 + k - 10 = k by omega, G _ _ (by omega), (f3.1 k hk).2.2.1]
    exact fin
  · have g1 : 20 + k < 30 := by omega
    have g2 : 20 ≤ 20 + k := by omega
    obtain n7 := ne7 (x := 20 + k) (by omega) (by omega)
    rw [if_neg n7.1, if_neg n7.2.1, if_neg n7.2.2.1, if_neg n7.2.2.2.1, if_neg n7.2.2.2.2.1, if_neg n7.2.2.2.2.2.1, if_neg n7.2.2.2.2.2.2, if_pos (show (20 : Int32) ≤ nI (20 + k) from nI_le g2 (by omega)), if_neg (show ¬ (30 : Int32) ≤ nI (20 + k) from nI_ge g1 (by decide)), z_subl (by omega)]
    refine ⟨vl (by omega) (by decide), ?_⟩
    unfold wX12_triedBy_232
    rw [nI_clamp (by omega), show 20 + k - 20 = k by omega, G _ _ (by omega), (f3.1 k hk).2.2.2.2]
    exact fin
  · have g1 : 20 ≤ 30 + l := by omega
    have g2 : 30 ≤ 30 + l := by omega
    obtain n7 := ne7 (x := 30 + l) (by omega) (by omega)
    rw [if_neg n7.1, if_neg n7.2.1, if_neg n7.2.2.1, if_neg n7.2.2.2.1, if_neg n7.2.2.2.2.1, if_neg n7.2.2.2.2.2.1, if_neg n7.2.2.2.2.2.2, if_pos (show (20 : Int32) ≤ nI (30 + l) from nI_le g1 (by omega)), if_pos (show (30 : Int32) ≤ nI (30 + l) from nI_le g2 (by omega)), z_subl (by omega)]
    refine ⟨vl (by omega) (by decide), ?_⟩
    unfold wX12_triedBy_232
    rw [nI_clamp (by omega), show 30 + l - 30 = l by omega, G _ _ (by omega), (f3.2.1 l hl).2.2.2.1]
    exact fin

/-- after an evening tried: nothing that counts has changed -/
theorem RRL_tried {LL : xMem → xMem → Prop} (hLL : LLc LL) {S : Nat → List Nat} {e h hk : xT2} {il to il2 to2 : Int32} {kp : Bool} {tn : Nat} {t : Nat → Nat} {C M C' M' : xMem} (hR : RD S e h hk il to il2 to2 kp tn t C M) (hL : LL C M) (fC : ∀ c i, evC 67 c i → gi C' c i = gi C c i) (b1 : HM h il to M') (b2 : ∀ c i, cntM c i → ¬ (c = 28 ∨ (30 ≤ c ∧ c ≤ 38) ∨ (c = 0 ∧ (i = 65 ∨ i = 66 ∨ i = 67 ∨ i = 2))) → ¬ (c = 0 ∧ i = 27) → gi M' c i = gi M c i) (b3 : gi M' 0 27 = 0) : RRL LL C' M' := by
  have F : ∀ c i, cntC c i → gi C' c i = gi C c i := fun c i x => fC c i ⟨x, by unfold cntC lawC at x; omega⟩
  refine RRL_hall hLL hR hL (fun c i x _ => F c i x) (fun c i x y => ?_) (h' := h) ⟨hR.2.2.1.1, hR.2.2.1.2.1, HC_keep49 F hR.2.2.1.2.2.1, b1⟩
  by_cases z : c = 0 ∧ i = 27
  · rw [z.1, z.2, b3]
    exact hR.2.2.2.2.2.1.symm
  · exact b2 c i x y z
theorem tryC {S : Nat → List Nat} {e : xT2} {V : xV} {o1 : Nat} {C : xMem} (X : CxC S e V 67 o1 C) {h : xT2} {il to : Int32} (wH : wfH S h) (tL : ∀ k, k < 4 → h 3 k ≤ (S (h 1 k)).length) (rH : HC 49 h il to C) {n : Nat} (hn : n ≤ 60) (post : xMem → Prop) (hp : ∀ C' n0, EvC 67 o1 C (sRun V S e (h, q0 n0, il, to) n) C' → post C') : wX4_takeFrom 67 49 C (fun C1 => wX1_run 67 o1 (nI n) C1 post) := by
  refine takeFrom_n (o := 67) (o0 := 49) (Or.inl (by omega)) rH _ (fun C1 a1 a2 => ?_)
  refine runC X wH tL a1 (fun c i x => a2 c i ?_) hn post hp
  have := x.2
  omega
theorem first_ok {LL : xMem → xMem → Prop} (hLL : LLc LL) (hS : LSem LL) (a0 a1 : Int32) (C M : xMem) (h : RRL LL C M) : wX11_first a0 a1 C (fun r C' => wX12_first a0 a1 M (fun r' M' => r = r' ∧ RRL LL C' M')) := by
  obtain ⟨⟨S, e, hl, hk, il, to, il2, to2, kp, tn, t, hR⟩, hL⟩ := id h
  obtain ⟨V, W, oV, oW, sC, sC2, sM, sM2⟩ := hS C M hL
  obtain ⟨wE, rE, rE2⟩ := hR.2.1
  obtain ⟨wH, tL, rH, rH2⟩ := hR.2.2.1
  have x1 := hR.2.2.2.2.2.1
  unfold wX11_first
  rw [within_eq, zi1, zi60]
  by_cases c0 : 1 ≤ a0.toInt ∧ a0.toInt ≤ 60
  rotate_left
  · rw [b2i_f c0, if_pos rfl]
    unfold wX12_first
    dsimp only
    rw [lies_eq, i64i, zj1, zj60, b2i_f c0, if_pos rfl]
    exact ⟨rfl, h⟩
  rw [b2i_t c0, if_neg (by decide), within_eq, zi0, zi1]
  by_cases c1 : 0 ≤ a1.toInt ∧ a1.toInt ≤ 1
  rotate_left
  · rw [b2i_f c1, if_pos rfl]
    unfold wX12_first
    dsimp only
    rw [lies_eq, i64i, zj1, zj60, b2i_t c0, if_neg (by decide), lies_eq, i64i, zj0, zj1, b2i_f c1, if_pos rfl]
    exact ⟨rfl, h⟩
  rw [b2i_t c1, if_neg (by decide)]
  obtain ⟨n, hn, rfl⟩ := at_n (a := a0) (n := 60) (by omega) (by decide)
  refine tryC (V := V) (o1 := 18) ⟨Or.inr rfl, Or.inl rfl, oV, sC, wE, rE, fun j hj => ⟨(hR.1 j hj).1, (hR.1 j hj).2.1⟩⟩ wH tL rH hn _ (fun C' n0 E => ?_)
  obtain ⟨u1, u2, u3, u4, u5⟩ := E
  have fin : ∀ (x : Int32 → Int32 → xMem → Prop) (_ : ∀ M9 : xMem, gi M9 0 78 = gi C' 78 13 → gi M9 0 79 = gi C' 78 14 → RRL LL C' M9 → x (gi M9 0 78) (gi M9 0 79) M9), wX12_laysAside 0 M (fun M7 => wX12_go (nI n) M7 (fun M8 => wX12_bringsBack 0 M8 (fun M9 => x (gi M9 0 78) (gi M9 0 79) M9))) := by
    intro x hx
    refine aside (r := 0) (by omega) oV sM wE rE2 (fun j hj => ⟨(hR.1 j hj).1, (hR.1 j hj).2.2⟩) wH tL rH2 hn n0 (fun M8 => wX12_bringsBack 0 M8 (fun M9 => x (gi M9 0 78) (gi M9 0 79) M9)) ?_ _ (fun M1 d1 b => b M1 (fun c i => ?_))
    · intro M3 f1 f3 f4 back
      refine back M3 (fun _ _ _ => rfl) _ (fun M5 b1 b2 b3 b4 => hx M5 ?_ ?_ ?_)
      · rw [b4 78 (by omega) (by omega), f4.2.1]; exact u4.2.1.symm
      · rw [b4 79 (by omega) (by omega), f4.2.2]; exact u4.2.2.1.symm
      · exact RRL_tried hLL hR hL u5 b1 b2 (b3.trans f1)
    · by_cases z : c = 0 ∧ i = 27
      · rw [if_pos z, z.1, z.2, d1]; exact x1
      · rw [if_neg z]
  unfold wX12_first
  by_cases z : a1 = 0
  · rw [if_pos z]
    dsimp only
    rw [lies_eq, i64i, zj1, zj60, b2i_t c0, if_neg (by decide), lies_eq, i64i, zj0, zj1, b2i_t c1, if_neg (by decide)]
    refine fin (fun p q M9 => if a1 = 0 then gi C' 78 13 = p ∧ RRL LL C' M9 else gi C' 78 13 = q ∧ RRL LL C' M9) (fun M9 e1 e2 r => ?_)
    rw [if_pos z]
    exact ⟨e1.symm, r⟩
  · rw [if_neg z]
    dsimp only
    rw [lies_eq, i64i, zj1, zj60, b2i_t c0, if_neg (by decide), lies_eq, i64i, zj0, zj1, b2i_t c1, if_neg (by decide)]
    refine fin (fun p q M9 => if a1 = 0 then gi C' 78 14 = p ∧ RRL LL C' M9 else gi C' 78 14 = q ∧ RRL LL C' M9) (fun M9 e1 e2 r => ?_)
    rw [if_neg z]
    exact ⟨e2.symm, r⟩
theorem tryX {LL : xMem → xMem → Prop} (hLL : LLc LL) {S : Nat → List Nat} {e h hk : xT2} {il to il2 to2 : Int32} {kp : Bool} {tn : Nat} {t : Nat → Nat} {C M : xMem} (hR : RD S e h hk il to il2 to2 kp tn t C M) (hL : LL C M) (rr : RRL LL C M) {r o1 : Nat} (hr : r < 2) (ho : o1 = 18 ∨ o1 = 25) {V : xV} (oV : okV V) (sC : semC o1 V C) (sM : semM r V M) (a0 a1 : Int32) (post : Int32 → xMem → Int32 → xMem → Prop) (hp : ∀ v C' M', RRL LL C' M' → post v C' v M') : wX11_isWithin a0 1 60 C (fun r2 M1 => if r2 = 0 then wX12_triedBy (nI r) a0 a1 M (post (-1) M1) else wX11_canBeTried a1 M1 (fun r5 M4 => if r5 = 0 then wX12_triedBy (nI r) a0 a1 M (post (-1) M4) else wX4_takeFrom 67 49 M4 (fun M7 => wX1_run 67 o1 a0 M7 (fun M8 => wX1_result a1 M8 (fun r10 M9 => wX12_triedBy (nI r) a0 a1 M (post r10 M9)))))) := by
  obtain ⟨wE, rE, rE2⟩ := hR.2.1
  obtain ⟨wH, tL, rH, rH2⟩ := hR.2.2.1
  have x1 := hR.2.2.2.2.2.1
  have bT : ∀ k, k < 4 → gi M 30 k = b2i ((h 0 0).testBit k = true) := fun k hk => (rH2.1 k hk).1
  have bL : ∀ k, k < 10 → gi M 35 k = b2i ((h 5 0).testBit k = true) := fun k hk => (rH2.2.1 k hk).1
  rw [within_eq, zi1, zi60]
  by_cases c0 : 1 ≤ a0.toInt ∧ a0.toInt ≤ 60
  rotate_left
  · rw [b2i_f c0, if_pos rfl]
    unfold wX12_triedBy
    rw [lies_eq, i64i, zj1, zj60, b2i_f c0, if_pos rfl]
    exact hp _ _ _ rr
  rw [b2i_t c0, if_neg (by decide)]
  obtain ⟨n, hn, rfl⟩ := at_n (a := a0) (n := 60) (by omega) (by decide)
  refine canC wH.1 wH.2.1 rH.1 rH.2.1 a1 _ (fun hv => ?_) (fun hno => ?_)
  · rw [if_neg (by decide)]
    refine tryC (V := V) (o1 := o1) ⟨Or.inr rfl, ho, oV, sC, wE, rE, fun j hj => ⟨(hR.1 j hj).1, (hR.1 j hj).2.1⟩⟩ wH tL rH hn _ (fun C' n0 E => ?_)
    obtain ⟨v, ha⟩ := hv (sRun V S e (h, q0 n0, il, to) n)
    refine resC E ha _ ?_
    have fin : wX12_triedBy_59 (post (nI v) C') (nI r) (nI n) a1 M := t59 hr oV sM wE rE2 (fun j hj => ⟨(hR.1 j hj).1, (hR.1 j hj).2.2⟩) wH tL rH2 hn n0 ha _ (fun M5 b1 b2 b3 => hp _ _ _ (RRL_tried hLL hR hL E.2.2.2.2 b1 b2 b3))
    unfold wX12_triedBy
    rw [lies_eq, i64i, zj1, zj60, b2i_t c0, if_neg (by decide), lies_eq, i64i, zj0, show (6 : Int64).toInt = 6 by decide]
    by_cases c1 : 0 ≤ a1.toInt ∧ a1.toInt ≤ 6
    · rw [b2i_t c1, if_neg (by decide)]; exact fin
    rw [b2i_f c1, if_pos rfl]
    rcases isTelling_c bT (a1 - 10) with ⟨k, k4, e1, z, q⟩ | ⟨q, z1⟩
    · rw [q, if_neg (by decide)]; exact fin
    rw [q, if_pos rfl]
    rcases isTelling_c bT (a1 - 20) with ⟨k, k4, e1, z, q⟩ | ⟨q, z2⟩
    · rw [q, if_neg (by decide)]; exact fin
    rw [q, if_pos rfl]
    rcases isListening_c bL (a1 - 30) with ⟨k, k4, e1, z, q⟩ | ⟨q, z3⟩
    · rw [q, if_neg (by decide)]; exact fin
    exfalso
    rcases ha with ⟨j, hj, rfl, _⟩ | ⟨k, hk, hb, ⟨rfl, _⟩ | ⟨rfl, _⟩⟩ | ⟨l, hl, hb, rfl, _⟩
    · apply c1; rw [nI_toInt (by omega)]; omega
    · exact z1 k hk (by rw [z_subl (by omega), show 10 + k - 10 = k by omega]) hb
    · exact z2 k hk (by rw [z_subl (by omega), show 20 + k - 20 = k by omega]) hb
    · exact z3 l hl (by rw [z_subl (by omega), show 30 + l - 30 = l by omega]) hb
  · rw [if_pos rfl]
    unfold wX12_triedBy
    rw [lies_eq, i64i, zj1, zj60, b2i_t c0, if_neg (by decide), lies_eq, i64i, zj0, show (6 : Int64).toInt = 6 by decide, b2i_f hno.1, if_pos rfl]
    rcases isTelling_c bT (a1 - 10) with ⟨k, k4, e1, z, q⟩ | ⟨q, _⟩
    · exact absurd z (hno.2.1 k k4 e1)
    rw [q, if_pos rfl]
    rcases isTelling_c bT (a1 - 20) with ⟨k, k4, e1, z, q⟩ | ⟨q, _⟩
    · exact absurd z (hno.2.2.1 k k4 e1)
    rw [q, if_pos rfl]
    rcases isListening_c bL (a1 - 30) with ⟨k, k4, e1, z, q⟩ | ⟨q, _⟩
    · exact absurd z (hno.2.2.2 k k4 e1)
    rw [q, if_pos rfl]
    exact hp _ _ _ rr
theorem tried_ok {LL : xMem → xMem → Prop} (hLL : LLc LL) (hS : LSem LL) (a0 a1 : Int32) (C M : xMem) (h : RRL LL C M) : wX11_tried a0 a1 C (fun r C' => wX12_tried a0 a1 M (fun r' M' => r = r' ∧ RRL LL C' M')) := by
  obtain ⟨⟨S, e, hl, hk, il, to, il2, to2, kp, tn, t, hR⟩, hL⟩ := id h
  obtain ⟨V, W, oV, oW, sC, sC2, sM, sM2⟩ := hS C M hL
  exact tryX hLL hR hL h (r := 0) (o1 := 18) (by omega) (Or.inl rfl) oV sC sM a0 a1 (fun r C' r' M' => r = r' ∧ RRL LL C' M') (fun v C' M' q => ⟨rfl, q⟩)
theorem other_ok {LL : xMem → xMem → Prop} (hLL : LLc LL) (hS : LSem LL) (a0 a1 : Int32) (C M : xMem) (h : RRL LL C M) : wX11_other a0 a1 C (fun r C' => wX12_other a0 a1 M (fun r' M' => r = r' ∧ RRL LL C' M')) := by
  obtain ⟨⟨S, e, hl, hk, il, to, il2, to2, kp, tn, t, hR⟩, hL⟩ := id h
  obtain ⟨V, W, oV, oW, sC, sC2, sM, sM2⟩ := hS C M hL
  exact tryX hLL hR hL h (r := 1) (o1 := 25) (by omega) (Or.inr rfl) oW sC2 sM2 a0 a1 (fun r C' r' M' => r = r' ∧ RRL LL C' M') (fun v C' M' q => ⟨rfl, q⟩)
