theorem nI_ex (a : Int32) : ∃ n : Nat, a = nI n ∧ 2 ^ 32 ≤ n := by
  refine ⟨a.toBitVec.toNat + 2 ^ 32, ?_, by omega⟩
  apply Int32.toBitVec_inj.mp
  show a.toBitVec = BitVec.ofNat 32 (a.toBitVec.toNat + 2 ^ 32)
  apply BitVec.eq_of_toNat_eq
  rw [BitVec.toNat_ofNat]
  have := a.toBitVec.isLt
  omega
theorem QM_ex (M : xMem) : ∃ q, QM q M := by
  refine ⟨fun i => if i < 7 then Classical.choose (nI_ex (gi M 0 (71 + i))) else if i = 7 then Classical.choose (nI_ex (gi M 0 78)) else Classical.choose (nI_ex (gi M 0 79)), fun i hi => ?_, ?_, ?_⟩
  · simp only [hi, if_true]
    exact (Classical.choose_spec (nI_ex (gi M 0 (71 + i)))).1
  · have h := Classical.choose_spec (nI_ex (gi M 0 78))
    show _ = wh (Classical.choose (nI_ex (gi M 0 78)))
    unfold wh
    rw [if_neg (by omega)]
    exact h.1
  · have h := Classical.choose_spec (nI_ex (gi M 0 79))
    show _ = wn (Classical.choose (nI_ex (gi M 0 79)))
    unfold wn
    rw [if_neg (by omega)]
    exact h.1
def q0 (n : Nat) : Nat → Nat := fun i => if i = 7 then 10 else if i = 9 then n else 0
theorem beginInC {o o1 : Nat} {C : xMem} (post : xMem → Prop) (hp : ∀ (C' : xMem) (n : Nat), (∀ c i, c ≠ 78 → gi C' c i = gi C c i) → gi C' 78 3 = nI o → gi C' 78 4 = nI o1 → QC (q0 n) C' → post C') : wX1_beginIn o o1 C post := by
  obtain ⟨n, hn, -⟩ := nI_ex (gi C 78 5)
  unfold wX1_beginIn
  simp only [forall_eq]
  refine hp _ n (fun c i hc => by simp (disch := omega) only [g_c]) ?_ ?_ ⟨fun i hi => ?_, ?_, ?_, ?_⟩
  · simp [gi_si]
  · simp [gi_si]
  · have : i = 0 ∨ i = 1 ∨ i = 2 ∨ i = 3 ∨ i = 4 ∨ i = 5 ∨ i = 6 := by omega
    rcases this with rfl | rfl | rfl | rfl | rfl | rfl | rfl <;> simp [gi_si, q0] <;> rfl
  · simp [gi_si, q0, wh]
  · simp [gi_si, q0, wn]
  · simp [gi_si, q0, hn]
/-- what a changed hall gives -/
theorem RRL_ev {LL : xMem → xMem → Prop} (hLL : LLc LL) {S : Nat → List Nat} {e h hk : xT2} {il to il2 to2 : Int32} {kp : Bool} {tn : Nat} {t : Nat → Nat} {C M C' M' : xMem} (hR : RD S e h hk il to il2 to2 kp tn t C M) (hL : LL C M) {o1 : Nat} {st : xS} (eC : EvC 49 o1 C st C') (eM : EvM 0 M st M') (w : wfH S st.1 ∧ ∀ k, k < 4 → st.1 3 k ≤ (S (st.1 1 k)).length) : RRL LL C' M' := by
  have x1 := hR.2.2.2.2.2.1
  refine RRL_hall hLL hR hL (fun c i hc hn => eC.2.2.2.2 c i ⟨hc, by omega⟩) (fun c i hc hn => ?_) (h' := st.1) (il' := st.2.2.1) (to' := st.2.2.2) ⟨w.1, w.2, eC.2.2.1, eM.2.1⟩
  by_cases z : c = 0 ∧ i = 27
  · obtain ⟨rfl, rfl⟩ := z
    rw [eM.1, x1]; rfl
  · exact eM.2.2.2 c i ⟨Or.inl hc, hn⟩ z
theorem wfH_u {S : Nat → List Nat} {h : xT2} (w : wfH S h) {k : Nat} : (∀ v, v ≤ 9999 → wfH S (h2u h 2 k v)) ∧ (∀ v, v ≤ 72 → (h 0 0).testBit k = true ∨ v = 0 → wfH S (h2u h 3 k v)) ∧ (∀ v, v < 1024 → wfH S (h2u h 4 k v)) ∧ (wfH S (h2u h 6 k 4)) ∧ (∀ v, v ≤ 9 → (h 5 0).testBit k = true ∨ v = 0 → wfH S (h2u h 8 k v)) ∧ (∀ v, v ≤ 9 → wfH S (h2u h 9 k v)) ∧ (∀ v, v ≤ 9999 → wfH S (h2u h 10 0 v)) ∧ (∀ v, v < 65536 → wfH S (h2u h 13 0 v)) := by
  obtain ⟨w1, w2, w3, w4, w5, w6⟩ := w
  refine ⟨fun v hv => ?_, fun v hv ht => ?_, fun v hv => ?_, ?_, fun v hv ht => ?_, fun v hv => ?_, fun v hv => ?_, fun v hv => ?_⟩
  · refine ⟨by simpa [h2u] using w1, by simpa [h2u] using w2, by simpa [h2u] using w3, by simpa [h2u] using w4, fun j hj => ?_, by simpa [h2u] using w6⟩
    have := w5 j hj
    by_cases e : j = k
    · subst e; simp [h2u]; exact ⟨this.1, hv, this.2.2.1, this.2.2.2.1, by simpa using this.2.2.2.2.1, by simpa using this.2.2.2.2.2⟩
    · simpa [h2u, e] using this
  · refine ⟨by simpa [h2u] using w1, by simpa [h2u] using w2, by simpa [h2u] using w3, by simpa [h2u] using w4, fun j hj => ?_, by simpa [h2u] using w6⟩
    have := w5 j hj
    by_cases e : j = k
    · subst e; simp [h2u]; exact ⟨this.1, this.2.1, hv, this.2.2.2.1, by simpa using this.2.2.2.2.1, fun q => by rcases ht with z | z; rw [z] at q; cases q; exact z⟩
    · simpa [h2u, e] using this
  · refine ⟨by simpa [h2u] using w1, by simpa [h2u] using w2, by simpa [h2u] using w3, by simpa [h2u] using w4, fun j hj => ?_, by simpa [h2u] using w6⟩
    have := w5 j hj
    by_cases e : j = k
    · subst e; simp [h2u]; exact ⟨this.1, this.2.1, this.2.2.1, hv, by simpa using this.2.2.2.2.1, by simpa using this.2.2.2.2.2⟩
    · simpa [h2u, e] using this
  · refine ⟨by simpa [h2u] using w1, by simpa [h2u] using w2, by simpa [h2u] using w3, by simpa [h2u] using w4, by simpa [h2u] using w5, fun j hj => ?_⟩
    have := w6 j hj
    by_cases e : j = k
    · subst e; simp [h2u]; exact ⟨this.2.1, this.2.2.1, this.2.2.2.1, by simpa using this.2.2.2.2⟩
    · simpa [h2u, e] using this
  · refine ⟨by simpa [h2u] using w1, by simpa [h2u] using w2, by simpa [h2u] using w3, by simpa [h2u] using w4, by simpa [h2u] using w5, fun j hj => ?_⟩
    have := w6 j hj
    by_cases e : j = k
    · subst e; simp [h2u]; exact ⟨this.1, this.2.1, hv, this.2.2.2.1, fun q => by rcases ht with z | z; rw [z] at q; cases q; exact z⟩
    · simpa [h2u, e] using this
  · refine ⟨by simpa [h2u] using w1, by simpa [h2u] using w2, by simpa [h2u] using w3, by simpa [h2u] using w4, by simpa [h2u] using w5, fun j hj => ?_⟩
    have := w6 j hj
    by_cases e : j = k
    · subst e; simp [h2u]; exact ⟨this.1, this.2.1, this.2.2.1, hv, by simpa using this.2.2.2.2⟩
    · simpa [h2u, e] using this
  · exact ⟨by simpa [h2u] using w1, by simpa [h2u] using w2, by simpa [h2u] using hv, by simpa [h2u] using w4, by simpa [h2u] using w5, by simpa [h2u] using w6⟩
  · exact ⟨by simpa [h2u] using w1, by simpa [h2u] using w2, by simpa [h2u] using w3, by simpa [h2u] using hv, by simpa [h2u] using w5, by simpa [h2u] using w6⟩
theorem wf_buy {V : xV} {S : Nat → List Nat} {e : xT2} {st : xS} (w : wfH S st.1) (t : ∀ k, k < 4 → st.1 3 k ≤ (S (st.1 1 k)).length) {k x : Nat} (hk : k < 4) (hx : x < 10) (pr : Nat) : wfH S (sBuy V e st k x pr).1 ∧ ∀ j, j < 4 → (sBuy V e st k x pr).1 3 j ≤ (S ((sBuy V e st k x pr).1 1 j)).length := by
  have wk := w.2.2.2.2.1 k hk
  have wx := w.2.2.2.2.2 x hx
  refine ⟨?_, fun j hj => by simpa [sBuy, h2u] using t j hj⟩
  have a := (wfH_u w (k := k)).1 (st.1 2 k - pr) (by omega)
  have b := (wfH_u a (k := x)).2.2.2.2.2.1 (st.1 9 x - 1) (by omega)
  have c := (wfH_u b (k := 0)).2.2.2.2.2.2.2 (sX (st.1 13 0)) (sX_lt _)
  exact (wfH_u c (k := k)).2.2.1 _ (Nat.lt_of_le_of_lt Nat.and_le_left wk.2.2.2.1)
theorem buys_ok {LL : xMem → xMem → Prop} (hLL : LLc LL) (hS : LSem LL) (a0 a1 : Int32) (C M : xMem) (h : RRL LL C M) : wX11_buys a0 a1 C (fun r C' => wX12_buys a0 a1 M (fun r' M' => r = r' ∧ RRL LL C' M')) := by
  obtain ⟨⟨S, e, hl, hk, il, to, il2, to2, kp, tn, t, hR⟩, hL⟩ := id h
  obtain ⟨V, W, oV, oW, sC, sC2, sM, sM2⟩ := hS C M hL
  obtain ⟨wE, rE, rE2⟩ := hR.2.1
  obtain ⟨wH, tL, rH, rH2⟩ := hR.2.2.1
  have x1 := hR.2.2.2.2.2.1
  have oko : okO 49 18 := by unfold okO; omega
  have fin0 : ∀ (C' M' : xMem), (∀ c i, chC 18 c i → gi C' c i = gi C c i) → (∀ c i, chM c i → gi M' c i = gi M c i) → RRL LL C' M' := fun C' M' f g => RRL_fr hLL h (fun c i hc => f c i (chC_cnt hc).1) (fun c i hc => g c i (chM_cnt hc))
  unfold wX11_buys
  rw [within_eq, zi0, zi3]
  by_cases c0 : 0 ≤ a0.toInt ∧ a0.toInt ≤ 3
  rotate_left
  · rw [b2i_f c0, if_pos rfl]
    unfold wX12_buys
    dsimp only
    rw [isTelling_out c0, if_pos rfl]
    exact ⟨rfl, h⟩
  rw [b2i_t c0, if_neg (by decide)]
  obtain ⟨k, hk3, rfl⟩ := at_n (a := a0) (n := 3) c0 (by decide)
  have hk4 : k < 4 := by omega
  have wk := wH.2.2.2.2.1 k hk4
  have rHk := rH.2.2.2.2.2.2.1 k hk4
  have mHk := rH2.1 k hk4
  have w0 := wH.1
  rw [rH.1, hasC_n (by omega) (by omega)]
  by_cases tb : (hl 0 0).testBit k = true
  rotate_left
  · rw [b2i_f tb, if_pos rfl]
    unfold wX12_buys
    dsimp only
    rw [isTelling_eq mHk.1 hk4, b2i_f tb, if_pos rfl]
    exact ⟨rfl, h⟩
  rw [b2i_t tb, if_neg (by decide)]
  by_cases c1 : 0 ≤ a1.toInt ∧ a1.toInt ≤ 9
  rotate_left
  · rw [isTold2_o c1, if_pos rfl]
    unfold wX12_buys
    dsimp only
    rw [isTelling_eq mHk.1 hk4, b2i_t tb, if_neg (by decide), isThere_out c1, if_pos rfl]
    exact ⟨rfl, h⟩
  obtain ⟨x, hx9, rfl⟩ := at_n (a := a1) (n := 9) c1 (by decide)
  have hx : x < 10 := by omega
  have hE := wE.2 x hx
  have mEx := rE2 x hx
  have wx := wH.2.2.2.2.2 x hx
  have rHx := rH.2.2.2.2.2.2.2 x hx
  have mHx := rH2.2.1 x hx
  rw [isTold2_eq rE.1 wE.1 hx]
  by_cases tx : (e 0 0).testBit x = true
  rotate_left
  · rw [b2i_f tx, if_pos rfl]
    unfold wX12_buys
    dsimp only
    rw [isTelling_eq mHk.1 hk4, b2i_t tb, if_neg (by decide), isThere_eq mEx.1 hx, b2i_f tx, if_pos rfl]
    exact ⟨rfl, h⟩
  rw [b2i_t tx, if_neg (by decide)]
  refine ⟨vl hx (by decide), ?_⟩
  rw [nI_clamp (by omega), show gi C 57 x = nI (hl 9 x) from rHx.2.2.2]
  have ref : ∀ post : Int32 → xMem → Prop, (if nI (hl 9 x) = 0 then post (-1) M else wX12_costOf (nI x) M (fun r10 M9 => vp_in (nI k) 4 ∧ if r10 ≤ gi M9 32 (nI k).toNatClampNeg then wX12_buying (nI k) (nI x) r10 M9 (fun r14 M13 => post r14 M13) else post (-1) M9)) → wX12_buys (nI k) (nI x) M post := by
    intro post hp
    unfold wX12_buys
    rw [isTelling_eq mHk.1 hk4, b2i_t tb, if_neg (by decide), isThere_eq mEx.1 hx, b2i_t tx, if_neg (by decide)]
    refine ⟨vl hx (by decide), ?_⟩
    rw [nI_clamp (by omega), mHx.2.2.2.2]
    exact hp
  by_cases z : hl 9 x = 0
  · rw [z, if_neg (show ¬ (0 : Int32) < nI 0 by decide)]
    refine ref _ ?_
    rw [if_pos (show nI (hl 9 x) = 0 by rw [z]; rfl)]
    exact ⟨rfl, h⟩
  rw [if_pos (show (0 : Int32) < nI (hl 9 x) from nI_lt (a := 0) (by omega) (by omega))]
  have zz : ¬ nI (hl 9 x) = 0 := fun q => z ((nI_eq (b := 0) (by omega) (by omega)).mp q)
  refine askEC oko sC rH rE hx hE.1 (kind := 1) (by omega) _ (fun C1 k1 => ?_)
  refine ⟨vl hk4 (by decide), ?_⟩
  rw [nI_clamp (by omega), k1 51 k (by unfold askC; omega), show gi C 51 k = nI (hl 2 k) from rHk.2.1]
  have v1 := oV 1 (eV e hl x) (by omega)
  have v1' : V 1 (eV e hl x) ≤ 999 := v1
  by_cases z2 : V 1 (eV e hl x) ≤ hl 2 k
  rotate_left
  · rw [if_neg (nI_ge (by omega) (by omega))]
    refine ref _ ?_
    rw [if_neg zz]
    refine costM sM x1 rH2 rE2 hx hE.1 _ (fun M1 m1 => ?_)
    refine ⟨vl hk4 (by decide), ?_⟩
    rw [nI_clamp (by omega), m1 32 k (by unfold askM; omega), mHk.2.2.1, if_neg (nI_ge (by omega) (by omega))]
    exact ⟨rfl, fin0 _ _ (fun c i hc => k1 c i hc.1) (fun c i hc => m1 c i hc.1)⟩
  rw [if_pos (nI_le z2 (by omega))]
  refine beginInC _ (fun C2 n0 g1 g2 g3 g4 => ?_)
  have X : CxC S e V 49 18 C := ⟨Or.inl rfl, Or.inl rfl, oV, sC, wE, rE, fun j hj => ⟨(hR.1 j hj).1, (hR.1 j hj).2.1⟩⟩
  have XM : CxM S e V 0 M := ⟨by omega, oV, sM, wE, rE2, fun j hj => ⟨(hR.1 j hj).1, (hR.1 j hj).2.2⟩⟩
  have E2 : EvC 49 18 C (hl, q0 n0, il, to) C2 := ⟨g2, g3, HC_keep (fun c i a b => by rw [g1 c i (by omega), k1 c i (by unfold askC; omega)]) rH, g4, fun c i hc => by
    have hc2 := hc
    unfold evC cntC lawC at hc2
    rw [g1 c i (by omega), k1 c i (askC_cnt hc.1).1]⟩
  refine buyC X wH E2 hk4 hx z2 (by show 1 ≤ hl 9 x; omega) tx _ (fun C3 E3 _ => ?_)
  refine ref _ ?_
  rw [if_neg zz]
  refine costM sM x1 rH2 rE2 hx hE.1 _ (fun M1 m1 => ?_)
  refine ⟨vl hk4 (by decide), ?_⟩
  rw [nI_clamp (by omega), m1 32 k (by unfold askM; omega), mHk.2.2.1, if_pos (nI_le z2 (by omega))]
  obtain ⟨qm, hqm⟩ := QM_ex M1
  have F2 : EvM 0 M (hl, qm, il, to) M1 := ⟨by rw [m1 _ _ (by unfold askM; omega)]; exact x1, HM_keep (fun c i a b d => m1 c i (by unfold askM; omega)) (fun i hi => m1 0 i (by unfold askM; omega)) rH2, hqm, fun c i hc hn => by
    have hc2 := hc
    unfold evM cntM at hc2
    exact m1 c i (by unfold askM; omega)⟩
  refine buyM XM wH F2 hk4 hx z2 (by show 1 ≤ hl 9 x; omega) tx _ (fun M3 F3 _ => ⟨rfl, ?_⟩)
  have wb := wf_buy (V := V) (e := e) (st := (hl, q0 n0, il, to)) wH tL hk4 hx (V 1 (eV e hl x))
  obtain ⟨m1', m2, m3, m4⟩ := F3
  obtain ⟨qm3, hqm3⟩ : ∃ q, q = (sBuy V e (hl, qm, il, to) k x (V 1 (eV e hl x))).2.1 := ⟨_, rfl⟩
  -- the counters are the reference's own
  have x1' := hR.2.2.2.2.2.1
  refine RRL_hall hLL hR hL (fun c i hc hn => E3.2.2.2.2 c i ⟨hc, by omega⟩) (fun c i hc hn => ?_) (h' := (sBuy V e (hl, q0 n0, il, to) k x (V 1 (eV e hl x))).1) (il' := il) (to' := to) ⟨wb.1, wb.2, E3.2.2.1, m2⟩
  by_cases zc : c = 0 ∧ i = 27
  · obtain ⟨rfl, rfl⟩ := zc
    rw [m1', x1']; rfl
  · exact m4 c i ⟨Or.inl hc, hn⟩ zc
