def h2u (h : xT2) (r i v : Nat) : xT2 := fun a b => if a = r ∧ b = i then v else h a b
theorem SC_keep {ts : List Nat} {k : Nat} {C C' : xMem} (hk : k < 6) (hc : ∀ c i, 3 ≤ c → c ≤ 14 → gi C' c i = gi C c i) (h : SC ts k C) : SC ts k C' := by
  obtain ⟨h1, h2, h3, h4, h5⟩ := h
  refine ⟨?_, fun i hi => ?_, ?_, ?_, ?_⟩
  · rw [hc _ _ (by omega) (by omega)]; exact h1
  · rw [hc _ _ (by omega) (by omega)]; exact h2 i hi
  · rw [hc _ _ (by omega) (by omega)]; exact h3
  · rw [hc _ _ (by omega) (by omega)]; exact h4
  · rw [hc _ _ (by omega) (by omega)]; exact h5
theorem SM_keep {ts : List Nat} {k : Nat} {M M' : xMem} (hc : ∀ c i, 2 ≤ c → c ≤ 4 → gi M' c i = gi M c i) (h : SM ts k M) : SM ts k M' := by
  obtain ⟨h1, h2, h3⟩ := h
  refine ⟨?_, ?_, fun i hi => ?_⟩
  · rw [hc _ _ (by omega) (by omega)]; exact h1
  · rw [hc _ _ (by omega) (by omega)]; exact h2
  · rw [hc _ _ (by omega) (by omega)]; exact h3 i hi
theorem EC_keep {e : xT2} {C C' : xMem} (h0 : gi C' 41 0 = gi C 41 0) (hc : ∀ c i, 42 ≤ c → c ≤ 44 → gi C' c i = gi C c i) (h : EC e C) : EC e C' := by
  refine ⟨by rw [h0]; exact h.1, fun k hk => ?_⟩
  rw [hc 42 k (by omega) (by omega), hc 43 k (by omega) (by omega), hc 44 k (by omega) (by omega)]
  exact h.2 k hk
theorem EM_keep {e : xT2} {M M' : xMem} (hc : ∀ c i, 25 ≤ c → c ≤ 29 → c ≠ 28 → gi M' c i = gi M c i) (h : EM e M) : EM e M' := fun k hk => by
  rw [hc 25 k (by omega) (by omega) (by omega), hc 26 k (by omega) (by omega) (by omega), hc 27 k (by omega) (by omega) (by omega), hc 29 k (by omega) (by omega) (by omega)]
  exact h k hk
theorem HC_keep {o : Nat} {h : xT2} {il to : Int32} {C C' : xMem} (hc : ∀ c i, o ≤ c → c ≤ o + 8 → gi C' c i = gi C c i) (hh : HC o h il to C) : HC o h il to C' := by
  obtain ⟨a1, a2, a3, a4, a5, a6, a7, a8⟩ := hh
  refine ⟨?_, ?_, ?_, ?_, ?_, ?_, fun k hk => ?_, fun l hl => ?_⟩
  · rw [hc _ _ (by omega) (by omega)]; exact a1
  · rw [hc _ _ (by omega) (by omega)]; exact a2
  · rw [hc _ _ (by omega) (by omega)]; exact a3
  · rw [hc _ _ (by omega) (by omega)]; exact a4
  · rw [hc _ _ (by omega) (by omega)]; exact a5
  · rw [hc _ _ (by omega) (by omega)]; exact a6
  · rw [hc (o + 1) k (by omega) (by omega), hc (o + 2) k (by omega) (by omega), hc (o + 3) k (by omega) (by omega), hc (o + 4) k (by omega) (by omega)]; exact a7 k hk
  · rw [hc (o + 5) l (by omega) (by omega), hc (o + 6) l (by omega) (by omega), hc (o + 7) l (by omega) (by omega), hc (o + 8) l (by omega) (by omega)]; exact a8 l hl
theorem HM_keep {h : xT2} {il to : Int32} {M M' : xMem} (hc : ∀ c i, 28 ≤ c → c ≤ 38 → c ≠ 29 → gi M' c i = gi M c i) (h0 : ∀ i, i = 65 ∨ i = 66 ∨ i = 67 ∨ i = 2 → gi M' 0 i = gi M 0 i) (hh : HM h il to M) : HM h il to M' := by
  obtain ⟨a1, a2, a3, a4, a5, a6⟩ := hh
  refine ⟨fun k hk => ?_, fun l hl => ?_, ?_, ?_, ?_, ?_⟩
  · rw [hc 30 k (by omega) (by omega) (by omega), hc 31 k (by omega) (by omega) (by omega), hc 32 k (by omega) (by omega) (by omega), hc 33 k (by omega) (by omega) (by omega), hc 34 k (by omega) (by omega) (by omega)]; exact a1 k hk
  · rw [hc 35 l (by omega) (by omega) (by omega), hc 36 l (by omega) (by omega) (by omega), hc 37 l (by omega) (by omega) (by omega), hc 38 l (by omega) (by omega) (by omega), hc 28 l (by omega) (by omega) (by omega)]; exact a2 l hl
  · rw [h0 65 (by omega)]; exact a3
  · rw [h0 66 (by omega)]; exact a4
  · rw [h0 67 (by omega)]; exact a5
  · rw [h0 2 (by omega)]; exact a6
theorem HA_keep1 {h : xT2} {il to : Int32} {M M' : xMem} (hc : ∀ c i, (41 ≤ c ∧ c ≤ 45 ∧ 4 ≤ i) ∨ (46 ≤ c ∧ c ≤ 50 ∧ 10 ≤ i) ∨ (51 ≤ c ∧ c ≤ 54 ∧ 1 ≤ i) → gi M' c i = gi M c i) (hh : HA 1 h il to M) : HA 1 h il to M' := by
  obtain ⟨a1, a2, a3, a4, a5, a6⟩ := hh
  refine ⟨fun k hk => ?_, fun l hl => ?_, ?_, ?_, ?_, ?_⟩
  · rw [hc 41 _ (by omega), hc 42 _ (by omega), hc 43 _ (by omega), hc 44 _ (by omega), hc 45 _ (by omega)]; exact a1 k hk
  · rw [hc 46 _ (by omega), hc 47 _ (by omega), hc 48 _ (by omega), hc 49 _ (by omega), hc 50 _ (by omega)]; exact a2 l hl
  · rw [hc 51 _ (by omega)]; exact a3
  · rw [hc 52 _ (by omega)]; exact a4
  · rw [hc 53 _ (by omega)]; exact a5
  · rw [hc 54 _ (by omega)]; exact a6
theorem HA_keep {r : Nat} {h : xT2} {il to : Int32} {M M' : xMem} (hc : ∀ c i, 41 ≤ c → c ≤ 54 → gi M' c i = gi M c i) (hh : HA r h il to M) : HA r h il to M' := by
  obtain ⟨a1, a2, a3, a4, a5, a6⟩ := hh
  refine ⟨fun k hk => ?_, fun l hl => ?_, ?_, ?_, ?_, ?_⟩
  · rw [hc 41 _ (by omega) (by omega), hc 42 _ (by omega) (by omega), hc 43 _ (by omega) (by omega), hc 44 _ (by omega) (by omega), hc 45 _ (by omega) (by omega)]; exact a1 k hk
  · rw [hc 46 _ (by omega) (by omega), hc 47 _ (by omega) (by omega), hc 48 _ (by omega) (by omega), hc 49 _ (by omega) (by omega), hc 50 _ (by omega) (by omega)]; exact a2 l hl
  · rw [hc 51 _ (by omega) (by omega)]; exact a3
  · rw [hc 52 _ (by omega) (by omega)]; exact a4
  · rw [hc 53 _ (by omega) (by omega)]; exact a5
  · rw [hc 54 _ (by omega) (by omega)]; exact a6
theorem TC_keep {tn : Nat} {t : Nat → Nat} {C C' : xMem} (h1 : gi C' 0 1 = gi C 0 1) (h2 : ∀ i, gi C' 1 i = gi C 1 i) (h : TC tn t C) : TC tn t C' := ⟨by rw [h1]; exact h.1, fun i hi => by rw [h2]; exact h.2 i hi⟩
theorem TM_keep {tn : Nat} {t : Nat → Nat} {M M' : xMem} (h1 : gi M' 0 1 = gi M 0 1) (h2 : ∀ i, gi M' 1 i = gi M 1 i) (h : TM tn t M) : TM tn t M' := ⟨by rw [h1]; exact h.1, fun i hi => by rw [h2]; exact h.2 i hi⟩
/-- the laws' part stays where its cells stay: 18 to 31 of the system, 9 to 15 and the number 28 of the reference -/
def lawC (c i : Nat) : Prop := 18 ≤ c ∧ c ≤ 30 ∧ c ≠ 24 ∧ ¬ ((c = 18 ∨ c = 25) ∧ i = 8)
def LLc (LL : xMem → xMem → Prop) : Prop := ∀ C C' M M', (∀ c i, lawC c i → gi C' c i = gi C c i) → (∀ c i, 9 ≤ c → c ≤ 15 → gi M' c i = gi M c i) → gi M' 0 28 = gi M 0 28 → LL C M → LL C' M'
theorem seed_fin {LL : xMem → xMem → Prop} (hLL : LLc LL) (a0 : Int32) (C M : xMem) (h : RRL LL C M) : wX11_seed a0 C (fun r C' => wX12_seed a0 M (fun r' M' => r = r' ∧ RRL LL C' M')) := by
  refine seed_ok a0 C M (RRL LL) h (fun h0 h1 => ?_)
  obtain ⟨⟨S, e, hl, hk, il, to, il2, to2, kp, tn, t, hR⟩, hL⟩ := h
  obtain ⟨n, hn, rfl⟩ := at_n (n := 65535) ⟨h0, h1⟩ (by decide)
  obtain ⟨rS, ⟨wE, rE, rE2⟩, ⟨wH, tL, rH, rH2⟩, ⟨k1, k2, k3⟩, ⟨wT, rT, rT2⟩, x1, x2⟩ := hR
  refine ⟨⟨S, e, h2u hl 13 0 n, hk, il, to, il2, to2, kp, tn, t, fun k hk6 => ⟨(rS k hk6).1, SC_keep hk6 (fun c i _ _ => gi_si_c _ (by omega) _ _ _) (rS k hk6).2.1, SM_keep (fun c i _ _ => gi_si_c _ (by omega) _ _ _) (rS k hk6).2.2⟩, ⟨wE, EC_keep (gi_si_c _ (by omega) _ _ _) (fun c i _ _ => gi_si_c _ (by omega) _ _ _) rE, EM_keep (fun c i _ _ _ => gi_si_c _ (by omega) _ _ _) rE2⟩, ⟨?_, ?_, ?_, ?_⟩, ⟨?_, ?_, fun q => ⟨(k3 q).1, HC_keep (fun c i _ _ => gi_si_c _ (by omega) _ _ _) (k3 q).2.1, HA_keep (fun c i _ _ => gi_si_c _ (by omega) _ _ _) (k3 q).2.2⟩⟩, ⟨wT, TC_keep (gi_si_c _ (by omega) _ _ _) (fun i => gi_si_c _ (by omega) _ _ _) rT, TM_keep (by simp [gi_si]) (fun i => gi_si_c _ (by omega) _ _ _) rT2⟩, ?_, ?_⟩, ?_⟩
  · obtain ⟨w1, w2, w3, w4, w5, w6⟩ := wH
    refine ⟨by simpa [h2u] using w1, by simpa [h2u] using w2, by simpa [h2u] using w3, by simp [h2u]; omega, fun k hk4 => by simpa [h2u] using w5 k hk4, fun l hl10 => by simpa [h2u] using w6 l hl10⟩
  · intro k hk4; simpa [h2u] using tL k hk4
  · obtain ⟨a1, a2, a3, a4, a5, a6, a7, a8⟩ := rH
    refine ⟨by simpa [gi_si, h2u] using a1, by simpa [gi_si, h2u] using a2, by simpa [gi_si, h2u] using a3, by simpa [gi_si, h2u] using a4, by simpa [gi_si, h2u] using a5, by simp [gi_si, h2u], fun k hk4 => by simpa [gi_si, h2u] using a7 k hk4, fun l hl10 => by simpa [gi_si, h2u] using a8 l hl10⟩
  · obtain ⟨a1, a2, a3, a4, a5, a6⟩ := rH2
    refine ⟨fun k hk4 => by simpa [gi_si, h2u] using a1 k hk4, fun l hl10 => by simpa [gi_si, h2u] using a2 l hl10, by simpa [gi_si, h2u] using a3, by simpa [gi_si, h2u] using a4, by simpa [gi_si, h2u] using a5, by simp [gi_si, h2u]⟩
  · rw [gi_si_c _ (by omega)]; exact k1
  · rw [gi_si, if_neg (by omega)]; exact k2
  · rw [gi_si, if_neg (by omega)]; exact x1
  · rw [gi_si_c _ (by omega), gi_si_c _ (by omega)]; exact x2
  · exact hLL _ _ _ _ (fun c i hc => gi_si_c _ (by unfold lawC at hc; omega) _ _ _) (fun c i _ _ => gi_si_c _ (by omega) _ _ _) (by rw [gi_si, if_neg (by omega)]) hL
