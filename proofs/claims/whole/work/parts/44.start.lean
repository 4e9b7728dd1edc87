theorem y_mk {x : xCx} {b L : Nat} {xs : Nat → Int32} (Y : yOk x b L xs) {D : va_G} {T : zT5} (hK : va_K D vwCl (zT T) (ks x)) (hO : va_AO "LineGuild$Story" (ks x)) {ws0 : va_W} {q ci2 : Nat} {fs2 : List Value} {w2 : (Nat → Nat) → List Value × va_W} {mc2 ms2 maxL index k n pc : Nat} {y : MethodName} {bytes : ByteArray} {rm' : Room} {Lo : List (Nat × Value)} {st : List Value} (hM : zMet D T (kl x) y bytes maxL rm' [] q ci2 fs2 w2 mc2 ms2) (h1 : Cond.methodLink RL index y ∈ lw_tbl) (h2 : Cond.instanceMethod y ∈ lw_tbl) (h4 : Cond.initialized y.cls ∈ lw_tbl) (h5 : Cond.code y bytes maxL none ∈ lw_tbl) (hnm : y.name = "<init>") (hd : y.cls ≠ "java/lang/invoke/MethodHandle" ∧ y.cls ≠ "java/lang/invoke/VarHandle" ∧ (parseMethodDescriptor y.desc).map (fun d => d.parameters.length) = some 0) (hrm : rm'.cells = mc2 ∧ rm'.slots = ms2) (hR : rm'.frames + 1 ≤ room_1.frames ∧ 8 + (maxL + 11) + rm'.locals ≤ room_1.locals) (hrest : (st.map fun v => v.category).sum ≤ 8) (hc : k + mc2 ≤ room_1.cells) (hs : n + ms2 ≤ room_1.slots) (hdg : decode cL_law pc = .ok (.invokespecial index, 3))
    (kk : ∀ (a : Nat → Nat) (H : Heap) (locs : List Loc) (ls : Array Slot), va_P D vwCl (ws0 ++ ((q, .inr (ci2, (w2 a).1)) :: (w2 a).2)) H → va_D (yNew x) (ws0 ++ ((q, .inr (ci2, (w2 a).1)) :: (w2 a).2)) → va_S (yNew x) (ks x).heap H locs → lv_has ls 4 Lo → W (kp x) (kl x) (ke x) (kR x) (ks x) (km x) (ka x) (kb x) (kt x) (kc x) H locs (k + mc2) (n + ms2) (kQ x) (F0 (km x) (pc + 3) ls st)) :
    ∀ (H : Heap) (locs : List Loc) (ls : Array Slot), va_P D vwCl (ws0 ++ [(q, .inr (ci2, fs2))]) H → va_D (yNew x) (ws0 ++ [(q, .inr (ci2, fs2))]) → va_S (yNew x) (ks x).heap H locs → lv_has ls 4 Lo → W (kp x) (kl x) (ke x) (kR x) (ks x) (km x) (ka x) (kb x) (kt x) (kc x) H locs k n (kQ x) (F0 (km x) pc ls (.ref q :: st)) := by
  intro H locs ls hP0 hD0 hS hl
  have hPq : va_P D vwCl [(q, .inr (ci2, fs2))] H := z_pr hP0
  have hPr : va_P D vwCl ws0 H := z_pl hP0
  have hqA : yNew x q := hD0.2 ws0.length (q, .inr (ci2, fs2)) (by rw [List.getElem?_append_right (Nat.le_refl _)]; simp)
  have hfree : ∀ z, zA q H.size z → yNew x z := fun z hz => by
    rcases hz with rfl | hz
    · exact hqA
    · exact Nat.le_trans hS.1 hz
  have hr := va_runI (p := kp x) (l := kl x) (e := ke x) (R := kR x) (s := ks x) (m := km x) (args := ka x) (below := kb x) (meth := kt x) (c := kc x) (H := H) (locs := locs) (cells := k) (slots := n) (n := 0) (As := []) (rest := st) (b := q) (own := RL) (g := F0 (km x) pc ls (.ref q :: st)) ⟨Y.x1, Y.x2, Y.x3, Y.x4, Y.gd⟩ (hM H.size) (cwI 0 Y.gd (x_good (fun t ht => by
    rcases List.mem_cons.mp ht with rfl | h
    · exact x_gd h5 rfl
    · exact h)) rfl hrm.1 hrm.2 (Y.x5 _ h4) (Y.x5 _ h1) (Y.x5 _ h2) hnm hd (by rw [Y.x9]; exact hR)) ⟨fun a U g mk z => by
      obtain ⟨q1, q2, qP, qK, qN, qO⟩ := z
      exact ⟨q1, q2, qP, va_K.moved (u := U) (U := U.calling g mk a) (Vm.Alike.refl U.vm) qK, x_Ns.same (u := U) (U := U.calling g mk a) rfl qN, va_AO.moved (u := U) (U := U.calling g mk a) (Vm.Alike.refl U.vm) qO⟩, fun U hU hW => ⟨rfl, by rw [hU], by rw [hU]; exact hPq, va_K.moved hW.alike hK, x_Ns.warm hW Y.ns, va_AO.moved hW.alike hO⟩⟩ rfl rfl hl.1 rfl (lv_room hrest) hdg ⟨by rw [Y.x9]; exact hc, by rw [Y.x9]; exact hs⟩
  intro T0 hT X
  obtain ⟨v, st₀, t, T', L', h0', X', hL, e1, e2, ⟨⟨qs, hv, hP1, hD1⟩, hz, hk⟩, stp⟩ := hr T0 hT X
  cases hv
  rw [h0'] at hz hk
  have hk1 : ∀ z, z < H.size → ¬ zA q H.size z → t.heap[z]? = H[z]? := hk
  have hPr1 : va_P D vwCl ws0 t.heap := hPr.kept (fun j w hw => hk1 w.1 (hPr j w hw).lt (fun h => by
    rcases h with h | h
    · exact z_dlr hD0 j 0 w (q, .inr (ci2, fs2)) hw rfl h
    · exact absurd (hPr j w hw).lt (by omega)))
  have hPn : va_P D vwCl (ws0 ++ ((q, .inr (ci2, (w2 qs).1)) :: (w2 qs).2)) t.heap := va_P.app hPr1 hP1
  have hDn : va_D (yNew x) (ws0 ++ ((q, .inr (ci2, (w2 qs).1)) :: (w2 qs).2)) := va_D.app (z_dl hD0) (hD1.weaken (fun _ w _ hw => hfree w.1 hw)) (fun i j w1 w2' hw1 hw2 e => by
    have hb := hD1.2 j w2' hw2
    rcases hb with hb | hb
    · exact z_dlr hD0 i 0 w1 (q, .inr (ci2, fs2)) hw1 rfl (e.trans hb)
    · exact absurd (hPr i w1 hw1).lt (by omega))
  have hS' : va_S (yNew x) (ks x).heap T'.heap (locs ++ L') := ⟨Nat.le_trans hS.1 (by rw [e1]; exact hz), fun z g1 g2 => by
    rw [e1, hk1 z (Nat.lt_of_lt_of_le g1 hS.1) (fun h => g2 (hfree z h))]
    exact hS.2.1 z g1 g2, fun z hz => by
    rcases List.mem_append.mp hz with h | h
    · exact hS.2.2 z h
    · exact hfree _ (hL z h)⟩
  obtain ⟨t2, a1, b1⟩ := kk qs T'.heap (locs ++ L') ls (by rw [e1]; exact hPn) hDn hS' hl T' rfl X'
  exact ⟨t2, stp t2 a1, b1⟩
theorem z_dr {A : Nat → Prop} {w1 w2 : va_W} (h : va_D A (w1 ++ w2)) : va_D A w2 := ⟨fun i j p q hp hq e => by
  have := h.1 (w1.length + i) (w1.length + j) p q (by rw [List.getElem?_append_right (by omega)]; simpa using hp) (by rw [List.getElem?_append_right (by omega)]; simpa using hq) e
  omega, fun k q hq => h.2 (w1.length + k) q (by rw [List.getElem?_append_right (by omega)]; simpa using hq)⟩
set_option maxHeartbeats 4000000 in
set_option maxRecDepth 100000 in
theorem whole_open {RR : xMem → xMem → Prop} (hH : HH RR) (hRR : RR C0 M0) {p : Program} {e : Env} {s : State} {m : MethodId} {below : List Frame} {meth : Method} {c : Code} (l : Launch) {b L : Nat} {xs : Nat → Int32} (hL : L ≤ 3072) (C1 : lw_At p s m meth c b L xs) : W p l e room_1 s m #[Value.ref b] below meth c s.heap [] 0 0 (lw_Z below #[Value.ref b] s) (entryFrame m ([Value.ref b] : List Value).toArray 4) := by
  obtain ⟨hx, hb, hr, hml, hown, hts, hX, hbl, hlocks, hgv⟩ := id C1
  have hA : ∀ q : Nat, s.heap.size ≤ q → (fun q : Nat => s.heap.size ≤ q) q := fun _ h => h
  obtain ⟨D, T, hK, hO⟩ := z_K hts
  obtain ⟨adK, adV, tB, hex⟩ := ex_start hts hgv (fun q : Nat => s.heap.size ≤ q) (fun a h1 h2 => by omega)
  have hS : va_S (fun q : Nat => s.heap.size ≤ q) s.heap s.heap [] := va_S.rf
  have hP : va_P D vwCl [] s.heap := fun k q h => by simp at h
  have hD : va_D (fun q : Nat => s.heap.size ≤ q) [] := ⟨fun i j p q h => by simp at h, fun k q h => by simp at h⟩
  have hl := lv_entry ([.ref b]) (n := 4) (Nat.le_of_ble_eq_true rfl)
  rw [lg_entry_eq]
  generalize (lg_sl ([.ref b]) ++ List.replicate (4 - (lg_sl ([.ref b])).length) Slot.unset).toArray = ls at hl ⊢
  have hl : lv_has ls 4 [(0, .ref b)] := hl
  have Y : yOk (p, l, e, room_1, s, m, #[Value.ref b], below, meth, c, lw_Z below #[Value.ref b] s) b L xs := ⟨hx, hb, hml, hown, hts, hX, hbl, hL, rfl, rfl, rfl, hr, hlocks⟩
  refine va_new (ci := 11) (fs := z0_X11) (C := RX11) (T := TX11) (N := 17) hx hb hts inX11 tyX11 tyX11_ok hown (hts _ wk_L_7) (hts _ wn_X11) (hts _ wz_X11) hK hP hD hS hA rfl zf_X11 (Nat.le_of_ble_eq_true rfl) (Nat.le_of_ble_eq_true rfl) dL_law_0 (fun q1 H1 hP hD hS => ?_)
  refine lv_dup hx hb dL_law_3 rfl ?_
  refine y_mk Y hK hO (ws0 := []) (Lo := [(0, .ref b)]) (st := [.ref q1]) (zt_X11 D T l q1) wm_L_9 wi_X11_init wz_X11 wc_X11_init rfl yd_X11_init ⟨rfl, rfl⟩ ⟨Nat.le_of_ble_eq_true rfl, Nat.le_of_ble_eq_true rfl⟩ (Nat.le_of_ble_eq_true rfl) (Nat.le_of_ble_eq_true rfl) (Nat.le_of_ble_eq_true rfl) dL_law_4 (fun a1 H locs ls hP hD hS hl => ?_) H1 [] ls hP hD hS hl
  refine lv_astore_n (lv' := [(1, .ref q1), (0, .ref b)]) hx hb dL_law_7 rfl hl (by decide) rfl (fun ls hl => ?_)
  refine va_new (ci := 12) (fs := z0_X12) (C := RX12) (T := TX12) (N := 101) hx hb hts inX12 tyX12 tyX12_ok hown (hts _ wk_L_10) (hts _ wn_X12) (hts _ wz_X12) hK hP hD hS hA rfl zf_X12 (Nat.le_of_ble_eq_true rfl) (Nat.le_of_ble_eq_true rfl) dL_law_8 (fun q2 H1 hP hD hS => ?_)
  refine lv_dup hx hb dL_law_11 rfl ?_
  refine y_mk Y hK hO (Lo := [(1, .ref q1), (0, .ref b)]) (st := [.ref q2]) (zt_X12 D T l q2) wm_L_12 wi_X12_init wz_X12 wc_X12_init rfl yd_X12_init ⟨rfl, rfl⟩ ⟨Nat.le_of_ble_eq_true rfl, Nat.le_of_ble_eq_true rfl⟩ (Nat.le_of_ble_eq_true rfl) (Nat.le_of_ble_eq_true rfl) (Nat.le_of_ble_eq_true rfl) dL_law_12 (fun a2 H locs ls hP hD hS hl => ?_) H1 _ ls hP hD hS hl
  refine lv_astore_n (lv' := [(2, .ref q2), (1, .ref q1), (0, .ref b)]) hx hb dL_law_15 rfl hl (by decide) rfl (fun ls hl => ?_)
  refine lv_iconst (v := 0) hx hb dL_law_16 (by decide) ?_
  refine lv_istore_n (lv' := [(3, .int 0), (2, .ref q2), (1, .ref q1), (0, .ref b)]) hx hb dL_law_17 rfl hl (by decide) rfl (fun ls hl => ?_)
  have hP : va_P D vwCl (((q1, .inr (11, (zw_X11 T a1).1)) :: (zw_X11 T a1).2) ++ ((q2, .inr (12, (zw_X12 T a2).1)) :: (zw_X12 T a2).2)) H := hP
  have hD : va_D (fun q : Nat => s.heap.size ≤ q) (((q1, .inr (11, (zw_X11 T a1).1)) :: (zw_X11 T a1).2) ++ ((q2, .inr (12, (zw_X12 T a2).1)) :: (zw_X12 T a2).2)) := hD
  obtain ⟨i1, n1⟩ := x_injP (w := WC (gC0 D T q1 a1 adK adV tB)) (z_dl hD) pmC wpC_start wqC_start
  obtain ⟨i2, n2⟩ := x_injP (w := WM (gM0 D T q2 a2)) (z_dr hD) pmM wpM_start wqM_start
  have G : yG (p, l, e, room_1, s, m, #[Value.ref b], below, meth, c, lw_Z below #[Value.ref b] s) (gC0 D T q1 a1 adK adV tB) (gM0 D T q2 a2) := by
    refine ⟨hK.sub [0, 1, 2] rfl, hK.sub [0, 3, 4] rfl, i1, i2, n1, n2, fun q hq hq2 => ?_, ?_⟩
    · obtain ⟨c1, hc1, rfl⟩ := hq
      obtain ⟨c2, hc2, e2⟩ := hq2
      obtain ⟨e1, g1⟩ := wpC_start (D := D) (T := T) (h0 := q1) (a := a1) (adK := adK) (adV := adV) (tB := tB) c1 hc1
      obtain ⟨e3, g3⟩ := wpM_start (D := D) (T := T) (h0 := q2) (a := a2) c2 hc2
      exact z_dlr hD _ _ _ _ g1 g3 e2
    · obtain ⟨x1, x2, x3, x4, x5, x6⟩ := hex
      exact ⟨x1.narrow n1, x2, x3.narrow n1, x4.narrow n1, x5.narrow n1, x6.narrow n1⟩
  have hPP : PPc (gC0 D T q1 a1 adK adV tB) (gM0 D T q2 a2) C0 M0 H := ⟨wfC_start (z_pl hP), wfM_start (z_pr hP)⟩
  refine y_loop Y G hH (L + 1) 0 (Nat.zero_le L) (by omega) C0 M0 hRR H _ ls hPP hS ?_
  exact lv_sub hl [3, 2, 1, 0] rfl
