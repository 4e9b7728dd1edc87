def R_law : String := "LineGuildLaw"
def lw_P (b : Addr) (xs : List Int32) (args : Array Value) (s : State) : Prop := args = #[.ref b] ∧ s.IntsAt b xs ∧ xs.length ≤ 3072 ∧ (Jvm.Cond.and given_1 narrow_1).before args s = true
def lw_Q (_ : Array Value) (s : State) (o : Outcome) (t : State) : Prop := o = .returned (some (.int 1)) ∧ Framed s o t [] 600000 7302250
def lw_Z (below : List Frame) (a : Array Value) (s : State) : State → Prop := fun t => ∃ o, t.status = .running ∧ Ended t below o ∧ lw_Q a s o t
/-- the law's own end, with 1 on the stack, nothing written that was there before, its room as the claim has it -/
theorem lw_ret {p : Program} {l : Launch} {e : Env} {s : State} {m : MethodId} {below : List Frame} {meth : Method} {c : Code} {b : Nat} (hx : p.tables.exec = Jvm.exec) (hb : c.code = code) (hr : meth.sig.returnType = ret) (hlocks : meth.locks = false) {pc : Nat} {H : Heap} {ls : Array Slot} (hdg : decode code pc = .ok (.ireturn, 1)) : W p l e room_1 s m #[Value.ref b] below meth c H [] 600000 7302250 (lw_Z below #[Value.ref b] s) (F0 m pc ls [.int 1]) := by
  intro T hT X
  obtain ⟨fs, hret, hrun, hended, hW, hframe⟩ := X.leave (v := some (.int 1)) (hlocks := hlocks) (fun h => by rw [hr] at h; cases h)
  have hmeth' : T.vm.method? m = some meth := X.method'
  refine ⟨T.setFrames fs, ?_, .returned (some (.int 1)), hrun, hended, rfl, ⟨_, rfl⟩, hW, hframe⟩
  jvm_step X.here [X.here.top, hx, hb, hdg, hmeth', hr, ret, narrow_b1]
  (try refine ⟨rfl, ?_⟩); (try refine ⟨rfl, ?_⟩)
  first | (intro acts; rw [hret _ acts rfl rfl rfl]) | rw [hret _ _ rfl rfl rfl]
  exact Steps.refl _
/-- what holds at the law's entry: the machine, the code, the tables' words (any of lw_tbl by 'hts w (by decide +kernel)'), the script of L ints xs at the cell b, what the Statement gives of the start (any of its parts by flat_of_before) -/
def lw_At (p : Program) (s : State) (m : MethodId) (meth : Method) (c : Code) (b L : Nat) (xs : Nat → Int32) : Prop :=
  p.tables.exec = Jvm.exec ∧ c.code = code ∧ meth.sig.returnType = ret ∧ c.maxLocals = 4 ∧ s.vm.findClass R_law = some m.cls ∧ (∀ w ∈ lw_tbl, w.before #[Value.ref b] s = true) ∧ va_X b L xs s s.heap ∧ b < s.heap.size ∧ meth.locks = false ∧ (Jvm.Cond.and given_1 narrow_1).before #[Value.ref b] s = true
def yNew (x : xCx) : Nat → Prop := fun q => (ks x).heap.size ≤ q
/-- the law's goal: PP is what the heap holds -/
def yW (x : xCx) (pc : Nat) (Lo : List (Nat × Value)) (st : List Value) (PP : Heap → Prop) : Prop := ∀ (H : Heap) (locs : List Loc) (ls : Array Slot), PP H → va_S (yNew x) (ks x).heap H locs → lv_has ls 4 Lo → W (kp x) (kl x) (ke x) (kR x) (ks x) (km x) (ka x) (kb x) (kt x) (kc x) H locs 154 88047 (kQ x) (F0 (km x) pc ls st)
def yOk (x : xCx) (b L : Nat) (xs : Nat → Int32) : Prop :=
  (kp x).tables.exec = Jvm.exec ∧ (kc x).code = cL_law ∧ (kc x).maxLocals = 4 ∧ (ks x).vm.findClass RL = some (km x).cls ∧ (∀ t ∈ lw_tbl, t.before (ka x) (ks x) = true) ∧ va_X b L xs (ks x) (ks x).heap ∧ b < (ks x).heap.size ∧ L ≤ 3072 ∧ kR x = room_1 ∧ ka x = #[Value.ref b] ∧ kQ x = lw_Z (kb x) #[Value.ref b] (ks x) ∧ (kt x).sig.returnType = ret ∧ (kt x).locks = false

theorem yOk.x1 {x : xCx} {b L : Nat} {xs : Nat → Int32} (Y : yOk x b L xs) : (kp x).tables.exec = Jvm.exec := Y.1
theorem yOk.x2 {x : xCx} {b L : Nat} {xs : Nat → Int32} (Y : yOk x b L xs) : (kc x).code = cL_law := Y.2.1
theorem yOk.x3 {x : xCx} {b L : Nat} {xs : Nat → Int32} (Y : yOk x b L xs) : (kc x).maxLocals = 4 := Y.2.2.1
theorem yOk.x4 {x : xCx} {b L : Nat} {xs : Nat → Int32} (Y : yOk x b L xs) : (ks x).vm.findClass RL = some (km x).cls := Y.2.2.2.1
theorem yOk.x5 {x : xCx} {b L : Nat} {xs : Nat → Int32} (Y : yOk x b L xs) : ∀ t ∈ lw_tbl, t.before (ka x) (ks x) = true := Y.2.2.2.2.1
theorem yOk.x6 {x : xCx} {b L : Nat} {xs : Nat → Int32} (Y : yOk x b L xs) : va_X b L xs (ks x) (ks x).heap := Y.2.2.2.2.2.1
theorem yOk.x7 {x : xCx} {b L : Nat} {xs : Nat → Int32} (Y : yOk x b L xs) : b < (ks x).heap.size := Y.2.2.2.2.2.2.1
theorem yOk.x8 {x : xCx} {b L : Nat} {xs : Nat → Int32} (Y : yOk x b L xs) : L ≤ 3072 := Y.2.2.2.2.2.2.2.1
theorem yOk.x9 {x : xCx} {b L : Nat} {xs : Nat → Int32} (Y : yOk x b L xs) : kR x = room_1 := Y.2.2.2.2.2.2.2.2.1
theorem yOk.x10 {x : xCx} {b L : Nat} {xs : Nat → Int32} (Y : yOk x b L xs) : ka x = #[Value.ref b] := Y.2.2.2.2.2.2.2.2.2.1
theorem yOk.x11 {x : xCx} {b L : Nat} {xs : Nat → Int32} (Y : yOk x b L xs) : kQ x = lw_Z (kb x) #[Value.ref b] (ks x) := Y.2.2.2.2.2.2.2.2.2.2.1
theorem yOk.x12 {x : xCx} {b L : Nat} {xs : Nat → Int32} (Y : yOk x b L xs) : (kt x).sig.returnType = ret := Y.2.2.2.2.2.2.2.2.2.2.2.1
theorem yOk.x13 {x : xCx} {b L : Nat} {xs : Nat → Int32} (Y : yOk x b L xs) : (kt x).locks = false := Y.2.2.2.2.2.2.2.2.2.2.2.2
theorem yOk.gd {x : xCx} {b L : Nat} {xs : Nat → Int32} (Y : yOk x b L xs) : ∀ t ∈ lw_gd, t.before (ka x) (ks x) = true := fun t ht => Y.x5 t (List.mem_filter.mp ht).1
theorem yOk.ns {x : xCx} {b L : Nat} {xs : Nat → Int32} (Y : yOk x b L xs) : x_Ns (ks x) := fun t ht => by
  have h1 := Y.x5 t (List.mem_filter.mp ht).1
  have h2 := (List.mem_filter.mp ht).2
  refine va_Nw.of ?_ h1
  cases t <;> first | rfl | exact absurd h2 (by decide) | cases h2
theorem yOk.nb {x : xCx} {b L : Nat} {xs : Nat → Int32} (Y : yOk x b L xs) : ¬ yNew x b := fun h => by
  have := Y.x7
  unfold yNew at h
  omega
section YR
variable {x : xCx} {b L : Nat} {xs : Nat → Int32} {pc : Nat} {Lo Lo' : List (Nat × Value)} {st : List Value} {PP : Heap → Prop}
theorem y_loc (js : List Nat) (h : lv_pick Lo js = Lo') (kk : yW x pc Lo' st PP) : yW x pc Lo st PP := fun H locs ls hP hS hl => kk H locs ls hP hS (lv_sub hl js h)
theorem y_iload_n (Y : yOk x b L xs) (j : Nat) {k1 : Fin 4} {i1 : Nat} {v1 : Int32} (hL : Lo[j]? = some (i1, .int v1)) (hi : (k1 : Nat) = i1) (hdg : decode cL_law pc = .ok (.iload_n k1, 1)) (kk : yW x (pc + 1) Lo (.int v1 :: st) PP) : yW x pc Lo st PP := fun H locs ls hP hS hl => lv_iload_n Y.x1 Y.x2 hdg hi (lv_at hl j hL) (kk H locs ls hP hS hl)
theorem y_aload_n (Y : yOk x b L xs) (j : Nat) {k1 : Fin 4} {i1 : Nat} {v1 : Nat} (hL : Lo[j]? = some (i1, .ref v1)) (hi : (k1 : Nat) = i1) (hdg : decode cL_law pc = .ok (.aload_n k1, 1)) (kk : yW x (pc + 1) Lo (.ref v1 :: st) PP) : yW x pc Lo st PP := fun H locs ls hP hS hl => lv_aload_n Y.x1 Y.x2 hdg hi (lv_at hl j hL) (kk H locs ls hP hS hl)
theorem y_iinc (Y : yOk x b L xs) (j : Nat) {i1 : Nat} {n1 : Int} {v0 v1 : Int32} (hk : Lo[j]? = some (i1, .int v0)) (hv : v0 + Int32.ofInt n1 = v1) (hL : (i1, Value.int v1) :: Lo.filter (fun q => !(q.1 == i1) && !(q.1 + 1 == i1 && q.2.category == 2)) = Lo') (hn : i1 < 4) (hdg : decode cL_law pc = .ok (.iinc i1 n1, 3)) (kk : yW x (pc + 3) Lo' st PP) : yW x pc Lo st PP := fun H locs ls hP hS hl => lv_iinc Y.x1 Y.x2 hdg hl (k := j) hk hv hn hL (fun ls hl => (kk H locs ls hP hS hl))
theorem y_iconst (Y : yOk x b L xs) {n1 : Int} {v1 : Int32} (hdg : decode cL_law pc = .ok (.iconst n1, 1)) (hv : Int32.ofInt n1 = v1) (kk : yW x (pc + 1) Lo (.int v1 :: st) PP) : yW x pc Lo st PP := fun H locs ls hP hS hl => lv_iconst Y.x1 Y.x2 hdg hv (kk H locs ls hP hS hl)
theorem y_bipush (Y : yOk x b L xs) {n1 : Int} {v1 : Int32} (hdg : decode cL_law pc = .ok (.bipush n1, 2)) (hv : (Int8.ofInt n1).toInt32 = v1) (kk : yW x (pc + 2) Lo (.int v1 :: st) PP) : yW x pc Lo st PP := fun H locs ls hP hS hl => lv_bipush Y.x1 Y.x2 hdg hv (kk H locs ls hP hS hl)
theorem y_iadd (Y : yOk x b L xs) {x1 y1 : Int32} (hdg : decode cL_law pc = .ok (.iadd, 1)) (kk : yW x (pc + 1) Lo (.int (x1 + y1) :: st) PP) : yW x pc Lo (.int y1 :: .int x1 :: st) PP := fun H locs ls hP hS hl => lv_iadd Y.x1 Y.x2 hdg (kk H locs ls hP hS hl)
theorem y_isub (Y : yOk x b L xs) {x1 y1 : Int32} (hdg : decode cL_law pc = .ok (.isub, 1)) (kk : yW x (pc + 1) Lo (.int (x1 - y1) :: st) PP) : yW x pc Lo (.int y1 :: .int x1 :: st) PP := fun H locs ls hP hS hl => lv_isub Y.x1 Y.x2 hdg (kk H locs ls hP hS hl)
theorem y_iand (Y : yOk x b L xs) {x1 y1 : Int32} (hdg : decode cL_law pc = .ok (.iand, 1)) (kk : yW x (pc + 1) Lo (.int (x1 &&& y1) :: st) PP) : yW x pc Lo (.int y1 :: .int x1 :: st) PP := fun H locs ls hP hS hl => lv_iand Y.x1 Y.x2 hdg (kk H locs ls hP hS hl)
theorem y_goto (Y : yOk x b L xs) {off : Int} {tgt : Nat} (hdg : decode cL_law pc = .ok (.goto off, 3)) (ht : (pc : Int) + off = (tgt : Int)) (kk : yW x (tgt) Lo st PP) : yW x pc Lo st PP := fun H locs ls hP hS hl => lv_goto Y.x1 Y.x2 hdg ht (kk H locs ls hP hS hl)
theorem y_sld (Y : yOk x b L xs) {i1 : Int32} (hin : vp_in i1 L) (hdg : decode cL_law pc = .ok (.iaload, 1)) (kk : yW x (pc + 1) Lo (.int (xs i1.toNatClampNeg) :: st) PP) : yW x pc Lo (.int i1 :: .ref b :: st) PP := fun H locs ls hP hS hl => va_sld Y.x1 Y.x2 Y.x6 Y.x7 Y.nb hS hin hdg (kk H locs ls hP hS hl)
theorem y_slen (Y : yOk x b L xs) (hdg : decode cL_law pc = .ok (.arraylength, 1)) (kk : yW x (pc + 1) Lo (.int (nI L) :: st) PP) : yW x pc Lo (.ref b :: st) PP := fun H locs ls hP hS hl => va_slen Y.x1 Y.x2 Y.x6 Y.x7 Y.nb hS hdg (kk H locs ls hP hS hl)
theorem y_gt (Y : yOk x b L xs) {x1 y1 : Int32} {off : Int} {tgt : Nat} (hdg : decode cL_law pc = .ok (.if_icmp .gt off, 3)) (ht : (pc : Int) + off = (tgt : Int)) (k1 : y1 < x1 → yW x tgt Lo st PP) (k2 : ¬ y1 < x1 → yW x (pc + 3) Lo st PP) : yW x pc Lo (.int y1 :: .int x1 :: st) PP := fun H locs ls hP hS hl => lv_icmp_gt Y.x1 Y.x2 hdg ht (fun h => k1 h H locs ls hP hS hl) (fun h => k2 h H locs ls hP hS hl)
theorem y_eq (Y : yOk x b L xs) {x1 y1 : Int32} {off : Int} {tgt : Nat} (hdg : decode cL_law pc = .ok (.if_icmp .eq off, 3)) (ht : (pc : Int) + off = (tgt : Int)) (he : x1 = y1) (kk : yW x tgt Lo st PP) : yW x pc Lo (.int y1 :: .int x1 :: st) PP := fun H locs ls hP hS hl => lv_icmp_eq Y.x1 Y.x2 hdg ht (fun h => (kk H locs ls hP hS hl)) (fun h => absurd he h)
theorem y_tab (Y : yOk x b L xs) {dflt lo hi : Int} {offs : Array Int} {len : Nat} {x1 v1 : Int32} {off : Int} {tgt : Nat} (hx : x1 = v1) (hdg : decode cL_law pc = .ok (.tableswitch dflt lo hi offs, len)) (h1 : ¬ v1.toInt < lo) (h2 : ¬ hi < v1.toInt) (ho : offs[(v1.toInt - lo).toNat]? = some off) (ht : (pc : Int) + off = (tgt : Int)) (kk : yW x (tgt) Lo st PP) : yW x pc Lo (.int x1 :: st) PP := fun H locs ls hP hS hl => by subst hx; exact lv_tableIn Y.x1 Y.x2 hdg h1 h2 ho ht (kk H locs ls hP hS hl)
theorem y_ret (Y : yOk x b L xs) (hdg : decode cL_law pc = .ok (.ireturn, 1)) : yW x pc Lo [.int 1] PP := fun H locs ls hP hS hl => by
  refine va_forget (fun q hq => hS.2.2 q hq) ?_
  refine W.widen (k := 600000) (n := 7302250) (Nat.le_of_ble_eq_true rfl) (Nat.le_of_ble_eq_true rfl) ?_
  rw [Y.x11, Y.x10, Y.x9]
  exact lw_ret Y.x1 Y.x2 Y.x12 Y.x13 hdg
theorem y_call (Y : yOk x b L xs) {w : xWd} {PQ : xMem → Heap → Prop} {M0 : xMem} (hKw : va_K (wD w) (wC w) (wT w) (ks x)) (hA : ∀ q, x_A w q → yNew x q) (hX : wX w (x_A w) (ks x) (ks x).heap) (hst : x_st w) (hget : ∀ H, PP H → va_P (wD w) (wC w) (x_wf w M0) H) (hput : ∀ (H H1 : Heap) (M' : xMem), PP H → va_P (wD w) (wC w) (x_wf w M') H1 → (∀ q, q < H.size → ¬ x_A w q → H1[q]? = H[q]?) → PQ M' H1)
    {y : MethodName} {bytes : ByteArray} {maxL n index : Nat} {rt : Option FieldType} {rm' : Room} {As : List Value} {P' : Option Value → xMem → Prop} {st0 : List Value} {c ci Nf : Nat} {K : String} {T : u_T} {fs : (Nat → Int32) → List Value} (he : ∀ r r2, wE w c r r2 = .inr (ci, fs r)) (hc : c < wN w) (hcl : (wC w)[ci]? = some (K, T, Nf)) (hM : xMet w (kl x) y bytes maxL rt rm' (.ref (wA w c) :: As) M0 P') (h1 : Cond.methodLink RL index y ∈ lw_tbl) (h2 : Cond.instanceMethod y ∈ lw_tbl) (h3 : Cond.selects K y y ∈ lw_tbl) (h4 : Cond.initialized K ∈ lw_tbl) (h5 : Cond.code y bytes maxL rt ∈ lw_tbl) (hyK : y.cls = K) (hd : y.cls ≠ "java/lang/invoke/MethodHandle" ∧ y.cls ≠ "java/lang/invoke/VarHandle" ∧ (parseMethodDescriptor y.desc).map (fun d => d.parameters.length) = some n) (hn : As.length = n) (hrm : rm'.cells = 0 ∧ rm'.slots = 0) (hR : rm'.frames + 1 ≤ room_1.frames ∧ 8 + (maxL + 11) + rm'.locals ≤ room_1.locals) (hrest : (st.map fun v => v.category).sum ≤ 8) (hst0 : st0 = As.reverse ++ .ref (wA w c) :: st) (hdg : decode cL_law pc = .ok (.invokevirtual index, 3)) (k : ∀ (v : Option Value) (M' : xMem), P' v M' → yW x (pc + 3) Lo (v.toList ++ st) (PQ M')) : yW x pc Lo st0 PP := fun H locs ls hPP hS hl => by
  have hP := hget H hPP
  have hr := va_runV (p := kp x) (l := kl x) (e := ke x) (R := kR x) (s := ks x) (m := km x) (args := ka x) (below := kb x) (meth := kt x) (c := kc x) (H := H) (locs := locs) (cells := 154) (slots := 88047) (n := n) (As := As) (rest := st) (g := F0 (km x) pc ls st0) (own := RL) ⟨Y.x1, Y.x2, Y.x3, Y.x4, Y.gd⟩ hM (cwV n Y.gd (x_good (fun t ht => by
    unfold wsV at ht
    simp only [List.cons_append, List.nil_append, List.mem_cons] at ht
    rcases ht with rfl | rfl | rfl | rfl | rfl | h
    · exact x_gd h1 rfl
    · exact x_gd h2 rfl
    · exact x_gd h3 rfl
    · exact x_gd h4 rfl
    · exact x_gd h5 rfl
    · exact h)) rfl hrm.1 hrm.2 ⟨hyK, hd⟩ (by rw [Y.x9]; exact hR)) ⟨x_blind hst, va_recv hKw hP hcl ((x_get0 M0 hc).trans (by rw [he])), fun U hU hW => ⟨rfl, by rw [hU]; exact hP, va_K.moved hW.alike hKw, hst.1 (ks x) U U.heap hX hW (fun q h1 h2 => by rw [hU]; exact hS.2.1 q h1 (fun h => by unfold yNew at h; omega)), x_Ns.warm hW Y.ns⟩⟩ rfl hn hl.1 hst0 (lv_room hrest) hdg ⟨by rw [Y.x9]; exact Nat.le_of_ble_eq_true rfl, by rw [Y.x9]; exact Nat.le_of_ble_eq_true rfl⟩
  intro T0 hT X
  obtain ⟨v, st₀, t, T', L', h0, X', hL, e1, e2, ⟨⟨v', M', hv, hp, hP'⟩, hz, hk⟩, stp⟩ := hr T0 hT X
  cases hv
  rw [h0] at hz hk
  have hS' : va_S (yNew x) (ks x).heap T'.heap (locs ++ L') := ⟨Nat.le_trans hS.1 (by rw [e1]; exact hz), fun q g1 g2 => by rw [e1, hk q (Nat.lt_of_lt_of_le g1 hS.1) (fun h => g2 (hA q h))]; exact hS.2.1 q g1 g2, fun q hq => by
    rcases List.mem_append.mp hq with h | h
    · exact hS.2.2 q h
    · exact hA _ (hL q h)⟩
  obtain ⟨t2, a1, b1⟩ := k _ M' hp T'.heap (locs ++ L') ls (by rw [e1]; exact hput H _ M' hPP hP' hk) hS' hl T' rfl X'
  exact ⟨t2, stp t2 a1, b1⟩
theorem y_ki {PQ : xMem → Heap → Prop} {post : Int32 → xMem → Prop} (k : ∀ r M', post r M' → yW x pc Lo (.int r :: st) (PQ M')) : ∀ (v : Option Value) (M' : xMem), pI post v M' → yW x pc Lo (v.toList ++ st) (PQ M') := fun v M' h => by
  obtain ⟨r, rfl, h⟩ := h
  exact k r M' h
end YR
/-- both worlds -/
def PPc (g g' : xG) (C M : xMem) : Heap → Prop := fun H => va_P (gD g) vwCl (x_wf (WC g) C) H ∧ va_P (gD g') vwCl (x_wf (WM g') M) H
def yG (x : xCx) (g g' : xG) : Prop := va_K (gD g) vwCl (wT (WC g)) (ks x) ∧ va_K (gD g') vwCl (wT (WM g')) (ks x) ∧ x_inj (WC g) ∧ x_inj (WM g') ∧ (∀ q, x_A (WC g) q → yNew x q) ∧ (∀ q, x_A (WM g') q → yNew x q) ∧ (∀ q, x_A (WC g) q → ¬ x_A (WM g') q) ∧ exC g (x_A (WC g)) (ks x) (ks x).heap
theorem x_keep {w : xWd} {M : xMem} {H H1 : Heap} (h : va_P (wD w) (wC w) (x_wf w M) H) (hk : ∀ q, q < H.size → x_A w q → H1[q]? = H[q]?) : va_P (wD w) (wC w) (x_wf w M) H1 := h.kept (fun k q hq => hk q.1 (h k q hq).lt ⟨k, x_get1 hq⟩)
theorem PP_putC {x : xCx} {g g' : xG} (G : yG x g g') {C M : xMem} : ∀ (H H1 : Heap) (C' : xMem), PPc g g' C M H → va_P (gD g) vwCl (x_wf (WC g) C') H1 → (∀ q, q < H.size → ¬ x_A (WC g) q → H1[q]? = H[q]?) → PPc g g' C' M H1 := fun H H1 C' hP h1 hk => ⟨h1, x_keep (w := WM g') hP.2 (fun q hq ha => hk q hq (fun hc => G.2.2.2.2.2.2.1 q hc ha))⟩
theorem PP_putM {x : xCx} {g g' : xG} (G : yG x g g') {C M : xMem} : ∀ (H H1 : Heap) (M' : xMem), PPc g g' C M H → va_P (gD g') vwCl (x_wf (WM g') M') H1 → (∀ q, q < H.size → ¬ x_A (WM g') q → H1[q]? = H[q]?) → PPc g g' C M' H1 := fun H H1 M' hP h1 hk => ⟨x_keep (w := WC g) hP.1 (fun q hq ha => hk q hq (fun hc => G.2.2.2.2.2.2.1 q ha hc)), h1⟩
def yL (g g' : xG) (b : Nat) (i : Nat) : List (Nat × Value) := [(0, .ref b), (1, .ref (ga g 0)), (2, .ref (ga g' 0)), (3, .int (nI i))]
