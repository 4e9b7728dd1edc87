section XR3
variable {w : xWd} {x : xCx} {cc : ByteArray} {own : String} {nl pc : Nat} {ret : Option FieldType} {rm : Room} {P : Option Value → xMem → Prop} {L L' : List (Nat × Value)} {st : List Value} {M M' : xMem}
theorem x_nm {v1 : Int32} (k : ∀ y : Int32, y = v1 → xW w x nl pc L (.int y :: st) M) : xW w x nl pc L (.int v1 :: st) M := k v1 rfl
theorem x_nml {v1 : Int64} (k : ∀ y : Int64, y = v1 → xW w x nl pc L (.long y :: st) M) : xW w x nl pc L (.long v1 :: st) M := k v1 rfl
theorem x_nmM (k : ∀ M', M' = M → xW w x nl pc L st M') : xW w x nl pc L st M := k M rfl
theorem x_rfne {c : Nat} (h : ¬ c = 0) : x_rf w c = .ref (wA w c) := if_neg h
theorem k9_ne {c : Nat} (h : kC c = 9) : ¬ c = 0 := fun e => by subst e; exact absurd h (by decide)
theorem x_aleni (C : xOk w x cc own nl ret rm P) {c n : Nat} {v1 : Int32} {cA : ClassId} (he : ∀ r r2, wE w c r r2 = .inl (cA, n, .inl r)) (hc : c < wN w) (ht : (wT w)[0]? = some (cA, .int)) (hv : Int32.ofNat n = v1) (hdg : decode cc pc = .ok (.arraylength, 1)) (k : xW w x nl (pc + 1) L (.int v1 :: st) M) : xW w x nl pc L (.ref (wA w c) :: st) M := x_alen C (f := fun r _ => .inl r) he hc ht hv hdg k
theorem x_alens (C : xOk w x cc own nl ret rm P) {c n : Nat} {v1 : Int32} {cA : ClassId} {KC : String} {f : Nat → Option Nat} (he : ∀ r r2, wE w c r r2 = .inl (cA, n, .inr (.inr (.inr (.inr f))))) (hc : c < wN w) (ht : (wT w)[2]? = some (cA, .object KC)) (hv : Int32.ofNat n = v1) (hdg : decode cc pc = .ok (.arraylength, 1)) (k : xW w x nl (pc + 1) L (.int v1 :: st) M) : xW w x nl pc L (.ref (wA w c) :: st) M := x_alen C (f := fun _ _ => .inr (.inr (.inr (.inr f)))) he hc ht hv hdg k
variable {g : xG}
theorem x_sald (C : xOk (WC g) x cc own nl ret rm P) {i1 : Int32} (hin : vp_in i1 6) (hdg : decode cc pc = .ok (.aaload, 1)) (k : xW (WC g) x nl (pc + 1) L (.ref (ga g (3 + 2 * i1.toNatClampNeg)) :: st) M) : xW (WC g) x nl pc L (.int i1 :: .ref (ga g 2) :: st) M := x_aald C (c := 2) 2 (enC_22 (c := 2) rfl) (Nat.le_of_ble_eq_true rfl) rfl hin hdg k
theorem x_ldcS (C : xOk (WC g) x cc own nl ret rm P) (i : Nat) {index : Nat} {tx : String} (hq : sg_own[i]? = some (own, index, tx)) (hdg : decode cc pc = .ok (.ldc index, 2)) (k : xW (WC g) x nl (pc + 2) L (.ref (gK g i) :: st) M) : xW (WC g) x nl pc L st M := fun H locs ls hP hS hl => va_ldcS C.x1 C.x2 C.x4 (C.x12.2.1 i _ hq) hdg (k H locs ls hP hS hl)
def bd_at (i : Int32) : Int32 := ([20, 999, 9, 9, 99, 10, 1] : List Int32).getD i.toNatClampNeg 0
theorem x_bald_ (C : xOk (WC g) x cc own nl ret rm P) {i1 : Int32} (hin : vp_in i1 7) (hdg : decode cc pc = .ok (.iaload, 1)) (k : xW (WC g) x nl (pc + 1) L (.int (bd_at i1) :: st) M) : xW (WC g) x nl pc L (.int i1 :: .ref (gB g) :: st) M := fun H locs ls hP hS hl => va_ti C.x1 C.x2 C.x12.2.2.2.2.2 hS hin rfl hdg (k H locs ls hP hS hl)
theorem x_blen_ (C : xOk (WC g) x cc own nl ret rm P) (hdg : decode cc pc = .ok (.arraylength, 1)) (k : xW (WC g) x nl (pc + 1) L (.int 7 :: st) M) : xW (WC g) x nl pc L (.ref (gB g) :: st) M := fun H locs ls hP hS hl => va_tlen C.x1 C.x2 C.x12.2.2.2.2.2 hS (by decide) hdg (k H locs ls hP hS hl)
/-- a number that is a boolean -/
def bz (v : Int32) : Prop := narrow .boolean (.int v) = .int v ∧ fits .boolean (.int v) = true
theorem bz_0 : bz 0 := ⟨rfl, rfl⟩
theorem bz_1 : bz 1 := ⟨rfl, rfl⟩
def sxl (c : Int32) : List Int32 → Nat → Int32
  | [], _ => -1
  | b :: r, k => if b = c then nI k else sxl c r (k + 1)
/-- where a sign stands in a text -/
def sx (i : Nat) (c : Int32) : Int32 := sxl c (sg_byt.getD i []) 0
theorem x_enterF {l : Launch} {y : MethodName} {As : List Value} {L0 : List (Nat × Value)} (hy : plainFor y = true) (hown : y.cls = own) (hinj : x_inj w) (hst : x_st w) (hlen : (lg_sl As).length ≤ nl) (hL : lv_args 0 As = L0) (k : ∀ x, kl x = l → xOk w x cc own nl ret rm P → xW w x nl 0 L0 [] M) : xMet w l y cc nl ret rm As M P := by
  refine va_MetF (cc := cc) (maxL := nl) (ret := ret) hy rfl ?_
  intro p e s m args below meth c s₁ B hml hv
  obtain ⟨rfl, hP, hK, hX, hN⟩ := hv
  have hts := atoms_spec (ws := Cond.code y cc nl ret :: lw_gd) B.pre
  have hown' : s.vm.findClass y.cls = some m.cls := findClass_of_methodNamed B.named
  subst hL
  rw [lg_entry_eq]
  exact k (p, l, e, rm, s, m, As.toArray, below, meth, c, MQ below (xQ w P) As.toArray s 0 0 (x_A w)) rfl ⟨B.exec, B.bytes, hml, by rw [← hown]; exact hown', fun t ht => hts t (List.mem_cons_of_mem _ ht), hK, hinj, B.returns, B.notSynchronized, rfl, rfl, hX, hst, hN⟩ s.heap [] _ hP va_S.rf (lv_entry As hlen)
theorem wna_arraycopy : Cond.native arraycopyName ∈ lw_tbl := x_tb3 169 rfl
theorem wsm_arraycopy : Cond.static arraycopyName ∈ lw_tbl := x_tb3 168 rfl
theorem wz_system : Cond.initialized "java/lang/System" ∈ lw_tbl := x_tb1 20 rfl
theorem x_sval (C : xOk (WC g) x cc own nl ret rm P) {i index : Nat} (hi : i < 7) (hlk : Cond.fieldLink own index "java/lang/String" "value" "[B" ∈ lw_tbl) (hdg : decode cc pc = .ok (.getfield index, 3)) (k : xW (WC g) x nl (pc + 3) L (.ref (gV g i) :: st) M) : xW (WC g) x nl pc L (.ref (gK g i) :: st) M := fun H locs ls hP hS hl => vk_getf C.x1 C.x2 (C.x12.1.1 i hi).2.2.1 hS C.x4 (C.x5 _ (x_gd hlk rfl)) (fun _ h => h) hdg (k H locs ls hP hS hl)
theorem x_scod (C : xOk (WC g) x cc own nl ret rm P) {i index : Nat} (hi : i < 7) (hlk : Cond.fieldLink own index "java/lang/String" "coder" "B" ∈ lw_tbl) (hdg : decode cc pc = .ok (.getfield index, 3)) (k : xW (WC g) x nl (pc + 3) L (.int 0 :: st) M) : xW (WC g) x nl pc L (.ref (gK g i) :: st) M := fun H locs ls hP hS hl => vk_getf C.x1 C.x2 (C.x12.1.1 i hi).2.1 hS C.x4 (C.x5 _ (x_gd hlk rfl)) (fun _ h => h) hdg (k H locs ls hP hS hl)
def sgb (i : Nat) (j : Int32) : Int32 := (sg_byt.getD i []).getD j.toNatClampNeg 0
theorem x_sbald (C : xOk (WC g) x cc own nl ret rm P) {i : Nat} {i1 : Int32} (hi : i < 7) (hin : vp_in i1 (sg_len.getD i 0)) (hdg : decode cc pc = .ok (.baload, 1)) (k : xW (WC g) x nl (pc + 1) L (.int (sgb i i1) :: st) M) : xW (WC g) x nl pc L (.int i1 :: .ref (gV g i) :: st) M := fun H locs ls hP hS hl => va_tb C.x1 C.x2 (C.x12.1.1 i hi).2.2.2 hS hin rfl hdg (k H locs ls hP hS hl)
theorem x_slen (C : xOk (WC g) x cc own nl ret rm P) {i : Nat} (hi : i < 7) (hdg : decode cc pc = .ok (.arraylength, 1)) (k : xW (WC g) x nl (pc + 1) L (.int (nI (sg_len.getD i 0)) :: st) M) : xW (WC g) x nl pc L (.ref (gV g i) :: st) M := fun H locs ls hP hS hl => va_tlen C.x1 C.x2 (C.x12.1.1 i hi).2.2.2 hS rfl hdg (k H locs ls hP hS hl)
theorem x_bret (C : xOk w x cc own nl (some .byte) rm P) {v1 : Int32} (hn : narrow .byte (.int v1) = .int v1) (hdg : decode cc pc = .ok (.ireturn, 1)) (hp : P (some (.int v1)) M) : xW w x nl pc L [.int v1] M := fun H locs ls hP hS hl => by
  rw [C.x10]
  exact W.zret C.x1 C.x2 C.x8 hn (fun t ht hW => ⟨⟨_, M, rfl, hp, by rw [ht]; exact hP⟩, hS.F ht⟩) hS.2.2 hdg C.x9
theorem x_callVK (C : xOk (WC g) x cc own nl ret rm P) {y : MethodName} {bytes : ByteArray} {maxL n index : Nat} {rt : Option FieldType} {rm' : Room} {As : List Value} {P' : Option Value → xMem → Prop} {st0 : List Value} {i : Nat} (hi : i < 7) (hM : xMet (WC g) (kl x) y bytes maxL rt rm' (.ref (gK g i) :: As) M P') (h1 : Cond.methodLink own index y ∈ lw_tbl) (h2 : Cond.instanceMethod y ∈ lw_tbl) (h3 : Cond.selects "java/lang/String" y y ∈ lw_tbl) (h4 : Cond.initialized "java/lang/String" ∈ lw_tbl) (h5 : Cond.code y bytes maxL rt ∈ lw_tbl) (hyK : y.cls = "java/lang/String") (hd : y.cls ≠ "java/lang/invoke/MethodHandle" ∧ y.cls ≠ "java/lang/invoke/VarHandle" ∧ (parseMethodDescriptor y.desc).map (fun d => d.parameters.length) = some n) (hn : As.length = n) (hrm : rm'.cells = 0 ∧ rm'.slots = 0) (hR : rm'.frames + 1 ≤ rm.frames ∧ 8 + (maxL + 11) + rm'.locals ≤ rm.locals) (hrest : (st.map fun v => v.category).sum ≤ 8) (hst : st0 = As.reverse ++ .ref (gK g i) :: st) (hdg : decode cc pc = .ok (.invokevirtual index, 3)) (k : ∀ (v : Option Value) (M' : xMem), P' v M' → xW (WC g) x nl (pc + 3) L (v.toList ++ st) M') : xW (WC g) x nl pc L st0 M := fun H locs ls hP hS hl => by
  refine x_run (va_runV (n := n) (As := As) (rest := st) ⟨C.x1, C.x2, C.x3, C.x4, C.x5⟩ hM (cwV n C.x5 (x_good (fun t ht => ?_)) rfl hrm.1 hrm.2 ⟨hyK, hd⟩ (by rw [C.x11]; exact hR)) ⟨x_blind C.x13, vk_recv C.x12.1 hi hS, x_pre C hP hS⟩ rfl hn hl.1 hst (lv_room hrest) hdg ⟨by omega, by omega⟩) hS hl k
  unfold wsV at ht
  simp only [List.cons_append, List.nil_append, List.mem_cons] at ht
  rcases ht with rfl | rfl | rfl | rfl | rfl | h
  · exact x_gd h1 rfl
  · exact x_gd h2 rfl
  · exact x_gd h3 rfl
  · exact x_gd h4 rfl
  · exact x_gd h5 rfl
  · exact h
end XR3
