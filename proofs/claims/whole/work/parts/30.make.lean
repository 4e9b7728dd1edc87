/-! MAKING: a constructor's world is its own object, ahead, and the cells that it made -/
abbrev zT5 : Type := ClassId × ClassId × ClassId × ClassId × ClassId
abbrev zT (T : zT5) : List (ClassId × FieldType) := [(T.1, .int), (T.2.1, .long), (T.2.2.1, .object "LineGuild$Story"), (T.2.2.2.1, .byte), (T.2.2.2.2, .boolean)]
def zA (h0 sz : Nat) : Nat → Prop := fun q => q = h0 ∨ sz ≤ q
def zQ (D : va_G) (h0 ci sz : Nat) (ws1 : (Nat → Nat) → List Value × va_W) : Array Value → State → Outcome → State → Prop := fun _ st oc t => (∃ qs : Nat → Nat, oc = .returned none ∧ va_P D vwCl ((h0, .inr (ci, (ws1 qs).1)) :: (ws1 qs).2) t.heap ∧ va_D (zA h0 sz) ((h0, .inr (ci, (ws1 qs).1)) :: (ws1 qs).2)) ∧ va_F (zA h0 sz) st t
def zPc (D : va_G) (T : zT5) (As : List Value) (h0 ci sz : Nat) (fs0 : List Value) : Array Value → State → Prop := va_Pc (.ref h0 :: As) (fun U => U.heap.size = sz ∧ va_P D vwCl [(h0, .inr (ci, fs0))] U.heap ∧ va_K D vwCl (zT T) U ∧ x_Ns U ∧ va_AO "LineGuild$Story" U)
def zMet (D : va_G) (T : zT5) (l : Launch) (y : MethodName) (cc : ByteArray) (nl : Nat) (rm : Room) (As : List Value) (h0 ci : Nat) (fs0 : List Value) (ws1 : (Nat → Nat) → List Value × va_W) (mc ms : Nat) : Prop := ∀ sz, Met l y (Cond.code y cc nl none :: lw_gd) rm (zPc D T As h0 ci sz fs0) (zQ D h0 ci sz ws1) mc ms (zA h0 sz)
def zOk (D : va_G) (T : zT5) (x : xCx) (h0 ci sz : Nat) (cc : ByteArray) (own : String) (nl : Nat) (rm : Room) (ws1 : (Nat → Nat) → List Value × va_W) (mc ms : Nat) : Prop :=
  (kp x).tables.exec = Jvm.exec ∧ (kc x).code = cc ∧ (kc x).maxLocals = nl ∧ (ks x).vm.findClass own = some (km x).cls ∧ (∀ t ∈ lw_gd, t.before (ka x) (ks x) = true) ∧ va_K D vwCl (zT T) (ks x) ∧ (kt x).name = "<init>" ∧ (kt x).sig.returnType = none ∧ (kt x).locks = false ∧ kQ x = MQ (kb x) (zQ D h0 ci sz ws1) (ka x) (ks x) mc ms (zA h0 sz) ∧ kR x = rm ∧ x_Ns (ks x) ∧ (ks x).heap.size = sz ∧ va_AO "LineGuild$Story" (ks x)
def zW (D : va_G) (x : xCx) (h0 ci sz nl pc : Nat) (L : List (Nat × Value)) (st : List Value) (fs : List Value) (tl : va_W) (k n : Nat) : Prop :=
  ∀ (H : Heap) (locs : List Loc) (ls : Array Slot), va_P D vwCl ((h0, .inr (ci, fs)) :: tl) H → va_D (zA h0 sz) ((h0, .inr (ci, fs)) :: tl) → va_S (zA h0 sz) (ks x).heap H locs → lv_has ls nl L → W (kp x) (kl x) (ke x) (kR x) (ks x) (km x) (ka x) (kb x) (kt x) (kc x) H locs k n (kQ x) (F0 (km x) pc ls st)
section ZK
variable {D : va_G} {T : zT5} {x : xCx} {h0 ci sz : Nat} {cc : ByteArray} {own : String} {nl : Nat} {rm : Room} {ws1 : (Nat → Nat) → List Value × va_W} {mc ms : Nat}
theorem zOk.x1 (C : zOk D T x h0 ci sz cc own nl rm ws1 mc ms) : (kp x).tables.exec = Jvm.exec := C.1
theorem zOk.x2 (C : zOk D T x h0 ci sz cc own nl rm ws1 mc ms) : (kc x).code = cc := C.2.1
theorem zOk.x3 (C : zOk D T x h0 ci sz cc own nl rm ws1 mc ms) : (kc x).maxLocals = nl := C.2.2.1
theorem zOk.x4 (C : zOk D T x h0 ci sz cc own nl rm ws1 mc ms) : (ks x).vm.findClass own = some (km x).cls := C.2.2.2.1
theorem zOk.x5 (C : zOk D T x h0 ci sz cc own nl rm ws1 mc ms) : ∀ t ∈ lw_gd, t.before (ka x) (ks x) = true := C.2.2.2.2.1
theorem zOk.x6 (C : zOk D T x h0 ci sz cc own nl rm ws1 mc ms) : va_K D vwCl (zT T) (ks x) := C.2.2.2.2.2.1
theorem zOk.x7 (C : zOk D T x h0 ci sz cc own nl rm ws1 mc ms) : (kt x).name = "<init>" := C.2.2.2.2.2.2.1
theorem zOk.x8 (C : zOk D T x h0 ci sz cc own nl rm ws1 mc ms) : (kt x).sig.returnType = none := C.2.2.2.2.2.2.2.1
theorem zOk.x9 (C : zOk D T x h0 ci sz cc own nl rm ws1 mc ms) : (kt x).locks = false := C.2.2.2.2.2.2.2.2.1
theorem zOk.x10 (C : zOk D T x h0 ci sz cc own nl rm ws1 mc ms) : kQ x = MQ (kb x) (zQ D h0 ci sz ws1) (ka x) (ks x) mc ms (zA h0 sz) := C.2.2.2.2.2.2.2.2.2.1
theorem zOk.x11 (C : zOk D T x h0 ci sz cc own nl rm ws1 mc ms) : kR x = rm := C.2.2.2.2.2.2.2.2.2.2.1
theorem zOk.x12 (C : zOk D T x h0 ci sz cc own nl rm ws1 mc ms) : x_Ns (ks x) := C.2.2.2.2.2.2.2.2.2.2.2.1
theorem zOk.x13 (C : zOk D T x h0 ci sz cc own nl rm ws1 mc ms) : (ks x).heap.size = sz := C.2.2.2.2.2.2.2.2.2.2.2.2.1
theorem zOk.x14 (C : zOk D T x h0 ci sz cc own nl rm ws1 mc ms) : va_AO "LineGuild$Story" (ks x) := C.2.2.2.2.2.2.2.2.2.2.2.2.2
theorem zOk.hA (C : zOk D T x h0 ci sz cc own nl rm ws1 mc ms) : ∀ q, (ks x).heap.size ≤ q → zA h0 sz q := fun q h => Or.inr (by rw [C.x13] at h; exact h)
end ZK
theorem z_pl {D : va_G} {w1 w2 : va_W} {H : Heap} (h : va_P D vwCl (w1 ++ w2) H) : va_P D vwCl w1 H := fun k q hq => h k q (by rw [List.getElem?_append_left (List.getElem?_eq_some_iff.mp hq).1]; exact hq)
theorem z_pr {D : va_G} {w1 w2 : va_W} {H : Heap} (h : va_P D vwCl (w1 ++ w2) H) : va_P D vwCl w2 H := fun k q hq => h (w1.length + k) q (by rw [List.getElem?_append_right (by omega)]; simpa using hq)
theorem z_dl {A : Nat → Prop} {w1 w2 : va_W} (h : va_D A (w1 ++ w2)) : va_D A w1 := ⟨fun i j p q hp hq e => h.1 i j p q (by rw [List.getElem?_append_left (List.getElem?_eq_some_iff.mp hp).1]; exact hp) (by rw [List.getElem?_append_left (List.getElem?_eq_some_iff.mp hq).1]; exact hq) e, fun k q hq => h.2 k q (by rw [List.getElem?_append_left (List.getElem?_eq_some_iff.mp hq).1]; exact hq)⟩
theorem z_dlr {A : Nat → Prop} {w1 w2 : va_W} (h : va_D A (w1 ++ w2)) (i j : Nat) (p q : Nat × va_E) (hp : w1[i]? = some p) (hq : w2[j]? = some q) : p.1 ≠ q.1 := fun e => by
  have hi := (List.getElem?_eq_some_iff.mp hp).1
  have := h.1 i (w1.length + j) p q (by rw [List.getElem?_append_left hi]; exact hp) (by rw [List.getElem?_append_right (by omega)]; simpa using hq) e
  omega
theorem z_enter {D : va_G} {T : zT5} {l : Launch} {y : MethodName} {own : String} {cc : ByteArray} {nl : Nat} {rm : Room} {As : List Value} {h0 ci : Nat} {fs0 : List Value} {ws1 : (Nat → Nat) → List Value × va_W} {mc ms : Nat} {L0 : List (Nat × Value)} (hy : plainName y.cls = true) (hown : y.cls = own) (hnm : y.name = "<init>") (hlen : (lg_sl (.ref h0 :: As)).length ≤ nl) (hL : lv_args 0 (.ref h0 :: As) = L0) (k : ∀ x sz, kl x = l → zOk D T x h0 ci sz cc own nl rm ws1 mc ms → zW D x h0 ci sz nl 0 L0 [] fs0 [] 0 0) : zMet D T l y cc nl rm As h0 ci fs0 ws1 mc ms := by
  intro sz
  refine Met.ofW (cc := cc) (maxL := nl) (ret := none) hy rfl ?_
  intro p e s m args below meth c s₁ B hml hv
  obtain ⟨rfl, hsz, hP, hK, hN, hO⟩ := hv
  have hts := atoms_spec (ws := Cond.code y cc nl none :: lw_gd) B.pre
  have hown' : s.vm.findClass y.cls = some m.cls := findClass_of_methodNamed B.named
  have hin : meth.name = "<init>" := by rw [← hnm]; exact (name_of_methodNamed B.named B.method).1
  subst hL
  rw [lg_entry_eq]
  have hD : va_D (zA h0 sz) [(h0, .inr (ci, fs0))] := ⟨fun i j p q hp hq _ => by
    have a1 := (List.getElem?_eq_some_iff.mp hp).1
    have a2 := (List.getElem?_eq_some_iff.mp hq).1
    simp at a1 a2
    omega, fun k q hk => by
    have a1 := (List.getElem?_eq_some_iff.mp hk).1
    simp at a1
    subst a1
    cases hk
    exact Or.inl rfl⟩
  exact k (p, l, e, rm, s, m, (Value.ref h0 :: As).toArray, below, meth, c, MQ below (zQ D h0 ci sz ws1) (Value.ref h0 :: As).toArray s mc ms (zA h0 sz)) sz rfl ⟨B.exec, B.bytes, hml, by rw [← hown]; exact hown', fun t ht => hts t (List.mem_cons_of_mem _ ht), hK, hin, B.returns, B.notSynchronized, rfl, rfl, hN, hsz, hO⟩ s.heap [] _ hP hD va_S.rf (lv_entry (.ref h0 :: As) hlen)
section ZR
variable {D : va_G} {T : zT5} {x : xCx} {h0 ci sz : Nat} {cc : ByteArray} {own : String} {nl pc : Nat} {rm : Room} {ws1 : (Nat → Nat) → List Value × va_W} {mc ms : Nat} {L L' : List (Nat × Value)} {st fs : List Value} {tl : va_W} {k n : Nat}
theorem z_aload_n (C : zOk D T x h0 ci sz cc own nl rm ws1 mc ms) (j : Nat) {k1 : Fin 4} {i1 : Nat} {v1 : Nat} (hL : L[j]? = some (i1, .ref v1)) (hi : (k1 : Nat) = i1) (hdg : decode cc pc = .ok (.aload_n k1, 1)) (kk : zW D x h0 ci sz nl (pc + 1) L (.ref v1 :: st) fs tl k n) : zW D x h0 ci sz nl (pc) L st fs tl k n := fun H locs ls hP hD hS hl => lv_aload_n C.x1 C.x2 hdg hi (lv_at hl j hL) (kk H locs ls hP hD hS hl)
theorem z_aload (C : zOk D T x h0 ci sz cc own nl rm ws1 mc ms) (j : Nat) {i1 : Nat} {v1 : Nat} (hL : L[j]? = some (i1, .ref v1)) (hdg : decode cc pc = .ok (.aload i1, 2)) (kk : zW D x h0 ci sz nl (pc + 2) L (.ref v1 :: st) fs tl k n) : zW D x h0 ci sz nl (pc) L st fs tl k n := fun H locs ls hP hD hS hl => lv_aload C.x1 C.x2 hdg (lv_at hl j hL) (kk H locs ls hP hD hS hl)
theorem z_iload_n (C : zOk D T x h0 ci sz cc own nl rm ws1 mc ms) (j : Nat) {k1 : Fin 4} {i1 : Nat} {v1 : Int32} (hL : L[j]? = some (i1, .int v1)) (hi : (k1 : Nat) = i1) (hdg : decode cc pc = .ok (.iload_n k1, 1)) (kk : zW D x h0 ci sz nl (pc + 1) L (.int v1 :: st) fs tl k n) : zW D x h0 ci sz nl (pc) L st fs tl k n := fun H locs ls hP hD hS hl => lv_iload_n C.x1 C.x2 hdg hi (lv_at hl j hL) (kk H locs ls hP hD hS hl)
theorem z_istore_n (C : zOk D T x h0 ci sz cc own nl rm ws1 mc ms) {k1 : Fin 4} {i1 : Nat} {v1 : Int32} (hL : (i1, Value.int v1) :: L.filter (fun q => !(q.1 == i1) && !(q.1 + 1 == i1 && q.2.category == 2)) = L') (hi : (k1 : Nat) = i1) (hn : i1 < nl) (hdg : decode cc pc = .ok (.istore_n k1, 1)) (kk : zW D x h0 ci sz nl (pc + 1) L' st fs tl k n) : zW D x h0 ci sz nl (pc) L (.int v1 :: st) fs tl k n := fun H locs ls hP hD hS hl => lv_istore_n C.x1 C.x2 hdg hi hl hn hL (fun ls hl => (kk H locs ls hP hD hS hl))
theorem z_iinc (C : zOk D T x h0 ci sz cc own nl rm ws1 mc ms) (j : Nat) {i1 : Nat} {n1 : Int} {v0 v1 : Int32} (hk : L[j]? = some (i1, .int v0)) (hv : v0 + Int32.ofInt n1 = v1) (hL : (i1, Value.int v1) :: L.filter (fun q => !(q.1 == i1) && !(q.1 + 1 == i1 && q.2.category == 2)) = L') (hn : i1 < nl) (hdg : decode cc pc = .ok (.iinc i1 n1, 3)) (kk : zW D x h0 ci sz nl (pc + 3) L' st fs tl k n) : zW D x h0 ci sz nl (pc) L st fs tl k n := fun H locs ls hP hD hS hl => lv_iinc C.x1 C.x2 hdg hl (k := j) hk hv hn hL (fun ls hl => (kk H locs ls hP hD hS hl))
theorem z_iconst (C : zOk D T x h0 ci sz cc own nl rm ws1 mc ms) {n1 : Int} {v1 : Int32} (hdg : decode cc pc = .ok (.iconst n1, 1)) (hv : Int32.ofInt n1 = v1) (kk : zW D x h0 ci sz nl (pc + 1) L (.int v1 :: st) fs tl k n) : zW D x h0 ci sz nl (pc) L st fs tl k n := fun H locs ls hP hD hS hl => lv_iconst C.x1 C.x2 hdg hv (kk H locs ls hP hD hS hl)
theorem z_bipush (C : zOk D T x h0 ci sz cc own nl rm ws1 mc ms) {n1 : Int} {v1 : Int32} (hdg : decode cc pc = .ok (.bipush n1, 2)) (hv : (Int8.ofInt n1).toInt32 = v1) (kk : zW D x h0 ci sz nl (pc + 2) L (.int v1 :: st) fs tl k n) : zW D x h0 ci sz nl (pc) L st fs tl k n := fun H locs ls hP hD hS hl => lv_bipush C.x1 C.x2 hdg hv (kk H locs ls hP hD hS hl)
theorem z_sipush (C : zOk D T x h0 ci sz cc own nl rm ws1 mc ms) {n1 : Int} {v1 : Int32} (hdg : decode cc pc = .ok (.sipush n1, 3)) (hv : (Int16.ofInt n1).toInt32 = v1) (kk : zW D x h0 ci sz nl (pc + 3) L (.int v1 :: st) fs tl k n) : zW D x h0 ci sz nl (pc) L st fs tl k n := fun H locs ls hP hD hS hl => lv_sipush C.x1 C.x2 hdg hv (kk H locs ls hP hD hS hl)
theorem z_ldc (C : zOk D T x h0 ci sz cc own nl rm ws1 mc ms) {index : Nat} {v1 : Int32} (hw : Cond.constant own index v1 ∈ lw_tbl) (hdg : decode cc pc = .ok (.ldc index, 2)) (kk : zW D x h0 ci sz nl (pc + 2) L (.int v1 :: st) fs tl k n) : zW D x h0 ci sz nl (pc) L st fs tl k n := fun H locs ls hP hD hS hl => lv_ldc C.x1 C.x2 C.x4 (C.x5 _ (x_gd hw rfl)) hdg (kk H locs ls hP hD hS hl)
theorem z_dup (C : zOk D T x h0 ci sz cc own nl rm ws1 mc ms) {va : Value} (hc : va.category = 1) (hdg : decode cc pc = .ok (.dup, 1)) (kk : zW D x h0 ci sz nl (pc + 1) L (va :: va :: st) fs tl k n) : zW D x h0 ci sz nl (pc) L (va :: st) fs tl k n := fun H locs ls hP hD hS hl => lv_dup C.x1 C.x2 hdg hc (kk H locs ls hP hD hS hl)
theorem z_goto (C : zOk D T x h0 ci sz cc own nl rm ws1 mc ms) {off : Int} {tgt : Nat} (hdg : decode cc pc = .ok (.goto off, 3)) (ht : (pc : Int) + off = (tgt : Int)) (kk : zW D x h0 ci sz nl (tgt) L st fs tl k n) : zW D x h0 ci sz nl (pc) L st fs tl k n := fun H locs ls hP hD hS hl => lv_goto C.x1 C.x2 hdg ht (kk H locs ls hP hD hS hl)
theorem z_geT (C : zOk D T x h0 ci sz cc own nl rm ws1 mc ms) {x1 y1 : Int32} {off : Int} {tgt : Nat} (hdg : decode cc pc = .ok (.if_icmp .ge off, 3)) (ht : (pc : Int) + off = (tgt : Int)) (h : y1 ≤ x1) (kk : zW D x h0 ci sz nl (tgt) L st fs tl k n) : zW D x h0 ci sz nl (pc) L (.int y1 :: .int x1 :: st) fs tl k n := fun H locs ls hP hD hS hl => lv_icmp_ge C.x1 C.x2 hdg ht (fun _ => kk H locs ls hP hD hS hl) (fun h2 => absurd h h2)
theorem z_geF (C : zOk D T x h0 ci sz cc own nl rm ws1 mc ms) {x1 y1 : Int32} {off : Int} {tgt : Nat} (hdg : decode cc pc = .ok (.if_icmp .ge off, 3)) (ht : (pc : Int) + off = (tgt : Int)) (h : ¬ y1 ≤ x1) (kk : zW D x h0 ci sz nl (pc + 3) L st fs tl k n) : zW D x h0 ci sz nl (pc) L (.int y1 :: .int x1 :: st) fs tl k n := fun H locs ls hP hD hS hl => lv_icmp_ge C.x1 C.x2 hdg ht (fun h2 => absurd h2 h) (fun _ => kk H locs ls hP hD hS hl)
theorem z_obj (C : zOk D T x h0 ci sz cc own nl rm ws1 mc ms) {idx a1 : Nat} (hlk : Cond.methodLink own idx objectInit ∈ lw_tbl) (hin : Cond.instanceMethod objectInit ∈ lw_tbl) (hco : Cond.code objectInit ⟨#[0xb1]⟩ 1 none ∈ lw_tbl) (hR : 1 ≤ rm.frames ∧ 40 ≤ rm.locals) (hst : (st.map fun v => v.category).sum ≤ 8) (hdg : decode cc pc = .ok (.invokespecial idx, 3)) (kk : zW D x h0 ci sz nl (pc + 3) L st fs tl k n) : zW D x h0 ci sz nl (pc) L (.ref a1 :: st) fs tl k n := fun H locs ls hP hD hS hl => W.objInit C.x1 C.x2 C.x4 (C.x5 _ (x_gd hlk rfl)) (C.x5 _ (x_gd hin rfl)) (C.x5 _ (x_gd hco rfl)) (g := F0 (km x) pc ls (.ref a1 :: st)) rfl (by rw [C.x3]; exact hl.1) rfl hdg (by rw [C.x11]; exact hR.1) (by rw [C.x11]; have := lv_room (m := km x) (pc := pc) (ls := ls) (rest := .ref a1 :: st) hst; omega) (kk H locs ls hP hD hS hl)
theorem z_get (C : zOk D T x h0 ci sz cc own nl rm ws1 mc ms) {k1 index Nf : Nat} {K : String} {TT : u_T} {v1 : Value} (hcl : vwCl[ci]? = some (K, TT, Nf)) (hin : ∀ t ∈ u_ws K TT Nf, t ∈ lw_tbl) (hk : k1 < Nf) (hlk : Cond.fieldLink own index (TT k1).1 (TT k1).2.1 (TT k1).2.2.1 ∈ lw_tbl) (hv : fs[k1]? = some v1) (hdg : decode cc pc = .ok (.getfield index, 3)) (kk : zW D x h0 ci sz nl (pc + 3) L (v1 :: st) fs tl k n) : zW D x h0 ci sz nl (pc) L (.ref h0 :: st) fs tl k n := fun H locs ls hP hD hS hl => va_get (D := D) (ci := ci) (C := K) (T := TT) (N := Nf) C.x1 C.x2 C.x5 (x_gdw hin) C.x4 C.x6 hP 0 rfl hcl k1 hk (C.x5 _ (x_gd hlk rfl)) (fun _ h9 => h9) hv hdg (kk H locs ls hP hD hS hl)
theorem z_putF (C : zOk D T x h0 ci sz cc own nl rm ws1 mc ms) {k1 index Nf : Nat} {K : String} {TT : u_T} {v1 : Value} {ty : FieldType} (hcl : vwCl[ci]? = some (K, TT, Nf)) (hin : ∀ t ∈ u_ws K TT Nf, t ∈ lw_tbl) (ty0 : Nat → FieldType) (hty : ∀ k, k < Nf → parseFieldDescriptor (TT k).2.2.1 = some (ty0 k)) (hnm : ∀ a, a < Nf → ∀ b, b < Nf → a ≠ b → (TT a).2.1 ≠ (TT b).2.1) (hk : k1 < Nf) (hlk : Cond.fieldLink own index (TT k1).1 (TT k1).2.1 (TT k1).2.2.1 ∈ lw_tbl) (hfin : (TT k1).2.2.2 = true) (hdecl : (TT k1).1 = own) (hd : ty0 k1 = ty) (hn : narrow ty v1 = v1) (hfit : fits ty v1 = true) (hlen : k1 < fs.length) (hdg : decode cc pc = .ok (.putfield index, 3)) (kk : zW D x h0 ci sz nl (pc + 3) L st (fs.set k1 v1) tl k n) : zW D x h0 ci sz nl (pc) L (v1 :: .ref h0 :: st) fs tl k n := fun H locs ls hP hD hS hl => va_putF (D := D) (ci := ci) (C := K) (T := TT) (N := Nf) (fs := fs) (v := v1) (ty := ty) (ws := (h0, .inr (ci, fs)) :: tl) (a := h0) C.x1 C.x2 C.x5 (x_gdw hin) ty0 hty hnm C.x4 C.x6 hP hD hS 0 rfl hcl k1 hk (C.x5 _ (x_gd hlk rfl)) (fun _ h9 => h9) hfin C.x7 hdecl (by rw [hty k1 hk, hd]) hn hfit hlen hdg (fun H locs hP hD hS => kk H locs ls hP hD hS hl)
theorem z_put (C : zOk D T x h0 ci sz cc own nl rm ws1 mc ms) {k1 index Nf : Nat} {K : String} {TT : u_T} {v1 : Value} {ty : FieldType} (hcl : vwCl[ci]? = some (K, TT, Nf)) (hin : ∀ t ∈ u_ws K TT Nf, t ∈ lw_tbl) (ty0 : Nat → FieldType) (hty : ∀ k, k < Nf → parseFieldDescriptor (TT k).2.2.1 = some (ty0 k)) (hnm : ∀ a, a < Nf → ∀ b, b < Nf → a ≠ b → (TT a).2.1 ≠ (TT b).2.1) (hk : k1 < Nf) (hlk : Cond.fieldLink own index (TT k1).1 (TT k1).2.1 (TT k1).2.2.1 ∈ lw_tbl) (hfin : (TT k1).2.2.2 = false) (hd : ty0 k1 = ty) (hn : narrow ty v1 = v1) (hfit : fits ty v1 = true) (hlen : k1 < fs.length) (hdg : decode cc pc = .ok (.putfield index, 3)) (kk : zW D x h0 ci sz nl (pc + 3) L st (fs.set k1 v1) tl k n) : zW D x h0 ci sz nl (pc) L (v1 :: .ref h0 :: st) fs tl k n := fun H locs ls hP hD hS hl => va_put (D := D) (ci := ci) (C := K) (T := TT) (N := Nf) (fs := fs) (v := v1) (ty := ty) (ws := (h0, .inr (ci, fs)) :: tl) (a := h0) C.x1 C.x2 C.x5 (x_gdw hin) ty0 hty hnm C.x4 C.x6 hP hD hS 0 rfl hcl k1 hk (C.x5 _ (x_gd hlk rfl)) (fun _ h9 => h9) hfin (by rw [hty k1 hk, hd]) hn hfit hlen hdg (fun H locs hP hD hS => kk H locs ls hP hD hS hl)
theorem z_Kid {ty : FieldType} {cA c0 : ClassId} {t0 : Nat} {U : State} {tys : List (ClassId × FieldType)} (hK : va_K D vwCl (tys ++ [(cA, ty)]) U) (h0 : tys[t0]? = some (c0, ty)) : cA = c0 := by
  have h1 := (hK.2 tys.length (cA, ty) (by rw [List.getElem?_append_right (Nat.le_refl _)]; simp)).2
  have h2 := (hK.2 t0 (c0, ty) (by rw [List.getElem?_append_left (List.getElem?_eq_some_iff.mp h0).1]; exact h0)).2
  cases ty with
  | object Cn =>
    obtain ⟨_, _, -, -, -, e1⟩ := h1
    obtain ⟨_, _, -, -, -, e2⟩ := h2
    exact Option.some.inj (e1.symm.trans e2)
  | _ => exact Option.some.inj (h1.symm.trans h2)
theorem z_newa (C : zOk D T x h0 ci sz cc own nl rm ws1 mc ms) (t0 : Nat) {atype : ArrayType} {ty : FieldType} {c0 : ClassId} {n1 : Int32} {N' : Nat} {a0 : vp_A} (hw : Cond.arrayClass (newarray.typeOf atype) ∈ lw_tbl) (hty : newarray.typeOf atype = ty) (ht : (zT T)[t0]? = some (c0, ty)) (ha : ∀ cA : ClassId, vp_cell cA a0 = arrV cA N' (fun _ => defaultValue ty)) (hn : ¬ n1 < 0) (hN : n1.toNatClampNeg = N') (hbytes : N' * componentBytes ty ≤ 536870912) (hc : k + 1 ≤ rm.cells) (hs : n + N' ≤ rm.slots) (hdg : decode cc pc = .ok (.newarray atype, 2)) (kk : ∀ q, zW D x h0 ci sz nl (pc + 2) L (.ref q :: st) fs (tl ++ [(q, .inl (c0, a0))]) (k + 1) (n + N')) : zW D x h0 ci sz nl (pc) L (.int n1 :: st) fs tl k n := fun H locs ls hP hD hS hl => va_newa (atype := atype) C.x1 C.x2 (C.x5 _ (x_gd hw rfl)) hty C.x6 hP hD hS C.hA ha hn hN hbytes (by rw [C.x11]; exact hc) (by rw [C.x11]; exact hs) hdg (fun q cA H1 hK hP hD hS => by
  have e := z_Kid hK ht
  subst e
  exact kk q H1 locs ls hP hD hS hl)
theorem z_newq (C : zOk D T x h0 ci sz cc own nl rm ws1 mc ms) {Cn : String} {index : Nat} (t0 : Nat) {c0 : ClassId} {n1 : Int32} {N' : Nat} (hov : va_AO Cn (ks x)) (hw : Cond.classLink own index Cn ∈ lw_tbl) (ht : (zT T)[t0]? = some (c0, .object Cn)) (hn : ¬ n1 < 0) (hN : n1.toNatClampNeg = N') (hbytes : N' * 4 ≤ 536870912) (hc : k + 1 ≤ rm.cells) (hs : n + N' ≤ rm.slots) (hdg : decode cc pc = .ok (.anewarray index, 3)) (kk : ∀ q, zW D x h0 ci sz nl (pc + 3) L (.ref q :: st) fs (tl ++ [(q, .inl (c0, N', .inr (.inr (.inr (.inr (fun _ => none))))))]) (k + 1) (n + N')) : zW D x h0 ci sz nl (pc) L (.int n1 :: st) fs tl k n := fun H locs ls hP hD hS hl => va_newq C.x1 C.x2 C.x4 (C.x5 _ (x_gd hw rfl)) hov C.x6 hP hD hS C.hA hn hN hbytes (by rw [C.x11]; exact hc) (by rw [C.x11]; exact hs) hdg (fun q cA H1 hK hP hD hS => by
  have e := z_Kid hK ht
  subst e
  exact kk q H1 locs ls hP hD hS hl)
theorem z_new (C : zOk D T x h0 ci sz cc own nl rm ws1 mc ms) {ci2 index Nf : Nat} {K : String} {TT : u_T} {fs2 : List Value} (hin : ∀ t ∈ u_ws K TT Nf, t ∈ lw_tbl) (ty : Nat → FieldType) (hty : ∀ k, k < Nf → parseFieldDescriptor (TT k).2.2.1 = some (ty k)) (h1 : Cond.classLink own index K ∈ lw_tbl) (h2 : Cond.instantiable K Nf ∈ lw_tbl) (h3 : Cond.initialized K ∈ lw_tbl) (hcl : vwCl[ci2]? = some (K, TT, Nf)) (hfs : ∀ j, j < Nf → defaultValue (ty j) = vp_V fs2 j) (hc : k + 1 ≤ rm.cells) (hs : n + Nf ≤ rm.slots) (hdg : decode cc pc = .ok (.new index, 3)) (kk : ∀ q, zW D x h0 ci sz nl (pc + 3) L (.ref q :: st) fs (tl ++ [(q, .inr (ci2, fs2))]) (k + 1) (n + Nf)) : zW D x h0 ci sz nl (pc) L st fs tl k n := fun H locs ls hP hD hS hl => va_new (C := K) (T := TT) (N := Nf) C.x1 C.x2 C.x5 (x_gdw hin) ty hty C.x4 (C.x5 _ (x_gd h1 rfl)) (C.x5 _ (x_gd h2 rfl)) (C.x5 _ (x_gd h3 rfl)) C.x6 hP hD hS C.hA hcl hfs (by rw [C.x11]; exact hc) (by rw [C.x11]; exact hs) hdg (fun q H1 hP hD hS => kk q H1 locs ls hP hD hS hl)
theorem z_aastore (C : zOk D T x h0 ci sz cc own nl rm ws1 mc ms) {p qk ci2 : Nat} {r : vw_C} {a v : Nat} {vs : List Value} {f : Nat → Option Nat} {c0 : ClassId} {N1 : Nat} {i1 : Int32} (ha : tl[p]? = some (a, .inl (c0, N1, .inr (.inr (.inr (.inr f)))))) (ht : (zT T)[2]? = some (c0, .object r.1)) (hv : tl[qk]? = some (v, .inr (ci2, vs))) (hcl : vwCl[ci2]? = some r) (hin : vp_in i1 N1) (hdg : decode cc pc = .ok (.aastore, 1)) (kk : zW D x h0 ci sz nl (pc + 1) L st fs (tl.set p (a, .inl (c0, N1, .inr (.inr (.inr (.inr (va_up f i1.toNatClampNeg (some v)))))))) k n) : zW D x h0 ci sz nl (pc) L (.ref v :: .int i1 :: .ref a :: st) fs tl k n := fun H locs ls hP hD hS hl => va_astq (ws := (h0, .inr (ci, fs)) :: tl) C.x1 C.x2 C.x6 hP hD hS (p + 1) 2 (qk + 1) ci2 ha ht hv hcl hin hdg (fun H locs hP hD hS => kk H locs ls hP hD hS hl)
theorem z_tl {tl2 : va_W} (h : tl = tl2) (kk : zW D x h0 ci sz nl (pc) L st fs tl2 k n) : zW D x h0 ci sz nl (pc) L st fs tl k n := by subst h; exact kk
theorem z_fs {fs2 : List Value} (h : fs = fs2) (kk : zW D x h0 ci sz nl (pc) L st fs2 tl k n) : zW D x h0 ci sz nl (pc) L st fs tl k n := by subst h; exact kk
theorem z_vret (C : zOk D T x h0 ci sz cc own nl rm ws1 mc ms) (qs : Nat → Nat) (h1 : (ws1 qs).1 = fs) (h2 : (ws1 qs).2 = tl) (hk : k ≤ mc) (hn : n ≤ ms) (hdg : decode cc pc = .ok (.return_, 1)) : zW D x h0 ci sz nl (pc) L [] fs tl k n := fun H locs ls hP hD hS hl => by
  rw [C.x10]
  refine W.widen hk hn ?_
  subst h1
  subst h2
  exact W.vret C.x1 C.x2 C.x8 (fun t ht hW => ⟨⟨qs, rfl, by rw [ht]; exact hP, hD⟩, hS.F ht⟩) hS.2.2 hdg C.x9
theorem z_call (C : zOk D T x h0 ci sz cc own nl rm ws1 mc ms) {host : String} {y : MethodName} {bytes : ByteArray} {maxL n1 index : Nat} {rm' : Room} {As : List Value} {st0 : List Value} {q ci2 : Nat} {fs2 : List Value} {w2 : (Nat → Nat) → List Value × va_W} {mc2 ms2 : Nat} (hM : zMet D T (kl x) y bytes maxL rm' As q ci2 fs2 w2 mc2 ms2) (h1 : Cond.methodLinkNest own index y host ∈ lw_tbl) (h2 : Cond.instanceMethod y ∈ lw_tbl) (h4 : Cond.initialized y.cls ∈ lw_tbl) (h5 : Cond.code y bytes maxL none ∈ lw_tbl) (hnm : y.name = "<init>") (hd : y.cls ≠ "java/lang/invoke/MethodHandle" ∧ y.cls ≠ "java/lang/invoke/VarHandle" ∧ (parseMethodDescriptor y.desc).map (fun d => d.parameters.length) = some n1) (hn : As.length = n1) (hrm : rm'.cells = mc2 ∧ rm'.slots = ms2) (hR : rm'.frames + 1 ≤ rm.frames ∧ 8 + (maxL + 11) + rm'.locals ≤ rm.locals) (hrest : (st.map fun v => v.category).sum ≤ 8) (hst : st0 = As.reverse ++ .ref q :: st) (hc : k + mc2 ≤ rm.cells) (hs : n + ms2 ≤ rm.slots) (hdg : decode cc pc = .ok (.invokespecial index, 3)) (kk : ∀ qs : Nat → Nat, zW D x h0 ci sz nl (pc + 3) L st fs (tl ++ ((q, .inr (ci2, (w2 qs).1)) :: (w2 qs).2)) (k + mc2) (n + ms2)) : zW D x h0 ci sz nl (pc) L st0 fs (tl ++ [(q, .inr (ci2, fs2))]) k n := fun H locs ls hP hD hS hl => by
  have hP0 : va_P D vwCl (((h0, .inr (ci, fs)) :: tl) ++ [(q, .inr (ci2, fs2))]) H := hP
  have hD0 : va_D (zA h0 sz) (((h0, .inr (ci, fs)) :: tl) ++ [(q, .inr (ci2, fs2))]) := hD
  have hPq : va_P D vwCl [(q, .inr (ci2, fs2))] H := z_pr hP0
  have hPr : va_P D vwCl ((h0, .inr (ci, fs)) :: tl) H := z_pl hP0
  have hqA : zA h0 sz q := hD0.2 (((h0, (Sum.inr (ci, fs) : va_E)) :: tl : va_W).length) (q, .inr (ci2, fs2)) (by rw [List.getElem?_append_right (Nat.le_refl _)]; simp)
  have hfree : ∀ z, zA q H.size z → zA h0 sz z := fun z hz => by
    rcases hz with rfl | hz
    · exact hqA
    · exact C.hA z (Nat.le_trans hS.1 hz)
  have hr := va_runIN (p := kp x) (l := kl x) (e := ke x) (R := kR x) (s := ks x) (m := km x) (args := ka x) (below := kb x) (meth := kt x) (c := kc x) (H := H) (locs := locs) (cells := k) (slots := n) (n := n1) (As := As) (rest := st) (host := host) (b := q) (g := F0 (km x) pc ls st0) ⟨C.x1, C.x2, C.x3, C.x4, C.x5⟩ (hM H.size) ⟨va_cnB n1 C.x5 (x_good (fun t ht => by
    rcases List.mem_cons.mp ht with rfl | h
    · exact x_gd h5 rfl
    · exact h)) rfl hrm.1 hrm.2 (C.x12 _ (x_ns h1 rfl)) (C.x5 _ (x_gd h4 rfl)) hd (by rw [C.x11]; exact hR), hnm, C.x5 _ (x_gd h2 rfl)⟩ ⟨fun a U g mk z => by
      obtain ⟨q1, q2, qP, qK, qN, qO⟩ := z
      exact ⟨q1, q2, qP, va_K.moved (u := U) (U := U.calling g mk a) (Vm.Alike.refl U.vm) qK, x_Ns.same (u := U) (U := U.calling g mk a) rfl qN, va_AO.moved (u := U) (U := U.calling g mk a) (Vm.Alike.refl U.vm) qO⟩, fun U hU hW => ⟨rfl, by rw [hU], by rw [hU]; exact hPq, va_K.moved hW.alike C.x6, x_Ns.warm hW C.x12, va_AO.moved hW.alike C.x14⟩⟩ rfl hn hl.1 hst (lv_room hrest) hdg ⟨by rw [C.x11]; exact hc, by rw [C.x11]; exact hs⟩
  intro T0 hT X
  obtain ⟨v, st₀, t, T', L', h0', X', hL, e1, e2, ⟨⟨qs, hv, hP1, hD1⟩, hz, hk⟩, stp⟩ := hr T0 hT X
  cases hv
  rw [h0'] at hz hk
  have hk1 : ∀ z, z < H.size → ¬ zA q H.size z → t.heap[z]? = H[z]? := hk
  have hPr1 : va_P D vwCl ((h0, .inr (ci, fs)) :: tl) t.heap := hPr.kept (fun j w hw => hk1 w.1 (hPr j w hw).lt (fun h => by
    rcases h with h | h
    · exact z_dlr hD0 j 0 w (q, .inr (ci2, fs2)) hw rfl h
    · exact absurd (hPr j w hw).lt (by omega)))
  have hPn : va_P D vwCl ((h0, .inr (ci, fs)) :: (tl ++ ((q, .inr (ci2, (w2 qs).1)) :: (w2 qs).2))) t.heap := va_P.app hPr1 hP1
  have hDn : va_D (zA h0 sz) ((h0, .inr (ci, fs)) :: (tl ++ ((q, .inr (ci2, (w2 qs).1)) :: (w2 qs).2))) := va_D.app (z_dl hD0) (hD1.weaken (fun _ w _ hw => hfree w.1 hw)) (fun i j w1 w2' hw1 hw2 e => by
    have hb := hD1.2 j w2' hw2
    rcases hb with hb | hb
    · exact z_dlr hD0 i 0 w1 (q, .inr (ci2, fs2)) hw1 rfl (e.trans hb)
    · exact absurd (hPr i w1 hw1).lt (by omega))
  have hS' : va_S (zA h0 sz) (ks x).heap T'.heap (locs ++ L') := ⟨Nat.le_trans hS.1 (by rw [e1]; exact hz), fun z g1 g2 => by
    rw [e1, hk1 z (Nat.lt_of_lt_of_le g1 hS.1) (fun h => g2 (hfree z h))]
    exact hS.2.1 z g1 g2, fun z hz => by
    rcases List.mem_append.mp hz with h | h
    · exact hS.2.2 z h
    · exact hfree _ (hL z h)⟩
  obtain ⟨t2, a1, b1⟩ := kk qs T'.heap (locs ++ L') ls (by rw [e1]; exact hPn) hDn hS' hl T' rfl X'
  exact ⟨t2, stp t2 a1, b1⟩
end ZR
