/-! THE FRAME: a world is a numbered row of cells at addresses; its memory is a function; xW is the machine's goal with heap, frame and locals hidden -/
abbrev xMem : Type := (Nat → Nat → Int32) × (Nat → Nat → Int64)
def gi (M : xMem) (c i : Nat) : Int32 := M.1 c i
def gl (M : xMem) (c i : Nat) : Int64 := M.2 c i
def si (M : xMem) (c i : Nat) (v : Int32) : xMem := (fun a => if a = c then upd (M.1 c) i v else M.1 a, M.2)
def sl (M : xMem) (c i : Nat) (v : Int64) : xMem := (M.1, fun a => if a = c then vp_updL (M.2 c) i v else M.2 a)
def sr (M : xMem) (c : Nat) (f : Nat → Int32) : xMem := (fun a => if a = c then f else M.1 a, M.2)
theorem si_at (M : xMem) (c i : Nat) (v : Int32) : (si M c i v).1 c = upd (M.1 c) i v := if_pos rfl
theorem si_ne (M : xMem) (c i : Nat) (v : Int32) : ∀ a, a ≠ c → (si M c i v).1 a = M.1 a ∧ (si M c i v).2 a = M.2 a := fun _ h => ⟨if_neg h, rfl⟩
theorem sl_at (M : xMem) (c i : Nat) (v : Int64) : (sl M c i v).2 c = vp_updL (M.2 c) i v := if_pos rfl
theorem sl_ne (M : xMem) (c i : Nat) (v : Int64) : ∀ a, a ≠ c → (sl M c i v).1 a = M.1 a ∧ (sl M c i v).2 a = M.2 a := fun _ h => ⟨rfl, if_neg h⟩
theorem sr_at (M : xMem) (c : Nat) (f : Nat → Int32) : (sr M c f).1 c = f := if_pos rfl
theorem sr_ne (M : xMem) (c : Nat) (f : Nat → Int32) : ∀ a, a ≠ c → (sr M c f).1 a = M.1 a ∧ (sr M c f).2 a = M.2 a := fun _ h => ⟨if_neg h, rfl⟩
abbrev xWd : Type := va_G × List vw_C × List (ClassId × FieldType) × (Nat → Nat) × (Nat → (Nat → Int32) → (Nat → Int64) → va_E) × Nat × ((Nat → Prop) → State → Heap → Prop)
abbrev wD (w : xWd) : va_G := w.1
abbrev wC (w : xWd) : List vw_C := w.2.1
abbrev wT (w : xWd) : List (ClassId × FieldType) := w.2.2.1
abbrev wA (w : xWd) : Nat → Nat := w.2.2.2.1
abbrev wE (w : xWd) : Nat → (Nat → Int32) → (Nat → Int64) → va_E := w.2.2.2.2.1
abbrev wN (w : xWd) : Nat := w.2.2.2.2.2.1
abbrev wX (w : xWd) : (Nat → Prop) → State → Heap → Prop := w.2.2.2.2.2.2
def x_wf (w : xWd) (M : xMem) : va_W := (List.range (wN w)).map (fun c => (wA w c, wE w c (M.1 c) (M.2 c)))
theorem x_get0 {w : xWd} (M : xMem) {c : Nat} (h : c < wN w) : (x_wf w M)[c]? = some (wA w c, wE w c (M.1 c) (M.2 c)) := by
  simp [x_wf, List.getElem?_range h]
theorem x_get1 {w : xWd} {M : xMem} {c : Nat} {p : Nat × va_E} (h : (x_wf w M)[c]? = some p) : c < wN w ∧ p.1 = wA w c := by
  rcases Nat.lt_or_ge c (wN w) with q | q
  · rw [x_get0 M q] at h
    exact ⟨q, by rw [← Option.some.inj h]⟩
  · rw [List.getElem?_eq_none (by simp [x_wf]; exact q)] at h
    cases h
theorem x_set0 {w : xWd} {M M' : xMem} {c : Nat} {e : va_E} (he : e = wE w c (M'.1 c) (M'.2 c)) (h1 : ∀ a, a ≠ c → M'.1 a = M.1 a ∧ M'.2 a = M.2 a) : (x_wf w M).set c (wA w c, e) = x_wf w M' := by
  apply List.ext_getElem?
  intro i
  rw [List.getElem?_set]
  by_cases hi : c = i
  · subst hi
    rw [if_pos rfl]
    rcases Nat.lt_or_ge c (wN w) with q | q
    · rw [if_pos (by simp [x_wf]; exact q), x_get0 M' q, he]
    · rw [if_neg (by simp [x_wf]; omega), List.getElem?_eq_none (by simp [x_wf]; exact q)]
  · rw [if_neg hi]
    rcases Nat.lt_or_ge i (wN w) with q | q
    · rw [x_get0 M q, x_get0 M' q, (h1 i (Ne.symm hi)).1, (h1 i (Ne.symm hi)).2]
    · rw [List.getElem?_eq_none (by simp [x_wf]; exact q), List.getElem?_eq_none (by simp [x_wf]; exact q)]
theorem x_setf {w : xWd} {M : xMem} {c ci k1 : Nat} {u1 : Int32} {v1 : Value} {fs : (Nat → Int32) → List Value} (he : ∀ r r2, wE w c r r2 = .inr (ci, fs r)) (hset : ∀ r, (fs r).set k1 v1 = fs (upd r k1 u1)) : (x_wf w M).set c (wA w c, .inr (ci, (fs (M.1 c)).set k1 v1)) = x_wf w (si M c k1 u1) := x_set0 (by rw [hset, si_at, he]) (si_ne M c k1 u1)
def x_A (w : xWd) : Nat → Prop := fun q => ∃ c, c < wN w ∧ q = wA w c
def x_inj (w : xWd) : Prop := ∀ i j, i < wN w → j < wN w → wA w i = wA w j → i = j
theorem x_D {w : xWd} (M : xMem) (h : x_inj w) : va_D (x_A w) (x_wf w M) := by
  refine ⟨fun i j p q hp hq e => ?_, fun k q hk => ?_⟩
  · obtain ⟨a1, a2⟩ := x_get1 hp
    obtain ⟨b1, b2⟩ := x_get1 hq
    exact h i j a1 b1 (by rw [← a2, ← b2, e])
  · obtain ⟨a1, a2⟩ := x_get1 hk
    exact ⟨k, a1, a2⟩
def x_st (w : xWd) : Prop := (∀ (s U : State) (H : Heap), wX w (x_A w) s s.heap → s.WarmedH U.vm → (∀ q, q < s.heap.size → ¬ x_A w q → H[q]? = s.heap[q]?) → wX w (x_A w) U H) ∧ ∀ (u U : State) (H : Heap), u.vm = U.vm → wX w (x_A w) u H → wX w (x_A w) U H
/-- the words that travel with a call; the links of nest mates, which don't -/
def lw_gd : List Cond := lw_tbl.filter goodWord
def x_nst : Cond → Bool := fun t => match t with
  | .fieldLinkNest .. => true
  | .methodLinkNest .. => true
  | _ => false
def lw_ns : List Cond := lw_tbl.filter x_nst
def x_Ns (U : State) : Prop := ∀ t ∈ lw_ns, va_Nw t U
theorem x_gd {t : Cond} (h : t ∈ lw_tbl) (hg : goodWord t = true) : t ∈ lw_gd := List.mem_filter.mpr ⟨h, hg⟩
theorem x_ns {t : Cond} (h : t ∈ lw_tbl) (hg : x_nst t = true) : t ∈ lw_ns := List.mem_filter.mpr ⟨h, hg⟩
theorem x_gdw {K : String} {T : u_T} {n : Nat} (h : ∀ t ∈ u_ws K T n, t ∈ lw_tbl) : ∀ t ∈ u_ws K T n, t ∈ lw_gd := fun t ht => by
  refine x_gd (h t ht) ?_
  obtain ⟨k, -, rfl⟩ := List.mem_map.mp ht
  unfold u_lay
  split <;> rfl
theorem x_Ns.warm {s U : State} (hW : s.WarmedH U.vm) (h : x_Ns s) : x_Ns U := fun t ht => by
  have h1 := h t ht
  have h2 := (List.mem_filter.mp ht).2
  cases t <;> first | exact va_Nw.warmF hW h1 | exact va_Nw.warmM hW h1 | exact absurd h2 (by decide) | cases h2
theorem x_Ns.same {u U : State} (hv : u.vm = U.vm) (h : x_Ns u) : x_Ns U := fun t ht => by
  have h1 := h t ht
  have h2 := (List.mem_filter.mp ht).2
  refine va_Nw.same ?_ hv h1
  cases t <;> first | rfl | exact absurd h2 (by decide) | cases h2
abbrev xCx : Type := Program × Launch × Env × Room × State × MethodId × Array Value × List Frame × Method × Code × (State → Prop)
abbrev kp (x : xCx) : Program := x.1
abbrev kl (x : xCx) : Launch := x.2.1
abbrev ke (x : xCx) : Env := x.2.2.1
abbrev kR (x : xCx) : Room := x.2.2.2.1
abbrev ks (x : xCx) : State := x.2.2.2.2.1
abbrev km (x : xCx) : MethodId := x.2.2.2.2.2.1
abbrev ka (x : xCx) : Array Value := x.2.2.2.2.2.2.1
abbrev kb (x : xCx) : List Frame := x.2.2.2.2.2.2.2.1
abbrev kt (x : xCx) : Method := x.2.2.2.2.2.2.2.2.1
abbrev kc (x : xCx) : Code := x.2.2.2.2.2.2.2.2.2.1
abbrev kQ (x : xCx) : State → Prop := x.2.2.2.2.2.2.2.2.2.2
/-- a method's start -/
def xPc (w : xWd) (As : List Value) (M : xMem) : Array Value → State → Prop := va_Pc As (fun U => va_P (wD w) (wC w) (x_wf w M) U.heap ∧ va_K (wD w) (wC w) (wT w) U ∧ wX w (x_A w) U U.heap ∧ x_Ns U)
/-- a method's end -/
def xQ (w : xWd) (P : Option Value → xMem → Prop) : Array Value → State → Outcome → State → Prop := fun _ st oc t => (∃ (v : Option Value) (M' : xMem), oc = .returned v ∧ P v M' ∧ va_P (wD w) (wC w) (x_wf w M') t.heap) ∧ va_F (x_A w) st t
def xMet (w : xWd) (l : Launch) (y : MethodName) (cc : ByteArray) (nl : Nat) (ret : Option FieldType) (rm : Room) (As : List Value) (M : xMem) (P : Option Value → xMem → Prop) : Prop := Met l y (Cond.code y cc nl ret :: lw_gd) rm (xPc w As M) (xQ w P) 0 0 (x_A w)
def xW (w : xWd) (x : xCx) (nl pc : Nat) (L : List (Nat × Value)) (st : List Value) (M : xMem) : Prop :=
  ∀ (H : Heap) (locs : List Loc) (ls : Array Slot), va_P (wD w) (wC w) (x_wf w M) H → va_S (x_A w) (ks x).heap H locs → lv_has ls nl L → W (kp x) (kl x) (ke x) (kR x) (ks x) (km x) (ka x) (kb x) (kt x) (kc x) H locs 0 0 (kQ x) (F0 (km x) pc ls st)
def xOk (w : xWd) (x : xCx) (cc : ByteArray) (own : String) (nl : Nat) (ret : Option FieldType) (rm : Room) (P : Option Value → xMem → Prop) : Prop :=
  (kp x).tables.exec = Jvm.exec ∧ (kc x).code = cc ∧ (kc x).maxLocals = nl ∧ (ks x).vm.findClass own = some (km x).cls ∧ (∀ t ∈ lw_gd, t.before (ka x) (ks x) = true) ∧ va_K (wD w) (wC w) (wT w) (ks x) ∧ x_inj w ∧ (kt x).sig.returnType = ret ∧ (kt x).locks = false ∧ kQ x = MQ (kb x) (xQ w P) (ka x) (ks x) 0 0 (x_A w) ∧ kR x = rm ∧ wX w (x_A w) (ks x) (ks x).heap ∧ x_st w ∧ x_Ns (ks x)
theorem x_good {ws : List Cond} (h : ∀ t ∈ ws, t ∈ lw_gd) : GoodIn lw_gd ws := fun t ht => ⟨h t ht, good_of_word (List.mem_filter.mp (h t ht)).2⟩
section XK
variable {w : xWd} {x : xCx} {cc : ByteArray} {own : String} {nl : Nat} {ret : Option FieldType} {rm : Room} {P : Option Value → xMem → Prop}
theorem xOk.x1 (C : xOk w x cc own nl ret rm P) : (kp x).tables.exec = Jvm.exec := C.1
theorem xOk.x2 (C : xOk w x cc own nl ret rm P) : (kc x).code = cc := C.2.1
theorem xOk.x3 (C : xOk w x cc own nl ret rm P) : (kc x).maxLocals = nl := C.2.2.1
theorem xOk.x4 (C : xOk w x cc own nl ret rm P) : (ks x).vm.findClass own = some (km x).cls := C.2.2.2.1
theorem xOk.x5 (C : xOk w x cc own nl ret rm P) : ∀ t ∈ lw_gd, t.before (ka x) (ks x) = true := C.2.2.2.2.1
theorem xOk.x6 (C : xOk w x cc own nl ret rm P) : va_K (wD w) (wC w) (wT w) (ks x) := C.2.2.2.2.2.1
theorem xOk.x7 (C : xOk w x cc own nl ret rm P) : x_inj w := C.2.2.2.2.2.2.1
theorem xOk.x8 (C : xOk w x cc own nl ret rm P) : (kt x).sig.returnType = ret := C.2.2.2.2.2.2.2.1
theorem xOk.x9 (C : xOk w x cc own nl ret rm P) : (kt x).locks = false := C.2.2.2.2.2.2.2.2.1
theorem xOk.x10 (C : xOk w x cc own nl ret rm P) : kQ x = MQ (kb x) (xQ w P) (ka x) (ks x) 0 0 (x_A w) := C.2.2.2.2.2.2.2.2.2.1
theorem xOk.x11 (C : xOk w x cc own nl ret rm P) : kR x = rm := C.2.2.2.2.2.2.2.2.2.2.1
theorem xOk.x12 (C : xOk w x cc own nl ret rm P) : wX w (x_A w) (ks x) (ks x).heap := C.2.2.2.2.2.2.2.2.2.2.2.1
theorem xOk.x13 (C : xOk w x cc own nl ret rm P) : x_st w := C.2.2.2.2.2.2.2.2.2.2.2.2.1
theorem xOk.x14 (C : xOk w x cc own nl ret rm P) : x_Ns (ks x) := C.2.2.2.2.2.2.2.2.2.2.2.2.2
end XK
theorem x_enter {w : xWd} {l : Launch} {y : MethodName} {own : String} {cc : ByteArray} {nl : Nat} {ret : Option FieldType} {rm : Room} {As : List Value} {M : xMem} {P : Option Value → xMem → Prop} {L0 : List (Nat × Value)} (hy : plainName y.cls = true) (hown : y.cls = own) (hinj : x_inj w) (hst : x_st w) (hlen : (lg_sl As).length ≤ nl) (hL : lv_args 0 As = L0) (k : ∀ x, kl x = l → xOk w x cc own nl ret rm P → xW w x nl 0 L0 [] M) : xMet w l y cc nl ret rm As M P := by
  refine Met.ofW (cc := cc) (maxL := nl) (ret := ret) hy rfl ?_
  intro p e s m args below meth c s₁ B hml hv
  obtain ⟨rfl, hP, hK, hX, hN⟩ := hv
  have hts := atoms_spec (ws := Cond.code y cc nl ret :: lw_gd) B.pre
  have hown' : s.vm.findClass y.cls = some m.cls := findClass_of_methodNamed B.named
  subst hL
  rw [lg_entry_eq]
  exact k (p, l, e, rm, s, m, As.toArray, below, meth, c, MQ below (xQ w P) As.toArray s 0 0 (x_A w)) rfl ⟨B.exec, B.bytes, hml, by rw [← hown]; exact hown', fun t ht => hts t (List.mem_cons_of_mem _ ht), hK, hinj, B.returns, B.notSynchronized, rfl, rfl, hX, hst, hN⟩ s.heap [] _ hP va_S.rf (lv_entry As hlen)
def xushr (a b : Int32) : Int32 := (a.toUInt32 >>> (b.toUInt32 &&& Int32.toUInt32 31)).toInt32
section XR
variable {w : xWd} {x : xCx} {cc : ByteArray} {own : String} {nl pc : Nat} {ret : Option FieldType} {rm : Room} {P : Option Value → xMem → Prop} {L L' : List (Nat × Value)} {st : List Value} {M M' : xMem}
theorem x_loc (js : List Nat) (h : lv_pick L js = L') (k : xW w x nl pc L' st M) : xW w x nl pc L st M := fun H locs ls hP hS hl => k H locs ls hP hS (lv_sub hl js h)

theorem x_iadd (C : xOk w x cc own nl ret rm P) {x1 y1 : Int32} (hdg : decode cc pc = .ok (.iadd, 1)) (k : xW w x nl (pc + 1) L (.int (x1 + y1) :: st) M) : xW w x nl (pc) L (.int y1 :: .int x1 :: st) M := fun H locs ls hP hS hl => lv_iadd C.x1 C.x2 hdg (k H locs ls hP hS hl)
theorem x_isub (C : xOk w x cc own nl ret rm P) {x1 y1 : Int32} (hdg : decode cc pc = .ok (.isub, 1)) (k : xW w x nl (pc + 1) L (.int (x1 - y1) :: st) M) : xW w x nl (pc) L (.int y1 :: .int x1 :: st) M := fun H locs ls hP hS hl => lv_isub C.x1 C.x2 hdg (k H locs ls hP hS hl)
theorem x_imul (C : xOk w x cc own nl ret rm P) {x1 y1 : Int32} (hdg : decode cc pc = .ok (.imul, 1)) (k : xW w x nl (pc + 1) L (.int (x1 * y1) :: st) M) : xW w x nl (pc) L (.int y1 :: .int x1 :: st) M := fun H locs ls hP hS hl => lv_imul C.x1 C.x2 hdg (k H locs ls hP hS hl)
theorem x_iand (C : xOk w x cc own nl ret rm P) {x1 y1 : Int32} (hdg : decode cc pc = .ok (.iand, 1)) (k : xW w x nl (pc + 1) L (.int (x1 &&& y1) :: st) M) : xW w x nl (pc) L (.int y1 :: .int x1 :: st) M := fun H locs ls hP hS hl => lv_iand C.x1 C.x2 hdg (k H locs ls hP hS hl)
theorem x_ior (C : xOk w x cc own nl ret rm P) {x1 y1 : Int32} (hdg : decode cc pc = .ok (.ior, 1)) (k : xW w x nl (pc + 1) L (.int (x1 ||| y1) :: st) M) : xW w x nl (pc) L (.int y1 :: .int x1 :: st) M := fun H locs ls hP hS hl => lv_ior C.x1 C.x2 hdg (k H locs ls hP hS hl)
theorem x_ixor (C : xOk w x cc own nl ret rm P) {x1 y1 : Int32} (hdg : decode cc pc = .ok (.ixor, 1)) (k : xW w x nl (pc + 1) L (.int (x1 ^^^ y1) :: st) M) : xW w x nl (pc) L (.int y1 :: .int x1 :: st) M := fun H locs ls hP hS hl => lv_ixor C.x1 C.x2 hdg (k H locs ls hP hS hl)
theorem x_ishl (C : xOk w x cc own nl ret rm P) {x1 y1 : Int32} (hdg : decode cc pc = .ok (.ishl, 1)) (k : xW w x nl (pc + 1) L (.int (x1 <<< (y1 &&& 31)) :: st) M) : xW w x nl (pc) L (.int y1 :: .int x1 :: st) M := fun H locs ls hP hS hl => lv_ishl C.x1 C.x2 hdg (k H locs ls hP hS hl)
theorem x_ishr (C : xOk w x cc own nl ret rm P) {x1 y1 : Int32} (hdg : decode cc pc = .ok (.ishr, 1)) (k : xW w x nl (pc + 1) L (.int (x1 >>> (y1 &&& 31)) :: st) M) : xW w x nl (pc) L (.int y1 :: .int x1 :: st) M := fun H locs ls hP hS hl => lv_ishr C.x1 C.x2 hdg (k H locs ls hP hS hl)
theorem x_idiv (C : xOk w x cc own nl ret rm P) {x1 y1 : Int32} (hne : ¬ y1 = 0) (hdg : decode cc pc = .ok (.idiv, 1)) (k : xW w x nl (pc + 1) L (.int (x1 / y1) :: st) M) : xW w x nl (pc) L (.int y1 :: .int x1 :: st) M := fun H locs ls hP hS hl => lv_idiv C.x1 C.x2 hdg hne (k H locs ls hP hS hl)
theorem x_irem (C : xOk w x cc own nl ret rm P) {x1 y1 : Int32} (hne : ¬ y1 = 0) (hdg : decode cc pc = .ok (.irem, 1)) (k : xW w x nl (pc + 1) L (.int (x1 - x1 / y1 * y1) :: st) M) : xW w x nl (pc) L (.int y1 :: .int x1 :: st) M := fun H locs ls hP hS hl => lv_irem C.x1 C.x2 hdg hne (k H locs ls hP hS hl)
theorem x_iushr (C : xOk w x cc own nl ret rm P) {x1 y1 : Int32} (hdg : decode cc pc = .ok (.iushr, 1)) (k : xW w x nl (pc + 1) L (.int (xushr x1 y1) :: st) M) : xW w x nl (pc) L (.int y1 :: .int x1 :: st) M := fun H locs ls hP hS hl => lv_iushr C.x1 C.x2 hdg rfl (k H locs ls hP hS hl)
theorem x_ineg (C : xOk w x cc own nl ret rm P) {x1 : Int32} (hdg : decode cc pc = .ok (.ineg, 1)) (k : xW w x nl (pc + 1) L (.int (-x1) :: st) M) : xW w x nl (pc) L (.int x1 :: st) M := fun H locs ls hP hS hl => lv_ineg C.x1 C.x2 hdg (k H locs ls hP hS hl)
theorem x_i2b (C : xOk w x cc own nl ret rm P) {x1 : Int32} (hdg : decode cc pc = .ok (.i2b, 1)) (k : xW w x nl (pc + 1) L (.int x1.toInt8.toInt32 :: st) M) : xW w x nl (pc) L (.int x1 :: st) M := fun H locs ls hP hS hl => lv_i2b C.x1 C.x2 hdg rfl (k H locs ls hP hS hl)
theorem x_i2c (C : xOk w x cc own nl ret rm P) {x1 : Int32} (hdg : decode cc pc = .ok (.i2c, 1)) (k : xW w x nl (pc + 1) L (.int (x1.toUInt32 % 65536).toInt32 :: st) M) : xW w x nl (pc) L (.int x1 :: st) M := fun H locs ls hP hS hl => lv_i2c C.x1 C.x2 hdg rfl (k H locs ls hP hS hl)
theorem x_i2l (C : xOk w x cc own nl ret rm P) {x1 : Int32} (hdg : decode cc pc = .ok (.i2l, 1)) (k : xW w x nl (pc + 1) L (.long x1.toInt64 :: st) M) : xW w x nl (pc) L (.int x1 :: st) M := fun H locs ls hP hS hl => lv_i2l C.x1 C.x2 hdg rfl (k H locs ls hP hS hl)
theorem x_land (C : xOk w x cc own nl ret rm P) {x1 y1 : Int64} (hdg : decode cc pc = .ok (.land, 1)) (k : xW w x nl (pc + 1) L (.long (x1 &&& y1) :: st) M) : xW w x nl (pc) L (.long y1 :: .long x1 :: st) M := fun H locs ls hP hS hl => lv_land C.x1 C.x2 hdg (k H locs ls hP hS hl)
theorem x_lor (C : xOk w x cc own nl ret rm P) {x1 y1 : Int64} (hdg : decode cc pc = .ok (.lor, 1)) (k : xW w x nl (pc + 1) L (.long (x1 ||| y1) :: st) M) : xW w x nl (pc) L (.long y1 :: .long x1 :: st) M := fun H locs ls hP hS hl => lv_lor C.x1 C.x2 hdg (k H locs ls hP hS hl)
theorem x_lshl (C : xOk w x cc own nl ret rm P) {x1 : Int64} {y1 : Int32} (hdg : decode cc pc = .ok (.lshl, 1)) (k : xW w x nl (pc + 1) L (.long (x1 <<< (y1.toInt64 &&& 63)) :: st) M) : xW w x nl (pc) L (.int y1 :: .long x1 :: st) M := fun H locs ls hP hS hl => lv_lshl C.x1 C.x2 hdg rfl (k H locs ls hP hS hl)
theorem x_lshr (C : xOk w x cc own nl ret rm P) {x1 : Int64} {y1 : Int32} (hdg : decode cc pc = .ok (.lshr, 1)) (k : xW w x nl (pc + 1) L (.long (x1 >>> (y1.toInt64 &&& 63)) :: st) M) : xW w x nl (pc) L (.int y1 :: .long x1 :: st) M := fun H locs ls hP hS hl => lv_lshr C.x1 C.x2 hdg rfl (k H locs ls hP hS hl)
theorem x_iconst (C : xOk w x cc own nl ret rm P) {n1 : Int} {v1 : Int32} (hdg : decode cc pc = .ok (.iconst n1, 1)) (hv : Int32.ofInt n1 = v1) (k : xW w x nl (pc + 1) L (.int v1 :: st) M) : xW w x nl (pc) L st M := fun H locs ls hP hS hl => lv_iconst C.x1 C.x2 hdg hv (k H locs ls hP hS hl)
theorem x_bipush (C : xOk w x cc own nl ret rm P) {n1 : Int} {v1 : Int32} (hdg : decode cc pc = .ok (.bipush n1, 2)) (hv : (Int8.ofInt n1).toInt32 = v1) (k : xW w x nl (pc + 2) L (.int v1 :: st) M) : xW w x nl (pc) L st M := fun H locs ls hP hS hl => lv_bipush C.x1 C.x2 hdg hv (k H locs ls hP hS hl)
theorem x_sipush (C : xOk w x cc own nl ret rm P) {n1 : Int} {v1 : Int32} (hdg : decode cc pc = .ok (.sipush n1, 3)) (hv : (Int16.ofInt n1).toInt32 = v1) (k : xW w x nl (pc + 3) L (.int v1 :: st) M) : xW w x nl (pc) L st M := fun H locs ls hP hS hl => lv_sipush C.x1 C.x2 hdg hv (k H locs ls hP hS hl)
theorem x_lconst (C : xOk w x cc own nl ret rm P) {n1 : Fin 2} {v1 : Int64} (hdg : decode cc pc = .ok (.lconst n1, 1)) (hv : Int64.ofNat (n1 : Nat) = v1) (k : xW w x nl (pc + 1) L (.long v1 :: st) M) : xW w x nl (pc) L st M := fun H locs ls hP hS hl => lv_lconst C.x1 C.x2 hdg hv (k H locs ls hP hS hl)
theorem x_ldc (C : xOk w x cc own nl ret rm P) {index : Nat} {v1 : Int32} (hw : Cond.constant own index v1 ∈ lw_tbl) (hdg : decode cc pc = .ok (.ldc index, 2)) (k : xW w x nl (pc + 2) L (.int v1 :: st) M) : xW w x nl (pc) L st M := fun H locs ls hP hS hl => lv_ldc C.x1 C.x2 C.x4 (C.x5 _ (x_gd hw rfl)) hdg (k H locs ls hP hS hl)
theorem x_ldc_w (C : xOk w x cc own nl ret rm P) {index : Nat} {v1 : Int32} (hw : Cond.constant own index v1 ∈ lw_tbl) (hdg : decode cc pc = .ok (.ldc_w index, 3)) (k : xW w x nl (pc + 3) L (.int v1 :: st) M) : xW w x nl (pc) L st M := fun H locs ls hP hS hl => lv_ldcw C.x1 C.x2 C.x4 (C.x5 _ (x_gd hw rfl)) hdg (k H locs ls hP hS hl)
theorem x_ldc2 (C : xOk w x cc own nl ret rm P) {index : Nat} {v1 : Int64} (hw : Cond.constantLong own index v1 ∈ lw_tbl) (hdg : decode cc pc = .ok (.ldc2_w index, 3)) (k : xW w x nl (pc + 3) L (.long v1 :: st) M) : xW w x nl (pc) L st M := fun H locs ls hP hS hl => lv_ldc2 C.x1 C.x2 C.x4 (C.x5 _ (x_gd hw rfl)) hdg (k H locs ls hP hS hl)
theorem x_iload_n (C : xOk w x cc own nl ret rm P) (j : Nat) {k1 : Fin 4} {i1 : Nat} {v1 : Int32} (hL : L[j]? = some (i1, .int v1)) (hi : (k1 : Nat) = i1) (hdg : decode cc pc = .ok (.iload_n k1, 1)) (k : xW w x nl (pc + 1) L (.int v1 :: st) M) : xW w x nl (pc) L st M := fun H locs ls hP hS hl => lv_iload_n C.x1 C.x2 hdg hi (lv_at hl j hL) (k H locs ls hP hS hl)
theorem x_iload (C : xOk w x cc own nl ret rm P) (j : Nat) {i1 : Nat} {v1 : Int32} (hL : L[j]? = some (i1, .int v1)) (hdg : decode cc pc = .ok (.iload i1, 2)) (k : xW w x nl (pc + 2) L (.int v1 :: st) M) : xW w x nl (pc) L st M := fun H locs ls hP hS hl => lv_iload C.x1 C.x2 hdg (lv_at hl j hL) (k H locs ls hP hS hl)
theorem x_aload_n (C : xOk w x cc own nl ret rm P) (j : Nat) {k1 : Fin 4} {i1 : Nat} {v1 : Nat} (hL : L[j]? = some (i1, .ref v1)) (hi : (k1 : Nat) = i1) (hdg : decode cc pc = .ok (.aload_n k1, 1)) (k : xW w x nl (pc + 1) L (.ref v1 :: st) M) : xW w x nl (pc) L st M := fun H locs ls hP hS hl => lv_aload_n C.x1 C.x2 hdg hi (lv_at hl j hL) (k H locs ls hP hS hl)
theorem x_aload (C : xOk w x cc own nl ret rm P) (j : Nat) {i1 : Nat} {v1 : Nat} (hL : L[j]? = some (i1, .ref v1)) (hdg : decode cc pc = .ok (.aload i1, 2)) (k : xW w x nl (pc + 2) L (.ref v1 :: st) M) : xW w x nl (pc) L st M := fun H locs ls hP hS hl => lv_aload C.x1 C.x2 hdg (lv_at hl j hL) (k H locs ls hP hS hl)
theorem x_lload_n (C : xOk w x cc own nl ret rm P) (j : Nat) {k1 : Fin 4} {i1 : Nat} {v1 : Int64} (hL : L[j]? = some (i1, .long v1)) (hi : (k1 : Nat) = i1) (hdg : decode cc pc = .ok (.lload_n k1, 1)) (k : xW w x nl (pc + 1) L (.long v1 :: st) M) : xW w x nl (pc) L st M := fun H locs ls hP hS hl => lv_lload_n C.x1 C.x2 hdg hi (lv_at hl j hL) (k H locs ls hP hS hl)
theorem x_lload (C : xOk w x cc own nl ret rm P) (j : Nat) {i1 : Nat} {v1 : Int64} (hL : L[j]? = some (i1, .long v1)) (hdg : decode cc pc = .ok (.lload i1, 2)) (k : xW w x nl (pc + 2) L (.long v1 :: st) M) : xW w x nl (pc) L st M := fun H locs ls hP hS hl => lv_lload C.x1 C.x2 hdg (lv_at hl j hL) (k H locs ls hP hS hl)
theorem x_istore_n (C : xOk w x cc own nl ret rm P) {k1 : Fin 4} {i1 : Nat} {v1 : Int32} (hL : (i1, Value.int v1) :: L.filter (fun q => !(q.1 == i1) && !(q.1 + 1 == i1 && q.2.category == 2)) = L') (hi : (k1 : Nat) = i1) (hn : i1 < nl) (hdg : decode cc pc = .ok (.istore_n k1, 1)) (k : xW w x nl (pc + 1) L' st M) : xW w x nl (pc) L (.int v1 :: st) M := fun H locs ls hP hS hl => lv_istore_n C.x1 C.x2 hdg hi hl hn hL (fun ls hl => (k H locs ls hP hS hl))
theorem x_istore (C : xOk w x cc own nl ret rm P) {i1 : Nat} {v1 : Int32} (hL : (i1, Value.int v1) :: L.filter (fun q => !(q.1 == i1) && !(q.1 + 1 == i1 && q.2.category == 2)) = L') (hn : i1 < nl) (hdg : decode cc pc = .ok (.istore i1, 2)) (k : xW w x nl (pc + 2) L' st M) : xW w x nl (pc) L (.int v1 :: st) M := fun H locs ls hP hS hl => lv_istore C.x1 C.x2 hdg hl hn hL (fun ls hl => (k H locs ls hP hS hl))
theorem x_astore_n (C : xOk w x cc own nl ret rm P) {k1 : Fin 4} {i1 : Nat} {v1 : Nat} (hL : (i1, Value.ref v1) :: L.filter (fun q => !(q.1 == i1) && !(q.1 + 1 == i1 && q.2.category == 2)) = L') (hi : (k1 : Nat) = i1) (hn : i1 < nl) (hdg : decode cc pc = .ok (.astore_n k1, 1)) (k : xW w x nl (pc + 1) L' st M) : xW w x nl (pc) L (.ref v1 :: st) M := fun H locs ls hP hS hl => lv_astore_n C.x1 C.x2 hdg hi hl hn hL (fun ls hl => (k H locs ls hP hS hl))
theorem x_astore (C : xOk w x cc own nl ret rm P) {i1 : Nat} {v1 : Nat} (hL : (i1, Value.ref v1) :: L.filter (fun q => !(q.1 == i1) && !(q.1 + 1 == i1 && q.2.category == 2)) = L') (hn : i1 < nl) (hdg : decode cc pc = .ok (.astore i1, 2)) (k : xW w x nl (pc + 2) L' st M) : xW w x nl (pc) L (.ref v1 :: st) M := fun H locs ls hP hS hl => lv_astore C.x1 C.x2 hdg hl hn hL (fun ls hl => (k H locs ls hP hS hl))
theorem x_lstore_n (C : xOk w x cc own nl ret rm P) {k1 : Fin 4} {i1 : Nat} {v1 : Int64} (hL : (i1, Value.long v1) :: L.filter (fun q => !(q.1 == i1) && (!(q.1 == i1 + 1) && !(q.1 + 1 == i1 && q.2.category == 2))) = L') (hi : (k1 : Nat) = i1) (hn : i1 + 1 < nl) (hdg : decode cc pc = .ok (.lstore_n k1, 1)) (k : xW w x nl (pc + 1) L' st M) : xW w x nl (pc) L (.long v1 :: st) M := fun H locs ls hP hS hl => lv_lstore_n C.x1 C.x2 hdg hi hl hn hL (fun ls hl => (k H locs ls hP hS hl))
theorem x_lstore (C : xOk w x cc own nl ret rm P) {i1 : Nat} {v1 : Int64} (hL : (i1, Value.long v1) :: L.filter (fun q => !(q.1 == i1) && (!(q.1 == i1 + 1) && !(q.1 + 1 == i1 && q.2.category == 2))) = L') (hn : i1 + 1 < nl) (hdg : decode cc pc = .ok (.lstore i1, 2)) (k : xW w x nl (pc + 2) L' st M) : xW w x nl (pc) L (.long v1 :: st) M := fun H locs ls hP hS hl => lv_lstore C.x1 C.x2 hdg hl hn hL (fun ls hl => (k H locs ls hP hS hl))
theorem x_iinc (C : xOk w x cc own nl ret rm P) (j : Nat) {i1 : Nat} {n1 : Int} {v0 v1 : Int32} (hk : L[j]? = some (i1, .int v0)) (hv : v0 + Int32.ofInt n1 = v1) (hL : (i1, Value.int v1) :: L.filter (fun q => !(q.1 == i1) && !(q.1 + 1 == i1 && q.2.category == 2)) = L') (hn : i1 < nl) (hdg : decode cc pc = .ok (.iinc i1 n1, 3)) (k : xW w x nl (pc + 3) L' st M) : xW w x nl (pc) L st M := fun H locs ls hP hS hl => lv_iinc C.x1 C.x2 hdg hl (k := j) hk hv hn hL (fun ls hl => (k H locs ls hP hS hl))
theorem x_dup (C : xOk w x cc own nl ret rm P) {va : Value} (hc : va.category = 1) (hdg : decode cc pc = .ok (.dup, 1)) (k : xW w x nl (pc + 1) L (va :: va :: st) M) : xW w x nl (pc) L (va :: st) M := fun H locs ls hP hS hl => lv_dup C.x1 C.x2 hdg hc (k H locs ls hP hS hl)
theorem x_pop (C : xOk w x cc own nl ret rm P) {va : Value} (hc : va.category = 1) (hdg : decode cc pc = .ok (.pop, 1)) (k : xW w x nl (pc + 1) L st M) : xW w x nl (pc) L (va :: st) M := fun H locs ls hP hS hl => lv_pop C.x1 C.x2 hdg hc (k H locs ls hP hS hl)
theorem x_goto (C : xOk w x cc own nl ret rm P) {off : Int} {tgt : Nat} (hdg : decode cc pc = .ok (.goto off, 3)) (ht : (pc : Int) + off = (tgt : Int)) (k : xW w x nl tgt L st M) : xW w x nl pc L st M := fun H locs ls hP hS hl => lv_goto C.x1 C.x2 hdg ht (k H locs ls hP hS hl)
theorem x_icmp_eq (C : xOk w x cc own nl ret rm P) {x1 y1 : Int32} {off : Int} {tgt : Nat} (hdg : decode cc pc = .ok (.if_icmp .eq off, 3)) (ht : (pc : Int) + off = (tgt : Int)) (k1 : x1 = y1 → xW w x nl tgt L st M) (k2 : ¬ x1 = y1 → xW w x nl (pc + 3) L st M) : xW w x nl pc L (.int y1 :: .int x1 :: st) M := fun H locs ls hP hS hl => lv_icmp_eq C.x1 C.x2 hdg ht (fun h => k1 h H locs ls hP hS hl) (fun h => k2 h H locs ls hP hS hl)
theorem x_if_eq (C : xOk w x cc own nl ret rm P) {x1 : Int32} {off : Int} {tgt : Nat} (hdg : decode cc pc = .ok (.ifCond .eq off, 3)) (ht : (pc : Int) + off = (tgt : Int)) (k1 : x1 = 0 → xW w x nl tgt L st M) (k2 : ¬ x1 = 0 → xW w x nl (pc + 3) L st M) : xW w x nl pc L (.int x1 :: st) M := fun H locs ls hP hS hl => lv_if_eq C.x1 C.x2 hdg ht (fun h => k1 h H locs ls hP hS hl) (fun h => k2 h H locs ls hP hS hl)
theorem x_icmp_ne (C : xOk w x cc own nl ret rm P) {x1 y1 : Int32} {off : Int} {tgt : Nat} (hdg : decode cc pc = .ok (.if_icmp .ne off, 3)) (ht : (pc : Int) + off = (tgt : Int)) (k1 : ¬ x1 = y1 → xW w x nl tgt L st M) (k2 : x1 = y1 → xW w x nl (pc + 3) L st M) : xW w x nl pc L (.int y1 :: .int x1 :: st) M := fun H locs ls hP hS hl => lv_icmp_ne C.x1 C.x2 hdg ht (fun h => k1 h H locs ls hP hS hl) (fun h => k2 h H locs ls hP hS hl)
theorem x_if_ne (C : xOk w x cc own nl ret rm P) {x1 : Int32} {off : Int} {tgt : Nat} (hdg : decode cc pc = .ok (.ifCond .ne off, 3)) (ht : (pc : Int) + off = (tgt : Int)) (k1 : ¬ x1 = 0 → xW w x nl tgt L st M) (k2 : x1 = 0 → xW w x nl (pc + 3) L st M) : xW w x nl pc L (.int x1 :: st) M := fun H locs ls hP hS hl => lv_if_ne C.x1 C.x2 hdg ht (fun h => k1 h H locs ls hP hS hl) (fun h => k2 h H locs ls hP hS hl)
theorem x_icmp_lt (C : xOk w x cc own nl ret rm P) {x1 y1 : Int32} {off : Int} {tgt : Nat} (hdg : decode cc pc = .ok (.if_icmp .lt off, 3)) (ht : (pc : Int) + off = (tgt : Int)) (k1 : x1 < y1 → xW w x nl tgt L st M) (k2 : ¬ x1 < y1 → xW w x nl (pc + 3) L st M) : xW w x nl pc L (.int y1 :: .int x1 :: st) M := fun H locs ls hP hS hl => lv_icmp_lt C.x1 C.x2 hdg ht (fun h => k1 h H locs ls hP hS hl) (fun h => k2 h H locs ls hP hS hl)
theorem x_if_lt (C : xOk w x cc own nl ret rm P) {x1 : Int32} {off : Int} {tgt : Nat} (hdg : decode cc pc = .ok (.ifCond .lt off, 3)) (ht : (pc : Int) + off = (tgt : Int)) (k1 : x1 < 0 → xW w x nl tgt L st M) (k2 : ¬ x1 < 0 → xW w x nl (pc + 3) L st M) : xW w x nl pc L (.int x1 :: st) M := fun H locs ls hP hS hl => lv_if_lt C.x1 C.x2 hdg ht (fun h => k1 h H locs ls hP hS hl) (fun h => k2 h H locs ls hP hS hl)
theorem x_icmp_ge (C : xOk w x cc own nl ret rm P) {x1 y1 : Int32} {off : Int} {tgt : Nat} (hdg : decode cc pc = .ok (.if_icmp .ge off, 3)) (ht : (pc : Int) + off = (tgt : Int)) (k1 : y1 ≤ x1 → xW w x nl tgt L st M) (k2 : ¬ y1 ≤ x1 → xW w x nl (pc + 3) L st M) : xW w x nl pc L (.int y1 :: .int x1 :: st) M := fun H locs ls hP hS hl => lv_icmp_ge C.x1 C.x2 hdg ht (fun h => k1 h H locs ls hP hS hl) (fun h => k2 h H locs ls hP hS hl)
theorem x_if_ge (C : xOk w x cc own nl ret rm P) {x1 : Int32} {off : Int} {tgt : Nat} (hdg : decode cc pc = .ok (.ifCond .ge off, 3)) (ht : (pc : Int) + off = (tgt : Int)) (k1 : 0 ≤ x1 → xW w x nl tgt L st M) (k2 : ¬ 0 ≤ x1 → xW w x nl (pc + 3) L st M) : xW w x nl pc L (.int x1 :: st) M := fun H locs ls hP hS hl => lv_if_ge C.x1 C.x2 hdg ht (fun h => k1 h H locs ls hP hS hl) (fun h => k2 h H locs ls hP hS hl)
theorem x_icmp_gt (C : xOk w x cc own nl ret rm P) {x1 y1 : Int32} {off : Int} {tgt : Nat} (hdg : decode cc pc = .ok (.if_icmp .gt off, 3)) (ht : (pc : Int) + off = (tgt : Int)) (k1 : y1 < x1 → xW w x nl tgt L st M) (k2 : ¬ y1 < x1 → xW w x nl (pc + 3) L st M) : xW w x nl pc L (.int y1 :: .int x1 :: st) M := fun H locs ls hP hS hl => lv_icmp_gt C.x1 C.x2 hdg ht (fun h => k1 h H locs ls hP hS hl) (fun h => k2 h H locs ls hP hS hl)
theorem x_if_gt (C : xOk w x cc own nl ret rm P) {x1 : Int32} {off : Int} {tgt : Nat} (hdg : decode cc pc = .ok (.ifCond .gt off, 3)) (ht : (pc : Int) + off = (tgt : Int)) (k1 : 0 < x1 → xW w x nl tgt L st M) (k2 : ¬ 0 < x1 → xW w x nl (pc + 3) L st M) : xW w x nl pc L (.int x1 :: st) M := fun H locs ls hP hS hl => lv_if_gt C.x1 C.x2 hdg ht (fun h => k1 h H locs ls hP hS hl) (fun h => k2 h H locs ls hP hS hl)
theorem x_icmp_le (C : xOk w x cc own nl ret rm P) {x1 y1 : Int32} {off : Int} {tgt : Nat} (hdg : decode cc pc = .ok (.if_icmp .le off, 3)) (ht : (pc : Int) + off = (tgt : Int)) (k1 : x1 ≤ y1 → xW w x nl tgt L st M) (k2 : ¬ x1 ≤ y1 → xW w x nl (pc + 3) L st M) : xW w x nl pc L (.int y1 :: .int x1 :: st) M := fun H locs ls hP hS hl => lv_icmp_le C.x1 C.x2 hdg ht (fun h => k1 h H locs ls hP hS hl) (fun h => k2 h H locs ls hP hS hl)
theorem x_if_le (C : xOk w x cc own nl ret rm P) {x1 : Int32} {off : Int} {tgt : Nat} (hdg : decode cc pc = .ok (.ifCond .le off, 3)) (ht : (pc : Int) + off = (tgt : Int)) (k1 : x1 ≤ 0 → xW w x nl tgt L st M) (k2 : ¬ x1 ≤ 0 → xW w x nl (pc + 3) L st M) : xW w x nl pc L (.int x1 :: st) M := fun H locs ls hP hS hl => lv_if_le C.x1 C.x2 hdg ht (fun h => k1 h H locs ls hP hS hl) (fun h => k2 h H locs ls hP hS hl)
theorem x_iret (C : xOk w x cc own nl (some .int) rm P) {v1 : Int32} (hdg : decode cc pc = .ok (.ireturn, 1)) (hp : P (some (.int v1)) M) : xW w x nl pc L [.int v1] M := fun H locs ls hP hS hl => by
  rw [C.x10]
  exact W.iret C.x1 C.x2 C.x8 (fun t ht hW => ⟨⟨_, M, rfl, hp, by rw [ht]; exact hP⟩, hS.F ht⟩) hS.2.2 hdg C.x9
theorem x_zret (C : xOk w x cc own nl (some .boolean) rm P) {v1 : Int32} (hn : narrow .boolean (.int v1) = .int v1) (hdg : decode cc pc = .ok (.ireturn, 1)) (hp : P (some (.int v1)) M) : xW w x nl pc L [.int v1] M := fun H locs ls hP hS hl => by
  rw [C.x10]
  exact W.zret C.x1 C.x2 C.x8 hn (fun t ht hW => ⟨⟨_, M, rfl, hp, by rw [ht]; exact hP⟩, hS.F ht⟩) hS.2.2 hdg C.x9
theorem x_vret (C : xOk w x cc own nl none rm P) (hdg : decode cc pc = .ok (.return_, 1)) (hp : P none M) : xW w x nl pc L [] M := fun H locs ls hP hS hl => by
  rw [C.x10]
  exact W.vret C.x1 C.x2 C.x8 (fun t ht hW => ⟨⟨_, M, rfl, hp, by rw [ht]; exact hP⟩, hS.F ht⟩) hS.2.2 hdg C.x9
theorem x_aret {rt : String} (C : xOk w x cc own nl (some (.object rt)) rm P) {v1 : Value} (hv : v1 = .null ∨ ∃ a, v1 = .ref a) (hdg : decode cc pc = .ok (.areturn, 1)) (hp : P (some v1) M) : xW w x nl pc L [v1] M := fun H locs ls hP hS hl => by
  rw [C.x10]
  exact W.aret C.x1 C.x2 C.x8 (Or.inl ⟨_, rfl⟩) hv (fun t ht hW => ⟨⟨_, M, rfl, hp, by rw [ht]; exact hP⟩, hS.F ht⟩) hS.2.2 hdg C.x9
theorem x_get (C : xOk w x cc own nl ret rm P) {c ci k1 index Nf : Nat} {K : String} {T : u_T} {fs : (Nat → Int32) → List Value} {v1 : Value} (he : ∀ r r2, wE w c r r2 = .inr (ci, fs r)) (hc : c < wN w) (hcl : (wC w)[ci]? = some (K, T, Nf)) (hin : ∀ t ∈ u_ws K T Nf, t ∈ lw_tbl) (hk : k1 < Nf) (hlk : Cond.fieldLink own index (T k1).1 (T k1).2.1 (T k1).2.2.1 ∈ lw_tbl) (hv : (fs (M.1 c))[k1]? = some v1) (hdg : decode cc pc = .ok (.getfield index, 3)) (k : xW w x nl (pc + 3) L (v1 :: st) M) : xW w x nl pc L (.ref (wA w c) :: st) M := fun H locs ls hP hS hl => va_get (D := wD w) (ci := ci) (C := K) (T := T) (N := Nf) C.x1 C.x2 C.x5 (x_gdw hin) C.x4 C.x6 hP c ((x_get0 M hc).trans (by rw [he])) hcl k1 hk (C.x5 _ (x_gd hlk rfl)) (fun _ h9 => h9) hv hdg (k H locs ls hP hS hl)
theorem x_getN (C : xOk w x cc own nl ret rm P) {host : String} {c ci k1 index Nf : Nat} {K : String} {T : u_T} {fs : (Nat → Int32) → List Value} {v1 : Value} (he : ∀ r r2, wE w c r r2 = .inr (ci, fs r)) (hc : c < wN w) (hcl : (wC w)[ci]? = some (K, T, Nf)) (hin : ∀ t ∈ u_ws K T Nf, t ∈ lw_tbl) (hk : k1 < Nf) (hlk : Cond.fieldLinkNest own index (T k1).1 (T k1).2.1 (T k1).2.2.1 host ∈ lw_tbl) (hv : (fs (M.1 c))[k1]? = some v1) (hdg : decode cc pc = .ok (.getfield index, 3)) (k : xW w x nl (pc + 3) L (v1 :: st) M) : xW w x nl pc L (.ref (wA w c) :: st) M := fun H locs ls hP hS hl => va_getN (D := wD w) (ci := ci) (C := K) (T := T) (N := Nf) C.x1 C.x2 C.x5 (x_gdw hin) C.x4 C.x6 hP c ((x_get0 M hc).trans (by rw [he])) hcl k1 hk (va_Nw.use rfl (C.x14 _ (x_ns hlk rfl))) (fun _ h9 => h9) hv hdg (k H locs ls hP hS hl)
theorem x_put (C : xOk w x cc own nl ret rm P) {u1 : Int32} {ty : FieldType} {c ci k1 index Nf : Nat} {K : String} {T : u_T} {fs : (Nat → Int32) → List Value} {v1 : Value} (he : ∀ r r2, wE w c r r2 = .inr (ci, fs r)) (hc : c < wN w) (hcl : (wC w)[ci]? = some (K, T, Nf)) (hin : ∀ t ∈ u_ws K T Nf, t ∈ lw_tbl) (hk : k1 < Nf) (hset : ∀ r, (fs r).set k1 v1 = fs (upd r k1 u1)) (ty0 : Nat → FieldType) (hty : ∀ k, k < Nf → parseFieldDescriptor (T k).2.2.1 = some (ty0 k)) (hnm : ∀ a, a < Nf → ∀ b, b < Nf → a ≠ b → (T a).2.1 ≠ (T b).2.1) (hlk : Cond.fieldLink own index (T k1).1 (T k1).2.1 (T k1).2.2.1 ∈ lw_tbl) (hfin : (T k1).2.2.2 = false) (hd : ty0 k1 = ty) (hn : narrow ty v1 = v1) (hfit : fits ty v1 = true) (hlen : k1 < (fs (M.1 c)).length) (hdg : decode cc pc = .ok (.putfield index, 3)) (k : xW w x nl (pc + 3) L st (si M c k1 u1)) : xW w x nl pc L (v1 :: .ref (wA w c) :: st) M := fun H locs ls hP hS hl => va_put (D := wD w) (ci := ci) (C := K) (T := T) (N := Nf) (fs := fs (M.1 c)) (v := v1) (ty := ty) (ws := x_wf w M) (a := wA w c) C.x1 C.x2 C.x5 (x_gdw hin) ty0 hty hnm C.x4 C.x6 hP (x_D M C.x7) hS c ((x_get0 M hc).trans (by rw [he])) hcl k1 hk (C.x5 _ (x_gd hlk rfl)) (fun _ h9 => h9) hfin (by rw [hty k1 hk, hd]) hn hfit hlen hdg (fun H locs hP _ hS => k H locs ls (x_setf he hset ▸ hP) hS hl)
theorem x_putN (C : xOk w x cc own nl ret rm P) {host : String} {u1 : Int32} {ty : FieldType} {c ci k1 index Nf : Nat} {K : String} {T : u_T} {fs : (Nat → Int32) → List Value} {v1 : Value} (he : ∀ r r2, wE w c r r2 = .inr (ci, fs r)) (hc : c < wN w) (hcl : (wC w)[ci]? = some (K, T, Nf)) (hin : ∀ t ∈ u_ws K T Nf, t ∈ lw_tbl) (hk : k1 < Nf) (hset : ∀ r, (fs r).set k1 v1 = fs (upd r k1 u1)) (ty0 : Nat → FieldType) (hty : ∀ k, k < Nf → parseFieldDescriptor (T k).2.2.1 = some (ty0 k)) (hnm : ∀ a, a < Nf → ∀ b, b < Nf → a ≠ b → (T a).2.1 ≠ (T b).2.1) (hlk : Cond.fieldLinkNest own index (T k1).1 (T k1).2.1 (T k1).2.2.1 host ∈ lw_tbl) (hfin : (T k1).2.2.2 = false) (hd : ty0 k1 = ty) (hn : narrow ty v1 = v1) (hfit : fits ty v1 = true) (hlen : k1 < (fs (M.1 c)).length) (hdg : decode cc pc = .ok (.putfield index, 3)) (k : xW w x nl (pc + 3) L st (si M c k1 u1)) : xW w x nl pc L (v1 :: .ref (wA w c) :: st) M := fun H locs ls hP hS hl => va_putN (D := wD w) (ci := ci) (C := K) (T := T) (N := Nf) (fs := fs (M.1 c)) (v := v1) (ty := ty) (ws := x_wf w M) (a := wA w c) C.x1 C.x2 C.x5 (x_gdw hin) ty0 hty hnm C.x4 C.x6 hP (x_D M C.x7) hS c ((x_get0 M hc).trans (by rw [he])) hcl k1 hk (va_Nw.use rfl (C.x14 _ (x_ns hlk rfl))) (fun _ h9 => h9) hfin (by rw [hty k1 hk, hd]) hn hfit hlen hdg (fun H locs hP _ hS => k H locs ls (x_setf he hset ▸ hP) hS hl)
theorem x_iald (C : xOk w x cc own nl ret rm P) {c n : Nat} (t0 : Nat) {cA : ClassId} {i1 : Int32} (he : ∀ r r2, wE w c r r2 = .inl (cA, n, .inl r)) (hc : c < wN w) (ht : (wT w)[t0]? = some (cA, .int)) (hin : vp_in i1 n) (hdg : decode cc pc = .ok (.iaload, 1)) (k : xW w x nl (pc + 1) L (.int (gi M c i1.toNatClampNeg) :: st) M) : xW w x nl pc L (.int i1 :: .ref (wA w c) :: st) M := fun H locs ls hP hS hl => va_iald (f := M.1 c) C.x1 C.x2 C.x6 hP c t0 ((x_get0 M hc).trans (by rw [he])) ht hin hdg (k H locs ls hP hS hl)
theorem x_bald (C : xOk w x cc own nl ret rm P) {c n : Nat} (t0 : Nat) {cA : ClassId} {i1 : Int32} (he : ∀ r r2, wE w c r r2 = .inl (cA, n, .inl r)) (hc : c < wN w) (ht : (wT w)[t0]? = some (cA, .byte)) (hin : vp_in i1 n) (hdg : decode cc pc = .ok (.baload, 1)) (k : xW w x nl (pc + 1) L (.int (gi M c i1.toNatClampNeg) :: st) M) : xW w x nl pc L (.int i1 :: .ref (wA w c) :: st) M := fun H locs ls hP hS hl => va_bald (f := M.1 c) C.x1 C.x2 C.x6 hP c t0 ((x_get0 M hc).trans (by rw [he])) ht hin hdg (k H locs ls hP hS hl)
theorem x_zald (C : xOk w x cc own nl ret rm P) {c n : Nat} (t0 : Nat) {cA : ClassId} {i1 : Int32} (he : ∀ r r2, wE w c r r2 = .inl (cA, n, .inl r)) (hc : c < wN w) (ht : (wT w)[t0]? = some (cA, .boolean)) (hin : vp_in i1 n) (hdg : decode cc pc = .ok (.baload, 1)) (k : xW w x nl (pc + 1) L (.int (gi M c i1.toNatClampNeg) :: st) M) : xW w x nl pc L (.int i1 :: .ref (wA w c) :: st) M := fun H locs ls hP hS hl => va_zald (f := M.1 c) C.x1 C.x2 C.x6 hP c t0 ((x_get0 M hc).trans (by rw [he])) ht hin hdg (k H locs ls hP hS hl)
theorem x_lald (C : xOk w x cc own nl ret rm P) {c n : Nat} (t0 : Nat) {cA : ClassId} {i1 : Int32} (he : ∀ r r2, wE w c r r2 = .inl (cA, n, .inr (.inl r2))) (hc : c < wN w) (ht : (wT w)[t0]? = some (cA, .long)) (hin : vp_in i1 n) (hdg : decode cc pc = .ok (.laload, 1)) (k : xW w x nl (pc + 1) L (.long (gl M c i1.toNatClampNeg) :: st) M) : xW w x nl pc L (.int i1 :: .ref (wA w c) :: st) M := fun H locs ls hP hS hl => va_lald (f := M.2 c) C.x1 C.x2 C.x6 hP c t0 ((x_get0 M hc).trans (by rw [he])) ht hin hdg (k H locs ls hP hS hl)
theorem x_iast (C : xOk w x cc own nl ret rm P) {v1 : Int32} {c n : Nat} (t0 : Nat) {cA : ClassId} {i1 : Int32} (he : ∀ r r2, wE w c r r2 = .inl (cA, n, .inl r)) (hc : c < wN w) (ht : (wT w)[t0]? = some (cA, .int)) (hin : vp_in i1 n) (hdg : decode cc pc = .ok (.iastore, 1)) (k : xW w x nl (pc + 1) L st (si M c i1.toNatClampNeg v1)) : xW w x nl pc L (.int v1 :: .int i1 :: .ref (wA w c) :: st) M := fun H locs ls hP hS hl => va_iast C.x1 C.x2 C.x6 hP (x_D M C.x7) hS c t0 ((x_get0 M hc).trans (by rw [he])) ht hin hdg (fun H locs hP _ hS => k H locs ls (by rw [x_set0 (M' := si M c i1.toNatClampNeg v1) (by rw [si_at, he]) (si_ne M c _ _)] at hP; exact hP) hS hl)
theorem x_bast (C : xOk w x cc own nl ret rm P) {v1 : Int32} {c n : Nat} (t0 : Nat) {cA : ClassId} {i1 : Int32} (he : ∀ r r2, wE w c r r2 = .inl (cA, n, .inl r)) (hc : c < wN w) (ht : (wT w)[t0]? = some (cA, .byte)) (hin : vp_in i1 n) (hdg : decode cc pc = .ok (.bastore, 1)) (k : xW w x nl (pc + 1) L st (si M c i1.toNatClampNeg (vp_nar .byte v1))) : xW w x nl pc L (.int v1 :: .int i1 :: .ref (wA w c) :: st) M := fun H locs ls hP hS hl => va_bast C.x1 C.x2 C.x6 hP (x_D M C.x7) hS c t0 ((x_get0 M hc).trans (by rw [he])) ht hin hdg (fun H locs hP _ hS => k H locs ls (by rw [x_set0 (M' := si M c i1.toNatClampNeg (vp_nar .byte v1)) (by rw [si_at, he]) (si_ne M c _ _)] at hP; exact hP) hS hl)
theorem x_zast (C : xOk w x cc own nl ret rm P) {v1 : Int32} {c n : Nat} (t0 : Nat) {cA : ClassId} {i1 : Int32} (he : ∀ r r2, wE w c r r2 = .inl (cA, n, .inl r)) (hc : c < wN w) (ht : (wT w)[t0]? = some (cA, .boolean)) (hin : vp_in i1 n) (hdg : decode cc pc = .ok (.bastore, 1)) (k : xW w x nl (pc + 1) L st (si M c i1.toNatClampNeg (vp_nar .boolean v1))) : xW w x nl pc L (.int v1 :: .int i1 :: .ref (wA w c) :: st) M := fun H locs ls hP hS hl => va_zast C.x1 C.x2 C.x6 hP (x_D M C.x7) hS c t0 ((x_get0 M hc).trans (by rw [he])) ht hin hdg (fun H locs hP _ hS => k H locs ls (by rw [x_set0 (M' := si M c i1.toNatClampNeg (vp_nar .boolean v1)) (by rw [si_at, he]) (si_ne M c _ _)] at hP; exact hP) hS hl)
theorem x_last (C : xOk w x cc own nl ret rm P) {v1 : Int64} {c n : Nat} (t0 : Nat) {cA : ClassId} {i1 : Int32} (he : ∀ r r2, wE w c r r2 = .inl (cA, n, .inr (.inl r2))) (hc : c < wN w) (ht : (wT w)[t0]? = some (cA, .long)) (hin : vp_in i1 n) (hdg : decode cc pc = .ok (.lastore, 1)) (k : xW w x nl (pc + 1) L st (sl M c i1.toNatClampNeg v1)) : xW w x nl pc L (.long v1 :: .int i1 :: .ref (wA w c) :: st) M := fun H locs ls hP hS hl => va_last C.x1 C.x2 C.x6 hP (x_D M C.x7) hS c t0 ((x_get0 M hc).trans (by rw [he])) ht hin hdg (fun H locs hP _ hS => k H locs ls (by rw [x_set0 (M' := sl M c i1.toNatClampNeg v1) (by rw [sl_at, he]) (sl_ne M c _ _)] at hP; exact hP) hS hl)
theorem x_alen (C : xOk w x cc own nl ret rm P) {c t0 n : Nat} {cA : ClassId} {ty : FieldType} {v1 : Int32} {f : (Nat → Int32) → (Nat → Int64) → (Nat → Int32) ⊕ (Nat → Int64) ⊕ (Nat → UInt32) ⊕ (Nat → UInt64) ⊕ (Nat → Option Nat)} (he : ∀ r r2, wE w c r r2 = .inl (cA, n, f r r2)) (hc : c < wN w) (ht : (wT w)[t0]? = some (cA, ty)) (hv : Int32.ofNat n = v1) (hdg : decode cc pc = .ok (.arraylength, 1)) (k : xW w x nl (pc + 1) L (.int v1 :: st) M) : xW w x nl pc L (.ref (wA w c) :: st) M := fun H locs ls hP hS hl => va_alen C.x1 C.x2 C.x6 hP c t0 ((x_get0 M hc).trans (by rw [he])) ht hv hdg (k H locs ls hP hS hl)
theorem x_aald (C : xOk w x cc own nl ret rm P) {i1 : Int32} {c n : Nat} (t0 : Nat) {cA : ClassId} {KC : String} {f : Nat → Option Nat} (he : ∀ r r2, wE w c r r2 = .inl (cA, n, .inr (.inr (.inr (.inr f))))) (hc : c < wN w) (ht : (wT w)[t0]? = some (cA, .object KC)) (hin : vp_in i1 n) (hdg : decode cc pc = .ok (.aaload, 1)) (k : xW w x nl (pc + 1) L (va_rf (f i1.toNatClampNeg) :: st) M) : xW w x nl pc L (.int i1 :: .ref (wA w c) :: st) M := fun H locs ls hP hS hl => va_aldq C.x1 C.x2 C.x6 hP c t0 ((x_get0 M hc).trans (by rw [he])) ht hin hdg (k H locs ls hP hS hl)
theorem x_ifnull_r (C : xOk w x cc own nl ret rm P) {a1 : Nat} {off : Int} (hdg : decode cc pc = .ok (.ifnull off, 3)) (k : xW w x nl (pc + 3) L st M) : xW w x nl pc L (.ref a1 :: st) M := fun H locs ls hP hS hl => lv_ifnull C.x1 C.x2 hdg (k H locs ls hP hS hl)
theorem x_ifnonnull_r (C : xOk w x cc own nl ret rm P) {a1 : Nat} {off : Int} {tgt : Nat} (hdg : decode cc pc = .ok (.ifnonnull off, 3)) (ht : (pc : Int) + off = (tgt : Int)) (k : xW w x nl tgt L st M) : xW w x nl pc L (.ref a1 :: st) M := fun H locs ls hP hS hl => lv_ifnonnull C.x1 C.x2 hdg ht (k H locs ls hP hS hl)
theorem x_run {pc0 : Nat} {st0 rest : List Value} {a : Array Value} {P' : Option Value → xMem → Prop} {H : Heap} {locs : List Loc} {ls : Array Slot} (hr : va_Run (kp x) (kl x) (ke x) (kR x) (ks x) (km x) (ka x) (kb x) (kt x) (kc x) H locs 0 0 0 0 (F0 (km x) pc0 ls st0) rest (xQ w P' a) (x_A w)) (hS : va_S (x_A w) (ks x).heap H locs) (hl : lv_has ls nl L) (kk : ∀ (v : Option Value) (M' : xMem), P' v M' → xW w x nl (pc0 + 3) L (v.toList ++ rest) M') : W (kp x) (kl x) (ke x) (kR x) (ks x) (km x) (ka x) (kb x) (kt x) (kc x) H locs 0 0 (kQ x) (F0 (km x) pc0 ls st0) := by
  intro T hT X
  obtain ⟨v, st₀, t, T', L', h0, X', hL, e1, e2, ⟨⟨v', M', hv, hp, hP'⟩, hz, hk⟩, st⟩ := hr T hT X
  cases hv
  rw [h0] at hz hk
  have hS' : va_S (x_A w) (ks x).heap T'.heap (locs ++ L') := ⟨Nat.le_trans hS.1 (by rw [e1]; exact hz), fun q h1 h2 => by rw [e1, hk q (Nat.lt_of_lt_of_le h1 hS.1) h2]; exact hS.2.1 q h1 h2, fun q hq => by
    rcases List.mem_append.mp hq with h | h
    · exact hS.2.2 q h
    · exact hL q h⟩
  obtain ⟨t2, a1, b1⟩ := kk _ M' hp T'.heap (locs ++ L') ls (by rw [e1]; exact hP') hS' hl T' rfl X'
  exact ⟨t2, st t2 a1, b1⟩
theorem x_blind {As : List Value} (h : x_st w) : FrameBlind (xPc w As M) := fun a U g mk q => by
  obtain ⟨q1, qP, qK, qX, qN⟩ := q
  exact ⟨q1, qP, va_K.moved (u := U) (U := U.calling g mk a) (Vm.Alike.refl U.vm) qK, h.2 U (U.calling g mk a) _ rfl qX, x_Ns.same (u := U) (U := U.calling g mk a) rfl qN⟩
theorem x_pre (C : xOk w x cc own nl ret rm P) {As : List Value} {H : Heap} {locs : List Loc} (hP : va_P (wD w) (wC w) (x_wf w M) H) (hS : va_S (x_A w) (ks x).heap H locs) : ∀ U : State, U.heap = H → (ks x).WarmedH U.vm → xPc w As M As.toArray U := fun U hU hW => ⟨rfl, by rw [hU]; exact hP, va_K.moved hW.alike C.x6, C.x13.1 (ks x) U U.heap C.x12 hW (fun q h1 h2 => by rw [hU]; exact hS.2.1 q h1 h2), x_Ns.warm hW C.x14⟩
theorem x_callV (C : xOk w x cc own nl ret rm P) {y : MethodName} {bytes : ByteArray} {maxL n index : Nat} {rt : Option FieldType} {rm' : Room} {As : List Value} {P' : Option Value → xMem → Prop} {st0 : List Value} {c ci Nf : Nat} {K : String} {T : u_T} {fs : (Nat → Int32) → List Value} (he : ∀ r r2, wE w c r r2 = .inr (ci, fs r)) (hc : c < wN w) (hcl : (wC w)[ci]? = some (K, T, Nf)) (hM : xMet w (kl x) y bytes maxL rt rm' (.ref (wA w c) :: As) M P') (h1 : Cond.methodLink own index y ∈ lw_tbl) (h2 : Cond.instanceMethod y ∈ lw_tbl) (h3 : Cond.selects K y y ∈ lw_tbl) (h4 : Cond.initialized K ∈ lw_tbl) (h5 : Cond.code y bytes maxL rt ∈ lw_tbl) (hyK : y.cls = K) (hd : y.cls ≠ "java/lang/invoke/MethodHandle" ∧ y.cls ≠ "java/lang/invoke/VarHandle" ∧ (parseMethodDescriptor y.desc).map (fun d => d.parameters.length) = some n) (hn : As.length = n) (hrm : rm'.cells = 0 ∧ rm'.slots = 0) (hR : rm'.frames + 1 ≤ rm.frames ∧ 8 + (maxL + 11) + rm'.locals ≤ rm.locals) (hrest : (st.map fun v => v.category).sum ≤ 8) (hst : st0 = As.reverse ++ .ref (wA w c) :: st) (hdg : decode cc pc = .ok (.invokevirtual index, 3)) (k : ∀ (v : Option Value) (M' : xMem), P' v M' → xW w x nl (pc + 3) L (v.toList ++ st) M') : xW w x nl pc L st0 M := fun H locs ls hP hS hl => by
  refine x_run (va_runV (n := n) (As := As) (rest := st) ⟨C.x1, C.x2, C.x3, C.x4, C.x5⟩ hM (cwV n C.x5 (x_good (fun t ht => ?_)) rfl hrm.1 hrm.2 ⟨hyK, hd⟩ (by rw [C.x11]; exact hR)) ⟨x_blind C.x13, va_recv C.x6 hP hcl ((x_get0 M hc).trans (by rw [he])), x_pre C hP hS⟩ rfl hn hl.1 hst (lv_room hrest) hdg ⟨by omega, by omega⟩) hS hl k
  unfold wsV at ht
  simp only [List.cons_append, List.nil_append, List.mem_cons] at ht
  rcases ht with rfl | rfl | rfl | rfl | rfl | h
  · exact x_gd h1 rfl
  · exact x_gd h2 rfl
  · exact x_gd h3 rfl
  · exact x_gd h4 rfl
  · exact x_gd h5 rfl
  · exact h
theorem x_callS (C : xOk w x cc own nl ret rm P) {y : MethodName} {bytes : ByteArray} {maxL n index : Nat} {rt : Option FieldType} {rm' : Room} {As : List Value} {P' : Option Value → xMem → Prop} {st0 : List Value} (hM : xMet w (kl x) y bytes maxL rt rm' As M P') (h1 : Cond.methodLink own index y ∈ lw_tbl) (h2 : Cond.static y ∈ lw_tbl) (h4 : Cond.initialized y.cls ∈ lw_tbl) (h5 : Cond.code y bytes maxL rt ∈ lw_tbl) (hd : y.cls ≠ "java/lang/invoke/MethodHandle" ∧ y.cls ≠ "java/lang/invoke/VarHandle" ∧ (parseMethodDescriptor y.desc).map (fun d => d.parameters.length) = some n) (hn : As.length = n) (hrm : rm'.cells = 0 ∧ rm'.slots = 0) (hR : rm'.frames + 1 ≤ rm.frames ∧ 8 + (maxL + 11) + rm'.locals ≤ rm.locals) (hrest : (st.map fun v => v.category).sum ≤ 8) (hst : st0 = As.reverse ++ st) (hdg : decode cc pc = .ok (.invokestatic index, 3)) (k : ∀ (v : Option Value) (M' : xMem), P' v M' → xW w x nl (pc + 3) L (v.toList ++ st) M') : xW w x nl pc L st0 M := fun H locs ls hP hS hl => by
  refine x_run (va_runS (n := n) (As := As) (rest := st) ⟨C.x1, C.x2, C.x3, C.x4, C.x5⟩ hM (va_cwS n C.x5 (x_good (fun t ht => ?_)) rfl hrm.1 hrm.2 hd (by rw [C.x11]; exact hR)) ⟨x_blind C.x13, x_pre C hP hS⟩ rfl hn hl.1 hst (lv_room hrest) hdg ⟨by omega, by omega⟩) hS hl k
  unfold va_wsS at ht
  simp only [List.cons_append, List.nil_append, List.mem_cons] at ht
  rcases ht with rfl | rfl | rfl | rfl | h
  · exact x_gd h1 rfl
  · exact x_gd h2 rfl
  · exact x_gd h4 rfl
  · exact x_gd h5 rfl
  · exact h
theorem x_callVN (C : xOk w x cc own nl ret rm P) {host : String} {y : MethodName} {bytes : ByteArray} {maxL n index : Nat} {rt : Option FieldType} {rm' : Room} {As : List Value} {P' : Option Value → xMem → Prop} {st0 : List Value} {c ci Nf : Nat} {K : String} {T : u_T} {fs : (Nat → Int32) → List Value} (he : ∀ r r2, wE w c r r2 = .inr (ci, fs r)) (hc : c < wN w) (hcl : (wC w)[ci]? = some (K, T, Nf)) (hM : xMet w (kl x) y bytes maxL rt rm' (.ref (wA w c) :: As) M P') (h1 : Cond.methodLinkNest own index y host ∈ lw_tbl) (h2 : Cond.instanceMethod y ∈ lw_tbl) (h3 : Cond.selects K y y ∈ lw_tbl) (h4 : Cond.initialized y.cls ∈ lw_tbl) (h5 : Cond.code y bytes maxL rt ∈ lw_tbl) (hd : y.cls ≠ "java/lang/invoke/MethodHandle" ∧ y.cls ≠ "java/lang/invoke/VarHandle" ∧ (parseMethodDescriptor y.desc).map (fun d => d.parameters.length) = some n) (hn : As.length = n) (hrm : rm'.cells = 0 ∧ rm'.slots = 0) (hR : rm'.frames + 1 ≤ rm.frames ∧ 8 + (maxL + 11) + rm'.locals ≤ rm.locals) (hrest : (st.map fun v => v.category).sum ≤ 8) (hst : st0 = As.reverse ++ .ref (wA w c) :: st) (hdg : decode cc pc = .ok (.invokevirtual index, 3)) (k : ∀ (v : Option Value) (M' : xMem), P' v M' → xW w x nl (pc + 3) L (v.toList ++ st) M') : xW w x nl pc L st0 M := fun H locs ls hP hS hl => by
  refine x_run (va_runVN (n := n) (As := As) (rest := st) (host := host) ⟨C.x1, C.x2, C.x3, C.x4, C.x5⟩ hM ⟨va_cnB n C.x5 (x_good (fun t ht => ?_)) rfl hrm.1 hrm.2 (C.x14 _ (x_ns h1 rfl)) (C.x5 _ (x_gd h4 rfl)) hd (by rw [C.x11]; exact hR), C.x5 _ (x_gd h2 rfl), C.x5 _ (x_gd h3 rfl)⟩ ⟨x_blind C.x13, va_recv C.x6 hP hcl ((x_get0 M hc).trans (by rw [he])), x_pre C hP hS⟩ rfl hn hl.1 hst (lv_room hrest) hdg ⟨by omega, by omega⟩) hS hl k
  rcases List.mem_cons.mp ht with rfl | h
  · exact x_gd h5 rfl
  · exact h
theorem x_callSN (C : xOk w x cc own nl ret rm P) {host : String} {y : MethodName} {bytes : ByteArray} {maxL n index : Nat} {rt : Option FieldType} {rm' : Room} {As : List Value} {P' : Option Value → xMem → Prop} {st0 : List Value} (hM : xMet w (kl x) y bytes maxL rt rm' As M P') (h1 : Cond.methodLinkNest own index y host ∈ lw_tbl) (h2 : Cond.static y ∈ lw_tbl) (h4 : Cond.initialized y.cls ∈ lw_tbl) (h5 : Cond.code y bytes maxL rt ∈ lw_tbl) (hd : y.cls ≠ "java/lang/invoke/MethodHandle" ∧ y.cls ≠ "java/lang/invoke/VarHandle" ∧ (parseMethodDescriptor y.desc).map (fun d => d.parameters.length) = some n) (hn : As.length = n) (hrm : rm'.cells = 0 ∧ rm'.slots = 0) (hR : rm'.frames + 1 ≤ rm.frames ∧ 8 + (maxL + 11) + rm'.locals ≤ rm.locals) (hrest : (st.map fun v => v.category).sum ≤ 8) (hst : st0 = As.reverse ++ st) (hdg : decode cc pc = .ok (.invokestatic index, 3)) (k : ∀ (v : Option Value) (M' : xMem), P' v M' → xW w x nl (pc + 3) L (v.toList ++ st) M') : xW w x nl pc L st0 M := fun H locs ls hP hS hl => by
  refine x_run (va_runSN (n := n) (As := As) (rest := st) (host := host) ⟨C.x1, C.x2, C.x3, C.x4, C.x5⟩ hM ⟨va_cnB n C.x5 (x_good (fun t ht => ?_)) rfl hrm.1 hrm.2 (C.x14 _ (x_ns h1 rfl)) (C.x5 _ (x_gd h4 rfl)) hd (by rw [C.x11]; exact hR), C.x5 _ (x_gd h2 rfl), trivial⟩ ⟨x_blind C.x13, x_pre C hP hS⟩ rfl hn hl.1 hst (lv_room hrest) hdg ⟨by omega, by omega⟩) hS hl k
  rcases List.mem_cons.mp ht with rfl | h
  · exact x_gd h5 rfl
  · exact h
end XR
