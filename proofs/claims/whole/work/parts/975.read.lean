/-! story(): what is read, as plain steps; the class's reader -/
abbrev xP : Type := Nat × List Nat × List (Nat × Nat × Nat) × Bool × Int32
def tb (b : Nat) : Option Nat := if 97 ≤ b ∧ b ≤ 106 then some (b - 97) else if 65 ≤ b ∧ b ≤ 74 then some (b - 65 + 10) else if b = 42 then some 20 else if b = 46 then some 21 else none
def tbv (b : Nat) : Int32 := match tb b with | none => -1 | some c => nI c
set_option maxRecDepth 20000 in
theorem tb_lt : ∀ b < 256, ∀ c, tb b = some c → c < 22 := by
  intro b _ c h
  unfold tb at h
  split at h
  · have := Option.some.inj h; omega
  · split at h
    · have := Option.some.inj h; omega
    · split at h
      · have := Option.some.inj h; omega
      · split at h
        · have := Option.some.inj h; omega
        · cases h
set_option maxRecDepth 20000 in
theorem sx_tb : ∀ b < 256, sx 0 (((nI b).toUInt32 % 65536).toInt32) = tbv b := by decide +kernel
def rp (ts : List Nat) (st tm : Nat) : List Nat := (List.range (st + (ts.length - st) * tm)).map (fun i => if i < st then ts.getD i 0 else ts.getD (st + (i - st) % (ts.length - st)) 0)
def fw (a : Int32) (p : Nat) : Int32 := (-1000) * a - nI p
theorem fw_n : ∀ p < 300, (fw 1 p < 0 ∧ fw 5 p < 0) ∧ fw 6 p < 0 := by decide +kernel
def hr (B : Nat → Nat) (N p : Nat) : Nat := if p < N then B p else 0
abbrev isD (B : Nat → Nat) (N p : Nat) : Prop := p < N ∧ 50 ≤ B p ∧ B p ≤ 57
def tmo (B : Nat → Nat) (N p : Nat) : Nat := if isD B N p then B p - 48 else 1
def nxt (B : Nat → Nat) (N p : Nat) : Nat := if isD B N p then p + 1 else p
def opn (B : Nat → Nat) (N p : Nat) (ts : List Nat) (stk : List (Nat × Nat × Nat)) (tl : Bool) : xP :=
  if hr B N (nxt B N p) = 40 then (if stk.length = 2 then (p, ts, stk, tl, fw 5 (nxt B N p)) else (nxt B N p + 1, ts, (ts.length, tmo B N p, p) :: stk, false, 0))
  else match tb (hr B N (nxt B N p)) with
    | none => (p, ts, stk, tl, fw 1 (nxt B N p))
    | some c => if ts.length + tmo B N p ≤ 72 then (nxt B N p + 1, rp (ts ++ [c]) ts.length (tmo B N p), stk, true, 0) else (p, ts, stk, tl, fw 6 p)
def stp (B : Nat → Nat) (N : Nat) (s : xP) : xP :=
  if ¬ s.2.2.2.2 = 0 then s else
  match s.2.2.1 with
  | [] => if N ≤ s.1 then s else opn B N s.1 s.2.1 [] s.2.2.2.1
  | (st, tm, at0) :: r => if hr B N s.1 = 41 ∧ s.2.2.2.1 = true then (if st + (s.2.1.length - st) * tm ≤ 72 then (s.1 + 1, rp s.2.1 st tm, r, true, 0) else (s.1, s.2.1, (st, tm, at0) :: r, s.2.2.2.1, fw 6 at0)) else opn B N s.1 s.2.1 ((st, tm, at0) :: r) s.2.2.2.1
def itP (B : Nat → Nat) (N : Nat) (s : xP) : Nat → xP
  | 0 => s
  | n + 1 => itP B N (stp B N s) n
theorem itP_add (B : Nat → Nat) (N : Nat) : ∀ n m s, itP B N s (n + m) = itP B N (itP B N s n) m := by
  intro n
  induction n with
  | zero => intro m s; rw [Nat.zero_add]; rfl
  | succ n ih => intro m s; rw [Nat.succ_add]; exact ih m _
/-- what holds of a state that is good -/
def okQ (N p : Nat) (ts : List Nat) (stk : List (Nat × Nat × Nat)) : Prop := p ≤ N ∧ ts.length ≤ 72 ∧ (∀ i, i < ts.length → ts.getD i 0 < 22) ∧ stk.length ≤ 2 ∧ ∀ f, f ∈ stk → f.1 ≤ ts.length ∧ 1 ≤ f.2.1 ∧ f.2.1 ≤ 9 ∧ f.2.2 ≤ N
def okP (N : Nat) (s : xP) : Prop := okQ N s.1 s.2.1 s.2.2.1
theorem okP_m {N : Nat} {p : Nat} {ts : List Nat} {stk : List (Nat × Nat × Nat)} (tl : Bool) (f : Int32) (h : okQ N p ts stk) : okP N (p, ts, stk, tl, f) := h
theorem rp_len (ts : List Nat) (st tm : Nat) : (rp ts st tm).length = st + (ts.length - st) * tm := by unfold rp; rw [List.length_map, List.length_range]
theorem rp_at {ts : List Nat} {st tm i : Nat} (h : i < st + (ts.length - st) * tm) : (rp ts st tm).getD i 0 = if i < st then ts.getD i 0 else ts.getD (st + (i - st) % (ts.length - st)) 0 := by
  unfold rp
  rw [List.getD_eq_getElem?_getD, List.getElem?_map, List.getElem?_range h]
  rfl
theorem mul_ge {v tm : Nat} (h : 1 ≤ tm) : v ≤ v * tm := Nat.le_mul_of_pos_right v h
theorem rp_in {ts : List Nat} {st tm : Nat} (hst : st ≤ ts.length) (h : ∀ i, i < ts.length → ts.getD i 0 < 22) : ∀ i, i < (rp ts st tm).length → (rp ts st tm).getD i 0 < 22 := by
  intro i hi
  rw [rp_len] at hi
  rw [rp_at hi]
  by_cases q : i < st
  · rw [if_pos q]; exact h i (by omega)
  · rw [if_neg q]
    have hv : 0 < ts.length - st := by
      rcases Nat.eq_zero_or_pos (ts.length - st) with z | z
      · rw [z, Nat.zero_mul] at hi; omega
      · exact z
    have := Nat.mod_lt (i - st) hv
    exact h _ (by omega)
theorem rp_old {ts : List Nat} {st tm i : Nat} (hst : st ≤ ts.length) (h1 : 1 ≤ tm) (hi : i < ts.length) : (rp ts st tm).getD i 0 = ts.getD i 0 := by
  have := mul_ge (v := ts.length - st) h1
  rw [rp_at (by omega)]
  by_cases q : i < st
  · rw [if_pos q]
  · rw [if_neg q, Nat.mod_eq_of_lt (by omega), show st + (i - st) = i by omega]
theorem rp_back {ts : List Nat} {st tm i : Nat} (hst : st ≤ ts.length) (h1 : ts.length ≤ i) (hi : i < st + (ts.length - st) * tm) : (rp ts st tm).getD (i - (ts.length - st)) 0 = (rp ts st tm).getD i 0 ∧ 0 < ts.length - st := by
  have hv : 0 < ts.length - st := by
    rcases Nat.eq_zero_or_pos (ts.length - st) with z | z
    · rw [z, Nat.zero_mul] at hi; omega
    · exact z
  refine ⟨?_, hv⟩
  rw [rp_at hi, rp_at (by omega), if_neg (by omega), if_neg (by omega)]
  have e : i - st = (i - (ts.length - st) - st) + (ts.length - st) := by omega
  rw [e, Nat.add_mod_right]
theorem tmo_b (B : Nat → Nat) (N p : Nat) : 1 ≤ tmo B N p ∧ tmo B N p ≤ 9 := by
  unfold tmo
  split
  · rename_i h; unfold isD at h; omega
  · omega
theorem nxt_b {B : Nat → Nat} {N p : Nat} (h : p ≤ N) : p ≤ nxt B N p ∧ nxt B N p ≤ N := by
  unfold nxt
  split
  · rename_i h; unfold isD at h; omega
  · omega
theorem hr_in {B : Nat → Nat} {N p : Nat} (h : hr B N p ≠ 0) : p < N := by
  unfold hr at h
  by_cases q : p < N
  · exact q
  · rw [if_neg q] at h; exact absurd rfl h
theorem opn_ok {B : Nat → Nat} {N : Nat} (hB : ∀ i, i < N → B i < 256) {p : Nat} {ts : List Nat} {stk : List (Nat × Nat × Nat)} {tl : Bool} (ok : okQ N p ts stk) : (opn B N p ts stk tl).2.2.2.2 = 0 → okP N (opn B N p ts stk tl) := by
  obtain ⟨o1, o2, o3, o4, o5⟩ := id ok
  have t1 := tmo_b B N p
  have n1 := nxt_b (B := B) (N := N) (p := p) o1
  unfold opn
  by_cases c1 : hr B N (nxt B N p) = 40
  · rw [if_pos c1]
    have h2 := hr_in (B := B) (N := N) (p := nxt B N p) (by omega)
    by_cases c2 : stk.length = 2
    · rw [if_pos c2]; intro _; exact okP_m _ _ ok
    · rw [if_neg c2]
      intro _
      refine okP_m _ _ ⟨h2, o2, o3, ?_, fun f hf => ?_⟩
      · show stk.length + 1 ≤ 2
        omega
      · rcases List.mem_cons.mp hf with q | q
        · rw [q]; exact ⟨Nat.le_refl _, t1.1, t1.2, o1⟩
        · exact o5 f q
  · rw [if_neg c1]
    split
    · intro _; exact okP_m _ _ ok
    · rename_i c e
      have h2 : nxt B N p < N := by
        refine hr_in (B := B) (fun z => ?_)
        rw [z] at e
        cases e
      have hc : c < 22 := by
        refine tb_lt _ ?_ c e
        unfold hr
        rw [if_pos h2]
        exact hB _ h2
      by_cases c2 : ts.length + tmo B N p ≤ 72
      · rw [if_pos c2]
        intro _
        have el : (rp (ts ++ [c]) ts.length (tmo B N p)).length = ts.length + tmo B N p := by
          rw [rp_len, List.length_append, show ts.length + [c].length - ts.length = 1 by show ts.length + 1 - ts.length = 1; omega, Nat.one_mul]
        refine okP_m _ _ ⟨h2, by omega, ?_, o4, fun f hf => ?_⟩
        · refine rp_in (by rw [List.length_append]; omega) (fun i hi => ?_)
          rw [List.length_append] at hi
          have hi' : i < ts.length + 1 := hi
          rw [List.getD_eq_getElem?_getD]
          by_cases q : i < ts.length
          · rw [List.getElem?_append_left q, ← List.getD_eq_getElem?_getD]; exact o3 i q
          · rw [List.getElem?_append_right (by omega), show i - ts.length = 0 by omega]; exact hc
        · have := o5 f hf
          refine ⟨?_, this.2⟩
          omega
      · rw [if_neg c2]
        intro _; exact okP_m _ _ ok
theorem stp_ok {B : Nat → Nat} {N : Nat} (hB : ∀ i, i < N → B i < 256) {s : xP} (ok : okP N s) : (stp B N s).2.2.2.2 = 0 → okP N (stp B N s) := by
  obtain ⟨p, ts, stk, tl, f⟩ := s
  unfold stp
  dsimp only
  replace ok : okQ N p ts stk := ok
  by_cases c0 : f = 0
  rotate_left
  · rw [if_pos c0]; intro _; exact okP_m _ _ ok
  subst c0
  rw [if_neg (by decide)]
  match stk, ok with
  | [], ok =>
    dsimp only
    by_cases c1 : N ≤ p
    · rw [if_pos c1]; intro _; exact okP_m _ _ ok
    · rw [if_neg c1]; exact opn_ok hB ok
  | (st, tm, at0) :: r, ok =>
    dsimp only
    by_cases c1 : hr B N p = 41 ∧ tl = true
    · rw [if_pos c1]
      obtain ⟨o1, o2, o3, o4, o5⟩ := id ok
      by_cases c2 : st + (ts.length - st) * tm ≤ 72
      · rw [if_pos c2]
        intro _
        have h2 := hr_in (B := B) (N := N) (p := p) (by omega)
        have h5 := o5 (st, tm, at0) (List.mem_cons_self ..)
        have hst : st ≤ ts.length := h5.1
        have h1 : 1 ≤ tm := h5.2.1
        have := mul_ge (v := ts.length - st) h1
        refine okP_m _ _ ⟨h2, by rw [rp_len]; exact c2, rp_in hst o3, ?_, fun f hf => ?_⟩
        · have : r.length + 1 ≤ 2 := o4
          show r.length ≤ 2
          omega
        · have h6 := o5 f (List.mem_cons_of_mem _ hf)
          refine ⟨?_, h6.2⟩
          have h7 : f.1 ≤ ts.length := h6.1
          rw [rp_len]
          omega
      · rw [if_neg c2]
        intro _; exact okP_m _ _ ok
    · rw [if_neg c1]; exact opn_ok hB ok
