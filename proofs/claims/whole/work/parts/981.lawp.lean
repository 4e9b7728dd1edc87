/-! law(): what is read, plainly -/
abbrev xR : Type := Int32 ⊕ (Nat × List Nat × List (Nat × Nat))
def xb (r : xR) (f : Nat → List Nat → List (Nat × Nat) → xR) : xR := match r with
  | .inl e => .inl e
  | .inr q => f q.1 q.2.1 q.2.2
theorem xb_r {r : xR} {f : Nat → List Nat → List (Nat × Nat) → xR} {q : Nat × List Nat × List (Nat × Nat)} (h : xb r f = .inr q) : ∃ p s k, r = .inr (p, s, k) ∧ f p s k = .inr q := by
  match r, h with
  | .inl e, h => cases h
  | .inr (p, s, k), h => exact ⟨p, s, k, rfl, h⟩
def lix (c : Nat) : Nat := [107, 117, 109, 111, 108, 97, 114, 101, 99, 122, 104, 118].idxOf c
def six (c : Nat) : Nat := [43, 45, 42, 47, 37, 60, 62, 61].idxOf c
def kix (c : Nat) : Nat := [110, 112, 116, 115, 102, 103, 120].idxOf c
abbrev isT (c : Nat) : Prop := c = 42 ∨ c = 47 ∨ c = 37
abbrev isPl (c : Nat) : Prop := c = 43 ∨ c = 45
abbrev isCm (c : Nat) : Prop := c = 60 ∨ c = 62 ∨ c = 61
abbrev isDg (c : Nat) : Prop := 48 ≤ c ∧ c ≤ 57
section
variable (B : Nat → Nat) (N : Nat)
def ndg : Nat → Nat → Nat
  | 0, _ => 0
  | m + 1, p => if isDg (hr B N p) then 1 + ndg m (p + 1) else 0
def vdg : Nat → Nat → Nat → Nat
  | 0, _, a => a
  | m + 1, p, a => vdg m (p + 1) (10 * a + hr B N p - 48)
def facP (rec : Option (Nat → Nat → xR)) (p z : Nat) : xR :=
  if hr B N p = 91 then (match rec with
    | none => .inl (fw 5 p)
    | some r => xb (r (p + 1) z) (fun q s k => if hr B N q = 93 then .inr (q + 1, s, k) else .inl (fw 1 q)))
  else if lix (hr B N p) < 12 then .inr (p + 1, [16 * lix (hr B N p) + 1], [(1, hr B N p)])
  else if ndg B N 6 p = 0 then .inl (fw 1 p)
  else if ndg B N 6 p = 6 then .inl (fw 2 (p + 5))
  else .inr (p + ndg B N 6 p, [16 * vdg B N (ndg B N 6 p) p 0], [(0, vdg B N (ndg B N 6 p) p 0)])
def prL (rec : Option (Nat → Nat → xR)) (z : Nat) : Nat → Nat → List Nat → List (Nat × Nat) → xR
  | 0, p, s, k => .inr (p, s, k)
  | m + 1, p, s, k => if isT (hr B N p) then xb (facP B N rec (p + 1) (z + s.length)) (fun q s' k' => prL rec z m q (s ++ s' ++ [5 + six (hr B N p)]) (k ++ k' ++ [(hr B N p, 0)])) else .inr (p, s, k)
def prdP (rec : Option (Nat → Nat → xR)) (p z : Nat) : xR := xb (facP B N rec p z) (fun q s k => prL B N rec z 240 q s k)
def smL (rec : Option (Nat → Nat → xR)) (z : Nat) : Nat → Nat → List Nat → List (Nat × Nat) → xR
  | 0, p, s, k => .inr (p, s, k)
  | m + 1, p, s, k => if isPl (hr B N p) then xb (prdP B N rec (p + 1) (z + s.length)) (fun q s' k' => smL rec z m q (s ++ s' ++ [5 + six (hr B N p)]) (k ++ k' ++ [(hr B N p, 0)])) else .inr (p, s, k)
def sumR (rec : Option (Nat → Nat → xR)) (p z : Nat) : xR := xb (prdP B N rec p z) (fun q s k => smL B N rec z 240 q s k)
/-- with so many ( [ ! still allowed -/
def sumP : Nat → Nat → Nat → xR
  | 0 => sumR B N none
  | g + 1 => sumR B N (some (sumP g))
def prtL (r : Nat → Nat → xR) (z : Nat) : Nat → Nat → List Nat → List (Nat × Nat) → xR
  | 0, p, s, k => .inr (p, s, k)
  | m + 1, p, s, k => if hr B N p = 38 then xb (r (p + 1) (z + s.length + 1)) (fun q s' k' => prtL r z m q (s ++ [3 + 16 * (z + s.length + 1 + s'.length)] ++ s') (k ++ k' ++ [(38, 0)])) else .inr (p, s, k)
def prtP (r : Nat → Nat → xR) (p z : Nat) : xR := xb (r p z) (fun q s k => prtL B N r z 240 q s k)
def cnL (r : Nat → Nat → xR) (z : Nat) : Nat → Nat → List Nat → List (Nat × Nat) → xR
  | 0, p, s, k => .inr (p, s, k)
  | m + 1, p, s, k => if hr B N p = 124 then xb (prtP B N r (p + 1) (z + s.length + 1)) (fun q s' k' => cnL r z m q (s ++ [4 + 16 * (z + s.length + 1 + s'.length)] ++ s') (k ++ k' ++ [(124, 0)])) else .inr (p, s, k)
def cndP (r : Nat → Nat → xR) (p z : Nat) : xR := xb (prtP B N r p z) (fun q s k => cnL B N r z 240 q s k)
def tstR (rec : Option (Nat → Nat → xR)) (sm : Nat → Nat → xR) (p z : Nat) : xR :=
  if hr B N p = 33 then (match rec with
    | none => .inl (fw 5 p)
    | some r => xb (r (p + 1) z) (fun q s k => .inr (q, s ++ [2], k ++ [(2, 0)])))
  else if hr B N p = 40 then (match rec with
    | none => .inl (fw 5 p)
    | some r => xb (cndP B N r (p + 1) z) (fun q s k => if hr B N q = 41 then .inr (q + 1, s, k) else .inl (fw 1 q)))
  else xb (sm p z) (fun q s k => if isCm (hr B N q) then xb (sm (q + 1) (z + s.length)) (fun q' s' k' => .inr (q', s ++ s' ++ [5 + six (hr B N q)], k ++ k' ++ [(hr B N q, 0)])) else .inl (fw 1 q))
def tstP : Nat → Nat → Nat → xR
  | 0 => tstR B N none (sumP B N 0)
  | g + 1 => tstR B N (some (tstP g)) (sumP B N (g + 1))
end
/-! what it means -/
abbrev xF : Type := (Nat → Nat) → Option Int32
def wkI (s : Nat) (x y : Int32) : Int32 := if s = 0 then x + y else if s = 1 then x - y else if s = 2 then x * y else if s = 3 then x / y else if s = 4 then x - x / y * y else if s = 5 then (if y ≤ x then 0 else 1) else if s = 6 then (if x ≤ y then 0 else 1) else (if x = y then 1 else 0)
def arI (s : Nat) (x y : Int32) : Option Int32 := if (s = 3 ∨ s = 4) ∧ y = 0 then none else some (wkI s x y)
def fBin (c : Nat) (f1 f2 : xF) : xF := fun v => (f1 v).bind (fun x => (f2 v).bind (fun y => arI (six c) x y))
def fAnd (f1 f2 : xF) : xF := fun v => (f1 v).bind (fun x => if x = 0 then some x else f2 v)
def fOr (f1 f2 : xF) : xF := fun v => (f1 v).bind (fun x => if x = 1 then some x else f2 v)
def fNot (f : xF) : xF := fun v => (f v).bind (fun x => some (1 - x))
def blF (f : xF) : Prop := ∀ v x, f v = some x → x = 0 ∨ x = 1
def stL (S : List Nat) (vals : Nat → Nat) (a : Nat) (τ : List Int32) : Option (Nat × List Int32) :=
  if S.getD a 0 % 16 = 0 then (if τ.length < 64 then some (a + 1, nI (S.getD a 0 / 16) :: τ) else none)
  else if S.getD a 0 % 16 = 1 then (if τ.length < 64 ∧ S.getD a 0 / 16 < 12 then some (a + 1, nI (vals (S.getD a 0 / 16)) :: τ) else none)
  else if S.getD a 0 % 16 = 2 then (match τ with
    | x :: r => some (a + 1, (1 - x) :: r)
    | [] => none)
  else if S.getD a 0 % 16 < 5 then (match τ with
    | x :: r => if x = (if S.getD a 0 % 16 = 4 then 1 else 0) then some (max a (S.getD a 0 / 16 - 1) + 1, x :: r) else some (a + 1, r)
    | [] => none)
  else (match τ with
    | y :: x :: r => (arI (S.getD a 0 % 16 - 5) x y).bind (fun v => some (a + 1, v :: r))
    | _ => none)
/-- comes from a to b; is refused -/
def Rc (S : List Nat) (to : Nat) (vals : Nat → Nat) (a b : Nat × List Int32) : Prop := ∀ P : Nat × List Int32 → Prop, P b → (∀ q q1 : Nat × List Int32, q.1 < to → stL S vals q.1 q.2 = some q1 → P q1 → P q) → P a
def Rf (S : List Nat) (to : Nat) (vals : Nat → Nat) (a : Nat × List Int32) : Prop := ∀ P : Nat × List Int32 → Prop, (∀ q : Nat × List Int32, q.1 < to → stL S vals q.1 q.2 = none → P q) → (∀ q q1 : Nat × List Int32, q.1 < to → stL S vals q.1 q.2 = some q1 → P q1 → P q) → P a
theorem Rc_tr {S : List Nat} {to : Nat} {vals : Nat → Nat} {a b c : Nat × List Int32} (h1 : Rc S to vals a b) (h2 : Rc S to vals b c) : Rc S to vals a c := fun P pc st => h1 P (h2 P pc st) st
theorem Rc_rf {S : List Nat} {to : Nat} {vals : Nat → Nat} {a b : Nat × List Int32} (h1 : Rc S to vals a b) (h2 : Rf S to vals b) : Rf S to vals a := fun P pn st => h1 P (h2 P pn st) st
theorem Rc_1 {S : List Nat} {to : Nat} {vals : Nat → Nat} {a b : Nat × List Int32} (h : a.1 < to) (e : stL S vals a.1 a.2 = some b) : Rc S to vals a b := fun _ pb st => st a b h e pb
theorem Rf_1 {S : List Nat} {to : Nat} {vals : Nat → Nat} {a : Nat × List Int32} (h : a.1 < to) (e : stL S vals a.1 a.2 = none) : Rf S to vals a := fun _ pn _ => pn a h e
def hasL (S : List Nat) (z : Nat) (s : List Nat) : Prop := ∀ i, i < s.length → S.getD (z + i) 0 = s.getD i 0
theorem has_app {S : List Nat} {z : Nat} {a b : List Nat} (h : hasL S z (a ++ b)) : hasL S z a ∧ hasL S (z + a.length) b := by
  refine ⟨fun i hi => ?_, fun i hi => ?_⟩
  · rw [h i (by rw [List.length_append]; omega), List.getD_eq_getElem?_getD, List.getElem?_append_left hi, ← List.getD_eq_getElem?_getD]
  · rw [show z + a.length + i = z + (a.length + i) by omega, h (a.length + i) (by rw [List.length_append]; omega), List.getD_eq_getElem?_getD, List.getElem?_append_right (by omega), show a.length + i - a.length = i by omega, ← List.getD_eq_getElem?_getD]
theorem has_1 {S : List Nat} {z x : Nat} (h : hasL S z [x]) : S.getD z 0 = x := h 0 Nat.one_pos
def ckL (z : Nat) (s : List Nat) (f : xF) (h : Nat) : Prop := ∀ S to, hasL S z s → z + s.length ≤ to → ∀ vals (τ : List Int32), τ.length + h ≤ 64 → (∀ v, f vals = some v → Rc S to vals (z, τ) (z + s.length, v :: τ)) ∧ (f vals = none → Rf S to vals (z, τ))
theorem ck_mono {z : Nat} {s : List Nat} {f : xF} {h h' : Nat} (c : ckL z s f h) (hh : h ≤ h') : ckL z s f h' := fun S to a b vals τ e => c S to a b vals τ (by omega)
def opR (c : Nat) (x y : Option Int32) : Option Int32 := if c = 38 then x.bind (fun u => if u = 1 then y else some u) else if c = 124 then x.bind (fun u => if u = 0 then y else some u) else x.bind (fun u => y.bind (fun w => arI (six c) u w))
def evc (vals : Nat → Nat) (c : Nat × Nat) (τ : List (Option Int32)) : Option (List (Option Int32)) :=
  if c.1 = 0 then some (some (nI c.2) :: τ)
  else if c.1 = 1 then some (some (nI (vals (lix c.2))) :: τ)
  else if c.1 = 2 then (match τ with
    | x :: r => some (x.bind (fun u => some (1 - u)) :: r)
    | [] => none)
  else (match τ with
    | y :: x :: r => some (opR c.1 x y :: r)
    | _ => none)
def evL (vals : Nat → Nat) : List (Nat × Nat) → List (Option Int32) → Option (List (Option Int32))
  | [], τ => some τ
  | c :: k, τ => (evc vals c τ).bind (evL vals k)
theorem evL_app (vals : Nat → Nat) : ∀ (a b : List (Nat × Nat)) (τ : List (Option Int32)), evL vals (a ++ b) τ = (evL vals a τ).bind (evL vals b) := by
  intro a
  induction a with
  | nil => intro b τ; rfl
  | cons c a ih =>
    intro b τ
    show (evc vals c τ).bind (evL vals (a ++ b)) = ((evc vals c τ).bind (evL vals a)).bind (evL vals b)
    cases evc vals c τ with
    | none => rfl
    | some x => exact ih b x
def gdL (k : List (Nat × Nat)) (f : xF) : Prop := ∀ vals τ, evL vals k τ = some (f vals :: τ)
/-- of what stands behind one another -/
theorem ck_bin {z c : Nat} {s1 s2 : List Nat} {f1 f2 : xF} {h1 h2 H : Nat} (hc : six c < 8) (a : ckL z s1 f1 h1) (b : ckL (z + s1.length) s2 f2 h2) (e1 : h1 ≤ H) (e2 : h2 + 1 ≤ H) : ckL z (s1 ++ s2 ++ [5 + six c]) (fBin c f1 f2) H := by
  intro S to hS hto vals τ ht
  obtain ⟨hS12, hS3⟩ := has_app hS
  obtain ⟨hS1, hS2⟩ := has_app hS12
  have hx := has_1 hS3
  rw [List.length_append, List.length_append] at hto
  have hto' : z + (s1.length + s2.length + 1) ≤ to := hto
  rw [List.length_append] at hx
  obtain ⟨a1, a2⟩ := a S to hS1 (by omega) vals τ (by omega)
  have em : (5 + six c) % 16 = 5 + six c := Nat.mod_eq_of_lt (by omega)
  unfold fBin
  match e3 : f1 vals with
  | none => exact ⟨fun v q => (by cases q), fun _ => a2 e3⟩
  | some x =>
    have r1 := a1 x e3
    obtain ⟨b1, b2⟩ := b S to hS2 (by omega) vals (x :: τ) (by show τ.length + 1 + h2 ≤ 64; omega)
    match e4 : f2 vals with
    | none => exact ⟨fun v q => (by cases q), fun _ => Rc_rf r1 (b2 e4)⟩
    | some y =>
      have r2 := Rc_tr r1 (b1 y e4)
      have step : stL S vals (z + s1.length + s2.length) (y :: x :: τ) = (arI (six c) x y).bind (fun v => some (z + s1.length + s2.length + 1, v :: τ)) := by
        unfold stL
        rw [show z + s1.length + s2.length = z + (s1.length + s2.length) by omega, hx, em, if_neg (by omega), if_neg (by omega), if_neg (by omega), if_neg (by omega), show 5 + six c - 5 = six c by omega]
      refine ⟨fun v q => ?_, fun q => ?_⟩
      · have q' : arI (six c) x y = some v := q
        rw [q'] at step
        have := Rc_tr r2 (Rc_1 (show z + s1.length + s2.length < to by omega) step)
        rw [List.length_append, List.length_append, show z + (s1.length + s2.length + [5 + six c].length) = z + s1.length + s2.length + 1 from (by show z + (s1.length + s2.length + 1) = _; omega)]
        exact this
      · have q' : arI (six c) x y = none := q
        rw [q'] at step
        exact Rc_rf r2 (Rf_1 (show z + s1.length + s2.length < to by omega) step)
theorem gd_bin {c : Nat} {k1 k2 : List (Nat × Nat)} {f1 f2 : xF} (hc : 2 < c ∧ c ≠ 38 ∧ c ≠ 124) (a : gdL k1 f1) (b : gdL k2 f2) : gdL (k1 ++ k2 ++ [(c, 0)]) (fBin c f1 f2) := by
  intro vals τ
  rw [evL_app, evL_app, a vals τ]
  show ((evL vals k2 (f1 vals :: τ)).bind _) = _
  rw [b vals]
  show (evc vals (c, 0) (f2 vals :: f1 vals :: τ)).bind (evL vals []) = _
  unfold evc
  rw [if_neg (by show ¬ c = 0; omega), if_neg (by show ¬ c = 1; omega), if_neg (by show ¬ c = 2; omega)]
  show some (opR c (f1 vals) (f2 vals) :: τ) = _
  unfold opR
  rw [if_neg hc.2.1, if_neg hc.2.2]
  rfl
theorem ck_jmp {z o : Nat} {s1 s2 : List Nat} {f1 f2 : xF} {h1 h2 H : Nat} (ho : o = 3 ∨ o = 4) (a : ckL z s1 f1 h1) (b : ckL (z + s1.length + 1) s2 f2 h2) (e1 : h1 ≤ H) (e2 : h2 ≤ H) : ckL z (s1 ++ [o + 16 * (z + s1.length + 1 + s2.length)] ++ s2) (fun v => (f1 v).bind (fun x => if x = (if o = 4 then 1 else 0) then some x else f2 v)) H := by
  intro S to hS hto vals τ ht
  obtain ⟨hS13, hS2⟩ := has_app hS
  obtain ⟨hS1, hS3⟩ := has_app hS13
  have hx := has_1 hS3
  rw [List.length_append, List.length_append] at hto
  have hto' : z + (s1.length + 1 + s2.length) ≤ to := hto
  rw [List.length_append] at hS2
  have hS2' : hasL S (z + s1.length + 1) s2 := hS2
  obtain ⟨a1, a2⟩ := a S to hS1 (by omega) vals τ (by omega)
  have em : (o + 16 * (z + s1.length + 1 + s2.length)) % 16 = o := by omega
  have ed : (o + 16 * (z + s1.length + 1 + s2.length)) / 16 = z + s1.length + 1 + s2.length := by omega
  have el : z + (s1 ++ [o + 16 * (z + s1.length + 1 + s2.length)] ++ s2).length = z + s1.length + 1 + s2.length := by
    rw [List.length_append, List.length_append]
    show z + (s1.length + 1 + s2.length) = _
    omega
  dsimp only
  match e3 : f1 vals with
  | none => exact ⟨fun v q => (by cases q), fun _ => a2 e3⟩
  | some x =>
    have r1 := a1 x e3
    have step : stL S vals (z + s1.length) (x :: τ) = if x = (if o = 4 then 1 else 0) then some (z + s1.length + 1 + s2.length, x :: τ) else some (z + s1.length + 1, τ) := by
      unfold stL
      rw [hx, em, if_neg (by omega), if_neg (by omega), if_neg (by omega), if_pos (by omega), ed]
      dsimp only
      rw [show max (z + s1.length) (z + s1.length + 1 + s2.length - 1) + 1 = z + s1.length + 1 + s2.length by omega]
    rw [el]
    show (∀ v, (if x = (if o = 4 then 1 else 0) then some x else f2 vals) = some v → _) ∧ ((if x = (if o = 4 then 1 else 0) then some x else f2 vals) = none → _)
    by_cases c : x = (if o = 4 then 1 else 0)
    · rw [if_pos c] at step ⊢
      refine ⟨fun v q => ?_, fun q => by cases q⟩
      have := Option.some.inj q
      subst this
      exact Rc_tr r1 (Rc_1 (show z + s1.length < to by omega) step)
    · rw [if_neg c] at step ⊢
      have r2 := Rc_tr r1 (Rc_1 (show z + s1.length < to by omega) step)
      obtain ⟨b1, b2⟩ := b S to hS2' (by omega) vals τ (by omega)
      exact ⟨fun v q => Rc_tr r2 (b1 v q), fun q => Rc_rf r2 (b2 q)⟩
theorem gd_jmp {c : Nat} {k1 k2 : List (Nat × Nat)} {f1 f2 : xF} (hc : c = 38 ∨ c = 124) (hb : blF f1) (a : gdL k1 f1) (b : gdL k2 f2) : gdL (k1 ++ k2 ++ [(c, 0)]) (fun v => (f1 v).bind (fun x => if x = (if c = 124 then 1 else 0) then some x else f2 v)) := by
  intro vals τ
  rw [evL_app, evL_app, a vals τ]
  show ((evL vals k2 (f1 vals :: τ)).bind _) = _
  rw [b vals]
  show (evc vals (c, 0) (f2 vals :: f1 vals :: τ)).bind (evL vals []) = _
  unfold evc
  rw [if_neg (by show ¬ c = 0; omega), if_neg (by show ¬ c = 1; omega), if_neg (by show ¬ c = 2; omega)]
  show some (opR c (f1 vals) (f2 vals) :: τ) = _
  congr 2
  unfold opR
  dsimp only
  match e : f1 vals with
  | none => rcases hc with q | q <;> subst q <;> rfl
  | some x =>
    rcases hc with q | q <;> subst q
    · show (if x = 1 then f2 vals else some x) = if x = 0 then some x else f2 vals
      rcases hb vals x e with z | z <;> subst z <;> rfl
    · show (if x = 0 then f2 vals else some x) = if x = 1 then some x else f2 vals
      rcases hb vals x e with z | z <;> subst z <;> rfl
theorem ck_not {z : Nat} {s : List Nat} {f : xF} {h : Nat} (a : ckL z s f h) : ckL z (s ++ [2]) (fNot f) h := by
  intro S to hS hto vals τ ht
  obtain ⟨hS1, hS2⟩ := has_app hS
  have hx := has_1 hS2
  rw [List.length_append] at hto
  have hto' : z + (s.length + 1) ≤ to := hto
  obtain ⟨a1, a2⟩ := a S to hS1 (by omega) vals τ ht
  unfold fNot
  match e3 : f vals with
  | none => exact ⟨fun v q => (by cases q), fun _ => a2 e3⟩
  | some x =>
    refine ⟨fun v q => ?_, fun q => by cases q⟩
    have := Option.some.inj q
    subst this
    have step : stL S vals (z + s.length) (x :: τ) = some (z + s.length + 1, (1 - x) :: τ) := by
      unfold stL
      rw [hx]
      rfl
    rw [List.length_append]
    exact Rc_tr (a1 x e3) (Rc_1 (show z + s.length < to by omega) step)
theorem gd_not {k : List (Nat × Nat)} {f : xF} (a : gdL k f) : gdL (k ++ [(2, 0)]) (fNot f) := by
  intro vals τ
  rw [evL_app, a vals τ]
  rfl
theorem ck_num {z v : Nat} : ckL z [16 * v] (fun _ => some (nI v)) 1 := by
  intro S to hS hto vals τ ht
  have hx := has_1 hS
  refine ⟨fun w q => ?_, fun q => by cases q⟩
  have := Option.some.inj q
  subst this
  refine Rc_1 (show z < to from hto) ?_
  show stL S vals z τ = _
  unfold stL
  rw [hx, if_pos (by omega), if_pos (by omega), show 16 * v / 16 = v by omega]
  rfl
theorem ck_let {z v : Nat} (hv : v < 12) : ckL z [16 * v + 1] (fun w => some (nI (w v))) 1 := by
  intro S to hS hto vals τ ht
  have hx := has_1 hS
  refine ⟨fun w q => ?_, fun q => by cases q⟩
  have := Option.some.inj q
  subst this
  refine Rc_1 (show z < to from hto) ?_
  show stL S vals z τ = _
  unfold stL
  rw [hx, if_neg (by omega), if_pos (by omega), show (16 * v + 1) / 16 = v by omega, if_pos ⟨by omega, hv⟩]
  rfl
