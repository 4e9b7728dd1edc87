theorem ite_post {p : Prop} [Decidable p] (a b : Int32) (M : xMem) (post : Int32 → xMem → Prop) : (if p then post a M else post b M) = post (if p then a else b) M := by split <;> rfl
/-- how many bits -/
def pc (n : Nat) : Nat := (List.range 10).foldl (fun a k => a + if n.testBit k then 1 else 0) 0
def bc (a : Int32) : Int32 :=
  let v1 := a - ((xushr a 1) &&& 1431655765)
  let v2 := (v1 &&& 858993459) + ((xushr v1 2) &&& 858993459)
  let v3 := (v2 + (xushr v2 4)) &&& 252645135
  let v4 := v3 + (xushr v3 8)
  let v5 := v4 + (xushr v4 16)
  v5 &&& 63
theorem bitCount_eq (a : Int32) (M : xMem) (post : Int32 → xMem → Prop) : wJ6_bitCount_0f7a4 a M post = post (bc a) M := by
  unfold wJ6_bitCount_0f7a4
  simp only [forall_eq]
  rfl
theorem bc_n {n : Nat} (h : n < 1024) : bc (nI n) = nI (pc n) := by
  have key : ∀ n : Fin 1024, bc (nI n.1) = nI (pc n.1) := by decide +kernel
  exact key ⟨n, h⟩
theorem max_eq (a b : Int32) (M : xMem) (post : Int32 → xMem → Prop) : wJ9_max_7cf53 a b M post = post (if a < b then b else a) M := by unfold wJ9_max_7cf53; rw [ite_post]
theorem min_eq (a b : Int32) (M : xMem) (post : Int32 → xMem → Prop) : wJ9_min_7cf53 a b M post = post (if b < a then b else a) M := by unfold wJ9_min_7cf53; rw [ite_post]
theorem isClosing_eq (a : Int32) (M : xMem) (post : Int32 → xMem → Prop) : wX9_isClosing a M post = post (if a < 10 then 0 else if 20 ≤ a then 0 else 1) M := by unfold wX9_isClosing; simp only [ite_post]
def nb (a : Int32) : Int32 := if a < 0 then 0 else if a < 20 then (if (if a < 10 then (0 : Int32) else if 20 ≤ a then 0 else 1) = 0 then 1 <<< (a &&& 31) else 1 <<< ((a - 10) &&& 31)) else 0
theorem namedBy_eq (a : Int32) (M : xMem) (post : Int32 → xMem → Prop) : wX9_namedBy a M post = post (nb a) M := by unfold wX9_namedBy nb; simp only [isClosing_eq, ite_post]
def bt (c s : Int32) : Int32 := if c = 20 then s ||| (((s ^^^ (-1)) &&& 1023) &&& (-((s ^^^ (-1)) &&& 1023))) else if (if c < 10 then (0 : Int32) else if 20 ≤ c then 0 else 1) = 0 then s ||| nb c else s &&& (nb c ^^^ (-1))
theorem behindTurn_eq (c s : Int32) (M : xMem) (post : Int32 → xMem → Prop) : wX9_behindTurn c s M post = post (bt c s) M := by unfold wX9_behindTurn bt; simp only [isClosing_eq, namedBy_eq, forall_eq, ite_post]
def td (s c : Int32) : Int32 := if 10 ≤ c then (if 20 ≤ c then (if c = 20 then (s ||| (s + 1)) &&& 1023 else s) else s &&& ((1 <<< ((c - 10) &&& 31)) ^^^ (-1))) else s ||| (1 <<< (c &&& 31))
theorem turned_eq (s c : Int32) (M : xMem) (post : Int32 → xMem → Prop) : wX12_turned s c M post = post (td s c) M := by unfold wX12_turned td; simp only [ite_post]
/-- what is open behind a turn: 0 to 9 opens, 10 to 19 closes, 20 opens the lowest, 21 neither -/
def trn (s c : Nat) : Nat := if c < 10 then s ||| 2 ^ c else if c < 20 then s &&& (1023 ^^^ 2 ^ (c - 10)) else if c = 20 then (s ||| (s + 1)) &&& 1023 else s
theorem bt_n {c s : Nat} (hc : c < 22) (hs : s < 1024) : bt (nI c) (nI s) = nI (trn s c) := by
  have key : ∀ c : Fin 22, ∀ s : Fin 1024, bt (nI c.1) (nI s.1) = nI (trn s.1 c.1) := by decide +kernel
  exact key ⟨c, hc⟩ ⟨s, hs⟩
theorem td_n {c s : Nat} (hc : c < 22) (hs : s < 1024) : td (nI s) (nI c) = nI (trn s c) := by
  have key : ∀ c : Fin 22, ∀ s : Fin 1024, td (nI s.1) (nI c.1) = nI (trn s.1 c.1) := by decide +kernel
  exact key ⟨c, hc⟩ ⟨s, hs⟩
theorem trn_lt {c s : Nat} (hc : c < 22) (hs : s < 1024) : trn s c < 1024 := by
  have key : ∀ c : Fin 22, ∀ s : Fin 1024, trn s.1 c.1 < 1024 := by decide +kernel
  exact key ⟨c, hc⟩ ⟨s, hs⟩
theorem bit_n {n k : Nat} (hn : n < 2 ^ 31) (hk : k < 31) : ((nI n) >>> (nI k &&& 31)) &&& 1 = b2i (n.testBit k = true) := by
  have e1 : nI k &&& 31 = nI k := by
    rw [pk_andN (by omega) 5 (by decide)]
    congr 1
    omega
  rw [e1, pk_shrN hn (nI k) k (by
    have key : ∀ k : Fin 31, ((nI k.1).toBitVec.smod 32).toNat = k.1 := by decide +kernel
    exact key ⟨k, hk⟩), pk_andN (by
      have : n / 2 ^ k ≤ n := Nat.div_le_self _ _
      omega) 1 (by decide)]
  unfold b2i
  rw [Nat.testBit, Nat.shiftRight_eq_div_pow]
  have h2 := Nat.mod_two_eq_zero_or_one (n / 2 ^ k)
  rcases h2 with h | h <;> simp [Nat.one_and_eq_mod_two, h] <;> rfl
theorem hasC_eq (a b : Int32) (M : xMem) (post : Int32 → xMem → Prop) : wX11_has a b M post = post (if b < 0 then 0 else if 10 ≤ b then 0 else if ((a >>> (b &&& 31)) &&& 1) = 1 then 1 else 0) M := by unfold wX11_has; simp only [ite_post]
theorem hasM_eq (a b : Int32) (M : xMem) (post : Int32 → xMem → Prop) : wX12_has a b M post = post (if ((a >>> (b &&& 31)) &&& 1) = 1 then 1 else 0) M := by unfold wX12_has; simp only [ite_post]
theorem hasC_n {n k : Nat} (hn : n < 2 ^ 31) (hk : k < 10) (M : xMem) (post : Int32 → xMem → Prop) : wX11_has (nI n) (nI k) M post = post (b2i (n.testBit k = true)) M := by
  rw [hasC_eq, if_neg (nI_pos (by omega)), if_neg (show ¬ (10 : Int32) ≤ nI k from nI_ge hk (by decide)), bit_n hn (by omega)]
  unfold b2i
  split <;> rfl
theorem hasM_n {n k : Nat} (hn : n < 2 ^ 31) (hk : k < 31) (M : xMem) (post : Int32 → xMem → Prop) : wX12_has (nI n) (nI k) M post = post (b2i (n.testBit k = true)) M := by
  rw [hasM_eq, bit_n hn hk]
  unfold b2i
  split <;> rfl
/-- the reference's count -/
def szf : Nat → Int32 → Int32 → Option Int32
  | 0, _, _ => none
  | n + 1, x1, x2 => if x2 = 0 then some x1 else szf n (x1 + 1) (x2 &&& (x2 - 1))
theorem szf_ok (post : Int32 → xMem → Prop) (M : xMem) : ∀ (n : Nat) (x1 x2 r : Int32), szf n x1 x2 = some r → post r M → wX12_sizeOf_4 post n x1 x2 M := by
  intro n
  induction n with
  | zero => intro x1 x2 r h; cases h
  | succ n ih =>
    intro x1 x2 r h hp
    rw [wX12_sizeOf_4]; dsimp only
    unfold szf at h
    by_cases h0 : x2 = 0
    · rw [if_pos h0] at h ⊢
      cases h
      exact hp
    · rw [if_neg h0] at h ⊢
      intro v2 e2 v3 e3
      subst e2
      subst e3
      exact ih _ _ r h hp
theorem sizeOf_n {n : Nat} (h : n < 1024) (M : xMem) (post : Int32 → xMem → Prop) (hp : post (nI (pc n)) M) : wX12_sizeOf (nI n) M post := by
  have key : ∀ n : Fin 1024, szf 11 0 (nI n.1) = some (nI (pc n.1)) := by decide +kernel
  exact ⟨11, szf_ok post M 11 0 (nI n) _ (key ⟨n, h⟩) hp⟩
