theorem wo_story : Cond.arrayOver (.object "LineGuild$Story") ∈ lw_tbl := x_tb1 32 rfl
theorem va_tabsO {args : Array Value} {s : State} {C : String} (h : (Cond.arrayOver (.object C)).before args s = true) : va_AO C s := va_AO.of h
theorem z_K {args : Array Value} {s : State} (hts : ∀ w ∈ lw_tbl, w.before args s = true) : ∃ (D : va_G) (T : zT5), va_K D vwCl (zT T) s ∧ va_AO "LineGuild$Story" s := by
  obtain ⟨c0, i0, h0⟩ := u_known hts inX0 (hts _ wn_X0)
  obtain ⟨c1, i1, h1⟩ := u_known hts inX1 (hts _ wn_X1)
  obtain ⟨c2, i2, h2⟩ := u_known hts inX2 (hts _ wn_X2)
  obtain ⟨c3, i3, h3⟩ := u_known hts inX3 (hts _ wn_X3)
  obtain ⟨c4, i4, h4⟩ := u_known hts inX4 (hts _ wn_X4)
  obtain ⟨c5, i5, h5⟩ := u_known hts inX5 (hts _ wn_X5)
  obtain ⟨c6, i6, h6⟩ := u_known hts inX6 (hts _ wn_X6)
  obtain ⟨c7, i7, h7⟩ := u_known hts inX7 (hts _ wn_X7)
  obtain ⟨c8, i8, h8⟩ := u_known hts inX8 (hts _ wn_X8)
  obtain ⟨c9, i9, h9⟩ := u_known hts inX9 (hts _ wn_X9)
  obtain ⟨c10, i10, h10⟩ := u_known hts inX10 (hts _ wn_X10)
  obtain ⟨c11, i11, h11⟩ := u_known hts inX11 (hts _ wn_X11)
  obtain ⟨c12, i12, h12⟩ := u_known hts inX12 (hts _ wn_X12)
  obtain ⟨tI, kI, pI, fI, gI, eI⟩ := Cond.arrayClass_spec (hts _ wa_int)
  obtain ⟨tJ, kJ, pJ, fJ, gJ, eJ⟩ := Cond.arrayClass_spec (hts _ wa_long)
  obtain ⟨tB, kB, pB, fB, gB, eB⟩ := Cond.arrayClass_spec (hts _ wa_byte)
  obtain ⟨tZ, kZ, pZ, fZ, gZ, eZ⟩ := Cond.arrayClass_spec (hts _ wa_boolean)
  have hov := hts _ wo_story
  obtain ⟨pS, tS, kS, oS, -, gS, eS, fS⟩ := Cond.arrayOver_spec hov
  refine ⟨(fun k => [c0, c1, c2, c3, c4, c5, c6, c7, c8, c9, c10, c11, c12].getD k 0, fun k => [i0, i1, i2, i3, i4, i5, i6, i7, i8, i9, i10, i11, i12].getD k (fun _ => 0)), (tI, tJ, tS, tB, tZ), ⟨fun k q hq => ?_, fun k q hq => ?_⟩, ?_⟩
  · match k, hq with
    | 0, hq => cases hq; exact h0
    | 1, hq => cases hq; exact h1
    | 2, hq => cases hq; exact h2
    | 3, hq => cases hq; exact h3
    | 4, hq => cases hq; exact h4
    | 5, hq => cases hq; exact h5
    | 6, hq => cases hq; exact h6
    | 7, hq => cases hq; exact h7
    | 8, hq => cases hq; exact h8
    | 9, hq => cases hq; exact h9
    | 10, hq => cases hq; exact h10
    | 11, hq => cases hq; exact h11
    | 12, hq => cases hq; exact h12
    | k + 13, hq => simp [vwCl] at hq
  · match k, hq with
    | 0, hq => cases hq; exact ⟨fun n z => ⟨fun k h => (by cases h), kI, gI, pI, eI⟩, fI⟩
    | 1, hq => cases hq; exact ⟨fun n z => ⟨fun k h => (by cases h), kJ, gJ, pJ, eJ⟩, fJ⟩
    | 2, hq => cases hq; exact ⟨fun n z => ⟨fun k h => (by cases h), kS, gS, pS, eS⟩, kS, pS, gS, eS, oS, fS⟩
    | 3, hq => cases hq; exact ⟨fun n z => ⟨fun k h => (by cases h), kB, gB, pB, eB⟩, fB⟩
    | 4, hq => cases hq; exact ⟨fun n z => ⟨fun k h => (by cases h), kZ, gZ, pZ, eZ⟩, fZ⟩
    | k + 5, hq => simp [zT] at hq
  · exact va_tabsO hov
def sg_tm (i : Nat) : Term := ([Term.string "LineGuild$StoryReader" 63, Term.string "LineGuild$LawReader" 51, Term.string "LineGuild$LawReader" 107, Term.string "LineGuild$LawReader" 103, Term.string "LineGuild$LawReader" 93, Term.string "LineGuild$LawReader" 98, Term.string "LineGuild$LawReader" 91] : List Term).getD i (.int 0)
theorem wsr_0 : Cond.stringRef "LineGuild$StoryReader" 63 "abcdefghijABCDEFGHIJ*." ∈ lw_tbl := x_tb3 72 rfl
theorem wsr_1 : Cond.stringRef "LineGuild$LawReader" 51 "nptsfgx" ∈ lw_tbl := x_tb3 210 rfl
theorem wsr_2 : Cond.stringRef "LineGuild$LawReader" 107 "kumolareczhv" ∈ lw_tbl := x_tb3 236 rfl
theorem wsr_3 : Cond.stringRef "LineGuild$LawReader" 103 "*/%" ∈ lw_tbl := x_tb4 17 rfl
theorem wsr_4 : Cond.stringRef "LineGuild$LawReader" 93 "+-*/%<>=" ∈ lw_tbl := x_tb4 18 rfl
theorem wsr_5 : Cond.stringRef "LineGuild$LawReader" 98 "+-" ∈ lw_tbl := x_tb4 19 rfl
theorem wsr_6 : Cond.stringRef "LineGuild$LawReader" 91 "<>=" ∈ lw_tbl := x_tb4 32 rfl
theorem ex_start {b : Nat} {s : State} (hts : ∀ w ∈ lw_tbl, w.before #[Value.ref b] s = true) (hgv : (Jvm.Cond.and given_1 narrow_1).before #[Value.ref b] s = true) (A : Nat → Prop) (hA : ∀ a : Nat, a < s.heap.size → ¬ A a) : ∃ (adK adV : Nat → Nat) (tB : Nat), vk_S 7 sg_len sg_byt adK adV A s s.heap ∧ sg_R adK s ∧ va_Z "java/lang/String" "COMPACT_STRINGS" "Z" (.int 1) A s s.heap ∧ va_Zq "jdk/internal/util/Preconditions" "SIOOBE_FORMATTER" "Ljava/util/function/BiFunction;" A s s.heap ∧ va_Z "LineGuild$Law" "BOUNDS" "[I" (.ref tB) A s s.heap ∧ va_T .int tB 7 bd_v A s s.heap := by
  have hs := flat_of_before _ hgv
  have k1 : ∀ i : Nat, i < 7 → (Cond.exactly (sg_tm i) "java/lang/String").before #[Value.ref b] s = true := fun i hi => hs _ ((by decide +kernel : ∀ i : Fin 7, Cond.exactly (sg_tm i.1) "java/lang/String" ∈ _) ⟨i, hi⟩)
  have k2 : ∀ i : Nat, i < 7 → (Cond.eq (.field (sg_tm i) "java/lang/String" "coder" "B") (.int 0)).before #[Value.ref b] s = true := fun i hi => hs _ ((by decide +kernel : ∀ i : Fin 7, Cond.eq (.field (sg_tm i.1) "java/lang/String" "coder" "B") (.int 0) ∈ _) ⟨i, hi⟩)
  have k3 : ∀ i : Nat, i < 7 → (Cond.arrayOf (.field (sg_tm i) "java/lang/String" "value" "[B") .byte).before #[Value.ref b] s = true := fun i hi => hs _ ((by decide +kernel : ∀ i : Fin 7, Cond.arrayOf (.field (sg_tm i.1) "java/lang/String" "value" "[B") .byte ∈ _) ⟨i, hi⟩)
  have k4 : ∀ i : Nat, i < 7 → (Cond.eq (.length (.field (sg_tm i) "java/lang/String" "value" "[B")) (.int (Int32.ofNat (sg_len.getD i 0)))).before #[Value.ref b] s = true := fun i hi => hs _ ((by decide +kernel : ∀ i : Fin 7, Cond.eq (.length (.field (sg_tm i.1) "java/lang/String" "value" "[B")) (.int (Int32.ofNat (sg_len.getD i.1 0))) ∈ _) ⟨i, hi⟩)
  have k5 : ∀ i j : Nat, i < 7 → j < sg_len.getD i 0 → (Cond.eq (.elem (.field (sg_tm i) "java/lang/String" "value" "[B") (.int (Int32.ofNat j))) (.int ((sg_byt.getD i []).getD j 0))).before #[Value.ref b] s = true := fun i j hi hj => hs _ ((by decide +kernel : ∀ i : Fin 7, ∀ j : Fin 22, j.1 < sg_len.getD i.1 0 → Cond.eq (.elem (.field (sg_tm i.1) "java/lang/String" "value" "[B") (.int (Int32.ofNat j.1))) (.int ((sg_byt.getD i.1 []).getD j.1 0)) ∈ _) ⟨i, hi⟩ ⟨j, Nat.lt_of_lt_of_le hj ((by decide +kernel : ∀ i : Fin 7, sg_len.getD i.1 0 ≤ 22) ⟨i, hi⟩)⟩ hj)
  have k6 : ∀ i j : Nat, i < 7 → j < 7 → ¬ i = j → (Cond.not (Cond.eq (sg_tm i) (sg_tm j))).before #[Value.ref b] s = true ∨ (Cond.not (Cond.eq (sg_tm j) (sg_tm i))).before #[Value.ref b] s = true := fun i j hi hj hne => by
    have key : ∀ i j : Fin 7, ¬ i.1 = j.1 → Cond.not (Cond.eq (sg_tm i.1) (sg_tm j.1)) ∈ flatC (Jvm.Cond.and given_1 narrow_1) ∨ Cond.not (Cond.eq (sg_tm j.1) (sg_tm i.1)) ∈ flatC (Jvm.Cond.and given_1 narrow_1) := by decide +kernel
    rcases key ⟨i, hi⟩ ⟨j, hj⟩ hne with h | h
    · exact Or.inl (hs _ h)
    · exact Or.inr (hs _ h)
  obtain ⟨adK, adV, hS, hE⟩ := vk_Sof (N := 7) (tm := sg_tm) (len := sg_len) (byt := sg_byt) (A := A) (fun i hi => (by decide +kernel : ∀ i : Fin 7, sg_len.getD i.1 0 < 2 ^ 31) ⟨i, hi⟩) k1 k2 k3 k4 (fun i hi j hj => k5 i j hi hj) k6 hA
  have hB1 : (Cond.arrayOf (.static "LineGuild$Law" "BOUNDS" "[I") .int).before #[Value.ref b] s = true := hs _ (by decide +kernel)
  have hB2 : (Cond.eq (.length (.static "LineGuild$Law" "BOUNDS" "[I")) (.int 7)).before #[Value.ref b] s = true := hs _ (by decide +kernel)
  have hB3 : ∀ j : Nat, j < 7 → (Term.elem (.static "LineGuild$Law" "BOUNDS" "[I") (.int (Int32.ofNat j))).eval #[Value.ref b] s none [] s = some (bd_v j) := fun j hj => va_eqt (hs _ ((by decide +kernel : ∀ j : Fin 7, Cond.eq (.elem (.static "LineGuild$Law" "BOUNDS" "[I") (.int (Int32.ofNat j.1))) (.int (([20, 999, 9, 9, 99, 10, 1] : List Int32).getD j.1 0)) ∈ _) ⟨j, hj⟩))
  obtain ⟨tB, hBe, hT⟩ := va_Tof (N := 7) (f := bd_v) (A := A) (by decide) hB1 (va_eqt hB2) hB3 hA
  refine ⟨adK, adV, tB, hS, fun i q hq => ?_, va_Zof (hts _ (x_tb3 86 rfl)) (hts _ wz_J0) (va_eqt (hs _ (by decide +kernel))) hA, va_Zqof (hts _ (x_tb3 127 rfl)) (hts _ wz_J3) (hs _ (by decide +kernel)) hA, va_Zof (hts _ (x_tb4 130 rfl)) (hts _ wz_X5) hBe hA, hT⟩
  match i, hq with
  | 0, hq => cases hq; exact vk_R.of (A := #[Value.ref b]) (hts _ wsr_0) (hE 0 (by decide))
  | 1, hq => cases hq; exact vk_R.of (A := #[Value.ref b]) (hts _ wsr_1) (hE 1 (by decide))
  | 2, hq => cases hq; exact vk_R.of (A := #[Value.ref b]) (hts _ wsr_2) (hE 2 (by decide))
  | 3, hq => cases hq; exact vk_R.of (A := #[Value.ref b]) (hts _ wsr_3) (hE 3 (by decide))
  | 4, hq => cases hq; exact vk_R.of (A := #[Value.ref b]) (hts _ wsr_4) (hE 4 (by decide))
  | 5, hq => cases hq; exact vk_R.of (A := #[Value.ref b]) (hts _ wsr_5) (hE 5 (by decide))
  | 6, hq => cases hq; exact vk_R.of (A := #[Value.ref b]) (hts _ wsr_6) (hE 6 (by decide))
  | i + 7, hq => simp [sg_own] at hq
