abbrev rm_X9_isClosing : Room := { frames := 0, cells := 0, slots := 0, locals := 0 }
theorem yd_X9_isClosing : yX9_isClosing.cls ≠ "java/lang/invoke/MethodHandle" ∧ yX9_isClosing.cls ≠ "java/lang/invoke/VarHandle" ∧ (parseMethodDescriptor yX9_isClosing.desc).map (fun d => d.parameters.length) = some 1 := by decide +kernel
def wX9_isClosing  (a0 : Int32) (M : xMem) (post : Int32 → xMem → Prop) : Prop :=
    if a0 < 10 then (
      post 0 M)
    else (
      if 20 ≤ a0 then (
        post 0 M)
      else (
        post 1 M))
abbrev rm_X9_namedBy : Room := { frames := 1, cells := 0, slots := 0, locals := 20 }
theorem yd_X9_namedBy : yX9_namedBy.cls ≠ "java/lang/invoke/MethodHandle" ∧ yX9_namedBy.cls ≠ "java/lang/invoke/VarHandle" ∧ (parseMethodDescriptor yX9_namedBy.desc).map (fun d => d.parameters.length) = some 1 := by decide +kernel
def wX9_namedBy  (a0 : Int32) (M : xMem) (post : Int32 → xMem → Prop) : Prop :=
    if a0 < 0 then (
      post 0 M)
    else (
      if a0 < 20 then (
        wX9_isClosing a0 M (fun r4 M3 =>
          if r4 = 0 then (
            post (1 <<< (a0 &&& 31)) M3)
          else (
            post (1 <<< ((a0 - 10) &&& 31)) M3)))
      else (
        post 0 M))
abbrev rm_X9_behindTurn : Room := { frames := 2, cells := 0, slots := 0, locals := 40 }
theorem yd_X9_behindTurn : yX9_behindTurn.cls ≠ "java/lang/invoke/MethodHandle" ∧ yX9_behindTurn.cls ≠ "java/lang/invoke/VarHandle" ∧ (parseMethodDescriptor yX9_behindTurn.desc).map (fun d => d.parameters.length) = some 2 := by decide +kernel
def wX9_behindTurn  (a0 : Int32) (a1 : Int32) (M : xMem) (post : Int32 → xMem → Prop) : Prop :=
    if a0 = 20 then (
      ∀ v9 : Int32, v9 = (a1 ^^^ (-1)) &&& 1023 →
      post (a1 ||| (v9 &&& (-v9))) M)
    else (
      wX9_isClosing a0 M (fun r3 M2 =>
        if r3 = 0 then (
          wX9_namedBy a0 M2 (fun r6 M5 =>
            post (a1 ||| r6) M5))
        else (
          wX9_namedBy a0 M2 (fun r8 M7 =>
            post (a1 &&& (r8 ^^^ (-1))) M7))))
abbrev rm_X9_take : Room := { frames := 3, cells := 0, slots := 0, locals := 62 }
theorem yd_X9_take : yX9_take.cls ≠ "java/lang/invoke/MethodHandle" ∧ yX9_take.cls ≠ "java/lang/invoke/VarHandle" ∧ (parseMethodDescriptor yX9_take.desc).map (fun d => d.parameters.length) = some 2 := by decide +kernel
def wX9_take_50  (o : Nat)  (post : xMem → Prop) : Nat → Int32 → xMem → Prop
  | 0 => fun _ _ => False
  | n + 1 => fun x3 M =>
      if (gi M o 1) ≤ x3 then (
        post M)
      else (
        vp_in x3 72 ∧
        wX9_behindTurn (gi M ((o + 1)) x3.toNatClampNeg) (gi M o 2) M (fun r4 M3 =>
          vp_in x3 72 ∧
          wX9_namedBy (gi M3 ((o + 1)) x3.toNatClampNeg) M3 (fun r7 M6 =>
            ∀ M8 : xMem, M8 = si M6 o 4 ((gi M3 o 4) ||| (r7 ||| (r4 &&& ((gi M6 o 2) ^^^ (-1))))) →
            ∀ M9 : xMem, M9 = si M8 o 2 r4 →
            wJ6_bitCount_0f7a4 (gi M9 o 2) M9 (fun r11 M10 =>
              wJ9_max_7cf53 (gi M9 o 3) r11 M10 (fun r13 M12 =>
                ∀ M14 : xMem, M14 = si M12 o 3 r13 →
                ∀ v15 : Int32, v15 = x3 + 1 →
                wX9_take_50 o post n v15 M14)))))
def wX9_take  (o : Nat) (a1 : Int32) (M : xMem) (post : xMem → Prop) : Prop :=
    wJ9_min_7cf53 73 72 M (fun r2 M1 =>
      wJ9_min_7cf53 a1 r2 M1 (fun r4 M3 =>
        wJ9_max_7cf53 0 r4 M3 (fun r6 M5 =>
          ∀ M7 : xMem, M7 = si M5 o 1 r6 →
          cpyok 0 0 (gi M7 o 1) 73 72 ∧
          ∀ M9 : xMem, M9 = cpy M7 16 ((o + 1)) 0 0 (gi M7 o 1) →
          ∀ M10 : xMem, M10 = si M9 o 2 0 →
          ∀ M11 : xMem, M11 = si M10 o 3 0 →
          ∀ M12 : xMem, M12 = si M11 o 4 0 →
          ∃ n50 : Nat, wX9_take_50 o post n50 0 M12)))
abbrev rm_X9_openBehind : Room := { frames := 3, cells := 0, slots := 0, locals := 62 }
theorem yd_X9_openBehind : yX9_openBehind.cls ≠ "java/lang/invoke/MethodHandle" ∧ yX9_openBehind.cls ≠ "java/lang/invoke/VarHandle" ∧ (parseMethodDescriptor yX9_openBehind.desc).map (fun d => d.parameters.length) = some 3 := by decide +kernel
def wX9_openBehind_10  (o : Nat)  (post : Int32 → xMem → Prop) : Nat → Int32 → Int32 → Int32 → xMem → Prop
  | 0 => fun _ _ _ _ => False
  | n + 1 => fun x2 x4 x5 M =>
      if x2 ≤ x5 then (
        post x4 M)
      else (
        if (gi M o 1) ≤ x5 then (
          post x4 M)
        else (
          vp_in x5 72 ∧
          wX9_behindTurn (gi M ((o + 1)) x5.toNatClampNeg) x4 M (fun r5 M4 =>
            ∀ v6 : Int32, v6 = x5 + 1 →
            wX9_openBehind_10 o post n x2 r5 v6 M4)))
def wX9_openBehind  (o : Nat) (a0 : Int32) (a1 : Int32) (a2 : Int32) (M : xMem) (post : Int32 → xMem → Prop) : Prop :=
    wJ9_max_7cf53 0 a0 M (fun r2 M1 =>
      ∃ n10 : Nat, wX9_openBehind_10 o post n10 a1 a2 r2 M1)
abbrev rm_X9_yawnsLike : Room := { frames := 3, cells := 0, slots := 0, locals := 62 }
theorem yd_X9_yawnsLike : yX9_yawnsLike.cls ≠ "java/lang/invoke/MethodHandle" ∧ yX9_yawnsLike.cls ≠ "java/lang/invoke/VarHandle" ∧ (parseMethodDescriptor yX9_yawnsLike.desc).map (fun d => d.parameters.length) = some 4 := by decide +kernel
def wX9_yawnsLike_83  (o : Nat) (K6 : Int32 → Int32 → Int32 → Int32 → Int32 → xMem → Prop) (post : Int32 → xMem → Prop) (x2 : Int32) (x3 : Int32) (x4 : Int32) (x5 : Int32) (x6 : Int32) (M : xMem) : Prop :=
    ∀ v1 : Int32, v1 = x6 + 1 →
    K6 x2 x3 x4 x5 v1 M
def wX9_yawnsLike_46  (o : Nat) (K6 : Int32 → Int32 → Int32 → Int32 → Int32 → xMem → Prop) (post : Int32 → xMem → Prop) (x2 : Int32) (x3 : Int32) (x4 : Int32) (x5 : Int32) (x6 : Int32) (M : xMem) : Prop :=
    ∀ v1 : Int32, v1 = x6 - ((gi M o 1) - x2) →
    if v1 < 0 then (
      wX9_yawnsLike_83 o K6 post x2 x3 x4 x5 x6 M)
    else (
      if 260 ≤ v1 then (
        wX9_yawnsLike_83 o K6 post x2 x3 x4 x5 x6 M)
      else (
        vp_in v1 260 ∧
        wJ6_bitCount_0f7a4 x5 M (fun r6 M5 =>
          if (gi M 1 v1.toNatClampNeg) = r6 then (
            wX9_yawnsLike_83 o K6 post x2 x3 x4 x5 x6 M5)
          else (
            post 0 M5))))
def wX9_yawnsLike_6  (o : Nat)  (post : Int32 → xMem → Prop) : Nat → Int32 → Int32 → Int32 → Int32 → Int32 → xMem → Prop
  | 0 => fun _ _ _ _ _ _ => False
  | n + 1 => fun x2 x3 x4 x5 x6 M =>
      if (gi M o 1) ≤ x6 then (
        post 1 M)
      else (
        vp_in x6 72 ∧
        wX9_behindTurn (gi M ((o + 1)) x6.toNatClampNeg) x5 M (fun r4 M3 =>
          if (x6 + 1) = x3 then (
            ∀ v6 : Int32, v6 = r4 &&& (x4 ^^^ (-1)) →
            wX9_yawnsLike_46 o (wX9_yawnsLike_6 o post n) post x2 x3 x4 v6 x6 M3)
          else (
            wX9_yawnsLike_46 o (wX9_yawnsLike_6 o post n) post x2 x3 x4 r4 x6 M3)))
def wX9_yawnsLike  (o : Nat) (a1 : Int32) (a2 : Int32) (a3 : Int32) (M : xMem) (post : Int32 → xMem → Prop) : Prop :=
    ∃ n6 : Nat, wX9_yawnsLike_6 o post n6 a1 a2 a3 0 0 M
set_option maxHeartbeats 4000000 in
set_option maxRecDepth 100000 in
theorem tX9_isClosing {g : xG} (hg : x_inj (WC g))  (l : Launch) (a0 : Int32) (M : xMem) (post : Int32 → xMem → Prop)  (h : wX9_isClosing a0 M post) : xMet (WC g) l yX9_isClosing cX9_isClosing 1 (some .boolean) (rm_X9_isClosing) [.int a0] M (pI post) := by
  refine x_enter (own := RX9) (L0 := [(0, .int a0)]) (by decide +kernel) rfl hg (x_stC g) (Nat.le_of_ble_eq_true rfl) rfl (fun x hl C => ?_)
  unfold wX9_isClosing at h
  refine x_iload_n C 0 rfl rfl dX9_isClosing_0 ?_
  refine x_bipush C (v1 := 10) dX9_isClosing_1 (by decide) ?_
  refine x_icmp_lt C (tgt := 16) dX9_isClosing_3 (by decide) (fun hq1 => ?_) (fun hq1 => ?_)
  · replace h := x_ift hq1 h
    refine x_iconst C (v1 := 0) dX9_isClosing_16 (by decide) ?_
    exact x_zret C rfl dX9_isClosing_17 ⟨_, rfl, h⟩
  · replace h := x_iff hq1 h
    refine x_iload_n C 0 rfl rfl dX9_isClosing_6 ?_
    refine x_bipush C (v1 := 20) dX9_isClosing_7 (by decide) ?_
    refine x_icmp_ge C (tgt := 16) dX9_isClosing_9 (by decide) (fun hq2 => ?_) (fun hq2 => ?_)
    · replace h := x_ift hq2 h
      refine x_iconst C (v1 := 0) dX9_isClosing_16 (by decide) ?_
      exact x_zret C rfl dX9_isClosing_17 ⟨_, rfl, h⟩
    · replace h := x_iff hq2 h
      refine x_iconst C (v1 := 1) dX9_isClosing_12 (by decide) ?_
      refine x_goto C (tgt := 17) dX9_isClosing_13 (by decide) ?_
      exact x_zret C rfl dX9_isClosing_17 ⟨_, rfl, h⟩
set_option maxHeartbeats 4000000 in
set_option maxRecDepth 100000 in
theorem tX9_namedBy {g : xG} (hg : x_inj (WC g))  (l : Launch) (a0 : Int32) (M : xMem) (post : Int32 → xMem → Prop)  (h : wX9_namedBy a0 M post) : xMet (WC g) l yX9_namedBy cX9_namedBy 1 (some .int) (rm_X9_namedBy) [.int a0] M (pI post) := by
  refine x_enter (own := RX9) (L0 := [(0, .int a0)]) (by decide +kernel) rfl hg (x_stC g) (Nat.le_of_ble_eq_true rfl) rfl (fun x hl C => ?_)
  unfold wX9_namedBy at h
  refine x_iload_n C 0 rfl rfl dX9_namedBy_0 ?_
  refine x_if_lt C (tgt := 10) dX9_namedBy_1 (by decide) (fun hq1 => ?_) (fun hq1 => ?_)
  · replace h := x_ift hq1 h
    refine x_iconst C (v1 := 0) dX9_namedBy_10 (by decide) ?_
    exact x_iret C dX9_namedBy_11 ⟨_, rfl, h⟩
  · replace h := x_iff hq1 h
    refine x_iload_n C 0 rfl rfl dX9_namedBy_4 ?_
    refine x_bipush C (v1 := 20) dX9_namedBy_5 (by decide) ?_
    refine x_icmp_lt C (tgt := 12) dX9_namedBy_7 (by decide) (fun hq2 => ?_) (fun hq2 => ?_)
    · replace h := x_ift hq2 h
      refine x_iconst C (v1 := 1) dX9_namedBy_12 (by decide) ?_
      refine x_iload_n C 0 rfl rfl dX9_namedBy_13 ?_
      refine x_callS C (st := [.int 1]) (As := [.int a0]) (tX9_isClosing hg _ _ _ _  h) wm_X9_55 wsm_X9_isClosing wz_X9 wc_X9_isClosing yd_X9_isClosing rfl ⟨rfl, rfl⟩ ⟨Nat.le_of_ble_eq_true rfl, Nat.le_of_ble_eq_true rfl⟩ (Nat.le_of_ble_eq_true rfl) rfl dX9_namedBy_14 (x_ki (fun r4 M3 h => ?_))
      refine x_if_eq C (tgt := 27) dX9_namedBy_17 (by decide) (fun hq5 => ?_) (fun hq5 => ?_)
      · replace h := x_ift hq5 h
        refine x_iload_n C 0 rfl rfl dX9_namedBy_27 ?_
        refine x_ishl C dX9_namedBy_28 ?_
        exact x_iret C dX9_namedBy_29 ⟨_, rfl, h⟩
      · replace h := x_iff hq5 h
        refine x_iload_n C 0 rfl rfl dX9_namedBy_20 ?_
        refine x_bipush C (v1 := 10) dX9_namedBy_21 (by decide) ?_
        refine x_isub C dX9_namedBy_23 ?_
        refine x_goto C (tgt := 28) dX9_namedBy_24 (by decide) ?_
        refine x_ishl C dX9_namedBy_28 ?_
        exact x_iret C dX9_namedBy_29 ⟨_, rfl, h⟩
    · replace h := x_iff hq2 h
      refine x_iconst C (v1 := 0) dX9_namedBy_10 (by decide) ?_
      exact x_iret C dX9_namedBy_11 ⟨_, rfl, h⟩
set_option maxHeartbeats 4000000 in
set_option maxRecDepth 100000 in
theorem tX9_behindTurn {g : xG} (hg : x_inj (WC g))  (l : Launch) (a0 : Int32) (a1 : Int32) (M : xMem) (post : Int32 → xMem → Prop)  (h : wX9_behindTurn a0 a1 M post) : xMet (WC g) l yX9_behindTurn cX9_behindTurn 3 (some .int) (rm_X9_behindTurn) [.int a0, .int a1] M (pI post) := by
  refine x_enter (own := RX9) (L0 := [(0, .int a0), (1, .int a1)]) (by decide +kernel) rfl hg (x_stC g) (Nat.le_of_ble_eq_true rfl) rfl (fun x hl C => ?_)
  unfold wX9_behindTurn at h
  refine x_iload_n C 0 rfl rfl dX9_behindTurn_0 ?_
  refine x_bipush C (v1 := 20) dX9_behindTurn_1 (by decide) ?_
  refine x_icmp_ne C (tgt := 21) dX9_behindTurn_3 (by decide) (fun hq1 => ?_) (fun hq1 => ?_)
  · replace h := x_iff hq1 h
    refine x_iload_n C 0 rfl rfl dX9_behindTurn_21 ?_
    refine x_callS C (st := []) (As := [.int a0]) (tX9_isClosing hg _ _ _ _  h) wm_X9_55 wsm_X9_isClosing wz_X9 wc_X9_isClosing yd_X9_isClosing rfl ⟨rfl, rfl⟩ ⟨Nat.le_of_ble_eq_true rfl, Nat.le_of_ble_eq_true rfl⟩ (Nat.le_of_ble_eq_true rfl) rfl dX9_behindTurn_22 (x_ki (fun r3 M2 h => ?_))
    refine x_if_eq C (tgt := 39) dX9_behindTurn_25 (by decide) (fun hq4 => ?_) (fun hq4 => ?_)
    · replace h := x_ift hq4 h
      refine x_iload_n C 1 rfl rfl dX9_behindTurn_39 ?_
      refine x_iload_n C 0 rfl rfl dX9_behindTurn_40 ?_
      refine x_callS C (st := [.int a1]) (As := [.int a0]) (tX9_namedBy hg _ _ _ _  h) wm_X9_46 wsm_X9_namedBy wz_X9 wc_X9_namedBy yd_X9_namedBy rfl ⟨rfl, rfl⟩ ⟨Nat.le_of_ble_eq_true rfl, Nat.le_of_ble_eq_true rfl⟩ (Nat.le_of_ble_eq_true rfl) rfl dX9_behindTurn_41 (x_ki (fun r6 M5 h => ?_))
      refine x_ior C dX9_behindTurn_44 ?_
      exact x_iret C dX9_behindTurn_45 ⟨_, rfl, h⟩
    · replace h := x_iff hq4 h
      refine x_iload_n C 1 rfl rfl dX9_behindTurn_28 ?_
      refine x_iload_n C 0 rfl rfl dX9_behindTurn_29 ?_
      refine x_callS C (st := [.int a1]) (As := [.int a0]) (tX9_namedBy hg _ _ _ _  h) wm_X9_46 wsm_X9_namedBy wz_X9 wc_X9_namedBy yd_X9_namedBy rfl ⟨rfl, rfl⟩ ⟨Nat.le_of_ble_eq_true rfl, Nat.le_of_ble_eq_true rfl⟩ (Nat.le_of_ble_eq_true rfl) rfl dX9_behindTurn_30 (x_ki (fun r8 M7 h => ?_))
      refine x_iconst C (v1 := (-1)) dX9_behindTurn_33 (by decide) ?_
      refine x_ixor C dX9_behindTurn_34 ?_
      refine x_iand C dX9_behindTurn_35 ?_
      refine x_goto C (tgt := 45) dX9_behindTurn_36 (by decide) ?_
      exact x_iret C dX9_behindTurn_45 ⟨_, rfl, h⟩
  · replace h := x_ift hq1 h
    refine x_iload_n C 1 rfl rfl dX9_behindTurn_6 ?_
    refine x_iconst C (v1 := (-1)) dX9_behindTurn_7 (by decide) ?_
    refine x_ixor C dX9_behindTurn_8 ?_
    refine x_sipush C (v1 := 1023) dX9_behindTurn_9 (by decide) ?_
    refine x_iand C dX9_behindTurn_12 ?_
    refine x_nm (fun v9 ev9 => ?_)
    replace h := h v9 ev9
    refine x_istore_n C (L' := [(2, .int v9), (0, .int a0), (1, .int a1)]) rfl rfl (Nat.le_of_ble_eq_true rfl) dX9_behindTurn_13 ?_
    refine x_iload_n C 2 rfl rfl dX9_behindTurn_14 ?_
    refine x_iload_n C 0 rfl rfl dX9_behindTurn_15 ?_
    refine x_iload_n C 0 rfl rfl dX9_behindTurn_16 ?_
    refine x_ineg C dX9_behindTurn_17 ?_
    refine x_iand C dX9_behindTurn_18 ?_
    refine x_ior C dX9_behindTurn_19 ?_
    exact x_iret C dX9_behindTurn_20 ⟨_, rfl, h⟩
set_option maxHeartbeats 4000000 in
set_option maxRecDepth 100000 in
theorem tX9_take_50 {g : xG} (hg : x_inj (WC g))  {x : xCx} {o : Nat}  {post : xMem → Prop} (C : xOk (WC g) x cX9_take RX9 5 none (rm_X9_take) (pV post)) (ho : kC o = 9)  : ∀ (n : Nat) (x3 : Int32) (M : xMem), wX9_take_50 o post n x3 M → xW (WC g) x 5 50 [(0, .ref (ga g o)), (3, .int x3)] [] M := by
  intro n
  induction n with
  | zero =>
    intro x3 M  h
    exact h.elim
  | succ n ih =>
    intro x3 M  h
    rw [wX9_take_50] at h
    refine x_iload_n C 1 rfl rfl dX9_take_50 ?_
    refine x_aload_n C 0 rfl rfl dX9_take_51 ?_
    refine x_get C (c := o) (ci := 9) (k1 := 1) (v1 := .int (gi M o 1)) (enC_9 (c := o) ho) (kC_lt ho (by decide)) rfl inX9 (by decide) wf_X9_15 rfl dX9_take_52 ?_
    refine x_icmp_ge C (tgt := 131) dX9_take_55 (by decide) (fun hq1 => ?_) (fun hq1 => ?_)
    · replace h := x_ift hq1 h
      exact x_vret C dX9_take_131 ⟨rfl, h⟩
    · replace h := x_iff hq1 h
      refine x_aload_n C 0 rfl rfl dX9_take_58 ?_
      refine x_get C (c := o) (ci := 9) (k1 := 0) (v1 := .ref (ga g ((o + 1)))) (enC_9 (c := o) ho) (kC_lt ho (by decide)) rfl inX9 (by decide) wf_X9_9 rfl dX9_take_59 ?_
      refine x_iload_n C 1 rfl rfl dX9_take_62 ?_
      obtain ⟨hi2, h⟩ := h
      refine x_iald C 0 (c := (o + 1)) (enC_20n (c := (o + 1)) (n := 72) (krX9_1 ho) (lrX9_1 ho)) (kC_lt (krX9_1 ho) (by decide)) rfl hi2 dX9_take_63 ?_
      refine x_aload_n C 0 rfl rfl dX9_take_64 ?_
      refine x_get C (c := o) (ci := 9) (k1 := 2) (v1 := .int (gi M o 2)) (enC_9 (c := o) ho) (kC_lt ho (by decide)) rfl inX9 (by decide) wf_X9_19 rfl dX9_take_65 ?_
      refine x_callS C (st := []) (As := [.int (gi M ((o + 1)) x3.toNatClampNeg), .int (gi M o 2)]) (tX9_behindTurn hg _ _ _ _ _  h) wm_X9_43 wsm_X9_behindTurn wz_X9 wc_X9_behindTurn yd_X9_behindTurn rfl ⟨rfl, rfl⟩ ⟨Nat.le_of_ble_eq_true rfl, Nat.le_of_ble_eq_true rfl⟩ (Nat.le_of_ble_eq_true rfl) rfl dX9_take_68 (x_ki (fun r4 M3 h => ?_))
      refine x_istore C (L' := [(4, .int r4), (0, .ref (ga g o)), (3, .int x3)]) rfl (Nat.le_of_ble_eq_true rfl) dX9_take_71 ?_
      refine x_aload_n C 1 rfl rfl dX9_take_73 ?_
      refine x_dup C rfl dX9_take_74 ?_
      refine x_get C (c := o) (ci := 9) (k1 := 4) (v1 := .int (gi M3 o 4)) (enC_9 (c := o) ho) (kC_lt ho (by decide)) rfl inX9 (by decide) wf_X9_25 rfl dX9_take_75 ?_
      refine x_aload_n C 1 rfl rfl dX9_take_78 ?_
      refine x_get C (c := o) (ci := 9) (k1 := 0) (v1 := .ref (ga g ((o + 1)))) (enC_9 (c := o) ho) (kC_lt ho (by decide)) rfl inX9 (by decide) wf_X9_9 rfl dX9_take_79 ?_
      refine x_iload_n C 2 rfl rfl dX9_take_82 ?_
      obtain ⟨hi5, h⟩ := h
      refine x_iald C 0 (c := (o + 1)) (enC_20n (c := (o + 1)) (n := 72) (krX9_1 ho) (lrX9_1 ho)) (kC_lt (krX9_1 ho) (by decide)) rfl hi5 dX9_take_83 ?_
      refine x_callS C (st := [.int (gi M3 o 4), .ref (ga g o)]) (As := [.int (gi M3 ((o + 1)) x3.toNatClampNeg)]) (tX9_namedBy hg _ _ _ _  h) wm_X9_46 wsm_X9_namedBy wz_X9 wc_X9_namedBy yd_X9_namedBy rfl ⟨rfl, rfl⟩ ⟨Nat.le_of_ble_eq_true rfl, Nat.le_of_ble_eq_true rfl⟩ (Nat.le_of_ble_eq_true rfl) rfl dX9_take_84 (x_ki (fun r7 M6 h => ?_))
      refine x_iload C 0 rfl dX9_take_87 ?_
      refine x_aload_n C 1 rfl rfl dX9_take_89 ?_
      refine x_get C (c := o) (ci := 9) (k1 := 2) (v1 := .int (gi M6 o 2)) (enC_9 (c := o) ho) (kC_lt ho (by decide)) rfl inX9 (by decide) wf_X9_19 rfl dX9_take_90 ?_
      refine x_iconst C (v1 := (-1)) dX9_take_93 (by decide) ?_
      refine x_ixor C dX9_take_94 ?_
      refine x_iand C dX9_take_95 ?_
      refine x_ior C dX9_take_96 ?_
      refine x_ior C dX9_take_97 ?_
      refine x_put C (c := o) (ci := 9) (k1 := 4) (u1 := ((gi M3 o 4) ||| (r7 ||| (r4 &&& ((gi M6 o 2) ^^^ (-1)))))) (v1 := .int ((gi M3 o 4) ||| (r7 ||| (r4 &&& ((gi M6 o 2) ^^^ (-1)))))) (ty := .int) (enC_9 (c := o) ho) (kC_lt ho (by decide)) rfl inX9 (by decide) (stX9_4 _ _ _) tyX9 tyX9_ok nmX9 wf_X9_25 rfl rfl rfl rfl (Nat.le_of_ble_eq_true rfl) dX9_take_98 ?_
      refine x_nmM (fun M8 eM8 => ?_)
      replace h := h M8 eM8
      refine x_aload_n C 1 rfl rfl dX9_take_101 ?_
      refine x_iload C 0 rfl dX9_take_102 ?_
      refine x_put C (c := o) (ci := 9) (k1 := 2) (u1 := r4) (v1 := .int r4) (ty := .int) (enC_9 (c := o) ho) (kC_lt ho (by decide)) rfl inX9 (by decide) (stX9_2 _ _ _) tyX9 tyX9_ok nmX9 wf_X9_19 rfl rfl rfl rfl (Nat.le_of_ble_eq_true rfl) dX9_take_104 ?_
      refine x_nmM (fun M9 eM9 => ?_)
      replace h := h M9 eM9
      refine x_aload_n C 1 rfl rfl dX9_take_107 ?_
      refine x_aload_n C 1 rfl rfl dX9_take_108 ?_
      refine x_get C (c := o) (ci := 9) (k1 := 3) (v1 := .int (gi M9 o 3)) (enC_9 (c := o) ho) (kC_lt ho (by decide)) rfl inX9 (by decide) wf_X9_22 rfl dX9_take_109 ?_
      refine x_aload_n C 1 rfl rfl dX9_take_112 ?_
      refine x_get C (c := o) (ci := 9) (k1 := 2) (v1 := .int (gi M9 o 2)) (enC_9 (c := o) ho) (kC_lt ho (by decide)) rfl inX9 (by decide) wf_X9_19 rfl dX9_take_113 ?_
      refine x_callS C (st := [.int (gi M9 o 3), .ref (ga g o)]) (As := [.int (gi M9 o 2)]) (tJ6_bitCount_0f7a4 hg _ _ _ _  h) wm_X9_50 wsm_J6_bitCount_0f7a4 wz_J6 wc_J6_bitCount_0f7a4 yd_J6_bitCount_0f7a4 rfl ⟨rfl, rfl⟩ ⟨Nat.le_of_ble_eq_true rfl, Nat.le_of_ble_eq_true rfl⟩ (Nat.le_of_ble_eq_true rfl) rfl dX9_take_116 (x_ki (fun r11 M10 h => ?_))
      refine x_callS C (st := [.ref (ga g o)]) (As := [.int (gi M9 o 3), .int r11]) (tJ9_max_7cf53 hg _ _ _ _ _  h) wm_X9_34 wsm_J9_max_7cf53 wz_J9 wc_J9_max_7cf53 yd_J9_max_7cf53 rfl ⟨rfl, rfl⟩ ⟨Nat.le_of_ble_eq_true rfl, Nat.le_of_ble_eq_true rfl⟩ (Nat.le_of_ble_eq_true rfl) rfl dX9_take_119 (x_ki (fun r13 M12 h => ?_))
      refine x_put C (c := o) (ci := 9) (k1 := 3) (u1 := r13) (v1 := .int r13) (ty := .int) (enC_9 (c := o) ho) (kC_lt ho (by decide)) rfl inX9 (by decide) (stX9_3 _ _ _) tyX9 tyX9_ok nmX9 wf_X9_22 rfl rfl rfl rfl (Nat.le_of_ble_eq_true rfl) dX9_take_122 ?_
      refine x_nmM (fun M14 eM14 => ?_)
      replace h := h M14 eM14
      obtain ⟨v15, ev15⟩ : ∃ z : Int32, z = x3 + 1 := ⟨_, rfl⟩
      replace h := h v15 ev15
      refine x_iinc C 2 (v1 := v15) (L' := [(3, .int v15), (4, .int r4), (0, .ref (ga g o))]) rfl (by rw [ev15]; rfl) rfl (Nat.le_of_ble_eq_true rfl) dX9_take_125 ?_
      refine x_goto C (tgt := 50) dX9_take_128 (by decide) ?_
      refine x_loc (L' := [(0, .ref (ga g o)), (3, .int v15)]) [2, 0] rfl ?_
      exact ih _ _  h
set_option maxHeartbeats 4000000 in
set_option maxRecDepth 100000 in
theorem tX9_take {g : xG} (hg : x_inj (WC g))  (l : Launch) (o : Nat) (a1 : Int32) (M : xMem) (post : xMem → Prop) (ho : kC o = 9) (h : wX9_take o a1 M post) : xMet (WC g) l yX9_take cX9_take 5 none (rm_X9_take) [.ref (ga g o), .ref (ga g 16), .int a1] M (pV post) := by
  refine x_enter (own := RX9) (L0 := [(0, .ref (ga g o)), (1, .ref (ga g 16)), (2, .int a1)]) (by decide +kernel) rfl hg (x_stC g) (Nat.le_of_ble_eq_true rfl) rfl (fun x hl C => ?_)
  unfold wX9_take at h
  refine x_aload_n C 0 rfl rfl dX9_take_0 ?_
  refine x_iconst C (v1 := 0) dX9_take_1 (by decide) ?_
  refine x_iload_n C 2 rfl rfl dX9_take_2 ?_
  refine x_aload_n C 1 rfl rfl dX9_take_3 ?_
  refine x_aleni C (c := 16) (v1 := 73) (enC_20n (c := 16) (n := 73) rfl rfl) (Nat.le_of_ble_eq_true rfl) rfl rfl dX9_take_4 ?_
  refine x_bipush C (v1 := 72) dX9_take_5 (by decide) ?_
  refine x_callS C (st := [.int a1, .int 0, .ref (ga g o)]) (As := [.int 73, .int 72]) (tJ9_min_7cf53 hg _ _ _ _ _  h) wm_X9_28 wsm_J9_min_7cf53 wz_J9 wc_J9_min_7cf53 yd_J9_min_7cf53 rfl ⟨rfl, rfl⟩ ⟨Nat.le_of_ble_eq_true rfl, Nat.le_of_ble_eq_true rfl⟩ (Nat.le_of_ble_eq_true rfl) rfl dX9_take_7 (x_ki (fun r2 M1 h => ?_))
  refine x_callS C (st := [.int 0, .ref (ga g o)]) (As := [.int a1, .int r2]) (tJ9_min_7cf53 hg _ _ _ _ _  h) wm_X9_28 wsm_J9_min_7cf53 wz_J9 wc_J9_min_7cf53 yd_J9_min_7cf53 rfl ⟨rfl, rfl⟩ ⟨Nat.le_of_ble_eq_true rfl, Nat.le_of_ble_eq_true rfl⟩ (Nat.le_of_ble_eq_true rfl) rfl dX9_take_10 (x_ki (fun r4 M3 h => ?_))
  refine x_callS C (st := [.ref (ga g o)]) (As := [.int 0, .int r4]) (tJ9_max_7cf53 hg _ _ _ _ _  h) wm_X9_34 wsm_J9_max_7cf53 wz_J9 wc_J9_max_7cf53 yd_J9_max_7cf53 rfl ⟨rfl, rfl⟩ ⟨Nat.le_of_ble_eq_true rfl, Nat.le_of_ble_eq_true rfl⟩ (Nat.le_of_ble_eq_true rfl) rfl dX9_take_13 (x_ki (fun r6 M5 h => ?_))
  refine x_put C (c := o) (ci := 9) (k1 := 1) (u1 := r6) (v1 := .int r6) (ty := .int) (enC_9 (c := o) ho) (kC_lt ho (by decide)) rfl inX9 (by decide) (stX9_1 _ _ _) tyX9 tyX9_ok nmX9 wf_X9_15 rfl rfl rfl rfl (Nat.le_of_ble_eq_true rfl) dX9_take_16 ?_
  refine x_nmM (fun M7 eM7 => ?_)
  replace h := h M7 eM7
  refine x_aload_n C 1 rfl rfl dX9_take_19 ?_
  refine x_iconst C (v1 := 0) dX9_take_20 (by decide) ?_
  refine x_aload_n C 0 rfl rfl dX9_take_21 ?_
  refine x_get C (c := o) (ci := 9) (k1 := 0) (v1 := .ref (ga g ((o + 1)))) (enC_9 (c := o) ho) (kC_lt ho (by decide)) rfl inX9 (by decide) wf_X9_9 rfl dX9_take_22 ?_
  refine x_iconst C (v1 := 0) dX9_take_25 (by decide) ?_
  refine x_aload_n C 0 rfl rfl dX9_take_26 ?_
  refine x_get C (c := o) (ci := 9) (k1 := 1) (v1 := .int (gi M7 o 1)) (enC_9 (c := o) ho) (kC_lt ho (by decide)) rfl inX9 (by decide) wf_X9_15 rfl dX9_take_27 ?_
  obtain ⟨hk8, h⟩ := h
  refine x_acopy C 0 (c := 16) (d := (o + 1)) (sp := 0) (dp := 0) (n := gi M7 o 1) (enC_20n (c := 16) (n := 73) rfl rfl) (enC_20n (c := (o + 1)) (n := 72) (krX9_1 ho) (lrX9_1 ho)) (Nat.le_of_ble_eq_true rfl) (kC_lt (krX9_1 ho) (by decide)) rfl wm_X9_37 (by first | exact wna_arraycopy) (wsm_arraycopy) wz_system hk8 (Nat.le_of_ble_eq_true rfl) (Nat.le_of_ble_eq_true rfl) dX9_take_30 ?_
  refine x_nmM (fun M9 eM9 => ?_)
  replace h := h M9 eM9
  refine x_aload_n C 0 rfl rfl dX9_take_33 ?_
  refine x_iconst C (v1 := 0) dX9_take_34 (by decide) ?_
  refine x_put C (c := o) (ci := 9) (k1 := 2) (u1 := 0) (v1 := .int 0) (ty := .int) (enC_9 (c := o) ho) (kC_lt ho (by decide)) rfl inX9 (by decide) (stX9_2 _ _ _) tyX9 tyX9_ok nmX9 wf_X9_19 rfl rfl rfl rfl (Nat.le_of_ble_eq_true rfl) dX9_take_35 ?_
  refine x_nmM (fun M10 eM10 => ?_)
  replace h := h M10 eM10
  refine x_aload_n C 0 rfl rfl dX9_take_38 ?_
  refine x_iconst C (v1 := 0) dX9_take_39 (by decide) ?_
  refine x_put C (c := o) (ci := 9) (k1 := 3) (u1 := 0) (v1 := .int 0) (ty := .int) (enC_9 (c := o) ho) (kC_lt ho (by decide)) rfl inX9 (by decide) (stX9_3 _ _ _) tyX9 tyX9_ok nmX9 wf_X9_22 rfl rfl rfl rfl (Nat.le_of_ble_eq_true rfl) dX9_take_40 ?_
  refine x_nmM (fun M11 eM11 => ?_)
  replace h := h M11 eM11
  refine x_aload_n C 0 rfl rfl dX9_take_43 ?_
  refine x_iconst C (v1 := 0) dX9_take_44 (by decide) ?_
  refine x_put C (c := o) (ci := 9) (k1 := 4) (u1 := 0) (v1 := .int 0) (ty := .int) (enC_9 (c := o) ho) (kC_lt ho (by decide)) rfl inX9 (by decide) (stX9_4 _ _ _) tyX9 tyX9_ok nmX9 wf_X9_25 rfl rfl rfl rfl (Nat.le_of_ble_eq_true rfl) dX9_take_45 ?_
  refine x_nmM (fun M12 eM12 => ?_)
  replace h := h M12 eM12
  refine x_iconst C (v1 := 0) dX9_take_48 (by decide) ?_
  refine x_istore_n C (L' := [(3, .int 0), (0, .ref (ga g o)), (1, .ref (ga g 16)), (2, .int a1)]) rfl rfl (Nat.le_of_ble_eq_true rfl) dX9_take_49 ?_
  refine x_loc (L' := [(0, .ref (ga g o)), (3, .int 0)]) [1, 0] rfl ?_
  obtain ⟨n50, h⟩ := h
  exact tX9_take_50 hg  C ho  _ _ _  h
set_option maxHeartbeats 4000000 in
set_option maxRecDepth 100000 in
theorem tX9_openBehind_10 {g : xG} (hg : x_inj (WC g))  {x : xCx} {o : Nat}  {post : Int32 → xMem → Prop} (C : xOk (WC g) x cX9_openBehind RX9 6 (some .int) (rm_X9_openBehind) (pI post)) (ho : kC o = 9)  : ∀ (n : Nat) (x2 : Int32) (x4 : Int32) (x5 : Int32) (M : xMem), wX9_openBehind_10 o post n x2 x4 x5 M → xW (WC g) x 6 10 [(0, .ref (ga g o)), (2, .int x2), (4, .int x4), (5, .int x5)] [] M := by
  intro n
  induction n with
  | zero =>
    intro x2 x4 x5 M  h
    exact h.elim
  | succ n ih =>
    intro x2 x4 x5 M  h
    rw [wX9_openBehind_10] at h
    refine x_iload C 3 rfl dX9_openBehind_10 ?_
    refine x_iload_n C 1 rfl rfl dX9_openBehind_12 ?_
    refine x_icmp_ge C (tgt := 45) dX9_openBehind_13 (by decide) (fun hq1 => ?_) (fun hq1 => ?_)
    · replace h := x_ift hq1 h
      refine x_iload C 2 rfl dX9_openBehind_45 ?_
      exact x_iret C dX9_openBehind_47 ⟨_, rfl, h⟩
    · replace h := x_iff hq1 h
      refine x_iload C 3 rfl dX9_openBehind_16 ?_
      refine x_aload_n C 0 rfl rfl dX9_openBehind_18 ?_
      refine x_get C (c := o) (ci := 9) (k1 := 1) (v1 := .int (gi M o 1)) (enC_9 (c := o) ho) (kC_lt ho (by decide)) rfl inX9 (by decide) wf_X9_15 rfl dX9_openBehind_19 ?_
      refine x_icmp_ge C (tgt := 45) dX9_openBehind_22 (by decide) (fun hq2 => ?_) (fun hq2 => ?_)
      · replace h := x_ift hq2 h
        refine x_iload C 2 rfl dX9_openBehind_45 ?_
        exact x_iret C dX9_openBehind_47 ⟨_, rfl, h⟩
      · replace h := x_iff hq2 h
        refine x_aload_n C 0 rfl rfl dX9_openBehind_25 ?_
        refine x_get C (c := o) (ci := 9) (k1 := 0) (v1 := .ref (ga g ((o + 1)))) (enC_9 (c := o) ho) (kC_lt ho (by decide)) rfl inX9 (by decide) wf_X9_9 rfl dX9_openBehind_26 ?_
        refine x_iload C 3 rfl dX9_openBehind_29 ?_
        obtain ⟨hi3, h⟩ := h
        refine x_iald C 0 (c := (o + 1)) (enC_20n (c := (o + 1)) (n := 72) (krX9_1 ho) (lrX9_1 ho)) (kC_lt (krX9_1 ho) (by decide)) rfl hi3 dX9_openBehind_31 ?_
        refine x_iload C 2 rfl dX9_openBehind_32 ?_
        refine x_callS C (st := []) (As := [.int (gi M ((o + 1)) x5.toNatClampNeg), .int x4]) (tX9_behindTurn hg _ _ _ _ _  h) wm_X9_43 wsm_X9_behindTurn wz_X9 wc_X9_behindTurn yd_X9_behindTurn rfl ⟨rfl, rfl⟩ ⟨Nat.le_of_ble_eq_true rfl, Nat.le_of_ble_eq_true rfl⟩ (Nat.le_of_ble_eq_true rfl) rfl dX9_openBehind_34 (x_ki (fun r5 M4 h => ?_))
        refine x_istore C (L' := [(4, .int r5), (0, .ref (ga g o)), (2, .int x2), (5, .int x5)]) rfl (Nat.le_of_ble_eq_true rfl) dX9_openBehind_37 ?_
        obtain ⟨v6, ev6⟩ : ∃ z : Int32, z = x5 + 1 := ⟨_, rfl⟩
        replace h := h v6 ev6
        refine x_iinc C 3 (v1 := v6) (L' := [(5, .int v6), (4, .int r5), (0, .ref (ga g o)), (2, .int x2)]) rfl (by rw [ev6]; rfl) rfl (Nat.le_of_ble_eq_true rfl) dX9_openBehind_39 ?_
        refine x_goto C (tgt := 10) dX9_openBehind_42 (by decide) ?_
        refine x_loc (L' := [(0, .ref (ga g o)), (2, .int x2), (4, .int r5), (5, .int v6)]) [2, 3, 1, 0] rfl ?_
        exact ih _ _ _ _  h
set_option maxHeartbeats 4000000 in
set_option maxRecDepth 100000 in
theorem tX9_openBehind {g : xG} (hg : x_inj (WC g))  (l : Launch) (o : Nat) (a0 : Int32) (a1 : Int32) (a2 : Int32) (M : xMem) (post : Int32 → xMem → Prop) (ho : kC o = 9) (h : wX9_openBehind o a0 a1 a2 M post) : xMet (WC g) l yX9_openBehind cX9_openBehind 6 (some .int) (rm_X9_openBehind) [.ref (ga g o), .int a0, .int a1, .int a2] M (pI post) := by
  refine x_enter (own := RX9) (L0 := [(0, .ref (ga g o)), (1, .int a0), (2, .int a1), (3, .int a2)]) (by decide +kernel) rfl hg (x_stC g) (Nat.le_of_ble_eq_true rfl) rfl (fun x hl C => ?_)
  unfold wX9_openBehind at h
  refine x_iload_n C 3 rfl rfl dX9_openBehind_0 ?_
  refine x_istore C (L' := [(4, .int a2), (0, .ref (ga g o)), (1, .int a0), (2, .int a1), (3, .int a2)]) rfl (Nat.le_of_ble_eq_true rfl) dX9_openBehind_1 ?_
  refine x_iconst C (v1 := 0) dX9_openBehind_3 (by decide) ?_
  refine x_iload_n C 2 rfl rfl dX9_openBehind_4 ?_
  refine x_callS C (st := []) (As := [.int 0, .int a0]) (tJ9_max_7cf53 hg _ _ _ _ _  h) wm_X9_34 wsm_J9_max_7cf53 wz_J9 wc_J9_max_7cf53 yd_J9_max_7cf53 rfl ⟨rfl, rfl⟩ ⟨Nat.le_of_ble_eq_true rfl, Nat.le_of_ble_eq_true rfl⟩ (Nat.le_of_ble_eq_true rfl) rfl dX9_openBehind_5 (x_ki (fun r2 M1 h => ?_))
  refine x_istore C (L' := [(5, .int r2), (4, .int a2), (0, .ref (ga g o)), (1, .int a0), (2, .int a1), (3, .int a2)]) rfl (Nat.le_of_ble_eq_true rfl) dX9_openBehind_8 ?_
  refine x_loc (L' := [(0, .ref (ga g o)), (2, .int a1), (4, .int a2), (5, .int r2)]) [2, 4, 1, 0] rfl ?_
  obtain ⟨n10, h⟩ := h
  exact tX9_openBehind_10 hg  C ho  _ _ _ _ _  h
set_option maxHeartbeats 4000000 in
set_option maxRecDepth 100000 in
theorem tX9_yawnsLike_83 {g : xG} (hg : x_inj (WC g))  {x : xCx} {o : Nat} {K6 : Int32 → Int32 → Int32 → Int32 → Int32 → xMem → Prop} {post : Int32 → xMem → Prop} (C : xOk (WC g) x cX9_yawnsLike RX9 8 (some .boolean) (rm_X9_yawnsLike) (pI post)) (ho : kC o = 9) (hK6 : ∀ (x2 : Int32) (x3 : Int32) (x4 : Int32) (x5 : Int32) (x6 : Int32) (M : xMem), K6 x2 x3 x4 x5 x6 M → xW (WC g) x 8 6 [(0, .ref (ga g o)), (1, .ref (ga g 1)), (2, .int x2), (3, .int x3), (4, .int x4), (5, .int x5), (6, .int x6)] [] M) (x2 : Int32) (x3 : Int32) (x4 : Int32) (x5 : Int32) (x6 : Int32) (M : xMem)  (h : wX9_yawnsLike_83 o K6 post x2 x3 x4 x5 x6 M) : xW (WC g) x 8 83 [(0, .ref (ga g o)), (1, .ref (ga g 1)), (2, .int x2), (3, .int x3), (4, .int x4), (5, .int x5), (6, .int x6)] [] M := by
  unfold wX9_yawnsLike_83 at h
  obtain ⟨v1, ev1⟩ : ∃ z : Int32, z = x6 + 1 := ⟨_, rfl⟩
  replace h := h v1 ev1
  refine x_iinc C 6 (v1 := v1) (L' := [(6, .int v1), (0, .ref (ga g o)), (1, .ref (ga g 1)), (2, .int x2), (3, .int x3), (4, .int x4), (5, .int x5)]) rfl (by rw [ev1]; rfl) rfl (Nat.le_of_ble_eq_true rfl) dX9_yawnsLike_83 ?_
  refine x_goto C (tgt := 6) dX9_yawnsLike_86 (by decide) ?_
  refine x_loc (L' := [(0, .ref (ga g o)), (1, .ref (ga g 1)), (2, .int x2), (3, .int x3), (4, .int x4), (5, .int x5), (6, .int v1)]) [1, 2, 3, 4, 5, 6, 0] rfl ?_
  exact hK6 _ _ _ _ _ _  h
set_option maxHeartbeats 4000000 in
set_option maxRecDepth 100000 in
theorem tX9_yawnsLike_46 {g : xG} (hg : x_inj (WC g))  {x : xCx} {o : Nat} {K6 : Int32 → Int32 → Int32 → Int32 → Int32 → xMem → Prop} {post : Int32 → xMem → Prop} (C : xOk (WC g) x cX9_yawnsLike RX9 8 (some .boolean) (rm_X9_yawnsLike) (pI post)) (ho : kC o = 9) (hK6 : ∀ (x2 : Int32) (x3 : Int32) (x4 : Int32) (x5 : Int32) (x6 : Int32) (M : xMem), K6 x2 x3 x4 x5 x6 M → xW (WC g) x 8 6 [(0, .ref (ga g o)), (1, .ref (ga g 1)), (2, .int x2), (3, .int x3), (4, .int x4), (5, .int x5), (6, .int x6)] [] M) (x2 : Int32) (x3 : Int32) (x4 : Int32) (x5 : Int32) (x6 : Int32) (M : xMem)  (h : wX9_yawnsLike_46 o K6 post x2 x3 x4 x5 x6 M) : xW (WC g) x 8 46 [(0, .ref (ga g o)), (1, .ref (ga g 1)), (2, .int x2), (3, .int x3), (4, .int x4), (5, .int x5), (6, .int x6)] [] M := by
  unfold wX9_yawnsLike_46 at h
  refine x_iload C 6 rfl dX9_yawnsLike_46 ?_
  refine x_aload_n C 0 rfl rfl dX9_yawnsLike_48 ?_
  refine x_get C (c := o) (ci := 9) (k1 := 1) (v1 := .int (gi M o 1)) (enC_9 (c := o) ho) (kC_lt ho (by decide)) rfl inX9 (by decide) wf_X9_15 rfl dX9_yawnsLike_49 ?_
  refine x_iload_n C 2 rfl rfl dX9_yawnsLike_52 ?_
  refine x_isub C dX9_yawnsLike_53 ?_
  refine x_isub C dX9_yawnsLike_54 ?_
  refine x_nm (fun v1 ev1 => ?_)
  replace h := h v1 ev1
  refine x_istore C (L' := [(7, .int v1), (0, .ref (ga g o)), (1, .ref (ga g 1)), (2, .int x2), (3, .int x3), (4, .int x4), (5, .int x5), (6, .int x6)]) rfl (Nat.le_of_ble_eq_true rfl) dX9_yawnsLike_55 ?_
  refine x_iload C 0 rfl dX9_yawnsLike_57 ?_
  refine x_if_lt C (tgt := 83) dX9_yawnsLike_59 (by decide) (fun hq2 => ?_) (fun hq2 => ?_)
  · replace h := x_ift hq2 h
    refine x_loc (L' := [(0, .ref (ga g o)), (1, .ref (ga g 1)), (2, .int x2), (3, .int x3), (4, .int x4), (5, .int x5), (6, .int x6)]) [1, 2, 3, 4, 5, 6, 7] rfl ?_
    exact tX9_yawnsLike_83 hg  C ho hK6 _ _ _ _ _ _  h
  · replace h := x_iff hq2 h
    refine x_iload C 0 rfl dX9_yawnsLike_62 ?_
    refine x_aload_n C 2 rfl rfl dX9_yawnsLike_64 ?_
    refine x_aleni C (c := 1) (v1 := 260) (enC_20n (c := 1) (n := 260) rfl rfl) (Nat.le_of_ble_eq_true rfl) rfl rfl dX9_yawnsLike_65 ?_
    refine x_icmp_ge C (tgt := 83) dX9_yawnsLike_66 (by decide) (fun hq3 => ?_) (fun hq3 => ?_)
    · replace h := x_ift hq3 h
      refine x_loc (L' := [(0, .ref (ga g o)), (1, .ref (ga g 1)), (2, .int x2), (3, .int x3), (4, .int x4), (5, .int x5), (6, .int x6)]) [1, 2, 3, 4, 5, 6, 7] rfl ?_
      exact tX9_yawnsLike_83 hg  C ho hK6 _ _ _ _ _ _  h
    · replace h := x_iff hq3 h
      refine x_aload_n C 2 rfl rfl dX9_yawnsLike_69 ?_
      refine x_iload C 0 rfl dX9_yawnsLike_70 ?_
      obtain ⟨hi4, h⟩ := h
      refine x_iald C 0 (c := 1) (enC_20n (c := 1) (n := 260) rfl rfl) (Nat.le_of_ble_eq_true rfl) rfl hi4 dX9_yawnsLike_72 ?_
      refine x_iload C 6 rfl dX9_yawnsLike_73 ?_
      refine x_callS C (st := [.int (gi M 1 v1.toNatClampNeg)]) (As := [.int x5]) (tJ6_bitCount_0f7a4 hg _ _ _ _  h) wm_X9_50 wsm_J6_bitCount_0f7a4 wz_J6 wc_J6_bitCount_0f7a4 yd_J6_bitCount_0f7a4 rfl ⟨rfl, rfl⟩ ⟨Nat.le_of_ble_eq_true rfl, Nat.le_of_ble_eq_true rfl⟩ (Nat.le_of_ble_eq_true rfl) rfl dX9_yawnsLike_75 (x_ki (fun r6 M5 h => ?_))
      refine x_icmp_eq C (tgt := 83) dX9_yawnsLike_78 (by decide) (fun hq7 => ?_) (fun hq7 => ?_)
      · replace h := x_ift hq7 h
        refine x_loc (L' := [(0, .ref (ga g o)), (1, .ref (ga g 1)), (2, .int x2), (3, .int x3), (4, .int x4), (5, .int x5), (6, .int x6)]) [1, 2, 3, 4, 5, 6, 7] rfl ?_
        exact tX9_yawnsLike_83 hg  C ho hK6 _ _ _ _ _ _  h
      · replace h := x_iff hq7 h
        refine x_iconst C (v1 := 0) dX9_yawnsLike_81 (by decide) ?_
        exact x_zret C rfl dX9_yawnsLike_82 ⟨_, rfl, h⟩
set_option maxHeartbeats 4000000 in
set_option maxRecDepth 100000 in
theorem tX9_yawnsLike_6 {g : xG} (hg : x_inj (WC g))  {x : xCx} {o : Nat}  {post : Int32 → xMem → Prop} (C : xOk (WC g) x cX9_yawnsLike RX9 8 (some .boolean) (rm_X9_yawnsLike) (pI post)) (ho : kC o = 9)  : ∀ (n : Nat) (x2 : Int32) (x3 : Int32) (x4 : Int32) (x5 : Int32) (x6 : Int32) (M : xMem), wX9_yawnsLike_6 o post n x2 x3 x4 x5 x6 M → xW (WC g) x 8 6 [(0, .ref (ga g o)), (1, .ref (ga g 1)), (2, .int x2), (3, .int x3), (4, .int x4), (5, .int x5), (6, .int x6)] [] M := by
  intro n
  induction n with
  | zero =>
    intro x2 x3 x4 x5 x6 M  h
    exact h.elim
  | succ n ih =>
    intro x2 x3 x4 x5 x6 M  h
    rw [wX9_yawnsLike_6] at h
    refine x_iload C 6 rfl dX9_yawnsLike_6 ?_
    refine x_aload_n C 0 rfl rfl dX9_yawnsLike_8 ?_
    refine x_get C (c := o) (ci := 9) (k1 := 1) (v1 := .int (gi M o 1)) (enC_9 (c := o) ho) (kC_lt ho (by decide)) rfl inX9 (by decide) wf_X9_15 rfl dX9_yawnsLike_9 ?_
    refine x_icmp_ge C (tgt := 89) dX9_yawnsLike_12 (by decide) (fun hq1 => ?_) (fun hq1 => ?_)
    · replace h := x_ift hq1 h
      refine x_iconst C (v1 := 1) dX9_yawnsLike_89 (by decide) ?_
      exact x_zret C rfl dX9_yawnsLike_90 ⟨_, rfl, h⟩
    · replace h := x_iff hq1 h
      refine x_aload_n C 0 rfl rfl dX9_yawnsLike_15 ?_
      refine x_get C (c := o) (ci := 9) (k1 := 0) (v1 := .ref (ga g ((o + 1)))) (enC_9 (c := o) ho) (kC_lt ho (by decide)) rfl inX9 (by decide) wf_X9_9 rfl dX9_yawnsLike_16 ?_
      refine x_iload C 6 rfl dX9_yawnsLike_19 ?_
      obtain ⟨hi2, h⟩ := h
      refine x_iald C 0 (c := (o + 1)) (enC_20n (c := (o + 1)) (n := 72) (krX9_1 ho) (lrX9_1 ho)) (kC_lt (krX9_1 ho) (by decide)) rfl hi2 dX9_yawnsLike_21 ?_
      refine x_iload C 5 rfl dX9_yawnsLike_22 ?_
      refine x_callS C (st := []) (As := [.int (gi M ((o + 1)) x6.toNatClampNeg), .int x5]) (tX9_behindTurn hg _ _ _ _ _  h) wm_X9_43 wsm_X9_behindTurn wz_X9 wc_X9_behindTurn yd_X9_behindTurn rfl ⟨rfl, rfl⟩ ⟨Nat.le_of_ble_eq_true rfl, Nat.le_of_ble_eq_true rfl⟩ (Nat.le_of_ble_eq_true rfl) rfl dX9_yawnsLike_24 (x_ki (fun r4 M3 h => ?_))
      refine x_istore C (L' := [(5, .int r4), (0, .ref (ga g o)), (1, .ref (ga g 1)), (2, .int x2), (3, .int x3), (4, .int x4), (6, .int x6)]) rfl (Nat.le_of_ble_eq_true rfl) dX9_yawnsLike_27 ?_
      refine x_iload C 6 rfl dX9_yawnsLike_29 ?_
      refine x_iconst C (v1 := 1) dX9_yawnsLike_31 (by decide) ?_
      refine x_iadd C dX9_yawnsLike_32 ?_
      refine x_iload_n C 4 rfl rfl dX9_yawnsLike_33 ?_
      refine x_icmp_ne C (tgt := 46) dX9_yawnsLike_34 (by decide) (fun hq5 => ?_) (fun hq5 => ?_)
      · replace h := x_iff hq5 h
        refine x_loc (L' := [(0, .ref (ga g o)), (1, .ref (ga g 1)), (2, .int x2), (3, .int x3), (4, .int x4), (5, .int r4), (6, .int x6)]) [1, 2, 3, 4, 5, 0, 6] rfl ?_
        exact tX9_yawnsLike_46 hg  C ho ih _ _ _ _ _ _  h
      · replace h := x_ift hq5 h
        refine x_iload C 0 rfl dX9_yawnsLike_37 ?_
        refine x_iload C 5 rfl dX9_yawnsLike_39 ?_
        refine x_iconst C (v1 := (-1)) dX9_yawnsLike_41 (by decide) ?_
        refine x_ixor C dX9_yawnsLike_42 ?_
        refine x_iand C dX9_yawnsLike_43 ?_
        refine x_nm (fun v6 ev6 => ?_)
        replace h := h v6 ev6
        refine x_istore C (L' := [(5, .int v6), (0, .ref (ga g o)), (1, .ref (ga g 1)), (2, .int x2), (3, .int x3), (4, .int x4), (6, .int x6)]) rfl (Nat.le_of_ble_eq_true rfl) dX9_yawnsLike_44 ?_
        refine x_loc (L' := [(0, .ref (ga g o)), (1, .ref (ga g 1)), (2, .int x2), (3, .int x3), (4, .int x4), (5, .int v6), (6, .int x6)]) [1, 2, 3, 4, 5, 0, 6] rfl ?_
        exact tX9_yawnsLike_46 hg  C ho ih _ _ _ _ _ _  h
set_option maxHeartbeats 4000000 in
set_option maxRecDepth 100000 in
theorem tX9_yawnsLike {g : xG} (hg : x_inj (WC g))  (l : Launch) (o : Nat) (a1 : Int32) (a2 : Int32) (a3 : Int32) (M : xMem) (post : Int32 → xMem → Prop) (ho : kC o = 9) (h : wX9_yawnsLike o a1 a2 a3 M post) : xMet (WC g) l yX9_yawnsLike cX9_yawnsLike 8 (some .boolean) (rm_X9_yawnsLike) [.ref (ga g o), .ref (ga g 1), .int a1, .int a2, .int a3] M (pI post) := by
  refine x_enter (own := RX9) (L0 := [(0, .ref (ga g o)), (1, .ref (ga g 1)), (2, .int a1), (3, .int a2), (4, .int a3)]) (by decide +kernel) rfl hg (x_stC g) (Nat.le_of_ble_eq_true rfl) rfl (fun x hl C => ?_)
  unfold wX9_yawnsLike at h
  refine x_iconst C (v1 := 0) dX9_yawnsLike_0 (by decide) ?_
  refine x_istore C (L' := [(5, .int 0), (0, .ref (ga g o)), (1, .ref (ga g 1)), (2, .int a1), (3, .int a2), (4, .int a3)]) rfl (Nat.le_of_ble_eq_true rfl) dX9_yawnsLike_1 ?_
  refine x_iconst C (v1 := 0) dX9_yawnsLike_3 (by decide) ?_
  refine x_istore C (L' := [(6, .int 0), (5, .int 0), (0, .ref (ga g o)), (1, .ref (ga g 1)), (2, .int a1), (3, .int a2), (4, .int a3)]) rfl (Nat.le_of_ble_eq_true rfl) dX9_yawnsLike_4 ?_
  refine x_loc (L' := [(0, .ref (ga g o)), (1, .ref (ga g 1)), (2, .int a1), (3, .int a2), (4, .int a3), (5, .int 0), (6, .int 0)]) [2, 3, 4, 5, 6, 1, 0] rfl ?_
  obtain ⟨n6, h⟩ := h
  exact tX9_yawnsLike_6 hg  C ho  _ _ _ _ _ _ _  h
