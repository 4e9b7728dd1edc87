abbrev rm_J9_min_7cf53 : Room := { frames := 0, cells := 0, slots := 0, locals := 0 }
theorem yd_J9_min_7cf53 : yJ9_min_7cf53.cls ≠ "java/lang/invoke/MethodHandle" ∧ yJ9_min_7cf53.cls ≠ "java/lang/invoke/VarHandle" ∧ (parseMethodDescriptor yJ9_min_7cf53.desc).map (fun d => d.parameters.length) = some 2 := by decide +kernel
def wJ9_min_7cf53  (a0 : Int32) (a1 : Int32) (M : xMem) (post : Int32 → xMem → Prop) : Prop :=
    if a1 < a0 then (
      post a1 M)
    else (
      post a0 M)
abbrev rm_J6_bitCount_0f7a4 : Room := { frames := 0, cells := 0, slots := 0, locals := 0 }
theorem yd_J6_bitCount_0f7a4 : yJ6_bitCount_0f7a4.cls ≠ "java/lang/invoke/MethodHandle" ∧ yJ6_bitCount_0f7a4.cls ≠ "java/lang/invoke/VarHandle" ∧ (parseMethodDescriptor yJ6_bitCount_0f7a4.desc).map (fun d => d.parameters.length) = some 1 := by decide +kernel
def wJ6_bitCount_0f7a4  (a0 : Int32) (M : xMem) (post : Int32 → xMem → Prop) : Prop :=
    ∀ v1 : Int32, v1 = a0 - ((xushr a0 1) &&& 1431655765) →
    ∀ v2 : Int32, v2 = (v1 &&& 858993459) + ((xushr v1 2) &&& 858993459) →
    ∀ v3 : Int32, v3 = (v2 + (xushr v2 4)) &&& 252645135 →
    ∀ v4 : Int32, v4 = v3 + (xushr v3 8) →
    ∀ v5 : Int32, v5 = v4 + (xushr v4 16) →
    post (v5 &&& 63) M
abbrev rm_J9_max_7cf53 : Room := { frames := 0, cells := 0, slots := 0, locals := 0 }
theorem yd_J9_max_7cf53 : yJ9_max_7cf53.cls ≠ "java/lang/invoke/MethodHandle" ∧ yJ9_max_7cf53.cls ≠ "java/lang/invoke/VarHandle" ∧ (parseMethodDescriptor yJ9_max_7cf53.desc).map (fun d => d.parameters.length) = some 2 := by decide +kernel
def wJ9_max_7cf53  (a0 : Int32) (a1 : Int32) (M : xMem) (post : Int32 → xMem → Prop) : Prop :=
    if a0 < a1 then (
      post a1 M)
    else (
      post a0 M)
abbrev rm_J7_fill_53178 : Room := { frames := 0, cells := 0, slots := 0, locals := 0 }
theorem yd_J7_fill_53178 : yJ7_fill_53178.cls ≠ "java/lang/invoke/MethodHandle" ∧ yJ7_fill_53178.cls ≠ "java/lang/invoke/VarHandle" ∧ (parseMethodDescriptor yJ7_fill_53178.desc).map (fun d => d.parameters.length) = some 2 := by decide +kernel
def wJ7_fill_53178_5  (o0 : Nat)  (post : xMem → Prop) : Nat → Int32 → Int32 → Int32 → xMem → Prop
  | 0 => fun _ _ _ _ => False
  | n + 1 => fun x1 x2 x3 M =>
      if x3 ≤ x2 then (
        post M)
      else (
        vp_in x2 (lC o0) ∧
        ∀ M3 : xMem, M3 = si M o0 x2.toNatClampNeg x1 →
        ∀ v4 : Int32, v4 = x2 + 1 →
        wJ7_fill_53178_5 o0 post n x1 v4 x3 M3)
def wJ7_fill_53178  (o0 : Nat) (a1 : Int32) (M : xMem) (post : xMem → Prop) : Prop :=
    ∀ v1 : Int32, v1 = nI (lC o0) →
    ∃ n5 : Nat, wJ7_fill_53178_5 o0 post n5 a1 0 v1 M
abbrev rm_J0_coder_7d493 : Room := { frames := 0, cells := 0, slots := 0, locals := 0 }
theorem yd_J0_coder_7d493 : yJ0_coder_7d493.cls ≠ "java/lang/invoke/MethodHandle" ∧ yJ0_coder_7d493.cls ≠ "java/lang/invoke/VarHandle" ∧ (parseMethodDescriptor yJ0_coder_7d493.desc).map (fun d => d.parameters.length) = some 0 := by decide +kernel
def wJ0_coder_7d493  (o : Nat) (M : xMem) (post : Int32 → xMem → Prop) : Prop :=
    if (1 : Int32) = (0 : Int32) then (
      post 1 M)
    else (
      post 0 M)
abbrev rm_J0_isLatin1_aae02 : Room := { frames := 0, cells := 0, slots := 0, locals := 0 }
theorem yd_J0_isLatin1_aae02 : yJ0_isLatin1_aae02.cls ≠ "java/lang/invoke/MethodHandle" ∧ yJ0_isLatin1_aae02.cls ≠ "java/lang/invoke/VarHandle" ∧ (parseMethodDescriptor yJ0_isLatin1_aae02.desc).map (fun d => d.parameters.length) = some 0 := by decide +kernel
def wJ0_isLatin1_aae02  (o : Nat) (M : xMem) (post : Int32 → xMem → Prop) : Prop :=
    if (1 : Int32) = (0 : Int32) then (
      post 0 M)
    else (
      if (0 : Int32) = (0 : Int32) then (
        post 1 M)
      else (
        post 0 M))
abbrev rm_J0_length_8abf5 : Room := { frames := 1, cells := 0, slots := 0, locals := 20 }
theorem yd_J0_length_8abf5 : yJ0_length_8abf5.cls ≠ "java/lang/invoke/MethodHandle" ∧ yJ0_length_8abf5.cls ≠ "java/lang/invoke/VarHandle" ∧ (parseMethodDescriptor yJ0_length_8abf5.desc).map (fun d => d.parameters.length) = some 0 := by decide +kernel
def wJ0_length_8abf5  (o : Nat) (M : xMem) (post : Int32 → xMem → Prop) : Prop :=
    wJ0_coder_7d493 o M (fun r2 M1 =>
      post ((nI (sg_len.getD o 0)) >>> (r2 &&& 31)) M1)
abbrev rm_J1_canEncode_9a6ad : Room := { frames := 0, cells := 0, slots := 0, locals := 0 }
theorem yd_J1_canEncode_9a6ad : yJ1_canEncode_9a6ad.cls ≠ "java/lang/invoke/MethodHandle" ∧ yJ1_canEncode_9a6ad.cls ≠ "java/lang/invoke/VarHandle" ∧ (parseMethodDescriptor yJ1_canEncode_9a6ad.desc).map (fun d => d.parameters.length) = some 1 := by decide +kernel
def wJ1_canEncode_9a6ad  (a0 : Int32) (M : xMem) (post : Int32 → xMem → Prop) : Prop :=
    if a0 < 0 then (
      post 0 M)
    else (
      if 255 < a0 then (
        post 0 M)
      else (
        post 1 M))
abbrev rm_J1_indexOfChar_4cfef : Room := { frames := 0, cells := 0, slots := 0, locals := 0 }
theorem yd_J1_indexOfChar_4cfef : yJ1_indexOfChar_4cfef.cls ≠ "java/lang/invoke/MethodHandle" ∧ yJ1_indexOfChar_4cfef.cls ≠ "java/lang/invoke/VarHandle" ∧ (parseMethodDescriptor yJ1_indexOfChar_4cfef.desc).map (fun d => d.parameters.length) = some 4 := by decide +kernel
def wJ1_indexOfChar_4cfef_7  (o0 : Nat)  (post : Int32 → xMem → Prop) : Nat → Int32 → Int32 → Int32 → xMem → Prop
  | 0 => fun _ _ _ _ => False
  | n + 1 => fun x3 x4 x5 M =>
      if x3 ≤ x5 then (
        post (-1) M)
      else (
        vp_in x5 (sg_len.getD o0 0) ∧
        if (sgb o0 x5) = x4 then (
          post x5 M)
        else (
          ∀ v4 : Int32, v4 = x5 + 1 →
          wJ1_indexOfChar_4cfef_7 o0 post n x3 x4 v4 M))
def wJ1_indexOfChar_4cfef  (o0 : Nat) (a1 : Int32) (a2 : Int32) (a3 : Int32) (M : xMem) (post : Int32 → xMem → Prop) : Prop :=
    ∀ v1 : Int32, v1 = a1.toInt8.toInt32 →
    ∃ n7 : Nat, wJ1_indexOfChar_4cfef_7 o0 post n7 a3 v1 a2 M
abbrev rm_J1_indexOf_4cfef : Room := { frames := 1, cells := 0, slots := 0, locals := 25 }
theorem yd_J1_indexOf_4cfef : yJ1_indexOf_4cfef.cls ≠ "java/lang/invoke/MethodHandle" ∧ yJ1_indexOf_4cfef.cls ≠ "java/lang/invoke/VarHandle" ∧ (parseMethodDescriptor yJ1_indexOf_4cfef.desc).map (fun d => d.parameters.length) = some 4 := by decide +kernel
def wJ1_indexOf_4cfef  (o0 : Nat) (a1 : Int32) (a2 : Int32) (a3 : Int32) (M : xMem) (post : Int32 → xMem → Prop) : Prop :=
    wJ1_canEncode_9a6ad a1 M (fun r2 M1 =>
      if r2 = 0 then (
        post (-1) M1)
      else (
        wJ9_max_7cf53 a2 0 M1 (fun r5 M4 =>
          wJ9_min_7cf53 a3 (nI (sg_len.getD o0 0)) M4 (fun r7 M6 =>
            if r5 < r7 then (
              wJ1_indexOfChar_4cfef o0 a1 r5 r7 M6 (fun r10 M9 =>
                post r10 M9))
            else (
              post (-1) M6)))))
abbrev rm_J0_indexOf_7cf53 : Room := { frames := 2, cells := 0, slots := 0, locals := 48 }
theorem yd_J0_indexOf_7cf53 : yJ0_indexOf_7cf53.cls ≠ "java/lang/invoke/MethodHandle" ∧ yJ0_indexOf_7cf53.cls ≠ "java/lang/invoke/VarHandle" ∧ (parseMethodDescriptor yJ0_indexOf_7cf53.desc).map (fun d => d.parameters.length) = some 2 := by decide +kernel
def wJ0_indexOf_7cf53  (o : Nat) (a0 : Int32) (a1 : Int32) (M : xMem) (post : Int32 → xMem → Prop) : Prop :=
    wJ0_isLatin1_aae02 o M (fun r2 M1 =>
      if r2 = 0 then (
        False)
      else (
        wJ0_length_8abf5 o M1 (fun r5 M4 =>
          wJ1_indexOf_4cfef o a0 a1 r5 M4 (fun r7 M6 =>
            post r7 M6))))
abbrev rm_J0_indexOf_0f7a4 : Room := { frames := 3, cells := 0, slots := 0, locals := 70 }
theorem yd_J0_indexOf_0f7a4 : yJ0_indexOf_0f7a4.cls ≠ "java/lang/invoke/MethodHandle" ∧ yJ0_indexOf_0f7a4.cls ≠ "java/lang/invoke/VarHandle" ∧ (parseMethodDescriptor yJ0_indexOf_0f7a4.desc).map (fun d => d.parameters.length) = some 1 := by decide +kernel
def wJ0_indexOf_0f7a4  (o : Nat) (a0 : Int32) (M : xMem) (post : Int32 → xMem → Prop) : Prop :=
    wJ0_indexOf_7cf53 o a0 0 M (fun r2 M1 =>
      post r2 M1)
set_option maxHeartbeats 4000000 in
set_option maxRecDepth 100000 in
theorem tJ9_min_7cf53 {g : xG} (hg : x_inj (WC g))  (l : Launch) (a0 : Int32) (a1 : Int32) (M : xMem) (post : Int32 → xMem → Prop)  (h : wJ9_min_7cf53 a0 a1 M post) : xMet (WC g) l yJ9_min_7cf53 cJ9_min_7cf53 2 (some .int) (rm_J9_min_7cf53) [.int a0, .int a1] M (pI post) := by
  refine x_enterF (own := RJ9) (L0 := [(0, .int a0), (1, .int a1)]) (by decide +kernel) rfl hg (x_stC g) (Nat.le_of_ble_eq_true rfl) rfl (fun x hl C => ?_)
  unfold wJ9_min_7cf53 at h
  refine x_iload_n C 0 rfl rfl dJ9_min_7cf53_0 ?_
  refine x_iload_n C 1 rfl rfl dJ9_min_7cf53_1 ?_
  refine x_icmp_gt C (tgt := 9) dJ9_min_7cf53_2 (by decide) (fun hq1 => ?_) (fun hq1 => ?_)
  · replace h := x_ift hq1 h
    refine x_iload_n C 1 rfl rfl dJ9_min_7cf53_9 ?_
    exact x_iret C dJ9_min_7cf53_10 ⟨_, rfl, h⟩
  · replace h := x_iff hq1 h
    refine x_iload_n C 0 rfl rfl dJ9_min_7cf53_5 ?_
    refine x_goto C (tgt := 10) dJ9_min_7cf53_6 (by decide) ?_
    exact x_iret C dJ9_min_7cf53_10 ⟨_, rfl, h⟩
set_option maxHeartbeats 4000000 in
set_option maxRecDepth 100000 in
theorem tJ6_bitCount_0f7a4 {g : xG} (hg : x_inj (WC g))  (l : Launch) (a0 : Int32) (M : xMem) (post : Int32 → xMem → Prop)  (h : wJ6_bitCount_0f7a4 a0 M post) : xMet (WC g) l yJ6_bitCount_0f7a4 cJ6_bitCount_0f7a4 1 (some .int) (rm_J6_bitCount_0f7a4) [.int a0] M (pI post) := by
  refine x_enterF (own := RJ6) (L0 := [(0, .int a0)]) (by decide +kernel) rfl hg (x_stC g) (Nat.le_of_ble_eq_true rfl) rfl (fun x hl C => ?_)
  unfold wJ6_bitCount_0f7a4 at h
  refine x_iload_n C 0 rfl rfl dJ6_bitCount_0f7a4_0 ?_
  refine x_iload_n C 0 rfl rfl dJ6_bitCount_0f7a4_1 ?_
  refine x_iconst C (v1 := 1) dJ6_bitCount_0f7a4_2 (by decide) ?_
  refine x_iushr C dJ6_bitCount_0f7a4_3 ?_
  refine x_ldc_w C (v1 := 1431655765) (wco_J6_265) dJ6_bitCount_0f7a4_4 ?_
  refine x_iand C dJ6_bitCount_0f7a4_7 ?_
  refine x_isub C dJ6_bitCount_0f7a4_8 ?_
  refine x_nm (fun v1 ev1 => ?_)
  replace h := h v1 ev1
  refine x_istore_n C (L' := [(0, .int v1)]) rfl rfl (Nat.le_of_ble_eq_true rfl) dJ6_bitCount_0f7a4_9 ?_
  refine x_iload_n C 0 rfl rfl dJ6_bitCount_0f7a4_10 ?_
  refine x_ldc_w C (v1 := 858993459) (wco_J6_266) dJ6_bitCount_0f7a4_11 ?_
  refine x_iand C dJ6_bitCount_0f7a4_14 ?_
  refine x_iload_n C 0 rfl rfl dJ6_bitCount_0f7a4_15 ?_
  refine x_iconst C (v1 := 2) dJ6_bitCount_0f7a4_16 (by decide) ?_
  refine x_iushr C dJ6_bitCount_0f7a4_17 ?_
  refine x_ldc_w C (v1 := 858993459) (wco_J6_266) dJ6_bitCount_0f7a4_18 ?_
  refine x_iand C dJ6_bitCount_0f7a4_21 ?_
  refine x_iadd C dJ6_bitCount_0f7a4_22 ?_
  refine x_nm (fun v2 ev2 => ?_)
  replace h := h v2 ev2
  refine x_istore_n C (L' := [(0, .int v2)]) rfl rfl (Nat.le_of_ble_eq_true rfl) dJ6_bitCount_0f7a4_23 ?_
  refine x_iload_n C 0 rfl rfl dJ6_bitCount_0f7a4_24 ?_
  refine x_iload_n C 0 rfl rfl dJ6_bitCount_0f7a4_25 ?_
  refine x_iconst C (v1 := 4) dJ6_bitCount_0f7a4_26 (by decide) ?_
  refine x_iushr C dJ6_bitCount_0f7a4_27 ?_
  refine x_iadd C dJ6_bitCount_0f7a4_28 ?_
  refine x_ldc_w C (v1 := 252645135) (wco_J6_267) dJ6_bitCount_0f7a4_29 ?_
  refine x_iand C dJ6_bitCount_0f7a4_32 ?_
  refine x_nm (fun v3 ev3 => ?_)
  replace h := h v3 ev3
  refine x_istore_n C (L' := [(0, .int v3)]) rfl rfl (Nat.le_of_ble_eq_true rfl) dJ6_bitCount_0f7a4_33 ?_
  refine x_iload_n C 0 rfl rfl dJ6_bitCount_0f7a4_34 ?_
  refine x_iload_n C 0 rfl rfl dJ6_bitCount_0f7a4_35 ?_
  refine x_bipush C (v1 := 8) dJ6_bitCount_0f7a4_36 (by decide) ?_
  refine x_iushr C dJ6_bitCount_0f7a4_38 ?_
  refine x_iadd C dJ6_bitCount_0f7a4_39 ?_
  refine x_nm (fun v4 ev4 => ?_)
  replace h := h v4 ev4
  refine x_istore_n C (L' := [(0, .int v4)]) rfl rfl (Nat.le_of_ble_eq_true rfl) dJ6_bitCount_0f7a4_40 ?_
  refine x_iload_n C 0 rfl rfl dJ6_bitCount_0f7a4_41 ?_
  refine x_iload_n C 0 rfl rfl dJ6_bitCount_0f7a4_42 ?_
  refine x_bipush C (v1 := 16) dJ6_bitCount_0f7a4_43 (by decide) ?_
  refine x_iushr C dJ6_bitCount_0f7a4_45 ?_
  refine x_iadd C dJ6_bitCount_0f7a4_46 ?_
  refine x_nm (fun v5 ev5 => ?_)
  replace h := h v5 ev5
  refine x_istore_n C (L' := [(0, .int v5)]) rfl rfl (Nat.le_of_ble_eq_true rfl) dJ6_bitCount_0f7a4_47 ?_
  refine x_iload_n C 0 rfl rfl dJ6_bitCount_0f7a4_48 ?_
  refine x_bipush C (v1 := 63) dJ6_bitCount_0f7a4_49 (by decide) ?_
  refine x_iand C dJ6_bitCount_0f7a4_51 ?_
  exact x_iret C dJ6_bitCount_0f7a4_52 ⟨_, rfl, h⟩
set_option maxHeartbeats 4000000 in
set_option maxRecDepth 100000 in
theorem tJ9_max_7cf53 {g : xG} (hg : x_inj (WC g))  (l : Launch) (a0 : Int32) (a1 : Int32) (M : xMem) (post : Int32 → xMem → Prop)  (h : wJ9_max_7cf53 a0 a1 M post) : xMet (WC g) l yJ9_max_7cf53 cJ9_max_7cf53 2 (some .int) (rm_J9_max_7cf53) [.int a0, .int a1] M (pI post) := by
  refine x_enterF (own := RJ9) (L0 := [(0, .int a0), (1, .int a1)]) (by decide +kernel) rfl hg (x_stC g) (Nat.le_of_ble_eq_true rfl) rfl (fun x hl C => ?_)
  unfold wJ9_max_7cf53 at h
  refine x_iload_n C 0 rfl rfl dJ9_max_7cf53_0 ?_
  refine x_iload_n C 1 rfl rfl dJ9_max_7cf53_1 ?_
  refine x_icmp_lt C (tgt := 9) dJ9_max_7cf53_2 (by decide) (fun hq1 => ?_) (fun hq1 => ?_)
  · replace h := x_ift hq1 h
    refine x_iload_n C 1 rfl rfl dJ9_max_7cf53_9 ?_
    exact x_iret C dJ9_max_7cf53_10 ⟨_, rfl, h⟩
  · replace h := x_iff hq1 h
    refine x_iload_n C 0 rfl rfl dJ9_max_7cf53_5 ?_
    refine x_goto C (tgt := 10) dJ9_max_7cf53_6 (by decide) ?_
    exact x_iret C dJ9_max_7cf53_10 ⟨_, rfl, h⟩
set_option maxHeartbeats 4000000 in
set_option maxRecDepth 100000 in
theorem tJ7_fill_53178_5 {g : xG} (hg : x_inj (WC g))  {x : xCx} {o0 : Nat}  {post : xMem → Prop} (C : xOk (WC g) x cJ7_fill_53178 RJ7 4 none (rm_J7_fill_53178) (pV post)) (ho0 : kC o0 = 20)  : ∀ (n : Nat) (x1 : Int32) (x2 : Int32) (x3 : Int32) (M : xMem), wJ7_fill_53178_5 o0 post n x1 x2 x3 M → xW (WC g) x 4 5 [(0, .ref (ga g o0)), (1, .int x1), (2, .int x2), (3, .int x3)] [] M := by
  intro n
  induction n with
  | zero =>
    intro x1 x2 x3 M  h
    exact h.elim
  | succ n ih =>
    intro x1 x2 x3 M  h
    rw [wJ7_fill_53178_5] at h
    refine x_iload_n C 2 rfl rfl dJ7_fill_53178_5 ?_
    refine x_iload_n C 3 rfl rfl dJ7_fill_53178_6 ?_
    refine x_icmp_ge C (tgt := 20) dJ7_fill_53178_7 (by decide) (fun hq1 => ?_) (fun hq1 => ?_)
    · replace h := x_ift hq1 h
      exact x_vret C dJ7_fill_53178_20 ⟨rfl, h⟩
    · replace h := x_iff hq1 h
      refine x_aload_n C 0 rfl rfl dJ7_fill_53178_10 ?_
      refine x_iload_n C 2 rfl rfl dJ7_fill_53178_11 ?_
      refine x_iload_n C 1 rfl rfl dJ7_fill_53178_12 ?_
      obtain ⟨hi2, h⟩ := h
      refine x_iast C 0 (c := o0) (enC_20n (c := o0) (n := (lC o0)) ho0 rfl) (kC_lt ho0 (by decide)) rfl hi2 dJ7_fill_53178_13 ?_
      refine x_nmM (fun M3 eM3 => ?_)
      replace h := h M3 eM3
      obtain ⟨v4, ev4⟩ : ∃ z : Int32, z = x2 + 1 := ⟨_, rfl⟩
      replace h := h v4 ev4
      refine x_iinc C 2 (v1 := v4) (L' := [(2, .int v4), (0, .ref (ga g o0)), (1, .int x1), (3, .int x3)]) rfl (by rw [ev4]; rfl) rfl (Nat.le_of_ble_eq_true rfl) dJ7_fill_53178_14 ?_
      refine x_goto C (tgt := 5) dJ7_fill_53178_17 (by decide) ?_
      refine x_loc (L' := [(0, .ref (ga g o0)), (1, .int x1), (2, .int v4), (3, .int x3)]) [1, 2, 0, 3] rfl ?_
      exact ih _ _ _ _  h
set_option maxHeartbeats 4000000 in
set_option maxRecDepth 100000 in
theorem tJ7_fill_53178 {g : xG} (hg : x_inj (WC g))  (l : Launch) (o0 : Nat) (a1 : Int32) (M : xMem) (post : xMem → Prop) (ho0 : kC o0 = 20) (h : wJ7_fill_53178 o0 a1 M post) : xMet (WC g) l yJ7_fill_53178 cJ7_fill_53178 4 none (rm_J7_fill_53178) [.ref (ga g o0), .int a1] M (pV post) := by
  refine x_enterF (own := RJ7) (L0 := [(0, .ref (ga g o0)), (1, .int a1)]) (by decide +kernel) rfl hg (x_stC g) (Nat.le_of_ble_eq_true rfl) rfl (fun x hl C => ?_)
  unfold wJ7_fill_53178 at h
  refine x_iconst C (v1 := 0) dJ7_fill_53178_0 (by decide) ?_
  refine x_istore_n C (L' := [(2, .int 0), (0, .ref (ga g o0)), (1, .int a1)]) rfl rfl (Nat.le_of_ble_eq_true rfl) dJ7_fill_53178_1 ?_
  refine x_aload_n C 1 rfl rfl dJ7_fill_53178_2 ?_
  refine x_aleni C (c := o0) (v1 := (nI (lC o0))) (enC_20n (c := o0) (n := (lC o0)) ho0 rfl) (kC_lt ho0 (by decide)) rfl rfl dJ7_fill_53178_3 ?_
  refine x_nm (fun v1 ev1 => ?_)
  replace h := h v1 ev1
  refine x_istore_n C (L' := [(3, .int v1), (2, .int 0), (0, .ref (ga g o0)), (1, .int a1)]) rfl rfl (Nat.le_of_ble_eq_true rfl) dJ7_fill_53178_4 ?_
  refine x_loc (L' := [(0, .ref (ga g o0)), (1, .int a1), (2, .int 0), (3, .int v1)]) [2, 3, 1, 0] rfl ?_
  obtain ⟨n5, h⟩ := h
  exact tJ7_fill_53178_5 hg  C ho0  _ _ _ _ _  h
set_option maxHeartbeats 4000000 in
set_option maxRecDepth 100000 in
theorem tJ0_coder_7d493 {g : xG} (hg : x_inj (WC g))  (l : Launch) (o : Nat) (M : xMem) (post : Int32 → xMem → Prop) (ho : o < 7) (h : wJ0_coder_7d493 o M post) : xMet (WC g) l yJ0_coder_7d493 cJ0_coder_7d493 1 (some .byte) (rm_J0_coder_7d493) [.ref (gK g o)] M (pI post) := by
  refine x_enterF (own := RJ0) (L0 := [(0, .ref (gK g o))]) (by decide +kernel) rfl hg (x_stC g) (Nat.le_of_ble_eq_true rfl) rfl (fun x hl C => ?_)
  unfold wJ0_coder_7d493 at h
  refine x_gets C C.x12.2.2.1 wf_J0_38 dJ0_coder_7d493_0 ?_
  refine x_if_eq C (tgt := 13) dJ0_coder_7d493_3 (by decide) (fun hq1 => ?_) (fun hq1 => ?_)
  · replace h := x_ift hq1 h
    refine x_iconst C (v1 := 1) dJ0_coder_7d493_13 (by decide) ?_
    exact x_bret C rfl dJ0_coder_7d493_14 ⟨_, rfl, h⟩
  · replace h := x_iff hq1 h
    refine x_aload_n C 0 rfl rfl dJ0_coder_7d493_6 ?_
    refine x_scod C (i := o) ho wf_J0_15 dJ0_coder_7d493_7 ?_
    refine x_goto C (tgt := 14) dJ0_coder_7d493_10 (by decide) ?_
    exact x_bret C rfl dJ0_coder_7d493_14 ⟨_, rfl, h⟩
set_option maxHeartbeats 4000000 in
set_option maxRecDepth 100000 in
theorem tJ0_isLatin1_aae02 {g : xG} (hg : x_inj (WC g))  (l : Launch) (o : Nat) (M : xMem) (post : Int32 → xMem → Prop) (ho : o < 7) (h : wJ0_isLatin1_aae02 o M post) : xMet (WC g) l yJ0_isLatin1_aae02 cJ0_isLatin1_aae02 1 (some .boolean) (rm_J0_isLatin1_aae02) [.ref (gK g o)] M (pI post) := by
  refine x_enterF (own := RJ0) (L0 := [(0, .ref (gK g o))]) (by decide +kernel) rfl hg (x_stC g) (Nat.le_of_ble_eq_true rfl) rfl (fun x hl C => ?_)
  unfold wJ0_isLatin1_aae02 at h
  refine x_gets C C.x12.2.2.1 wf_J0_38 dJ0_isLatin1_aae02_0 ?_
  refine x_if_eq C (tgt := 17) dJ0_isLatin1_aae02_3 (by decide) (fun hq1 => ?_) (fun hq1 => ?_)
  · replace h := x_ift hq1 h
    refine x_iconst C (v1 := 0) dJ0_isLatin1_aae02_17 (by decide) ?_
    exact x_zret C rfl dJ0_isLatin1_aae02_18 ⟨_, rfl, h⟩
  · replace h := x_iff hq1 h
    refine x_aload_n C 0 rfl rfl dJ0_isLatin1_aae02_6 ?_
    refine x_scod C (i := o) ho wf_J0_15 dJ0_isLatin1_aae02_7 ?_
    refine x_if_ne C (tgt := 17) dJ0_isLatin1_aae02_10 (by decide) (fun hq2 => ?_) (fun hq2 => ?_)
    · replace h := x_iff hq2 h
      refine x_iconst C (v1 := 0) dJ0_isLatin1_aae02_17 (by decide) ?_
      exact x_zret C rfl dJ0_isLatin1_aae02_18 ⟨_, rfl, h⟩
    · replace h := x_ift hq2 h
      refine x_iconst C (v1 := 1) dJ0_isLatin1_aae02_13 (by decide) ?_
      refine x_goto C (tgt := 18) dJ0_isLatin1_aae02_14 (by decide) ?_
      exact x_zret C rfl dJ0_isLatin1_aae02_18 ⟨_, rfl, h⟩
set_option maxHeartbeats 4000000 in
set_option maxRecDepth 100000 in
theorem tJ0_length_8abf5 {g : xG} (hg : x_inj (WC g))  (l : Launch) (o : Nat) (M : xMem) (post : Int32 → xMem → Prop) (ho : o < 7) (h : wJ0_length_8abf5 o M post) : xMet (WC g) l yJ0_length_8abf5 cJ0_length_8abf5 1 (some .int) (rm_J0_length_8abf5) [.ref (gK g o)] M (pI post) := by
  refine x_enterF (own := RJ0) (L0 := [(0, .ref (gK g o))]) (by decide +kernel) rfl hg (x_stC g) (Nat.le_of_ble_eq_true rfl) rfl (fun x hl C => ?_)
  unfold wJ0_length_8abf5 at h
  refine x_aload_n C 0 rfl rfl dJ0_length_8abf5_0 ?_
  refine x_sval C (i := o) ho wf_J0_9 dJ0_length_8abf5_1 ?_
  refine x_slen C (i := o) ho dJ0_length_8abf5_4 ?_
  refine x_aload_n C 0 rfl rfl dJ0_length_8abf5_5 ?_
  refine x_callVK C (st := [.int (nI (sg_len.getD o 0))]) (As := []) (i := o) ho (tJ0_coder_7d493 hg _ _ _ _ ho h) wm_J0_335 wi_J0_coder_7d493 wv_J0_coder_7d493 wz_J0 wc_J0_coder_7d493 rfl yd_J0_coder_7d493 rfl ⟨rfl, rfl⟩ ⟨Nat.le_of_ble_eq_true rfl, Nat.le_of_ble_eq_true rfl⟩ (Nat.le_of_ble_eq_true rfl) rfl dJ0_length_8abf5_6 (x_ki (fun r2 M1 h => ?_))
  refine x_ishr C dJ0_length_8abf5_9 ?_
  exact x_iret C dJ0_length_8abf5_10 ⟨_, rfl, h⟩
set_option maxHeartbeats 4000000 in
set_option maxRecDepth 100000 in
theorem tJ1_canEncode_9a6ad {g : xG} (hg : x_inj (WC g))  (l : Launch) (a0 : Int32) (M : xMem) (post : Int32 → xMem → Prop)  (h : wJ1_canEncode_9a6ad a0 M post) : xMet (WC g) l yJ1_canEncode_9a6ad cJ1_canEncode_9a6ad 1 (some .boolean) (rm_J1_canEncode_9a6ad) [.int a0] M (pI post) := by
  refine x_enterF (own := RJ1) (L0 := [(0, .int a0)]) (by decide +kernel) rfl hg (x_stC g) (Nat.le_of_ble_eq_true rfl) rfl (fun x hl C => ?_)
  unfold wJ1_canEncode_9a6ad at h
  refine x_iload_n C 0 rfl rfl dJ1_canEncode_9a6ad_0 ?_
  refine x_if_lt C (tgt := 15) dJ1_canEncode_9a6ad_1 (by decide) (fun hq1 => ?_) (fun hq1 => ?_)
  · replace h := x_ift hq1 h
    refine x_iconst C (v1 := 0) dJ1_canEncode_9a6ad_15 (by decide) ?_
    exact x_zret C rfl dJ1_canEncode_9a6ad_16 ⟨_, rfl, h⟩
  · replace h := x_iff hq1 h
    refine x_iload_n C 0 rfl rfl dJ1_canEncode_9a6ad_4 ?_
    refine x_sipush C (v1 := 255) dJ1_canEncode_9a6ad_5 (by decide) ?_
    refine x_icmp_gt C (tgt := 15) dJ1_canEncode_9a6ad_8 (by decide) (fun hq2 => ?_) (fun hq2 => ?_)
    · replace h := x_ift hq2 h
      refine x_iconst C (v1 := 0) dJ1_canEncode_9a6ad_15 (by decide) ?_
      exact x_zret C rfl dJ1_canEncode_9a6ad_16 ⟨_, rfl, h⟩
    · replace h := x_iff hq2 h
      refine x_iconst C (v1 := 1) dJ1_canEncode_9a6ad_11 (by decide) ?_
      refine x_goto C (tgt := 16) dJ1_canEncode_9a6ad_12 (by decide) ?_
      exact x_zret C rfl dJ1_canEncode_9a6ad_16 ⟨_, rfl, h⟩
set_option maxHeartbeats 4000000 in
set_option maxRecDepth 100000 in
theorem tJ1_indexOfChar_4cfef_7 {g : xG} (hg : x_inj (WC g))  {x : xCx} {o0 : Nat}  {post : Int32 → xMem → Prop} (C : xOk (WC g) x cJ1_indexOfChar_4cfef RJ1 6 (some .int) (rm_J1_indexOfChar_4cfef) (pI post)) (ho0 : o0 < 7)  : ∀ (n : Nat) (x3 : Int32) (x4 : Int32) (x5 : Int32) (M : xMem), wJ1_indexOfChar_4cfef_7 o0 post n x3 x4 x5 M → xW (WC g) x 6 7 [(0, .ref (gV g o0)), (3, .int x3), (4, .int x4), (5, .int x5)] [] M := by
  intro n
  induction n with
  | zero =>
    intro x3 x4 x5 M  h
    exact h.elim
  | succ n ih =>
    intro x3 x4 x5 M  h
    rw [wJ1_indexOfChar_4cfef_7] at h
    refine x_iload C 3 rfl dJ1_indexOfChar_4cfef_7 ?_
    refine x_iload_n C 1 rfl rfl dJ1_indexOfChar_4cfef_9 ?_
    refine x_icmp_ge C (tgt := 31) dJ1_indexOfChar_4cfef_10 (by decide) (fun hq1 => ?_) (fun hq1 => ?_)
    · replace h := x_ift hq1 h
      refine x_iconst C (v1 := (-1)) dJ1_indexOfChar_4cfef_31 (by decide) ?_
      exact x_iret C dJ1_indexOfChar_4cfef_32 ⟨_, rfl, h⟩
    · replace h := x_iff hq1 h
      refine x_aload_n C 0 rfl rfl dJ1_indexOfChar_4cfef_13 ?_
      refine x_iload C 3 rfl dJ1_indexOfChar_4cfef_14 ?_
      obtain ⟨hi2, h⟩ := h
      refine x_sbald C (i := o0) ho0 hi2 dJ1_indexOfChar_4cfef_16 ?_
      refine x_iload C 2 rfl dJ1_indexOfChar_4cfef_17 ?_
      refine x_icmp_ne C (tgt := 25) dJ1_indexOfChar_4cfef_19 (by decide) (fun hq3 => ?_) (fun hq3 => ?_)
      · replace h := x_iff hq3 h
        obtain ⟨v4, ev4⟩ : ∃ z : Int32, z = x5 + 1 := ⟨_, rfl⟩
        replace h := h v4 ev4
        refine x_iinc C 3 (v1 := v4) (L' := [(5, .int v4), (0, .ref (gV g o0)), (3, .int x3), (4, .int x4)]) rfl (by rw [ev4]; rfl) rfl (Nat.le_of_ble_eq_true rfl) dJ1_indexOfChar_4cfef_25 ?_
        refine x_goto C (tgt := 7) dJ1_indexOfChar_4cfef_28 (by decide) ?_
        refine x_loc (L' := [(0, .ref (gV g o0)), (3, .int x3), (4, .int x4), (5, .int v4)]) [1, 2, 3, 0] rfl ?_
        exact ih _ _ _ _  h
      · replace h := x_ift hq3 h
        refine x_iload C 3 rfl dJ1_indexOfChar_4cfef_22 ?_
        exact x_iret C dJ1_indexOfChar_4cfef_24 ⟨_, rfl, h⟩
set_option maxHeartbeats 4000000 in
set_option maxRecDepth 100000 in
theorem tJ1_indexOfChar_4cfef {g : xG} (hg : x_inj (WC g))  (l : Launch) (o0 : Nat) (a1 : Int32) (a2 : Int32) (a3 : Int32) (M : xMem) (post : Int32 → xMem → Prop) (ho0 : o0 < 7) (h : wJ1_indexOfChar_4cfef o0 a1 a2 a3 M post) : xMet (WC g) l yJ1_indexOfChar_4cfef cJ1_indexOfChar_4cfef 6 (some .int) (rm_J1_indexOfChar_4cfef) [.ref (gV g o0), .int a1, .int a2, .int a3] M (pI post) := by
  refine x_enterF (own := RJ1) (L0 := [(0, .ref (gV g o0)), (1, .int a1), (2, .int a2), (3, .int a3)]) (by decide +kernel) rfl hg (x_stC g) (Nat.le_of_ble_eq_true rfl) rfl (fun x hl C => ?_)
  unfold wJ1_indexOfChar_4cfef at h
  refine x_iload_n C 1 rfl rfl dJ1_indexOfChar_4cfef_0 ?_
  refine x_i2b C dJ1_indexOfChar_4cfef_1 ?_
  refine x_nm (fun v1 ev1 => ?_)
  replace h := h v1 ev1
  refine x_istore C (L' := [(4, .int v1), (0, .ref (gV g o0)), (1, .int a1), (2, .int a2), (3, .int a3)]) rfl (Nat.le_of_ble_eq_true rfl) dJ1_indexOfChar_4cfef_2 ?_
  refine x_iload_n C 3 rfl rfl dJ1_indexOfChar_4cfef_4 ?_
  refine x_istore C (L' := [(5, .int a2), (4, .int v1), (0, .ref (gV g o0)), (1, .int a1), (2, .int a2), (3, .int a3)]) rfl (Nat.le_of_ble_eq_true rfl) dJ1_indexOfChar_4cfef_5 ?_
  refine x_loc (L' := [(0, .ref (gV g o0)), (3, .int a3), (4, .int v1), (5, .int a2)]) [2, 5, 1, 0] rfl ?_
  obtain ⟨n7, h⟩ := h
  exact tJ1_indexOfChar_4cfef_7 hg  C ho0  _ _ _ _ _  h
set_option maxHeartbeats 4000000 in
set_option maxRecDepth 100000 in
theorem tJ1_indexOf_4cfef {g : xG} (hg : x_inj (WC g))  (l : Launch) (o0 : Nat) (a1 : Int32) (a2 : Int32) (a3 : Int32) (M : xMem) (post : Int32 → xMem → Prop) (ho0 : o0 < 7) (h : wJ1_indexOf_4cfef o0 a1 a2 a3 M post) : xMet (WC g) l yJ1_indexOf_4cfef cJ1_indexOf_4cfef 4 (some .int) (rm_J1_indexOf_4cfef) [.ref (gV g o0), .int a1, .int a2, .int a3] M (pI post) := by
  refine x_enterF (own := RJ1) (L0 := [(0, .ref (gV g o0)), (1, .int a1), (2, .int a2), (3, .int a3)]) (by decide +kernel) rfl hg (x_stC g) (Nat.le_of_ble_eq_true rfl) rfl (fun x hl C => ?_)
  unfold wJ1_indexOf_4cfef at h
  refine x_iload_n C 1 rfl rfl dJ1_indexOf_4cfef_0 ?_
  refine x_callS C (st := []) (As := [.int a1]) (tJ1_canEncode_9a6ad hg _ _ _ _  h) wm_J1_88 wsm_J1_canEncode_9a6ad wz_J1 wc_J1_canEncode_9a6ad yd_J1_canEncode_9a6ad rfl ⟨rfl, rfl⟩ ⟨Nat.le_of_ble_eq_true rfl, Nat.le_of_ble_eq_true rfl⟩ (Nat.le_of_ble_eq_true rfl) rfl dJ1_indexOf_4cfef_1 (x_ki (fun r2 M1 h => ?_))
  refine x_if_ne C (tgt := 9) dJ1_indexOf_4cfef_4 (by decide) (fun hq3 => ?_) (fun hq3 => ?_)
  · replace h := x_iff hq3 h
    refine x_iload_n C 2 rfl rfl dJ1_indexOf_4cfef_9 ?_
    refine x_iconst C (v1 := 0) dJ1_indexOf_4cfef_10 (by decide) ?_
    refine x_callS C (st := []) (As := [.int a2, .int 0]) (tJ9_max_7cf53 hg _ _ _ _ _  h) wm_J1_92 wsm_J9_max_7cf53 wz_J9 wc_J9_max_7cf53 yd_J9_max_7cf53 rfl ⟨rfl, rfl⟩ ⟨Nat.le_of_ble_eq_true rfl, Nat.le_of_ble_eq_true rfl⟩ (Nat.le_of_ble_eq_true rfl) rfl dJ1_indexOf_4cfef_11 (x_ki (fun r5 M4 h => ?_))
    refine x_istore_n C (L' := [(2, .int r5), (0, .ref (gV g o0)), (1, .int a1), (3, .int a3)]) rfl rfl (Nat.le_of_ble_eq_true rfl) dJ1_indexOf_4cfef_14 ?_
    refine x_iload_n C 3 rfl rfl dJ1_indexOf_4cfef_15 ?_
    refine x_aload_n C 1 rfl rfl dJ1_indexOf_4cfef_16 ?_
    refine x_slen C (i := o0) ho0 dJ1_indexOf_4cfef_17 ?_
    refine x_callS C (st := []) (As := [.int a3, .int (nI (sg_len.getD o0 0))]) (tJ9_min_7cf53 hg _ _ _ _ _  h) wm_J1_38 wsm_J9_min_7cf53 wz_J9 wc_J9_min_7cf53 yd_J9_min_7cf53 rfl ⟨rfl, rfl⟩ ⟨Nat.le_of_ble_eq_true rfl, Nat.le_of_ble_eq_true rfl⟩ (Nat.le_of_ble_eq_true rfl) rfl dJ1_indexOf_4cfef_18 (x_ki (fun r7 M6 h => ?_))
    refine x_istore_n C (L' := [(3, .int r7), (2, .int r5), (0, .ref (gV g o0)), (1, .int a1)]) rfl rfl (Nat.le_of_ble_eq_true rfl) dJ1_indexOf_4cfef_21 ?_
    refine x_iload_n C 1 rfl rfl dJ1_indexOf_4cfef_22 ?_
    refine x_iload_n C 0 rfl rfl dJ1_indexOf_4cfef_23 ?_
    refine x_icmp_lt C (tgt := 29) dJ1_indexOf_4cfef_24 (by decide) (fun hq8 => ?_) (fun hq8 => ?_)
    · replace h := x_ift hq8 h
      refine x_aload_n C 2 rfl rfl dJ1_indexOf_4cfef_29 ?_
      refine x_iload_n C 3 rfl rfl dJ1_indexOf_4cfef_30 ?_
      refine x_iload_n C 1 rfl rfl dJ1_indexOf_4cfef_31 ?_
      refine x_iload_n C 0 rfl rfl dJ1_indexOf_4cfef_32 ?_
      refine x_callS C (st := []) (As := [.ref (gV g o0), .int a1, .int r5, .int r7]) (tJ1_indexOfChar_4cfef hg _ _ _ _ _ _ _ ho0 h) wm_J1_95 wsm_J1_indexOfChar_4cfef wz_J1 wc_J1_indexOfChar_4cfef yd_J1_indexOfChar_4cfef rfl ⟨rfl, rfl⟩ ⟨Nat.le_of_ble_eq_true rfl, Nat.le_of_ble_eq_true rfl⟩ (Nat.le_of_ble_eq_true rfl) rfl dJ1_indexOf_4cfef_33 (x_ki (fun r10 M9 h => ?_))
      exact x_iret C dJ1_indexOf_4cfef_36 ⟨_, rfl, h⟩
    · replace h := x_iff hq8 h
      refine x_iconst C (v1 := (-1)) dJ1_indexOf_4cfef_27 (by decide) ?_
      exact x_iret C dJ1_indexOf_4cfef_28 ⟨_, rfl, h⟩
  · replace h := x_ift hq3 h
    refine x_iconst C (v1 := (-1)) dJ1_indexOf_4cfef_7 (by decide) ?_
    exact x_iret C dJ1_indexOf_4cfef_8 ⟨_, rfl, h⟩
set_option maxHeartbeats 4000000 in
set_option maxRecDepth 100000 in
theorem tJ0_indexOf_7cf53 {g : xG} (hg : x_inj (WC g))  (l : Launch) (o : Nat) (a0 : Int32) (a1 : Int32) (M : xMem) (post : Int32 → xMem → Prop) (ho : o < 7) (h : wJ0_indexOf_7cf53 o a0 a1 M post) : xMet (WC g) l yJ0_indexOf_7cf53 cJ0_indexOf_7cf53 3 (some .int) (rm_J0_indexOf_7cf53) [.ref (gK g o), .int a0, .int a1] M (pI post) := by
  refine x_enterF (own := RJ0) (L0 := [(0, .ref (gK g o)), (1, .int a0), (2, .int a1)]) (by decide +kernel) rfl hg (x_stC g) (Nat.le_of_ble_eq_true rfl) rfl (fun x hl C => ?_)
  unfold wJ0_indexOf_7cf53 at h
  refine x_aload_n C 0 rfl rfl dJ0_indexOf_7cf53_0 ?_
  refine x_callVK C (st := []) (As := []) (i := o) ho (tJ0_isLatin1_aae02 hg _ _ _ _ ho h) wm_J0_492 wi_J0_isLatin1_aae02 wv_J0_isLatin1_aae02 wz_J0 wc_J0_isLatin1_aae02 rfl yd_J0_isLatin1_aae02 rfl ⟨rfl, rfl⟩ ⟨Nat.le_of_ble_eq_true rfl, Nat.le_of_ble_eq_true rfl⟩ (Nat.le_of_ble_eq_true rfl) rfl dJ0_indexOf_7cf53_1 (x_ki (fun r2 M1 h => ?_))
  refine x_if_eq C (tgt := 23) dJ0_indexOf_7cf53_4 (by decide) (fun hq3 => ?_) (fun hq3 => ?_)
  · replace h := x_ift hq3 h
    exact h.elim
  · replace h := x_iff hq3 h
    refine x_aload_n C 0 rfl rfl dJ0_indexOf_7cf53_7 ?_
    refine x_sval C (i := o) ho wf_J0_9 dJ0_indexOf_7cf53_8 ?_
    refine x_iload_n C 1 rfl rfl dJ0_indexOf_7cf53_11 ?_
    refine x_iload_n C 2 rfl rfl dJ0_indexOf_7cf53_12 ?_
    refine x_aload_n C 0 rfl rfl dJ0_indexOf_7cf53_13 ?_
    refine x_callVK C (st := [.int a1, .int a0, .ref (gV g o)]) (As := []) (i := o) ho (tJ0_length_8abf5 hg _ _ _ _ ho h) wm_J0_505 wi_J0_length_8abf5 wv_J0_length_8abf5 wz_J0 wc_J0_length_8abf5 rfl yd_J0_length_8abf5 rfl ⟨rfl, rfl⟩ ⟨Nat.le_of_ble_eq_true rfl, Nat.le_of_ble_eq_true rfl⟩ (Nat.le_of_ble_eq_true rfl) rfl dJ0_indexOf_7cf53_14 (x_ki (fun r5 M4 h => ?_))
    refine x_callS C (st := []) (As := [.ref (gV g o), .int a0, .int a1, .int r5]) (tJ1_indexOf_4cfef hg _ _ _ _ _ _ _ ho h) wm_J0_637 wsm_J1_indexOf_4cfef wz_J1 wc_J1_indexOf_4cfef yd_J1_indexOf_4cfef rfl ⟨rfl, rfl⟩ ⟨Nat.le_of_ble_eq_true rfl, Nat.le_of_ble_eq_true rfl⟩ (Nat.le_of_ble_eq_true rfl) rfl dJ0_indexOf_7cf53_17 (x_ki (fun r7 M6 h => ?_))
    refine x_goto C (tgt := 36) dJ0_indexOf_7cf53_20 (by decide) ?_
    exact x_iret C dJ0_indexOf_7cf53_36 ⟨_, rfl, h⟩
set_option maxHeartbeats 4000000 in
set_option maxRecDepth 100000 in
theorem tJ0_indexOf_0f7a4 {g : xG} (hg : x_inj (WC g))  (l : Launch) (o : Nat) (a0 : Int32) (M : xMem) (post : Int32 → xMem → Prop) (ho : o < 7) (h : wJ0_indexOf_0f7a4 o a0 M post) : xMet (WC g) l yJ0_indexOf_0f7a4 cJ0_indexOf_0f7a4 2 (some .int) (rm_J0_indexOf_0f7a4) [.ref (gK g o), .int a0] M (pI post) := by
  refine x_enterF (own := RJ0) (L0 := [(0, .ref (gK g o)), (1, .int a0)]) (by decide +kernel) rfl hg (x_stC g) (Nat.le_of_ble_eq_true rfl) rfl (fun x hl C => ?_)
  unfold wJ0_indexOf_0f7a4 at h
  refine x_aload_n C 0 rfl rfl dJ0_indexOf_0f7a4_0 ?_
  refine x_iload_n C 1 rfl rfl dJ0_indexOf_0f7a4_1 ?_
  refine x_iconst C (v1 := 0) dJ0_indexOf_0f7a4_2 (by decide) ?_
  refine x_callVK C (st := []) (As := [.int a0, .int 0]) (i := o) ho (tJ0_indexOf_7cf53 hg _ _ _ _ _ _ ho h) wm_J0_633 wi_J0_indexOf_7cf53 wv_J0_indexOf_7cf53 wz_J0 wc_J0_indexOf_7cf53 rfl yd_J0_indexOf_7cf53 rfl ⟨rfl, rfl⟩ ⟨Nat.le_of_ble_eq_true rfl, Nat.le_of_ble_eq_true rfl⟩ (Nat.le_of_ble_eq_true rfl) rfl dJ0_indexOf_0f7a4_3 (x_ki (fun r2 M1 h => ?_))
  exact x_iret C dJ0_indexOf_0f7a4_6 ⟨_, rfl, h⟩
