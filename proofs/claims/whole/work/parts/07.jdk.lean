abbrev rm_J9_min_7cf53 : Room := { frames := 0, cells := 0, slots := 0, locals := 0 }
theorem yd_J9_min_7cf53 : yJ9_min_7cf53.cls ≠ "java/lang/invoke/MethodHandle" ∧ yJ9_min_7cf53.cls ≠ "java/lang/invoke/VarHandle" ∧ (parseMethodDescriptor yJ9_min_7cf53.desc).map (fun d => d.parameters.length) = some 2 := by decide +kernel
def wJ9_min_7cf53  (a0 : Int32) (a1 : Int32) (M : xMem) (post : Int32 → xMem → Prop) : Prop :=
    if a1 < a0 then (
      post a1 M)
    else (
      post a0 M)
abbrev rm_J6_bitCount_0f7a4 : Room := { frames := 0, cells := 0, slots := 0, locals := 0 }
theorem yd_J6_bitCount_0f7a4 : yJ6_bitCount_0f7a4.cls ≠ "java/lang/invoke/MethodHandle" ∧ yJ6_bitCount_0f7a4.cls ≠ "java/lang/invoke/VarHandle" ∧ (parseMethodDescriptor yJ6_bitCount_0f7a4.desc).map (fun d => d.parameters.length) = some 1 := by decide +kernel
def wJ6_bitCount_0f7a4  (a0 : Int32) (M : xMem) (post : Int32 → xMem → Prop) : Prop :=
    ∀ v1 : Int32, v1 = a0 - ((xushr a0 1) &&& 1431655765) →
    ∀ v2 : Int32, v2 = (v1 &&& 858993459) + ((xushr v1 2) &&& 858993459) →
    ∀ v3 : Int32, v3 = (v2 + (xushr v2 4)) &&& 252645135 →
    ∀ v4 : Int32, v4 = v3 + (xushr v3 8) →
    ∀ v5 : Int32, v5 = v4 + (xushr v4 16) →
    post (v5 &&& 63) M
abbrev rm_J9_max_7cf53 : Room := { frames := 0, cells := 0, slots := 0, locals := 0 }
theorem yd_J9_max_7cf53 : yJ9_max_7cf53.cls ≠ "java/lang/invoke/MethodHandle" ∧ yJ9_max_7cf53.cls ≠ "java/lang/invoke/VarHandle" ∧ (parseMethodDescriptor yJ9_max_7cf53.desc).map (fun d => d.parameters.length) = some 2 := by decide +kernel
def wJ9_max_7cf53  (a0 : Int32) (a1 : Int32) (M : xMem) (post : Int32 → xMem → Prop) : Prop :=
    if a0 < a1 then (
      post a1 M)
    else (
      post a0 M)
abbrev rm_J7_fill_53178 : Room := { frames := 0, cells := 0, slots := 0, locals := 0 }
theorem yd_J7_fill_53178 : yJ7_fill_53178.cls ≠ "java/lang/invoke/MethodHandle" ∧ yJ7_fill_53178.cls ≠ "java/lang/invoke/VarHandle" ∧ (parseMethodDescriptor yJ7_fill_53178.desc).map (fun d => d.parameters.length) = some 2 := by decide +kernel
def wJ7_fill_53178_5  (o0 : Nat)  (post : xMem → Prop) : Nat → Int32 → Int32 → Int32 → xMem → Prop
  | 0 => fun _ _ _ _ => False
  | n + 1 => fun x1 x2 x3 M =>
      if x3 ≤ x2 then (
        post M)
      else (
        vp_in x2 (lC o0) ∧
        ∀ M3 : xMem, M3 = si M o0 x2.toNatClampNeg x1 →
        ∀ v4 : Int32, v4 = x2 + 1 →
        wJ7_fill_53178_5 o0 post n x1 v4 x3 M3)
def wJ7_fill_53178  (o0 : Nat) (a1 : Int32) (M : xMem) (post : xMem → Prop) : Prop :=
    ∀ v1 : Int32, v1 = nI (lC o0) →
    ∃ n5 : Nat, wJ7_fill_53178_5 o0 post n5 a1 0 v1 M
set_option maxHeartbeats 4000000 in
set_option maxRecDepth 100000 in
theorem tJ9_min_7cf53 {g : xG} (hg : x_inj (WC g))  (l : Launch) (a0 : Int32) (a1 : Int32) (M : xMem) (post : Int32 → xMem → Prop)  (h : wJ9_min_7cf53 a0 a1 M post) : xMet (WC g) l yJ9_min_7cf53 cJ9_min_7cf53 2 (some .int) (rm_J9_min_7cf53) [.int a0, .int a1] M (pI post) := by
  refine x_enterF (own := RJ9) (L0 := [(0, .int a0), (1, .int a1)]) (by decide +kernel) rfl hg (x_stC g) (Nat.le_of_ble_eq_true rfl) rfl (fun x hl C => ?_)
  unfold wJ9_min_7cf53 at h
  refine x_iload_n C 0 rfl rfl dJ9_min_7cf53_0 ?_
  refine x_iload_n C 1 rfl rfl dJ9_min_7cf53_1 ?_
  refine x_icmp_gt C (tgt := 9) dJ9_min_7cf53_2 (by decide) (fun hq1 => ?_) (fun hq1 => ?_)
  · replace h := x_ift hq1 h
    refine x_iload_n C 1 rfl rfl dJ9_min_7cf53_9 ?_
    exact x_iret C dJ9_min_7cf53_10 ⟨_, rfl, h⟩
  · replace h := x_iff hq1 h
    refine x_iload_n C 0 rfl rfl dJ9_min_7cf53_5 ?_
    refine x_goto C (tgt := 10) dJ9_min_7cf53_6 (by decide) ?_
    exact x_iret C dJ9_min_7cf53_10 ⟨_, rfl, h⟩
set_option maxHeartbeats 4000000 in
set_option maxRecDepth 100000 in
theorem tJ6_bitCount_0f7a4 {g : xG} (hg : x_inj (WC g))  (l : Launch) (a0 : Int32) (M : xMem) (post : Int32 → xMem → Prop)  (h : wJ6_bitCount_0f7a4 a0 M post) : xMet (WC g) l yJ6_bitCount_0f7a4 cJ6_bitCount_0f7a4 1 (some .int) (rm_J6_bitCount_0f7a4) [.int a0] M (pI post) := by
  refine x_enterF (own := RJ6) (L0 := [(0, .int a0)]) (by decide +kernel) rfl hg (x_stC g) (Nat.le_of_ble_eq_true rfl) rfl (fun x hl C => ?_)
  unfold wJ6_bitCount_0f7a4 at h
  refine x_iload_n C 0 rfl rfl dJ6_bitCount_0f7a4_0 ?_
  refine x_iload_n C 0 rfl rfl dJ6_bitCount_0f7a4_1 ?_
  refine x_iconst C (v1 := 1) dJ6_bitCount_0f7a4_2 (by decide) ?_
  refine x_iushr C dJ6_bitCount_0f7a4_3 ?_
  refine x_ldc_w C (v1 := 1431655765) (wco_J6_265) dJ6_bitCount_0f7a4_4 ?_
  refine x_iand C dJ6_bitCount_0f7a4_7 ?_
  refine x_isub C dJ6_bitCount_0f7a4_8 ?_
  refine x_nm (fun v1 ev1 => ?_)
  replace h := h v1 ev1
  refine x_istore_n C (L' := [(0, .int v1)]) rfl rfl (Nat.le_of_ble_eq_true rfl) dJ6_bitCount_0f7a4_9 ?_
  refine x_iload_n C 0 rfl rfl dJ6_bitCount_0f7a4_10 ?_
  refine x_ldc_w C (v1 := 858993459) (wco_J6_266) dJ6_bitCount_0f7a4_11 ?_
  refine x_iand C dJ6_bitCount_0f7a4_14 ?_
  refine x_iload_n C 0 rfl rfl dJ6_bitCount_0f7a4_15 ?_
  refine x_iconst C (v1 := 2) dJ6_bitCount_0f7a4_16 (by decide) ?_
  refine x_iushr C dJ6_bitCount_0f7a4_17 ?_
  refine x_ldc_w C (v1 := 858993459) (wco_J6_266) dJ6_bitCount_0f7a4_18 ?_
  refine x_iand C dJ6_bitCount_0f7a4_21 ?_
  refine x_iadd C dJ6_bitCount_0f7a4_22 ?_
  refine x_nm (fun v2 ev2 => ?_)
  replace h := h v2 ev2
  refine x_istore_n C (L' := [(0, .int v2)]) rfl rfl (Nat.le_of_ble_eq_true rfl) dJ6_bitCount_0f7a4_23 ?_
  refine x_iload_n C 0 rfl rfl dJ6_bitCount_0f7a4_24 ?_
  refine x_iload_n C 0 rfl rfl dJ6_bitCount_0f7a4_25 ?_
  refine x_iconst C (v1 := 4) dJ6_bitCount_0f7a4_26 (by decide) ?_
  refine x_iushr C dJ6_bitCount_0f7a4_27 ?_
  refine x_iadd C dJ6_bitCount_0f7a4_28 ?_
  refine x_ldc_w C (v1 := 252645135) (wco_J6_267) dJ6_bitCount_0f7a4_29 ?_
  refine x_iand C dJ6_bitCount_0f7a4_32 ?_
  refine x_nm (fun v3 ev3 => ?_)
  replace h := h v3 ev3
  refine x_istore_n C (L' := [(0, .int v3)]) rfl rfl (Nat.le_of_ble_eq_true rfl) dJ6_bitCount_0f7a4_33 ?_
  refine x_iload_n C 0 rfl rfl dJ6_bitCount_0f7a4_34 ?_
  refine x_iload_n C 0 rfl rfl dJ6_bitCount_0f7a4_35 ?_
  refine x_bipush C (v1 := 8) dJ6_bitCount_0f7a4_36 (by decide) ?_
  refine x_iushr C dJ6_bitCount_0f7a4_38 ?_
  refine x_iadd C dJ6_bitCount_0f7a4_39 ?_
  refine x_nm (fun v4 ev4 => ?_)
  replace h := h v4 ev4
  refine x_istore_n C (L' := [(0, .int v4)]) rfl rfl (Nat.le_of_ble_eq_true rfl) dJ6_bitCount_0f7a4_40 ?_
  refine x_iload_n C 0 rfl rfl dJ6_bitCount_0f7a4_41 ?_
  refine x_iload_n C 0 rfl rfl dJ6_bitCount_0f7a4_42 ?_
  refine x_bipush C (v1 := 16) dJ6_bitCount_0f7a4_43 (by decide) ?_
  refine x_iushr C dJ6_bitCount_0f7a4_45 ?_
  refine x_iadd C dJ6_bitCount_0f7a4_46 ?_
  refine x_nm (fun v5 ev5 => ?_)
  replace h := h v5 ev5
  refine x_istore_n C (L' := [(0, .int v5)]) rfl rfl (Nat.le_of_ble_eq_true rfl) dJ6_bitCount_0f7a4_47 ?_
  refine x_iload_n C 0 rfl rfl dJ6_bitCount_0f7a4_48 ?_
  refine x_bipush C (v1 := 63) dJ6_bitCount_0f7a4_49 (by decide) ?_
  refine x_iand C dJ6_bitCount_0f7a4_51 ?_
  exact x_iret C dJ6_bitCount_0f7a4_52 ⟨_, rfl, h⟩
set_option maxHeartbeats 4000000 in
set_option maxRecDepth 100000 in
theorem tJ9_max_7cf53 {g : xG} (hg : x_inj (WC g))  (l : Launch) (a0 : Int32) (a1 : Int32) (M : xMem) (post : Int32 → xMem → Prop)  (h : wJ9_max_7cf53 a0 a1 M post) : xMet (WC g) l yJ9_max_7cf53 cJ9_max_7cf53 2 (some .int) (rm_J9_max_7cf53) [.int a0, .int a1] M (pI post) := by
  refine x_enterF (own := RJ9) (L0 := [(0, .int a0), (1, .int a1)]) (by decide +kernel) rfl hg (x_stC g) (Nat.le_of_ble_eq_true rfl) rfl (fun x hl C => ?_)
  unfold wJ9_max_7cf53 at h
  refine x_iload_n C 0 rfl rfl dJ9_max_7cf53_0 ?_
  refine x_iload_n C 1 rfl rfl dJ9_max_7cf53_1 ?_
  refine x_icmp_lt C (tgt := 9) dJ9_max_7cf53_2 (by decide) (fun hq1 => ?_) (fun hq1 => ?_)
  · replace h := x_ift hq1 h
    refine x_iload_n C 1 rfl rfl dJ9_max_7cf53_9 ?_
    exact x_iret C dJ9_max_7cf53_10 ⟨_, rfl, h⟩
  · replace h := x_iff hq1 h
    refine x_iload_n C 0 rfl rfl dJ9_max_7cf53_5 ?_
    refine x_goto C (tgt := 10) dJ9_max_7cf53_6 (by decide) ?_
    exact x_iret C dJ9_max_7cf53_10 ⟨_, rfl, h⟩
set_option maxHeartbeats 4000000 in
set_option maxRecDepth 100000 in
theorem tJ7_fill_53178_5 {g : xG} (hg : x_inj (WC g))  {x : xCx} {o0 : Nat}  {post : xMem → Prop} (C : xOk (WC g) x cJ7_fill_53178 RJ7 4 none (rm_J7_fill_53178) (pV post)) (ho0 : kC o0 = 20)  : ∀ (n : Nat) (x1 : Int32) (x2 : Int32) (x3 : Int32) (M : xMem), wJ7_fill_53178_5 o0 post n x1 x2 x3 M → xW (WC g) x 4 5 [(0, .ref (ga g o0)), (1, .int x1), (2, .int x2), (3, .int x3)] [] M := by
  intro n
  induction n with
  | zero =>
    intro x1 x2 x3 M  h
    exact h.elim
  | succ n ih =>
    intro x1 x2 x3 M  h
    rw [wJ7_fill_53178_5] at h
    refine x_iload_n C 2 rfl rfl dJ7_fill_53178_5 ?_
    refine x_iload_n C 3 rfl rfl dJ7_fill_53178_6 ?_
    refine x_icmp_ge C (tgt := 20) dJ7_fill_53178_7 (by decide) (fun hq1 => ?_) (fun hq1 => ?_)
    · replace h := x_ift hq1 h
      exact x_vret C dJ7_fill_53178_20 ⟨rfl, h⟩
    · replace h := x_iff hq1 h
      refine x_aload_n C 0 rfl rfl dJ7_fill_53178_10 ?_
      refine x_iload_n C 2 rfl rfl dJ7_fill_53178_11 ?_
      refine x_iload_n C 1 rfl rfl dJ7_fill_53178_12 ?_
      obtain ⟨hi2, h⟩ := h
      refine x_iast C 0 (c := o0) (enC_20n (c := o0) (n := (lC o0)) ho0 rfl) (kC_lt ho0 (by decide)) rfl hi2 dJ7_fill_53178_13 ?_
      refine x_nmM (fun M3 eM3 => ?_)
      replace h := h M3 eM3
      obtain ⟨v4, ev4⟩ : ∃ z : Int32, z = x2 + 1 := ⟨_, rfl⟩
      replace h := h v4 ev4
      refine x_iinc C 2 (v1 := v4) (L' := [(2, .int v4), (0, .ref (ga g o0)), (1, .int x1), (3, .int x3)]) rfl (by rw [ev4]; rfl) rfl (Nat.le_of_ble_eq_true rfl) dJ7_fill_53178_14 ?_
      refine x_goto C (tgt := 5) dJ7_fill_53178_17 (by decide) ?_
      refine x_loc (L' := [(0, .ref (ga g o0)), (1, .int x1), (2, .int v4), (3, .int x3)]) [1, 2, 0, 3] rfl ?_
      exact ih _ _ _ _  h
set_option maxHeartbeats 4000000 in
set_option maxRecDepth 100000 in
theorem tJ7_fill_53178 {g : xG} (hg : x_inj (WC g))  (l : Launch) (o0 : Nat) (a1 : Int32) (M : xMem) (post : xMem → Prop) (ho0 : kC o0 = 20) (h : wJ7_fill_53178 o0 a1 M post) : xMet (WC g) l yJ7_fill_53178 cJ7_fill_53178 4 none (rm_J7_fill_53178) [.ref (ga g o0), .int a1] M (pV post) := by
  refine x_enterF (own := RJ7) (L0 := [(0, .ref (ga g o0)), (1, .int a1)]) (by decide +kernel) rfl hg (x_stC g) (Nat.le_of_ble_eq_true rfl) rfl (fun x hl C => ?_)
  unfold wJ7_fill_53178 at h
  refine x_iconst C (v1 := 0) dJ7_fill_53178_0 (by decide) ?_
  refine x_istore_n C (L' := [(2, .int 0), (0, .ref (ga g o0)), (1, .int a1)]) rfl rfl (Nat.le_of_ble_eq_true rfl) dJ7_fill_53178_1 ?_
  refine x_aload_n C 1 rfl rfl dJ7_fill_53178_2 ?_
  refine x_aleni C (c := o0) (v1 := (nI (lC o0))) (enC_20n (c := o0) (n := (lC o0)) ho0 rfl) (kC_lt ho0 (by decide)) rfl rfl dJ7_fill_53178_3 ?_
  refine x_nm (fun v1 ev1 => ?_)
  replace h := h v1 ev1
  refine x_istore_n C (L' := [(3, .int v1), (2, .int 0), (0, .ref (ga g o0)), (1, .int a1)]) rfl rfl (Nat.le_of_ble_eq_true rfl) dJ7_fill_53178_4 ?_
  refine x_loc (L' := [(0, .ref (ga g o0)), (1, .int a1), (2, .int 0), (3, .int v1)]) [2, 3, 1, 0] rfl ?_
  obtain ⟨n5, h⟩ := h
  exact tJ7_fill_53178_5 hg  C ho0  _ _ _ _ _  h
