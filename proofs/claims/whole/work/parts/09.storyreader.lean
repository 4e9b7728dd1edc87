abbrev rm_X10_refuse : Room := { frames := 0, cells := 0, slots := 0, locals := 0 }
theorem yd_X10_refuse : yX10_refuse.cls ≠ "java/lang/invoke/MethodHandle" ∧ yX10_refuse.cls ≠ "java/lang/invoke/VarHandle" ∧ (parseMethodDescriptor yX10_refuse.desc).map (fun d => d.parameters.length) = some 2 := by decide +kernel
def wX10_refuse  (a0 : Int32) (a1 : Int32) (M : xMem) (post : xMem → Prop) : Prop :=
    if (gi M 15 5) = 0 then (
      ∀ M2 : xMem, M2 = si M 15 5 (((-1000) * a0) - a1) →
      post M2)
    else (
      post M)
abbrev rm_X10_sign : Room := { frames := 0, cells := 0, slots := 0, locals := 0 }
theorem yd_X10_sign : yX10_sign.cls ≠ "java/lang/invoke/MethodHandle" ∧ yX10_sign.cls ≠ "java/lang/invoke/VarHandle" ∧ (parseMethodDescriptor yX10_sign.desc).map (fun d => d.parameters.length) = some 0 := by decide +kernel
def wX10_sign   (M : xMem) (post : Int32 → xMem → Prop) : Prop :=
    if (gi M 15 4) < 0 then (
      post (-1) M)
    else (
      if (gi M 15 3) ≤ (gi M 15 4) then (
        post (-1) M)
      else (
        kC ((gi M 15 2).toNatClampNeg) = 20 ∧
        if (nI (lC (((gi M 15 2).toNatClampNeg)))) ≤ (gi M 15 4) then (
          post (-1) M)
        else (
          kC ((gi M 15 2).toNatClampNeg) = 20 ∧
          vp_in (gi M 15 4) (lC (((gi M 15 2).toNatClampNeg))) ∧
          post (gi M (((gi M 15 2).toNatClampNeg)) (gi M 15 4).toNatClampNeg) M)))
abbrev rm_X10_readTurns (d : Nat) : Room := { frames := 30 * d + 30, cells := 0, slots := 0, locals := 1500 * d + 1500 }
theorem yd_X10_readTurns : yX10_readTurns.cls ≠ "java/lang/invoke/MethodHandle" ∧ yX10_readTurns.cls ≠ "java/lang/invoke/VarHandle" ∧ (parseMethodDescriptor yX10_readTurns.desc).map (fun d => d.parameters.length) = some 1 := by decide +kernel
abbrev rm_X10_readGroup (d : Nat) : Room := { frames := 30 * d + 31, cells := 0, slots := 0, locals := 1500 * d + 1524 }
theorem yd_X10_readGroup : yX10_readGroup.cls ≠ "java/lang/invoke/MethodHandle" ∧ yX10_readGroup.cls ≠ "java/lang/invoke/VarHandle" ∧ (parseMethodDescriptor yX10_readGroup.desc).map (fun d => d.parameters.length) = some 1 := by decide +kernel
def wX10_readGroup_57 (rec : Int32 → xMem → (xMem → Prop) → Prop)   (post : xMem → Prop)  (M : xMem) : Prop :=
    ∀ M1 : xMem, M1 = si M 15 4 ((gi M 15 4) + 1) →
    post M1
def wX10_readGroup (rec : Int32 → xMem → (xMem → Prop) → Prop) (a0 : Int32) (M : xMem) (post : xMem → Prop) : Prop :=
    if a0 < 2 then (
      ∀ M2 : xMem, M2 = si M 15 4 ((gi M 15 4) + 1) →
      rec (a0 + 1) M2 (fun M3 =>
        if (gi M3 15 5) = 0 then (
          wX10_sign  M3 (fun r6 M5 =>
            if r6 = 41 then (
              wX10_readGroup_57 rec post M5)
            else (
              wX10_refuse 1 (gi M5 15 4) M5 (fun M8 =>
                wX10_readGroup_57 rec post M8))))
        else (
          wX10_readGroup_57 rec post M3)))
    else (
      wX10_refuse 5 (gi M 15 4) M (fun M9 =>
        post M9))
abbrev rm_X10_readLetter : Room := { frames := 6, cells := 0, slots := 0, locals := 300 }
theorem yd_X10_readLetter : yX10_readLetter.cls ≠ "java/lang/invoke/MethodHandle" ∧ yX10_readLetter.cls ≠ "java/lang/invoke/VarHandle" ∧ (parseMethodDescriptor yX10_readLetter.desc).map (fun d => d.parameters.length) = some 0 := by decide +kernel
def wX10_readLetter_70    (post : xMem → Prop)  (M : xMem) : Prop :=
    ∀ M1 : xMem, M1 = si M 15 4 ((gi M 15 4) + 1) →
    post M1
def wX10_readLetter_21    (post : xMem → Prop) (s0 : Int32) (M : xMem) : Prop :=
    if 0 ≤ s0 then (
      if 73 ≤ (gi M 15 1) then (
        wX10_readLetter_70 post M)
      else (
        vp_in (gi M 15 1) 73 ∧
        ∀ M4 : xMem, M4 = si M 16 (gi M 15 1).toNatClampNeg s0 →
        ∀ M5 : xMem, M5 = si M4 15 1 ((gi M4 15 1) + 1) →
        wX10_readLetter_70 post M5))
    else (
      wX10_refuse 1 (gi M 15 4) M (fun M6 =>
        wX10_readLetter_70 post M6))
def wX10_readLetter   (M : xMem) (post : xMem → Prop) : Prop :=
    wX10_sign  M (fun r2 M1 =>
      if 0 ≤ r2 then (
        wX10_sign  M1 (fun r5 M4 =>
          wX10_readLetter_21 post (sx 0 ((r5.toUInt32 % 65536).toInt32)) M4))
      else (
        wX10_readLetter_21 post (-1) M1))
abbrev rm_X10_repeat : Room := { frames := 1, cells := 0, slots := 0, locals := 21 }
theorem yd_X10_repeat : yX10_repeat.cls ≠ "java/lang/invoke/MethodHandle" ∧ yX10_repeat.cls ≠ "java/lang/invoke/VarHandle" ∧ (parseMethodDescriptor yX10_repeat.desc).map (fun d => d.parameters.length) = some 2 := by decide +kernel
def wX10_repeat_30    (post : xMem → Prop) : Nat → Int32 → Int32 → Int32 → xMem → Prop
  | 0 => fun _ _ _ _ => False
  | n + 1 => fun x3 x4 x5 M =>
      if x3 ≤ x5 then (
        post M)
      else (
        if (x5 - x4) < 0 then (
          post M)
        else (
          vp_in (x5 - x4) 73 ∧
          vp_in x5 73 ∧
          ∀ M5 : xMem, M5 = si M 16 x5.toNatClampNeg (gi M 16 (x5 - x4).toNatClampNeg) →
          ∀ M6 : xMem, M6 = si M5 15 1 ((gi M5 15 1) + 1) →
          ∀ v7 : Int32, v7 = x5 + 1 →
          wX10_repeat_30 post n x3 x4 v7 M6))
def wX10_repeat  (a0 : Int32) (a1 : Int32) (M : xMem) (post : xMem → Prop) : Prop :=
    wJ9_min_7cf53 (a0 + (((gi M 15 1) - a0) * a1)) 72 M (fun r2 M1 =>
      ∀ v3 : Int32, v3 = (gi M1 15 1) - a0 →
      ∀ v4 : Int32, v4 = gi M1 15 1 →
      ∃ n30 : Nat, wX10_repeat_30 post n30 r2 v3 v4 M1)
abbrev rm_X10_readTurn (d : Nat) : Room := { frames := 30 * d + 32, cells := 0, slots := 0, locals := 1500 * d + 1545 }
theorem yd_X10_readTurn : yX10_readTurn.cls ≠ "java/lang/invoke/MethodHandle" ∧ yX10_readTurn.cls ≠ "java/lang/invoke/VarHandle" ∧ (parseMethodDescriptor yX10_readTurn.desc).map (fun d => d.parameters.length) = some 1 := by decide +kernel
def wX10_readTurn_101 (rec : Int32 → xMem → (xMem → Prop) → Prop)   (post : xMem → Prop) (x3 : Int32) (x4 : Int32) (M : xMem) : Prop :=
    if (gi M 15 5) = 0 then (
      wX10_repeat x4 x3 M (fun M2 =>
        post M2))
    else (
      post M)
def wX10_readTurn_70 (rec : Int32 → xMem → (xMem → Prop) → Prop)   (post : xMem → Prop) (x2 : Int32) (x3 : Int32) (x4 : Int32) (M : xMem) : Prop :=
    if (gi M 15 5) = 0 then (
      if (x4 + (((gi M 15 1) - x4) * x3)) ≤ 72 then (
        wX10_readTurn_101 rec post x3 x4 M)
      else (
        wX10_refuse 6 x2 M (fun M3 =>
          wX10_readTurn_101 rec post x3 x4 M3)))
    else (
      wX10_readTurn_101 rec post x3 x4 M)
def wX10_readTurn_43 (rec : Int32 → xMem → (xMem → Prop) → Prop)   (post : xMem → Prop) (x1 : Int32) (x2 : Int32) (x3 : Int32) (M : xMem) : Prop :=
    ∀ v1 : Int32, v1 = gi M 15 1 →
    wX10_sign  M (fun r3 M2 =>
      if r3 = 40 then (
        wX10_readGroup rec x1 M2 (fun M6 =>
          wX10_readTurn_70 rec post x2 x3 v1 M6))
      else (
        wX10_readLetter  M2 (fun M5 =>
          wX10_readTurn_70 rec post x2 x3 v1 M5)))
def wX10_readTurn (rec : Int32 → xMem → (xMem → Prop) → Prop) (a0 : Int32) (M : xMem) (post : xMem → Prop) : Prop :=
    ∀ v1 : Int32, v1 = gi M 15 4 →
    wX10_sign  M (fun r3 M2 =>
      if r3 < 50 then (
        wX10_readTurn_43 rec post a0 v1 1 M2)
      else (
        wX10_sign  M2 (fun r6 M5 =>
          if 57 < r6 then (
            wX10_readTurn_43 rec post a0 v1 1 M5)
          else (
            wX10_sign  M5 (fun r9 M8 =>
              ∀ v10 : Int32, v10 = r9 - 48 →
              ∀ M11 : xMem, M11 = si M8 15 4 ((gi M8 15 4) + 1) →
              wX10_readTurn_43 rec post a0 v1 v10 M11)))))
def wX10_readTurns_at_75 (rec : Int32 → xMem → (xMem → Prop) → Prop)  (K4 : Int32 → Int32 → Int32 → xMem → Prop) (post : xMem → Prop) (x1 : Int32) (x3 : Int32) (s0 : Int32) (M : xMem) : Prop :=
    ∀ v1 : Int32, v1 = x3 + 1 →
    K4 x1 s0 v1 M
def wX10_readTurns_at_74 (rec : Int32 → xMem → (xMem → Prop) → Prop)  (K4 : Int32 → Int32 → Int32 → xMem → Prop) (post : xMem → Prop) (x1 : Int32) (x3 : Int32) (M : xMem) : Prop :=
    wX10_readTurns_at_75 rec K4 post x1 x3 0 M
def wX10_readTurns_at_56 (rec : Int32 → xMem → (xMem → Prop) → Prop)  (K4 : Int32 → Int32 → Int32 → xMem → Prop) (post : xMem → Prop) (x1 : Int32) (x3 : Int32) (s0 : Int32) (M : xMem) : Prop :=
    if (gi M 15 5) = 0 then (
      if s0 = 0 then (
        wX10_readTurns_at_75 rec K4 post x1 x3 1 M)
      else (
        wX10_readTurns_at_74 rec K4 post x1 x3 M))
    else (
      wX10_readTurns_at_74 rec K4 post x1 x3 M)
def wX10_readTurns_at_4 (rec : Int32 → xMem → (xMem → Prop) → Prop)   (post : xMem → Prop) : Nat → Int32 → Int32 → Int32 → xMem → Prop
  | 0 => fun _ _ _ _ => False
  | n + 1 => fun x1 x2 x3 M =>
      if 80 ≤ x3 then (
        post M)
      else (
        if x2 = 0 then (
          post M)
        else (
          wX10_readTurn rec x1 M (fun M3 =>
            if x1 ≤ 0 then (
              if (gi M3 15 4) < (gi M3 15 3) then (
                wX10_readTurns_at_56 rec (wX10_readTurns_at_4 rec post n) post x1 x3 0 M3)
              else (
                wX10_readTurns_at_56 rec (wX10_readTurns_at_4 rec post n) post x1 x3 1 M3))
            else (
              wX10_sign  M3 (fun r7 M6 =>
                if r7 = 41 then (
                  wX10_readTurns_at_56 rec (wX10_readTurns_at_4 rec post n) post x1 x3 1 M6)
                else (
                  wX10_readTurns_at_56 rec (wX10_readTurns_at_4 rec post n) post x1 x3 0 M6))))))
def wX10_readTurns_at (rec : Int32 → xMem → (xMem → Prop) → Prop) (a0 : Int32) (M : xMem) (post : xMem → Prop) : Prop :=
    ∃ n4 : Nat, wX10_readTurns_at_4 rec post n4 a0 1 0 M
def wX10_readTurns : Nat → Int32 → xMem → (xMem → Prop) → Prop
  | 0 => fun _ _ _ => False
  | d + 1 => wX10_readTurns_at (wX10_readTurns d)
abbrev rm_X10_read : Room := { frames := 181, cells := 0, slots := 0, locals := 9024 }
theorem yd_X10_read : yX10_read.cls ≠ "java/lang/invoke/MethodHandle" ∧ yX10_read.cls ≠ "java/lang/invoke/VarHandle" ∧ (parseMethodDescriptor yX10_read.desc).map (fun d => d.parameters.length) = some 2 := by decide +kernel
def wX10_read  (a1 : Int32) (M : xMem) (post : Int32 → xMem → Prop) : Prop :=
    ∀ M1 : xMem, M1 = si M 15 2 1 →
    wJ9_min_7cf53 a1 260 M1 (fun r3 M2 =>
      ∀ M4 : xMem, M4 = si M2 15 3 r3 →
      ∀ M5 : xMem, M5 = si M4 15 4 0 →
      ∀ M6 : xMem, M6 = si M5 15 5 0 →
      ∀ M7 : xMem, M7 = si M6 15 1 0 →
      wX10_readTurns 5 0 M7 (fun M8 =>
        if (gi M8 15 5) = 0 then (
          post (gi M8 15 1) M8)
        else (
          post (gi M8 15 5) M8)))
set_option maxHeartbeats 4000000 in
set_option maxRecDepth 100000 in
theorem tX10_refuse {g : xG} (hg : x_inj (WC g))  (l : Launch) (a0 : Int32) (a1 : Int32) (M : xMem) (post : xMem → Prop)  (h : wX10_refuse a0 a1 M post) : xMet (WC g) l yX10_refuse cX10_refuse 3 none (rm_X10_refuse) [.ref (ga g 15), .int a0, .int a1] M (pV post) := by
  refine x_enter (own := RX10) (L0 := [(0, .ref (ga g 15)), (1, .int a0), (2, .int a1)]) (by decide +kernel) rfl hg (x_stC g) (Nat.le_of_ble_eq_true rfl) rfl (fun x hl C => ?_)
  unfold wX10_refuse at h
  refine x_aload_n C 0 rfl rfl dX10_refuse_0 ?_
  refine x_get C (c := 15) (ci := 10) (k1 := 5) (v1 := .int (gi M 15 5)) (enC_10 (c := 15) rfl) (Nat.le_of_ble_eq_true rfl) rfl inX10 (by decide) wf_X10_28 rfl dX10_refuse_1 ?_
  refine x_if_ne C (tgt := 18) dX10_refuse_4 (by decide) (fun hq1 => ?_) (fun hq1 => ?_)
  · replace h := x_iff hq1 h
    exact x_vret C dX10_refuse_18 ⟨rfl, h⟩
  · replace h := x_ift hq1 h
    refine x_aload_n C 0 rfl rfl dX10_refuse_7 ?_
    refine x_sipush C (v1 := (-1000)) dX10_refuse_8 (by decide) ?_
    refine x_iload_n C 1 rfl rfl dX10_refuse_11 ?_
    refine x_imul C dX10_refuse_12 ?_
    refine x_iload_n C 2 rfl rfl dX10_refuse_13 ?_
    refine x_isub C dX10_refuse_14 ?_
    refine x_put C (c := 15) (ci := 10) (k1 := 5) (u1 := (((-1000) * a0) - a1)) (v1 := .int (((-1000) * a0) - a1)) (ty := .int) (enC_10 (c := 15) rfl) (Nat.le_of_ble_eq_true rfl) rfl inX10 (by decide) (stX10_5 _ _ _) tyX10 tyX10_ok nmX10 wf_X10_28 rfl rfl rfl rfl (Nat.le_of_ble_eq_true rfl) dX10_refuse_15 ?_
    refine x_nmM (fun M2 eM2 => ?_)
    replace h := h M2 eM2
    exact x_vret C dX10_refuse_18 ⟨rfl, h⟩
set_option maxHeartbeats 4000000 in
set_option maxRecDepth 100000 in
theorem tX10_sign {g : xG} (hg : x_inj (WC g))  (l : Launch)  (M : xMem) (post : Int32 → xMem → Prop)  (h : wX10_sign  M post) : xMet (WC g) l yX10_sign cX10_sign 1 (some .int) (rm_X10_sign) [.ref (ga g 15)] M (pI post) := by
  refine x_enter (own := RX10) (L0 := [(0, .ref (ga g 15))]) (by decide +kernel) rfl hg (x_stC g) (Nat.le_of_ble_eq_true rfl) rfl (fun x hl C => ?_)
  unfold wX10_sign at h
  refine x_aload_n C 0 rfl rfl dX10_sign_0 ?_
  refine x_get C (c := 15) (ci := 10) (k1 := 4) (v1 := .int (gi M 15 4)) (enC_10 (c := 15) rfl) (Nat.le_of_ble_eq_true rfl) rfl inX10 (by decide) wf_X10_25 rfl dX10_sign_1 ?_
  refine x_if_lt C (tgt := 42) dX10_sign_4 (by decide) (fun hq1 => ?_) (fun hq1 => ?_)
  · replace h := x_ift hq1 h
    refine x_iconst C (v1 := (-1)) dX10_sign_42 (by decide) ?_
    exact x_iret C dX10_sign_43 ⟨_, rfl, h⟩
  · replace h := x_iff hq1 h
    refine x_aload_n C 0 rfl rfl dX10_sign_7 ?_
    refine x_get C (c := 15) (ci := 10) (k1 := 4) (v1 := .int (gi M 15 4)) (enC_10 (c := 15) rfl) (Nat.le_of_ble_eq_true rfl) rfl inX10 (by decide) wf_X10_25 rfl dX10_sign_8 ?_
    refine x_aload_n C 0 rfl rfl dX10_sign_11 ?_
    refine x_get C (c := 15) (ci := 10) (k1 := 3) (v1 := .int (gi M 15 3)) (enC_10 (c := 15) rfl) (Nat.le_of_ble_eq_true rfl) rfl inX10 (by decide) wf_X10_22 rfl dX10_sign_12 ?_
    refine x_icmp_ge C (tgt := 42) dX10_sign_15 (by decide) (fun hq2 => ?_) (fun hq2 => ?_)
    · replace h := x_ift hq2 h
      refine x_iconst C (v1 := (-1)) dX10_sign_42 (by decide) ?_
      exact x_iret C dX10_sign_43 ⟨_, rfl, h⟩
    · replace h := x_iff hq2 h
      refine x_aload_n C 0 rfl rfl dX10_sign_18 ?_
      refine x_get C (c := 15) (ci := 10) (k1 := 4) (v1 := .int (gi M 15 4)) (enC_10 (c := 15) rfl) (Nat.le_of_ble_eq_true rfl) rfl inX10 (by decide) wf_X10_25 rfl dX10_sign_19 ?_
      refine x_aload_n C 0 rfl rfl dX10_sign_22 ?_
      obtain ⟨hd3, h⟩ := h
      refine x_get C (c := 15) (ci := 10) (k1 := 2) (v1 := .ref (ga g (((gi M 15 2).toNatClampNeg)))) (enC_10 (c := 15) rfl) (Nat.le_of_ble_eq_true rfl) rfl inX10 (by decide) wf_X10_19 rfl dX10_sign_23 ?_
      refine x_aleni C (c := ((gi M 15 2).toNatClampNeg)) (v1 := (nI (lC (((gi M 15 2).toNatClampNeg))))) (enC_20n (c := ((gi M 15 2).toNatClampNeg)) (n := (lC (((gi M 15 2).toNatClampNeg)))) hd3 rfl) (kC_lt hd3 (by decide)) rfl rfl dX10_sign_26 ?_
      refine x_icmp_ge C (tgt := 42) dX10_sign_27 (by decide) (fun hq4 => ?_) (fun hq4 => ?_)
      · replace h := x_ift hq4 h
        refine x_iconst C (v1 := (-1)) dX10_sign_42 (by decide) ?_
        exact x_iret C dX10_sign_43 ⟨_, rfl, h⟩
      · replace h := x_iff hq4 h
        refine x_aload_n C 0 rfl rfl dX10_sign_30 ?_
        obtain ⟨hd5, h⟩ := h
        refine x_get C (c := 15) (ci := 10) (k1 := 2) (v1 := .ref (ga g (((gi M 15 2).toNatClampNeg)))) (enC_10 (c := 15) rfl) (Nat.le_of_ble_eq_true rfl) rfl inX10 (by decide) wf_X10_19 rfl dX10_sign_31 ?_
        refine x_aload_n C 0 rfl rfl dX10_sign_34 ?_
        refine x_get C (c := 15) (ci := 10) (k1 := 4) (v1 := .int (gi M 15 4)) (enC_10 (c := 15) rfl) (Nat.le_of_ble_eq_true rfl) rfl inX10 (by decide) wf_X10_25 rfl dX10_sign_35 ?_
        obtain ⟨hi6, h⟩ := h
        refine x_iald C 0 (c := ((gi M 15 2).toNatClampNeg)) (enC_20n (c := ((gi M 15 2).toNatClampNeg)) (n := (lC (((gi M 15 2).toNatClampNeg)))) hd5 rfl) (kC_lt hd5 (by decide)) rfl hi6 dX10_sign_38 ?_
        refine x_goto C (tgt := 43) dX10_sign_39 (by decide) ?_
        exact x_iret C dX10_sign_43 ⟨_, rfl, h⟩
set_option maxHeartbeats 4000000 in
set_option maxRecDepth 100000 in
theorem tX10_readGroup_57 {g : xG} (hg : x_inj (WC g)) (d : Nat) {rec : Int32 → xMem → (xMem → Prop) → Prop} (hrec : ∀ (l : Launch) (a0 : Int32) (M : xMem) (post : xMem → Prop), rec a0 M post → xMet (WC g) l yX10_readTurns cX10_readTurns 5 none (rm_X10_readTurns d) [.ref (ga g 15), .int a0] M (pV post)) {x : xCx}   {post : xMem → Prop} (C : xOk (WC g) x cX10_readGroup RX10 2 none (rm_X10_readGroup d) (pV post))    (M : xMem)  (h : wX10_readGroup_57 rec post  M) : xW (WC g) x 2 57 [(0, .ref (ga g 15))] [] M := by
  unfold wX10_readGroup_57 at h
  refine x_aload_n C 0 rfl rfl dX10_readGroup_57 ?_
  refine x_dup C rfl dX10_readGroup_58 ?_
  refine x_get C (c := 15) (ci := 10) (k1 := 4) (v1 := .int (gi M 15 4)) (enC_10 (c := 15) rfl) (Nat.le_of_ble_eq_true rfl) rfl inX10 (by decide) wf_X10_25 rfl dX10_readGroup_59 ?_
  refine x_iconst C (v1 := 1) dX10_readGroup_62 (by decide) ?_
  refine x_iadd C dX10_readGroup_63 ?_
  refine x_put C (c := 15) (ci := 10) (k1 := 4) (u1 := ((gi M 15 4) + 1)) (v1 := .int ((gi M 15 4) + 1)) (ty := .int) (enC_10 (c := 15) rfl) (Nat.le_of_ble_eq_true rfl) rfl inX10 (by decide) (stX10_4 _ _ _) tyX10 tyX10_ok nmX10 wf_X10_25 rfl rfl rfl rfl (Nat.le_of_ble_eq_true rfl) dX10_readGroup_64 ?_
  refine x_nmM (fun M1 eM1 => ?_)
  replace h := h M1 eM1
  exact x_vret C dX10_readGroup_67 ⟨rfl, h⟩
set_option maxHeartbeats 4000000 in
set_option maxRecDepth 100000 in
theorem tX10_readGroup {g : xG} (hg : x_inj (WC g)) (d : Nat) {rec : Int32 → xMem → (xMem → Prop) → Prop} (hrec : ∀ (l : Launch) (a0 : Int32) (M : xMem) (post : xMem → Prop), rec a0 M post → xMet (WC g) l yX10_readTurns cX10_readTurns 5 none (rm_X10_readTurns d) [.ref (ga g 15), .int a0] M (pV post)) (l : Launch) (a0 : Int32) (M : xMem) (post : xMem → Prop)  (h : wX10_readGroup rec a0 M post) : xMet (WC g) l yX10_readGroup cX10_readGroup 2 none (rm_X10_readGroup d) [.ref (ga g 15), .int a0] M (pV post) := by
  refine x_enter (own := RX10) (L0 := [(0, .ref (ga g 15)), (1, .int a0)]) (by decide +kernel) rfl hg (x_stC g) (Nat.le_of_ble_eq_true rfl) rfl (fun x hl C => ?_)
  unfold wX10_readGroup at h
  refine x_iload_n C 1 rfl rfl dX10_readGroup_0 ?_
  refine x_iconst C (v1 := 2) dX10_readGroup_1 (by decide) ?_
  refine x_icmp_lt C (tgt := 15) dX10_readGroup_2 (by decide) (fun hq1 => ?_) (fun hq1 => ?_)
  · replace h := x_ift hq1 h
    refine x_aload_n C 0 rfl rfl dX10_readGroup_15 ?_
    refine x_dup C rfl dX10_readGroup_16 ?_
    refine x_get C (c := 15) (ci := 10) (k1 := 4) (v1 := .int (gi M 15 4)) (enC_10 (c := 15) rfl) (Nat.le_of_ble_eq_true rfl) rfl inX10 (by decide) wf_X10_25 rfl dX10_readGroup_17 ?_
    refine x_iconst C (v1 := 1) dX10_readGroup_20 (by decide) ?_
    refine x_iadd C dX10_readGroup_21 ?_
    refine x_put C (c := 15) (ci := 10) (k1 := 4) (u1 := ((gi M 15 4) + 1)) (v1 := .int ((gi M 15 4) + 1)) (ty := .int) (enC_10 (c := 15) rfl) (Nat.le_of_ble_eq_true rfl) rfl inX10 (by decide) (stX10_4 _ _ _) tyX10 tyX10_ok nmX10 wf_X10_25 rfl rfl rfl rfl (Nat.le_of_ble_eq_true rfl) dX10_readGroup_22 ?_
    refine x_nmM (fun M2 eM2 => ?_)
    replace h := h M2 eM2
    refine x_aload_n C 0 rfl rfl dX10_readGroup_25 ?_
    refine x_iload_n C 1 rfl rfl dX10_readGroup_26 ?_
    refine x_iconst C (v1 := 1) dX10_readGroup_27 (by decide) ?_
    refine x_iadd C dX10_readGroup_28 ?_
    refine x_callV C (st := []) (As := [.int (a0 + 1)]) (c := 15) (ci := 10) (enC_10 (c := 15) rfl) (Nat.le_of_ble_eq_true rfl) rfl (hrec _ _ _ _  h) wm_X10_37 wi_X10_readTurns wv_X10_readTurns wz_X10 wc_X10_readTurns rfl yd_X10_readTurns rfl ⟨rfl, rfl⟩ (by simp only [rm_X10_readGroup, rm_X10_readTurns]; omega) (Nat.le_of_ble_eq_true rfl) rfl dX10_readGroup_29 (x_kv (fun M3 h => ?_))
    refine x_aload_n C 0 rfl rfl dX10_readGroup_32 ?_
    refine x_get C (c := 15) (ci := 10) (k1 := 5) (v1 := .int (gi M3 15 5)) (enC_10 (c := 15) rfl) (Nat.le_of_ble_eq_true rfl) rfl inX10 (by decide) wf_X10_28 rfl dX10_readGroup_33 ?_
    refine x_if_ne C (tgt := 57) dX10_readGroup_36 (by decide) (fun hq4 => ?_) (fun hq4 => ?_)
    · replace h := x_iff hq4 h
      refine x_loc (L' := [(0, .ref (ga g 15))]) [0] rfl ?_
      exact tX10_readGroup_57 hg d hrec C   _  h
    · replace h := x_ift hq4 h
      refine x_aload_n C 0 rfl rfl dX10_readGroup_39 ?_
      refine x_callV C (st := []) (As := []) (c := 15) (ci := 10) (enC_10 (c := 15) rfl) (Nat.le_of_ble_eq_true rfl) rfl (tX10_sign hg _  _ _  h) wm_X10_44 wi_X10_sign wv_X10_sign wz_X10 wc_X10_sign rfl yd_X10_sign rfl ⟨rfl, rfl⟩ ⟨Nat.le_of_ble_eq_true rfl, Nat.le_of_ble_eq_true rfl⟩ (Nat.le_of_ble_eq_true rfl) rfl dX10_readGroup_40 (x_ki (fun r6 M5 h => ?_))
      refine x_bipush C (v1 := 41) dX10_readGroup_43 (by decide) ?_
      refine x_icmp_eq C (tgt := 57) dX10_readGroup_45 (by decide) (fun hq7 => ?_) (fun hq7 => ?_)
      · replace h := x_ift hq7 h
        refine x_loc (L' := [(0, .ref (ga g 15))]) [0] rfl ?_
        exact tX10_readGroup_57 hg d hrec C   _  h
      · replace h := x_iff hq7 h
        refine x_aload_n C 0 rfl rfl dX10_readGroup_48 ?_
        refine x_iconst C (v1 := 1) dX10_readGroup_49 (by decide) ?_
        refine x_aload_n C 0 rfl rfl dX10_readGroup_50 ?_
        refine x_get C (c := 15) (ci := 10) (k1 := 4) (v1 := .int (gi M5 15 4)) (enC_10 (c := 15) rfl) (Nat.le_of_ble_eq_true rfl) rfl inX10 (by decide) wf_X10_25 rfl dX10_readGroup_51 ?_
        refine x_callV C (st := []) (As := [.int 1, .int (gi M5 15 4)]) (c := 15) (ci := 10) (enC_10 (c := 15) rfl) (Nat.le_of_ble_eq_true rfl) rfl (tX10_refuse hg _ _ _ _ _  h) wm_X10_54 wi_X10_refuse wv_X10_refuse wz_X10 wc_X10_refuse rfl yd_X10_refuse rfl ⟨rfl, rfl⟩ ⟨Nat.le_of_ble_eq_true rfl, Nat.le_of_ble_eq_true rfl⟩ (Nat.le_of_ble_eq_true rfl) rfl dX10_readGroup_54 (x_kv (fun M8 h => ?_))
        refine x_loc (L' := [(0, .ref (ga g 15))]) [0] rfl ?_
        exact tX10_readGroup_57 hg d hrec C   _  h
  · replace h := x_iff hq1 h
    refine x_aload_n C 0 rfl rfl dX10_readGroup_5 ?_
    refine x_iconst C (v1 := 5) dX10_readGroup_6 (by decide) ?_
    refine x_aload_n C 0 rfl rfl dX10_readGroup_7 ?_
    refine x_get C (c := 15) (ci := 10) (k1 := 4) (v1 := .int (gi M 15 4)) (enC_10 (c := 15) rfl) (Nat.le_of_ble_eq_true rfl) rfl inX10 (by decide) wf_X10_25 rfl dX10_readGroup_8 ?_
    refine x_callV C (st := []) (As := [.int 5, .int (gi M 15 4)]) (c := 15) (ci := 10) (enC_10 (c := 15) rfl) (Nat.le_of_ble_eq_true rfl) rfl (tX10_refuse hg _ _ _ _ _  h) wm_X10_54 wi_X10_refuse wv_X10_refuse wz_X10 wc_X10_refuse rfl yd_X10_refuse rfl ⟨rfl, rfl⟩ ⟨Nat.le_of_ble_eq_true rfl, Nat.le_of_ble_eq_true rfl⟩ (Nat.le_of_ble_eq_true rfl) rfl dX10_readGroup_11 (x_kv (fun M9 h => ?_))
    exact x_vret C dX10_readGroup_14 ⟨rfl, h⟩
set_option maxHeartbeats 4000000 in
set_option maxRecDepth 100000 in
theorem tX10_readLetter_70 {g : xG} (hg : x_inj (WC g))  {x : xCx}   {post : xMem → Prop} (C : xOk (WC g) x cX10_readLetter RX10 2 none (rm_X10_readLetter) (pV post))    (M : xMem)  (h : wX10_readLetter_70 post  M) : xW (WC g) x 2 70 [(0, .ref (ga g 15))] [] M := by
  unfold wX10_readLetter_70 at h
  refine x_aload_n C 0 rfl rfl dX10_readLetter_70 ?_
  refine x_dup C rfl dX10_readLetter_71 ?_
  refine x_get C (c := 15) (ci := 10) (k1 := 4) (v1 := .int (gi M 15 4)) (enC_10 (c := 15) rfl) (Nat.le_of_ble_eq_true rfl) rfl inX10 (by decide) wf_X10_25 rfl dX10_readLetter_72 ?_
  refine x_iconst C (v1 := 1) dX10_readLetter_75 (by decide) ?_
  refine x_iadd C dX10_readLetter_76 ?_
  refine x_put C (c := 15) (ci := 10) (k1 := 4) (u1 := ((gi M 15 4) + 1)) (v1 := .int ((gi M 15 4) + 1)) (ty := .int) (enC_10 (c := 15) rfl) (Nat.le_of_ble_eq_true rfl) rfl inX10 (by decide) (stX10_4 _ _ _) tyX10 tyX10_ok nmX10 wf_X10_25 rfl rfl rfl rfl (Nat.le_of_ble_eq_true rfl) dX10_readLetter_77 ?_
  refine x_nmM (fun M1 eM1 => ?_)
  replace h := h M1 eM1
  exact x_vret C dX10_readLetter_80 ⟨rfl, h⟩
set_option maxHeartbeats 4000000 in
set_option maxRecDepth 100000 in
theorem tX10_readLetter_21 {g : xG} (hg : x_inj (WC g))  {x : xCx}   {post : xMem → Prop} (C : xOk (WC g) x cX10_readLetter RX10 2 none (rm_X10_readLetter) (pV post))   (s0 : Int32) (M : xMem)  (h : wX10_readLetter_21 post s0 M) : xW (WC g) x 2 21 [(0, .ref (ga g 15))] [.int s0] M := by
  unfold wX10_readLetter_21 at h
  refine x_istore_n C (L' := [(1, .int s0), (0, .ref (ga g 15))]) rfl rfl (Nat.le_of_ble_eq_true rfl) dX10_readLetter_21 ?_
  refine x_iload_n C 0 rfl rfl dX10_readLetter_22 ?_
  refine x_if_ge C (tgt := 38) dX10_readLetter_23 (by decide) (fun hq1 => ?_) (fun hq1 => ?_)
  · replace h := x_ift hq1 h
    refine x_aload_n C 1 rfl rfl dX10_readLetter_38 ?_
    refine x_get C (c := 15) (ci := 10) (k1 := 1) (v1 := .int (gi M 15 1)) (enC_10 (c := 15) rfl) (Nat.le_of_ble_eq_true rfl) rfl inX10 (by decide) wf_X10_15 rfl dX10_readLetter_39 ?_
    refine x_aload_n C 1 rfl rfl dX10_readLetter_42 ?_
    refine x_get C (c := 15) (ci := 10) (k1 := 0) (v1 := .ref (ga g 16)) (enC_10 (c := 15) rfl) (Nat.le_of_ble_eq_true rfl) rfl inX10 (by decide) wf_X10_9 rfl dX10_readLetter_43 ?_
    refine x_aleni C (c := 16) (v1 := 73) (enC_20n (c := 16) (n := 73) rfl rfl) (Nat.le_of_ble_eq_true rfl) rfl rfl dX10_readLetter_46 ?_
    refine x_icmp_ge C (tgt := 70) dX10_readLetter_47 (by decide) (fun hq2 => ?_) (fun hq2 => ?_)
    · replace h := x_ift hq2 h
      refine x_loc (L' := [(0, .ref (ga g 15))]) [1] rfl ?_
      exact tX10_readLetter_70 hg  C   _  h
    · replace h := x_iff hq2 h
      refine x_aload_n C 1 rfl rfl dX10_readLetter_50 ?_
      refine x_get C (c := 15) (ci := 10) (k1 := 0) (v1 := .ref (ga g 16)) (enC_10 (c := 15) rfl) (Nat.le_of_ble_eq_true rfl) rfl inX10 (by decide) wf_X10_9 rfl dX10_readLetter_51 ?_
      refine x_aload_n C 1 rfl rfl dX10_readLetter_54 ?_
      refine x_get C (c := 15) (ci := 10) (k1 := 1) (v1 := .int (gi M 15 1)) (enC_10 (c := 15) rfl) (Nat.le_of_ble_eq_true rfl) rfl inX10 (by decide) wf_X10_15 rfl dX10_readLetter_55 ?_
      refine x_iload_n C 0 rfl rfl dX10_readLetter_58 ?_
      obtain ⟨hi3, h⟩ := h
      refine x_iast C 0 (c := 16) (enC_20n (c := 16) (n := 73) rfl rfl) (Nat.le_of_ble_eq_true rfl) rfl hi3 dX10_readLetter_59 ?_
      refine x_nmM (fun M4 eM4 => ?_)
      replace h := h M4 eM4
      refine x_aload_n C 1 rfl rfl dX10_readLetter_60 ?_
      refine x_dup C rfl dX10_readLetter_61 ?_
      refine x_get C (c := 15) (ci := 10) (k1 := 1) (v1 := .int (gi M4 15 1)) (enC_10 (c := 15) rfl) (Nat.le_of_ble_eq_true rfl) rfl inX10 (by decide) wf_X10_15 rfl dX10_readLetter_62 ?_
      refine x_iconst C (v1 := 1) dX10_readLetter_65 (by decide) ?_
      refine x_iadd C dX10_readLetter_66 ?_
      refine x_put C (c := 15) (ci := 10) (k1 := 1) (u1 := ((gi M4 15 1) + 1)) (v1 := .int ((gi M4 15 1) + 1)) (ty := .int) (enC_10 (c := 15) rfl) (Nat.le_of_ble_eq_true rfl) rfl inX10 (by decide) (stX10_1 _ _ _) tyX10 tyX10_ok nmX10 wf_X10_15 rfl rfl rfl rfl (Nat.le_of_ble_eq_true rfl) dX10_readLetter_67 ?_
      refine x_nmM (fun M5 eM5 => ?_)
      replace h := h M5 eM5
      refine x_loc (L' := [(0, .ref (ga g 15))]) [1] rfl ?_
      exact tX10_readLetter_70 hg  C   _  h
  · replace h := x_iff hq1 h
    refine x_aload_n C 1 rfl rfl dX10_readLetter_26 ?_
    refine x_iconst C (v1 := 1) dX10_readLetter_27 (by decide) ?_
    refine x_aload_n C 1 rfl rfl dX10_readLetter_28 ?_
    refine x_get C (c := 15) (ci := 10) (k1 := 4) (v1 := .int (gi M 15 4)) (enC_10 (c := 15) rfl) (Nat.le_of_ble_eq_true rfl) rfl inX10 (by decide) wf_X10_25 rfl dX10_readLetter_29 ?_
    refine x_callV C (st := []) (As := [.int 1, .int (gi M 15 4)]) (c := 15) (ci := 10) (enC_10 (c := 15) rfl) (Nat.le_of_ble_eq_true rfl) rfl (tX10_refuse hg _ _ _ _ _  h) wm_X10_54 wi_X10_refuse wv_X10_refuse wz_X10 wc_X10_refuse rfl yd_X10_refuse rfl ⟨rfl, rfl⟩ ⟨Nat.le_of_ble_eq_true rfl, Nat.le_of_ble_eq_true rfl⟩ (Nat.le_of_ble_eq_true rfl) rfl dX10_readLetter_32 (x_kv (fun M6 h => ?_))
    refine x_goto C (tgt := 70) dX10_readLetter_35 (by decide) ?_
    refine x_loc (L' := [(0, .ref (ga g 15))]) [1] rfl ?_
    exact tX10_readLetter_70 hg  C   _  h
set_option maxHeartbeats 4000000 in
set_option maxRecDepth 100000 in
theorem tX10_readLetter {g : xG} (hg : x_inj (WC g))  (l : Launch)  (M : xMem) (post : xMem → Prop)  (h : wX10_readLetter  M post) : xMet (WC g) l yX10_readLetter cX10_readLetter 2 none (rm_X10_readLetter) [.ref (ga g 15)] M (pV post) := by
  refine x_enter (own := RX10) (L0 := [(0, .ref (ga g 15))]) (by decide +kernel) rfl hg (x_stC g) (Nat.le_of_ble_eq_true rfl) rfl (fun x hl C => ?_)
  unfold wX10_readLetter at h
  refine x_aload_n C 0 rfl rfl dX10_readLetter_0 ?_
  refine x_callV C (st := []) (As := []) (c := 15) (ci := 10) (enC_10 (c := 15) rfl) (Nat.le_of_ble_eq_true rfl) rfl (tX10_sign hg _  _ _  h) wm_X10_44 wi_X10_sign wv_X10_sign wz_X10 wc_X10_sign rfl yd_X10_sign rfl ⟨rfl, rfl⟩ ⟨Nat.le_of_ble_eq_true rfl, Nat.le_of_ble_eq_true rfl⟩ (Nat.le_of_ble_eq_true rfl) rfl dX10_readLetter_1 (x_ki (fun r2 M1 h => ?_))
  refine x_if_ge C (tgt := 11) dX10_readLetter_4 (by decide) (fun hq3 => ?_) (fun hq3 => ?_)
  · replace h := x_ift hq3 h
    refine x_ldcS C 0 rfl dX10_readLetter_11 ?_
    refine x_aload_n C 0 rfl rfl dX10_readLetter_13 ?_
    refine x_callV C (st := [.ref (gK g 0)]) (As := []) (c := 15) (ci := 10) (enC_10 (c := 15) rfl) (Nat.le_of_ble_eq_true rfl) rfl (tX10_sign hg _  _ _  h) wm_X10_44 wi_X10_sign wv_X10_sign wz_X10 wc_X10_sign rfl yd_X10_sign rfl ⟨rfl, rfl⟩ ⟨Nat.le_of_ble_eq_true rfl, Nat.le_of_ble_eq_true rfl⟩ (Nat.le_of_ble_eq_true rfl) rfl dX10_readLetter_14 (x_ki (fun r5 M4 h => ?_))
    refine x_i2c C dX10_readLetter_17 ?_
    refine x_indexOf hg C (i := 0) (by decide) ⟨Nat.le_of_ble_eq_true rfl, Nat.le_of_ble_eq_true rfl⟩ (Nat.le_of_ble_eq_true rfl) wm_X10_65 dX10_readLetter_18 ?_
    exact tX10_readLetter_21 hg  C   _ _  h
  · replace h := x_iff hq3 h
    refine x_iconst C (v1 := (-1)) dX10_readLetter_7 (by decide) ?_
    refine x_goto C (tgt := 21) dX10_readLetter_8 (by decide) ?_
    exact tX10_readLetter_21 hg  C   _ _  h
set_option maxHeartbeats 4000000 in
set_option maxRecDepth 100000 in
theorem tX10_repeat_30 {g : xG} (hg : x_inj (WC g))  {x : xCx}   {post : xMem → Prop} (C : xOk (WC g) x cX10_repeat RX10 6 none (rm_X10_repeat) (pV post))   : ∀ (n : Nat) (x3 : Int32) (x4 : Int32) (x5 : Int32) (M : xMem), wX10_repeat_30 post n x3 x4 x5 M → xW (WC g) x 6 30 [(0, .ref (ga g 15)), (3, .int x3), (4, .int x4), (5, .int x5)] [] M := by
  intro n
  induction n with
  | zero =>
    intro x3 x4 x5 M  h
    exact h.elim
  | succ n ih =>
    intro x3 x4 x5 M  h
    rw [wX10_repeat_30] at h
    refine x_iload C 3 rfl dX10_repeat_30 ?_
    refine x_iload_n C 1 rfl rfl dX10_repeat_32 ?_
    refine x_icmp_ge C (tgt := 77) dX10_repeat_33 (by decide) (fun hq1 => ?_) (fun hq1 => ?_)
    · replace h := x_ift hq1 h
      exact x_vret C dX10_repeat_77 ⟨rfl, h⟩
    · replace h := x_iff hq1 h
      refine x_iload C 3 rfl dX10_repeat_36 ?_
      refine x_iload C 2 rfl dX10_repeat_38 ?_
      refine x_isub C dX10_repeat_40 ?_
      refine x_if_lt C (tgt := 77) dX10_repeat_41 (by decide) (fun hq2 => ?_) (fun hq2 => ?_)
      · replace h := x_ift hq2 h
        exact x_vret C dX10_repeat_77 ⟨rfl, h⟩
      · replace h := x_iff hq2 h
        refine x_aload_n C 0 rfl rfl dX10_repeat_44 ?_
        refine x_get C (c := 15) (ci := 10) (k1 := 0) (v1 := .ref (ga g 16)) (enC_10 (c := 15) rfl) (Nat.le_of_ble_eq_true rfl) rfl inX10 (by decide) wf_X10_9 rfl dX10_repeat_45 ?_
        refine x_iload C 3 rfl dX10_repeat_48 ?_
        refine x_aload_n C 0 rfl rfl dX10_repeat_50 ?_
        refine x_get C (c := 15) (ci := 10) (k1 := 0) (v1 := .ref (ga g 16)) (enC_10 (c := 15) rfl) (Nat.le_of_ble_eq_true rfl) rfl inX10 (by decide) wf_X10_9 rfl dX10_repeat_51 ?_
        refine x_iload C 3 rfl dX10_repeat_54 ?_
        refine x_iload C 2 rfl dX10_repeat_56 ?_
        refine x_isub C dX10_repeat_58 ?_
        obtain ⟨hi3, h⟩ := h
        refine x_iald C 0 (c := 16) (enC_20n (c := 16) (n := 73) rfl rfl) (Nat.le_of_ble_eq_true rfl) rfl hi3 dX10_repeat_59 ?_
        obtain ⟨hi4, h⟩ := h
        refine x_iast C 0 (c := 16) (enC_20n (c := 16) (n := 73) rfl rfl) (Nat.le_of_ble_eq_true rfl) rfl hi4 dX10_repeat_60 ?_
        refine x_nmM (fun M5 eM5 => ?_)
        replace h := h M5 eM5
        refine x_aload_n C 0 rfl rfl dX10_repeat_61 ?_
        refine x_dup C rfl dX10_repeat_62 ?_
        refine x_get C (c := 15) (ci := 10) (k1 := 1) (v1 := .int (gi M5 15 1)) (enC_10 (c := 15) rfl) (Nat.le_of_ble_eq_true rfl) rfl inX10 (by decide) wf_X10_15 rfl dX10_repeat_63 ?_
        refine x_iconst C (v1 := 1) dX10_repeat_66 (by decide) ?_
        refine x_iadd C dX10_repeat_67 ?_
        refine x_put C (c := 15) (ci := 10) (k1 := 1) (u1 := ((gi M5 15 1) + 1)) (v1 := .int ((gi M5 15 1) + 1)) (ty := .int) (enC_10 (c := 15) rfl) (Nat.le_of_ble_eq_true rfl) rfl inX10 (by decide) (stX10_1 _ _ _) tyX10 tyX10_ok nmX10 wf_X10_15 rfl rfl rfl rfl (Nat.le_of_ble_eq_true rfl) dX10_repeat_68 ?_
        refine x_nmM (fun M6 eM6 => ?_)
        replace h := h M6 eM6
        obtain ⟨v7, ev7⟩ : ∃ z : Int32, z = x5 + 1 := ⟨_, rfl⟩
        replace h := h v7 ev7
        refine x_iinc C 3 (v1 := v7) (L' := [(5, .int v7), (0, .ref (ga g 15)), (3, .int x3), (4, .int x4)]) rfl (by rw [ev7]; rfl) rfl (Nat.le_of_ble_eq_true rfl) dX10_repeat_71 ?_
        refine x_goto C (tgt := 30) dX10_repeat_74 (by decide) ?_
        refine x_loc (L' := [(0, .ref (ga g 15)), (3, .int x3), (4, .int x4), (5, .int v7)]) [1, 2, 3, 0] rfl ?_
        exact ih _ _ _ _  h
set_option maxHeartbeats 4000000 in
set_option maxRecDepth 100000 in
theorem tX10_repeat {g : xG} (hg : x_inj (WC g))  (l : Launch) (a0 : Int32) (a1 : Int32) (M : xMem) (post : xMem → Prop)  (h : wX10_repeat a0 a1 M post) : xMet (WC g) l yX10_repeat cX10_repeat 6 none (rm_X10_repeat) [.ref (ga g 15), .int a0, .int a1] M (pV post) := by
  refine x_enter (own := RX10) (L0 := [(0, .ref (ga g 15)), (1, .int a0), (2, .int a1)]) (by decide +kernel) rfl hg (x_stC g) (Nat.le_of_ble_eq_true rfl) rfl (fun x hl C => ?_)
  unfold wX10_repeat at h
  refine x_iload_n C 1 rfl rfl dX10_repeat_0 ?_
  refine x_aload_n C 0 rfl rfl dX10_repeat_1 ?_
  refine x_get C (c := 15) (ci := 10) (k1 := 1) (v1 := .int (gi M 15 1)) (enC_10 (c := 15) rfl) (Nat.le_of_ble_eq_true rfl) rfl inX10 (by decide) wf_X10_15 rfl dX10_repeat_2 ?_
  refine x_iload_n C 1 rfl rfl dX10_repeat_5 ?_
  refine x_isub C dX10_repeat_6 ?_
  refine x_iload_n C 2 rfl rfl dX10_repeat_7 ?_
  refine x_imul C dX10_repeat_8 ?_
  refine x_iadd C dX10_repeat_9 ?_
  refine x_bipush C (v1 := 72) dX10_repeat_10 (by decide) ?_
  refine x_callS C (st := []) (As := [.int (a0 + (((gi M 15 1) - a0) * a1)), .int 72]) (tJ9_min_7cf53 hg _ _ _ _ _  h) wm_X10_31 wsm_J9_min_7cf53 wz_J9 wc_J9_min_7cf53 yd_J9_min_7cf53 rfl ⟨rfl, rfl⟩ ⟨Nat.le_of_ble_eq_true rfl, Nat.le_of_ble_eq_true rfl⟩ (Nat.le_of_ble_eq_true rfl) rfl dX10_repeat_12 (x_ki (fun r2 M1 h => ?_))
  refine x_istore_n C (L' := [(3, .int r2), (0, .ref (ga g 15)), (1, .int a0), (2, .int a1)]) rfl rfl (Nat.le_of_ble_eq_true rfl) dX10_repeat_15 ?_
  refine x_aload_n C 1 rfl rfl dX10_repeat_16 ?_
  refine x_get C (c := 15) (ci := 10) (k1 := 1) (v1 := .int (gi M1 15 1)) (enC_10 (c := 15) rfl) (Nat.le_of_ble_eq_true rfl) rfl inX10 (by decide) wf_X10_15 rfl dX10_repeat_17 ?_
  refine x_iload_n C 2 rfl rfl dX10_repeat_20 ?_
  refine x_isub C dX10_repeat_21 ?_
  refine x_nm (fun v3 ev3 => ?_)
  replace h := h v3 ev3
  refine x_istore C (L' := [(4, .int v3), (3, .int r2), (0, .ref (ga g 15)), (1, .int a0), (2, .int a1)]) rfl (Nat.le_of_ble_eq_true rfl) dX10_repeat_22 ?_
  refine x_aload_n C 2 rfl rfl dX10_repeat_24 ?_
  refine x_get C (c := 15) (ci := 10) (k1 := 1) (v1 := .int (gi M1 15 1)) (enC_10 (c := 15) rfl) (Nat.le_of_ble_eq_true rfl) rfl inX10 (by decide) wf_X10_15 rfl dX10_repeat_25 ?_
  refine x_nm (fun v4 ev4 => ?_)
  replace h := h v4 ev4
  refine x_istore C (L' := [(5, .int v4), (4, .int v3), (3, .int r2), (0, .ref (ga g 15)), (1, .int a0), (2, .int a1)]) rfl (Nat.le_of_ble_eq_true rfl) dX10_repeat_28 ?_
  refine x_loc (L' := [(0, .ref (ga g 15)), (3, .int r2), (4, .int v3), (5, .int v4)]) [3, 2, 1, 0] rfl ?_
  obtain ⟨n30, h⟩ := h
  exact tX10_repeat_30 hg  C   _ _ _ _ _  h
set_option maxHeartbeats 4000000 in
set_option maxRecDepth 100000 in
theorem tX10_readTurn_101 {g : xG} (hg : x_inj (WC g)) (d : Nat) {rec : Int32 → xMem → (xMem → Prop) → Prop} (hrec : ∀ (l : Launch) (a0 : Int32) (M : xMem) (post : xMem → Prop), rec a0 M post → xMet (WC g) l yX10_readTurns cX10_readTurns 5 none (rm_X10_readTurns d) [.ref (ga g 15), .int a0] M (pV post)) {x : xCx}   {post : xMem → Prop} (C : xOk (WC g) x cX10_readTurn RX10 5 none (rm_X10_readTurn d) (pV post))   (x3 : Int32) (x4 : Int32) (M : xMem)  (h : wX10_readTurn_101 rec post x3 x4 M) : xW (WC g) x 5 101 [(0, .ref (ga g 15)), (3, .int x3), (4, .int x4)] [] M := by
  unfold wX10_readTurn_101 at h
  refine x_aload_n C 0 rfl rfl dX10_readTurn_101 ?_
  refine x_get C (c := 15) (ci := 10) (k1 := 5) (v1 := .int (gi M 15 5)) (enC_10 (c := 15) rfl) (Nat.le_of_ble_eq_true rfl) rfl inX10 (by decide) wf_X10_28 rfl dX10_readTurn_102 ?_
  refine x_if_ne C (tgt := 115) dX10_readTurn_105 (by decide) (fun hq1 => ?_) (fun hq1 => ?_)
  · replace h := x_iff hq1 h
    exact x_vret C dX10_readTurn_115 ⟨rfl, h⟩
  · replace h := x_ift hq1 h
    refine x_aload_n C 0 rfl rfl dX10_readTurn_108 ?_
    refine x_iload C 2 rfl dX10_readTurn_109 ?_
    refine x_iload_n C 1 rfl rfl dX10_readTurn_111 ?_
    refine x_callV C (st := []) (As := [.int x4, .int x3]) (c := 15) (ci := 10) (enC_10 (c := 15) rfl) (Nat.le_of_ble_eq_true rfl) rfl (tX10_repeat hg _ _ _ _ _  h) wm_X10_58 wi_X10_repeat wv_X10_repeat wz_X10 wc_X10_repeat rfl yd_X10_repeat rfl ⟨rfl, rfl⟩ ⟨Nat.le_of_ble_eq_true rfl, Nat.le_of_ble_eq_true rfl⟩ (Nat.le_of_ble_eq_true rfl) rfl dX10_readTurn_112 (x_kv (fun M2 h => ?_))
    exact x_vret C dX10_readTurn_115 ⟨rfl, h⟩
set_option maxHeartbeats 4000000 in
set_option maxRecDepth 100000 in
theorem tX10_readTurn_70 {g : xG} (hg : x_inj (WC g)) (d : Nat) {rec : Int32 → xMem → (xMem → Prop) → Prop} (hrec : ∀ (l : Launch) (a0 : Int32) (M : xMem) (post : xMem → Prop), rec a0 M post → xMet (WC g) l yX10_readTurns cX10_readTurns 5 none (rm_X10_readTurns d) [.ref (ga g 15), .int a0] M (pV post)) {x : xCx}   {post : xMem → Prop} (C : xOk (WC g) x cX10_readTurn RX10 5 none (rm_X10_readTurn d) (pV post))   (x2 : Int32) (x3 : Int32) (x4 : Int32) (M : xMem)  (h : wX10_readTurn_70 rec post x2 x3 x4 M) : xW (WC g) x 5 70 [(0, .ref (ga g 15)), (2, .int x2), (3, .int x3), (4, .int x4)] [] M := by
  unfold wX10_readTurn_70 at h
  refine x_aload_n C 0 rfl rfl dX10_readTurn_70 ?_
  refine x_get C (c := 15) (ci := 10) (k1 := 5) (v1 := .int (gi M 15 5)) (enC_10 (c := 15) rfl) (Nat.le_of_ble_eq_true rfl) rfl inX10 (by decide) wf_X10_28 rfl dX10_readTurn_71 ?_
  refine x_if_ne C (tgt := 101) dX10_readTurn_74 (by decide) (fun hq1 => ?_) (fun hq1 => ?_)
  · replace h := x_iff hq1 h
    refine x_loc (L' := [(0, .ref (ga g 15)), (3, .int x3), (4, .int x4)]) [0, 2, 3] rfl ?_
    exact tX10_readTurn_101 hg d hrec C   _ _ _  h
  · replace h := x_ift hq1 h
    refine x_iload C 3 rfl dX10_readTurn_77 ?_
    refine x_aload_n C 0 rfl rfl dX10_readTurn_79 ?_
    refine x_get C (c := 15) (ci := 10) (k1 := 1) (v1 := .int (gi M 15 1)) (enC_10 (c := 15) rfl) (Nat.le_of_ble_eq_true rfl) rfl inX10 (by decide) wf_X10_15 rfl dX10_readTurn_80 ?_
    refine x_iload C 3 rfl dX10_readTurn_83 ?_
    refine x_isub C dX10_readTurn_85 ?_
    refine x_iload_n C 2 rfl rfl dX10_readTurn_86 ?_
    refine x_imul C dX10_readTurn_87 ?_
    refine x_iadd C dX10_readTurn_88 ?_
    refine x_bipush C (v1 := 72) dX10_readTurn_89 (by decide) ?_
    refine x_icmp_le C (tgt := 101) dX10_readTurn_91 (by decide) (fun hq2 => ?_) (fun hq2 => ?_)
    · replace h := x_ift hq2 h
      refine x_loc (L' := [(0, .ref (ga g 15)), (3, .int x3), (4, .int x4)]) [0, 2, 3] rfl ?_
      exact tX10_readTurn_101 hg d hrec C   _ _ _  h
    · replace h := x_iff hq2 h
      refine x_aload_n C 0 rfl rfl dX10_readTurn_94 ?_
      refine x_bipush C (v1 := 6) dX10_readTurn_95 (by decide) ?_
      refine x_iload_n C 1 rfl rfl dX10_readTurn_97 ?_
      refine x_callV C (st := []) (As := [.int 6, .int x2]) (c := 15) (ci := 10) (enC_10 (c := 15) rfl) (Nat.le_of_ble_eq_true rfl) rfl (tX10_refuse hg _ _ _ _ _  h) wm_X10_54 wi_X10_refuse wv_X10_refuse wz_X10 wc_X10_refuse rfl yd_X10_refuse rfl ⟨rfl, rfl⟩ ⟨Nat.le_of_ble_eq_true rfl, Nat.le_of_ble_eq_true rfl⟩ (Nat.le_of_ble_eq_true rfl) rfl dX10_readTurn_98 (x_kv (fun M3 h => ?_))
      refine x_loc (L' := [(0, .ref (ga g 15)), (3, .int x3), (4, .int x4)]) [0, 2, 3] rfl ?_
      exact tX10_readTurn_101 hg d hrec C   _ _ _  h
set_option maxHeartbeats 4000000 in
set_option maxRecDepth 100000 in
theorem tX10_readTurn_43 {g : xG} (hg : x_inj (WC g)) (d : Nat) {rec : Int32 → xMem → (xMem → Prop) → Prop} (hrec : ∀ (l : Launch) (a0 : Int32) (M : xMem) (post : xMem → Prop), rec a0 M post → xMet (WC g) l yX10_readTurns cX10_readTurns 5 none (rm_X10_readTurns d) [.ref (ga g 15), .int a0] M (pV post)) {x : xCx}   {post : xMem → Prop} (C : xOk (WC g) x cX10_readTurn RX10 5 none (rm_X10_readTurn d) (pV post))   (x1 : Int32) (x2 : Int32) (x3 : Int32) (M : xMem)  (h : wX10_readTurn_43 rec post x1 x2 x3 M) : xW (WC g) x 5 43 [(0, .ref (ga g 15)), (1, .int x1), (2, .int x2), (3, .int x3)] [] M := by
  unfold wX10_readTurn_43 at h
  refine x_aload_n C 0 rfl rfl dX10_readTurn_43 ?_
  refine x_get C (c := 15) (ci := 10) (k1 := 1) (v1 := .int (gi M 15 1)) (enC_10 (c := 15) rfl) (Nat.le_of_ble_eq_true rfl) rfl inX10 (by decide) wf_X10_15 rfl dX10_readTurn_44 ?_
  refine x_nm (fun v1 ev1 => ?_)
  replace h := h v1 ev1
  refine x_istore C (L' := [(4, .int v1), (0, .ref (ga g 15)), (1, .int x1), (2, .int x2), (3, .int x3)]) rfl (Nat.le_of_ble_eq_true rfl) dX10_readTurn_47 ?_
  refine x_aload_n C 1 rfl rfl dX10_readTurn_49 ?_
  refine x_callV C (st := []) (As := []) (c := 15) (ci := 10) (enC_10 (c := 15) rfl) (Nat.le_of_ble_eq_true rfl) rfl (tX10_sign hg _  _ _  h) wm_X10_44 wi_X10_sign wv_X10_sign wz_X10 wc_X10_sign rfl yd_X10_sign rfl ⟨rfl, rfl⟩ ⟨Nat.le_of_ble_eq_true rfl, Nat.le_of_ble_eq_true rfl⟩ (Nat.le_of_ble_eq_true rfl) rfl dX10_readTurn_50 (x_ki (fun r3 M2 h => ?_))
  refine x_bipush C (v1 := 40) dX10_readTurn_53 (by decide) ?_
  refine x_icmp_ne C (tgt := 66) dX10_readTurn_55 (by decide) (fun hq4 => ?_) (fun hq4 => ?_)
  · replace h := x_iff hq4 h
    refine x_aload_n C 1 rfl rfl dX10_readTurn_66 ?_
    refine x_callV C (st := []) (As := []) (c := 15) (ci := 10) (enC_10 (c := 15) rfl) (Nat.le_of_ble_eq_true rfl) rfl (tX10_readLetter hg _  _ _  h) wm_X10_51 wi_X10_readLetter wv_X10_readLetter wz_X10 wc_X10_readLetter rfl yd_X10_readLetter rfl ⟨rfl, rfl⟩ ⟨Nat.le_of_ble_eq_true rfl, Nat.le_of_ble_eq_true rfl⟩ (Nat.le_of_ble_eq_true rfl) rfl dX10_readTurn_67 (x_kv (fun M5 h => ?_))
    refine x_loc (L' := [(0, .ref (ga g 15)), (2, .int x2), (3, .int x3), (4, .int v1)]) [1, 3, 4, 0] rfl ?_
    exact tX10_readTurn_70 hg d hrec C   _ _ _ _  h
  · replace h := x_ift hq4 h
    refine x_aload_n C 1 rfl rfl dX10_readTurn_58 ?_
    refine x_iload_n C 2 rfl rfl dX10_readTurn_59 ?_
    refine x_callV C (st := []) (As := [.int x1]) (c := 15) (ci := 10) (enC_10 (c := 15) rfl) (Nat.le_of_ble_eq_true rfl) rfl (tX10_readGroup hg d hrec _ _ _ _  h) wm_X10_48 wi_X10_readGroup wv_X10_readGroup wz_X10 wc_X10_readGroup rfl yd_X10_readGroup rfl ⟨rfl, rfl⟩ (by simp only [rm_X10_readTurn, rm_X10_readGroup]; omega) (Nat.le_of_ble_eq_true rfl) rfl dX10_readTurn_60 (x_kv (fun M6 h => ?_))
    refine x_goto C (tgt := 70) dX10_readTurn_63 (by decide) ?_
    refine x_loc (L' := [(0, .ref (ga g 15)), (2, .int x2), (3, .int x3), (4, .int v1)]) [1, 3, 4, 0] rfl ?_
    exact tX10_readTurn_70 hg d hrec C   _ _ _ _  h
set_option maxHeartbeats 4000000 in
set_option maxRecDepth 100000 in
theorem tX10_readTurn {g : xG} (hg : x_inj (WC g)) (d : Nat) {rec : Int32 → xMem → (xMem → Prop) → Prop} (hrec : ∀ (l : Launch) (a0 : Int32) (M : xMem) (post : xMem → Prop), rec a0 M post → xMet (WC g) l yX10_readTurns cX10_readTurns 5 none (rm_X10_readTurns d) [.ref (ga g 15), .int a0] M (pV post)) (l : Launch) (a0 : Int32) (M : xMem) (post : xMem → Prop)  (h : wX10_readTurn rec a0 M post) : xMet (WC g) l yX10_readTurn cX10_readTurn 5 none (rm_X10_readTurn d) [.ref (ga g 15), .int a0] M (pV post) := by
  refine x_enter (own := RX10) (L0 := [(0, .ref (ga g 15)), (1, .int a0)]) (by decide +kernel) rfl hg (x_stC g) (Nat.le_of_ble_eq_true rfl) rfl (fun x hl C => ?_)
  unfold wX10_readTurn at h
  refine x_aload_n C 0 rfl rfl dX10_readTurn_0 ?_
  refine x_get C (c := 15) (ci := 10) (k1 := 4) (v1 := .int (gi M 15 4)) (enC_10 (c := 15) rfl) (Nat.le_of_ble_eq_true rfl) rfl inX10 (by decide) wf_X10_25 rfl dX10_readTurn_1 ?_
  refine x_nm (fun v1 ev1 => ?_)
  replace h := h v1 ev1
  refine x_istore_n C (L' := [(2, .int v1), (0, .ref (ga g 15)), (1, .int a0)]) rfl rfl (Nat.le_of_ble_eq_true rfl) dX10_readTurn_4 ?_
  refine x_iconst C (v1 := 1) dX10_readTurn_5 (by decide) ?_
  refine x_istore_n C (L' := [(3, .int 1), (2, .int v1), (0, .ref (ga g 15)), (1, .int a0)]) rfl rfl (Nat.le_of_ble_eq_true rfl) dX10_readTurn_6 ?_
  refine x_aload_n C 2 rfl rfl dX10_readTurn_7 ?_
  refine x_callV C (st := []) (As := []) (c := 15) (ci := 10) (enC_10 (c := 15) rfl) (Nat.le_of_ble_eq_true rfl) rfl (tX10_sign hg _  _ _  h) wm_X10_44 wi_X10_sign wv_X10_sign wz_X10 wc_X10_sign rfl yd_X10_sign rfl ⟨rfl, rfl⟩ ⟨Nat.le_of_ble_eq_true rfl, Nat.le_of_ble_eq_true rfl⟩ (Nat.le_of_ble_eq_true rfl) rfl dX10_readTurn_8 (x_ki (fun r3 M2 h => ?_))
  refine x_bipush C (v1 := 50) dX10_readTurn_11 (by decide) ?_
  refine x_icmp_lt C (tgt := 43) dX10_readTurn_13 (by decide) (fun hq4 => ?_) (fun hq4 => ?_)
  · replace h := x_ift hq4 h
    refine x_loc (L' := [(0, .ref (ga g 15)), (1, .int a0), (2, .int v1), (3, .int 1)]) [2, 3, 1, 0] rfl ?_
    exact tX10_readTurn_43 hg d hrec C   _ _ _ _  h
  · replace h := x_iff hq4 h
    refine x_aload_n C 2 rfl rfl dX10_readTurn_16 ?_
    refine x_callV C (st := []) (As := []) (c := 15) (ci := 10) (enC_10 (c := 15) rfl) (Nat.le_of_ble_eq_true rfl) rfl (tX10_sign hg _  _ _  h) wm_X10_44 wi_X10_sign wv_X10_sign wz_X10 wc_X10_sign rfl yd_X10_sign rfl ⟨rfl, rfl⟩ ⟨Nat.le_of_ble_eq_true rfl, Nat.le_of_ble_eq_true rfl⟩ (Nat.le_of_ble_eq_true rfl) rfl dX10_readTurn_17 (x_ki (fun r6 M5 h => ?_))
    refine x_bipush C (v1 := 57) dX10_readTurn_20 (by decide) ?_
    refine x_icmp_gt C (tgt := 43) dX10_readTurn_22 (by decide) (fun hq7 => ?_) (fun hq7 => ?_)
    · replace h := x_ift hq7 h
      refine x_loc (L' := [(0, .ref (ga g 15)), (1, .int a0), (2, .int v1), (3, .int 1)]) [2, 3, 1, 0] rfl ?_
      exact tX10_readTurn_43 hg d hrec C   _ _ _ _  h
    · replace h := x_iff hq7 h
      refine x_aload_n C 2 rfl rfl dX10_readTurn_25 ?_
      refine x_callV C (st := []) (As := []) (c := 15) (ci := 10) (enC_10 (c := 15) rfl) (Nat.le_of_ble_eq_true rfl) rfl (tX10_sign hg _  _ _  h) wm_X10_44 wi_X10_sign wv_X10_sign wz_X10 wc_X10_sign rfl yd_X10_sign rfl ⟨rfl, rfl⟩ ⟨Nat.le_of_ble_eq_true rfl, Nat.le_of_ble_eq_true rfl⟩ (Nat.le_of_ble_eq_true rfl) rfl dX10_readTurn_26 (x_ki (fun r9 M8 h => ?_))
      refine x_bipush C (v1 := 48) dX10_readTurn_29 (by decide) ?_
      refine x_isub C dX10_readTurn_31 ?_
      refine x_nm (fun v10 ev10 => ?_)
      replace h := h v10 ev10
      refine x_istore_n C (L' := [(3, .int v10), (2, .int v1), (0, .ref (ga g 15)), (1, .int a0)]) rfl rfl (Nat.le_of_ble_eq_true rfl) dX10_readTurn_32 ?_
      refine x_aload_n C 2 rfl rfl dX10_readTurn_33 ?_
      refine x_dup C rfl dX10_readTurn_34 ?_
      refine x_get C (c := 15) (ci := 10) (k1 := 4) (v1 := .int (gi M8 15 4)) (enC_10 (c := 15) rfl) (Nat.le_of_ble_eq_true rfl) rfl inX10 (by decide) wf_X10_25 rfl dX10_readTurn_35 ?_
      refine x_iconst C (v1 := 1) dX10_readTurn_38 (by decide) ?_
      refine x_iadd C dX10_readTurn_39 ?_
      refine x_put C (c := 15) (ci := 10) (k1 := 4) (u1 := ((gi M8 15 4) + 1)) (v1 := .int ((gi M8 15 4) + 1)) (ty := .int) (enC_10 (c := 15) rfl) (Nat.le_of_ble_eq_true rfl) rfl inX10 (by decide) (stX10_4 _ _ _) tyX10 tyX10_ok nmX10 wf_X10_25 rfl rfl rfl rfl (Nat.le_of_ble_eq_true rfl) dX10_readTurn_40 ?_
      refine x_nmM (fun M11 eM11 => ?_)
      replace h := h M11 eM11
      refine x_loc (L' := [(0, .ref (ga g 15)), (1, .int a0), (2, .int v1), (3, .int v10)]) [2, 3, 1, 0] rfl ?_
      exact tX10_readTurn_43 hg d hrec C   _ _ _ _  h
set_option maxHeartbeats 4000000 in
set_option maxRecDepth 100000 in
theorem tX10_readTurns_75 {g : xG} (hg : x_inj (WC g)) (d : Nat) {rec : Int32 → xMem → (xMem → Prop) → Prop} (hrec : ∀ (l : Launch) (a0 : Int32) (M : xMem) (post : xMem → Prop), rec a0 M post → xMet (WC g) l yX10_readTurns cX10_readTurns 5 none (rm_X10_readTurns d) [.ref (ga g 15), .int a0] M (pV post)) {x : xCx}  {K4 : Int32 → Int32 → Int32 → xMem → Prop} {post : xMem → Prop} (C : xOk (WC g) x cX10_readTurns RX10 5 none (rm_X10_readTurns (d + 1)) (pV post))  (hK4 : ∀ (x1 : Int32) (x2 : Int32) (x3 : Int32) (M : xMem), K4 x1 x2 x3 M → xW (WC g) x 5 4 [(0, .ref (ga g 15)), (1, .int x1), (2, .int x2), (3, .int x3)] [] M) (x1 : Int32) (x3 : Int32) (s0 : Int32) (M : xMem)  (h : wX10_readTurns_at_75 rec K4 post x1 x3 s0 M) : xW (WC g) x 5 75 [(0, .ref (ga g 15)), (1, .int x1), (3, .int x3)] [.int s0] M := by
  unfold wX10_readTurns_at_75 at h
  refine x_istore_n C (L' := [(2, .int s0), (0, .ref (ga g 15)), (1, .int x1), (3, .int x3)]) rfl rfl (Nat.le_of_ble_eq_true rfl) dX10_readTurns_75 ?_
  obtain ⟨v1, ev1⟩ : ∃ z : Int32, z = x3 + 1 := ⟨_, rfl⟩
  replace h := h v1 ev1
  refine x_iinc C 3 (v1 := v1) (L' := [(3, .int v1), (2, .int s0), (0, .ref (ga g 15)), (1, .int x1)]) rfl (by rw [ev1]; rfl) rfl (Nat.le_of_ble_eq_true rfl) dX10_readTurns_76 ?_
  refine x_goto C (tgt := 4) dX10_readTurns_79 (by decide) ?_
  refine x_loc (L' := [(0, .ref (ga g 15)), (1, .int x1), (2, .int s0), (3, .int v1)]) [2, 3, 1, 0] rfl ?_
  exact hK4 _ _ _ _  h
set_option maxHeartbeats 4000000 in
set_option maxRecDepth 100000 in
theorem tX10_readTurns_74 {g : xG} (hg : x_inj (WC g)) (d : Nat) {rec : Int32 → xMem → (xMem → Prop) → Prop} (hrec : ∀ (l : Launch) (a0 : Int32) (M : xMem) (post : xMem → Prop), rec a0 M post → xMet (WC g) l yX10_readTurns cX10_readTurns 5 none (rm_X10_readTurns d) [.ref (ga g 15), .int a0] M (pV post)) {x : xCx}  {K4 : Int32 → Int32 → Int32 → xMem → Prop} {post : xMem → Prop} (C : xOk (WC g) x cX10_readTurns RX10 5 none (rm_X10_readTurns (d + 1)) (pV post))  (hK4 : ∀ (x1 : Int32) (x2 : Int32) (x3 : Int32) (M : xMem), K4 x1 x2 x3 M → xW (WC g) x 5 4 [(0, .ref (ga g 15)), (1, .int x1), (2, .int x2), (3, .int x3)] [] M) (x1 : Int32) (x3 : Int32) (M : xMem)  (h : wX10_readTurns_at_74 rec K4 post x1 x3 M) : xW (WC g) x 5 74 [(0, .ref (ga g 15)), (1, .int x1), (3, .int x3)] [] M := by
  unfold wX10_readTurns_at_74 at h
  refine x_iconst C (v1 := 0) dX10_readTurns_74 (by decide) ?_
  exact tX10_readTurns_75 hg d hrec C  hK4 _ _ _ _  h
set_option maxHeartbeats 4000000 in
set_option maxRecDepth 100000 in
theorem tX10_readTurns_56 {g : xG} (hg : x_inj (WC g)) (d : Nat) {rec : Int32 → xMem → (xMem → Prop) → Prop} (hrec : ∀ (l : Launch) (a0 : Int32) (M : xMem) (post : xMem → Prop), rec a0 M post → xMet (WC g) l yX10_readTurns cX10_readTurns 5 none (rm_X10_readTurns d) [.ref (ga g 15), .int a0] M (pV post)) {x : xCx}  {K4 : Int32 → Int32 → Int32 → xMem → Prop} {post : xMem → Prop} (C : xOk (WC g) x cX10_readTurns RX10 5 none (rm_X10_readTurns (d + 1)) (pV post))  (hK4 : ∀ (x1 : Int32) (x2 : Int32) (x3 : Int32) (M : xMem), K4 x1 x2 x3 M → xW (WC g) x 5 4 [(0, .ref (ga g 15)), (1, .int x1), (2, .int x2), (3, .int x3)] [] M) (x1 : Int32) (x3 : Int32) (s0 : Int32) (M : xMem)  (h : wX10_readTurns_at_56 rec K4 post x1 x3 s0 M) : xW (WC g) x 5 56 [(0, .ref (ga g 15)), (1, .int x1), (3, .int x3)] [.int s0] M := by
  unfold wX10_readTurns_at_56 at h
  refine x_istore C (L' := [(4, .int s0), (0, .ref (ga g 15)), (1, .int x1), (3, .int x3)]) rfl (Nat.le_of_ble_eq_true rfl) dX10_readTurns_56 ?_
  refine x_aload_n C 1 rfl rfl dX10_readTurns_58 ?_
  refine x_get C (c := 15) (ci := 10) (k1 := 5) (v1 := .int (gi M 15 5)) (enC_10 (c := 15) rfl) (Nat.le_of_ble_eq_true rfl) rfl inX10 (by decide) wf_X10_28 rfl dX10_readTurns_59 ?_
  refine x_if_ne C (tgt := 74) dX10_readTurns_62 (by decide) (fun hq1 => ?_) (fun hq1 => ?_)
  · replace h := x_iff hq1 h
    refine x_loc (L' := [(0, .ref (ga g 15)), (1, .int x1), (3, .int x3)]) [1, 2, 3] rfl ?_
    exact tX10_readTurns_74 hg d hrec C  hK4 _ _ _  h
  · replace h := x_ift hq1 h
    refine x_iload C 0 rfl dX10_readTurns_65 ?_
    refine x_if_ne C (tgt := 74) dX10_readTurns_67 (by decide) (fun hq2 => ?_) (fun hq2 => ?_)
    · replace h := x_iff hq2 h
      refine x_loc (L' := [(0, .ref (ga g 15)), (1, .int x1), (3, .int x3)]) [1, 2, 3] rfl ?_
      exact tX10_readTurns_74 hg d hrec C  hK4 _ _ _  h
    · replace h := x_ift hq2 h
      refine x_iconst C (v1 := 1) dX10_readTurns_70 (by decide) ?_
      refine x_goto C (tgt := 75) dX10_readTurns_71 (by decide) ?_
      refine x_loc (L' := [(0, .ref (ga g 15)), (1, .int x1), (3, .int x3)]) [1, 2, 3] rfl ?_
      exact tX10_readTurns_75 hg d hrec C  hK4 _ _ _ _  h
set_option maxHeartbeats 4000000 in
set_option maxRecDepth 100000 in
theorem tX10_readTurns_4 {g : xG} (hg : x_inj (WC g)) (d : Nat) {rec : Int32 → xMem → (xMem → Prop) → Prop} (hrec : ∀ (l : Launch) (a0 : Int32) (M : xMem) (post : xMem → Prop), rec a0 M post → xMet (WC g) l yX10_readTurns cX10_readTurns 5 none (rm_X10_readTurns d) [.ref (ga g 15), .int a0] M (pV post)) {x : xCx}   {post : xMem → Prop} (C : xOk (WC g) x cX10_readTurns RX10 5 none (rm_X10_readTurns (d + 1)) (pV post))   : ∀ (n : Nat) (x1 : Int32) (x2 : Int32) (x3 : Int32) (M : xMem), wX10_readTurns_at_4 rec post n x1 x2 x3 M → xW (WC g) x 5 4 [(0, .ref (ga g 15)), (1, .int x1), (2, .int x2), (3, .int x3)] [] M := by
  intro n
  induction n with
  | zero =>
    intro x1 x2 x3 M  h
    exact h.elim
  | succ n ih =>
    intro x1 x2 x3 M  h
    rw [wX10_readTurns_at_4] at h
    refine x_iload_n C 3 rfl rfl dX10_readTurns_4 ?_
    refine x_bipush C (v1 := 80) dX10_readTurns_5 (by decide) ?_
    refine x_icmp_ge C (tgt := 82) dX10_readTurns_7 (by decide) (fun hq1 => ?_) (fun hq1 => ?_)
    · replace h := x_ift hq1 h
      exact x_vret C dX10_readTurns_82 ⟨rfl, h⟩
    · replace h := x_iff hq1 h
      refine x_iload_n C 2 rfl rfl dX10_readTurns_10 ?_
      refine x_if_eq C (tgt := 82) dX10_readTurns_11 (by decide) (fun hq2 => ?_) (fun hq2 => ?_)
      · replace h := x_ift hq2 h
        exact x_vret C dX10_readTurns_82 ⟨rfl, h⟩
      · replace h := x_iff hq2 h
        refine x_aload_n C 0 rfl rfl dX10_readTurns_14 ?_
        refine x_iload_n C 1 rfl rfl dX10_readTurns_15 ?_
        refine x_callV C (st := []) (As := [.int x1]) (c := 15) (ci := 10) (enC_10 (c := 15) rfl) (Nat.le_of_ble_eq_true rfl) rfl (tX10_readTurn hg d hrec _ _ _ _  h) wm_X10_41 wi_X10_readTurn wv_X10_readTurn wz_X10 wc_X10_readTurn rfl yd_X10_readTurn rfl ⟨rfl, rfl⟩ (by simp only [rm_X10_readTurns, rm_X10_readTurn]; omega) (Nat.le_of_ble_eq_true rfl) rfl dX10_readTurns_16 (x_kv (fun M3 h => ?_))
        refine x_iload_n C 1 rfl rfl dX10_readTurns_19 ?_
        refine x_if_le C (tgt := 40) dX10_readTurns_20 (by decide) (fun hq4 => ?_) (fun hq4 => ?_)
        · replace h := x_ift hq4 h
          refine x_aload_n C 0 rfl rfl dX10_readTurns_40 ?_
          refine x_get C (c := 15) (ci := 10) (k1 := 4) (v1 := .int (gi M3 15 4)) (enC_10 (c := 15) rfl) (Nat.le_of_ble_eq_true rfl) rfl inX10 (by decide) wf_X10_25 rfl dX10_readTurns_41 ?_
          refine x_aload_n C 0 rfl rfl dX10_readTurns_44 ?_
          refine x_get C (c := 15) (ci := 10) (k1 := 3) (v1 := .int (gi M3 15 3)) (enC_10 (c := 15) rfl) (Nat.le_of_ble_eq_true rfl) rfl inX10 (by decide) wf_X10_22 rfl dX10_readTurns_45 ?_
          refine x_icmp_lt C (tgt := 55) dX10_readTurns_48 (by decide) (fun hq5 => ?_) (fun hq5 => ?_)
          · replace h := x_ift hq5 h
            refine x_iconst C (v1 := 0) dX10_readTurns_55 (by decide) ?_
            refine x_loc (L' := [(0, .ref (ga g 15)), (1, .int x1), (3, .int x3)]) [0, 1, 3] rfl ?_
            exact tX10_readTurns_56 hg d hrec C  ih _ _ _ _  h
          · replace h := x_iff hq5 h
            refine x_iconst C (v1 := 1) dX10_readTurns_51 (by decide) ?_
            refine x_goto C (tgt := 56) dX10_readTurns_52 (by decide) ?_
            refine x_loc (L' := [(0, .ref (ga g 15)), (1, .int x1), (3, .int x3)]) [0, 1, 3] rfl ?_
            exact tX10_readTurns_56 hg d hrec C  ih _ _ _ _  h
        · replace h := x_iff hq4 h
          refine x_aload_n C 0 rfl rfl dX10_readTurns_23 ?_
          refine x_callV C (st := []) (As := []) (c := 15) (ci := 10) (enC_10 (c := 15) rfl) (Nat.le_of_ble_eq_true rfl) rfl (tX10_sign hg _  _ _  h) wm_X10_44 wi_X10_sign wv_X10_sign wz_X10 wc_X10_sign rfl yd_X10_sign rfl ⟨rfl, rfl⟩ ⟨Nat.le_of_ble_eq_true rfl, Nat.le_of_ble_eq_true rfl⟩ (Nat.le_of_ble_eq_true rfl) rfl dX10_readTurns_24 (x_ki (fun r7 M6 h => ?_))
          refine x_bipush C (v1 := 41) dX10_readTurns_27 (by decide) ?_
          refine x_icmp_ne C (tgt := 36) dX10_readTurns_29 (by decide) (fun hq8 => ?_) (fun hq8 => ?_)
          · replace h := x_iff hq8 h
            refine x_iconst C (v1 := 0) dX10_readTurns_36 (by decide) ?_
            refine x_goto C (tgt := 56) dX10_readTurns_37 (by decide) ?_
            refine x_loc (L' := [(0, .ref (ga g 15)), (1, .int x1), (3, .int x3)]) [0, 1, 3] rfl ?_
            exact tX10_readTurns_56 hg d hrec C  ih _ _ _ _  h
          · replace h := x_ift hq8 h
            refine x_iconst C (v1 := 1) dX10_readTurns_32 (by decide) ?_
            refine x_goto C (tgt := 56) dX10_readTurns_33 (by decide) ?_
            refine x_loc (L' := [(0, .ref (ga g 15)), (1, .int x1), (3, .int x3)]) [0, 1, 3] rfl ?_
            exact tX10_readTurns_56 hg d hrec C  ih _ _ _ _  h
set_option maxHeartbeats 4000000 in
set_option maxRecDepth 100000 in
theorem tX10_readTurns_at {g : xG} (hg : x_inj (WC g)) (d : Nat) {rec : Int32 → xMem → (xMem → Prop) → Prop} (hrec : ∀ (l : Launch) (a0 : Int32) (M : xMem) (post : xMem → Prop), rec a0 M post → xMet (WC g) l yX10_readTurns cX10_readTurns 5 none (rm_X10_readTurns d) [.ref (ga g 15), .int a0] M (pV post)) (l : Launch) (a0 : Int32) (M : xMem) (post : xMem → Prop)  (h : wX10_readTurns_at rec a0 M post) : xMet (WC g) l yX10_readTurns cX10_readTurns 5 none (rm_X10_readTurns (d + 1)) [.ref (ga g 15), .int a0] M (pV post) := by
  refine x_enter (own := RX10) (L0 := [(0, .ref (ga g 15)), (1, .int a0)]) (by decide +kernel) rfl hg (x_stC g) (Nat.le_of_ble_eq_true rfl) rfl (fun x hl C => ?_)
  unfold wX10_readTurns_at at h
  refine x_iconst C (v1 := 1) dX10_readTurns_0 (by decide) ?_
  refine x_istore_n C (L' := [(2, .int 1), (0, .ref (ga g 15)), (1, .int a0)]) rfl rfl (Nat.le_of_ble_eq_true rfl) dX10_readTurns_1 ?_
  refine x_iconst C (v1 := 0) dX10_readTurns_2 (by decide) ?_
  refine x_istore_n C (L' := [(3, .int 0), (2, .int 1), (0, .ref (ga g 15)), (1, .int a0)]) rfl rfl (Nat.le_of_ble_eq_true rfl) dX10_readTurns_3 ?_
  refine x_loc (L' := [(0, .ref (ga g 15)), (1, .int a0), (2, .int 1), (3, .int 0)]) [2, 3, 1, 0] rfl ?_
  obtain ⟨n4, h⟩ := h
  exact tX10_readTurns_4 hg d hrec C   _ _ _ _ _  h
theorem tX10_readTurns {g : xG} (hg : x_inj (WC g)) : ∀ (d : Nat) (l : Launch) (a0 : Int32) (M : xMem) (post : xMem → Prop), wX10_readTurns d a0 M post → xMet (WC g) l yX10_readTurns cX10_readTurns 5 none (rm_X10_readTurns d) [.ref (ga g 15), .int a0] M (pV post) := by
  intro d
  induction d with
  | zero =>
    intro l a0 M post  h
    exact h.elim
  | succ d ih =>
    intro l a0 M post  h
    exact tX10_readTurns_at hg d ih l a0 M post  h
set_option maxHeartbeats 4000000 in
set_option maxRecDepth 100000 in
theorem tX10_read {g : xG} (hg : x_inj (WC g))  (l : Launch) (a1 : Int32) (M : xMem) (post : Int32 → xMem → Prop)  (h : wX10_read a1 M post) : xMet (WC g) l yX10_read cX10_read 3 (some .int) (rm_X10_read) [.ref (ga g 15), .ref (ga g 1), .int a1] M (pI post) := by
  refine x_enter (own := RX10) (L0 := [(0, .ref (ga g 15)), (1, .ref (ga g 1)), (2, .int a1)]) (by decide +kernel) rfl hg (x_stC g) (Nat.le_of_ble_eq_true rfl) rfl (fun x hl C => ?_)
  unfold wX10_read at h
  refine x_aload_n C 0 rfl rfl dX10_read_0 ?_
  refine x_aload_n C 1 rfl rfl dX10_read_1 ?_
  refine x_put C (c := 15) (ci := 10) (k1 := 2) (u1 := 1) (v1 := .ref (ga g 1)) (ty := (.array .int)) (enC_10 (c := 15) rfl) (Nat.le_of_ble_eq_true rfl) rfl inX10 (by decide) (stX10_2 _ _ _ _ (by decide)) tyX10 tyX10_ok nmX10 wf_X10_19 rfl rfl rfl rfl (Nat.le_of_ble_eq_true rfl) dX10_read_2 ?_
  refine x_nmM (fun M1 eM1 => ?_)
  replace h := h M1 eM1
  refine x_aload_n C 0 rfl rfl dX10_read_5 ?_
  refine x_iload_n C 2 rfl rfl dX10_read_6 ?_
  refine x_aload_n C 1 rfl rfl dX10_read_7 ?_
  refine x_aleni C (c := 1) (v1 := 260) (enC_20n (c := 1) (n := 260) rfl rfl) (Nat.le_of_ble_eq_true rfl) rfl rfl dX10_read_8 ?_
  refine x_callS C (st := [.ref (ga g 15)]) (As := [.int a1, .int 260]) (tJ9_min_7cf53 hg _ _ _ _ _  h) wm_X10_31 wsm_J9_min_7cf53 wz_J9 wc_J9_min_7cf53 yd_J9_min_7cf53 rfl ⟨rfl, rfl⟩ ⟨Nat.le_of_ble_eq_true rfl, Nat.le_of_ble_eq_true rfl⟩ (Nat.le_of_ble_eq_true rfl) rfl dX10_read_9 (x_ki (fun r3 M2 h => ?_))
  refine x_put C (c := 15) (ci := 10) (k1 := 3) (u1 := r3) (v1 := .int r3) (ty := .int) (enC_10 (c := 15) rfl) (Nat.le_of_ble_eq_true rfl) rfl inX10 (by decide) (stX10_3 _ _ _) tyX10 tyX10_ok nmX10 wf_X10_22 rfl rfl rfl rfl (Nat.le_of_ble_eq_true rfl) dX10_read_12 ?_
  refine x_nmM (fun M4 eM4 => ?_)
  replace h := h M4 eM4
  refine x_aload_n C 0 rfl rfl dX10_read_15 ?_
  refine x_iconst C (v1 := 0) dX10_read_16 (by decide) ?_
  refine x_put C (c := 15) (ci := 10) (k1 := 4) (u1 := 0) (v1 := .int 0) (ty := .int) (enC_10 (c := 15) rfl) (Nat.le_of_ble_eq_true rfl) rfl inX10 (by decide) (stX10_4 _ _ _) tyX10 tyX10_ok nmX10 wf_X10_25 rfl rfl rfl rfl (Nat.le_of_ble_eq_true rfl) dX10_read_17 ?_
  refine x_nmM (fun M5 eM5 => ?_)
  replace h := h M5 eM5
  refine x_aload_n C 0 rfl rfl dX10_read_20 ?_
  refine x_iconst C (v1 := 0) dX10_read_21 (by decide) ?_
  refine x_put C (c := 15) (ci := 10) (k1 := 5) (u1 := 0) (v1 := .int 0) (ty := .int) (enC_10 (c := 15) rfl) (Nat.le_of_ble_eq_true rfl) rfl inX10 (by decide) (stX10_5 _ _ _) tyX10 tyX10_ok nmX10 wf_X10_28 rfl rfl rfl rfl (Nat.le_of_ble_eq_true rfl) dX10_read_22 ?_
  refine x_nmM (fun M6 eM6 => ?_)
  replace h := h M6 eM6
  refine x_aload_n C 0 rfl rfl dX10_read_25 ?_
  refine x_iconst C (v1 := 0) dX10_read_26 (by decide) ?_
  refine x_put C (c := 15) (ci := 10) (k1 := 1) (u1 := 0) (v1 := .int 0) (ty := .int) (enC_10 (c := 15) rfl) (Nat.le_of_ble_eq_true rfl) rfl inX10 (by decide) (stX10_1 _ _ _) tyX10 tyX10_ok nmX10 wf_X10_15 rfl rfl rfl rfl (Nat.le_of_ble_eq_true rfl) dX10_read_27 ?_
  refine x_nmM (fun M7 eM7 => ?_)
  replace h := h M7 eM7
  refine x_aload_n C 0 rfl rfl dX10_read_30 ?_
  refine x_iconst C (v1 := 0) dX10_read_31 (by decide) ?_
  refine x_callV C (st := []) (As := [.int 0]) (c := 15) (ci := 10) (enC_10 (c := 15) rfl) (Nat.le_of_ble_eq_true rfl) rfl (tX10_readTurns hg 5 _ _ _ _  h) wm_X10_37 wi_X10_readTurns wv_X10_readTurns wz_X10 wc_X10_readTurns rfl yd_X10_readTurns rfl ⟨rfl, rfl⟩ ⟨Nat.le_of_ble_eq_true rfl, Nat.le_of_ble_eq_true rfl⟩ (Nat.le_of_ble_eq_true rfl) rfl dX10_read_32 (x_kv (fun M8 h => ?_))
  refine x_aload_n C 0 rfl rfl dX10_read_35 ?_
  refine x_get C (c := 15) (ci := 10) (k1 := 5) (v1 := .int (gi M8 15 5)) (enC_10 (c := 15) rfl) (Nat.le_of_ble_eq_true rfl) rfl inX10 (by decide) wf_X10_28 rfl dX10_read_36 ?_
  refine x_if_eq C (tgt := 49) dX10_read_39 (by decide) (fun hq9 => ?_) (fun hq9 => ?_)
  · replace h := x_ift hq9 h
    refine x_aload_n C 0 rfl rfl dX10_read_49 ?_
    refine x_get C (c := 15) (ci := 10) (k1 := 1) (v1 := .int (gi M8 15 1)) (enC_10 (c := 15) rfl) (Nat.le_of_ble_eq_true rfl) rfl inX10 (by decide) wf_X10_15 rfl dX10_read_50 ?_
    exact x_iret C dX10_read_53 ⟨_, rfl, h⟩
  · replace h := x_iff hq9 h
    refine x_aload_n C 0 rfl rfl dX10_read_42 ?_
    refine x_get C (c := 15) (ci := 10) (k1 := 5) (v1 := .int (gi M8 15 5)) (enC_10 (c := 15) rfl) (Nat.le_of_ble_eq_true rfl) rfl inX10 (by decide) wf_X10_28 rfl dX10_read_43 ?_
    refine x_goto C (tgt := 53) dX10_read_46 (by decide) ?_
    exact x_iret C dX10_read_53 ⟨_, rfl, h⟩
