abbrev rm_X12_lies : Room := { frames := 0, cells := 0, slots := 0, locals := 0 }
theorem yd_X12_lies : yX12_lies.cls ≠ "java/lang/invoke/MethodHandle" ∧ yX12_lies.cls ≠ "java/lang/invoke/VarHandle" ∧ (parseMethodDescriptor yX12_lies.desc).map (fun d => d.parameters.length) = some 3 := by decide +kernel
def wX12_lies  (a0 : Int64) (a1 : Int64) (a2 : Int64) (M : xMem) (post : Int32 → xMem → Prop) : Prop :=
    if (lg_cmp a0 a1) < 0 then (
      post 0 M)
    else (
      if 0 < (lg_cmp a0 a2) then (
        post 0 M)
      else (
        post 1 M))
abbrev rm_X12_has : Room := { frames := 0, cells := 0, slots := 0, locals := 0 }
theorem yd_X12_has : yX12_has.cls ≠ "java/lang/invoke/MethodHandle" ∧ yX12_has.cls ≠ "java/lang/invoke/VarHandle" ∧ (parseMethodDescriptor yX12_has.desc).map (fun d => d.parameters.length) = some 2 := by decide +kernel
def wX12_has  (a0 : Int32) (a1 : Int32) (M : xMem) (post : Int32 → xMem → Prop) : Prop :=
    if ((a0 >>> (a1 &&& 31)) &&& 1) = 1 then (
      post 1 M)
    else (
      post 0 M)
abbrev rm_X12_sizeOf : Room := { frames := 0, cells := 0, slots := 0, locals := 0 }
theorem yd_X12_sizeOf : yX12_sizeOf.cls ≠ "java/lang/invoke/MethodHandle" ∧ yX12_sizeOf.cls ≠ "java/lang/invoke/VarHandle" ∧ (parseMethodDescriptor yX12_sizeOf.desc).map (fun d => d.parameters.length) = some 1 := by decide +kernel
def wX12_sizeOf_4    (post : Int32 → xMem → Prop) : Nat → Int32 → Int32 → xMem → Prop
  | 0 => fun _ _ _ => False
  | n + 1 => fun x1 x2 M =>
      if x2 = 0 then (
        post x1 M)
      else (
        ∀ v2 : Int32, v2 = x1 + 1 →
        ∀ v3 : Int32, v3 = x2 &&& (x2 - 1) →
        wX12_sizeOf_4 post n v2 v3 M)
def wX12_sizeOf  (a0 : Int32) (M : xMem) (post : Int32 → xMem → Prop) : Prop :=
    ∃ n4 : Nat, wX12_sizeOf_4 post n4 0 a0 M
abbrev rm_X12_lowestOf : Room := { frames := 1, cells := 0, slots := 0, locals := 21 }
theorem yd_X12_lowestOf : yX12_lowestOf.cls ≠ "java/lang/invoke/MethodHandle" ∧ yX12_lowestOf.cls ≠ "java/lang/invoke/VarHandle" ∧ (parseMethodDescriptor yX12_lowestOf.desc).map (fun d => d.parameters.length) = some 1 := by decide +kernel
def wX12_lowestOf_2    (post : Int32 → xMem → Prop) : Nat → Int32 → Int32 → xMem → Prop
  | 0 => fun _ _ _ => False
  | n + 1 => fun x0 x1 M =>
      wX12_has x0 x1 M (fun r2 M1 =>
        if r2 = 0 then (
          ∀ v4 : Int32, v4 = x1 + 1 →
          wX12_lowestOf_2 post n x0 v4 M1)
        else (
          post x1 M1))
def wX12_lowestOf  (a0 : Int32) (M : xMem) (post : Int32 → xMem → Prop) : Prop :=
    ∃ n2 : Nat, wX12_lowestOf_2 post n2 a0 0 M
abbrev rm_X12_held : Room := { frames := 0, cells := 0, slots := 0, locals := 0 }
theorem yd_X12_held : yX12_held.cls ≠ "java/lang/invoke/MethodHandle" ∧ yX12_held.cls ≠ "java/lang/invoke/VarHandle" ∧ (parseMethodDescriptor yX12_held.desc).map (fun d => d.parameters.length) = some 2 := by decide +kernel
def wX12_held  (a0 : Int32) (a1 : Int32) (M : xMem) (post : Int32 → xMem → Prop) : Prop :=
    if 0 ≤ a0 then (
      if a0 ≤ a1 then (
        post a0 M)
      else (
        post a1 M))
    else (
      post 0 M)
abbrev rm_X12_push : Room := { frames := 0, cells := 0, slots := 0, locals := 0 }
theorem yd_X12_push : yX12_push.cls ≠ "java/lang/invoke/MethodHandle" ∧ yX12_push.cls ≠ "java/lang/invoke/VarHandle" ∧ (parseMethodDescriptor yX12_push.desc).map (fun d => d.parameters.length) = some 1 := by decide +kernel
def wX12_push_3    (post : xMem → Prop) : Nat → Int32 → Int32 → xMem → Prop
  | 0 => fun _ _ _ => False
  | n + 1 => fun x1 x2 M =>
      if x2 < 0 then (
        post M)
      else (
        vp_in (gi M 0 1) 260 ∧
        ∀ M3 : xMem, M3 = si M 1 (gi M 0 1).toNatClampNeg (vp_nar .byte ((x1 >>> (x2 &&& 31)).toInt8.toInt32)) →
        ∀ M4 : xMem, M4 = si M3 0 1 ((gi M3 0 1) + 1) →
        ∀ v5 : Int32, v5 = x2 + (-8) →
        wX12_push_3 post n x1 v5 M4)
def wX12_push  (a0 : Int32) (M : xMem) (post : xMem → Prop) : Prop :=
    ∃ n3 : Nat, wX12_push_3 post n3 a0 24 M
abbrev rm_X12_feed : Room := { frames := 1, cells := 0, slots := 0, locals := 22 }
theorem yd_X12_feed : yX12_feed.cls ≠ "java/lang/invoke/MethodHandle" ∧ yX12_feed.cls ≠ "java/lang/invoke/VarHandle" ∧ (parseMethodDescriptor yX12_feed.desc).map (fun d => d.parameters.length) = some 5 := by decide +kernel
def wX12_feed  (a0 : Int32) (a1 : Int32) (a2 : Int32) (a3 : Int32) (a4 : Int32) (M : xMem) (post : Int32 → xMem → Prop) : Prop :=
    if ((gi M 0 1) + 20) ≤ 260 then (
      wX12_push a0 M (fun M2 =>
        wX12_push a1 M2 (fun M3 =>
          wX12_push a2 M3 (fun M4 =>
            wX12_push a3 M4 (fun M5 =>
              wX12_push a4 M5 (fun M6 =>
                post (gi M6 0 1) M6))))))
    else (
      post (-1) M)
abbrev rm_X12_byteAt : Room := { frames := 0, cells := 0, slots := 0, locals := 0 }
theorem yd_X12_byteAt : yX12_byteAt.cls ≠ "java/lang/invoke/MethodHandle" ∧ yX12_byteAt.cls ≠ "java/lang/invoke/VarHandle" ∧ (parseMethodDescriptor yX12_byteAt.desc).map (fun d => d.parameters.length) = some 1 := by decide +kernel
def wX12_byteAt  (a0 : Int32) (M : xMem) (post : Int32 → xMem → Prop) : Prop :=
    vp_in a0 260 ∧
    post ((gi M 1 a0.toNatClampNeg) &&& 255) M
abbrev rm_X12_here : Room := { frames := 0, cells := 0, slots := 0, locals := 0 }
theorem yd_X12_here : yX12_here.cls ≠ "java/lang/invoke/MethodHandle" ∧ yX12_here.cls ≠ "java/lang/invoke/VarHandle" ∧ (parseMethodDescriptor yX12_here.desc).map (fun d => d.parameters.length) = some 0 := by decide +kernel
def wX12_here   (M : xMem) (post : Int32 → xMem → Prop) : Prop :=
    if (gi M 0 4) ≤ (gi M 0 3) then (
      post 0 M)
    else (
      vp_in (gi M 0 3) 260 ∧
      post ((gi M 1 (gi M 0 3).toNatClampNeg) &&& 255) M)
abbrev rm_X12_wrongs : Room := { frames := 0, cells := 0, slots := 0, locals := 0 }
theorem yd_X12_wrongs : yX12_wrongs.cls ≠ "java/lang/invoke/MethodHandle" ∧ yX12_wrongs.cls ≠ "java/lang/invoke/VarHandle" ∧ (parseMethodDescriptor yX12_wrongs.desc).map (fun d => d.parameters.length) = some 2 := by decide +kernel
def wX12_wrongs_22    (post : xMem → Prop) (s0 : Int32) (M : xMem) : Prop :=
    ∀ M1 : xMem, M1 = si M 0 5 s0 →
    post M1
def wX12_wrongs  (a0 : Int32) (a1 : Int32) (M : xMem) (post : xMem → Prop) : Prop :=
    if 0 ≤ (gi M 0 5) then (
      wX12_wrongs_22 post (((-1000) * a0) - a1) M)
    else (
      wX12_wrongs_22 post (gi M 0 5) M)
abbrev rm_X12_isGood : Room := { frames := 0, cells := 0, slots := 0, locals := 0 }
theorem yd_X12_isGood : yX12_isGood.cls ≠ "java/lang/invoke/MethodHandle" ∧ yX12_isGood.cls ≠ "java/lang/invoke/VarHandle" ∧ (parseMethodDescriptor yX12_isGood.desc).map (fun d => d.parameters.length) = some 0 := by decide +kernel
def wX12_isGood   (M : xMem) (post : Int32 → xMem → Prop) : Prop :=
    if (gi M 0 5) = 0 then (
      post 1 M)
    else (
      post 0 M)
abbrev rm_X12_seesDigit : Room := { frames := 1, cells := 0, slots := 0, locals := 25 }
theorem yd_X12_seesDigit : yX12_seesDigit.cls ≠ "java/lang/invoke/MethodHandle" ∧ yX12_seesDigit.cls ≠ "java/lang/invoke/VarHandle" ∧ (parseMethodDescriptor yX12_seesDigit.desc).map (fun d => d.parameters.length) = some 0 := by decide +kernel
def wX12_seesDigit   (M : xMem) (post : Int32 → xMem → Prop) : Prop :=
    wX12_here  M (fun r2 M1 =>
      wX12_lies ((r2 : Int32).toInt64) 48 57 M1 (fun r4 M3 =>
        bz r4 ∧ post r4 M3))
abbrev rm_X12_begins : Room := { frames := 0, cells := 0, slots := 0, locals := 0 }
theorem yd_X12_begins : yX12_begins.cls ≠ "java/lang/invoke/MethodHandle" ∧ yX12_begins.cls ≠ "java/lang/invoke/VarHandle" ∧ (parseMethodDescriptor yX12_begins.desc).map (fun d => d.parameters.length) = some 1 := by decide +kernel
def wX12_begins  (a0 : Int32) (M : xMem) (post : xMem → Prop) : Prop :=
    ∀ M1 : xMem, M1 = si M 0 1 0 →
    ∀ M2 : xMem, M2 = si M1 0 3 0 →
    ∀ M3 : xMem, M3 = si M2 0 4 a0 →
    ∀ M4 : xMem, M4 = si M3 0 5 0 →
    post M4
abbrev rm_X12_repeats : Room := { frames := 1, cells := 0, slots := 0, locals := 22 }
theorem yd_X12_repeats : yX12_repeats.cls ≠ "java/lang/invoke/MethodHandle" ∧ yX12_repeats.cls ≠ "java/lang/invoke/VarHandle" ∧ (parseMethodDescriptor yX12_repeats.desc).map (fun d => d.parameters.length) = some 3 := by decide +kernel
def wX12_repeats_38    (post : xMem → Prop) : Nat → Int32 → Int32 → Int32 → Int32 → xMem → Prop
  | 0 => fun _ _ _ _ _ => False
  | n + 1 => fun x1 x2 x4 x5 M =>
      if (x4 * x2) ≤ x5 then (
        ∀ M2 : xMem, M2 = si M 0 14 (x1 + (x4 * x2)) →
        post M2)
      else (
        ¬ (x4 : Int32) = 0 ∧
        vp_in (x1 + (x5 - x5 / x4 * x4)) 72 ∧
        vp_in (x1 + x5) 72 ∧
        ∀ M6 : xMem, M6 = si M 5 (x1 + x5).toNatClampNeg (gi M 5 (x1 + (x5 - x5 / x4 * x4)).toNatClampNeg) →
        ∀ v7 : Int32, v7 = x5 + 1 →
        wX12_repeats_38 post n x1 x2 x4 v7 M6)
def wX12_repeats_26    (post : xMem → Prop) (x1 : Int32) (x2 : Int32) (x4 : Int32) (M : xMem) : Prop :=
    wX12_isGood  M (fun r2 M1 =>
      if r2 = 0 then (
        post M1)
      else (
        ∃ n38 : Nat, wX12_repeats_38 post n38 x1 x2 x4 x4 M1))
def wX12_repeats  (a0 : Int32) (a1 : Int32) (a2 : Int32) (M : xMem) (post : xMem → Prop) : Prop :=
    ∀ v1 : Int32, v1 = (gi M 0 14) - a0 →
    if (a0 + (v1 * a1)) ≤ 72 then (
      wX12_repeats_26 post a0 a1 v1 M)
    else (
      wX12_wrongs 6 a2 M (fun M3 =>
        wX12_repeats_26 post a0 a1 v1 M3))
abbrev rm_X12_timesTold : Room := { frames := 1, cells := 0, slots := 0, locals := 25 }
theorem yd_X12_timesTold : yX12_timesTold.cls ≠ "java/lang/invoke/MethodHandle" ∧ yX12_timesTold.cls ≠ "java/lang/invoke/VarHandle" ∧ (parseMethodDescriptor yX12_timesTold.desc).map (fun d => d.parameters.length) = some 0 := by decide +kernel
def wX12_timesTold   (M : xMem) (post : Int32 → xMem → Prop) : Prop :=
    wX12_here  M (fun r2 M1 =>
      wX12_lies ((r2 : Int32).toInt64) 50 57 M1 (fun r4 M3 =>
        if r4 = 0 then (
          post 1 M3)
        else (
          ∀ M6 : xMem, M6 = si M3 0 3 ((gi M3 0 3) + 1) →
          vp_in ((gi M6 0 3) - 1) 260 ∧
          post ((gi M6 1 ((gi M6 0 3) - 1).toNatClampNeg) - 48) M6)))
abbrev rm_X12_turnBy : Room := { frames := 1, cells := 0, slots := 0, locals := 25 }
theorem yd_X12_turnBy : yX12_turnBy.cls ≠ "java/lang/invoke/MethodHandle" ∧ yX12_turnBy.cls ≠ "java/lang/invoke/VarHandle" ∧ (parseMethodDescriptor yX12_turnBy.desc).map (fun d => d.parameters.length) = some 1 := by decide +kernel
def wX12_turnBy  (a0 : Int32) (M : xMem) (post : Int32 → xMem → Prop) : Prop :=
    wX12_lies ((a0 : Int32).toInt64) 97 106 M (fun r2 M1 =>
      if r2 = 0 then (
        wX12_lies ((a0 : Int32).toInt64) 65 74 M1 (fun r5 M4 =>
          if r5 = 0 then (
            if a0 = 42 then (
              post 20 M4)
            else (
              if a0 = 46 then (
                post 21 M4)
              else (
                post (-1) M4)))
          else (
            post ((a0 - 65) + 10) M4)))
      else (
        post (a0 - 97) M1))
abbrev rm_X12_turnTold : Room := { frames := 2, cells := 0, slots := 0, locals := 47 }
theorem yd_X12_turnTold : yX12_turnTold.cls ≠ "java/lang/invoke/MethodHandle" ∧ yX12_turnTold.cls ≠ "java/lang/invoke/VarHandle" ∧ (parseMethodDescriptor yX12_turnTold.desc).map (fun d => d.parameters.length) = some 0 := by decide +kernel
def wX12_turnTold_229    (post : xMem → Prop) : Nat → Int32 → Int32 → xMem → Prop
  | 0 => fun _ _ _ => False
  | n + 1 => fun x2 x3 M =>
      if x2 ≤ x3 then (
        ∀ M2 : xMem, M2 = si M 0 14 ((gi M 0 14) + x2) →
        ∀ M3 : xMem, M3 = si M2 0 16 1 →
        ∀ M4 : xMem, M4 = si M3 0 3 ((gi M3 0 3) + 1) →
        post M4)
      else (
        wX12_here  M (fun r6 M5 =>
          wX12_turnBy r6 M5 (fun r8 M7 =>
            vp_in ((gi M 0 14) + x3) 72 ∧
            ∀ M10 : xMem, M10 = si M7 5 ((gi M 0 14) + x3).toNatClampNeg r8 →
            ∀ v11 : Int32, v11 = x3 + 1 →
            wX12_turnTold_229 post n x2 v11 M10)))
def wX12_turnTold_219    (post : xMem → Prop) (x2 : Int32) (M : xMem) : Prop :=
    wX12_isGood  M (fun r2 M1 =>
      if r2 = 0 then (
        post M1)
      else (
        ∃ n229 : Nat, wX12_turnTold_229 post n229 x2 0 M1))
def wX12_turnTold_111    (post : xMem → Prop) (x1 : Int32) (x2 : Int32) (M : xMem) : Prop :=
    wX12_isGood  M (fun r2 M1 =>
      if r2 = 0 then (
        post M1)
      else (
        vp_in (gi M1 0 15) 2 ∧
        ∀ M5 : xMem, M5 = si M1 6 (gi M1 0 15).toNatClampNeg (gi M1 0 14) →
        vp_in (gi M5 0 15) 2 ∧
        ∀ M7 : xMem, M7 = si M5 7 (gi M5 0 15).toNatClampNeg x2 →
        vp_in (gi M7 0 15) 2 ∧
        ∀ M9 : xMem, M9 = si M7 8 (gi M7 0 15).toNatClampNeg x1 →
        ∀ M10 : xMem, M10 = si M9 0 15 ((gi M9 0 15) + 1) →
        ∀ M11 : xMem, M11 = si M10 0 16 0 →
        ∀ M12 : xMem, M12 = si M11 0 3 ((gi M11 0 3) + 1) →
        post M12))
def wX12_turnTold_80    (post : xMem → Prop) (x1 : Int32) (M : xMem) : Prop :=
    wX12_timesTold  M (fun r2 M1 =>
      wX12_here  M1 (fun r4 M3 =>
        if r4 = 40 then (
          if (gi M3 0 15) = 2 then (
            wX12_wrongs 5 (gi M3 0 3) M3 (fun M15 =>
              wX12_turnTold_111 post x1 r2 M15))
          else (
            wX12_turnTold_111 post x1 r2 M3))
        else (
          wX12_here  M3 (fun r7 M6 =>
            wX12_turnBy r7 M6 (fun r9 M8 =>
              if r9 = (-1) then (
                wX12_wrongs 1 (gi M8 0 3) M8 (fun M13 =>
                  wX12_turnTold_219 post r2 M13))
              else (
                if ((gi M8 0 14) + r2) ≤ 72 then (
                  wX12_turnTold_219 post r2 M8)
                else (
                  wX12_wrongs 6 x1 M8 (fun M12 =>
                    wX12_turnTold_219 post r2 M12))))))))
def wX12_turnTold   (M : xMem) (post : xMem → Prop) : Prop :=
    ∀ v1 : Int32, v1 = gi M 0 3 →
    wX12_here  M (fun r3 M2 =>
      if r3 = 41 then (
        if (gi M2 0 15) ≤ 0 then (
          wX12_turnTold_80 post v1 M2)
        else (
          if (gi M2 0 16) = 0 then (
            wX12_turnTold_80 post v1 M2)
          else (
            ∀ M7 : xMem, M7 = si M2 0 15 ((gi M2 0 15) - 1) →
            ∀ M8 : xMem, M8 = si M7 0 3 ((gi M7 0 3) + 1) →
            vp_in (gi M8 0 15) 2 ∧
            vp_in (gi M8 0 15) 2 ∧
            vp_in (gi M8 0 15) 2 ∧
            wX12_repeats (gi M8 6 (gi M8 0 15).toNatClampNeg) (gi M8 7 (gi M8 0 15).toNatClampNeg) (gi M8 8 (gi M8 0 15).toNatClampNeg) M8 (fun M12 =>
              post M12))))
      else (
        wX12_turnTold_80 post v1 M2))
abbrev rm_X12_isTold : Room := { frames := 1, cells := 0, slots := 0, locals := 25 }
theorem yd_X12_isTold : yX12_isTold.cls ≠ "java/lang/invoke/MethodHandle" ∧ yX12_isTold.cls ≠ "java/lang/invoke/VarHandle" ∧ (parseMethodDescriptor yX12_isTold.desc).map (fun d => d.parameters.length) = some 1 := by decide +kernel
def wX12_isTold  (a0 : Int32) (M : xMem) (post : Int32 → xMem → Prop) : Prop :=
    wX12_lies ((a0 : Int32).toInt64) 0 5 M (fun r2 M1 =>
      if r2 = 0 then (
        post 0 M1)
      else (
        vp_in a0 6 ∧
        if (gi M1 2 a0.toNatClampNeg) = 0 then (
          post 0 M1)
        else (
          post 1 M1)))
abbrev rm_X12_story : Room := { frames := 3, cells := 0, slots := 0, locals := 70 }
theorem yd_X12_story : yX12_story.cls ≠ "java/lang/invoke/MethodHandle" ∧ yX12_story.cls ≠ "java/lang/invoke/VarHandle" ∧ (parseMethodDescriptor yX12_story.desc).map (fun d => d.parameters.length) = some 2 := by decide +kernel
def wX12_story_207   (K166 : Int32 → Int32 → xMem → Prop) (post : Int32 → xMem → Prop) (x1 : Int32) (x3 : Int32) (M : xMem) : Prop :=
    ∀ v1 : Int32, v1 = x3 + 1 →
    K166 x1 v1 M
def wX12_story_166    (post : Int32 → xMem → Prop) : Nat → Int32 → Int32 → xMem → Prop
  | 0 => fun _ _ _ => False
  | n + 1 => fun x1 x3 M =>
      if 4 ≤ x3 then (
        post (gi M 0 14) M)
      else (
        vp_in x3 4 ∧
        if (gi M 30 x3.toNatClampNeg) = 0 then (
          wX12_story_207 (wX12_story_166 post n) post x1 x3 M)
        else (
          vp_in x3 4 ∧
          if (gi M 31 x3.toNatClampNeg) = x1 then (
            vp_in x3 4 ∧
            ∀ M7 : xMem, M7 = si M 33 x3.toNatClampNeg 0 →
            vp_in x3 4 ∧
            ∀ M9 : xMem, M9 = si M7 34 x3.toNatClampNeg 0 →
            wX12_story_207 (wX12_story_166 post n) post x1 x3 M9)
          else (
            wX12_story_207 (wX12_story_166 post n) post x1 x3 M)))
def wX12_story_133    (post : Int32 → xMem → Prop) : Nat → Int32 → Int32 → xMem → Prop
  | 0 => fun _ _ _ => False
  | n + 1 => fun x1 x3 M =>
      if (gi M 0 14) ≤ x3 then (
        ∃ n166 : Nat, wX12_story_166 post n166 x1 0 M)
      else (
        vp_in x3 72 ∧
        vp_in ((72 * x1) + x3) 432 ∧
        ∀ M4 : xMem, M4 = si M 4 ((72 * x1) + x3).toNatClampNeg (gi M 5 x3.toNatClampNeg) →
        ∀ v5 : Int32, v5 = x3 + 1 →
        wX12_story_133 post n x1 v5 M4)
def wX12_story_102    (post : Int32 → xMem → Prop) (x1 : Int32) (M : xMem) : Prop :=
    if 0 ≤ (gi M 0 5) then (
      vp_in x1 6 ∧
      ∀ M3 : xMem, M3 = si M 2 x1.toNatClampNeg (vp_nar .boolean 1) →
      vp_in x1 6 ∧
      ∀ M5 : xMem, M5 = si M3 3 x1.toNatClampNeg (gi M3 0 14) →
      ∃ n133 : Nat, wX12_story_133 post n133 x1 0 M5)
    else (
      post (gi M 0 5) M)
def wX12_story_79    (post : Int32 → xMem → Prop) (x1 : Int32) (M : xMem) : Prop :=
    wX12_isGood  M (fun r2 M1 =>
      if r2 = 0 then (
        wX12_story_102 post x1 M1)
      else (
        if (gi M1 0 15) ≤ 0 then (
          wX12_story_102 post x1 M1)
        else (
          wX12_wrongs 1 (gi M1 0 3) M1 (fun M5 =>
            wX12_story_102 post x1 M5))))
def wX12_story_54    (post : Int32 → xMem → Prop) : Nat → Int32 → xMem → Prop
  | 0 => fun _ _ => False
  | n + 1 => fun x1 M =>
      wX12_isGood  M (fun r2 M1 =>
        if r2 = 0 then (
          wX12_story_79 post x1 M1)
        else (
          if (gi M1 0 4) ≤ (gi M1 0 3) then (
            wX12_story_79 post x1 M1)
          else (
            wX12_turnTold  M1 (fun M5 =>
              wX12_story_54 post n x1 M5))))
def wX12_story  (a0 : Int32) (a1 : Int32) (M : xMem) (post : Int32 → xMem → Prop) : Prop :=
    wX12_lies ((a0 : Int32).toInt64) 0 5 M (fun r2 M1 =>
      if r2 = 0 then (
        post (-1) M1)
      else (
        wX12_lies ((a1 : Int32).toInt64) 1 80 M1 (fun r5 M4 =>
          if r5 = 0 then (
            post (-1) M4)
          else (
            if a1 ≤ (gi M4 0 1) then (
              wX12_begins a1 M4 (fun M8 =>
                ∀ M9 : xMem, M9 = si M8 0 14 0 →
                ∀ M10 : xMem, M10 = si M9 0 15 0 →
                ∀ M11 : xMem, M11 = si M10 0 16 0 →
                ∃ n54 : Nat, wX12_story_54 post n54 a0 M11))
            else (
              post (-1) M4)))))
abbrev rm_X12_turned : Room := { frames := 0, cells := 0, slots := 0, locals := 0 }
theorem yd_X12_turned : yX12_turned.cls ≠ "java/lang/invoke/MethodHandle" ∧ yX12_turned.cls ≠ "java/lang/invoke/VarHandle" ∧ (parseMethodDescriptor yX12_turned.desc).map (fun d => d.parameters.length) = some 2 := by decide +kernel
def wX12_turned  (a0 : Int32) (a1 : Int32) (M : xMem) (post : Int32 → xMem → Prop) : Prop :=
    if 10 ≤ a1 then (
      if 20 ≤ a1 then (
        if a1 = 20 then (
          post ((a0 ||| (a0 + 1)) &&& 1023) M)
        else (
          post a0 M))
      else (
        post (a0 &&& ((1 <<< ((a1 - 10) &&& 31)) ^^^ (-1))) M))
    else (
      post (a0 ||| (1 <<< (a1 &&& 31))) M)
abbrev rm_X12_openBehind : Room := { frames := 1, cells := 0, slots := 0, locals := 21 }
theorem yd_X12_openBehind : yX12_openBehind.cls ≠ "java/lang/invoke/MethodHandle" ∧ yX12_openBehind.cls ≠ "java/lang/invoke/VarHandle" ∧ (parseMethodDescriptor yX12_openBehind.desc).map (fun d => d.parameters.length) = some 3 := by decide +kernel
def wX12_openBehind_6    (post : Int32 → xMem → Prop) : Nat → Int32 → Int32 → Int32 → Int32 → xMem → Prop
  | 0 => fun _ _ _ _ _ => False
  | n + 1 => fun x1 x2 x4 x5 M =>
      if x2 ≤ x5 then (
        post x4 M)
      else (
        vp_in ((72 * x1) + x5) 432 ∧
        wX12_turned x4 (gi M 4 ((72 * x1) + x5).toNatClampNeg) M (fun r4 M3 =>
          ∀ v5 : Int32, v5 = x5 + 1 →
          wX12_openBehind_6 post n x1 x2 r4 v5 M3))
def wX12_openBehind  (a0 : Int32) (a1 : Int32) (a2 : Int32) (M : xMem) (post : Int32 → xMem → Prop) : Prop :=
    ∃ n6 : Nat, wX12_openBehind_6 post n6 a0 a1 a2 0 M
abbrev rm_X12_open : Room := { frames := 2, cells := 0, slots := 0, locals := 46 }
theorem yd_X12_open : yX12_open.cls ≠ "java/lang/invoke/MethodHandle" ∧ yX12_open.cls ≠ "java/lang/invoke/VarHandle" ∧ (parseMethodDescriptor yX12_open.desc).map (fun d => d.parameters.length) = some 3 := by decide +kernel
def wX12_open  (a0 : Int32) (a1 : Int32) (a2 : Int32) (M : xMem) (post : Int32 → xMem → Prop) : Prop :=
    wX12_isTold a0 M (fun r2 M1 =>
      if r2 = 0 then (
        post (-1) M1)
      else (
        vp_in a0 6 ∧
        wX12_lies ((a1 : Int32).toInt64) 0 ((gi M1 3 a0.toNatClampNeg : Int32).toInt64) M1 (fun r6 M5 =>
          if r6 = 0 then (
            post (-1) M5)
          else (
            wX12_lies ((a2 : Int32).toInt64) 0 1023 M5 (fun r9 M8 =>
              if r9 = 0 then (
                post (-1) M8)
              else (
                wX12_openBehind a0 a1 a2 M8 (fun r12 M11 =>
                  post r12 M11)))))))
abbrev rm_X12_mostOpen : Room := { frames := 2, cells := 0, slots := 0, locals := 46 }
theorem yd_X12_mostOpen : yX12_mostOpen.cls ≠ "java/lang/invoke/MethodHandle" ∧ yX12_mostOpen.cls ≠ "java/lang/invoke/VarHandle" ∧ (parseMethodDescriptor yX12_mostOpen.desc).map (fun d => d.parameters.length) = some 1 := by decide +kernel
def wX12_mostOpen_38   (K4 : Int32 → Int32 → Int32 → xMem → Prop) (post : Int32 → xMem → Prop) (x1 : Int32) (x3 : Int32) (s0 : Int32) (M : xMem) : Prop :=
    ∀ v1 : Int32, v1 = x3 + 1 →
    K4 x1 s0 v1 M
def wX12_mostOpen_4    (post : Int32 → xMem → Prop) : Nat → Int32 → Int32 → Int32 → xMem → Prop
  | 0 => fun _ _ _ _ => False
  | n + 1 => fun x1 x2 x3 M =>
      vp_in x1 6 ∧
      if (gi M 3 x1.toNatClampNeg) < x3 then (
        post x2 M)
      else (
        wX12_openBehind x1 x3 0 M (fun r4 M3 =>
          wX12_sizeOf r4 M3 (fun r6 M5 =>
            if r6 ≤ x2 then (
              wX12_mostOpen_38 (wX12_mostOpen_4 post n) post x1 x3 x2 M5)
            else (
              wX12_mostOpen_38 (wX12_mostOpen_4 post n) post x1 x3 r6 M5))))
def wX12_mostOpen  (a0 : Int32) (M : xMem) (post : Int32 → xMem → Prop) : Prop :=
    ∃ n4 : Nat, wX12_mostOpen_4 post n4 a0 0 0 M
abbrev rm_X12_threadsOf : Room := { frames := 1, cells := 0, slots := 0, locals := 21 }
theorem yd_X12_threadsOf : yX12_threadsOf.cls ≠ "java/lang/invoke/MethodHandle" ∧ yX12_threadsOf.cls ≠ "java/lang/invoke/VarHandle" ∧ (parseMethodDescriptor yX12_threadsOf.desc).map (fun d => d.parameters.length) = some 1 := by decide +kernel
def wX12_threadsOf_64   (K7 : Int32 → Int32 → Int32 → Int32 → xMem → Prop) (post : Int32 → xMem → Prop) (x1 : Int32) (x4 : Int32) (x6 : Int32) (s0 : Int32) (s1 : Int32) (M : xMem) : Prop :=
    ∀ v1 : Int32, v1 = s1 ||| s0 →
    ∀ v2 : Int32, v2 = x4 + 1 →
    K7 x1 v1 x6 v2 M
def wX12_threadsOf_7    (post : Int32 → xMem → Prop) : Nat → Int32 → Int32 → Int32 → Int32 → xMem → Prop
  | 0 => fun _ _ _ _ _ => False
  | n + 1 => fun x1 x2 x3 x4 M =>
      vp_in x1 6 ∧
      if (gi M 3 x1.toNatClampNeg) ≤ x4 then (
        post x2 M)
      else (
        vp_in ((72 * x1) + x4) 432 ∧
        ∀ v4 : Int32, v4 = gi M 4 ((72 * x1) + x4).toNatClampNeg →
        wX12_turned x3 v4 M (fun r6 M5 =>
          if 20 ≤ v4 then (
            wX12_threadsOf_64 (wX12_threadsOf_7 post n) post x1 x4 r6 (r6 &&& (x3 ^^^ (-1))) x2 M5)
          else (
            ¬ (10 : Int32) = 0 ∧
            wX12_threadsOf_64 (wX12_threadsOf_7 post n) post x1 x4 r6 (1 <<< ((v4 - v4 / 10 * 10) &&& 31)) x2 M5)))
def wX12_threadsOf  (a0 : Int32) (M : xMem) (post : Int32 → xMem → Prop) : Prop :=
    ∃ n7 : Nat, wX12_threadsOf_7 post n7 a0 0 0 0 M
abbrev rm_X12_knotOf : Room := { frames := 2, cells := 0, slots := 0, locals := 47 }
theorem yd_X12_knotOf : yX12_knotOf.cls ≠ "java/lang/invoke/MethodHandle" ∧ yX12_knotOf.cls ≠ "java/lang/invoke/VarHandle" ∧ (parseMethodDescriptor yX12_knotOf.desc).map (fun d => d.parameters.length) = some 1 := by decide +kernel
def wX12_knotOf_88   (K6 : Int32 → Int32 → xMem → Prop) (K15 : Int32 → Int32 → Int32 → xMem → Prop) (K25 : Int32 → Int32 → Int32 → Int32 → xMem → Prop) (post : Int32 → xMem → Prop) (x2 : Int32) (x3 : Int32) (x4 : Int32) (x5 : Int32) (M : xMem) : Prop :=
    ∀ v1 : Int32, v1 = x5 + 1 →
    K25 x2 x3 x4 v1 M
def wX12_knotOf_25   (K6 : Int32 → Int32 → xMem → Prop) (K15 : Int32 → Int32 → Int32 → xMem → Prop) (post : Int32 → xMem → Prop) : Nat → Int32 → Int32 → Int32 → Int32 → xMem → Prop
  | 0 => fun _ _ _ _ _ => False
  | n + 1 => fun x2 x3 x4 x5 M =>
      if 6 ≤ x5 then (
        ∀ v2 : Int32, v2 = x4 + 1 →
        K15 x2 x3 v2 M)
      else (
        wX12_has x2 x4 M (fun r4 M3 =>
          if r4 = 0 then (
            wX12_knotOf_88 K6 K15 (wX12_knotOf_25 K6 K15 post n) post x2 x3 x4 x5 M3)
          else (
            wX12_has x2 x5 M3 (fun r7 M6 =>
              if r7 = 0 then (
                vp_in x5 6 ∧
                if (gi M6 2 x5.toNatClampNeg) = 0 then (
                  wX12_knotOf_88 K6 K15 (wX12_knotOf_25 K6 K15 post n) post x2 x3 x4 x5 M6)
                else (
                  wX12_threadsOf x4 M6 (fun r12 M11 =>
                    wX12_threadsOf x5 M11 (fun r14 M13 =>
                      if (r12 &&& r14) = 0 then (
                        wX12_knotOf_88 K6 K15 (wX12_knotOf_25 K6 K15 post n) post x2 x3 x4 x5 M13)
                      else (
                        ∀ v16 : Int32, v16 = x2 ||| (1 <<< (x5 &&& 31)) →
                        wX12_knotOf_88 K6 K15 (wX12_knotOf_25 K6 K15 post n) post v16 1 x4 x5 M13)))))
              else (
                wX12_knotOf_88 K6 K15 (wX12_knotOf_25 K6 K15 post n) post x2 x3 x4 x5 M6)))))
def wX12_knotOf_15   (K6 : Int32 → Int32 → xMem → Prop) (post : Int32 → xMem → Prop) : Nat → Int32 → Int32 → Int32 → xMem → Prop
  | 0 => fun _ _ _ _ => False
  | n + 1 => fun x2 x3 x4 M =>
      if 6 ≤ x4 then (
        K6 x2 x3 M)
      else (
        ∃ n25 : Nat, wX12_knotOf_25 K6 (wX12_knotOf_15 K6 post n) post n25 x2 x3 x4 0 M)
def wX12_knotOf_6    (post : Int32 → xMem → Prop) : Nat → Int32 → Int32 → xMem → Prop
  | 0 => fun _ _ _ => False
  | n + 1 => fun x2 x3 M =>
      if x3 = 0 then (
        post x2 M)
      else (
        ∃ n15 : Nat, wX12_knotOf_15 (wX12_knotOf_6 post n) post n15 x2 0 0 M)
def wX12_knotOf  (a0 : Int32) (M : xMem) (post : Int32 → xMem → Prop) : Prop :=
    ∀ v1 : Int32, v1 = 1 <<< (a0 &&& 31) →
    ∃ n6 : Nat, wX12_knotOf_6 post n6 v1 1 M
abbrev rm_X12_storyIs : Room := { frames := 3, cells := 0, slots := 0, locals := 72 }
theorem yd_X12_storyIs : yX12_storyIs.cls ≠ "java/lang/invoke/MethodHandle" ∧ yX12_storyIs.cls ≠ "java/lang/invoke/VarHandle" ∧ (parseMethodDescriptor yX12_storyIs.desc).map (fun d => d.parameters.length) = some 2 := by decide +kernel
def wX12_storyIs  (a0 : Int32) (a1 : Int32) (M : xMem) (post : Int32 → xMem → Prop) : Prop :=
    wX12_isTold a0 M (fun r2 M1 =>
      if r2 = 0 then (
        post (-1) M1)
      else (
        if a1 = 0 then (
          vp_in a0 6 ∧
          post (gi M1 3 a0.toNatClampNeg) M1)
        else
        if a1 = 1 then (
          vp_in a0 6 ∧
          wX12_openBehind a0 (gi M1 3 a0.toNatClampNeg) 0 M1 (fun r9 M8 =>
            post r9 M8))
        else
        if a1 = 2 then (
          wX12_mostOpen a0 M1 (fun r12 M11 =>
            post r12 M11))
        else
        if a1 = 3 then (
          wX12_threadsOf a0 M1 (fun r15 M14 =>
            post r15 M14))
        else
        if a1 = 4 then (
          wX12_knotOf a0 M1 (fun r18 M17 =>
            post r18 M17))
        else (
          post (-1) M1)))
abbrev rm_X12_knots : Room := { frames := 3, cells := 0, slots := 0, locals := 72 }
theorem yd_X12_knots : yX12_knots.cls ≠ "java/lang/invoke/MethodHandle" ∧ yX12_knots.cls ≠ "java/lang/invoke/VarHandle" ∧ (parseMethodDescriptor yX12_knots.desc).map (fun d => d.parameters.length) = some 0 := by decide +kernel
def wX12_knots_37   (K4 : Int32 → Int32 → xMem → Prop) (post : Int32 → xMem → Prop) (x2 : Int32) (s0 : Int32) (s1 : Int32) (M : xMem) : Prop :=
    ∀ v1 : Int32, v1 = s1 + s0 →
    ∀ v2 : Int32, v2 = x2 + 1 →
    K4 v1 v2 M
def wX12_knots_36   (K4 : Int32 → Int32 → xMem → Prop) (post : Int32 → xMem → Prop) (x2 : Int32) (s0 : Int32) (M : xMem) : Prop :=
    wX12_knots_37 K4 post x2 0 s0 M
def wX12_knots_4    (post : Int32 → xMem → Prop) : Nat → Int32 → Int32 → xMem → Prop
  | 0 => fun _ _ _ => False
  | n + 1 => fun x1 x2 M =>
      if 6 ≤ x2 then (
        post x1 M)
      else (
        vp_in x2 6 ∧
        if (gi M 2 x2.toNatClampNeg) = 0 then (
          wX12_knots_36 (wX12_knots_4 post n) post x2 x1 M)
        else (
          wX12_knotOf x2 M (fun r5 M4 =>
            wX12_lowestOf r5 M4 (fun r7 M6 =>
              if r7 = x2 then (
                wX12_knots_37 (wX12_knots_4 post n) post x2 1 x1 M6)
              else (
                wX12_knots_36 (wX12_knots_4 post n) post x2 x1 M6)))))
def wX12_knots   (M : xMem) (post : Int32 → xMem → Prop) : Prop :=
    ∃ n4 : Nat, wX12_knots_4 post n4 0 0 M
abbrev rm_X12_emit : Room := { frames := 1, cells := 0, slots := 0, locals := 20 }
theorem yd_X12_emit : yX12_emit.cls ≠ "java/lang/invoke/MethodHandle" ∧ yX12_emit.cls ≠ "java/lang/invoke/VarHandle" ∧ (parseMethodDescriptor yX12_emit.desc).map (fun d => d.parameters.length) = some 2 := by decide +kernel
def wX12_emit  (a0 : Int32) (a1 : Int32) (M : xMem) (post : xMem → Prop) : Prop :=
    wX12_isGood  M (fun r2 M1 =>
      if r2 = 0 then (
        post M1)
      else (
        vp_in (gi M1 0 7) 240 ∧
        ∀ M5 : xMem, M5 = si M1 20 (gi M1 0 7).toNatClampNeg a0 →
        vp_in (gi M5 0 7) 240 ∧
        ∀ M7 : xMem, M7 = si M5 21 (gi M5 0 7).toNatClampNeg a1 →
        ∀ M8 : xMem, M8 = si M7 0 7 ((gi M7 0 7) + 1) →
        post M8))
abbrev rm_X12_top : Room := { frames := 0, cells := 0, slots := 0, locals := 0 }
theorem yd_X12_top : yX12_top.cls ≠ "java/lang/invoke/MethodHandle" ∧ yX12_top.cls ≠ "java/lang/invoke/VarHandle" ∧ (parseMethodDescriptor yX12_top.desc).map (fun d => d.parameters.length) = some 0 := by decide +kernel
def wX12_top   (M : xMem) (post : Int32 → xMem → Prop) : Prop :=
    if (gi M 0 9) ≤ 0 then (
      post 0 M)
    else (
      vp_in ((gi M 0 9) - 1) 240 ∧
      post (gi M 22 ((gi M 0 9) - 1).toNatClampNeg) M)
abbrev rm_X12_puts : Room := { frames := 0, cells := 0, slots := 0, locals := 0 }
theorem yd_X12_puts : yX12_puts.cls ≠ "java/lang/invoke/MethodHandle" ∧ yX12_puts.cls ≠ "java/lang/invoke/VarHandle" ∧ (parseMethodDescriptor yX12_puts.desc).map (fun d => d.parameters.length) = some 1 := by decide +kernel
def wX12_puts  (a0 : Int32) (M : xMem) (post : xMem → Prop) : Prop :=
    vp_in (gi M 0 9) 240 ∧
    ∀ M2 : xMem, M2 = si M 22 (gi M 0 9).toNatClampNeg a0 →
    ∀ M3 : xMem, M3 = si M2 0 9 ((gi M2 0 9) + 1) →
    ∀ M4 : xMem, M4 = si M3 0 3 ((gi M3 0 3) + 1) →
    post M4
abbrev rm_X12_opens : Room := { frames := 1, cells := 0, slots := 0, locals := 22 }
theorem yd_X12_opens : yX12_opens.cls ≠ "java/lang/invoke/MethodHandle" ∧ yX12_opens.cls ≠ "java/lang/invoke/VarHandle" ∧ (parseMethodDescriptor yX12_opens.desc).map (fun d => d.parameters.length) = some 0 := by decide +kernel
def wX12_opens_18    (post : xMem → Prop)  (M : xMem) : Prop :=
    ∀ M1 : xMem, M1 = si M 0 8 ((gi M 0 8) + 1) →
    wX12_here  M1 (fun r3 M2 =>
      wX12_puts r3 M2 (fun M4 =>
        post M4))
def wX12_opens   (M : xMem) (post : xMem → Prop) : Prop :=
    if (gi M 0 8) = 6 then (
      wX12_wrongs 5 (gi M 0 3) M (fun M2 =>
        wX12_opens_18 post M2))
    else (
      wX12_opens_18 post M)
abbrev rm_X12_reads : Room := { frames := 2, cells := 0, slots := 0, locals := 45 }
theorem yd_X12_reads : yX12_reads.cls ≠ "java/lang/invoke/MethodHandle" ∧ yX12_reads.cls ≠ "java/lang/invoke/VarHandle" ∧ (parseMethodDescriptor yX12_reads.desc).map (fun d => d.parameters.length) = some 0 := by decide +kernel
def wX12_reads_40   (K7 : Int32 → Int32 → xMem → Prop) (post : Int32 → xMem → Prop) (x1 : Int32) (x2 : Int32) (M : xMem) : Prop :=
    wX12_here  M (fun r2 M1 =>
      ∀ v3 : Int32, v3 = ((10 * x2) + r2) - 48 →
      ∀ M4 : xMem, M4 = si M1 0 3 ((gi M1 0 3) + 1) →
      K7 x1 v3 M4)
def wX12_reads_7    (post : Int32 → xMem → Prop) : Nat → Int32 → Int32 → xMem → Prop
  | 0 => fun _ _ _ => False
  | n + 1 => fun x1 x2 M =>
      wX12_isGood  M (fun r2 M1 =>
        if r2 = 0 then (
          post x2 M1)
        else (
          wX12_seesDigit  M1 (fun r5 M4 =>
            if r5 = 0 then (
              post x2 M4)
            else (
              if (gi M4 0 3) = (x1 + 5) then (
                wX12_wrongs 2 (gi M4 0 3) M4 (fun M8 =>
                  wX12_reads_40 (wX12_reads_7 post n) post x1 x2 M8))
              else (
                wX12_reads_40 (wX12_reads_7 post n) post x1 x2 M4)))))
def wX12_reads   (M : xMem) (post : Int32 → xMem → Prop) : Prop :=
    ∀ v1 : Int32, v1 = gi M 0 3 →
    ∃ n7 : Nat, wX12_reads_7 post n7 v1 0 M
abbrev rm_X12_isTimes : Room := { frames := 0, cells := 0, slots := 0, locals := 0 }
theorem yd_X12_isTimes : yX12_isTimes.cls ≠ "java/lang/invoke/MethodHandle" ∧ yX12_isTimes.cls ≠ "java/lang/invoke/VarHandle" ∧ (parseMethodDescriptor yX12_isTimes.desc).map (fun d => d.parameters.length) = some 1 := by decide +kernel
def wX12_isTimes  (a0 : Int32) (M : xMem) (post : Int32 → xMem → Prop) : Prop :=
    if a0 = 42 then (
      post 1 M)
    else (
      if a0 = 47 then (
        post 1 M)
      else (
        if a0 = 37 then (
          post 1 M)
        else (
          post 0 M)))
abbrev rm_X12_isPlus : Room := { frames := 0, cells := 0, slots := 0, locals := 0 }
theorem yd_X12_isPlus : yX12_isPlus.cls ≠ "java/lang/invoke/MethodHandle" ∧ yX12_isPlus.cls ≠ "java/lang/invoke/VarHandle" ∧ (parseMethodDescriptor yX12_isPlus.desc).map (fun d => d.parameters.length) = some 1 := by decide +kernel
def wX12_isPlus  (a0 : Int32) (M : xMem) (post : Int32 → xMem → Prop) : Prop :=
    if a0 = 43 then (
      post 1 M)
    else (
      if a0 = 45 then (
        post 1 M)
      else (
        post 0 M))
abbrev rm_X12_isCompared : Room := { frames := 0, cells := 0, slots := 0, locals := 0 }
theorem yd_X12_isCompared : yX12_isCompared.cls ≠ "java/lang/invoke/MethodHandle" ∧ yX12_isCompared.cls ≠ "java/lang/invoke/VarHandle" ∧ (parseMethodDescriptor yX12_isCompared.desc).map (fun d => d.parameters.length) = some 1 := by decide +kernel
def wX12_isCompared  (a0 : Int32) (M : xMem) (post : Int32 → xMem → Prop) : Prop :=
    if a0 = 60 then (
      post 1 M)
    else (
      if a0 = 62 then (
        post 1 M)
      else (
        if a0 = 61 then (
          post 1 M)
        else (
          post 0 M)))
abbrev rm_X12_isValue : Room := { frames := 0, cells := 0, slots := 0, locals := 0 }
theorem yd_X12_isValue : yX12_isValue.cls ≠ "java/lang/invoke/MethodHandle" ∧ yX12_isValue.cls ≠ "java/lang/invoke/VarHandle" ∧ (parseMethodDescriptor yX12_isValue.desc).map (fun d => d.parameters.length) = some 1 := by decide +kernel
def wX12_isValue  (a0 : Int32) (M : xMem) (post : Int32 → xMem → Prop) : Prop :=
    if a0 = 107 then (
      post 1 M)
    else (
      if a0 = 117 then (
        post 1 M)
      else (
        if a0 = 109 then (
          post 1 M)
        else (
          if a0 = 111 then (
            post 1 M)
          else (
            if a0 = 108 then (
              post 1 M)
            else (
              if a0 = 97 then (
                post 1 M)
              else (
                if a0 = 114 then (
                  post 1 M)
                else (
                  if a0 = 101 then (
                    post 1 M)
                  else (
                    if a0 = 99 then (
                      post 1 M)
                    else (
                      if a0 = 122 then (
                        post 1 M)
                      else (
                        if a0 = 104 then (
                          post 1 M)
                        else (
                          if a0 = 118 then (
                            post 1 M)
                          else (
                            post 0 M))))))))))))
abbrev rm_X12_sums : Room := { frames := 2, cells := 0, slots := 0, locals := 42 }
theorem yd_X12_sums : yX12_sums.cls ≠ "java/lang/invoke/MethodHandle" ∧ yX12_sums.cls ≠ "java/lang/invoke/VarHandle" ∧ (parseMethodDescriptor yX12_sums.desc).map (fun d => d.parameters.length) = some 1 := by decide +kernel
def wX12_sums_24   (K0 : Int32 → xMem → Prop) (post : xMem → Prop) (x1 : Int32) (M : xMem) : Prop :=
    wX12_top  M (fun r2 M1 =>
      wX12_emit r2 0 M1 (fun M3 =>
        ∀ M4 : xMem, M4 = si M3 0 9 ((gi M3 0 9) - 1) →
        K0 x1 M4))
def wX12_sums_0    (post : xMem → Prop) : Nat → Int32 → xMem → Prop
  | 0 => fun _ _ => False
  | n + 1 => fun x1 M =>
      wX12_top  M (fun r2 M1 =>
        wX12_isTimes r2 M1 (fun r4 M3 =>
          if r4 = 0 then (
            if x1 = 0 then (
              post M3)
            else (
              wX12_top  M3 (fun r8 M7 =>
                wX12_isPlus r8 M7 (fun r10 M9 =>
                  if r10 = 0 then (
                    post M9)
                  else (
                    wX12_sums_24 (wX12_sums_0 post n) post x1 M9)))))
          else (
            wX12_sums_24 (wX12_sums_0 post n) post x1 M3)))
def wX12_sums  (a0 : Int32) (M : xMem) (post : xMem → Prop) : Prop :=
    ∃ n0 : Nat, wX12_sums_0 post n0 a0 M
abbrev rm_X12_joins : Room := { frames := 2, cells := 0, slots := 0, locals := 42 }
theorem yd_X12_joins : yX12_joins.cls ≠ "java/lang/invoke/MethodHandle" ∧ yX12_joins.cls ≠ "java/lang/invoke/VarHandle" ∧ (parseMethodDescriptor yX12_joins.desc).map (fun d => d.parameters.length) = some 1 := by decide +kernel
def wX12_joins_22   (K0 : Int32 → xMem → Prop) (post : xMem → Prop) (x1 : Int32) (M : xMem) : Prop :=
    wX12_top  M (fun r2 M1 =>
      wX12_emit r2 0 M1 (fun M3 =>
        ∀ M4 : xMem, M4 = si M3 0 9 ((gi M3 0 9) - 1) →
        K0 x1 M4))
def wX12_joins_0    (post : xMem → Prop) : Nat → Int32 → xMem → Prop
  | 0 => fun _ _ => False
  | n + 1 => fun x1 M =>
      wX12_top  M (fun r2 M1 =>
        if r2 = 38 then (
          wX12_joins_22 (wX12_joins_0 post n) post x1 M1)
        else (
          if x1 = 0 then (
            post M1)
          else (
            wX12_top  M1 (fun r6 M5 =>
              if r6 = 124 then (
                wX12_joins_22 (wX12_joins_0 post n) post x1 M5)
              else (
                post M5)))))
def wX12_joins  (a0 : Int32) (M : xMem) (post : xMem → Prop) : Prop :=
    ∃ n0 : Nat, wX12_joins_0 post n0 a0 M
abbrev rm_X12_ends : Room := { frames := 2, cells := 0, slots := 0, locals := 42 }
theorem yd_X12_ends : yX12_ends.cls ≠ "java/lang/invoke/MethodHandle" ∧ yX12_ends.cls ≠ "java/lang/invoke/VarHandle" ∧ (parseMethodDescriptor yX12_ends.desc).map (fun d => d.parameters.length) = some 0 := by decide +kernel
def wX12_ends_0    (post : xMem → Prop) : Nat → xMem → Prop
  | 0 => fun  _ => False
  | n + 1 => fun  M =>
      wX12_top  M (fun r2 M1 =>
        if r2 = 33 then (
          wX12_emit 2 0 M1 (fun M4 =>
            ∀ M5 : xMem, M5 = si M4 0 9 ((gi M4 0 9) - 1) →
            ∀ M6 : xMem, M6 = si M5 0 8 ((gi M5 0 8) - 1) →
            wX12_ends_0 post n M6))
        else (
          post M1))
def wX12_ends   (M : xMem) (post : xMem → Prop) : Prop :=
    ∃ n0 : Nat, wX12_ends_0 post n0 M
abbrev rm_X12_factor : Room := { frames := 3, cells := 0, slots := 0, locals := 67 }
theorem yd_X12_factor : yX12_factor.cls ≠ "java/lang/invoke/MethodHandle" ∧ yX12_factor.cls ≠ "java/lang/invoke/VarHandle" ∧ (parseMethodDescriptor yX12_factor.desc).map (fun d => d.parameters.length) = some 0 := by decide +kernel
def wX12_factor_23    (post : xMem → Prop)  (M : xMem) : Prop :=
    wX12_isGood  M (fun r2 M1 =>
      if r2 = 0 then (
        post M1)
      else (
        wX12_seesDigit  M1 (fun r5 M4 =>
          if r5 = 0 then (
            wX12_here  M4 (fun r8 M7 =>
              wX12_isValue r8 M7 (fun r10 M9 =>
                if r10 = 0 then (
                  wX12_wrongs 1 (gi M9 0 3) M9 (fun M12 =>
                    post M12))
                else (
                  wX12_here  M9 (fun r14 M13 =>
                    wX12_emit 1 r14 M13 (fun M15 =>
                      ∀ M16 : xMem, M16 = si M15 0 3 ((gi M15 0 3) + 1) →
                      post M16))))))
          else (
            wX12_reads  M4 (fun r18 M17 =>
              wX12_emit 0 r18 M17 (fun M19 =>
                post M19))))))
def wX12_factor_0    (post : xMem → Prop) : Nat → xMem → Prop
  | 0 => fun  _ => False
  | n + 1 => fun  M =>
      wX12_isGood  M (fun r2 M1 =>
        if r2 = 0 then (
          wX12_factor_23 post M1)
        else (
          wX12_here  M1 (fun r5 M4 =>
            if r5 = 91 then (
              wX12_opens  M4 (fun M7 =>
                wX12_factor_0 post n M7))
            else (
              wX12_factor_23 post M4))))
def wX12_factor   (M : xMem) (post : xMem → Prop) : Prop :=
    ∃ n0 : Nat, wX12_factor_0 post n0 M
abbrev rm_X12_stays : Room := { frames := 3, cells := 0, slots := 0, locals := 63 }
theorem yd_X12_stays : yX12_stays.cls ≠ "java/lang/invoke/MethodHandle" ∧ yX12_stays.cls ≠ "java/lang/invoke/VarHandle" ∧ (parseMethodDescriptor yX12_stays.desc).map (fun d => d.parameters.length) = some 0 := by decide +kernel
def wX12_stays_19    (post : Int32 → xMem → Prop) (x1 : Int32) (M : xMem) : Prop :=
    wX12_isPlus x1 M (fun r2 M1 =>
      wX12_sums r2 M1 (fun M3 =>
        wX12_puts x1 M3 (fun M4 =>
          post 1 M4)))
def wX12_stays   (M : xMem) (post : Int32 → xMem → Prop) : Prop :=
    wX12_here  M (fun r2 M1 =>
      wX12_isTimes r2 M1 (fun r4 M3 =>
        if r4 = 0 then (
          wX12_isPlus r2 M3 (fun r7 M6 =>
            if r7 = 0 then (
              wX12_sums 1 M6 (fun M9 =>
                if r2 = 93 then (
                  wX12_top  M9 (fun r12 M11 =>
                    if r12 = 91 then (
                      ∀ M14 : xMem, M14 = si M11 0 9 ((gi M11 0 9) - 1) →
                      ∀ M15 : xMem, M15 = si M14 0 8 ((gi M14 0 8) - 1) →
                      ∀ M16 : xMem, M16 = si M15 0 3 ((gi M15 0 3) + 1) →
                      ∀ M17 : xMem, M17 = si M16 0 36 1 →
                      post 1 M17)
                    else (
                      wX12_wrongs 1 (gi M11 0 3) M11 (fun M18 =>
                        post 0 M18))))
                else (
                  post 0 M9)))
            else (
              wX12_stays_19 post r2 M6)))
        else (
          wX12_stays_19 post r2 M3)))
abbrev rm_X12_value : Room := { frames := 4, cells := 0, slots := 0, locals := 87 }
theorem yd_X12_value : yX12_value.cls ≠ "java/lang/invoke/MethodHandle" ∧ yX12_value.cls ≠ "java/lang/invoke/VarHandle" ∧ (parseMethodDescriptor yX12_value.desc).map (fun d => d.parameters.length) = some 0 := by decide +kernel
def wX12_value_57    (post : xMem → Prop)  (M : xMem) : Prop :=
    wX12_isGood  M (fun r2 M1 =>
      if r2 = 0 then (
        post M1)
      else (
        wX12_top  M1 (fun r5 M4 =>
          if r5 = 91 then (
            wX12_wrongs 1 (gi M4 0 3) M4 (fun M7 =>
              post M7))
          else (
            post M4))))
def wX12_value_53   (K7 : Int32 → xMem → Prop) (post : xMem → Prop) (s0 : Int32) (M : xMem) : Prop :=
    K7 s0 M
def wX12_value_52   (K7 : Int32 → xMem → Prop) (post : xMem → Prop)  (M : xMem) : Prop :=
    wX12_value_53 K7 post 0 M
def wX12_value_29   (K7 : Int32 → xMem → Prop) (post : xMem → Prop)  (M : xMem) : Prop :=
    ∀ M1 : xMem, M1 = si M 0 36 0 →
    wX12_isGood  M1 (fun r3 M2 =>
      if r3 = 0 then (
        wX12_value_52 K7 post M2)
      else (
        wX12_stays  M2 (fun r6 M5 =>
          if r6 = 0 then (
            wX12_value_52 K7 post M5)
          else (
            wX12_value_53 K7 post 1 M5))))
def wX12_value_7    (post : xMem → Prop) : Nat → Int32 → xMem → Prop
  | 0 => fun _ _ => False
  | n + 1 => fun x1 M =>
      if x1 = 0 then (
        wX12_value_57 post M)
      else (
        wX12_isGood  M (fun r3 M2 =>
          if r3 = 0 then (
            wX12_value_57 post M2)
          else (
            if (gi M2 0 36) = 0 then (
              wX12_factor  M2 (fun M6 =>
                wX12_value_29 (wX12_value_7 post n) post M6))
            else (
              wX12_value_29 (wX12_value_7 post n) post M2))))
def wX12_value   (M : xMem) (post : xMem → Prop) : Prop :=
    ∀ M1 : xMem, M1 = si M 0 36 0 →
    ∃ n7 : Nat, wX12_value_7 post n7 1 M1
abbrev rm_X12_pieceOfC : Room := { frames := 5, cells := 0, slots := 0, locals := 108 }
theorem yd_X12_pieceOfC : yX12_pieceOfC.cls ≠ "java/lang/invoke/MethodHandle" ∧ yX12_pieceOfC.cls ≠ "java/lang/invoke/VarHandle" ∧ (parseMethodDescriptor yX12_pieceOfC.desc).map (fun d => d.parameters.length) = some 0 := by decide +kernel
def wX12_pieceOfC_43    (post : xMem → Prop)  (M : xMem) : Prop :=
    wX12_isGood  M (fun r2 M1 =>
      if r2 = 0 then (
        post M1)
      else (
        wX12_here  M1 (fun r5 M4 =>
          wX12_isCompared r5 M4 (fun r7 M6 =>
            if r7 = 0 then (
              wX12_wrongs 1 (gi M6 0 3) M6 (fun M19 =>
                post M19))
            else (
              wX12_puts r5 M6 (fun M9 =>
                wX12_value  M9 (fun M10 =>
                  wX12_isGood  M10 (fun r12 M11 =>
                    if r12 = 0 then (
                      post M11)
                    else (
                      wX12_top  M11 (fun r15 M14 =>
                        wX12_emit r15 0 M14 (fun M16 =>
                          ∀ M17 : xMem, M17 = si M16 0 9 ((gi M16 0 9) - 1) →
                          wX12_ends  M17 (fun M18 =>
                            post M18))))))))))))
def wX12_pieceOfC_32    (post : xMem → Prop)  (M : xMem) : Prop :=
    wX12_isGood  M (fun r2 M1 =>
      if r2 = 0 then (
        wX12_pieceOfC_43 post M1)
      else (
        wX12_value  M1 (fun M4 =>
          wX12_pieceOfC_43 post M4)))
def wX12_pieceOfC_25   (K0 : xMem → Prop) (post : xMem → Prop)  (M : xMem) : Prop :=
    wX12_opens  M (fun M1 =>
      K0 M1)
def wX12_pieceOfC_0    (post : xMem → Prop) : Nat → xMem → Prop
  | 0 => fun  _ => False
  | n + 1 => fun  M =>
      wX12_isGood  M (fun r2 M1 =>
        if r2 = 0 then (
          wX12_pieceOfC_32 post M1)
        else (
          wX12_here  M1 (fun r5 M4 =>
            if r5 = 33 then (
              wX12_pieceOfC_25 (wX12_pieceOfC_0 post n) post M4)
            else (
              wX12_here  M4 (fun r8 M7 =>
                if r8 = 40 then (
                  wX12_pieceOfC_25 (wX12_pieceOfC_0 post n) post M7)
                else (
                  wX12_pieceOfC_32 post M7))))))
def wX12_pieceOfC   (M : xMem) (post : xMem → Prop) : Prop :=
    ∃ n0 : Nat, wX12_pieceOfC_0 post n0 M
set_option maxHeartbeats 4000000 in
set_option maxRecDepth 100000 in
theorem tX12_lies {g : xG} (hg : x_inj (WM g))  (l : Launch) (a0 : Int64) (a1 : Int64) (a2 : Int64) (M : xMem) (post : Int32 → xMem → Prop)  (h : wX12_lies a0 a1 a2 M post) : xMet (WM g) l yX12_lies cX12_lies 6 (some .boolean) (rm_X12_lies) [.long a0, .long a1, .long a2] M (pI post) := by
  refine x_enter (own := RX12) (L0 := [(0, .long a0), (2, .long a1), (4, .long a2)]) (by decide +kernel) rfl hg (x_stM g) (Nat.le_of_ble_eq_true rfl) rfl (fun x hl C => ?_)
  unfold wX12_lies at h
  refine x_lload_n C 0 rfl rfl dX12_lies_0 ?_
  refine x_lload_n C 1 rfl rfl dX12_lies_1 ?_
  refine x_lcmp C dX12_lies_2 ?_
  refine x_if_lt C (tgt := 17) dX12_lies_3 (by decide) (fun hq1 => ?_) (fun hq1 => ?_)
  · replace h := x_ift hq1 h
    refine x_iconst C (v1 := 0) dX12_lies_17 (by decide) ?_
    exact x_zret C rfl dX12_lies_18 ⟨_, rfl, h⟩
  · replace h := x_iff hq1 h
    refine x_lload_n C 0 rfl rfl dX12_lies_6 ?_
    refine x_lload C 2 rfl dX12_lies_7 ?_
    refine x_lcmp C dX12_lies_9 ?_
    refine x_if_gt C (tgt := 17) dX12_lies_10 (by decide) (fun hq2 => ?_) (fun hq2 => ?_)
    · replace h := x_ift hq2 h
      refine x_iconst C (v1 := 0) dX12_lies_17 (by decide) ?_
      exact x_zret C rfl dX12_lies_18 ⟨_, rfl, h⟩
    · replace h := x_iff hq2 h
      refine x_iconst C (v1 := 1) dX12_lies_13 (by decide) ?_
      refine x_goto C (tgt := 18) dX12_lies_14 (by decide) ?_
      exact x_zret C rfl dX12_lies_18 ⟨_, rfl, h⟩
set_option maxHeartbeats 4000000 in
set_option maxRecDepth 100000 in
theorem tX12_has {g : xG} (hg : x_inj (WM g))  (l : Launch) (a0 : Int32) (a1 : Int32) (M : xMem) (post : Int32 → xMem → Prop)  (h : wX12_has a0 a1 M post) : xMet (WM g) l yX12_has cX12_has 2 (some .boolean) (rm_X12_has) [.int a0, .int a1] M (pI post) := by
  refine x_enter (own := RX12) (L0 := [(0, .int a0), (1, .int a1)]) (by decide +kernel) rfl hg (x_stM g) (Nat.le_of_ble_eq_true rfl) rfl (fun x hl C => ?_)
  unfold wX12_has at h
  refine x_iload_n C 0 rfl rfl dX12_has_0 ?_
  refine x_iload_n C 1 rfl rfl dX12_has_1 ?_
  refine x_ishr C dX12_has_2 ?_
  refine x_iconst C (v1 := 1) dX12_has_3 (by decide) ?_
  refine x_iand C dX12_has_4 ?_
  refine x_iconst C (v1 := 1) dX12_has_5 (by decide) ?_
  refine x_icmp_ne C (tgt := 13) dX12_has_6 (by decide) (fun hq1 => ?_) (fun hq1 => ?_)
  · replace h := x_iff hq1 h
    refine x_iconst C (v1 := 0) dX12_has_13 (by decide) ?_
    exact x_zret C rfl dX12_has_14 ⟨_, rfl, h⟩
  · replace h := x_ift hq1 h
    refine x_iconst C (v1 := 1) dX12_has_9 (by decide) ?_
    refine x_goto C (tgt := 14) dX12_has_10 (by decide) ?_
    exact x_zret C rfl dX12_has_14 ⟨_, rfl, h⟩
set_option maxHeartbeats 4000000 in
set_option maxRecDepth 100000 in
theorem tX12_sizeOf_4 {g : xG} (hg : x_inj (WM g))  {x : xCx}   {post : Int32 → xMem → Prop} (C : xOk (WM g) x cX12_sizeOf RX12 3 (some .int) (rm_X12_sizeOf) (pI post))   : ∀ (n : Nat) (x1 : Int32) (x2 : Int32) (M : xMem), wX12_sizeOf_4 post n x1 x2 M → xW (WM g) x 3 4 [(1, .int x1), (2, .int x2)] [] M := by
  intro n
  induction n with
  | zero =>
    intro x1 x2 M  h
    exact h.elim
  | succ n ih =>
    intro x1 x2 M  h
    rw [wX12_sizeOf_4] at h
    refine x_iload_n C 1 rfl rfl dX12_sizeOf_4 ?_
    refine x_if_eq C (tgt := 20) dX12_sizeOf_5 (by decide) (fun hq1 => ?_) (fun hq1 => ?_)
    · replace h := x_ift hq1 h
      refine x_iload_n C 0 rfl rfl dX12_sizeOf_20 ?_
      exact x_iret C dX12_sizeOf_21 ⟨_, rfl, h⟩
    · replace h := x_iff hq1 h
      obtain ⟨v2, ev2⟩ : ∃ z : Int32, z = x1 + 1 := ⟨_, rfl⟩
      replace h := h v2 ev2
      refine x_iinc C 0 (v1 := v2) (L' := [(1, .int v2), (2, .int x2)]) rfl (by rw [ev2]; rfl) rfl (Nat.le_of_ble_eq_true rfl) dX12_sizeOf_8 ?_
      refine x_iload_n C 1 rfl rfl dX12_sizeOf_11 ?_
      refine x_iload_n C 1 rfl rfl dX12_sizeOf_12 ?_
      refine x_iconst C (v1 := 1) dX12_sizeOf_13 (by decide) ?_
      refine x_isub C dX12_sizeOf_14 ?_
      refine x_iand C dX12_sizeOf_15 ?_
      refine x_nm (fun v3 ev3 => ?_)
      replace h := h v3 ev3
      refine x_istore_n C (L' := [(2, .int v3), (1, .int v2)]) rfl rfl (Nat.le_of_ble_eq_true rfl) dX12_sizeOf_16 ?_
      refine x_goto C (tgt := 4) dX12_sizeOf_17 (by decide) ?_
      refine x_loc (L' := [(1, .int v2), (2, .int v3)]) [1, 0] rfl ?_
      exact ih _ _ _  h
set_option maxHeartbeats 4000000 in
set_option maxRecDepth 100000 in
theorem tX12_sizeOf {g : xG} (hg : x_inj (WM g))  (l : Launch) (a0 : Int32) (M : xMem) (post : Int32 → xMem → Prop)  (h : wX12_sizeOf a0 M post) : xMet (WM g) l yX12_sizeOf cX12_sizeOf 3 (some .int) (rm_X12_sizeOf) [.int a0] M (pI post) := by
  refine x_enter (own := RX12) (L0 := [(0, .int a0)]) (by decide +kernel) rfl hg (x_stM g) (Nat.le_of_ble_eq_true rfl) rfl (fun x hl C => ?_)
  unfold wX12_sizeOf at h
  refine x_iconst C (v1 := 0) dX12_sizeOf_0 (by decide) ?_
  refine x_istore_n C (L' := [(1, .int 0), (0, .int a0)]) rfl rfl (Nat.le_of_ble_eq_true rfl) dX12_sizeOf_1 ?_
  refine x_iload_n C 1 rfl rfl dX12_sizeOf_2 ?_
  refine x_istore_n C (L' := [(2, .int a0), (1, .int 0), (0, .int a0)]) rfl rfl (Nat.le_of_ble_eq_true rfl) dX12_sizeOf_3 ?_
  refine x_loc (L' := [(1, .int 0), (2, .int a0)]) [1, 0] rfl ?_
  obtain ⟨n4, h⟩ := h
  exact tX12_sizeOf_4 hg  C   _ _ _ _  h
set_option maxHeartbeats 4000000 in
set_option maxRecDepth 100000 in
theorem tX12_lowestOf_2 {g : xG} (hg : x_inj (WM g))  {x : xCx}   {post : Int32 → xMem → Prop} (C : xOk (WM g) x cX12_lowestOf RX12 2 (some .int) (rm_X12_lowestOf) (pI post))   : ∀ (n : Nat) (x0 : Int32) (x1 : Int32) (M : xMem), wX12_lowestOf_2 post n x0 x1 M → xW (WM g) x 2 2 [(0, .int x0), (1, .int x1)] [] M := by
  intro n
  induction n with
  | zero =>
    intro x0 x1 M  h
    exact h.elim
  | succ n ih =>
    intro x0 x1 M  h
    rw [wX12_lowestOf_2] at h
    refine x_iload_n C 0 rfl rfl dX12_lowestOf_2 ?_
    refine x_iload_n C 1 rfl rfl dX12_lowestOf_3 ?_
    refine x_callS C (st := []) (As := [.int x0, .int x1]) (tX12_has hg _ _ _ _ _  h) wm_X12_194 wsm_X12_has wz_X12 wc_X12_has yd_X12_has rfl ⟨rfl, rfl⟩ ⟨Nat.le_of_ble_eq_true rfl, Nat.le_of_ble_eq_true rfl⟩ (Nat.le_of_ble_eq_true rfl) rfl dX12_lowestOf_4 (x_ki (fun r2 M1 h => ?_))
    refine x_if_ne C (tgt := 16) dX12_lowestOf_7 (by decide) (fun hq3 => ?_) (fun hq3 => ?_)
    · replace h := x_iff hq3 h
      refine x_iload_n C 1 rfl rfl dX12_lowestOf_16 ?_
      exact x_iret C dX12_lowestOf_17 ⟨_, rfl, h⟩
    · replace h := x_ift hq3 h
      obtain ⟨v4, ev4⟩ : ∃ z : Int32, z = x1 + 1 := ⟨_, rfl⟩
      replace h := h v4 ev4
      refine x_iinc C 1 (v1 := v4) (L' := [(1, .int v4), (0, .int x0)]) rfl (by rw [ev4]; rfl) rfl (Nat.le_of_ble_eq_true rfl) dX12_lowestOf_10 ?_
      refine x_goto C (tgt := 2) dX12_lowestOf_13 (by decide) ?_
      refine x_loc (L' := [(0, .int x0), (1, .int v4)]) [1, 0] rfl ?_
      exact ih _ _ _  h
set_option maxHeartbeats 4000000 in
set_option maxRecDepth 100000 in
theorem tX12_lowestOf {g : xG} (hg : x_inj (WM g))  (l : Launch) (a0 : Int32) (M : xMem) (post : Int32 → xMem → Prop)  (h : wX12_lowestOf a0 M post) : xMet (WM g) l yX12_lowestOf cX12_lowestOf 2 (some .int) (rm_X12_lowestOf) [.int a0] M (pI post) := by
  refine x_enter (own := RX12) (L0 := [(0, .int a0)]) (by decide +kernel) rfl hg (x_stM g) (Nat.le_of_ble_eq_true rfl) rfl (fun x hl C => ?_)
  unfold wX12_lowestOf at h
  refine x_iconst C (v1 := 0) dX12_lowestOf_0 (by decide) ?_
  refine x_istore_n C (L' := [(1, .int 0), (0, .int a0)]) rfl rfl (Nat.le_of_ble_eq_true rfl) dX12_lowestOf_1 ?_
  refine x_loc (L' := [(0, .int a0), (1, .int 0)]) [1, 0] rfl ?_
  obtain ⟨n2, h⟩ := h
  exact tX12_lowestOf_2 hg  C   _ _ _ _  h
set_option maxHeartbeats 4000000 in
set_option maxRecDepth 100000 in
theorem tX12_held {g : xG} (hg : x_inj (WM g))  (l : Launch) (a0 : Int32) (a1 : Int32) (M : xMem) (post : Int32 → xMem → Prop)  (h : wX12_held a0 a1 M post) : xMet (WM g) l yX12_held cX12_held 2 (some .int) (rm_X12_held) [.int a0, .int a1] M (pI post) := by
  refine x_enter (own := RX12) (L0 := [(0, .int a0), (1, .int a1)]) (by decide +kernel) rfl hg (x_stM g) (Nat.le_of_ble_eq_true rfl) rfl (fun x hl C => ?_)
  unfold wX12_held at h
  refine x_iload_n C 0 rfl rfl dX12_held_0 ?_
  refine x_if_ge C (tgt := 8) dX12_held_1 (by decide) (fun hq1 => ?_) (fun hq1 => ?_)
  · replace h := x_ift hq1 h
    refine x_iload_n C 0 rfl rfl dX12_held_8 ?_
    refine x_iload_n C 1 rfl rfl dX12_held_9 ?_
    refine x_icmp_le C (tgt := 17) dX12_held_10 (by decide) (fun hq2 => ?_) (fun hq2 => ?_)
    · replace h := x_ift hq2 h
      refine x_iload_n C 0 rfl rfl dX12_held_17 ?_
      exact x_iret C dX12_held_18 ⟨_, rfl, h⟩
    · replace h := x_iff hq2 h
      refine x_iload_n C 1 rfl rfl dX12_held_13 ?_
      refine x_goto C (tgt := 18) dX12_held_14 (by decide) ?_
      exact x_iret C dX12_held_18 ⟨_, rfl, h⟩
  · replace h := x_iff hq1 h
    refine x_iconst C (v1 := 0) dX12_held_4 (by decide) ?_
    refine x_goto C (tgt := 18) dX12_held_5 (by decide) ?_
    exact x_iret C dX12_held_18 ⟨_, rfl, h⟩
set_option maxHeartbeats 4000000 in
set_option maxRecDepth 100000 in
theorem tX12_push_3 {g : xG} (hg : x_inj (WM g))  {x : xCx}   {post : xMem → Prop} (C : xOk (WM g) x cX12_push RX12 3 none (rm_X12_push) (pV post))   : ∀ (n : Nat) (x1 : Int32) (x2 : Int32) (M : xMem), wX12_push_3 post n x1 x2 M → xW (WM g) x 3 3 [(0, .ref (ga g 0)), (1, .int x1), (2, .int x2)] [] M := by
  intro n
  induction n with
  | zero =>
    intro x1 x2 M  h
    exact h.elim
  | succ n ih =>
    intro x1 x2 M  h
    rw [wX12_push_3] at h
    refine x_iload_n C 2 rfl rfl dX12_push_3 ?_
    refine x_if_lt C (tgt := 36) dX12_push_4 (by decide) (fun hq1 => ?_) (fun hq1 => ?_)
    · replace h := x_ift hq1 h
      exact x_vret C dX12_push_36 ⟨rfl, h⟩
    · replace h := x_iff hq1 h
      refine x_aload_n C 0 rfl rfl dX12_push_7 ?_
      refine x_get C (c := 0) (ci := 12) (k1 := 0) (v1 := .ref (ga g 1)) (enM_12 (c := 0) rfl) (Nat.le_of_ble_eq_true rfl) rfl inX12 (by decide) wf_X12_7 rfl dX12_push_8 ?_
      refine x_aload_n C 0 rfl rfl dX12_push_11 ?_
      refine x_get C (c := 0) (ci := 12) (k1 := 1) (v1 := .int (gi M 0 1)) (enM_12 (c := 0) rfl) (Nat.le_of_ble_eq_true rfl) rfl inX12 (by decide) wf_X12_198 rfl dX12_push_12 ?_
      refine x_iload_n C 1 rfl rfl dX12_push_15 ?_
      refine x_iload_n C 2 rfl rfl dX12_push_16 ?_
      refine x_ishr C dX12_push_17 ?_
      refine x_i2b C dX12_push_18 ?_
      obtain ⟨hi2, h⟩ := h
      refine x_bast C 1 (c := 1) (enM_23n (c := 1) (n := 260) rfl rfl) (Nat.le_of_ble_eq_true rfl) rfl hi2 dX12_push_19 ?_
      refine x_nmM (fun M3 eM3 => ?_)
      replace h := h M3 eM3
      refine x_aload_n C 0 rfl rfl dX12_push_20 ?_
      refine x_dup C rfl dX12_push_21 ?_
      refine x_get C (c := 0) (ci := 12) (k1 := 1) (v1 := .int (gi M3 0 1)) (enM_12 (c := 0) rfl) (Nat.le_of_ble_eq_true rfl) rfl inX12 (by decide) wf_X12_198 rfl dX12_push_22 ?_
      refine x_iconst C (v1 := 1) dX12_push_25 (by decide) ?_
      refine x_iadd C dX12_push_26 ?_
      refine x_put C (c := 0) (ci := 12) (k1 := 1) (u1 := ((gi M3 0 1) + 1)) (v1 := .int ((gi M3 0 1) + 1)) (ty := .int) (enM_12 (c := 0) rfl) (Nat.le_of_ble_eq_true rfl) rfl inX12 (by decide) (stX12_1 _ _ _) tyX12 tyX12_ok nmX12 wf_X12_198 rfl rfl rfl rfl (Nat.le_of_ble_eq_true rfl) dX12_push_27 ?_
      refine x_nmM (fun M4 eM4 => ?_)
      replace h := h M4 eM4
      obtain ⟨v5, ev5⟩ : ∃ z : Int32, z = x2 + (-8) := ⟨_, rfl⟩
      replace h := h v5 ev5
      refine x_iinc C 2 (v1 := v5) (L' := [(2, .int v5), (0, .ref (ga g 0)), (1, .int x1)]) rfl (by rw [ev5]; rfl) rfl (Nat.le_of_ble_eq_true rfl) dX12_push_30 ?_
      refine x_goto C (tgt := 3) dX12_push_33 (by decide) ?_
      refine x_loc (L' := [(0, .ref (ga g 0)), (1, .int x1), (2, .int v5)]) [1, 2, 0] rfl ?_
      exact ih _ _ _  h
set_option maxHeartbeats 4000000 in
set_option maxRecDepth 100000 in
theorem tX12_push {g : xG} (hg : x_inj (WM g))  (l : Launch) (a0 : Int32) (M : xMem) (post : xMem → Prop)  (h : wX12_push a0 M post) : xMet (WM g) l yX12_push cX12_push 3 none (rm_X12_push) [.ref (ga g 0), .int a0] M (pV post) := by
  refine x_enter (own := RX12) (L0 := [(0, .ref (ga g 0)), (1, .int a0)]) (by decide +kernel) rfl hg (x_stM g) (Nat.le_of_ble_eq_true rfl) rfl (fun x hl C => ?_)
  unfold wX12_push at h
  refine x_bipush C (v1 := 24) dX12_push_0 (by decide) ?_
  refine x_istore_n C (L' := [(2, .int 24), (0, .ref (ga g 0)), (1, .int a0)]) rfl rfl (Nat.le_of_ble_eq_true rfl) dX12_push_2 ?_
  refine x_loc (L' := [(0, .ref (ga g 0)), (1, .int a0), (2, .int 24)]) [1, 2, 0] rfl ?_
  obtain ⟨n3, h⟩ := h
  exact tX12_push_3 hg  C   _ _ _ _  h
set_option maxHeartbeats 4000000 in
set_option maxRecDepth 100000 in
theorem tX12_feed {g : xG} (hg : x_inj (WM g))  (l : Launch) (a0 : Int32) (a1 : Int32) (a2 : Int32) (a3 : Int32) (a4 : Int32) (M : xMem) (post : Int32 → xMem → Prop)  (h : wX12_feed a0 a1 a2 a3 a4 M post) : xMet (WM g) l yX12_feed cX12_feed 6 (some .int) (rm_X12_feed) [.ref (ga g 0), .int a0, .int a1, .int a2, .int a3, .int a4] M (pI post) := by
  refine x_enter (own := RX12) (L0 := [(0, .ref (ga g 0)), (1, .int a0), (2, .int a1), (3, .int a2), (4, .int a3), (5, .int a4)]) (by decide +kernel) rfl hg (x_stM g) (Nat.le_of_ble_eq_true rfl) rfl (fun x hl C => ?_)
  unfold wX12_feed at h
  refine x_aload_n C 0 rfl rfl dX12_feed_0 ?_
  refine x_get C (c := 0) (ci := 12) (k1 := 1) (v1 := .int (gi M 0 1)) (enM_12 (c := 0) rfl) (Nat.le_of_ble_eq_true rfl) rfl inX12 (by decide) wf_X12_198 rfl dX12_feed_1 ?_
  refine x_bipush C (v1 := 20) dX12_feed_4 (by decide) ?_
  refine x_iadd C dX12_feed_6 ?_
  refine x_sipush C (v1 := 260) dX12_feed_7 (by decide) ?_
  refine x_icmp_le C (tgt := 15) dX12_feed_10 (by decide) (fun hq1 => ?_) (fun hq1 => ?_)
  · replace h := x_ift hq1 h
    refine x_aload_n C 0 rfl rfl dX12_feed_15 ?_
    refine x_iload_n C 1 rfl rfl dX12_feed_16 ?_
    refine x_callV C (st := []) (As := [.int a0]) (c := 0) (ci := 12) (enM_12 (c := 0) rfl) (Nat.le_of_ble_eq_true rfl) rfl (tX12_push hg _ _ _ _  h) wm_X12_201 wi_X12_push wv_X12_push wz_X12 wc_X12_push rfl yd_X12_push rfl ⟨rfl, rfl⟩ ⟨Nat.le_of_ble_eq_true rfl, Nat.le_of_ble_eq_true rfl⟩ (Nat.le_of_ble_eq_true rfl) rfl dX12_feed_17 (x_kv (fun M2 h => ?_))
    refine x_aload_n C 0 rfl rfl dX12_feed_20 ?_
    refine x_iload_n C 2 rfl rfl dX12_feed_21 ?_
    refine x_callV C (st := []) (As := [.int a1]) (c := 0) (ci := 12) (enM_12 (c := 0) rfl) (Nat.le_of_ble_eq_true rfl) rfl (tX12_push hg _ _ _ _  h) wm_X12_201 wi_X12_push wv_X12_push wz_X12 wc_X12_push rfl yd_X12_push rfl ⟨rfl, rfl⟩ ⟨Nat.le_of_ble_eq_true rfl, Nat.le_of_ble_eq_true rfl⟩ (Nat.le_of_ble_eq_true rfl) rfl dX12_feed_22 (x_kv (fun M3 h => ?_))
    refine x_aload_n C 0 rfl rfl dX12_feed_25 ?_
    refine x_iload_n C 3 rfl rfl dX12_feed_26 ?_
    refine x_callV C (st := []) (As := [.int a2]) (c := 0) (ci := 12) (enM_12 (c := 0) rfl) (Nat.le_of_ble_eq_true rfl) rfl (tX12_push hg _ _ _ _  h) wm_X12_201 wi_X12_push wv_X12_push wz_X12 wc_X12_push rfl yd_X12_push rfl ⟨rfl, rfl⟩ ⟨Nat.le_of_ble_eq_true rfl, Nat.le_of_ble_eq_true rfl⟩ (Nat.le_of_ble_eq_true rfl) rfl dX12_feed_27 (x_kv (fun M4 h => ?_))
    refine x_aload_n C 0 rfl rfl dX12_feed_30 ?_
    refine x_iload C 4 rfl dX12_feed_31 ?_
    refine x_callV C (st := []) (As := [.int a3]) (c := 0) (ci := 12) (enM_12 (c := 0) rfl) (Nat.le_of_ble_eq_true rfl) rfl (tX12_push hg _ _ _ _  h) wm_X12_201 wi_X12_push wv_X12_push wz_X12 wc_X12_push rfl yd_X12_push rfl ⟨rfl, rfl⟩ ⟨Nat.le_of_ble_eq_true rfl, Nat.le_of_ble_eq_true rfl⟩ (Nat.le_of_ble_eq_true rfl) rfl dX12_feed_33 (x_kv (fun M5 h => ?_))
    refine x_aload_n C 0 rfl rfl dX12_feed_36 ?_
    refine x_iload C 5 rfl dX12_feed_37 ?_
    refine x_callV C (st := []) (As := [.int a4]) (c := 0) (ci := 12) (enM_12 (c := 0) rfl) (Nat.le_of_ble_eq_true rfl) rfl (tX12_push hg _ _ _ _  h) wm_X12_201 wi_X12_push wv_X12_push wz_X12 wc_X12_push rfl yd_X12_push rfl ⟨rfl, rfl⟩ ⟨Nat.le_of_ble_eq_true rfl, Nat.le_of_ble_eq_true rfl⟩ (Nat.le_of_ble_eq_true rfl) rfl dX12_feed_39 (x_kv (fun M6 h => ?_))
    refine x_aload_n C 0 rfl rfl dX12_feed_42 ?_
    refine x_get C (c := 0) (ci := 12) (k1 := 1) (v1 := .int (gi M6 0 1)) (enM_12 (c := 0) rfl) (Nat.le_of_ble_eq_true rfl) rfl inX12 (by decide) wf_X12_198 rfl dX12_feed_43 ?_
    exact x_iret C dX12_feed_46 ⟨_, rfl, h⟩
  · replace h := x_iff hq1 h
    refine x_iconst C (v1 := (-1)) dX12_feed_13 (by decide) ?_
    exact x_iret C dX12_feed_14 ⟨_, rfl, h⟩
set_option maxHeartbeats 4000000 in
set_option maxRecDepth 100000 in
theorem tX12_byteAt {g : xG} (hg : x_inj (WM g))  (l : Launch) (a0 : Int32) (M : xMem) (post : Int32 → xMem → Prop)  (h : wX12_byteAt a0 M post) : xMet (WM g) l yX12_byteAt cX12_byteAt 2 (some .int) (rm_X12_byteAt) [.ref (ga g 0), .int a0] M (pI post) := by
  refine x_enter (own := RX12) (L0 := [(0, .ref (ga g 0)), (1, .int a0)]) (by decide +kernel) rfl hg (x_stM g) (Nat.le_of_ble_eq_true rfl) rfl (fun x hl C => ?_)
  unfold wX12_byteAt at h
  refine x_aload_n C 0 rfl rfl dX12_byteAt_0 ?_
  refine x_get C (c := 0) (ci := 12) (k1 := 0) (v1 := .ref (ga g 1)) (enM_12 (c := 0) rfl) (Nat.le_of_ble_eq_true rfl) rfl inX12 (by decide) wf_X12_7 rfl dX12_byteAt_1 ?_
  refine x_iload_n C 1 rfl rfl dX12_byteAt_4 ?_
  obtain ⟨hi1, h⟩ := h
  refine x_bald C 1 (c := 1) (enM_23n (c := 1) (n := 260) rfl rfl) (Nat.le_of_ble_eq_true rfl) rfl hi1 dX12_byteAt_5 ?_
  refine x_sipush C (v1 := 255) dX12_byteAt_6 (by decide) ?_
  refine x_iand C dX12_byteAt_9 ?_
  exact x_iret C dX12_byteAt_10 ⟨_, rfl, h⟩
set_option maxHeartbeats 4000000 in
set_option maxRecDepth 100000 in
theorem tX12_here {g : xG} (hg : x_inj (WM g))  (l : Launch)  (M : xMem) (post : Int32 → xMem → Prop)  (h : wX12_here  M post) : xMet (WM g) l yX12_here cX12_here 1 (some .int) (rm_X12_here) [.ref (ga g 0)] M (pI post) := by
  refine x_enter (own := RX12) (L0 := [(0, .ref (ga g 0))]) (by decide +kernel) rfl hg (x_stM g) (Nat.le_of_ble_eq_true rfl) rfl (fun x hl C => ?_)
  unfold wX12_here at h
  refine x_aload_n C 0 rfl rfl dX12_here_0 ?_
  refine x_get C (c := 0) (ci := 12) (k1 := 3) (v1 := .int (gi M 0 3)) (enM_12 (c := 0) rfl) (Nat.le_of_ble_eq_true rfl) rfl inX12 (by decide) wf_X12_205 rfl dX12_here_1 ?_
  refine x_aload_n C 0 rfl rfl dX12_here_4 ?_
  refine x_get C (c := 0) (ci := 12) (k1 := 4) (v1 := .int (gi M 0 4)) (enM_12 (c := 0) rfl) (Nat.le_of_ble_eq_true rfl) rfl inX12 (by decide) wf_X12_208 rfl dX12_here_5 ?_
  refine x_icmp_ge C (tgt := 27) dX12_here_8 (by decide) (fun hq1 => ?_) (fun hq1 => ?_)
  · replace h := x_ift hq1 h
    refine x_iconst C (v1 := 0) dX12_here_27 (by decide) ?_
    exact x_iret C dX12_here_28 ⟨_, rfl, h⟩
  · replace h := x_iff hq1 h
    refine x_aload_n C 0 rfl rfl dX12_here_11 ?_
    refine x_get C (c := 0) (ci := 12) (k1 := 0) (v1 := .ref (ga g 1)) (enM_12 (c := 0) rfl) (Nat.le_of_ble_eq_true rfl) rfl inX12 (by decide) wf_X12_7 rfl dX12_here_12 ?_
    refine x_aload_n C 0 rfl rfl dX12_here_15 ?_
    refine x_get C (c := 0) (ci := 12) (k1 := 3) (v1 := .int (gi M 0 3)) (enM_12 (c := 0) rfl) (Nat.le_of_ble_eq_true rfl) rfl inX12 (by decide) wf_X12_205 rfl dX12_here_16 ?_
    obtain ⟨hi2, h⟩ := h
    refine x_bald C 1 (c := 1) (enM_23n (c := 1) (n := 260) rfl rfl) (Nat.le_of_ble_eq_true rfl) rfl hi2 dX12_here_19 ?_
    refine x_sipush C (v1 := 255) dX12_here_20 (by decide) ?_
    refine x_iand C dX12_here_23 ?_
    refine x_goto C (tgt := 28) dX12_here_24 (by decide) ?_
    exact x_iret C dX12_here_28 ⟨_, rfl, h⟩
set_option maxHeartbeats 4000000 in
set_option maxRecDepth 100000 in
theorem tX12_wrongs_22 {g : xG} (hg : x_inj (WM g))  {x : xCx}   {post : xMem → Prop} (C : xOk (WM g) x cX12_wrongs RX12 3 none (rm_X12_wrongs) (pV post))   (s0 : Int32) (M : xMem)  (h : wX12_wrongs_22 post s0 M) : xW (WM g) x 3 22 [] [.int s0, .ref (ga g 0)] M := by
  unfold wX12_wrongs_22 at h
  refine x_put C (c := 0) (ci := 12) (k1 := 5) (u1 := s0) (v1 := .int s0) (ty := .int) (enM_12 (c := 0) rfl) (Nat.le_of_ble_eq_true rfl) rfl inX12 (by decide) (stX12_5 _ _ _) tyX12 tyX12_ok nmX12 wf_X12_211 rfl rfl rfl rfl (Nat.le_of_ble_eq_true rfl) dX12_wrongs_22 ?_
  refine x_nmM (fun M1 eM1 => ?_)
  replace h := h M1 eM1
  exact x_vret C dX12_wrongs_25 ⟨rfl, h⟩
set_option maxHeartbeats 4000000 in
set_option maxRecDepth 100000 in
theorem tX12_wrongs {g : xG} (hg : x_inj (WM g))  (l : Launch) (a0 : Int32) (a1 : Int32) (M : xMem) (post : xMem → Prop)  (h : wX12_wrongs a0 a1 M post) : xMet (WM g) l yX12_wrongs cX12_wrongs 3 none (rm_X12_wrongs) [.ref (ga g 0), .int a0, .int a1] M (pV post) := by
  refine x_enter (own := RX12) (L0 := [(0, .ref (ga g 0)), (1, .int a0), (2, .int a1)]) (by decide +kernel) rfl hg (x_stM g) (Nat.le_of_ble_eq_true rfl) rfl (fun x hl C => ?_)
  unfold wX12_wrongs at h
  refine x_aload_n C 0 rfl rfl dX12_wrongs_0 ?_
  refine x_aload_n C 0 rfl rfl dX12_wrongs_1 ?_
  refine x_get C (c := 0) (ci := 12) (k1 := 5) (v1 := .int (gi M 0 5)) (enM_12 (c := 0) rfl) (Nat.le_of_ble_eq_true rfl) rfl inX12 (by decide) wf_X12_211 rfl dX12_wrongs_2 ?_
  refine x_if_ge C (tgt := 15) dX12_wrongs_5 (by decide) (fun hq1 => ?_) (fun hq1 => ?_)
  · replace h := x_ift hq1 h
    refine x_sipush C (v1 := (-1000)) dX12_wrongs_15 (by decide) ?_
    refine x_iload_n C 1 rfl rfl dX12_wrongs_18 ?_
    refine x_imul C dX12_wrongs_19 ?_
    refine x_iload_n C 2 rfl rfl dX12_wrongs_20 ?_
    refine x_isub C dX12_wrongs_21 ?_
    refine x_loc (L' := []) [] rfl ?_
    exact tX12_wrongs_22 hg  C   _ _  h
  · replace h := x_iff hq1 h
    refine x_aload_n C 0 rfl rfl dX12_wrongs_8 ?_
    refine x_get C (c := 0) (ci := 12) (k1 := 5) (v1 := .int (gi M 0 5)) (enM_12 (c := 0) rfl) (Nat.le_of_ble_eq_true rfl) rfl inX12 (by decide) wf_X12_211 rfl dX12_wrongs_9 ?_
    refine x_goto C (tgt := 22) dX12_wrongs_12 (by decide) ?_
    refine x_loc (L' := []) [] rfl ?_
    exact tX12_wrongs_22 hg  C   _ _  h
set_option maxHeartbeats 4000000 in
set_option maxRecDepth 100000 in
theorem tX12_isGood {g : xG} (hg : x_inj (WM g))  (l : Launch)  (M : xMem) (post : Int32 → xMem → Prop)  (h : wX12_isGood  M post) : xMet (WM g) l yX12_isGood cX12_isGood 1 (some .boolean) (rm_X12_isGood) [.ref (ga g 0)] M (pI post) := by
  refine x_enter (own := RX12) (L0 := [(0, .ref (ga g 0))]) (by decide +kernel) rfl hg (x_stM g) (Nat.le_of_ble_eq_true rfl) rfl (fun x hl C => ?_)
  unfold wX12_isGood at h
  refine x_aload_n C 0 rfl rfl dX12_isGood_0 ?_
  refine x_get C (c := 0) (ci := 12) (k1 := 5) (v1 := .int (gi M 0 5)) (enM_12 (c := 0) rfl) (Nat.le_of_ble_eq_true rfl) rfl inX12 (by decide) wf_X12_211 rfl dX12_isGood_1 ?_
  refine x_if_ne C (tgt := 11) dX12_isGood_4 (by decide) (fun hq1 => ?_) (fun hq1 => ?_)
  · replace h := x_iff hq1 h
    refine x_iconst C (v1 := 0) dX12_isGood_11 (by decide) ?_
    exact x_zret C rfl dX12_isGood_12 ⟨_, rfl, h⟩
  · replace h := x_ift hq1 h
    refine x_iconst C (v1 := 1) dX12_isGood_7 (by decide) ?_
    refine x_goto C (tgt := 12) dX12_isGood_8 (by decide) ?_
    exact x_zret C rfl dX12_isGood_12 ⟨_, rfl, h⟩
set_option maxHeartbeats 4000000 in
set_option maxRecDepth 100000 in
theorem tX12_seesDigit {g : xG} (hg : x_inj (WM g))  (l : Launch)  (M : xMem) (post : Int32 → xMem → Prop)  (h : wX12_seesDigit  M post) : xMet (WM g) l yX12_seesDigit cX12_seesDigit 1 (some .boolean) (rm_X12_seesDigit) [.ref (ga g 0)] M (pI post) := by
  refine x_enter (own := RX12) (L0 := [(0, .ref (ga g 0))]) (by decide +kernel) rfl hg (x_stM g) (Nat.le_of_ble_eq_true rfl) rfl (fun x hl C => ?_)
  unfold wX12_seesDigit at h
  refine x_aload_n C 0 rfl rfl dX12_seesDigit_0 ?_
  refine x_callV C (st := []) (As := []) (c := 0) (ci := 12) (enM_12 (c := 0) rfl) (Nat.le_of_ble_eq_true rfl) rfl (tX12_here hg _  _ _  h) wm_X12_214 wi_X12_here wv_X12_here wz_X12 wc_X12_here rfl yd_X12_here rfl ⟨rfl, rfl⟩ ⟨Nat.le_of_ble_eq_true rfl, Nat.le_of_ble_eq_true rfl⟩ (Nat.le_of_ble_eq_true rfl) rfl dX12_seesDigit_1 (x_ki (fun r2 M1 h => ?_))
  refine x_i2l C dX12_seesDigit_4 ?_
  refine x_ldc2 C (v1 := 48) (wcl_X12_218) dX12_seesDigit_5 ?_
  refine x_ldc2 C (v1 := 57) (wcl_X12_220) dX12_seesDigit_8 ?_
  refine x_callS C (st := []) (As := [.long ((r2 : Int32).toInt64), .long 48, .long 57]) (tX12_lies hg _ _ _ _ _ _  h) wm_X12_222 wsm_X12_lies wz_X12 wc_X12_lies yd_X12_lies rfl ⟨rfl, rfl⟩ ⟨Nat.le_of_ble_eq_true rfl, Nat.le_of_ble_eq_true rfl⟩ (Nat.le_of_ble_eq_true rfl) rfl dX12_seesDigit_11 (x_ki (fun r4 M3 h => ?_))
  exact x_zret C h.1.1 dX12_seesDigit_14 ⟨_, rfl, h.2⟩
set_option maxHeartbeats 4000000 in
set_option maxRecDepth 100000 in
theorem tX12_begins {g : xG} (hg : x_inj (WM g))  (l : Launch) (a0 : Int32) (M : xMem) (post : xMem → Prop)  (h : wX12_begins a0 M post) : xMet (WM g) l yX12_begins cX12_begins 2 none (rm_X12_begins) [.ref (ga g 0), .int a0] M (pV post) := by
  refine x_enter (own := RX12) (L0 := [(0, .ref (ga g 0)), (1, .int a0)]) (by decide +kernel) rfl hg (x_stM g) (Nat.le_of_ble_eq_true rfl) rfl (fun x hl C => ?_)
  unfold wX12_begins at h
  refine x_aload_n C 0 rfl rfl dX12_begins_0 ?_
  refine x_iconst C (v1 := 0) dX12_begins_1 (by decide) ?_
  refine x_put C (c := 0) (ci := 12) (k1 := 1) (u1 := 0) (v1 := .int 0) (ty := .int) (enM_12 (c := 0) rfl) (Nat.le_of_ble_eq_true rfl) rfl inX12 (by decide) (stX12_1 _ _ _) tyX12 tyX12_ok nmX12 wf_X12_198 rfl rfl rfl rfl (Nat.le_of_ble_eq_true rfl) dX12_begins_2 ?_
  refine x_nmM (fun M1 eM1 => ?_)
  replace h := h M1 eM1
  refine x_aload_n C 0 rfl rfl dX12_begins_5 ?_
  refine x_iconst C (v1 := 0) dX12_begins_6 (by decide) ?_
  refine x_put C (c := 0) (ci := 12) (k1 := 3) (u1 := 0) (v1 := .int 0) (ty := .int) (enM_12 (c := 0) rfl) (Nat.le_of_ble_eq_true rfl) rfl inX12 (by decide) (stX12_3 _ _ _) tyX12 tyX12_ok nmX12 wf_X12_205 rfl rfl rfl rfl (Nat.le_of_ble_eq_true rfl) dX12_begins_7 ?_
  refine x_nmM (fun M2 eM2 => ?_)
  replace h := h M2 eM2
  refine x_aload_n C 0 rfl rfl dX12_begins_10 ?_
  refine x_iload_n C 1 rfl rfl dX12_begins_11 ?_
  refine x_put C (c := 0) (ci := 12) (k1 := 4) (u1 := a0) (v1 := .int a0) (ty := .int) (enM_12 (c := 0) rfl) (Nat.le_of_ble_eq_true rfl) rfl inX12 (by decide) (stX12_4 _ _ _) tyX12 tyX12_ok nmX12 wf_X12_208 rfl rfl rfl rfl (Nat.le_of_ble_eq_true rfl) dX12_begins_12 ?_
  refine x_nmM (fun M3 eM3 => ?_)
  replace h := h M3 eM3
  refine x_aload_n C 0 rfl rfl dX12_begins_15 ?_
  refine x_iconst C (v1 := 0) dX12_begins_16 (by decide) ?_
  refine x_put C (c := 0) (ci := 12) (k1 := 5) (u1 := 0) (v1 := .int 0) (ty := .int) (enM_12 (c := 0) rfl) (Nat.le_of_ble_eq_true rfl) rfl inX12 (by decide) (stX12_5 _ _ _) tyX12 tyX12_ok nmX12 wf_X12_211 rfl rfl rfl rfl (Nat.le_of_ble_eq_true rfl) dX12_begins_17 ?_
  refine x_nmM (fun M4 eM4 => ?_)
  replace h := h M4 eM4
  exact x_vret C dX12_begins_20 ⟨rfl, h⟩
set_option maxHeartbeats 4000000 in
set_option maxRecDepth 100000 in
theorem tX12_repeats_38 {g : xG} (hg : x_inj (WM g))  {x : xCx}   {post : xMem → Prop} (C : xOk (WM g) x cX12_repeats RX12 6 none (rm_X12_repeats) (pV post))   : ∀ (n : Nat) (x1 : Int32) (x2 : Int32) (x4 : Int32) (x5 : Int32) (M : xMem), wX12_repeats_38 post n x1 x2 x4 x5 M → xW (WM g) x 6 38 [(0, .ref (ga g 0)), (1, .int x1), (2, .int x2), (4, .int x4), (5, .int x5)] [] M := by
  intro n
  induction n with
  | zero =>
    intro x1 x2 x4 x5 M  h
    exact h.elim
  | succ n ih =>
    intro x1 x2 x4 x5 M  h
    rw [wX12_repeats_38] at h
    refine x_iload C 4 rfl dX12_repeats_38 ?_
    refine x_iload C 3 rfl dX12_repeats_40 ?_
    refine x_iload_n C 2 rfl rfl dX12_repeats_42 ?_
    refine x_imul C dX12_repeats_43 ?_
    refine x_icmp_ge C (tgt := 74) dX12_repeats_44 (by decide) (fun hq1 => ?_) (fun hq1 => ?_)
    · replace h := x_ift hq1 h
      refine x_aload_n C 0 rfl rfl dX12_repeats_74 ?_
      refine x_iload_n C 1 rfl rfl dX12_repeats_75 ?_
      refine x_iload C 3 rfl dX12_repeats_76 ?_
      refine x_iload_n C 2 rfl rfl dX12_repeats_78 ?_
      refine x_imul C dX12_repeats_79 ?_
      refine x_iadd C dX12_repeats_80 ?_
      refine x_put C (c := 0) (ci := 12) (k1 := 14) (u1 := (x1 + (x4 * x2))) (v1 := .int (x1 + (x4 * x2))) (ty := .int) (enM_12 (c := 0) rfl) (Nat.le_of_ble_eq_true rfl) rfl inX12 (by decide) (stX12_14 _ _ _) tyX12 tyX12_ok nmX12 wf_X12_226 rfl rfl rfl rfl (Nat.le_of_ble_eq_true rfl) dX12_repeats_81 ?_
      refine x_nmM (fun M2 eM2 => ?_)
      replace h := h M2 eM2
      exact x_vret C dX12_repeats_84 ⟨rfl, h⟩
    · replace h := x_iff hq1 h
      refine x_aload_n C 0 rfl rfl dX12_repeats_47 ?_
      refine x_get C (c := 0) (ci := 12) (k1 := 13) (v1 := .ref (ga g 5)) (enM_12 (c := 0) rfl) (Nat.le_of_ble_eq_true rfl) rfl inX12 (by decide) wf_X12_28 rfl dX12_repeats_48 ?_
      refine x_iload_n C 1 rfl rfl dX12_repeats_51 ?_
      refine x_iload C 4 rfl dX12_repeats_52 ?_
      refine x_iadd C dX12_repeats_54 ?_
      refine x_aload_n C 0 rfl rfl dX12_repeats_55 ?_
      refine x_get C (c := 0) (ci := 12) (k1 := 13) (v1 := .ref (ga g 5)) (enM_12 (c := 0) rfl) (Nat.le_of_ble_eq_true rfl) rfl inX12 (by decide) wf_X12_28 rfl dX12_repeats_56 ?_
      refine x_iload_n C 1 rfl rfl dX12_repeats_59 ?_
      refine x_iload C 4 rfl dX12_repeats_60 ?_
      refine x_iload C 3 rfl dX12_repeats_62 ?_
      obtain ⟨hz3, h⟩ := h
      refine x_irem C hz3 dX12_repeats_64 ?_
      refine x_iadd C dX12_repeats_65 ?_
      obtain ⟨hi4, h⟩ := h
      refine x_iald C 0 (c := 5) (enM_20n (c := 5) (n := 72) rfl rfl) (Nat.le_of_ble_eq_true rfl) rfl hi4 dX12_repeats_66 ?_
      obtain ⟨hi5, h⟩ := h
      refine x_iast C 0 (c := 5) (enM_20n (c := 5) (n := 72) rfl rfl) (Nat.le_of_ble_eq_true rfl) rfl hi5 dX12_repeats_67 ?_
      refine x_nmM (fun M6 eM6 => ?_)
      replace h := h M6 eM6
      obtain ⟨v7, ev7⟩ : ∃ z : Int32, z = x5 + 1 := ⟨_, rfl⟩
      replace h := h v7 ev7
      refine x_iinc C 4 (v1 := v7) (L' := [(5, .int v7), (0, .ref (ga g 0)), (1, .int x1), (2, .int x2), (4, .int x4)]) rfl (by rw [ev7]; rfl) rfl (Nat.le_of_ble_eq_true rfl) dX12_repeats_68 ?_
      refine x_goto C (tgt := 38) dX12_repeats_71 (by decide) ?_
      refine x_loc (L' := [(0, .ref (ga g 0)), (1, .int x1), (2, .int x2), (4, .int x4), (5, .int v7)]) [1, 2, 3, 4, 0] rfl ?_
      exact ih _ _ _ _ _  h
set_option maxHeartbeats 4000000 in
set_option maxRecDepth 100000 in
theorem tX12_repeats_26 {g : xG} (hg : x_inj (WM g))  {x : xCx}   {post : xMem → Prop} (C : xOk (WM g) x cX12_repeats RX12 6 none (rm_X12_repeats) (pV post))   (x1 : Int32) (x2 : Int32) (x4 : Int32) (M : xMem)  (h : wX12_repeats_26 post x1 x2 x4 M) : xW (WM g) x 6 26 [(0, .ref (ga g 0)), (1, .int x1), (2, .int x2), (4, .int x4)] [] M := by
  unfold wX12_repeats_26 at h
  refine x_aload_n C 0 rfl rfl dX12_repeats_26 ?_
  refine x_callV C (st := []) (As := []) (c := 0) (ci := 12) (enM_12 (c := 0) rfl) (Nat.le_of_ble_eq_true rfl) rfl (tX12_isGood hg _  _ _  h) wm_X12_233 wi_X12_isGood wv_X12_isGood wz_X12 wc_X12_isGood rfl yd_X12_isGood rfl ⟨rfl, rfl⟩ ⟨Nat.le_of_ble_eq_true rfl, Nat.le_of_ble_eq_true rfl⟩ (Nat.le_of_ble_eq_true rfl) rfl dX12_repeats_27 (x_ki (fun r2 M1 h => ?_))
  refine x_if_ne C (tgt := 34) dX12_repeats_30 (by decide) (fun hq3 => ?_) (fun hq3 => ?_)
  · replace h := x_iff hq3 h
    refine x_iload C 3 rfl dX12_repeats_34 ?_
    refine x_istore C (L' := [(5, .int x4), (0, .ref (ga g 0)), (1, .int x1), (2, .int x2), (4, .int x4)]) rfl (Nat.le_of_ble_eq_true rfl) dX12_repeats_36 ?_
    refine x_loc (L' := [(0, .ref (ga g 0)), (1, .int x1), (2, .int x2), (4, .int x4), (5, .int x4)]) [1, 2, 3, 4, 0] rfl ?_
    obtain ⟨n38, h⟩ := h
    exact tX12_repeats_38 hg  C   _ _ _ _ _ _  h
  · replace h := x_ift hq3 h
    exact x_vret C dX12_repeats_33 ⟨rfl, h⟩
set_option maxHeartbeats 4000000 in
set_option maxRecDepth 100000 in
theorem tX12_repeats {g : xG} (hg : x_inj (WM g))  (l : Launch) (a0 : Int32) (a1 : Int32) (a2 : Int32) (M : xMem) (post : xMem → Prop)  (h : wX12_repeats a0 a1 a2 M post) : xMet (WM g) l yX12_repeats cX12_repeats 6 none (rm_X12_repeats) [.ref (ga g 0), .int a0, .int a1, .int a2] M (pV post) := by
  refine x_enter (own := RX12) (L0 := [(0, .ref (ga g 0)), (1, .int a0), (2, .int a1), (3, .int a2)]) (by decide +kernel) rfl hg (x_stM g) (Nat.le_of_ble_eq_true rfl) rfl (fun x hl C => ?_)
  unfold wX12_repeats at h
  refine x_aload_n C 0 rfl rfl dX12_repeats_0 ?_
  refine x_get C (c := 0) (ci := 12) (k1 := 14) (v1 := .int (gi M 0 14)) (enM_12 (c := 0) rfl) (Nat.le_of_ble_eq_true rfl) rfl inX12 (by decide) wf_X12_226 rfl dX12_repeats_1 ?_
  refine x_iload_n C 1 rfl rfl dX12_repeats_4 ?_
  refine x_isub C dX12_repeats_5 ?_
  refine x_nm (fun v1 ev1 => ?_)
  replace h := h v1 ev1
  refine x_istore C (L' := [(4, .int v1), (0, .ref (ga g 0)), (1, .int a0), (2, .int a1), (3, .int a2)]) rfl (Nat.le_of_ble_eq_true rfl) dX12_repeats_6 ?_
  refine x_iload_n C 2 rfl rfl dX12_repeats_8 ?_
  refine x_iload C 0 rfl dX12_repeats_9 ?_
  refine x_iload_n C 3 rfl rfl dX12_repeats_11 ?_
  refine x_imul C dX12_repeats_12 ?_
  refine x_iadd C dX12_repeats_13 ?_
  refine x_bipush C (v1 := 72) dX12_repeats_14 (by decide) ?_
  refine x_icmp_le C (tgt := 26) dX12_repeats_16 (by decide) (fun hq2 => ?_) (fun hq2 => ?_)
  · replace h := x_ift hq2 h
    refine x_loc (L' := [(0, .ref (ga g 0)), (1, .int a0), (2, .int a1), (4, .int v1)]) [1, 2, 3, 0] rfl ?_
    exact tX12_repeats_26 hg  C   _ _ _ _  h
  · replace h := x_iff hq2 h
    refine x_aload_n C 1 rfl rfl dX12_repeats_19 ?_
    refine x_bipush C (v1 := 6) dX12_repeats_20 (by decide) ?_
    refine x_iload_n C 4 rfl rfl dX12_repeats_22 ?_
    refine x_callV C (st := []) (As := [.int 6, .int a2]) (c := 0) (ci := 12) (enM_12 (c := 0) rfl) (Nat.le_of_ble_eq_true rfl) rfl (tX12_wrongs hg _ _ _ _ _  h) wm_X12_229 wi_X12_wrongs wv_X12_wrongs wz_X12 wc_X12_wrongs rfl yd_X12_wrongs rfl ⟨rfl, rfl⟩ ⟨Nat.le_of_ble_eq_true rfl, Nat.le_of_ble_eq_true rfl⟩ (Nat.le_of_ble_eq_true rfl) rfl dX12_repeats_23 (x_kv (fun M3 h => ?_))
    refine x_loc (L' := [(0, .ref (ga g 0)), (1, .int a0), (2, .int a1), (4, .int v1)]) [1, 2, 3, 0] rfl ?_
    exact tX12_repeats_26 hg  C   _ _ _ _  h
set_option maxHeartbeats 4000000 in
set_option maxRecDepth 100000 in
theorem tX12_timesTold {g : xG} (hg : x_inj (WM g))  (l : Launch)  (M : xMem) (post : Int32 → xMem → Prop)  (h : wX12_timesTold  M post) : xMet (WM g) l yX12_timesTold cX12_timesTold 1 (some .int) (rm_X12_timesTold) [.ref (ga g 0)] M (pI post) := by
  refine x_enter (own := RX12) (L0 := [(0, .ref (ga g 0))]) (by decide +kernel) rfl hg (x_stM g) (Nat.le_of_ble_eq_true rfl) rfl (fun x hl C => ?_)
  unfold wX12_timesTold at h
  refine x_aload_n C 0 rfl rfl dX12_timesTold_0 ?_
  refine x_callV C (st := []) (As := []) (c := 0) (ci := 12) (enM_12 (c := 0) rfl) (Nat.le_of_ble_eq_true rfl) rfl (tX12_here hg _  _ _  h) wm_X12_214 wi_X12_here wv_X12_here wz_X12 wc_X12_here rfl yd_X12_here rfl ⟨rfl, rfl⟩ ⟨Nat.le_of_ble_eq_true rfl, Nat.le_of_ble_eq_true rfl⟩ (Nat.le_of_ble_eq_true rfl) rfl dX12_timesTold_1 (x_ki (fun r2 M1 h => ?_))
  refine x_i2l C dX12_timesTold_4 ?_
  refine x_ldc2 C (v1 := 50) (wcl_X12_237) dX12_timesTold_5 ?_
  refine x_ldc2 C (v1 := 57) (wcl_X12_220) dX12_timesTold_8 ?_
  refine x_callS C (st := []) (As := [.long ((r2 : Int32).toInt64), .long 50, .long 57]) (tX12_lies hg _ _ _ _ _ _  h) wm_X12_222 wsm_X12_lies wz_X12 wc_X12_lies yd_X12_lies rfl ⟨rfl, rfl⟩ ⟨Nat.le_of_ble_eq_true rfl, Nat.le_of_ble_eq_true rfl⟩ (Nat.le_of_ble_eq_true rfl) rfl dX12_timesTold_11 (x_ki (fun r4 M3 h => ?_))
  refine x_if_ne C (tgt := 19) dX12_timesTold_14 (by decide) (fun hq5 => ?_) (fun hq5 => ?_)
  · replace h := x_iff hq5 h
    refine x_aload_n C 0 rfl rfl dX12_timesTold_19 ?_
    refine x_dup C rfl dX12_timesTold_20 ?_
    refine x_get C (c := 0) (ci := 12) (k1 := 3) (v1 := .int (gi M3 0 3)) (enM_12 (c := 0) rfl) (Nat.le_of_ble_eq_true rfl) rfl inX12 (by decide) wf_X12_205 rfl dX12_timesTold_21 ?_
    refine x_iconst C (v1 := 1) dX12_timesTold_24 (by decide) ?_
    refine x_iadd C dX12_timesTold_25 ?_
    refine x_put C (c := 0) (ci := 12) (k1 := 3) (u1 := ((gi M3 0 3) + 1)) (v1 := .int ((gi M3 0 3) + 1)) (ty := .int) (enM_12 (c := 0) rfl) (Nat.le_of_ble_eq_true rfl) rfl inX12 (by decide) (stX12_3 _ _ _) tyX12 tyX12_ok nmX12 wf_X12_205 rfl rfl rfl rfl (Nat.le_of_ble_eq_true rfl) dX12_timesTold_26 ?_
    refine x_nmM (fun M6 eM6 => ?_)
    replace h := h M6 eM6
    refine x_aload_n C 0 rfl rfl dX12_timesTold_29 ?_
    refine x_get C (c := 0) (ci := 12) (k1 := 0) (v1 := .ref (ga g 1)) (enM_12 (c := 0) rfl) (Nat.le_of_ble_eq_true rfl) rfl inX12 (by decide) wf_X12_7 rfl dX12_timesTold_30 ?_
    refine x_aload_n C 0 rfl rfl dX12_timesTold_33 ?_
    refine x_get C (c := 0) (ci := 12) (k1 := 3) (v1 := .int (gi M6 0 3)) (enM_12 (c := 0) rfl) (Nat.le_of_ble_eq_true rfl) rfl inX12 (by decide) wf_X12_205 rfl dX12_timesTold_34 ?_
    refine x_iconst C (v1 := 1) dX12_timesTold_37 (by decide) ?_
    refine x_isub C dX12_timesTold_38 ?_
    obtain ⟨hi7, h⟩ := h
    refine x_bald C 1 (c := 1) (enM_23n (c := 1) (n := 260) rfl rfl) (Nat.le_of_ble_eq_true rfl) rfl hi7 dX12_timesTold_39 ?_
    refine x_bipush C (v1 := 48) dX12_timesTold_40 (by decide) ?_
    refine x_isub C dX12_timesTold_42 ?_
    exact x_iret C dX12_timesTold_43 ⟨_, rfl, h⟩
  · replace h := x_ift hq5 h
    refine x_iconst C (v1 := 1) dX12_timesTold_17 (by decide) ?_
    exact x_iret C dX12_timesTold_18 ⟨_, rfl, h⟩
set_option maxHeartbeats 4000000 in
set_option maxRecDepth 100000 in
theorem tX12_turnBy {g : xG} (hg : x_inj (WM g))  (l : Launch) (a0 : Int32) (M : xMem) (post : Int32 → xMem → Prop)  (h : wX12_turnBy a0 M post) : xMet (WM g) l yX12_turnBy cX12_turnBy 1 (some .int) (rm_X12_turnBy) [.int a0] M (pI post) := by
  refine x_enter (own := RX12) (L0 := [(0, .int a0)]) (by decide +kernel) rfl hg (x_stM g) (Nat.le_of_ble_eq_true rfl) rfl (fun x hl C => ?_)
  unfold wX12_turnBy at h
  refine x_iload_n C 0 rfl rfl dX12_turnBy_0 ?_
  refine x_i2l C dX12_turnBy_1 ?_
  refine x_ldc2 C (v1 := 97) (wcl_X12_239) dX12_turnBy_2 ?_
  refine x_ldc2 C (v1 := 106) (wcl_X12_241) dX12_turnBy_5 ?_
  refine x_callS C (st := []) (As := [.long ((a0 : Int32).toInt64), .long 97, .long 106]) (tX12_lies hg _ _ _ _ _ _  h) wm_X12_222 wsm_X12_lies wz_X12 wc_X12_lies yd_X12_lies rfl ⟨rfl, rfl⟩ ⟨Nat.le_of_ble_eq_true rfl, Nat.le_of_ble_eq_true rfl⟩ (Nat.le_of_ble_eq_true rfl) rfl dX12_turnBy_8 (x_ki (fun r2 M1 h => ?_))
  refine x_if_eq C (tgt := 19) dX12_turnBy_11 (by decide) (fun hq3 => ?_) (fun hq3 => ?_)
  · replace h := x_ift hq3 h
    refine x_iload_n C 0 rfl rfl dX12_turnBy_19 ?_
    refine x_i2l C dX12_turnBy_20 ?_
    refine x_ldc2 C (v1 := 65) (wcl_X12_243) dX12_turnBy_21 ?_
    refine x_ldc2 C (v1 := 74) (wcl_X12_245) dX12_turnBy_24 ?_
    refine x_callS C (st := []) (As := [.long ((a0 : Int32).toInt64), .long 65, .long 74]) (tX12_lies hg _ _ _ _ _ _  h) wm_X12_222 wsm_X12_lies wz_X12 wc_X12_lies yd_X12_lies rfl ⟨rfl, rfl⟩ ⟨Nat.le_of_ble_eq_true rfl, Nat.le_of_ble_eq_true rfl⟩ (Nat.le_of_ble_eq_true rfl) rfl dX12_turnBy_27 (x_ki (fun r5 M4 h => ?_))
    refine x_if_eq C (tgt := 41) dX12_turnBy_30 (by decide) (fun hq6 => ?_) (fun hq6 => ?_)
    · replace h := x_ift hq6 h
      refine x_iload_n C 0 rfl rfl dX12_turnBy_41 ?_
      refine x_bipush C (v1 := 42) dX12_turnBy_42 (by decide) ?_
      refine x_icmp_ne C (tgt := 52) dX12_turnBy_44 (by decide) (fun hq7 => ?_) (fun hq7 => ?_)
      · replace h := x_iff hq7 h
        refine x_iload_n C 0 rfl rfl dX12_turnBy_52 ?_
        refine x_bipush C (v1 := 46) dX12_turnBy_53 (by decide) ?_
        refine x_icmp_ne C (tgt := 63) dX12_turnBy_55 (by decide) (fun hq8 => ?_) (fun hq8 => ?_)
        · replace h := x_iff hq8 h
          refine x_iconst C (v1 := (-1)) dX12_turnBy_63 (by decide) ?_
          exact x_iret C dX12_turnBy_64 ⟨_, rfl, h⟩
        · replace h := x_ift hq8 h
          refine x_bipush C (v1 := 21) dX12_turnBy_58 (by decide) ?_
          refine x_goto C (tgt := 64) dX12_turnBy_60 (by decide) ?_
          exact x_iret C dX12_turnBy_64 ⟨_, rfl, h⟩
      · replace h := x_ift hq7 h
        refine x_bipush C (v1 := 20) dX12_turnBy_47 (by decide) ?_
        refine x_goto C (tgt := 64) dX12_turnBy_49 (by decide) ?_
        exact x_iret C dX12_turnBy_64 ⟨_, rfl, h⟩
    · replace h := x_iff hq6 h
      refine x_iload_n C 0 rfl rfl dX12_turnBy_33 ?_
      refine x_bipush C (v1 := 65) dX12_turnBy_34 (by decide) ?_
      refine x_isub C dX12_turnBy_36 ?_
      refine x_bipush C (v1 := 10) dX12_turnBy_37 (by decide) ?_
      refine x_iadd C dX12_turnBy_39 ?_
      exact x_iret C dX12_turnBy_40 ⟨_, rfl, h⟩
  · replace h := x_iff hq3 h
    refine x_iload_n C 0 rfl rfl dX12_turnBy_14 ?_
    refine x_bipush C (v1 := 97) dX12_turnBy_15 (by decide) ?_
    refine x_isub C dX12_turnBy_17 ?_
    exact x_iret C dX12_turnBy_18 ⟨_, rfl, h⟩
set_option maxHeartbeats 4000000 in
set_option maxRecDepth 100000 in
theorem tX12_turnTold_229 {g : xG} (hg : x_inj (WM g))  {x : xCx}   {post : xMem → Prop} (C : xOk (WM g) x cX12_turnTold RX12 4 none (rm_X12_turnTold) (pV post))   : ∀ (n : Nat) (x2 : Int32) (x3 : Int32) (M : xMem), wX12_turnTold_229 post n x2 x3 M → xW (WM g) x 4 229 [(0, .ref (ga g 0)), (2, .int x2), (3, .int x3)] [] M := by
  intro n
  induction n with
  | zero =>
    intro x2 x3 M  h
    exact h.elim
  | succ n ih =>
    intro x2 x3 M  h
    rw [wX12_turnTold_229] at h
    refine x_iload_n C 2 rfl rfl dX12_turnTold_229 ?_
    refine x_iload_n C 1 rfl rfl dX12_turnTold_230 ?_
    refine x_icmp_ge C (tgt := 258) dX12_turnTold_231 (by decide) (fun hq1 => ?_) (fun hq1 => ?_)
    · replace h := x_ift hq1 h
      refine x_aload_n C 0 rfl rfl dX12_turnTold_258 ?_
      refine x_dup C rfl dX12_turnTold_259 ?_
      refine x_get C (c := 0) (ci := 12) (k1 := 14) (v1 := .int (gi M 0 14)) (enM_12 (c := 0) rfl) (Nat.le_of_ble_eq_true rfl) rfl inX12 (by decide) wf_X12_226 rfl dX12_turnTold_260 ?_
      refine x_iload_n C 1 rfl rfl dX12_turnTold_263 ?_
      refine x_iadd C dX12_turnTold_264 ?_
      refine x_put C (c := 0) (ci := 12) (k1 := 14) (u1 := ((gi M 0 14) + x2)) (v1 := .int ((gi M 0 14) + x2)) (ty := .int) (enM_12 (c := 0) rfl) (Nat.le_of_ble_eq_true rfl) rfl inX12 (by decide) (stX12_14 _ _ _) tyX12 tyX12_ok nmX12 wf_X12_226 rfl rfl rfl rfl (Nat.le_of_ble_eq_true rfl) dX12_turnTold_265 ?_
      refine x_nmM (fun M2 eM2 => ?_)
      replace h := h M2 eM2
      refine x_aload_n C 0 rfl rfl dX12_turnTold_268 ?_
      refine x_iconst C (v1 := 1) dX12_turnTold_269 (by decide) ?_
      refine x_put C (c := 0) (ci := 12) (k1 := 16) (u1 := 1) (v1 := .int 1) (ty := .boolean) (enM_12 (c := 0) rfl) (Nat.le_of_ble_eq_true rfl) rfl inX12 (by decide) (stX12_16 _ _ _) tyX12 tyX12_ok nmX12 wf_X12_250 rfl rfl rfl rfl (Nat.le_of_ble_eq_true rfl) dX12_turnTold_270 ?_
      refine x_nmM (fun M3 eM3 => ?_)
      replace h := h M3 eM3
      refine x_aload_n C 0 rfl rfl dX12_turnTold_273 ?_
      refine x_dup C rfl dX12_turnTold_274 ?_
      refine x_get C (c := 0) (ci := 12) (k1 := 3) (v1 := .int (gi M3 0 3)) (enM_12 (c := 0) rfl) (Nat.le_of_ble_eq_true rfl) rfl inX12 (by decide) wf_X12_205 rfl dX12_turnTold_275 ?_
      refine x_iconst C (v1 := 1) dX12_turnTold_278 (by decide) ?_
      refine x_iadd C dX12_turnTold_279 ?_
      refine x_put C (c := 0) (ci := 12) (k1 := 3) (u1 := ((gi M3 0 3) + 1)) (v1 := .int ((gi M3 0 3) + 1)) (ty := .int) (enM_12 (c := 0) rfl) (Nat.le_of_ble_eq_true rfl) rfl inX12 (by decide) (stX12_3 _ _ _) tyX12 tyX12_ok nmX12 wf_X12_205 rfl rfl rfl rfl (Nat.le_of_ble_eq_true rfl) dX12_turnTold_280 ?_
      refine x_nmM (fun M4 eM4 => ?_)
      replace h := h M4 eM4
      exact x_vret C dX12_turnTold_283 ⟨rfl, h⟩
    · replace h := x_iff hq1 h
      refine x_aload_n C 0 rfl rfl dX12_turnTold_234 ?_
      refine x_get C (c := 0) (ci := 12) (k1 := 13) (v1 := .ref (ga g 5)) (enM_12 (c := 0) rfl) (Nat.le_of_ble_eq_true rfl) rfl inX12 (by decide) wf_X12_28 rfl dX12_turnTold_235 ?_
      refine x_aload_n C 0 rfl rfl dX12_turnTold_238 ?_
      refine x_get C (c := 0) (ci := 12) (k1 := 14) (v1 := .int (gi M 0 14)) (enM_12 (c := 0) rfl) (Nat.le_of_ble_eq_true rfl) rfl inX12 (by decide) wf_X12_226 rfl dX12_turnTold_239 ?_
      refine x_iload_n C 2 rfl rfl dX12_turnTold_242 ?_
      refine x_iadd C dX12_turnTold_243 ?_
      refine x_aload_n C 0 rfl rfl dX12_turnTold_244 ?_
      refine x_callV C (st := [.int ((gi M 0 14) + x3), .ref (ga g 5)]) (As := []) (c := 0) (ci := 12) (enM_12 (c := 0) rfl) (Nat.le_of_ble_eq_true rfl) rfl (tX12_here hg _  _ _  h) wm_X12_214 wi_X12_here wv_X12_here wz_X12 wc_X12_here rfl yd_X12_here rfl ⟨rfl, rfl⟩ ⟨Nat.le_of_ble_eq_true rfl, Nat.le_of_ble_eq_true rfl⟩ (Nat.le_of_ble_eq_true rfl) rfl dX12_turnTold_245 (x_ki (fun r6 M5 h => ?_))
      refine x_callS C (st := [.int ((gi M 0 14) + x3), .ref (ga g 5)]) (As := [.int r6]) (tX12_turnBy hg _ _ _ _  h) wm_X12_261 wsm_X12_turnBy wz_X12 wc_X12_turnBy yd_X12_turnBy rfl ⟨rfl, rfl⟩ ⟨Nat.le_of_ble_eq_true rfl, Nat.le_of_ble_eq_true rfl⟩ (Nat.le_of_ble_eq_true rfl) rfl dX12_turnTold_248 (x_ki (fun r8 M7 h => ?_))
      obtain ⟨hi9, h⟩ := h
      refine x_iast C 0 (c := 5) (enM_20n (c := 5) (n := 72) rfl rfl) (Nat.le_of_ble_eq_true rfl) rfl hi9 dX12_turnTold_251 ?_
      refine x_nmM (fun M10 eM10 => ?_)
      replace h := h M10 eM10
      obtain ⟨v11, ev11⟩ : ∃ z : Int32, z = x3 + 1 := ⟨_, rfl⟩
      replace h := h v11 ev11
      refine x_iinc C 2 (v1 := v11) (L' := [(3, .int v11), (0, .ref (ga g 0)), (2, .int x2)]) rfl (by rw [ev11]; rfl) rfl (Nat.le_of_ble_eq_true rfl) dX12_turnTold_252 ?_
      refine x_goto C (tgt := 229) dX12_turnTold_255 (by decide) ?_
      refine x_loc (L' := [(0, .ref (ga g 0)), (2, .int x2), (3, .int v11)]) [1, 2, 0] rfl ?_
      exact ih _ _ _  h
set_option maxHeartbeats 4000000 in
set_option maxRecDepth 100000 in
theorem tX12_turnTold_219 {g : xG} (hg : x_inj (WM g))  {x : xCx}   {post : xMem → Prop} (C : xOk (WM g) x cX12_turnTold RX12 4 none (rm_X12_turnTold) (pV post))   (x2 : Int32) (M : xMem)  (h : wX12_turnTold_219 post x2 M) : xW (WM g) x 4 219 [(0, .ref (ga g 0)), (2, .int x2)] [] M := by
  unfold wX12_turnTold_219 at h
  refine x_aload_n C 0 rfl rfl dX12_turnTold_219 ?_
  refine x_callV C (st := []) (As := []) (c := 0) (ci := 12) (enM_12 (c := 0) rfl) (Nat.le_of_ble_eq_true rfl) rfl (tX12_isGood hg _  _ _  h) wm_X12_233 wi_X12_isGood wv_X12_isGood wz_X12 wc_X12_isGood rfl yd_X12_isGood rfl ⟨rfl, rfl⟩ ⟨Nat.le_of_ble_eq_true rfl, Nat.le_of_ble_eq_true rfl⟩ (Nat.le_of_ble_eq_true rfl) rfl dX12_turnTold_220 (x_ki (fun r2 M1 h => ?_))
  refine x_if_ne C (tgt := 227) dX12_turnTold_223 (by decide) (fun hq3 => ?_) (fun hq3 => ?_)
  · replace h := x_iff hq3 h
    refine x_iconst C (v1 := 0) dX12_turnTold_227 (by decide) ?_
    refine x_istore_n C (L' := [(3, .int 0), (0, .ref (ga g 0)), (2, .int x2)]) rfl rfl (Nat.le_of_ble_eq_true rfl) dX12_turnTold_228 ?_
    refine x_loc (L' := [(0, .ref (ga g 0)), (2, .int x2), (3, .int 0)]) [1, 2, 0] rfl ?_
    obtain ⟨n229, h⟩ := h
    exact tX12_turnTold_229 hg  C   _ _ _ _  h
  · replace h := x_ift hq3 h
    exact x_vret C dX12_turnTold_226 ⟨rfl, h⟩
set_option maxHeartbeats 4000000 in
set_option maxRecDepth 100000 in
theorem tX12_turnTold_111 {g : xG} (hg : x_inj (WM g))  {x : xCx}   {post : xMem → Prop} (C : xOk (WM g) x cX12_turnTold RX12 4 none (rm_X12_turnTold) (pV post))   (x1 : Int32) (x2 : Int32) (M : xMem)  (h : wX12_turnTold_111 post x1 x2 M) : xW (WM g) x 4 111 [(0, .ref (ga g 0)), (1, .int x1), (2, .int x2)] [] M := by
  unfold wX12_turnTold_111 at h
  refine x_aload_n C 0 rfl rfl dX12_turnTold_111 ?_
  refine x_callV C (st := []) (As := []) (c := 0) (ci := 12) (enM_12 (c := 0) rfl) (Nat.le_of_ble_eq_true rfl) rfl (tX12_isGood hg _  _ _  h) wm_X12_233 wi_X12_isGood wv_X12_isGood wz_X12 wc_X12_isGood rfl yd_X12_isGood rfl ⟨rfl, rfl⟩ ⟨Nat.le_of_ble_eq_true rfl, Nat.le_of_ble_eq_true rfl⟩ (Nat.le_of_ble_eq_true rfl) rfl dX12_turnTold_112 (x_ki (fun r2 M1 h => ?_))
  refine x_if_ne C (tgt := 119) dX12_turnTold_115 (by decide) (fun hq3 => ?_) (fun hq3 => ?_)
  · replace h := x_iff hq3 h
    refine x_aload_n C 0 rfl rfl dX12_turnTold_119 ?_
    refine x_get C (c := 0) (ci := 12) (k1 := 17) (v1 := .ref (ga g 6)) (enM_12 (c := 0) rfl) (Nat.le_of_ble_eq_true rfl) rfl inX12 (by decide) wf_X12_31 rfl dX12_turnTold_120 ?_
    refine x_aload_n C 0 rfl rfl dX12_turnTold_123 ?_
    refine x_get C (c := 0) (ci := 12) (k1 := 15) (v1 := .int (gi M1 0 15)) (enM_12 (c := 0) rfl) (Nat.le_of_ble_eq_true rfl) rfl inX12 (by decide) wf_X12_247 rfl dX12_turnTold_124 ?_
    refine x_aload_n C 0 rfl rfl dX12_turnTold_127 ?_
    refine x_get C (c := 0) (ci := 12) (k1 := 14) (v1 := .int (gi M1 0 14)) (enM_12 (c := 0) rfl) (Nat.le_of_ble_eq_true rfl) rfl inX12 (by decide) wf_X12_226 rfl dX12_turnTold_128 ?_
    obtain ⟨hi4, h⟩ := h
    refine x_iast C 0 (c := 6) (enM_20n (c := 6) (n := 2) rfl rfl) (Nat.le_of_ble_eq_true rfl) rfl hi4 dX12_turnTold_131 ?_
    refine x_nmM (fun M5 eM5 => ?_)
    replace h := h M5 eM5
    refine x_aload_n C 0 rfl rfl dX12_turnTold_132 ?_
    refine x_get C (c := 0) (ci := 12) (k1 := 18) (v1 := .ref (ga g 7)) (enM_12 (c := 0) rfl) (Nat.le_of_ble_eq_true rfl) rfl inX12 (by decide) wf_X12_34 rfl dX12_turnTold_133 ?_
    refine x_aload_n C 0 rfl rfl dX12_turnTold_136 ?_
    refine x_get C (c := 0) (ci := 12) (k1 := 15) (v1 := .int (gi M5 0 15)) (enM_12 (c := 0) rfl) (Nat.le_of_ble_eq_true rfl) rfl inX12 (by decide) wf_X12_247 rfl dX12_turnTold_137 ?_
    refine x_iload_n C 2 rfl rfl dX12_turnTold_140 ?_
    obtain ⟨hi6, h⟩ := h
    refine x_iast C 0 (c := 7) (enM_20n (c := 7) (n := 2) rfl rfl) (Nat.le_of_ble_eq_true rfl) rfl hi6 dX12_turnTold_141 ?_
    refine x_nmM (fun M7 eM7 => ?_)
    replace h := h M7 eM7
    refine x_aload_n C 0 rfl rfl dX12_turnTold_142 ?_
    refine x_get C (c := 0) (ci := 12) (k1 := 19) (v1 := .ref (ga g 8)) (enM_12 (c := 0) rfl) (Nat.le_of_ble_eq_true rfl) rfl inX12 (by decide) wf_X12_37 rfl dX12_turnTold_143 ?_
    refine x_aload_n C 0 rfl rfl dX12_turnTold_146 ?_
    refine x_get C (c := 0) (ci := 12) (k1 := 15) (v1 := .int (gi M7 0 15)) (enM_12 (c := 0) rfl) (Nat.le_of_ble_eq_true rfl) rfl inX12 (by decide) wf_X12_247 rfl dX12_turnTold_147 ?_
    refine x_iload_n C 1 rfl rfl dX12_turnTold_150 ?_
    obtain ⟨hi8, h⟩ := h
    refine x_iast C 0 (c := 8) (enM_20n (c := 8) (n := 2) rfl rfl) (Nat.le_of_ble_eq_true rfl) rfl hi8 dX12_turnTold_151 ?_
    refine x_nmM (fun M9 eM9 => ?_)
    replace h := h M9 eM9
    refine x_aload_n C 0 rfl rfl dX12_turnTold_152 ?_
    refine x_dup C rfl dX12_turnTold_153 ?_
    refine x_get C (c := 0) (ci := 12) (k1 := 15) (v1 := .int (gi M9 0 15)) (enM_12 (c := 0) rfl) (Nat.le_of_ble_eq_true rfl) rfl inX12 (by decide) wf_X12_247 rfl dX12_turnTold_154 ?_
    refine x_iconst C (v1 := 1) dX12_turnTold_157 (by decide) ?_
    refine x_iadd C dX12_turnTold_158 ?_
    refine x_put C (c := 0) (ci := 12) (k1 := 15) (u1 := ((gi M9 0 15) + 1)) (v1 := .int ((gi M9 0 15) + 1)) (ty := .int) (enM_12 (c := 0) rfl) (Nat.le_of_ble_eq_true rfl) rfl inX12 (by decide) (stX12_15 _ _ _) tyX12 tyX12_ok nmX12 wf_X12_247 rfl rfl rfl rfl (Nat.le_of_ble_eq_true rfl) dX12_turnTold_159 ?_
    refine x_nmM (fun M10 eM10 => ?_)
    replace h := h M10 eM10
    refine x_aload_n C 0 rfl rfl dX12_turnTold_162 ?_
    refine x_iconst C (v1 := 0) dX12_turnTold_163 (by decide) ?_
    refine x_put C (c := 0) (ci := 12) (k1 := 16) (u1 := 0) (v1 := .int 0) (ty := .boolean) (enM_12 (c := 0) rfl) (Nat.le_of_ble_eq_true rfl) rfl inX12 (by decide) (stX12_16 _ _ _) tyX12 tyX12_ok nmX12 wf_X12_250 rfl rfl rfl rfl (Nat.le_of_ble_eq_true rfl) dX12_turnTold_164 ?_
    refine x_nmM (fun M11 eM11 => ?_)
    replace h := h M11 eM11
    refine x_aload_n C 0 rfl rfl dX12_turnTold_167 ?_
    refine x_dup C rfl dX12_turnTold_168 ?_
    refine x_get C (c := 0) (ci := 12) (k1 := 3) (v1 := .int (gi M11 0 3)) (enM_12 (c := 0) rfl) (Nat.le_of_ble_eq_true rfl) rfl inX12 (by decide) wf_X12_205 rfl dX12_turnTold_169 ?_
    refine x_iconst C (v1 := 1) dX12_turnTold_172 (by decide) ?_
    refine x_iadd C dX12_turnTold_173 ?_
    refine x_put C (c := 0) (ci := 12) (k1 := 3) (u1 := ((gi M11 0 3) + 1)) (v1 := .int ((gi M11 0 3) + 1)) (ty := .int) (enM_12 (c := 0) rfl) (Nat.le_of_ble_eq_true rfl) rfl inX12 (by decide) (stX12_3 _ _ _) tyX12 tyX12_ok nmX12 wf_X12_205 rfl rfl rfl rfl (Nat.le_of_ble_eq_true rfl) dX12_turnTold_174 ?_
    refine x_nmM (fun M12 eM12 => ?_)
    replace h := h M12 eM12
    exact x_vret C dX12_turnTold_177 ⟨rfl, h⟩
  · replace h := x_ift hq3 h
    exact x_vret C dX12_turnTold_118 ⟨rfl, h⟩
set_option maxHeartbeats 4000000 in
set_option maxRecDepth 100000 in
theorem tX12_turnTold_80 {g : xG} (hg : x_inj (WM g))  {x : xCx}   {post : xMem → Prop} (C : xOk (WM g) x cX12_turnTold RX12 4 none (rm_X12_turnTold) (pV post))   (x1 : Int32) (M : xMem)  (h : wX12_turnTold_80 post x1 M) : xW (WM g) x 4 80 [(0, .ref (ga g 0)), (1, .int x1)] [] M := by
  unfold wX12_turnTold_80 at h
  refine x_aload_n C 0 rfl rfl dX12_turnTold_80 ?_
  refine x_callV C (st := []) (As := []) (c := 0) (ci := 12) (enM_12 (c := 0) rfl) (Nat.le_of_ble_eq_true rfl) rfl (tX12_timesTold hg _  _ _  h) wm_X12_258 wi_X12_timesTold wv_X12_timesTold wz_X12 wc_X12_timesTold rfl yd_X12_timesTold rfl ⟨rfl, rfl⟩ ⟨Nat.le_of_ble_eq_true rfl, Nat.le_of_ble_eq_true rfl⟩ (Nat.le_of_ble_eq_true rfl) rfl dX12_turnTold_81 (x_ki (fun r2 M1 h => ?_))
  refine x_istore_n C (L' := [(2, .int r2), (0, .ref (ga g 0)), (1, .int x1)]) rfl rfl (Nat.le_of_ble_eq_true rfl) dX12_turnTold_84 ?_
  refine x_aload_n C 1 rfl rfl dX12_turnTold_85 ?_
  refine x_callV C (st := []) (As := []) (c := 0) (ci := 12) (enM_12 (c := 0) rfl) (Nat.le_of_ble_eq_true rfl) rfl (tX12_here hg _  _ _  h) wm_X12_214 wi_X12_here wv_X12_here wz_X12 wc_X12_here rfl yd_X12_here rfl ⟨rfl, rfl⟩ ⟨Nat.le_of_ble_eq_true rfl, Nat.le_of_ble_eq_true rfl⟩ (Nat.le_of_ble_eq_true rfl) rfl dX12_turnTold_86 (x_ki (fun r4 M3 h => ?_))
  refine x_bipush C (v1 := 40) dX12_turnTold_89 (by decide) ?_
  refine x_icmp_ne C (tgt := 178) dX12_turnTold_91 (by decide) (fun hq5 => ?_) (fun hq5 => ?_)
  · replace h := x_iff hq5 h
    refine x_aload_n C 1 rfl rfl dX12_turnTold_178 ?_
    refine x_callV C (st := []) (As := []) (c := 0) (ci := 12) (enM_12 (c := 0) rfl) (Nat.le_of_ble_eq_true rfl) rfl (tX12_here hg _  _ _  h) wm_X12_214 wi_X12_here wv_X12_here wz_X12 wc_X12_here rfl yd_X12_here rfl ⟨rfl, rfl⟩ ⟨Nat.le_of_ble_eq_true rfl, Nat.le_of_ble_eq_true rfl⟩ (Nat.le_of_ble_eq_true rfl) rfl dX12_turnTold_179 (x_ki (fun r7 M6 h => ?_))
    refine x_callS C (st := []) (As := [.int r7]) (tX12_turnBy hg _ _ _ _  h) wm_X12_261 wsm_X12_turnBy wz_X12 wc_X12_turnBy yd_X12_turnBy rfl ⟨rfl, rfl⟩ ⟨Nat.le_of_ble_eq_true rfl, Nat.le_of_ble_eq_true rfl⟩ (Nat.le_of_ble_eq_true rfl) rfl dX12_turnTold_182 (x_ki (fun r9 M8 h => ?_))
    refine x_iconst C (v1 := (-1)) dX12_turnTold_185 (by decide) ?_
    refine x_icmp_ne C (tgt := 201) dX12_turnTold_186 (by decide) (fun hq10 => ?_) (fun hq10 => ?_)
    · replace h := x_iff hq10 h
      refine x_aload_n C 1 rfl rfl dX12_turnTold_201 ?_
      refine x_get C (c := 0) (ci := 12) (k1 := 14) (v1 := .int (gi M8 0 14)) (enM_12 (c := 0) rfl) (Nat.le_of_ble_eq_true rfl) rfl inX12 (by decide) wf_X12_226 rfl dX12_turnTold_202 ?_
      refine x_iload_n C 0 rfl rfl dX12_turnTold_205 ?_
      refine x_iadd C dX12_turnTold_206 ?_
      refine x_bipush C (v1 := 72) dX12_turnTold_207 (by decide) ?_
      refine x_icmp_le C (tgt := 219) dX12_turnTold_209 (by decide) (fun hq11 => ?_) (fun hq11 => ?_)
      · replace h := x_ift hq11 h
        refine x_loc (L' := [(0, .ref (ga g 0)), (2, .int r2)]) [1, 0] rfl ?_
        exact tX12_turnTold_219 hg  C   _ _  h
      · replace h := x_iff hq11 h
        refine x_aload_n C 1 rfl rfl dX12_turnTold_212 ?_
        refine x_bipush C (v1 := 6) dX12_turnTold_213 (by decide) ?_
        refine x_iload_n C 2 rfl rfl dX12_turnTold_215 ?_
        refine x_callV C (st := []) (As := [.int 6, .int x1]) (c := 0) (ci := 12) (enM_12 (c := 0) rfl) (Nat.le_of_ble_eq_true rfl) rfl (tX12_wrongs hg _ _ _ _ _  h) wm_X12_229 wi_X12_wrongs wv_X12_wrongs wz_X12 wc_X12_wrongs rfl yd_X12_wrongs rfl ⟨rfl, rfl⟩ ⟨Nat.le_of_ble_eq_true rfl, Nat.le_of_ble_eq_true rfl⟩ (Nat.le_of_ble_eq_true rfl) rfl dX12_turnTold_216 (x_kv (fun M12 h => ?_))
        refine x_loc (L' := [(0, .ref (ga g 0)), (2, .int r2)]) [1, 0] rfl ?_
        exact tX12_turnTold_219 hg  C   _ _  h
    · replace h := x_ift hq10 h
      refine x_aload_n C 1 rfl rfl dX12_turnTold_189 ?_
      refine x_iconst C (v1 := 1) dX12_turnTold_190 (by decide) ?_
      refine x_aload_n C 1 rfl rfl dX12_turnTold_191 ?_
      refine x_get C (c := 0) (ci := 12) (k1 := 3) (v1 := .int (gi M8 0 3)) (enM_12 (c := 0) rfl) (Nat.le_of_ble_eq_true rfl) rfl inX12 (by decide) wf_X12_205 rfl dX12_turnTold_192 ?_
      refine x_callV C (st := []) (As := [.int 1, .int (gi M8 0 3)]) (c := 0) (ci := 12) (enM_12 (c := 0) rfl) (Nat.le_of_ble_eq_true rfl) rfl (tX12_wrongs hg _ _ _ _ _  h) wm_X12_229 wi_X12_wrongs wv_X12_wrongs wz_X12 wc_X12_wrongs rfl yd_X12_wrongs rfl ⟨rfl, rfl⟩ ⟨Nat.le_of_ble_eq_true rfl, Nat.le_of_ble_eq_true rfl⟩ (Nat.le_of_ble_eq_true rfl) rfl dX12_turnTold_195 (x_kv (fun M13 h => ?_))
      refine x_goto C (tgt := 219) dX12_turnTold_198 (by decide) ?_
      refine x_loc (L' := [(0, .ref (ga g 0)), (2, .int r2)]) [1, 0] rfl ?_
      exact tX12_turnTold_219 hg  C   _ _  h
  · replace h := x_ift hq5 h
    refine x_aload_n C 1 rfl rfl dX12_turnTold_94 ?_
    refine x_get C (c := 0) (ci := 12) (k1 := 15) (v1 := .int (gi M3 0 15)) (enM_12 (c := 0) rfl) (Nat.le_of_ble_eq_true rfl) rfl inX12 (by decide) wf_X12_247 rfl dX12_turnTold_95 ?_
    refine x_iconst C (v1 := 2) dX12_turnTold_98 (by decide) ?_
    refine x_icmp_ne C (tgt := 111) dX12_turnTold_99 (by decide) (fun hq14 => ?_) (fun hq14 => ?_)
    · replace h := x_iff hq14 h
      refine x_loc (L' := [(0, .ref (ga g 0)), (1, .int x1), (2, .int r2)]) [1, 2, 0] rfl ?_
      exact tX12_turnTold_111 hg  C   _ _ _  h
    · replace h := x_ift hq14 h
      refine x_aload_n C 1 rfl rfl dX12_turnTold_102 ?_
      refine x_iconst C (v1 := 5) dX12_turnTold_103 (by decide) ?_
      refine x_aload_n C 1 rfl rfl dX12_turnTold_104 ?_
      refine x_get C (c := 0) (ci := 12) (k1 := 3) (v1 := .int (gi M3 0 3)) (enM_12 (c := 0) rfl) (Nat.le_of_ble_eq_true rfl) rfl inX12 (by decide) wf_X12_205 rfl dX12_turnTold_105 ?_
      refine x_callV C (st := []) (As := [.int 5, .int (gi M3 0 3)]) (c := 0) (ci := 12) (enM_12 (c := 0) rfl) (Nat.le_of_ble_eq_true rfl) rfl (tX12_wrongs hg _ _ _ _ _  h) wm_X12_229 wi_X12_wrongs wv_X12_wrongs wz_X12 wc_X12_wrongs rfl yd_X12_wrongs rfl ⟨rfl, rfl⟩ ⟨Nat.le_of_ble_eq_true rfl, Nat.le_of_ble_eq_true rfl⟩ (Nat.le_of_ble_eq_true rfl) rfl dX12_turnTold_108 (x_kv (fun M15 h => ?_))
      refine x_loc (L' := [(0, .ref (ga g 0)), (1, .int x1), (2, .int r2)]) [1, 2, 0] rfl ?_
      exact tX12_turnTold_111 hg  C   _ _ _  h
set_option maxHeartbeats 4000000 in
set_option maxRecDepth 100000 in
theorem tX12_turnTold {g : xG} (hg : x_inj (WM g))  (l : Launch)  (M : xMem) (post : xMem → Prop)  (h : wX12_turnTold  M post) : xMet (WM g) l yX12_turnTold cX12_turnTold 4 none (rm_X12_turnTold) [.ref (ga g 0)] M (pV post) := by
  refine x_enter (own := RX12) (L0 := [(0, .ref (ga g 0))]) (by decide +kernel) rfl hg (x_stM g) (Nat.le_of_ble_eq_true rfl) rfl (fun x hl C => ?_)
  unfold wX12_turnTold at h
  refine x_aload_n C 0 rfl rfl dX12_turnTold_0 ?_
  refine x_get C (c := 0) (ci := 12) (k1 := 3) (v1 := .int (gi M 0 3)) (enM_12 (c := 0) rfl) (Nat.le_of_ble_eq_true rfl) rfl inX12 (by decide) wf_X12_205 rfl dX12_turnTold_1 ?_
  refine x_nm (fun v1 ev1 => ?_)
  replace h := h v1 ev1
  refine x_istore_n C (L' := [(1, .int v1), (0, .ref (ga g 0))]) rfl rfl (Nat.le_of_ble_eq_true rfl) dX12_turnTold_4 ?_
  refine x_aload_n C 1 rfl rfl dX12_turnTold_5 ?_
  refine x_callV C (st := []) (As := []) (c := 0) (ci := 12) (enM_12 (c := 0) rfl) (Nat.le_of_ble_eq_true rfl) rfl (tX12_here hg _  _ _  h) wm_X12_214 wi_X12_here wv_X12_here wz_X12 wc_X12_here rfl yd_X12_here rfl ⟨rfl, rfl⟩ ⟨Nat.le_of_ble_eq_true rfl, Nat.le_of_ble_eq_true rfl⟩ (Nat.le_of_ble_eq_true rfl) rfl dX12_turnTold_6 (x_ki (fun r3 M2 h => ?_))
  refine x_bipush C (v1 := 41) dX12_turnTold_9 (by decide) ?_
  refine x_icmp_ne C (tgt := 80) dX12_turnTold_11 (by decide) (fun hq4 => ?_) (fun hq4 => ?_)
  · replace h := x_iff hq4 h
    refine x_loc (L' := [(0, .ref (ga g 0)), (1, .int v1)]) [1, 0] rfl ?_
    exact tX12_turnTold_80 hg  C   _ _  h
  · replace h := x_ift hq4 h
    refine x_aload_n C 1 rfl rfl dX12_turnTold_14 ?_
    refine x_get C (c := 0) (ci := 12) (k1 := 15) (v1 := .int (gi M2 0 15)) (enM_12 (c := 0) rfl) (Nat.le_of_ble_eq_true rfl) rfl inX12 (by decide) wf_X12_247 rfl dX12_turnTold_15 ?_
    refine x_if_le C (tgt := 80) dX12_turnTold_18 (by decide) (fun hq5 => ?_) (fun hq5 => ?_)
    · replace h := x_ift hq5 h
      refine x_loc (L' := [(0, .ref (ga g 0)), (1, .int v1)]) [1, 0] rfl ?_
      exact tX12_turnTold_80 hg  C   _ _  h
    · replace h := x_iff hq5 h
      refine x_aload_n C 1 rfl rfl dX12_turnTold_21 ?_
      refine x_get C (c := 0) (ci := 12) (k1 := 16) (v1 := .int (gi M2 0 16)) (enM_12 (c := 0) rfl) (Nat.le_of_ble_eq_true rfl) rfl inX12 (by decide) wf_X12_250 rfl dX12_turnTold_22 ?_
      refine x_if_eq C (tgt := 80) dX12_turnTold_25 (by decide) (fun hq6 => ?_) (fun hq6 => ?_)
      · replace h := x_ift hq6 h
        refine x_loc (L' := [(0, .ref (ga g 0)), (1, .int v1)]) [1, 0] rfl ?_
        exact tX12_turnTold_80 hg  C   _ _  h
      · replace h := x_iff hq6 h
        refine x_aload_n C 1 rfl rfl dX12_turnTold_28 ?_
        refine x_dup C rfl dX12_turnTold_29 ?_
        refine x_get C (c := 0) (ci := 12) (k1 := 15) (v1 := .int (gi M2 0 15)) (enM_12 (c := 0) rfl) (Nat.le_of_ble_eq_true rfl) rfl inX12 (by decide) wf_X12_247 rfl dX12_turnTold_30 ?_
        refine x_iconst C (v1 := 1) dX12_turnTold_33 (by decide) ?_
        refine x_isub C dX12_turnTold_34 ?_
        refine x_put C (c := 0) (ci := 12) (k1 := 15) (u1 := ((gi M2 0 15) - 1)) (v1 := .int ((gi M2 0 15) - 1)) (ty := .int) (enM_12 (c := 0) rfl) (Nat.le_of_ble_eq_true rfl) rfl inX12 (by decide) (stX12_15 _ _ _) tyX12 tyX12_ok nmX12 wf_X12_247 rfl rfl rfl rfl (Nat.le_of_ble_eq_true rfl) dX12_turnTold_35 ?_
        refine x_nmM (fun M7 eM7 => ?_)
        replace h := h M7 eM7
        refine x_aload_n C 1 rfl rfl dX12_turnTold_38 ?_
        refine x_dup C rfl dX12_turnTold_39 ?_
        refine x_get C (c := 0) (ci := 12) (k1 := 3) (v1 := .int (gi M7 0 3)) (enM_12 (c := 0) rfl) (Nat.le_of_ble_eq_true rfl) rfl inX12 (by decide) wf_X12_205 rfl dX12_turnTold_40 ?_
        refine x_iconst C (v1 := 1) dX12_turnTold_43 (by decide) ?_
        refine x_iadd C dX12_turnTold_44 ?_
        refine x_put C (c := 0) (ci := 12) (k1 := 3) (u1 := ((gi M7 0 3) + 1)) (v1 := .int ((gi M7 0 3) + 1)) (ty := .int) (enM_12 (c := 0) rfl) (Nat.le_of_ble_eq_true rfl) rfl inX12 (by decide) (stX12_3 _ _ _) tyX12 tyX12_ok nmX12 wf_X12_205 rfl rfl rfl rfl (Nat.le_of_ble_eq_true rfl) dX12_turnTold_45 ?_
        refine x_nmM (fun M8 eM8 => ?_)
        replace h := h M8 eM8
        refine x_aload_n C 1 rfl rfl dX12_turnTold_48 ?_
        refine x_aload_n C 1 rfl rfl dX12_turnTold_49 ?_
        refine x_get C (c := 0) (ci := 12) (k1 := 17) (v1 := .ref (ga g 6)) (enM_12 (c := 0) rfl) (Nat.le_of_ble_eq_true rfl) rfl inX12 (by decide) wf_X12_31 rfl dX12_turnTold_50 ?_
        refine x_aload_n C 1 rfl rfl dX12_turnTold_53 ?_
        refine x_get C (c := 0) (ci := 12) (k1 := 15) (v1 := .int (gi M8 0 15)) (enM_12 (c := 0) rfl) (Nat.le_of_ble_eq_true rfl) rfl inX12 (by decide) wf_X12_247 rfl dX12_turnTold_54 ?_
        obtain ⟨hi9, h⟩ := h
        refine x_iald C 0 (c := 6) (enM_20n (c := 6) (n := 2) rfl rfl) (Nat.le_of_ble_eq_true rfl) rfl hi9 dX12_turnTold_57 ?_
        refine x_aload_n C 1 rfl rfl dX12_turnTold_58 ?_
        refine x_get C (c := 0) (ci := 12) (k1 := 18) (v1 := .ref (ga g 7)) (enM_12 (c := 0) rfl) (Nat.le_of_ble_eq_true rfl) rfl inX12 (by decide) wf_X12_34 rfl dX12_turnTold_59 ?_
        refine x_aload_n C 1 rfl rfl dX12_turnTold_62 ?_
        refine x_get C (c := 0) (ci := 12) (k1 := 15) (v1 := .int (gi M8 0 15)) (enM_12 (c := 0) rfl) (Nat.le_of_ble_eq_true rfl) rfl inX12 (by decide) wf_X12_247 rfl dX12_turnTold_63 ?_
        obtain ⟨hi10, h⟩ := h
        refine x_iald C 0 (c := 7) (enM_20n (c := 7) (n := 2) rfl rfl) (Nat.le_of_ble_eq_true rfl) rfl hi10 dX12_turnTold_66 ?_
        refine x_aload_n C 1 rfl rfl dX12_turnTold_67 ?_
        refine x_get C (c := 0) (ci := 12) (k1 := 19) (v1 := .ref (ga g 8)) (enM_12 (c := 0) rfl) (Nat.le_of_ble_eq_true rfl) rfl inX12 (by decide) wf_X12_37 rfl dX12_turnTold_68 ?_
        refine x_aload_n C 1 rfl rfl dX12_turnTold_71 ?_
        refine x_get C (c := 0) (ci := 12) (k1 := 15) (v1 := .int (gi M8 0 15)) (enM_12 (c := 0) rfl) (Nat.le_of_ble_eq_true rfl) rfl inX12 (by decide) wf_X12_247 rfl dX12_turnTold_72 ?_
        obtain ⟨hi11, h⟩ := h
        refine x_iald C 0 (c := 8) (enM_20n (c := 8) (n := 2) rfl rfl) (Nat.le_of_ble_eq_true rfl) rfl hi11 dX12_turnTold_75 ?_
        refine x_callV C (st := []) (As := [.int (gi M8 6 (gi M8 0 15).toNatClampNeg), .int (gi M8 7 (gi M8 0 15).toNatClampNeg), .int (gi M8 8 (gi M8 0 15).toNatClampNeg)]) (c := 0) (ci := 12) (enM_12 (c := 0) rfl) (Nat.le_of_ble_eq_true rfl) rfl (tX12_repeats hg _ _ _ _ _ _  h) wm_X12_254 wi_X12_repeats wv_X12_repeats wz_X12 wc_X12_repeats rfl yd_X12_repeats rfl ⟨rfl, rfl⟩ ⟨Nat.le_of_ble_eq_true rfl, Nat.le_of_ble_eq_true rfl⟩ (Nat.le_of_ble_eq_true rfl) rfl dX12_turnTold_76 (x_kv (fun M12 h => ?_))
        exact x_vret C dX12_turnTold_79 ⟨rfl, h⟩
set_option maxHeartbeats 4000000 in
set_option maxRecDepth 100000 in
theorem tX12_isTold {g : xG} (hg : x_inj (WM g))  (l : Launch) (a0 : Int32) (M : xMem) (post : Int32 → xMem → Prop)  (h : wX12_isTold a0 M post) : xMet (WM g) l yX12_isTold cX12_isTold 2 (some .boolean) (rm_X12_isTold) [.ref (ga g 0), .int a0] M (pI post) := by
  refine x_enter (own := RX12) (L0 := [(0, .ref (ga g 0)), (1, .int a0)]) (by decide +kernel) rfl hg (x_stM g) (Nat.le_of_ble_eq_true rfl) rfl (fun x hl C => ?_)
  unfold wX12_isTold at h
  refine x_iload_n C 1 rfl rfl dX12_isTold_0 ?_
  refine x_i2l C dX12_isTold_1 ?_
  refine x_lconst C (v1 := 0) dX12_isTold_2 (by decide) ?_
  refine x_ldc2 C (v1 := 5) (wcl_X12_265) dX12_isTold_3 ?_
  refine x_callS C (st := []) (As := [.long ((a0 : Int32).toInt64), .long 0, .long 5]) (tX12_lies hg _ _ _ _ _ _  h) wm_X12_222 wsm_X12_lies wz_X12 wc_X12_lies yd_X12_lies rfl ⟨rfl, rfl⟩ ⟨Nat.le_of_ble_eq_true rfl, Nat.le_of_ble_eq_true rfl⟩ (Nat.le_of_ble_eq_true rfl) rfl dX12_isTold_6 (x_ki (fun r2 M1 h => ?_))
  refine x_if_eq C (tgt := 25) dX12_isTold_9 (by decide) (fun hq3 => ?_) (fun hq3 => ?_)
  · replace h := x_ift hq3 h
    refine x_iconst C (v1 := 0) dX12_isTold_25 (by decide) ?_
    exact x_zret C rfl dX12_isTold_26 ⟨_, rfl, h⟩
  · replace h := x_iff hq3 h
    refine x_aload_n C 0 rfl rfl dX12_isTold_12 ?_
    refine x_get C (c := 0) (ci := 12) (k1 := 10) (v1 := .ref (ga g 2)) (enM_12 (c := 0) rfl) (Nat.le_of_ble_eq_true rfl) rfl inX12 (by decide) wf_X12_17 rfl dX12_isTold_13 ?_
    refine x_iload_n C 1 rfl rfl dX12_isTold_16 ?_
    obtain ⟨hi4, h⟩ := h
    refine x_zald C 2 (c := 2) (enM_24n (c := 2) (n := 6) rfl rfl) (Nat.le_of_ble_eq_true rfl) rfl hi4 dX12_isTold_17 ?_
    refine x_if_eq C (tgt := 25) dX12_isTold_18 (by decide) (fun hq5 => ?_) (fun hq5 => ?_)
    · replace h := x_ift hq5 h
      refine x_iconst C (v1 := 0) dX12_isTold_25 (by decide) ?_
      exact x_zret C rfl dX12_isTold_26 ⟨_, rfl, h⟩
    · replace h := x_iff hq5 h
      refine x_iconst C (v1 := 1) dX12_isTold_21 (by decide) ?_
      refine x_goto C (tgt := 26) dX12_isTold_22 (by decide) ?_
      exact x_zret C rfl dX12_isTold_26 ⟨_, rfl, h⟩
set_option maxHeartbeats 4000000 in
set_option maxRecDepth 100000 in
theorem tX12_story_207 {g : xG} (hg : x_inj (WM g))  {x : xCx}  {K166 : Int32 → Int32 → xMem → Prop} {post : Int32 → xMem → Prop} (C : xOk (WM g) x cX12_story RX12 4 (some .int) (rm_X12_story) (pI post))  (hK166 : ∀ (x1 : Int32) (x3 : Int32) (M : xMem), K166 x1 x3 M → xW (WM g) x 4 166 [(0, .ref (ga g 0)), (1, .int x1), (3, .int x3)] [] M) (x1 : Int32) (x3 : Int32) (M : xMem)  (h : wX12_story_207 K166 post x1 x3 M) : xW (WM g) x 4 207 [(0, .ref (ga g 0)), (1, .int x1), (3, .int x3)] [] M := by
  unfold wX12_story_207 at h
  obtain ⟨v1, ev1⟩ : ∃ z : Int32, z = x3 + 1 := ⟨_, rfl⟩
  replace h := h v1 ev1
  refine x_iinc C 2 (v1 := v1) (L' := [(3, .int v1), (0, .ref (ga g 0)), (1, .int x1)]) rfl (by rw [ev1]; rfl) rfl (Nat.le_of_ble_eq_true rfl) dX12_story_207 ?_
  refine x_goto C (tgt := 166) dX12_story_210 (by decide) ?_
  refine x_loc (L' := [(0, .ref (ga g 0)), (1, .int x1), (3, .int v1)]) [1, 2, 0] rfl ?_
  exact hK166 _ _ _  h
set_option maxHeartbeats 4000000 in
set_option maxRecDepth 100000 in
theorem tX12_story_166 {g : xG} (hg : x_inj (WM g))  {x : xCx}   {post : Int32 → xMem → Prop} (C : xOk (WM g) x cX12_story RX12 4 (some .int) (rm_X12_story) (pI post))   : ∀ (n : Nat) (x1 : Int32) (x3 : Int32) (M : xMem), wX12_story_166 post n x1 x3 M → xW (WM g) x 4 166 [(0, .ref (ga g 0)), (1, .int x1), (3, .int x3)] [] M := by
  intro n
  induction n with
  | zero =>
    intro x1 x3 M  h
    exact h.elim
  | succ n ih =>
    intro x1 x3 M  h
    rw [wX12_story_166] at h
    refine x_iload_n C 2 rfl rfl dX12_story_166 ?_
    refine x_iconst C (v1 := 4) dX12_story_167 (by decide) ?_
    refine x_icmp_ge C (tgt := 213) dX12_story_168 (by decide) (fun hq1 => ?_) (fun hq1 => ?_)
    · replace h := x_ift hq1 h
      refine x_aload_n C 0 rfl rfl dX12_story_213 ?_
      refine x_get C (c := 0) (ci := 12) (k1 := 14) (v1 := .int (gi M 0 14)) (enM_12 (c := 0) rfl) (Nat.le_of_ble_eq_true rfl) rfl inX12 (by decide) wf_X12_226 rfl dX12_story_214 ?_
      exact x_iret C dX12_story_217 ⟨_, rfl, h⟩
    · replace h := x_iff hq1 h
      refine x_aload_n C 0 rfl rfl dX12_story_171 ?_
      refine x_get C (c := 0) (ci := 12) (k1 := 56) (v1 := .ref (ga g 30)) (enM_12 (c := 0) rfl) (Nat.le_of_ble_eq_true rfl) rfl inX12 (by decide) wf_X12_103 rfl dX12_story_172 ?_
      refine x_iload_n C 2 rfl rfl dX12_story_175 ?_
      obtain ⟨hi2, h⟩ := h
      refine x_zald C 2 (c := 30) (enM_24n (c := 30) (n := 4) rfl rfl) (Nat.le_of_ble_eq_true rfl) rfl hi2 dX12_story_176 ?_
      refine x_if_eq C (tgt := 207) dX12_story_177 (by decide) (fun hq3 => ?_) (fun hq3 => ?_)
      · replace h := x_ift hq3 h
        exact tX12_story_207 hg  C  ih _ _ _  h
      · replace h := x_iff hq3 h
        refine x_aload_n C 0 rfl rfl dX12_story_180 ?_
        refine x_get C (c := 0) (ci := 12) (k1 := 57) (v1 := .ref (ga g 31)) (enM_12 (c := 0) rfl) (Nat.le_of_ble_eq_true rfl) rfl inX12 (by decide) wf_X12_106 rfl dX12_story_181 ?_
        refine x_iload_n C 2 rfl rfl dX12_story_184 ?_
        obtain ⟨hi4, h⟩ := h
        refine x_iald C 0 (c := 31) (enM_20n (c := 31) (n := 4) rfl rfl) (Nat.le_of_ble_eq_true rfl) rfl hi4 dX12_story_185 ?_
        refine x_iload_n C 1 rfl rfl dX12_story_186 ?_
        refine x_icmp_eq C (tgt := 193) dX12_story_187 (by decide) (fun hq5 => ?_) (fun hq5 => ?_)
        · replace h := x_ift hq5 h
          refine x_aload_n C 0 rfl rfl dX12_story_193 ?_
          refine x_get C (c := 0) (ci := 12) (k1 := 59) (v1 := .ref (ga g 33)) (enM_12 (c := 0) rfl) (Nat.le_of_ble_eq_true rfl) rfl inX12 (by decide) wf_X12_112 rfl dX12_story_194 ?_
          refine x_iload_n C 2 rfl rfl dX12_story_197 ?_
          refine x_iconst C (v1 := 0) dX12_story_198 (by decide) ?_
          obtain ⟨hi6, h⟩ := h
          refine x_iast C 0 (c := 33) (enM_20n (c := 33) (n := 4) rfl rfl) (Nat.le_of_ble_eq_true rfl) rfl hi6 dX12_story_199 ?_
          refine x_nmM (fun M7 eM7 => ?_)
          replace h := h M7 eM7
          refine x_aload_n C 0 rfl rfl dX12_story_200 ?_
          refine x_get C (c := 0) (ci := 12) (k1 := 60) (v1 := .ref (ga g 34)) (enM_12 (c := 0) rfl) (Nat.le_of_ble_eq_true rfl) rfl inX12 (by decide) wf_X12_115 rfl dX12_story_201 ?_
          refine x_iload_n C 2 rfl rfl dX12_story_204 ?_
          refine x_iconst C (v1 := 0) dX12_story_205 (by decide) ?_
          obtain ⟨hi8, h⟩ := h
          refine x_iast C 0 (c := 34) (enM_20n (c := 34) (n := 4) rfl rfl) (Nat.le_of_ble_eq_true rfl) rfl hi8 dX12_story_206 ?_
          refine x_nmM (fun M9 eM9 => ?_)
          replace h := h M9 eM9
          exact tX12_story_207 hg  C  ih _ _ _  h
        · replace h := x_iff hq5 h
          refine x_goto C (tgt := 207) dX12_story_190 (by decide) ?_
          exact tX12_story_207 hg  C  ih _ _ _  h
set_option maxHeartbeats 4000000 in
set_option maxRecDepth 100000 in
theorem tX12_story_133 {g : xG} (hg : x_inj (WM g))  {x : xCx}   {post : Int32 → xMem → Prop} (C : xOk (WM g) x cX12_story RX12 4 (some .int) (rm_X12_story) (pI post))   : ∀ (n : Nat) (x1 : Int32) (x3 : Int32) (M : xMem), wX12_story_133 post n x1 x3 M → xW (WM g) x 4 133 [(0, .ref (ga g 0)), (1, .int x1), (3, .int x3)] [] M := by
  intro n
  induction n with
  | zero =>
    intro x1 x3 M  h
    exact h.elim
  | succ n ih =>
    intro x1 x3 M  h
    rw [wX12_story_133] at h
    refine x_iload_n C 2 rfl rfl dX12_story_133 ?_
    refine x_aload_n C 0 rfl rfl dX12_story_134 ?_
    refine x_get C (c := 0) (ci := 12) (k1 := 14) (v1 := .int (gi M 0 14)) (enM_12 (c := 0) rfl) (Nat.le_of_ble_eq_true rfl) rfl inX12 (by decide) wf_X12_226 rfl dX12_story_135 ?_
    refine x_icmp_ge C (tgt := 164) dX12_story_138 (by decide) (fun hq1 => ?_) (fun hq1 => ?_)
    · replace h := x_ift hq1 h
      refine x_iconst C (v1 := 0) dX12_story_164 (by decide) ?_
      refine x_istore_n C (L' := [(3, .int 0), (0, .ref (ga g 0)), (1, .int x1)]) rfl rfl (Nat.le_of_ble_eq_true rfl) dX12_story_165 ?_
      refine x_loc (L' := [(0, .ref (ga g 0)), (1, .int x1), (3, .int 0)]) [1, 2, 0] rfl ?_
      obtain ⟨n166, h⟩ := h
      exact tX12_story_166 hg  C   _ _ _ _  h
    · replace h := x_iff hq1 h
      refine x_aload_n C 0 rfl rfl dX12_story_141 ?_
      refine x_get C (c := 0) (ci := 12) (k1 := 12) (v1 := .ref (ga g 4)) (enM_12 (c := 0) rfl) (Nat.le_of_ble_eq_true rfl) rfl inX12 (by decide) wf_X12_25 rfl dX12_story_142 ?_
      refine x_bipush C (v1 := 72) dX12_story_145 (by decide) ?_
      refine x_iload_n C 1 rfl rfl dX12_story_147 ?_
      refine x_imul C dX12_story_148 ?_
      refine x_iload_n C 2 rfl rfl dX12_story_149 ?_
      refine x_iadd C dX12_story_150 ?_
      refine x_aload_n C 0 rfl rfl dX12_story_151 ?_
      refine x_get C (c := 0) (ci := 12) (k1 := 13) (v1 := .ref (ga g 5)) (enM_12 (c := 0) rfl) (Nat.le_of_ble_eq_true rfl) rfl inX12 (by decide) wf_X12_28 rfl dX12_story_152 ?_
      refine x_iload_n C 2 rfl rfl dX12_story_155 ?_
      obtain ⟨hi2, h⟩ := h
      refine x_iald C 0 (c := 5) (enM_20n (c := 5) (n := 72) rfl rfl) (Nat.le_of_ble_eq_true rfl) rfl hi2 dX12_story_156 ?_
      obtain ⟨hi3, h⟩ := h
      refine x_iast C 0 (c := 4) (enM_20n (c := 4) (n := 432) rfl rfl) (Nat.le_of_ble_eq_true rfl) rfl hi3 dX12_story_157 ?_
      refine x_nmM (fun M4 eM4 => ?_)
      replace h := h M4 eM4
      obtain ⟨v5, ev5⟩ : ∃ z : Int32, z = x3 + 1 := ⟨_, rfl⟩
      replace h := h v5 ev5
      refine x_iinc C 2 (v1 := v5) (L' := [(3, .int v5), (0, .ref (ga g 0)), (1, .int x1)]) rfl (by rw [ev5]; rfl) rfl (Nat.le_of_ble_eq_true rfl) dX12_story_158 ?_
      refine x_goto C (tgt := 133) dX12_story_161 (by decide) ?_
      refine x_loc (L' := [(0, .ref (ga g 0)), (1, .int x1), (3, .int v5)]) [1, 2, 0] rfl ?_
      exact ih _ _ _  h
set_option maxHeartbeats 4000000 in
set_option maxRecDepth 100000 in
theorem tX12_story_102 {g : xG} (hg : x_inj (WM g))  {x : xCx}   {post : Int32 → xMem → Prop} (C : xOk (WM g) x cX12_story RX12 4 (some .int) (rm_X12_story) (pI post))   (x1 : Int32) (M : xMem)  (h : wX12_story_102 post x1 M) : xW (WM g) x 4 102 [(0, .ref (ga g 0)), (1, .int x1)] [] M := by
  unfold wX12_story_102 at h
  refine x_aload_n C 0 rfl rfl dX12_story_102 ?_
  refine x_get C (c := 0) (ci := 12) (k1 := 5) (v1 := .int (gi M 0 5)) (enM_12 (c := 0) rfl) (Nat.le_of_ble_eq_true rfl) rfl inX12 (by decide) wf_X12_211 rfl dX12_story_103 ?_
  refine x_if_ge C (tgt := 114) dX12_story_106 (by decide) (fun hq1 => ?_) (fun hq1 => ?_)
  · replace h := x_ift hq1 h
    refine x_aload_n C 0 rfl rfl dX12_story_114 ?_
    refine x_get C (c := 0) (ci := 12) (k1 := 10) (v1 := .ref (ga g 2)) (enM_12 (c := 0) rfl) (Nat.le_of_ble_eq_true rfl) rfl inX12 (by decide) wf_X12_17 rfl dX12_story_115 ?_
    refine x_iload_n C 1 rfl rfl dX12_story_118 ?_
    refine x_iconst C (v1 := 1) dX12_story_119 (by decide) ?_
    obtain ⟨hi2, h⟩ := h
    refine x_zast C 2 (c := 2) (enM_24n (c := 2) (n := 6) rfl rfl) (Nat.le_of_ble_eq_true rfl) rfl hi2 dX12_story_120 ?_
    refine x_nmM (fun M3 eM3 => ?_)
    replace h := h M3 eM3
    refine x_aload_n C 0 rfl rfl dX12_story_121 ?_
    refine x_get C (c := 0) (ci := 12) (k1 := 11) (v1 := .ref (ga g 3)) (enM_12 (c := 0) rfl) (Nat.le_of_ble_eq_true rfl) rfl inX12 (by decide) wf_X12_21 rfl dX12_story_122 ?_
    refine x_iload_n C 1 rfl rfl dX12_story_125 ?_
    refine x_aload_n C 0 rfl rfl dX12_story_126 ?_
    refine x_get C (c := 0) (ci := 12) (k1 := 14) (v1 := .int (gi M3 0 14)) (enM_12 (c := 0) rfl) (Nat.le_of_ble_eq_true rfl) rfl inX12 (by decide) wf_X12_226 rfl dX12_story_127 ?_
    obtain ⟨hi4, h⟩ := h
    refine x_iast C 0 (c := 3) (enM_20n (c := 3) (n := 6) rfl rfl) (Nat.le_of_ble_eq_true rfl) rfl hi4 dX12_story_130 ?_
    refine x_nmM (fun M5 eM5 => ?_)
    replace h := h M5 eM5
    refine x_iconst C (v1 := 0) dX12_story_131 (by decide) ?_
    refine x_istore_n C (L' := [(3, .int 0), (0, .ref (ga g 0)), (1, .int x1)]) rfl rfl (Nat.le_of_ble_eq_true rfl) dX12_story_132 ?_
    refine x_loc (L' := [(0, .ref (ga g 0)), (1, .int x1), (3, .int 0)]) [1, 2, 0] rfl ?_
    obtain ⟨n133, h⟩ := h
    exact tX12_story_133 hg  C   _ _ _ _  h
  · replace h := x_iff hq1 h
    refine x_aload_n C 0 rfl rfl dX12_story_109 ?_
    refine x_get C (c := 0) (ci := 12) (k1 := 5) (v1 := .int (gi M 0 5)) (enM_12 (c := 0) rfl) (Nat.le_of_ble_eq_true rfl) rfl inX12 (by decide) wf_X12_211 rfl dX12_story_110 ?_
    exact x_iret C dX12_story_113 ⟨_, rfl, h⟩
set_option maxHeartbeats 4000000 in
set_option maxRecDepth 100000 in
theorem tX12_story_79 {g : xG} (hg : x_inj (WM g))  {x : xCx}   {post : Int32 → xMem → Prop} (C : xOk (WM g) x cX12_story RX12 4 (some .int) (rm_X12_story) (pI post))   (x1 : Int32) (M : xMem)  (h : wX12_story_79 post x1 M) : xW (WM g) x 4 79 [(0, .ref (ga g 0)), (1, .int x1)] [] M := by
  unfold wX12_story_79 at h
  refine x_aload_n C 0 rfl rfl dX12_story_79 ?_
  refine x_callV C (st := []) (As := []) (c := 0) (ci := 12) (enM_12 (c := 0) rfl) (Nat.le_of_ble_eq_true rfl) rfl (tX12_isGood hg _  _ _  h) wm_X12_233 wi_X12_isGood wv_X12_isGood wz_X12 wc_X12_isGood rfl yd_X12_isGood rfl ⟨rfl, rfl⟩ ⟨Nat.le_of_ble_eq_true rfl, Nat.le_of_ble_eq_true rfl⟩ (Nat.le_of_ble_eq_true rfl) rfl dX12_story_80 (x_ki (fun r2 M1 h => ?_))
  refine x_if_eq C (tgt := 102) dX12_story_83 (by decide) (fun hq3 => ?_) (fun hq3 => ?_)
  · replace h := x_ift hq3 h
    exact tX12_story_102 hg  C   _ _  h
  · replace h := x_iff hq3 h
    refine x_aload_n C 0 rfl rfl dX12_story_86 ?_
    refine x_get C (c := 0) (ci := 12) (k1 := 15) (v1 := .int (gi M1 0 15)) (enM_12 (c := 0) rfl) (Nat.le_of_ble_eq_true rfl) rfl inX12 (by decide) wf_X12_247 rfl dX12_story_87 ?_
    refine x_if_le C (tgt := 102) dX12_story_90 (by decide) (fun hq4 => ?_) (fun hq4 => ?_)
    · replace h := x_ift hq4 h
      exact tX12_story_102 hg  C   _ _  h
    · replace h := x_iff hq4 h
      refine x_aload_n C 0 rfl rfl dX12_story_93 ?_
      refine x_iconst C (v1 := 1) dX12_story_94 (by decide) ?_
      refine x_aload_n C 0 rfl rfl dX12_story_95 ?_
      refine x_get C (c := 0) (ci := 12) (k1 := 3) (v1 := .int (gi M1 0 3)) (enM_12 (c := 0) rfl) (Nat.le_of_ble_eq_true rfl) rfl inX12 (by decide) wf_X12_205 rfl dX12_story_96 ?_
      refine x_callV C (st := []) (As := [.int 1, .int (gi M1 0 3)]) (c := 0) (ci := 12) (enM_12 (c := 0) rfl) (Nat.le_of_ble_eq_true rfl) rfl (tX12_wrongs hg _ _ _ _ _  h) wm_X12_229 wi_X12_wrongs wv_X12_wrongs wz_X12 wc_X12_wrongs rfl yd_X12_wrongs rfl ⟨rfl, rfl⟩ ⟨Nat.le_of_ble_eq_true rfl, Nat.le_of_ble_eq_true rfl⟩ (Nat.le_of_ble_eq_true rfl) rfl dX12_story_99 (x_kv (fun M5 h => ?_))
      exact tX12_story_102 hg  C   _ _  h
set_option maxHeartbeats 4000000 in
set_option maxRecDepth 100000 in
theorem tX12_story_54 {g : xG} (hg : x_inj (WM g))  {x : xCx}   {post : Int32 → xMem → Prop} (C : xOk (WM g) x cX12_story RX12 4 (some .int) (rm_X12_story) (pI post))   : ∀ (n : Nat) (x1 : Int32) (M : xMem), wX12_story_54 post n x1 M → xW (WM g) x 4 54 [(0, .ref (ga g 0)), (1, .int x1)] [] M := by
  intro n
  induction n with
  | zero =>
    intro x1 M  h
    exact h.elim
  | succ n ih =>
    intro x1 M  h
    rw [wX12_story_54] at h
    refine x_aload_n C 0 rfl rfl dX12_story_54 ?_
    refine x_callV C (st := []) (As := []) (c := 0) (ci := 12) (enM_12 (c := 0) rfl) (Nat.le_of_ble_eq_true rfl) rfl (tX12_isGood hg _  _ _  h) wm_X12_233 wi_X12_isGood wv_X12_isGood wz_X12 wc_X12_isGood rfl yd_X12_isGood rfl ⟨rfl, rfl⟩ ⟨Nat.le_of_ble_eq_true rfl, Nat.le_of_ble_eq_true rfl⟩ (Nat.le_of_ble_eq_true rfl) rfl dX12_story_55 (x_ki (fun r2 M1 h => ?_))
    refine x_if_eq C (tgt := 79) dX12_story_58 (by decide) (fun hq3 => ?_) (fun hq3 => ?_)
    · replace h := x_ift hq3 h
      exact tX12_story_79 hg  C   _ _  h
    · replace h := x_iff hq3 h
      refine x_aload_n C 0 rfl rfl dX12_story_61 ?_
      refine x_get C (c := 0) (ci := 12) (k1 := 3) (v1 := .int (gi M1 0 3)) (enM_12 (c := 0) rfl) (Nat.le_of_ble_eq_true rfl) rfl inX12 (by decide) wf_X12_205 rfl dX12_story_62 ?_
      refine x_aload_n C 0 rfl rfl dX12_story_65 ?_
      refine x_get C (c := 0) (ci := 12) (k1 := 4) (v1 := .int (gi M1 0 4)) (enM_12 (c := 0) rfl) (Nat.le_of_ble_eq_true rfl) rfl inX12 (by decide) wf_X12_208 rfl dX12_story_66 ?_
      refine x_icmp_ge C (tgt := 79) dX12_story_69 (by decide) (fun hq4 => ?_) (fun hq4 => ?_)
      · replace h := x_ift hq4 h
        exact tX12_story_79 hg  C   _ _  h
      · replace h := x_iff hq4 h
        refine x_aload_n C 0 rfl rfl dX12_story_72 ?_
        refine x_callV C (st := []) (As := []) (c := 0) (ci := 12) (enM_12 (c := 0) rfl) (Nat.le_of_ble_eq_true rfl) rfl (tX12_turnTold hg _  _ _  h) wm_X12_272 wi_X12_turnTold wv_X12_turnTold wz_X12 wc_X12_turnTold rfl yd_X12_turnTold rfl ⟨rfl, rfl⟩ ⟨Nat.le_of_ble_eq_true rfl, Nat.le_of_ble_eq_true rfl⟩ (Nat.le_of_ble_eq_true rfl) rfl dX12_story_73 (x_kv (fun M5 h => ?_))
        refine x_goto C (tgt := 54) dX12_story_76 (by decide) ?_
        exact ih _ _  h
set_option maxHeartbeats 4000000 in
set_option maxRecDepth 100000 in
theorem tX12_story {g : xG} (hg : x_inj (WM g))  (l : Launch) (a0 : Int32) (a1 : Int32) (M : xMem) (post : Int32 → xMem → Prop)  (h : wX12_story a0 a1 M post) : xMet (WM g) l yX12_story cX12_story 4 (some .int) (rm_X12_story) [.ref (ga g 0), .int a0, .int a1] M (pI post) := by
  refine x_enter (own := RX12) (L0 := [(0, .ref (ga g 0)), (1, .int a0), (2, .int a1)]) (by decide +kernel) rfl hg (x_stM g) (Nat.le_of_ble_eq_true rfl) rfl (fun x hl C => ?_)
  unfold wX12_story at h
  refine x_iload_n C 1 rfl rfl dX12_story_0 ?_
  refine x_i2l C dX12_story_1 ?_
  refine x_lconst C (v1 := 0) dX12_story_2 (by decide) ?_
  refine x_ldc2 C (v1 := 5) (wcl_X12_265) dX12_story_3 ?_
  refine x_callS C (st := []) (As := [.long ((a0 : Int32).toInt64), .long 0, .long 5]) (tX12_lies hg _ _ _ _ _ _  h) wm_X12_222 wsm_X12_lies wz_X12 wc_X12_lies yd_X12_lies rfl ⟨rfl, rfl⟩ ⟨Nat.le_of_ble_eq_true rfl, Nat.le_of_ble_eq_true rfl⟩ (Nat.le_of_ble_eq_true rfl) rfl dX12_story_6 (x_ki (fun r2 M1 h => ?_))
  refine x_if_eq C (tgt := 32) dX12_story_9 (by decide) (fun hq3 => ?_) (fun hq3 => ?_)
  · replace h := x_ift hq3 h
    refine x_iconst C (v1 := (-1)) dX12_story_32 (by decide) ?_
    exact x_iret C dX12_story_33 ⟨_, rfl, h⟩
  · replace h := x_iff hq3 h
    refine x_iload_n C 2 rfl rfl dX12_story_12 ?_
    refine x_i2l C dX12_story_13 ?_
    refine x_lconst C (v1 := 1) dX12_story_14 (by decide) ?_
    refine x_ldc2 C (v1 := 80) (wcl_X12_267) dX12_story_15 ?_
    refine x_callS C (st := []) (As := [.long ((a1 : Int32).toInt64), .long 1, .long 80]) (tX12_lies hg _ _ _ _ _ _  h) wm_X12_222 wsm_X12_lies wz_X12 wc_X12_lies yd_X12_lies rfl ⟨rfl, rfl⟩ ⟨Nat.le_of_ble_eq_true rfl, Nat.le_of_ble_eq_true rfl⟩ (Nat.le_of_ble_eq_true rfl) rfl dX12_story_18 (x_ki (fun r5 M4 h => ?_))
    refine x_if_eq C (tgt := 32) dX12_story_21 (by decide) (fun hq6 => ?_) (fun hq6 => ?_)
    · replace h := x_ift hq6 h
      refine x_iconst C (v1 := (-1)) dX12_story_32 (by decide) ?_
      exact x_iret C dX12_story_33 ⟨_, rfl, h⟩
    · replace h := x_iff hq6 h
      refine x_iload_n C 2 rfl rfl dX12_story_24 ?_
      refine x_aload_n C 0 rfl rfl dX12_story_25 ?_
      refine x_get C (c := 0) (ci := 12) (k1 := 1) (v1 := .int (gi M4 0 1)) (enM_12 (c := 0) rfl) (Nat.le_of_ble_eq_true rfl) rfl inX12 (by decide) wf_X12_198 rfl dX12_story_26 ?_
      refine x_icmp_le C (tgt := 34) dX12_story_29 (by decide) (fun hq7 => ?_) (fun hq7 => ?_)
      · replace h := x_ift hq7 h
        refine x_aload_n C 0 rfl rfl dX12_story_34 ?_
        refine x_iload_n C 2 rfl rfl dX12_story_35 ?_
        refine x_callV C (st := []) (As := [.int a1]) (c := 0) (ci := 12) (enM_12 (c := 0) rfl) (Nat.le_of_ble_eq_true rfl) rfl (tX12_begins hg _ _ _ _  h) wm_X12_269 wi_X12_begins wv_X12_begins wz_X12 wc_X12_begins rfl yd_X12_begins rfl ⟨rfl, rfl⟩ ⟨Nat.le_of_ble_eq_true rfl, Nat.le_of_ble_eq_true rfl⟩ (Nat.le_of_ble_eq_true rfl) rfl dX12_story_36 (x_kv (fun M8 h => ?_))
        refine x_aload_n C 0 rfl rfl dX12_story_39 ?_
        refine x_iconst C (v1 := 0) dX12_story_40 (by decide) ?_
        refine x_put C (c := 0) (ci := 12) (k1 := 14) (u1 := 0) (v1 := .int 0) (ty := .int) (enM_12 (c := 0) rfl) (Nat.le_of_ble_eq_true rfl) rfl inX12 (by decide) (stX12_14 _ _ _) tyX12 tyX12_ok nmX12 wf_X12_226 rfl rfl rfl rfl (Nat.le_of_ble_eq_true rfl) dX12_story_41 ?_
        refine x_nmM (fun M9 eM9 => ?_)
        replace h := h M9 eM9
        refine x_aload_n C 0 rfl rfl dX12_story_44 ?_
        refine x_iconst C (v1 := 0) dX12_story_45 (by decide) ?_
        refine x_put C (c := 0) (ci := 12) (k1 := 15) (u1 := 0) (v1 := .int 0) (ty := .int) (enM_12 (c := 0) rfl) (Nat.le_of_ble_eq_true rfl) rfl inX12 (by decide) (stX12_15 _ _ _) tyX12 tyX12_ok nmX12 wf_X12_247 rfl rfl rfl rfl (Nat.le_of_ble_eq_true rfl) dX12_story_46 ?_
        refine x_nmM (fun M10 eM10 => ?_)
        replace h := h M10 eM10
        refine x_aload_n C 0 rfl rfl dX12_story_49 ?_
        refine x_iconst C (v1 := 0) dX12_story_50 (by decide) ?_
        refine x_put C (c := 0) (ci := 12) (k1 := 16) (u1 := 0) (v1 := .int 0) (ty := .boolean) (enM_12 (c := 0) rfl) (Nat.le_of_ble_eq_true rfl) rfl inX12 (by decide) (stX12_16 _ _ _) tyX12 tyX12_ok nmX12 wf_X12_250 rfl rfl rfl rfl (Nat.le_of_ble_eq_true rfl) dX12_story_51 ?_
        refine x_nmM (fun M11 eM11 => ?_)
        replace h := h M11 eM11
        refine x_loc (L' := [(0, .ref (ga g 0)), (1, .int a0)]) [0, 1] rfl ?_
        obtain ⟨n54, h⟩ := h
        exact tX12_story_54 hg  C   _ _ _  h
      · replace h := x_iff hq7 h
        refine x_iconst C (v1 := (-1)) dX12_story_32 (by decide) ?_
        exact x_iret C dX12_story_33 ⟨_, rfl, h⟩
set_option maxHeartbeats 4000000 in
set_option maxRecDepth 100000 in
theorem tX12_turned {g : xG} (hg : x_inj (WM g))  (l : Launch) (a0 : Int32) (a1 : Int32) (M : xMem) (post : Int32 → xMem → Prop)  (h : wX12_turned a0 a1 M post) : xMet (WM g) l yX12_turned cX12_turned 2 (some .int) (rm_X12_turned) [.int a0, .int a1] M (pI post) := by
  refine x_enter (own := RX12) (L0 := [(0, .int a0), (1, .int a1)]) (by decide +kernel) rfl hg (x_stM g) (Nat.le_of_ble_eq_true rfl) rfl (fun x hl C => ?_)
  unfold wX12_turned at h
  refine x_iload_n C 1 rfl rfl dX12_turned_0 ?_
  refine x_bipush C (v1 := 10) dX12_turned_1 (by decide) ?_
  refine x_icmp_ge C (tgt := 12) dX12_turned_3 (by decide) (fun hq1 => ?_) (fun hq1 => ?_)
  · replace h := x_ift hq1 h
    refine x_iload_n C 1 rfl rfl dX12_turned_12 ?_
    refine x_bipush C (v1 := 20) dX12_turned_13 (by decide) ?_
    refine x_icmp_ge C (tgt := 29) dX12_turned_15 (by decide) (fun hq2 => ?_) (fun hq2 => ?_)
    · replace h := x_ift hq2 h
      refine x_iload_n C 1 rfl rfl dX12_turned_29 ?_
      refine x_bipush C (v1 := 20) dX12_turned_30 (by decide) ?_
      refine x_icmp_ne C (tgt := 47) dX12_turned_32 (by decide) (fun hq3 => ?_) (fun hq3 => ?_)
      · replace h := x_iff hq3 h
        refine x_iload_n C 0 rfl rfl dX12_turned_47 ?_
        exact x_iret C dX12_turned_48 ⟨_, rfl, h⟩
      · replace h := x_ift hq3 h
        refine x_iload_n C 0 rfl rfl dX12_turned_35 ?_
        refine x_iload_n C 0 rfl rfl dX12_turned_36 ?_
        refine x_iconst C (v1 := 1) dX12_turned_37 (by decide) ?_
        refine x_iadd C dX12_turned_38 ?_
        refine x_ior C dX12_turned_39 ?_
        refine x_sipush C (v1 := 1023) dX12_turned_40 (by decide) ?_
        refine x_iand C dX12_turned_43 ?_
        refine x_goto C (tgt := 48) dX12_turned_44 (by decide) ?_
        exact x_iret C dX12_turned_48 ⟨_, rfl, h⟩
    · replace h := x_iff hq2 h
      refine x_iload_n C 0 rfl rfl dX12_turned_18 ?_
      refine x_iconst C (v1 := 1) dX12_turned_19 (by decide) ?_
      refine x_iload_n C 1 rfl rfl dX12_turned_20 ?_
      refine x_bipush C (v1 := 10) dX12_turned_21 (by decide) ?_
      refine x_isub C dX12_turned_23 ?_
      refine x_ishl C dX12_turned_24 ?_
      refine x_iconst C (v1 := (-1)) dX12_turned_25 (by decide) ?_
      refine x_ixor C dX12_turned_26 ?_
      refine x_iand C dX12_turned_27 ?_
      exact x_iret C dX12_turned_28 ⟨_, rfl, h⟩
  · replace h := x_iff hq1 h
    refine x_iload_n C 0 rfl rfl dX12_turned_6 ?_
    refine x_iconst C (v1 := 1) dX12_turned_7 (by decide) ?_
    refine x_iload_n C 1 rfl rfl dX12_turned_8 ?_
    refine x_ishl C dX12_turned_9 ?_
    refine x_ior C dX12_turned_10 ?_
    exact x_iret C dX12_turned_11 ⟨_, rfl, h⟩
set_option maxHeartbeats 4000000 in
set_option maxRecDepth 100000 in
theorem tX12_openBehind_6 {g : xG} (hg : x_inj (WM g))  {x : xCx}   {post : Int32 → xMem → Prop} (C : xOk (WM g) x cX12_openBehind RX12 6 (some .int) (rm_X12_openBehind) (pI post))   : ∀ (n : Nat) (x1 : Int32) (x2 : Int32) (x4 : Int32) (x5 : Int32) (M : xMem), wX12_openBehind_6 post n x1 x2 x4 x5 M → xW (WM g) x 6 6 [(0, .ref (ga g 0)), (1, .int x1), (2, .int x2), (4, .int x4), (5, .int x5)] [] M := by
  intro n
  induction n with
  | zero =>
    intro x1 x2 x4 x5 M  h
    exact h.elim
  | succ n ih =>
    intro x1 x2 x4 x5 M  h
    rw [wX12_openBehind_6] at h
    refine x_iload C 4 rfl dX12_openBehind_6 ?_
    refine x_iload_n C 2 rfl rfl dX12_openBehind_8 ?_
    refine x_icmp_ge C (tgt := 37) dX12_openBehind_9 (by decide) (fun hq1 => ?_) (fun hq1 => ?_)
    · replace h := x_ift hq1 h
      refine x_iload C 3 rfl dX12_openBehind_37 ?_
      exact x_iret C dX12_openBehind_39 ⟨_, rfl, h⟩
    · replace h := x_iff hq1 h
      refine x_iload C 3 rfl dX12_openBehind_12 ?_
      refine x_aload_n C 0 rfl rfl dX12_openBehind_14 ?_
      refine x_get C (c := 0) (ci := 12) (k1 := 12) (v1 := .ref (ga g 4)) (enM_12 (c := 0) rfl) (Nat.le_of_ble_eq_true rfl) rfl inX12 (by decide) wf_X12_25 rfl dX12_openBehind_15 ?_
      refine x_bipush C (v1 := 72) dX12_openBehind_18 (by decide) ?_
      refine x_iload_n C 1 rfl rfl dX12_openBehind_20 ?_
      refine x_imul C dX12_openBehind_21 ?_
      refine x_iload C 4 rfl dX12_openBehind_22 ?_
      refine x_iadd C dX12_openBehind_24 ?_
      obtain ⟨hi2, h⟩ := h
      refine x_iald C 0 (c := 4) (enM_20n (c := 4) (n := 432) rfl rfl) (Nat.le_of_ble_eq_true rfl) rfl hi2 dX12_openBehind_25 ?_
      refine x_callS C (st := []) (As := [.int x4, .int (gi M 4 ((72 * x1) + x5).toNatClampNeg)]) (tX12_turned hg _ _ _ _ _  h) wm_X12_275 wsm_X12_turned wz_X12 wc_X12_turned yd_X12_turned rfl ⟨rfl, rfl⟩ ⟨Nat.le_of_ble_eq_true rfl, Nat.le_of_ble_eq_true rfl⟩ (Nat.le_of_ble_eq_true rfl) rfl dX12_openBehind_26 (x_ki (fun r4 M3 h => ?_))
      refine x_istore C (L' := [(4, .int r4), (0, .ref (ga g 0)), (1, .int x1), (2, .int x2), (5, .int x5)]) rfl (Nat.le_of_ble_eq_true rfl) dX12_openBehind_29 ?_
      obtain ⟨v5, ev5⟩ : ∃ z : Int32, z = x5 + 1 := ⟨_, rfl⟩
      replace h := h v5 ev5
      refine x_iinc C 4 (v1 := v5) (L' := [(5, .int v5), (4, .int r4), (0, .ref (ga g 0)), (1, .int x1), (2, .int x2)]) rfl (by rw [ev5]; rfl) rfl (Nat.le_of_ble_eq_true rfl) dX12_openBehind_31 ?_
      refine x_goto C (tgt := 6) dX12_openBehind_34 (by decide) ?_
      refine x_loc (L' := [(0, .ref (ga g 0)), (1, .int x1), (2, .int x2), (4, .int r4), (5, .int v5)]) [2, 3, 4, 1, 0] rfl ?_
      exact ih _ _ _ _ _  h
set_option maxHeartbeats 4000000 in
set_option maxRecDepth 100000 in
theorem tX12_openBehind {g : xG} (hg : x_inj (WM g))  (l : Launch) (a0 : Int32) (a1 : Int32) (a2 : Int32) (M : xMem) (post : Int32 → xMem → Prop)  (h : wX12_openBehind a0 a1 a2 M post) : xMet (WM g) l yX12_openBehind cX12_openBehind 6 (some .int) (rm_X12_openBehind) [.ref (ga g 0), .int a0, .int a1, .int a2] M (pI post) := by
  refine x_enter (own := RX12) (L0 := [(0, .ref (ga g 0)), (1, .int a0), (2, .int a1), (3, .int a2)]) (by decide +kernel) rfl hg (x_stM g) (Nat.le_of_ble_eq_true rfl) rfl (fun x hl C => ?_)
  unfold wX12_openBehind at h
  refine x_iload_n C 3 rfl rfl dX12_openBehind_0 ?_
  refine x_istore C (L' := [(4, .int a2), (0, .ref (ga g 0)), (1, .int a0), (2, .int a1), (3, .int a2)]) rfl (Nat.le_of_ble_eq_true rfl) dX12_openBehind_1 ?_
  refine x_iconst C (v1 := 0) dX12_openBehind_3 (by decide) ?_
  refine x_istore C (L' := [(5, .int 0), (4, .int a2), (0, .ref (ga g 0)), (1, .int a0), (2, .int a1), (3, .int a2)]) rfl (Nat.le_of_ble_eq_true rfl) dX12_openBehind_4 ?_
  refine x_loc (L' := [(0, .ref (ga g 0)), (1, .int a0), (2, .int a1), (4, .int a2), (5, .int 0)]) [2, 3, 4, 1, 0] rfl ?_
  obtain ⟨n6, h⟩ := h
  exact tX12_openBehind_6 hg  C   _ _ _ _ _ _  h
set_option maxHeartbeats 4000000 in
set_option maxRecDepth 100000 in
theorem tX12_open {g : xG} (hg : x_inj (WM g))  (l : Launch) (a0 : Int32) (a1 : Int32) (a2 : Int32) (M : xMem) (post : Int32 → xMem → Prop)  (h : wX12_open a0 a1 a2 M post) : xMet (WM g) l yX12_open cX12_open 4 (some .int) (rm_X12_open) [.ref (ga g 0), .int a0, .int a1, .int a2] M (pI post) := by
  refine x_enter (own := RX12) (L0 := [(0, .ref (ga g 0)), (1, .int a0), (2, .int a1), (3, .int a2)]) (by decide +kernel) rfl hg (x_stM g) (Nat.le_of_ble_eq_true rfl) rfl (fun x hl C => ?_)
  unfold wX12_open at h
  refine x_aload_n C 0 rfl rfl dX12_open_0 ?_
  refine x_iload_n C 1 rfl rfl dX12_open_1 ?_
  refine x_callV C (st := []) (As := [.int a0]) (c := 0) (ci := 12) (enM_12 (c := 0) rfl) (Nat.le_of_ble_eq_true rfl) rfl (tX12_isTold hg _ _ _ _  h) wm_X12_279 wi_X12_isTold wv_X12_isTold wz_X12 wc_X12_isTold rfl yd_X12_isTold rfl ⟨rfl, rfl⟩ ⟨Nat.le_of_ble_eq_true rfl, Nat.le_of_ble_eq_true rfl⟩ (Nat.le_of_ble_eq_true rfl) rfl dX12_open_2 (x_ki (fun r2 M1 h => ?_))
  refine x_if_eq C (tgt := 46) dX12_open_5 (by decide) (fun hq3 => ?_) (fun hq3 => ?_)
  · replace h := x_ift hq3 h
    refine x_iconst C (v1 := (-1)) dX12_open_46 (by decide) ?_
    exact x_iret C dX12_open_47 ⟨_, rfl, h⟩
  · replace h := x_iff hq3 h
    refine x_iload_n C 2 rfl rfl dX12_open_8 ?_
    refine x_i2l C dX12_open_9 ?_
    refine x_lconst C (v1 := 0) dX12_open_10 (by decide) ?_
    refine x_aload_n C 0 rfl rfl dX12_open_11 ?_
    refine x_get C (c := 0) (ci := 12) (k1 := 11) (v1 := .ref (ga g 3)) (enM_12 (c := 0) rfl) (Nat.le_of_ble_eq_true rfl) rfl inX12 (by decide) wf_X12_21 rfl dX12_open_12 ?_
    refine x_iload_n C 1 rfl rfl dX12_open_15 ?_
    obtain ⟨hi4, h⟩ := h
    refine x_iald C 0 (c := 3) (enM_20n (c := 3) (n := 6) rfl rfl) (Nat.le_of_ble_eq_true rfl) rfl hi4 dX12_open_16 ?_
    refine x_i2l C dX12_open_17 ?_
    refine x_callS C (st := []) (As := [.long ((a1 : Int32).toInt64), .long 0, .long ((gi M1 3 a0.toNatClampNeg : Int32).toInt64)]) (tX12_lies hg _ _ _ _ _ _  h) wm_X12_222 wsm_X12_lies wz_X12 wc_X12_lies yd_X12_lies rfl ⟨rfl, rfl⟩ ⟨Nat.le_of_ble_eq_true rfl, Nat.le_of_ble_eq_true rfl⟩ (Nat.le_of_ble_eq_true rfl) rfl dX12_open_18 (x_ki (fun r6 M5 h => ?_))
    refine x_if_eq C (tgt := 46) dX12_open_21 (by decide) (fun hq7 => ?_) (fun hq7 => ?_)
    · replace h := x_ift hq7 h
      refine x_iconst C (v1 := (-1)) dX12_open_46 (by decide) ?_
      exact x_iret C dX12_open_47 ⟨_, rfl, h⟩
    · replace h := x_iff hq7 h
      refine x_iload_n C 3 rfl rfl dX12_open_24 ?_
      refine x_i2l C dX12_open_25 ?_
      refine x_lconst C (v1 := 0) dX12_open_26 (by decide) ?_
      refine x_ldc2 C (v1 := 1023) (wcl_X12_283) dX12_open_27 ?_
      refine x_callS C (st := []) (As := [.long ((a2 : Int32).toInt64), .long 0, .long 1023]) (tX12_lies hg _ _ _ _ _ _  h) wm_X12_222 wsm_X12_lies wz_X12 wc_X12_lies yd_X12_lies rfl ⟨rfl, rfl⟩ ⟨Nat.le_of_ble_eq_true rfl, Nat.le_of_ble_eq_true rfl⟩ (Nat.le_of_ble_eq_true rfl) rfl dX12_open_30 (x_ki (fun r9 M8 h => ?_))
      refine x_if_eq C (tgt := 46) dX12_open_33 (by decide) (fun hq10 => ?_) (fun hq10 => ?_)
      · replace h := x_ift hq10 h
        refine x_iconst C (v1 := (-1)) dX12_open_46 (by decide) ?_
        exact x_iret C dX12_open_47 ⟨_, rfl, h⟩
      · replace h := x_iff hq10 h
        refine x_aload_n C 0 rfl rfl dX12_open_36 ?_
        refine x_iload_n C 1 rfl rfl dX12_open_37 ?_
        refine x_iload_n C 2 rfl rfl dX12_open_38 ?_
        refine x_iload_n C 3 rfl rfl dX12_open_39 ?_
        refine x_callV C (st := []) (As := [.int a0, .int a1, .int a2]) (c := 0) (ci := 12) (enM_12 (c := 0) rfl) (Nat.le_of_ble_eq_true rfl) rfl (tX12_openBehind hg _ _ _ _ _ _  h) wm_X12_285 wi_X12_openBehind wv_X12_openBehind wz_X12 wc_X12_openBehind rfl yd_X12_openBehind rfl ⟨rfl, rfl⟩ ⟨Nat.le_of_ble_eq_true rfl, Nat.le_of_ble_eq_true rfl⟩ (Nat.le_of_ble_eq_true rfl) rfl dX12_open_40 (x_ki (fun r12 M11 h => ?_))
        refine x_goto C (tgt := 47) dX12_open_43 (by decide) ?_
        exact x_iret C dX12_open_47 ⟨_, rfl, h⟩
set_option maxHeartbeats 4000000 in
set_option maxRecDepth 100000 in
theorem tX12_mostOpen_38 {g : xG} (hg : x_inj (WM g))  {x : xCx}  {K4 : Int32 → Int32 → Int32 → xMem → Prop} {post : Int32 → xMem → Prop} (C : xOk (WM g) x cX12_mostOpen RX12 5 (some .int) (rm_X12_mostOpen) (pI post))  (hK4 : ∀ (x1 : Int32) (x2 : Int32) (x3 : Int32) (M : xMem), K4 x1 x2 x3 M → xW (WM g) x 5 4 [(0, .ref (ga g 0)), (1, .int x1), (2, .int x2), (3, .int x3)] [] M) (x1 : Int32) (x3 : Int32) (s0 : Int32) (M : xMem)  (h : wX12_mostOpen_38 K4 post x1 x3 s0 M) : xW (WM g) x 5 38 [(0, .ref (ga g 0)), (1, .int x1), (3, .int x3)] [.int s0] M := by
  unfold wX12_mostOpen_38 at h
  refine x_istore_n C (L' := [(2, .int s0), (0, .ref (ga g 0)), (1, .int x1), (3, .int x3)]) rfl rfl (Nat.le_of_ble_eq_true rfl) dX12_mostOpen_38 ?_
  obtain ⟨v1, ev1⟩ : ∃ z : Int32, z = x3 + 1 := ⟨_, rfl⟩
  replace h := h v1 ev1
  refine x_iinc C 3 (v1 := v1) (L' := [(3, .int v1), (2, .int s0), (0, .ref (ga g 0)), (1, .int x1)]) rfl (by rw [ev1]; rfl) rfl (Nat.le_of_ble_eq_true rfl) dX12_mostOpen_39 ?_
  refine x_goto C (tgt := 4) dX12_mostOpen_42 (by decide) ?_
  refine x_loc (L' := [(0, .ref (ga g 0)), (1, .int x1), (2, .int s0), (3, .int v1)]) [2, 3, 1, 0] rfl ?_
  exact hK4 _ _ _ _  h
set_option maxHeartbeats 4000000 in
set_option maxRecDepth 100000 in
theorem tX12_mostOpen_4 {g : xG} (hg : x_inj (WM g))  {x : xCx}   {post : Int32 → xMem → Prop} (C : xOk (WM g) x cX12_mostOpen RX12 5 (some .int) (rm_X12_mostOpen) (pI post))   : ∀ (n : Nat) (x1 : Int32) (x2 : Int32) (x3 : Int32) (M : xMem), wX12_mostOpen_4 post n x1 x2 x3 M → xW (WM g) x 5 4 [(0, .ref (ga g 0)), (1, .int x1), (2, .int x2), (3, .int x3)] [] M := by
  intro n
  induction n with
  | zero =>
    intro x1 x2 x3 M  h
    exact h.elim
  | succ n ih =>
    intro x1 x2 x3 M  h
    rw [wX12_mostOpen_4] at h
    refine x_iload_n C 3 rfl rfl dX12_mostOpen_4 ?_
    refine x_aload_n C 0 rfl rfl dX12_mostOpen_5 ?_
    refine x_get C (c := 0) (ci := 12) (k1 := 11) (v1 := .ref (ga g 3)) (enM_12 (c := 0) rfl) (Nat.le_of_ble_eq_true rfl) rfl inX12 (by decide) wf_X12_21 rfl dX12_mostOpen_6 ?_
    refine x_iload_n C 1 rfl rfl dX12_mostOpen_9 ?_
    obtain ⟨hi1, h⟩ := h
    refine x_iald C 0 (c := 3) (enM_20n (c := 3) (n := 6) rfl rfl) (Nat.le_of_ble_eq_true rfl) rfl hi1 dX12_mostOpen_10 ?_
    refine x_icmp_gt C (tgt := 45) dX12_mostOpen_11 (by decide) (fun hq2 => ?_) (fun hq2 => ?_)
    · replace h := x_ift hq2 h
      refine x_iload_n C 2 rfl rfl dX12_mostOpen_45 ?_
      exact x_iret C dX12_mostOpen_46 ⟨_, rfl, h⟩
    · replace h := x_iff hq2 h
      refine x_aload_n C 0 rfl rfl dX12_mostOpen_14 ?_
      refine x_iload_n C 1 rfl rfl dX12_mostOpen_15 ?_
      refine x_iload_n C 3 rfl rfl dX12_mostOpen_16 ?_
      refine x_iconst C (v1 := 0) dX12_mostOpen_17 (by decide) ?_
      refine x_callV C (st := []) (As := [.int x1, .int x3, .int 0]) (c := 0) (ci := 12) (enM_12 (c := 0) rfl) (Nat.le_of_ble_eq_true rfl) rfl (tX12_openBehind hg _ _ _ _ _ _  h) wm_X12_285 wi_X12_openBehind wv_X12_openBehind wz_X12 wc_X12_openBehind rfl yd_X12_openBehind rfl ⟨rfl, rfl⟩ ⟨Nat.le_of_ble_eq_true rfl, Nat.le_of_ble_eq_true rfl⟩ (Nat.le_of_ble_eq_true rfl) rfl dX12_mostOpen_18 (x_ki (fun r4 M3 h => ?_))
      refine x_callS C (st := []) (As := [.int r4]) (tX12_sizeOf hg _ _ _ _  h) wm_X12_289 wsm_X12_sizeOf wz_X12 wc_X12_sizeOf yd_X12_sizeOf rfl ⟨rfl, rfl⟩ ⟨Nat.le_of_ble_eq_true rfl, Nat.le_of_ble_eq_true rfl⟩ (Nat.le_of_ble_eq_true rfl) rfl dX12_mostOpen_21 (x_ki (fun r6 M5 h => ?_))
      refine x_istore C (L' := [(4, .int r6), (0, .ref (ga g 0)), (1, .int x1), (2, .int x2), (3, .int x3)]) rfl (Nat.le_of_ble_eq_true rfl) dX12_mostOpen_24 ?_
      refine x_iload C 0 rfl dX12_mostOpen_26 ?_
      refine x_iload_n C 3 rfl rfl dX12_mostOpen_28 ?_
      refine x_icmp_le C (tgt := 37) dX12_mostOpen_29 (by decide) (fun hq7 => ?_) (fun hq7 => ?_)
      · replace h := x_ift hq7 h
        refine x_iload_n C 3 rfl rfl dX12_mostOpen_37 ?_
        refine x_loc (L' := [(0, .ref (ga g 0)), (1, .int x1), (3, .int x3)]) [1, 2, 4] rfl ?_
        exact tX12_mostOpen_38 hg  C  ih _ _ _ _  h
      · replace h := x_iff hq7 h
        refine x_iload C 0 rfl dX12_mostOpen_32 ?_
        refine x_goto C (tgt := 38) dX12_mostOpen_34 (by decide) ?_
        refine x_loc (L' := [(0, .ref (ga g 0)), (1, .int x1), (3, .int x3)]) [1, 2, 4] rfl ?_
        exact tX12_mostOpen_38 hg  C  ih _ _ _ _  h
set_option maxHeartbeats 4000000 in
set_option maxRecDepth 100000 in
theorem tX12_mostOpen {g : xG} (hg : x_inj (WM g))  (l : Launch) (a0 : Int32) (M : xMem) (post : Int32 → xMem → Prop)  (h : wX12_mostOpen a0 M post) : xMet (WM g) l yX12_mostOpen cX12_mostOpen 5 (some .int) (rm_X12_mostOpen) [.ref (ga g 0), .int a0] M (pI post) := by
  refine x_enter (own := RX12) (L0 := [(0, .ref (ga g 0)), (1, .int a0)]) (by decide +kernel) rfl hg (x_stM g) (Nat.le_of_ble_eq_true rfl) rfl (fun x hl C => ?_)
  unfold wX12_mostOpen at h
  refine x_iconst C (v1 := 0) dX12_mostOpen_0 (by decide) ?_
  refine x_istore_n C (L' := [(2, .int 0), (0, .ref (ga g 0)), (1, .int a0)]) rfl rfl (Nat.le_of_ble_eq_true rfl) dX12_mostOpen_1 ?_
  refine x_iconst C (v1 := 0) dX12_mostOpen_2 (by decide) ?_
  refine x_istore_n C (L' := [(3, .int 0), (2, .int 0), (0, .ref (ga g 0)), (1, .int a0)]) rfl rfl (Nat.le_of_ble_eq_true rfl) dX12_mostOpen_3 ?_
  refine x_loc (L' := [(0, .ref (ga g 0)), (1, .int a0), (2, .int 0), (3, .int 0)]) [2, 3, 1, 0] rfl ?_
  obtain ⟨n4, h⟩ := h
  exact tX12_mostOpen_4 hg  C   _ _ _ _ _  h
set_option maxHeartbeats 4000000 in
set_option maxRecDepth 100000 in
theorem tX12_threadsOf_64 {g : xG} (hg : x_inj (WM g))  {x : xCx}  {K7 : Int32 → Int32 → Int32 → Int32 → xMem → Prop} {post : Int32 → xMem → Prop} (C : xOk (WM g) x cX12_threadsOf RX12 7 (some .int) (rm_X12_threadsOf) (pI post))  (hK7 : ∀ (x1 : Int32) (x2 : Int32) (x3 : Int32) (x4 : Int32) (M : xMem), K7 x1 x2 x3 x4 M → xW (WM g) x 7 7 [(0, .ref (ga g 0)), (1, .int x1), (2, .int x2), (3, .int x3), (4, .int x4)] [] M) (x1 : Int32) (x4 : Int32) (x6 : Int32) (s0 : Int32) (s1 : Int32) (M : xMem)  (h : wX12_threadsOf_64 K7 post x1 x4 x6 s0 s1 M) : xW (WM g) x 7 64 [(0, .ref (ga g 0)), (1, .int x1), (4, .int x4), (6, .int x6)] [.int s0, .int s1] M := by
  unfold wX12_threadsOf_64 at h
  refine x_ior C dX12_threadsOf_64 ?_
  refine x_nm (fun v1 ev1 => ?_)
  replace h := h v1 ev1
  refine x_istore_n C (L' := [(2, .int v1), (0, .ref (ga g 0)), (1, .int x1), (4, .int x4), (6, .int x6)]) rfl rfl (Nat.le_of_ble_eq_true rfl) dX12_threadsOf_65 ?_
  refine x_iload C 4 rfl dX12_threadsOf_66 ?_
  refine x_istore_n C (L' := [(3, .int x6), (2, .int v1), (0, .ref (ga g 0)), (1, .int x1), (4, .int x4), (6, .int x6)]) rfl rfl (Nat.le_of_ble_eq_true rfl) dX12_threadsOf_68 ?_
  obtain ⟨v2, ev2⟩ : ∃ z : Int32, z = x4 + 1 := ⟨_, rfl⟩
  replace h := h v2 ev2
  refine x_iinc C 4 (v1 := v2) (L' := [(4, .int v2), (3, .int x6), (2, .int v1), (0, .ref (ga g 0)), (1, .int x1), (6, .int x6)]) rfl (by rw [ev2]; rfl) rfl (Nat.le_of_ble_eq_true rfl) dX12_threadsOf_69 ?_
  refine x_goto C (tgt := 7) dX12_threadsOf_72 (by decide) ?_
  refine x_loc (L' := [(0, .ref (ga g 0)), (1, .int x1), (2, .int v1), (3, .int x6), (4, .int v2)]) [3, 4, 2, 1, 0] rfl ?_
  exact hK7 _ _ _ _ _  h
set_option maxHeartbeats 4000000 in
set_option maxRecDepth 100000 in
theorem tX12_threadsOf_7 {g : xG} (hg : x_inj (WM g))  {x : xCx}   {post : Int32 → xMem → Prop} (C : xOk (WM g) x cX12_threadsOf RX12 7 (some .int) (rm_X12_threadsOf) (pI post))   : ∀ (n : Nat) (x1 : Int32) (x2 : Int32) (x3 : Int32) (x4 : Int32) (M : xMem), wX12_threadsOf_7 post n x1 x2 x3 x4 M → xW (WM g) x 7 7 [(0, .ref (ga g 0)), (1, .int x1), (2, .int x2), (3, .int x3), (4, .int x4)] [] M := by
  intro n
  induction n with
  | zero =>
    intro x1 x2 x3 x4 M  h
    exact h.elim
  | succ n ih =>
    intro x1 x2 x3 x4 M  h
    rw [wX12_threadsOf_7] at h
    refine x_iload C 4 rfl dX12_threadsOf_7 ?_
    refine x_aload_n C 0 rfl rfl dX12_threadsOf_9 ?_
    refine x_get C (c := 0) (ci := 12) (k1 := 11) (v1 := .ref (ga g 3)) (enM_12 (c := 0) rfl) (Nat.le_of_ble_eq_true rfl) rfl inX12 (by decide) wf_X12_21 rfl dX12_threadsOf_10 ?_
    refine x_iload_n C 1 rfl rfl dX12_threadsOf_13 ?_
    obtain ⟨hi1, h⟩ := h
    refine x_iald C 0 (c := 3) (enM_20n (c := 3) (n := 6) rfl rfl) (Nat.le_of_ble_eq_true rfl) rfl hi1 dX12_threadsOf_14 ?_
    refine x_icmp_ge C (tgt := 75) dX12_threadsOf_15 (by decide) (fun hq2 => ?_) (fun hq2 => ?_)
    · replace h := x_ift hq2 h
      refine x_iload_n C 2 rfl rfl dX12_threadsOf_75 ?_
      exact x_iret C dX12_threadsOf_76 ⟨_, rfl, h⟩
    · replace h := x_iff hq2 h
      refine x_aload_n C 0 rfl rfl dX12_threadsOf_18 ?_
      refine x_get C (c := 0) (ci := 12) (k1 := 12) (v1 := .ref (ga g 4)) (enM_12 (c := 0) rfl) (Nat.le_of_ble_eq_true rfl) rfl inX12 (by decide) wf_X12_25 rfl dX12_threadsOf_19 ?_
      refine x_bipush C (v1 := 72) dX12_threadsOf_22 (by decide) ?_
      refine x_iload_n C 1 rfl rfl dX12_threadsOf_24 ?_
      refine x_imul C dX12_threadsOf_25 ?_
      refine x_iload C 4 rfl dX12_threadsOf_26 ?_
      refine x_iadd C dX12_threadsOf_28 ?_
      obtain ⟨hi3, h⟩ := h
      refine x_iald C 0 (c := 4) (enM_20n (c := 4) (n := 432) rfl rfl) (Nat.le_of_ble_eq_true rfl) rfl hi3 dX12_threadsOf_29 ?_
      refine x_nm (fun v4 ev4 => ?_)
      replace h := h v4 ev4
      refine x_istore C (L' := [(5, .int v4), (0, .ref (ga g 0)), (1, .int x1), (2, .int x2), (3, .int x3), (4, .int x4)]) rfl (Nat.le_of_ble_eq_true rfl) dX12_threadsOf_30 ?_
      refine x_iload_n C 4 rfl rfl dX12_threadsOf_32 ?_
      refine x_iload C 0 rfl dX12_threadsOf_33 ?_
      refine x_callS C (st := []) (As := [.int x3, .int v4]) (tX12_turned hg _ _ _ _ _  h) wm_X12_275 wsm_X12_turned wz_X12 wc_X12_turned yd_X12_turned rfl ⟨rfl, rfl⟩ ⟨Nat.le_of_ble_eq_true rfl, Nat.le_of_ble_eq_true rfl⟩ (Nat.le_of_ble_eq_true rfl) rfl dX12_threadsOf_35 (x_ki (fun r6 M5 h => ?_))
      refine x_istore C (L' := [(6, .int r6), (5, .int v4), (0, .ref (ga g 0)), (1, .int x1), (2, .int x2), (3, .int x3), (4, .int x4)]) rfl (Nat.le_of_ble_eq_true rfl) dX12_threadsOf_38 ?_
      refine x_iload_n C 4 rfl rfl dX12_threadsOf_40 ?_
      refine x_iload C 1 rfl dX12_threadsOf_41 ?_
      refine x_bipush C (v1 := 20) dX12_threadsOf_43 (by decide) ?_
      refine x_icmp_ge C (tgt := 58) dX12_threadsOf_45 (by decide) (fun hq7 => ?_) (fun hq7 => ?_)
      · replace h := x_ift hq7 h
        refine x_iload C 0 rfl dX12_threadsOf_58 ?_
        refine x_iload_n C 5 rfl rfl dX12_threadsOf_60 ?_
        refine x_iconst C (v1 := (-1)) dX12_threadsOf_61 (by decide) ?_
        refine x_ixor C dX12_threadsOf_62 ?_
        refine x_iand C dX12_threadsOf_63 ?_
        refine x_loc (L' := [(0, .ref (ga g 0)), (1, .int x1), (4, .int x4), (6, .int r6)]) [2, 3, 6, 0] rfl ?_
        exact tX12_threadsOf_64 hg  C  ih _ _ _ _ _ _  h
      · replace h := x_iff hq7 h
        refine x_iconst C (v1 := 1) dX12_threadsOf_48 (by decide) ?_
        refine x_iload C 1 rfl dX12_threadsOf_49 ?_
        refine x_bipush C (v1 := 10) dX12_threadsOf_51 (by decide) ?_
        obtain ⟨hz8, h⟩ := h
        refine x_irem C hz8 dX12_threadsOf_53 ?_
        refine x_ishl C dX12_threadsOf_54 ?_
        refine x_goto C (tgt := 64) dX12_threadsOf_55 (by decide) ?_
        refine x_loc (L' := [(0, .ref (ga g 0)), (1, .int x1), (4, .int x4), (6, .int r6)]) [2, 3, 6, 0] rfl ?_
        exact tX12_threadsOf_64 hg  C  ih _ _ _ _ _ _  h
set_option maxHeartbeats 4000000 in
set_option maxRecDepth 100000 in
theorem tX12_threadsOf {g : xG} (hg : x_inj (WM g))  (l : Launch) (a0 : Int32) (M : xMem) (post : Int32 → xMem → Prop)  (h : wX12_threadsOf a0 M post) : xMet (WM g) l yX12_threadsOf cX12_threadsOf 7 (some .int) (rm_X12_threadsOf) [.ref (ga g 0), .int a0] M (pI post) := by
  refine x_enter (own := RX12) (L0 := [(0, .ref (ga g 0)), (1, .int a0)]) (by decide +kernel) rfl hg (x_stM g) (Nat.le_of_ble_eq_true rfl) rfl (fun x hl C => ?_)
  unfold wX12_threadsOf at h
  refine x_iconst C (v1 := 0) dX12_threadsOf_0 (by decide) ?_
  refine x_istore_n C (L' := [(2, .int 0), (0, .ref (ga g 0)), (1, .int a0)]) rfl rfl (Nat.le_of_ble_eq_true rfl) dX12_threadsOf_1 ?_
  refine x_iconst C (v1 := 0) dX12_threadsOf_2 (by decide) ?_
  refine x_istore_n C (L' := [(3, .int 0), (2, .int 0), (0, .ref (ga g 0)), (1, .int a0)]) rfl rfl (Nat.le_of_ble_eq_true rfl) dX12_threadsOf_3 ?_
  refine x_iconst C (v1 := 0) dX12_threadsOf_4 (by decide) ?_
  refine x_istore C (L' := [(4, .int 0), (3, .int 0), (2, .int 0), (0, .ref (ga g 0)), (1, .int a0)]) rfl (Nat.le_of_ble_eq_true rfl) dX12_threadsOf_5 ?_
  refine x_loc (L' := [(0, .ref (ga g 0)), (1, .int a0), (2, .int 0), (3, .int 0), (4, .int 0)]) [3, 4, 2, 1, 0] rfl ?_
  obtain ⟨n7, h⟩ := h
  exact tX12_threadsOf_7 hg  C   _ _ _ _ _ _  h
set_option maxHeartbeats 4000000 in
set_option maxRecDepth 100000 in
theorem tX12_knotOf_88 {g : xG} (hg : x_inj (WM g))  {x : xCx}  {K6 : Int32 → Int32 → xMem → Prop} {K15 : Int32 → Int32 → Int32 → xMem → Prop} {K25 : Int32 → Int32 → Int32 → Int32 → xMem → Prop} {post : Int32 → xMem → Prop} (C : xOk (WM g) x cX12_knotOf RX12 6 (some .int) (rm_X12_knotOf) (pI post))  (hK6 : ∀ (x2 : Int32) (x3 : Int32) (M : xMem), K6 x2 x3 M → xW (WM g) x 6 6 [(0, .ref (ga g 0)), (2, .int x2), (3, .int x3)] [] M) (hK15 : ∀ (x2 : Int32) (x3 : Int32) (x4 : Int32) (M : xMem), K15 x2 x3 x4 M → xW (WM g) x 6 15 [(0, .ref (ga g 0)), (2, .int x2), (3, .int x3), (4, .int x4)] [] M) (hK25 : ∀ (x2 : Int32) (x3 : Int32) (x4 : Int32) (x5 : Int32) (M : xMem), K25 x2 x3 x4 x5 M → xW (WM g) x 6 25 [(0, .ref (ga g 0)), (2, .int x2), (3, .int x3), (4, .int x4), (5, .int x5)] [] M) (x2 : Int32) (x3 : Int32) (x4 : Int32) (x5 : Int32) (M : xMem)  (h : wX12_knotOf_88 K6 K15 K25 post x2 x3 x4 x5 M) : xW (WM g) x 6 88 [(0, .ref (ga g 0)), (2, .int x2), (3, .int x3), (4, .int x4), (5, .int x5)] [] M := by
  unfold wX12_knotOf_88 at h
  obtain ⟨v1, ev1⟩ : ∃ z : Int32, z = x5 + 1 := ⟨_, rfl⟩
  replace h := h v1 ev1
  refine x_iinc C 4 (v1 := v1) (L' := [(5, .int v1), (0, .ref (ga g 0)), (2, .int x2), (3, .int x3), (4, .int x4)]) rfl (by rw [ev1]; rfl) rfl (Nat.le_of_ble_eq_true rfl) dX12_knotOf_88 ?_
  refine x_goto C (tgt := 25) dX12_knotOf_91 (by decide) ?_
  refine x_loc (L' := [(0, .ref (ga g 0)), (2, .int x2), (3, .int x3), (4, .int x4), (5, .int v1)]) [1, 2, 3, 4, 0] rfl ?_
  exact hK25 _ _ _ _ _  h
set_option maxHeartbeats 4000000 in
set_option maxRecDepth 100000 in
theorem tX12_knotOf_25 {g : xG} (hg : x_inj (WM g))  {x : xCx}  {K6 : Int32 → Int32 → xMem → Prop} {K15 : Int32 → Int32 → Int32 → xMem → Prop} {post : Int32 → xMem → Prop} (C : xOk (WM g) x cX12_knotOf RX12 6 (some .int) (rm_X12_knotOf) (pI post))  (hK6 : ∀ (x2 : Int32) (x3 : Int32) (M : xMem), K6 x2 x3 M → xW (WM g) x 6 6 [(0, .ref (ga g 0)), (2, .int x2), (3, .int x3)] [] M) (hK15 : ∀ (x2 : Int32) (x3 : Int32) (x4 : Int32) (M : xMem), K15 x2 x3 x4 M → xW (WM g) x 6 15 [(0, .ref (ga g 0)), (2, .int x2), (3, .int x3), (4, .int x4)] [] M) : ∀ (n : Nat) (x2 : Int32) (x3 : Int32) (x4 : Int32) (x5 : Int32) (M : xMem), wX12_knotOf_25 K6 K15 post n x2 x3 x4 x5 M → xW (WM g) x 6 25 [(0, .ref (ga g 0)), (2, .int x2), (3, .int x3), (4, .int x4), (5, .int x5)] [] M := by
  intro n
  induction n with
  | zero =>
    intro x2 x3 x4 x5 M  h
    exact h.elim
  | succ n ih =>
    intro x2 x3 x4 x5 M  h
    rw [wX12_knotOf_25] at h
    refine x_iload C 4 rfl dX12_knotOf_25 ?_
    refine x_bipush C (v1 := 6) dX12_knotOf_27 (by decide) ?_
    refine x_icmp_ge C (tgt := 94) dX12_knotOf_29 (by decide) (fun hq1 => ?_) (fun hq1 => ?_)
    · replace h := x_ift hq1 h
      obtain ⟨v2, ev2⟩ : ∃ z : Int32, z = x4 + 1 := ⟨_, rfl⟩
      replace h := h v2 ev2
      refine x_iinc C 3 (v1 := v2) (L' := [(4, .int v2), (0, .ref (ga g 0)), (2, .int x2), (3, .int x3), (5, .int x5)]) rfl (by rw [ev2]; rfl) rfl (Nat.le_of_ble_eq_true rfl) dX12_knotOf_94 ?_
      refine x_goto C (tgt := 15) dX12_knotOf_97 (by decide) ?_
      refine x_loc (L' := [(0, .ref (ga g 0)), (2, .int x2), (3, .int x3), (4, .int v2)]) [1, 2, 3, 0] rfl ?_
      exact hK15 _ _ _ _  h
    · replace h := x_iff hq1 h
      refine x_iload_n C 1 rfl rfl dX12_knotOf_32 ?_
      refine x_iload C 3 rfl dX12_knotOf_33 ?_
      refine x_callS C (st := []) (As := [.int x2, .int x4]) (tX12_has hg _ _ _ _ _  h) wm_X12_194 wsm_X12_has wz_X12 wc_X12_has yd_X12_has rfl ⟨rfl, rfl⟩ ⟨Nat.le_of_ble_eq_true rfl, Nat.le_of_ble_eq_true rfl⟩ (Nat.le_of_ble_eq_true rfl) rfl dX12_knotOf_35 (x_ki (fun r4 M3 h => ?_))
      refine x_if_eq C (tgt := 88) dX12_knotOf_38 (by decide) (fun hq5 => ?_) (fun hq5 => ?_)
      · replace h := x_ift hq5 h
        exact tX12_knotOf_88 hg  C  hK6 hK15 ih _ _ _ _ _  h
      · replace h := x_iff hq5 h
        refine x_iload_n C 1 rfl rfl dX12_knotOf_41 ?_
        refine x_iload C 4 rfl dX12_knotOf_42 ?_
        refine x_callS C (st := []) (As := [.int x2, .int x5]) (tX12_has hg _ _ _ _ _  h) wm_X12_194 wsm_X12_has wz_X12 wc_X12_has yd_X12_has rfl ⟨rfl, rfl⟩ ⟨Nat.le_of_ble_eq_true rfl, Nat.le_of_ble_eq_true rfl⟩ (Nat.le_of_ble_eq_true rfl) rfl dX12_knotOf_44 (x_ki (fun r7 M6 h => ?_))
        refine x_if_ne C (tgt := 88) dX12_knotOf_47 (by decide) (fun hq8 => ?_) (fun hq8 => ?_)
        · replace h := x_iff hq8 h
          exact tX12_knotOf_88 hg  C  hK6 hK15 ih _ _ _ _ _  h
        · replace h := x_ift hq8 h
          refine x_aload_n C 0 rfl rfl dX12_knotOf_50 ?_
          refine x_get C (c := 0) (ci := 12) (k1 := 10) (v1 := .ref (ga g 2)) (enM_12 (c := 0) rfl) (Nat.le_of_ble_eq_true rfl) rfl inX12 (by decide) wf_X12_17 rfl dX12_knotOf_51 ?_
          refine x_iload C 4 rfl dX12_knotOf_54 ?_
          obtain ⟨hi9, h⟩ := h
          refine x_zald C 2 (c := 2) (enM_24n (c := 2) (n := 6) rfl rfl) (Nat.le_of_ble_eq_true rfl) rfl hi9 dX12_knotOf_56 ?_
          refine x_if_eq C (tgt := 88) dX12_knotOf_57 (by decide) (fun hq10 => ?_) (fun hq10 => ?_)
          · replace h := x_ift hq10 h
            exact tX12_knotOf_88 hg  C  hK6 hK15 ih _ _ _ _ _  h
          · replace h := x_iff hq10 h
            refine x_aload_n C 0 rfl rfl dX12_knotOf_60 ?_
            refine x_iload C 3 rfl dX12_knotOf_61 ?_
            refine x_callV C (st := []) (As := [.int x4]) (c := 0) (ci := 12) (enM_12 (c := 0) rfl) (Nat.le_of_ble_eq_true rfl) rfl (tX12_threadsOf hg _ _ _ _  h) wm_X12_292 wi_X12_threadsOf wv_X12_threadsOf wz_X12 wc_X12_threadsOf rfl yd_X12_threadsOf rfl ⟨rfl, rfl⟩ ⟨Nat.le_of_ble_eq_true rfl, Nat.le_of_ble_eq_true rfl⟩ (Nat.le_of_ble_eq_true rfl) rfl dX12_knotOf_63 (x_ki (fun r12 M11 h => ?_))
            refine x_aload_n C 0 rfl rfl dX12_knotOf_66 ?_
            refine x_iload C 4 rfl dX12_knotOf_67 ?_
            refine x_callV C (st := [.int r12]) (As := [.int x5]) (c := 0) (ci := 12) (enM_12 (c := 0) rfl) (Nat.le_of_ble_eq_true rfl) rfl (tX12_threadsOf hg _ _ _ _  h) wm_X12_292 wi_X12_threadsOf wv_X12_threadsOf wz_X12 wc_X12_threadsOf rfl yd_X12_threadsOf rfl ⟨rfl, rfl⟩ ⟨Nat.le_of_ble_eq_true rfl, Nat.le_of_ble_eq_true rfl⟩ (Nat.le_of_ble_eq_true rfl) rfl dX12_knotOf_69 (x_ki (fun r14 M13 h => ?_))
            refine x_iand C dX12_knotOf_72 ?_
            refine x_if_ne C (tgt := 79) dX12_knotOf_73 (by decide) (fun hq15 => ?_) (fun hq15 => ?_)
            · replace h := x_iff hq15 h
              refine x_iload_n C 1 rfl rfl dX12_knotOf_79 ?_
              refine x_iconst C (v1 := 1) dX12_knotOf_80 (by decide) ?_
              refine x_iload C 4 rfl dX12_knotOf_81 ?_
              refine x_ishl C dX12_knotOf_83 ?_
              refine x_ior C dX12_knotOf_84 ?_
              refine x_nm (fun v16 ev16 => ?_)
              replace h := h v16 ev16
              refine x_istore_n C (L' := [(2, .int v16), (0, .ref (ga g 0)), (3, .int x3), (4, .int x4), (5, .int x5)]) rfl rfl (Nat.le_of_ble_eq_true rfl) dX12_knotOf_85 ?_
              refine x_iconst C (v1 := 1) dX12_knotOf_86 (by decide) ?_
              refine x_istore_n C (L' := [(3, .int 1), (2, .int v16), (0, .ref (ga g 0)), (4, .int x4), (5, .int x5)]) rfl rfl (Nat.le_of_ble_eq_true rfl) dX12_knotOf_87 ?_
              refine x_loc (L' := [(0, .ref (ga g 0)), (2, .int v16), (3, .int 1), (4, .int x4), (5, .int x5)]) [2, 1, 0, 3, 4] rfl ?_
              exact tX12_knotOf_88 hg  C  hK6 hK15 ih _ _ _ _ _  h
            · replace h := x_ift hq15 h
              refine x_goto C (tgt := 88) dX12_knotOf_76 (by decide) ?_
              exact tX12_knotOf_88 hg  C  hK6 hK15 ih _ _ _ _ _  h
set_option maxHeartbeats 4000000 in
set_option maxRecDepth 100000 in
theorem tX12_knotOf_15 {g : xG} (hg : x_inj (WM g))  {x : xCx}  {K6 : Int32 → Int32 → xMem → Prop} {post : Int32 → xMem → Prop} (C : xOk (WM g) x cX12_knotOf RX12 6 (some .int) (rm_X12_knotOf) (pI post))  (hK6 : ∀ (x2 : Int32) (x3 : Int32) (M : xMem), K6 x2 x3 M → xW (WM g) x 6 6 [(0, .ref (ga g 0)), (2, .int x2), (3, .int x3)] [] M) : ∀ (n : Nat) (x2 : Int32) (x3 : Int32) (x4 : Int32) (M : xMem), wX12_knotOf_15 K6 post n x2 x3 x4 M → xW (WM g) x 6 15 [(0, .ref (ga g 0)), (2, .int x2), (3, .int x3), (4, .int x4)] [] M := by
  intro n
  induction n with
  | zero =>
    intro x2 x3 x4 M  h
    exact h.elim
  | succ n ih =>
    intro x2 x3 x4 M  h
    rw [wX12_knotOf_15] at h
    refine x_iload C 3 rfl dX12_knotOf_15 ?_
    refine x_bipush C (v1 := 6) dX12_knotOf_17 (by decide) ?_
    refine x_icmp_ge C (tgt := 100) dX12_knotOf_19 (by decide) (fun hq1 => ?_) (fun hq1 => ?_)
    · replace h := x_ift hq1 h
      refine x_goto C (tgt := 6) dX12_knotOf_100 (by decide) ?_
      refine x_loc (L' := [(0, .ref (ga g 0)), (2, .int x2), (3, .int x3)]) [0, 1, 2] rfl ?_
      exact hK6 _ _ _  h
    · replace h := x_iff hq1 h
      refine x_iconst C (v1 := 0) dX12_knotOf_22 (by decide) ?_
      refine x_istore C (L' := [(5, .int 0), (0, .ref (ga g 0)), (2, .int x2), (3, .int x3), (4, .int x4)]) rfl (Nat.le_of_ble_eq_true rfl) dX12_knotOf_23 ?_
      refine x_loc (L' := [(0, .ref (ga g 0)), (2, .int x2), (3, .int x3), (4, .int x4), (5, .int 0)]) [1, 2, 3, 4, 0] rfl ?_
      obtain ⟨n25, h⟩ := h
      exact tX12_knotOf_25 hg  C  hK6 ih _ _ _ _ _ _  h
set_option maxHeartbeats 4000000 in
set_option maxRecDepth 100000 in
theorem tX12_knotOf_6 {g : xG} (hg : x_inj (WM g))  {x : xCx}   {post : Int32 → xMem → Prop} (C : xOk (WM g) x cX12_knotOf RX12 6 (some .int) (rm_X12_knotOf) (pI post))   : ∀ (n : Nat) (x2 : Int32) (x3 : Int32) (M : xMem), wX12_knotOf_6 post n x2 x3 M → xW (WM g) x 6 6 [(0, .ref (ga g 0)), (2, .int x2), (3, .int x3)] [] M := by
  intro n
  induction n with
  | zero =>
    intro x2 x3 M  h
    exact h.elim
  | succ n ih =>
    intro x2 x3 M  h
    rw [wX12_knotOf_6] at h
    refine x_iload_n C 2 rfl rfl dX12_knotOf_6 ?_
    refine x_if_eq C (tgt := 103) dX12_knotOf_7 (by decide) (fun hq1 => ?_) (fun hq1 => ?_)
    · replace h := x_ift hq1 h
      refine x_iload_n C 1 rfl rfl dX12_knotOf_103 ?_
      exact x_iret C dX12_knotOf_104 ⟨_, rfl, h⟩
    · replace h := x_iff hq1 h
      refine x_iconst C (v1 := 0) dX12_knotOf_10 (by decide) ?_
      refine x_istore_n C (L' := [(3, .int 0), (0, .ref (ga g 0)), (2, .int x2)]) rfl rfl (Nat.le_of_ble_eq_true rfl) dX12_knotOf_11 ?_
      refine x_iconst C (v1 := 0) dX12_knotOf_12 (by decide) ?_
      refine x_istore C (L' := [(4, .int 0), (3, .int 0), (0, .ref (ga g 0)), (2, .int x2)]) rfl (Nat.le_of_ble_eq_true rfl) dX12_knotOf_13 ?_
      refine x_loc (L' := [(0, .ref (ga g 0)), (2, .int x2), (3, .int 0), (4, .int 0)]) [2, 3, 1, 0] rfl ?_
      obtain ⟨n15, h⟩ := h
      exact tX12_knotOf_15 hg  C  ih _ _ _ _ _  h
set_option maxHeartbeats 4000000 in
set_option maxRecDepth 100000 in
theorem tX12_knotOf {g : xG} (hg : x_inj (WM g))  (l : Launch) (a0 : Int32) (M : xMem) (post : Int32 → xMem → Prop)  (h : wX12_knotOf a0 M post) : xMet (WM g) l yX12_knotOf cX12_knotOf 6 (some .int) (rm_X12_knotOf) [.ref (ga g 0), .int a0] M (pI post) := by
  refine x_enter (own := RX12) (L0 := [(0, .ref (ga g 0)), (1, .int a0)]) (by decide +kernel) rfl hg (x_stM g) (Nat.le_of_ble_eq_true rfl) rfl (fun x hl C => ?_)
  unfold wX12_knotOf at h
  refine x_iconst C (v1 := 1) dX12_knotOf_0 (by decide) ?_
  refine x_iload_n C 1 rfl rfl dX12_knotOf_1 ?_
  refine x_ishl C dX12_knotOf_2 ?_
  refine x_nm (fun v1 ev1 => ?_)
  replace h := h v1 ev1
  refine x_istore_n C (L' := [(2, .int v1), (0, .ref (ga g 0)), (1, .int a0)]) rfl rfl (Nat.le_of_ble_eq_true rfl) dX12_knotOf_3 ?_
  refine x_iconst C (v1 := 1) dX12_knotOf_4 (by decide) ?_
  refine x_istore_n C (L' := [(3, .int 1), (2, .int v1), (0, .ref (ga g 0)), (1, .int a0)]) rfl rfl (Nat.le_of_ble_eq_true rfl) dX12_knotOf_5 ?_
  refine x_loc (L' := [(0, .ref (ga g 0)), (2, .int v1), (3, .int 1)]) [2, 1, 0] rfl ?_
  obtain ⟨n6, h⟩ := h
  exact tX12_knotOf_6 hg  C   _ _ _ _  h
set_option maxHeartbeats 4000000 in
set_option maxRecDepth 100000 in
theorem tX12_storyIs {g : xG} (hg : x_inj (WM g))  (l : Launch) (a0 : Int32) (a1 : Int32) (M : xMem) (post : Int32 → xMem → Prop)  (h : wX12_storyIs a0 a1 M post) : xMet (WM g) l yX12_storyIs cX12_storyIs 3 (some .int) (rm_X12_storyIs) [.ref (ga g 0), .int a0, .int a1] M (pI post) := by
  refine x_enter (own := RX12) (L0 := [(0, .ref (ga g 0)), (1, .int a0), (2, .int a1)]) (by decide +kernel) rfl hg (x_stM g) (Nat.le_of_ble_eq_true rfl) rfl (fun x hl C => ?_)
  unfold wX12_storyIs at h
  refine x_aload_n C 0 rfl rfl dX12_storyIs_0 ?_
  refine x_iload_n C 1 rfl rfl dX12_storyIs_1 ?_
  refine x_callV C (st := []) (As := [.int a0]) (c := 0) (ci := 12) (enM_12 (c := 0) rfl) (Nat.le_of_ble_eq_true rfl) rfl (tX12_isTold hg _ _ _ _  h) wm_X12_279 wi_X12_isTold wv_X12_isTold wz_X12 wc_X12_isTold rfl yd_X12_isTold rfl ⟨rfl, rfl⟩ ⟨Nat.le_of_ble_eq_true rfl, Nat.le_of_ble_eq_true rfl⟩ (Nat.le_of_ble_eq_true rfl) rfl dX12_storyIs_2 (x_ki (fun r2 M1 h => ?_))
  refine x_if_ne C (tgt := 10) dX12_storyIs_5 (by decide) (fun hq3 => ?_) (fun hq3 => ?_)
  · replace h := x_iff hq3 h
    refine x_iload_n C 2 rfl rfl dX12_storyIs_10 ?_
    by_cases hq4 : a1 = 0
    · replace h := x_ift hq4 h
      refine x_tabIn C hq4 (tgt := 44) dX12_storyIs_11 (by decide) (by decide) rfl (by decide) ?_
      refine x_aload_n C 0 rfl rfl dX12_storyIs_44 ?_
      refine x_get C (c := 0) (ci := 12) (k1 := 11) (v1 := .ref (ga g 3)) (enM_12 (c := 0) rfl) (Nat.le_of_ble_eq_true rfl) rfl inX12 (by decide) wf_X12_21 rfl dX12_storyIs_45 ?_
      refine x_iload_n C 1 rfl rfl dX12_storyIs_48 ?_
      obtain ⟨hi5, h⟩ := h
      refine x_iald C 0 (c := 3) (enM_20n (c := 3) (n := 6) rfl rfl) (Nat.le_of_ble_eq_true rfl) rfl hi5 dX12_storyIs_49 ?_
      exact x_iret C dX12_storyIs_50 ⟨_, rfl, h⟩
    · replace h := x_iff hq4 h
      by_cases hq6 : a1 = 1
      · replace h := x_ift hq6 h
        refine x_tabIn C hq6 (tgt := 51) dX12_storyIs_11 (by decide) (by decide) rfl (by decide) ?_
        refine x_aload_n C 0 rfl rfl dX12_storyIs_51 ?_
        refine x_iload_n C 1 rfl rfl dX12_storyIs_52 ?_
        refine x_aload_n C 0 rfl rfl dX12_storyIs_53 ?_
        refine x_get C (c := 0) (ci := 12) (k1 := 11) (v1 := .ref (ga g 3)) (enM_12 (c := 0) rfl) (Nat.le_of_ble_eq_true rfl) rfl inX12 (by decide) wf_X12_21 rfl dX12_storyIs_54 ?_
        refine x_iload_n C 1 rfl rfl dX12_storyIs_57 ?_
        obtain ⟨hi7, h⟩ := h
        refine x_iald C 0 (c := 3) (enM_20n (c := 3) (n := 6) rfl rfl) (Nat.le_of_ble_eq_true rfl) rfl hi7 dX12_storyIs_58 ?_
        refine x_iconst C (v1 := 0) dX12_storyIs_59 (by decide) ?_
        refine x_callV C (st := []) (As := [.int a0, .int (gi M1 3 a0.toNatClampNeg), .int 0]) (c := 0) (ci := 12) (enM_12 (c := 0) rfl) (Nat.le_of_ble_eq_true rfl) rfl (tX12_openBehind hg _ _ _ _ _ _  h) wm_X12_285 wi_X12_openBehind wv_X12_openBehind wz_X12 wc_X12_openBehind rfl yd_X12_openBehind rfl ⟨rfl, rfl⟩ ⟨Nat.le_of_ble_eq_true rfl, Nat.le_of_ble_eq_true rfl⟩ (Nat.le_of_ble_eq_true rfl) rfl dX12_storyIs_60 (x_ki (fun r9 M8 h => ?_))
        exact x_iret C dX12_storyIs_63 ⟨_, rfl, h⟩
      · replace h := x_iff hq6 h
        by_cases hq10 : a1 = 2
        · replace h := x_ift hq10 h
          refine x_tabIn C hq10 (tgt := 64) dX12_storyIs_11 (by decide) (by decide) rfl (by decide) ?_
          refine x_aload_n C 0 rfl rfl dX12_storyIs_64 ?_
          refine x_iload_n C 1 rfl rfl dX12_storyIs_65 ?_
          refine x_callV C (st := []) (As := [.int a0]) (c := 0) (ci := 12) (enM_12 (c := 0) rfl) (Nat.le_of_ble_eq_true rfl) rfl (tX12_mostOpen hg _ _ _ _  h) wm_X12_295 wi_X12_mostOpen wv_X12_mostOpen wz_X12 wc_X12_mostOpen rfl yd_X12_mostOpen rfl ⟨rfl, rfl⟩ ⟨Nat.le_of_ble_eq_true rfl, Nat.le_of_ble_eq_true rfl⟩ (Nat.le_of_ble_eq_true rfl) rfl dX12_storyIs_66 (x_ki (fun r12 M11 h => ?_))
          exact x_iret C dX12_storyIs_69 ⟨_, rfl, h⟩
        · replace h := x_iff hq10 h
          by_cases hq13 : a1 = 3
          · replace h := x_ift hq13 h
            refine x_tabIn C hq13 (tgt := 70) dX12_storyIs_11 (by decide) (by decide) rfl (by decide) ?_
            refine x_aload_n C 0 rfl rfl dX12_storyIs_70 ?_
            refine x_iload_n C 1 rfl rfl dX12_storyIs_71 ?_
            refine x_callV C (st := []) (As := [.int a0]) (c := 0) (ci := 12) (enM_12 (c := 0) rfl) (Nat.le_of_ble_eq_true rfl) rfl (tX12_threadsOf hg _ _ _ _  h) wm_X12_292 wi_X12_threadsOf wv_X12_threadsOf wz_X12 wc_X12_threadsOf rfl yd_X12_threadsOf rfl ⟨rfl, rfl⟩ ⟨Nat.le_of_ble_eq_true rfl, Nat.le_of_ble_eq_true rfl⟩ (Nat.le_of_ble_eq_true rfl) rfl dX12_storyIs_72 (x_ki (fun r15 M14 h => ?_))
            exact x_iret C dX12_storyIs_75 ⟨_, rfl, h⟩
          · replace h := x_iff hq13 h
            by_cases hq16 : a1 = 4
            · replace h := x_ift hq16 h
              refine x_tabIn C hq16 (tgt := 76) dX12_storyIs_11 (by decide) (by decide) rfl (by decide) ?_
              refine x_aload_n C 0 rfl rfl dX12_storyIs_76 ?_
              refine x_iload_n C 1 rfl rfl dX12_storyIs_77 ?_
              refine x_callV C (st := []) (As := [.int a0]) (c := 0) (ci := 12) (enM_12 (c := 0) rfl) (Nat.le_of_ble_eq_true rfl) rfl (tX12_knotOf hg _ _ _ _  h) wm_X12_298 wi_X12_knotOf wv_X12_knotOf wz_X12 wc_X12_knotOf rfl yd_X12_knotOf rfl ⟨rfl, rfl⟩ ⟨Nat.le_of_ble_eq_true rfl, Nat.le_of_ble_eq_true rfl⟩ (Nat.le_of_ble_eq_true rfl) rfl dX12_storyIs_78 (x_ki (fun r18 M17 h => ?_))
              exact x_iret C dX12_storyIs_81 ⟨_, rfl, h⟩
            · replace h := x_iff hq16 h
              refine x_tabOut C (tgt := 82) dX12_storyIs_11 (by have t0 := x_i32ne hq4; have u0 : (0 : Int32).toInt = 0 := (by decide); have t1 := x_i32ne hq6; have u1 : (1 : Int32).toInt = 1 := (by decide); have t2 := x_i32ne hq10; have u2 : (2 : Int32).toInt = 2 := (by decide); have t3 := x_i32ne hq13; have u3 : (3 : Int32).toInt = 3 := (by decide); have t4 := x_i32ne hq16; have u4 : (4 : Int32).toInt = 4 := (by decide); omega) (by decide) ?_
              refine x_iconst C (v1 := (-1)) dX12_storyIs_82 (by decide) ?_
              exact x_iret C dX12_storyIs_83 ⟨_, rfl, h⟩
  · replace h := x_ift hq3 h
    refine x_iconst C (v1 := (-1)) dX12_storyIs_8 (by decide) ?_
    exact x_iret C dX12_storyIs_9 ⟨_, rfl, h⟩
set_option maxHeartbeats 4000000 in
set_option maxRecDepth 100000 in
theorem tX12_knots_37 {g : xG} (hg : x_inj (WM g))  {x : xCx}  {K4 : Int32 → Int32 → xMem → Prop} {post : Int32 → xMem → Prop} (C : xOk (WM g) x cX12_knots RX12 3 (some .int) (rm_X12_knots) (pI post))  (hK4 : ∀ (x1 : Int32) (x2 : Int32) (M : xMem), K4 x1 x2 M → xW (WM g) x 3 4 [(0, .ref (ga g 0)), (1, .int x1), (2, .int x2)] [] M) (x2 : Int32) (s0 : Int32) (s1 : Int32) (M : xMem)  (h : wX12_knots_37 K4 post x2 s0 s1 M) : xW (WM g) x 3 37 [(0, .ref (ga g 0)), (2, .int x2)] [.int s0, .int s1] M := by
  unfold wX12_knots_37 at h
  refine x_iadd C dX12_knots_37 ?_
  refine x_nm (fun v1 ev1 => ?_)
  replace h := h v1 ev1
  refine x_istore_n C (L' := [(1, .int v1), (0, .ref (ga g 0)), (2, .int x2)]) rfl rfl (Nat.le_of_ble_eq_true rfl) dX12_knots_38 ?_
  obtain ⟨v2, ev2⟩ : ∃ z : Int32, z = x2 + 1 := ⟨_, rfl⟩
  replace h := h v2 ev2
  refine x_iinc C 2 (v1 := v2) (L' := [(2, .int v2), (1, .int v1), (0, .ref (ga g 0))]) rfl (by rw [ev2]; rfl) rfl (Nat.le_of_ble_eq_true rfl) dX12_knots_39 ?_
  refine x_goto C (tgt := 4) dX12_knots_42 (by decide) ?_
  refine x_loc (L' := [(0, .ref (ga g 0)), (1, .int v1), (2, .int v2)]) [2, 1, 0] rfl ?_
  exact hK4 _ _ _  h
set_option maxHeartbeats 4000000 in
set_option maxRecDepth 100000 in
theorem tX12_knots_36 {g : xG} (hg : x_inj (WM g))  {x : xCx}  {K4 : Int32 → Int32 → xMem → Prop} {post : Int32 → xMem → Prop} (C : xOk (WM g) x cX12_knots RX12 3 (some .int) (rm_X12_knots) (pI post))  (hK4 : ∀ (x1 : Int32) (x2 : Int32) (M : xMem), K4 x1 x2 M → xW (WM g) x 3 4 [(0, .ref (ga g 0)), (1, .int x1), (2, .int x2)] [] M) (x2 : Int32) (s0 : Int32) (M : xMem)  (h : wX12_knots_36 K4 post x2 s0 M) : xW (WM g) x 3 36 [(0, .ref (ga g 0)), (2, .int x2)] [.int s0] M := by
  unfold wX12_knots_36 at h
  refine x_iconst C (v1 := 0) dX12_knots_36 (by decide) ?_
  exact tX12_knots_37 hg  C  hK4 _ _ _ _  h
set_option maxHeartbeats 4000000 in
set_option maxRecDepth 100000 in
theorem tX12_knots_4 {g : xG} (hg : x_inj (WM g))  {x : xCx}   {post : Int32 → xMem → Prop} (C : xOk (WM g) x cX12_knots RX12 3 (some .int) (rm_X12_knots) (pI post))   : ∀ (n : Nat) (x1 : Int32) (x2 : Int32) (M : xMem), wX12_knots_4 post n x1 x2 M → xW (WM g) x 3 4 [(0, .ref (ga g 0)), (1, .int x1), (2, .int x2)] [] M := by
  intro n
  induction n with
  | zero =>
    intro x1 x2 M  h
    exact h.elim
  | succ n ih =>
    intro x1 x2 M  h
    rw [wX12_knots_4] at h
    refine x_iload_n C 2 rfl rfl dX12_knots_4 ?_
    refine x_bipush C (v1 := 6) dX12_knots_5 (by decide) ?_
    refine x_icmp_ge C (tgt := 45) dX12_knots_7 (by decide) (fun hq1 => ?_) (fun hq1 => ?_)
    · replace h := x_ift hq1 h
      refine x_iload_n C 1 rfl rfl dX12_knots_45 ?_
      exact x_iret C dX12_knots_46 ⟨_, rfl, h⟩
    · replace h := x_iff hq1 h
      refine x_iload_n C 1 rfl rfl dX12_knots_10 ?_
      refine x_aload_n C 0 rfl rfl dX12_knots_11 ?_
      refine x_get C (c := 0) (ci := 12) (k1 := 10) (v1 := .ref (ga g 2)) (enM_12 (c := 0) rfl) (Nat.le_of_ble_eq_true rfl) rfl inX12 (by decide) wf_X12_17 rfl dX12_knots_12 ?_
      refine x_iload_n C 2 rfl rfl dX12_knots_15 ?_
      obtain ⟨hi2, h⟩ := h
      refine x_zald C 2 (c := 2) (enM_24n (c := 2) (n := 6) rfl rfl) (Nat.le_of_ble_eq_true rfl) rfl hi2 dX12_knots_16 ?_
      refine x_if_eq C (tgt := 36) dX12_knots_17 (by decide) (fun hq3 => ?_) (fun hq3 => ?_)
      · replace h := x_ift hq3 h
        refine x_loc (L' := [(0, .ref (ga g 0)), (2, .int x2)]) [0, 2] rfl ?_
        exact tX12_knots_36 hg  C  ih _ _ _  h
      · replace h := x_iff hq3 h
        refine x_aload_n C 0 rfl rfl dX12_knots_20 ?_
        refine x_iload_n C 2 rfl rfl dX12_knots_21 ?_
        refine x_callV C (st := [.int x1]) (As := [.int x2]) (c := 0) (ci := 12) (enM_12 (c := 0) rfl) (Nat.le_of_ble_eq_true rfl) rfl (tX12_knotOf hg _ _ _ _  h) wm_X12_298 wi_X12_knotOf wv_X12_knotOf wz_X12 wc_X12_knotOf rfl yd_X12_knotOf rfl ⟨rfl, rfl⟩ ⟨Nat.le_of_ble_eq_true rfl, Nat.le_of_ble_eq_true rfl⟩ (Nat.le_of_ble_eq_true rfl) rfl dX12_knots_22 (x_ki (fun r5 M4 h => ?_))
        refine x_callS C (st := [.int x1]) (As := [.int r5]) (tX12_lowestOf hg _ _ _ _  h) wm_X12_301 wsm_X12_lowestOf wz_X12 wc_X12_lowestOf yd_X12_lowestOf rfl ⟨rfl, rfl⟩ ⟨Nat.le_of_ble_eq_true rfl, Nat.le_of_ble_eq_true rfl⟩ (Nat.le_of_ble_eq_true rfl) rfl dX12_knots_25 (x_ki (fun r7 M6 h => ?_))
        refine x_iload_n C 2 rfl rfl dX12_knots_28 ?_
        refine x_icmp_ne C (tgt := 36) dX12_knots_29 (by decide) (fun hq8 => ?_) (fun hq8 => ?_)
        · replace h := x_iff hq8 h
          refine x_loc (L' := [(0, .ref (ga g 0)), (2, .int x2)]) [0, 2] rfl ?_
          exact tX12_knots_36 hg  C  ih _ _ _  h
        · replace h := x_ift hq8 h
          refine x_iconst C (v1 := 1) dX12_knots_32 (by decide) ?_
          refine x_goto C (tgt := 37) dX12_knots_33 (by decide) ?_
          refine x_loc (L' := [(0, .ref (ga g 0)), (2, .int x2)]) [0, 2] rfl ?_
          exact tX12_knots_37 hg  C  ih _ _ _ _  h
set_option maxHeartbeats 4000000 in
set_option maxRecDepth 100000 in
theorem tX12_knots {g : xG} (hg : x_inj (WM g))  (l : Launch)  (M : xMem) (post : Int32 → xMem → Prop)  (h : wX12_knots  M post) : xMet (WM g) l yX12_knots cX12_knots 3 (some .int) (rm_X12_knots) [.ref (ga g 0)] M (pI post) := by
  refine x_enter (own := RX12) (L0 := [(0, .ref (ga g 0))]) (by decide +kernel) rfl hg (x_stM g) (Nat.le_of_ble_eq_true rfl) rfl (fun x hl C => ?_)
  unfold wX12_knots at h
  refine x_iconst C (v1 := 0) dX12_knots_0 (by decide) ?_
  refine x_istore_n C (L' := [(1, .int 0), (0, .ref (ga g 0))]) rfl rfl (Nat.le_of_ble_eq_true rfl) dX12_knots_1 ?_
  refine x_iconst C (v1 := 0) dX12_knots_2 (by decide) ?_
  refine x_istore_n C (L' := [(2, .int 0), (1, .int 0), (0, .ref (ga g 0))]) rfl rfl (Nat.le_of_ble_eq_true rfl) dX12_knots_3 ?_
  refine x_loc (L' := [(0, .ref (ga g 0)), (1, .int 0), (2, .int 0)]) [2, 1, 0] rfl ?_
  obtain ⟨n4, h⟩ := h
  exact tX12_knots_4 hg  C   _ _ _ _  h
set_option maxHeartbeats 4000000 in
set_option maxRecDepth 100000 in
theorem tX12_emit {g : xG} (hg : x_inj (WM g))  (l : Launch) (a0 : Int32) (a1 : Int32) (M : xMem) (post : xMem → Prop)  (h : wX12_emit a0 a1 M post) : xMet (WM g) l yX12_emit cX12_emit 3 none (rm_X12_emit) [.ref (ga g 0), .int a0, .int a1] M (pV post) := by
  refine x_enter (own := RX12) (L0 := [(0, .ref (ga g 0)), (1, .int a0), (2, .int a1)]) (by decide +kernel) rfl hg (x_stM g) (Nat.le_of_ble_eq_true rfl) rfl (fun x hl C => ?_)
  unfold wX12_emit at h
  refine x_aload_n C 0 rfl rfl dX12_emit_0 ?_
  refine x_callV C (st := []) (As := []) (c := 0) (ci := 12) (enM_12 (c := 0) rfl) (Nat.le_of_ble_eq_true rfl) rfl (tX12_isGood hg _  _ _  h) wm_X12_233 wi_X12_isGood wv_X12_isGood wz_X12 wc_X12_isGood rfl yd_X12_isGood rfl ⟨rfl, rfl⟩ ⟨Nat.le_of_ble_eq_true rfl, Nat.le_of_ble_eq_true rfl⟩ (Nat.le_of_ble_eq_true rfl) rfl dX12_emit_1 (x_ki (fun r2 M1 h => ?_))
  refine x_if_ne C (tgt := 8) dX12_emit_4 (by decide) (fun hq3 => ?_) (fun hq3 => ?_)
  · replace h := x_iff hq3 h
    refine x_aload_n C 0 rfl rfl dX12_emit_8 ?_
    refine x_get C (c := 0) (ci := 12) (k1 := 33) (v1 := .ref (ga g 20)) (enM_12 (c := 0) rfl) (Nat.le_of_ble_eq_true rfl) rfl inX12 (by decide) wf_X12_73 rfl dX12_emit_9 ?_
    refine x_aload_n C 0 rfl rfl dX12_emit_12 ?_
    refine x_get C (c := 0) (ci := 12) (k1 := 7) (v1 := .int (gi M1 0 7)) (enM_12 (c := 0) rfl) (Nat.le_of_ble_eq_true rfl) rfl inX12 (by decide) wf_X12_304 rfl dX12_emit_13 ?_
    refine x_iload_n C 1 rfl rfl dX12_emit_16 ?_
    obtain ⟨hi4, h⟩ := h
    refine x_iast C 0 (c := 20) (enM_20n (c := 20) (n := 240) rfl rfl) (Nat.le_of_ble_eq_true rfl) rfl hi4 dX12_emit_17 ?_
    refine x_nmM (fun M5 eM5 => ?_)
    replace h := h M5 eM5
    refine x_aload_n C 0 rfl rfl dX12_emit_18 ?_
    refine x_get C (c := 0) (ci := 12) (k1 := 34) (v1 := .ref (ga g 21)) (enM_12 (c := 0) rfl) (Nat.le_of_ble_eq_true rfl) rfl inX12 (by decide) wf_X12_76 rfl dX12_emit_19 ?_
    refine x_aload_n C 0 rfl rfl dX12_emit_22 ?_
    refine x_get C (c := 0) (ci := 12) (k1 := 7) (v1 := .int (gi M5 0 7)) (enM_12 (c := 0) rfl) (Nat.le_of_ble_eq_true rfl) rfl inX12 (by decide) wf_X12_304 rfl dX12_emit_23 ?_
    refine x_iload_n C 2 rfl rfl dX12_emit_26 ?_
    obtain ⟨hi6, h⟩ := h
    refine x_iast C 0 (c := 21) (enM_20n (c := 21) (n := 240) rfl rfl) (Nat.le_of_ble_eq_true rfl) rfl hi6 dX12_emit_27 ?_
    refine x_nmM (fun M7 eM7 => ?_)
    replace h := h M7 eM7
    refine x_aload_n C 0 rfl rfl dX12_emit_28 ?_
    refine x_dup C rfl dX12_emit_29 ?_
    refine x_get C (c := 0) (ci := 12) (k1 := 7) (v1 := .int (gi M7 0 7)) (enM_12 (c := 0) rfl) (Nat.le_of_ble_eq_true rfl) rfl inX12 (by decide) wf_X12_304 rfl dX12_emit_30 ?_
    refine x_iconst C (v1 := 1) dX12_emit_33 (by decide) ?_
    refine x_iadd C dX12_emit_34 ?_
    refine x_put C (c := 0) (ci := 12) (k1 := 7) (u1 := ((gi M7 0 7) + 1)) (v1 := .int ((gi M7 0 7) + 1)) (ty := .int) (enM_12 (c := 0) rfl) (Nat.le_of_ble_eq_true rfl) rfl inX12 (by decide) (stX12_7 _ _ _) tyX12 tyX12_ok nmX12 wf_X12_304 rfl rfl rfl rfl (Nat.le_of_ble_eq_true rfl) dX12_emit_35 ?_
    refine x_nmM (fun M8 eM8 => ?_)
    replace h := h M8 eM8
    exact x_vret C dX12_emit_38 ⟨rfl, h⟩
  · replace h := x_ift hq3 h
    exact x_vret C dX12_emit_7 ⟨rfl, h⟩
set_option maxHeartbeats 4000000 in
set_option maxRecDepth 100000 in
theorem tX12_top {g : xG} (hg : x_inj (WM g))  (l : Launch)  (M : xMem) (post : Int32 → xMem → Prop)  (h : wX12_top  M post) : xMet (WM g) l yX12_top cX12_top 1 (some .int) (rm_X12_top) [.ref (ga g 0)] M (pI post) := by
  refine x_enter (own := RX12) (L0 := [(0, .ref (ga g 0))]) (by decide +kernel) rfl hg (x_stM g) (Nat.le_of_ble_eq_true rfl) rfl (fun x hl C => ?_)
  unfold wX12_top at h
  refine x_aload_n C 0 rfl rfl dX12_top_0 ?_
  refine x_get C (c := 0) (ci := 12) (k1 := 9) (v1 := .int (gi M 0 9)) (enM_12 (c := 0) rfl) (Nat.le_of_ble_eq_true rfl) rfl inX12 (by decide) wf_X12_307 rfl dX12_top_1 ?_
  refine x_if_le C (tgt := 21) dX12_top_4 (by decide) (fun hq1 => ?_) (fun hq1 => ?_)
  · replace h := x_ift hq1 h
    refine x_iconst C (v1 := 0) dX12_top_21 (by decide) ?_
    exact x_iret C dX12_top_22 ⟨_, rfl, h⟩
  · replace h := x_iff hq1 h
    refine x_aload_n C 0 rfl rfl dX12_top_7 ?_
    refine x_get C (c := 0) (ci := 12) (k1 := 37) (v1 := .ref (ga g 22)) (enM_12 (c := 0) rfl) (Nat.le_of_ble_eq_true rfl) rfl inX12 (by decide) wf_X12_79 rfl dX12_top_8 ?_
    refine x_aload_n C 0 rfl rfl dX12_top_11 ?_
    refine x_get C (c := 0) (ci := 12) (k1 := 9) (v1 := .int (gi M 0 9)) (enM_12 (c := 0) rfl) (Nat.le_of_ble_eq_true rfl) rfl inX12 (by decide) wf_X12_307 rfl dX12_top_12 ?_
    refine x_iconst C (v1 := 1) dX12_top_15 (by decide) ?_
    refine x_isub C dX12_top_16 ?_
    obtain ⟨hi2, h⟩ := h
    refine x_iald C 0 (c := 22) (enM_20n (c := 22) (n := 240) rfl rfl) (Nat.le_of_ble_eq_true rfl) rfl hi2 dX12_top_17 ?_
    refine x_goto C (tgt := 22) dX12_top_18 (by decide) ?_
    exact x_iret C dX12_top_22 ⟨_, rfl, h⟩
set_option maxHeartbeats 4000000 in
set_option maxRecDepth 100000 in
theorem tX12_puts {g : xG} (hg : x_inj (WM g))  (l : Launch) (a0 : Int32) (M : xMem) (post : xMem → Prop)  (h : wX12_puts a0 M post) : xMet (WM g) l yX12_puts cX12_puts 2 none (rm_X12_puts) [.ref (ga g 0), .int a0] M (pV post) := by
  refine x_enter (own := RX12) (L0 := [(0, .ref (ga g 0)), (1, .int a0)]) (by decide +kernel) rfl hg (x_stM g) (Nat.le_of_ble_eq_true rfl) rfl (fun x hl C => ?_)
  unfold wX12_puts at h
  refine x_aload_n C 0 rfl rfl dX12_puts_0 ?_
  refine x_get C (c := 0) (ci := 12) (k1 := 37) (v1 := .ref (ga g 22)) (enM_12 (c := 0) rfl) (Nat.le_of_ble_eq_true rfl) rfl inX12 (by decide) wf_X12_79 rfl dX12_puts_1 ?_
  refine x_aload_n C 0 rfl rfl dX12_puts_4 ?_
  refine x_get C (c := 0) (ci := 12) (k1 := 9) (v1 := .int (gi M 0 9)) (enM_12 (c := 0) rfl) (Nat.le_of_ble_eq_true rfl) rfl inX12 (by decide) wf_X12_307 rfl dX12_puts_5 ?_
  refine x_iload_n C 1 rfl rfl dX12_puts_8 ?_
  obtain ⟨hi1, h⟩ := h
  refine x_iast C 0 (c := 22) (enM_20n (c := 22) (n := 240) rfl rfl) (Nat.le_of_ble_eq_true rfl) rfl hi1 dX12_puts_9 ?_
  refine x_nmM (fun M2 eM2 => ?_)
  replace h := h M2 eM2
  refine x_aload_n C 0 rfl rfl dX12_puts_10 ?_
  refine x_dup C rfl dX12_puts_11 ?_
  refine x_get C (c := 0) (ci := 12) (k1 := 9) (v1 := .int (gi M2 0 9)) (enM_12 (c := 0) rfl) (Nat.le_of_ble_eq_true rfl) rfl inX12 (by decide) wf_X12_307 rfl dX12_puts_12 ?_
  refine x_iconst C (v1 := 1) dX12_puts_15 (by decide) ?_
  refine x_iadd C dX12_puts_16 ?_
  refine x_put C (c := 0) (ci := 12) (k1 := 9) (u1 := ((gi M2 0 9) + 1)) (v1 := .int ((gi M2 0 9) + 1)) (ty := .int) (enM_12 (c := 0) rfl) (Nat.le_of_ble_eq_true rfl) rfl inX12 (by decide) (stX12_9 _ _ _) tyX12 tyX12_ok nmX12 wf_X12_307 rfl rfl rfl rfl (Nat.le_of_ble_eq_true rfl) dX12_puts_17 ?_
  refine x_nmM (fun M3 eM3 => ?_)
  replace h := h M3 eM3
  refine x_aload_n C 0 rfl rfl dX12_puts_20 ?_
  refine x_dup C rfl dX12_puts_21 ?_
  refine x_get C (c := 0) (ci := 12) (k1 := 3) (v1 := .int (gi M3 0 3)) (enM_12 (c := 0) rfl) (Nat.le_of_ble_eq_true rfl) rfl inX12 (by decide) wf_X12_205 rfl dX12_puts_22 ?_
  refine x_iconst C (v1 := 1) dX12_puts_25 (by decide) ?_
  refine x_iadd C dX12_puts_26 ?_
  refine x_put C (c := 0) (ci := 12) (k1 := 3) (u1 := ((gi M3 0 3) + 1)) (v1 := .int ((gi M3 0 3) + 1)) (ty := .int) (enM_12 (c := 0) rfl) (Nat.le_of_ble_eq_true rfl) rfl inX12 (by decide) (stX12_3 _ _ _) tyX12 tyX12_ok nmX12 wf_X12_205 rfl rfl rfl rfl (Nat.le_of_ble_eq_true rfl) dX12_puts_27 ?_
  refine x_nmM (fun M4 eM4 => ?_)
  replace h := h M4 eM4
  exact x_vret C dX12_puts_30 ⟨rfl, h⟩
set_option maxHeartbeats 4000000 in
set_option maxRecDepth 100000 in
theorem tX12_opens_18 {g : xG} (hg : x_inj (WM g))  {x : xCx}   {post : xMem → Prop} (C : xOk (WM g) x cX12_opens RX12 1 none (rm_X12_opens) (pV post))    (M : xMem)  (h : wX12_opens_18 post  M) : xW (WM g) x 1 18 [(0, .ref (ga g 0))] [] M := by
  unfold wX12_opens_18 at h
  refine x_aload_n C 0 rfl rfl dX12_opens_18 ?_
  refine x_dup C rfl dX12_opens_19 ?_
  refine x_get C (c := 0) (ci := 12) (k1 := 8) (v1 := .int (gi M 0 8)) (enM_12 (c := 0) rfl) (Nat.le_of_ble_eq_true rfl) rfl inX12 (by decide) wf_X12_310 rfl dX12_opens_20 ?_
  refine x_iconst C (v1 := 1) dX12_opens_23 (by decide) ?_
  refine x_iadd C dX12_opens_24 ?_
  refine x_put C (c := 0) (ci := 12) (k1 := 8) (u1 := ((gi M 0 8) + 1)) (v1 := .int ((gi M 0 8) + 1)) (ty := .int) (enM_12 (c := 0) rfl) (Nat.le_of_ble_eq_true rfl) rfl inX12 (by decide) (stX12_8 _ _ _) tyX12 tyX12_ok nmX12 wf_X12_310 rfl rfl rfl rfl (Nat.le_of_ble_eq_true rfl) dX12_opens_25 ?_
  refine x_nmM (fun M1 eM1 => ?_)
  replace h := h M1 eM1
  refine x_aload_n C 0 rfl rfl dX12_opens_28 ?_
  refine x_aload_n C 0 rfl rfl dX12_opens_29 ?_
  refine x_callV C (st := [.ref (ga g 0)]) (As := []) (c := 0) (ci := 12) (enM_12 (c := 0) rfl) (Nat.le_of_ble_eq_true rfl) rfl (tX12_here hg _  _ _  h) wm_X12_214 wi_X12_here wv_X12_here wz_X12 wc_X12_here rfl yd_X12_here rfl ⟨rfl, rfl⟩ ⟨Nat.le_of_ble_eq_true rfl, Nat.le_of_ble_eq_true rfl⟩ (Nat.le_of_ble_eq_true rfl) rfl dX12_opens_30 (x_ki (fun r3 M2 h => ?_))
  refine x_callV C (st := []) (As := [.int r3]) (c := 0) (ci := 12) (enM_12 (c := 0) rfl) (Nat.le_of_ble_eq_true rfl) rfl (tX12_puts hg _ _ _ _  h) wm_X12_313 wi_X12_puts wv_X12_puts wz_X12 wc_X12_puts rfl yd_X12_puts rfl ⟨rfl, rfl⟩ ⟨Nat.le_of_ble_eq_true rfl, Nat.le_of_ble_eq_true rfl⟩ (Nat.le_of_ble_eq_true rfl) rfl dX12_opens_33 (x_kv (fun M4 h => ?_))
  exact x_vret C dX12_opens_36 ⟨rfl, h⟩
set_option maxHeartbeats 4000000 in
set_option maxRecDepth 100000 in
theorem tX12_opens {g : xG} (hg : x_inj (WM g))  (l : Launch)  (M : xMem) (post : xMem → Prop)  (h : wX12_opens  M post) : xMet (WM g) l yX12_opens cX12_opens 1 none (rm_X12_opens) [.ref (ga g 0)] M (pV post) := by
  refine x_enter (own := RX12) (L0 := [(0, .ref (ga g 0))]) (by decide +kernel) rfl hg (x_stM g) (Nat.le_of_ble_eq_true rfl) rfl (fun x hl C => ?_)
  unfold wX12_opens at h
  refine x_aload_n C 0 rfl rfl dX12_opens_0 ?_
  refine x_get C (c := 0) (ci := 12) (k1 := 8) (v1 := .int (gi M 0 8)) (enM_12 (c := 0) rfl) (Nat.le_of_ble_eq_true rfl) rfl inX12 (by decide) wf_X12_310 rfl dX12_opens_1 ?_
  refine x_bipush C (v1 := 6) dX12_opens_4 (by decide) ?_
  refine x_icmp_ne C (tgt := 18) dX12_opens_6 (by decide) (fun hq1 => ?_) (fun hq1 => ?_)
  · replace h := x_iff hq1 h
    exact tX12_opens_18 hg  C   _  h
  · replace h := x_ift hq1 h
    refine x_aload_n C 0 rfl rfl dX12_opens_9 ?_
    refine x_iconst C (v1 := 5) dX12_opens_10 (by decide) ?_
    refine x_aload_n C 0 rfl rfl dX12_opens_11 ?_
    refine x_get C (c := 0) (ci := 12) (k1 := 3) (v1 := .int (gi M 0 3)) (enM_12 (c := 0) rfl) (Nat.le_of_ble_eq_true rfl) rfl inX12 (by decide) wf_X12_205 rfl dX12_opens_12 ?_
    refine x_callV C (st := []) (As := [.int 5, .int (gi M 0 3)]) (c := 0) (ci := 12) (enM_12 (c := 0) rfl) (Nat.le_of_ble_eq_true rfl) rfl (tX12_wrongs hg _ _ _ _ _  h) wm_X12_229 wi_X12_wrongs wv_X12_wrongs wz_X12 wc_X12_wrongs rfl yd_X12_wrongs rfl ⟨rfl, rfl⟩ ⟨Nat.le_of_ble_eq_true rfl, Nat.le_of_ble_eq_true rfl⟩ (Nat.le_of_ble_eq_true rfl) rfl dX12_opens_15 (x_kv (fun M2 h => ?_))
    exact tX12_opens_18 hg  C   _  h
set_option maxHeartbeats 4000000 in
set_option maxRecDepth 100000 in
theorem tX12_reads_40 {g : xG} (hg : x_inj (WM g))  {x : xCx}  {K7 : Int32 → Int32 → xMem → Prop} {post : Int32 → xMem → Prop} (C : xOk (WM g) x cX12_reads RX12 3 (some .int) (rm_X12_reads) (pI post))  (hK7 : ∀ (x1 : Int32) (x2 : Int32) (M : xMem), K7 x1 x2 M → xW (WM g) x 3 7 [(0, .ref (ga g 0)), (1, .int x1), (2, .int x2)] [] M) (x1 : Int32) (x2 : Int32) (M : xMem)  (h : wX12_reads_40 K7 post x1 x2 M) : xW (WM g) x 3 40 [(0, .ref (ga g 0)), (1, .int x1), (2, .int x2)] [] M := by
  unfold wX12_reads_40 at h
  refine x_bipush C (v1 := 10) dX12_reads_40 (by decide) ?_
  refine x_iload_n C 2 rfl rfl dX12_reads_42 ?_
  refine x_imul C dX12_reads_43 ?_
  refine x_aload_n C 0 rfl rfl dX12_reads_44 ?_
  refine x_callV C (st := [.int (10 * x2)]) (As := []) (c := 0) (ci := 12) (enM_12 (c := 0) rfl) (Nat.le_of_ble_eq_true rfl) rfl (tX12_here hg _  _ _  h) wm_X12_214 wi_X12_here wv_X12_here wz_X12 wc_X12_here rfl yd_X12_here rfl ⟨rfl, rfl⟩ ⟨Nat.le_of_ble_eq_true rfl, Nat.le_of_ble_eq_true rfl⟩ (Nat.le_of_ble_eq_true rfl) rfl dX12_reads_45 (x_ki (fun r2 M1 h => ?_))
  refine x_iadd C dX12_reads_48 ?_
  refine x_bipush C (v1 := 48) dX12_reads_49 (by decide) ?_
  refine x_isub C dX12_reads_51 ?_
  refine x_nm (fun v3 ev3 => ?_)
  replace h := h v3 ev3
  refine x_istore_n C (L' := [(2, .int v3), (0, .ref (ga g 0)), (1, .int x1)]) rfl rfl (Nat.le_of_ble_eq_true rfl) dX12_reads_52 ?_
  refine x_aload_n C 1 rfl rfl dX12_reads_53 ?_
  refine x_dup C rfl dX12_reads_54 ?_
  refine x_get C (c := 0) (ci := 12) (k1 := 3) (v1 := .int (gi M1 0 3)) (enM_12 (c := 0) rfl) (Nat.le_of_ble_eq_true rfl) rfl inX12 (by decide) wf_X12_205 rfl dX12_reads_55 ?_
  refine x_iconst C (v1 := 1) dX12_reads_58 (by decide) ?_
  refine x_iadd C dX12_reads_59 ?_
  refine x_put C (c := 0) (ci := 12) (k1 := 3) (u1 := ((gi M1 0 3) + 1)) (v1 := .int ((gi M1 0 3) + 1)) (ty := .int) (enM_12 (c := 0) rfl) (Nat.le_of_ble_eq_true rfl) rfl inX12 (by decide) (stX12_3 _ _ _) tyX12 tyX12_ok nmX12 wf_X12_205 rfl rfl rfl rfl (Nat.le_of_ble_eq_true rfl) dX12_reads_60 ?_
  refine x_nmM (fun M4 eM4 => ?_)
  replace h := h M4 eM4
  refine x_goto C (tgt := 7) dX12_reads_63 (by decide) ?_
  refine x_loc (L' := [(0, .ref (ga g 0)), (1, .int x1), (2, .int v3)]) [1, 2, 0] rfl ?_
  exact hK7 _ _ _  h
set_option maxHeartbeats 4000000 in
set_option maxRecDepth 100000 in
theorem tX12_reads_7 {g : xG} (hg : x_inj (WM g))  {x : xCx}   {post : Int32 → xMem → Prop} (C : xOk (WM g) x cX12_reads RX12 3 (some .int) (rm_X12_reads) (pI post))   : ∀ (n : Nat) (x1 : Int32) (x2 : Int32) (M : xMem), wX12_reads_7 post n x1 x2 M → xW (WM g) x 3 7 [(0, .ref (ga g 0)), (1, .int x1), (2, .int x2)] [] M := by
  intro n
  induction n with
  | zero =>
    intro x1 x2 M  h
    exact h.elim
  | succ n ih =>
    intro x1 x2 M  h
    rw [wX12_reads_7] at h
    refine x_aload_n C 0 rfl rfl dX12_reads_7 ?_
    refine x_callV C (st := []) (As := []) (c := 0) (ci := 12) (enM_12 (c := 0) rfl) (Nat.le_of_ble_eq_true rfl) rfl (tX12_isGood hg _  _ _  h) wm_X12_233 wi_X12_isGood wv_X12_isGood wz_X12 wc_X12_isGood rfl yd_X12_isGood rfl ⟨rfl, rfl⟩ ⟨Nat.le_of_ble_eq_true rfl, Nat.le_of_ble_eq_true rfl⟩ (Nat.le_of_ble_eq_true rfl) rfl dX12_reads_8 (x_ki (fun r2 M1 h => ?_))
    refine x_if_eq C (tgt := 66) dX12_reads_11 (by decide) (fun hq3 => ?_) (fun hq3 => ?_)
    · replace h := x_ift hq3 h
      refine x_iload_n C 2 rfl rfl dX12_reads_66 ?_
      exact x_iret C dX12_reads_67 ⟨_, rfl, h⟩
    · replace h := x_iff hq3 h
      refine x_aload_n C 0 rfl rfl dX12_reads_14 ?_
      refine x_callV C (st := []) (As := []) (c := 0) (ci := 12) (enM_12 (c := 0) rfl) (Nat.le_of_ble_eq_true rfl) rfl (tX12_seesDigit hg _  _ _  h) wm_X12_316 wi_X12_seesDigit wv_X12_seesDigit wz_X12 wc_X12_seesDigit rfl yd_X12_seesDigit rfl ⟨rfl, rfl⟩ ⟨Nat.le_of_ble_eq_true rfl, Nat.le_of_ble_eq_true rfl⟩ (Nat.le_of_ble_eq_true rfl) rfl dX12_reads_15 (x_ki (fun r5 M4 h => ?_))
      refine x_if_eq C (tgt := 66) dX12_reads_18 (by decide) (fun hq6 => ?_) (fun hq6 => ?_)
      · replace h := x_ift hq6 h
        refine x_iload_n C 2 rfl rfl dX12_reads_66 ?_
        exact x_iret C dX12_reads_67 ⟨_, rfl, h⟩
      · replace h := x_iff hq6 h
        refine x_aload_n C 0 rfl rfl dX12_reads_21 ?_
        refine x_get C (c := 0) (ci := 12) (k1 := 3) (v1 := .int (gi M4 0 3)) (enM_12 (c := 0) rfl) (Nat.le_of_ble_eq_true rfl) rfl inX12 (by decide) wf_X12_205 rfl dX12_reads_22 ?_
        refine x_iload_n C 1 rfl rfl dX12_reads_25 ?_
        refine x_iconst C (v1 := 5) dX12_reads_26 (by decide) ?_
        refine x_iadd C dX12_reads_27 ?_
        refine x_icmp_ne C (tgt := 40) dX12_reads_28 (by decide) (fun hq7 => ?_) (fun hq7 => ?_)
        · replace h := x_iff hq7 h
          exact tX12_reads_40 hg  C  ih _ _ _  h
        · replace h := x_ift hq7 h
          refine x_aload_n C 0 rfl rfl dX12_reads_31 ?_
          refine x_iconst C (v1 := 2) dX12_reads_32 (by decide) ?_
          refine x_aload_n C 0 rfl rfl dX12_reads_33 ?_
          refine x_get C (c := 0) (ci := 12) (k1 := 3) (v1 := .int (gi M4 0 3)) (enM_12 (c := 0) rfl) (Nat.le_of_ble_eq_true rfl) rfl inX12 (by decide) wf_X12_205 rfl dX12_reads_34 ?_
          refine x_callV C (st := []) (As := [.int 2, .int (gi M4 0 3)]) (c := 0) (ci := 12) (enM_12 (c := 0) rfl) (Nat.le_of_ble_eq_true rfl) rfl (tX12_wrongs hg _ _ _ _ _  h) wm_X12_229 wi_X12_wrongs wv_X12_wrongs wz_X12 wc_X12_wrongs rfl yd_X12_wrongs rfl ⟨rfl, rfl⟩ ⟨Nat.le_of_ble_eq_true rfl, Nat.le_of_ble_eq_true rfl⟩ (Nat.le_of_ble_eq_true rfl) rfl dX12_reads_37 (x_kv (fun M8 h => ?_))
          exact tX12_reads_40 hg  C  ih _ _ _  h
set_option maxHeartbeats 4000000 in
set_option maxRecDepth 100000 in
theorem tX12_reads {g : xG} (hg : x_inj (WM g))  (l : Launch)  (M : xMem) (post : Int32 → xMem → Prop)  (h : wX12_reads  M post) : xMet (WM g) l yX12_reads cX12_reads 3 (some .int) (rm_X12_reads) [.ref (ga g 0)] M (pI post) := by
  refine x_enter (own := RX12) (L0 := [(0, .ref (ga g 0))]) (by decide +kernel) rfl hg (x_stM g) (Nat.le_of_ble_eq_true rfl) rfl (fun x hl C => ?_)
  unfold wX12_reads at h
  refine x_aload_n C 0 rfl rfl dX12_reads_0 ?_
  refine x_get C (c := 0) (ci := 12) (k1 := 3) (v1 := .int (gi M 0 3)) (enM_12 (c := 0) rfl) (Nat.le_of_ble_eq_true rfl) rfl inX12 (by decide) wf_X12_205 rfl dX12_reads_1 ?_
  refine x_nm (fun v1 ev1 => ?_)
  replace h := h v1 ev1
  refine x_istore_n C (L' := [(1, .int v1), (0, .ref (ga g 0))]) rfl rfl (Nat.le_of_ble_eq_true rfl) dX12_reads_4 ?_
  refine x_iconst C (v1 := 0) dX12_reads_5 (by decide) ?_
  refine x_istore_n C (L' := [(2, .int 0), (1, .int v1), (0, .ref (ga g 0))]) rfl rfl (Nat.le_of_ble_eq_true rfl) dX12_reads_6 ?_
  refine x_loc (L' := [(0, .ref (ga g 0)), (1, .int v1), (2, .int 0)]) [2, 1, 0] rfl ?_
  obtain ⟨n7, h⟩ := h
  exact tX12_reads_7 hg  C   _ _ _ _  h
set_option maxHeartbeats 4000000 in
set_option maxRecDepth 100000 in
theorem tX12_isTimes {g : xG} (hg : x_inj (WM g))  (l : Launch) (a0 : Int32) (M : xMem) (post : Int32 → xMem → Prop)  (h : wX12_isTimes a0 M post) : xMet (WM g) l yX12_isTimes cX12_isTimes 1 (some .boolean) (rm_X12_isTimes) [.int a0] M (pI post) := by
  refine x_enter (own := RX12) (L0 := [(0, .int a0)]) (by decide +kernel) rfl hg (x_stM g) (Nat.le_of_ble_eq_true rfl) rfl (fun x hl C => ?_)
  unfold wX12_isTimes at h
  refine x_iload_n C 0 rfl rfl dX12_isTimes_0 ?_
  refine x_bipush C (v1 := 42) dX12_isTimes_1 (by decide) ?_
  refine x_icmp_eq C (tgt := 18) dX12_isTimes_3 (by decide) (fun hq1 => ?_) (fun hq1 => ?_)
  · replace h := x_ift hq1 h
    refine x_iconst C (v1 := 1) dX12_isTimes_18 (by decide) ?_
    refine x_goto C (tgt := 23) dX12_isTimes_19 (by decide) ?_
    exact x_zret C rfl dX12_isTimes_23 ⟨_, rfl, h⟩
  · replace h := x_iff hq1 h
    refine x_iload_n C 0 rfl rfl dX12_isTimes_6 ?_
    refine x_bipush C (v1 := 47) dX12_isTimes_7 (by decide) ?_
    refine x_icmp_eq C (tgt := 18) dX12_isTimes_9 (by decide) (fun hq2 => ?_) (fun hq2 => ?_)
    · replace h := x_ift hq2 h
      refine x_iconst C (v1 := 1) dX12_isTimes_18 (by decide) ?_
      refine x_goto C (tgt := 23) dX12_isTimes_19 (by decide) ?_
      exact x_zret C rfl dX12_isTimes_23 ⟨_, rfl, h⟩
    · replace h := x_iff hq2 h
      refine x_iload_n C 0 rfl rfl dX12_isTimes_12 ?_
      refine x_bipush C (v1 := 37) dX12_isTimes_13 (by decide) ?_
      refine x_icmp_ne C (tgt := 22) dX12_isTimes_15 (by decide) (fun hq3 => ?_) (fun hq3 => ?_)
      · replace h := x_iff hq3 h
        refine x_iconst C (v1 := 0) dX12_isTimes_22 (by decide) ?_
        exact x_zret C rfl dX12_isTimes_23 ⟨_, rfl, h⟩
      · replace h := x_ift hq3 h
        refine x_iconst C (v1 := 1) dX12_isTimes_18 (by decide) ?_
        refine x_goto C (tgt := 23) dX12_isTimes_19 (by decide) ?_
        exact x_zret C rfl dX12_isTimes_23 ⟨_, rfl, h⟩
set_option maxHeartbeats 4000000 in
set_option maxRecDepth 100000 in
theorem tX12_isPlus {g : xG} (hg : x_inj (WM g))  (l : Launch) (a0 : Int32) (M : xMem) (post : Int32 → xMem → Prop)  (h : wX12_isPlus a0 M post) : xMet (WM g) l yX12_isPlus cX12_isPlus 1 (some .boolean) (rm_X12_isPlus) [.int a0] M (pI post) := by
  refine x_enter (own := RX12) (L0 := [(0, .int a0)]) (by decide +kernel) rfl hg (x_stM g) (Nat.le_of_ble_eq_true rfl) rfl (fun x hl C => ?_)
  unfold wX12_isPlus at h
  refine x_iload_n C 0 rfl rfl dX12_isPlus_0 ?_
  refine x_bipush C (v1 := 43) dX12_isPlus_1 (by decide) ?_
  refine x_icmp_eq C (tgt := 12) dX12_isPlus_3 (by decide) (fun hq1 => ?_) (fun hq1 => ?_)
  · replace h := x_ift hq1 h
    refine x_iconst C (v1 := 1) dX12_isPlus_12 (by decide) ?_
    refine x_goto C (tgt := 17) dX12_isPlus_13 (by decide) ?_
    exact x_zret C rfl dX12_isPlus_17 ⟨_, rfl, h⟩
  · replace h := x_iff hq1 h
    refine x_iload_n C 0 rfl rfl dX12_isPlus_6 ?_
    refine x_bipush C (v1 := 45) dX12_isPlus_7 (by decide) ?_
    refine x_icmp_ne C (tgt := 16) dX12_isPlus_9 (by decide) (fun hq2 => ?_) (fun hq2 => ?_)
    · replace h := x_iff hq2 h
      refine x_iconst C (v1 := 0) dX12_isPlus_16 (by decide) ?_
      exact x_zret C rfl dX12_isPlus_17 ⟨_, rfl, h⟩
    · replace h := x_ift hq2 h
      refine x_iconst C (v1 := 1) dX12_isPlus_12 (by decide) ?_
      refine x_goto C (tgt := 17) dX12_isPlus_13 (by decide) ?_
      exact x_zret C rfl dX12_isPlus_17 ⟨_, rfl, h⟩
set_option maxHeartbeats 4000000 in
set_option maxRecDepth 100000 in
theorem tX12_isCompared {g : xG} (hg : x_inj (WM g))  (l : Launch) (a0 : Int32) (M : xMem) (post : Int32 → xMem → Prop)  (h : wX12_isCompared a0 M post) : xMet (WM g) l yX12_isCompared cX12_isCompared 1 (some .boolean) (rm_X12_isCompared) [.int a0] M (pI post) := by
  refine x_enter (own := RX12) (L0 := [(0, .int a0)]) (by decide +kernel) rfl hg (x_stM g) (Nat.le_of_ble_eq_true rfl) rfl (fun x hl C => ?_)
  unfold wX12_isCompared at h
  refine x_iload_n C 0 rfl rfl dX12_isCompared_0 ?_
  refine x_bipush C (v1 := 60) dX12_isCompared_1 (by decide) ?_
  refine x_icmp_eq C (tgt := 18) dX12_isCompared_3 (by decide) (fun hq1 => ?_) (fun hq1 => ?_)
  · replace h := x_ift hq1 h
    refine x_iconst C (v1 := 1) dX12_isCompared_18 (by decide) ?_
    refine x_goto C (tgt := 23) dX12_isCompared_19 (by decide) ?_
    exact x_zret C rfl dX12_isCompared_23 ⟨_, rfl, h⟩
  · replace h := x_iff hq1 h
    refine x_iload_n C 0 rfl rfl dX12_isCompared_6 ?_
    refine x_bipush C (v1 := 62) dX12_isCompared_7 (by decide) ?_
    refine x_icmp_eq C (tgt := 18) dX12_isCompared_9 (by decide) (fun hq2 => ?_) (fun hq2 => ?_)
    · replace h := x_ift hq2 h
      refine x_iconst C (v1 := 1) dX12_isCompared_18 (by decide) ?_
      refine x_goto C (tgt := 23) dX12_isCompared_19 (by decide) ?_
      exact x_zret C rfl dX12_isCompared_23 ⟨_, rfl, h⟩
    · replace h := x_iff hq2 h
      refine x_iload_n C 0 rfl rfl dX12_isCompared_12 ?_
      refine x_bipush C (v1 := 61) dX12_isCompared_13 (by decide) ?_
      refine x_icmp_ne C (tgt := 22) dX12_isCompared_15 (by decide) (fun hq3 => ?_) (fun hq3 => ?_)
      · replace h := x_iff hq3 h
        refine x_iconst C (v1 := 0) dX12_isCompared_22 (by decide) ?_
        exact x_zret C rfl dX12_isCompared_23 ⟨_, rfl, h⟩
      · replace h := x_ift hq3 h
        refine x_iconst C (v1 := 1) dX12_isCompared_18 (by decide) ?_
        refine x_goto C (tgt := 23) dX12_isCompared_19 (by decide) ?_
        exact x_zret C rfl dX12_isCompared_23 ⟨_, rfl, h⟩
set_option maxHeartbeats 4000000 in
set_option maxRecDepth 100000 in
theorem tX12_isValue {g : xG} (hg : x_inj (WM g))  (l : Launch) (a0 : Int32) (M : xMem) (post : Int32 → xMem → Prop)  (h : wX12_isValue a0 M post) : xMet (WM g) l yX12_isValue cX12_isValue 1 (some .boolean) (rm_X12_isValue) [.int a0] M (pI post) := by
  refine x_enter (own := RX12) (L0 := [(0, .int a0)]) (by decide +kernel) rfl hg (x_stM g) (Nat.le_of_ble_eq_true rfl) rfl (fun x hl C => ?_)
  unfold wX12_isValue at h
  refine x_iload_n C 0 rfl rfl dX12_isValue_0 ?_
  refine x_bipush C (v1 := 107) dX12_isValue_1 (by decide) ?_
  refine x_icmp_eq C (tgt := 72) dX12_isValue_3 (by decide) (fun hq1 => ?_) (fun hq1 => ?_)
  · replace h := x_ift hq1 h
    refine x_iconst C (v1 := 1) dX12_isValue_72 (by decide) ?_
    refine x_goto C (tgt := 77) dX12_isValue_73 (by decide) ?_
    exact x_zret C rfl dX12_isValue_77 ⟨_, rfl, h⟩
  · replace h := x_iff hq1 h
    refine x_iload_n C 0 rfl rfl dX12_isValue_6 ?_
    refine x_bipush C (v1 := 117) dX12_isValue_7 (by decide) ?_
    refine x_icmp_eq C (tgt := 72) dX12_isValue_9 (by decide) (fun hq2 => ?_) (fun hq2 => ?_)
    · replace h := x_ift hq2 h
      refine x_iconst C (v1 := 1) dX12_isValue_72 (by decide) ?_
      refine x_goto C (tgt := 77) dX12_isValue_73 (by decide) ?_
      exact x_zret C rfl dX12_isValue_77 ⟨_, rfl, h⟩
    · replace h := x_iff hq2 h
      refine x_iload_n C 0 rfl rfl dX12_isValue_12 ?_
      refine x_bipush C (v1 := 109) dX12_isValue_13 (by decide) ?_
      refine x_icmp_eq C (tgt := 72) dX12_isValue_15 (by decide) (fun hq3 => ?_) (fun hq3 => ?_)
      · replace h := x_ift hq3 h
        refine x_iconst C (v1 := 1) dX12_isValue_72 (by decide) ?_
        refine x_goto C (tgt := 77) dX12_isValue_73 (by decide) ?_
        exact x_zret C rfl dX12_isValue_77 ⟨_, rfl, h⟩
      · replace h := x_iff hq3 h
        refine x_iload_n C 0 rfl rfl dX12_isValue_18 ?_
        refine x_bipush C (v1 := 111) dX12_isValue_19 (by decide) ?_
        refine x_icmp_eq C (tgt := 72) dX12_isValue_21 (by decide) (fun hq4 => ?_) (fun hq4 => ?_)
        · replace h := x_ift hq4 h
          refine x_iconst C (v1 := 1) dX12_isValue_72 (by decide) ?_
          refine x_goto C (tgt := 77) dX12_isValue_73 (by decide) ?_
          exact x_zret C rfl dX12_isValue_77 ⟨_, rfl, h⟩
        · replace h := x_iff hq4 h
          refine x_iload_n C 0 rfl rfl dX12_isValue_24 ?_
          refine x_bipush C (v1 := 108) dX12_isValue_25 (by decide) ?_
          refine x_icmp_eq C (tgt := 72) dX12_isValue_27 (by decide) (fun hq5 => ?_) (fun hq5 => ?_)
          · replace h := x_ift hq5 h
            refine x_iconst C (v1 := 1) dX12_isValue_72 (by decide) ?_
            refine x_goto C (tgt := 77) dX12_isValue_73 (by decide) ?_
            exact x_zret C rfl dX12_isValue_77 ⟨_, rfl, h⟩
          · replace h := x_iff hq5 h
            refine x_iload_n C 0 rfl rfl dX12_isValue_30 ?_
            refine x_bipush C (v1 := 97) dX12_isValue_31 (by decide) ?_
            refine x_icmp_eq C (tgt := 72) dX12_isValue_33 (by decide) (fun hq6 => ?_) (fun hq6 => ?_)
            · replace h := x_ift hq6 h
              refine x_iconst C (v1 := 1) dX12_isValue_72 (by decide) ?_
              refine x_goto C (tgt := 77) dX12_isValue_73 (by decide) ?_
              exact x_zret C rfl dX12_isValue_77 ⟨_, rfl, h⟩
            · replace h := x_iff hq6 h
              refine x_iload_n C 0 rfl rfl dX12_isValue_36 ?_
              refine x_bipush C (v1 := 114) dX12_isValue_37 (by decide) ?_
              refine x_icmp_eq C (tgt := 72) dX12_isValue_39 (by decide) (fun hq7 => ?_) (fun hq7 => ?_)
              · replace h := x_ift hq7 h
                refine x_iconst C (v1 := 1) dX12_isValue_72 (by decide) ?_
                refine x_goto C (tgt := 77) dX12_isValue_73 (by decide) ?_
                exact x_zret C rfl dX12_isValue_77 ⟨_, rfl, h⟩
              · replace h := x_iff hq7 h
                refine x_iload_n C 0 rfl rfl dX12_isValue_42 ?_
                refine x_bipush C (v1 := 101) dX12_isValue_43 (by decide) ?_
                refine x_icmp_eq C (tgt := 72) dX12_isValue_45 (by decide) (fun hq8 => ?_) (fun hq8 => ?_)
                · replace h := x_ift hq8 h
                  refine x_iconst C (v1 := 1) dX12_isValue_72 (by decide) ?_
                  refine x_goto C (tgt := 77) dX12_isValue_73 (by decide) ?_
                  exact x_zret C rfl dX12_isValue_77 ⟨_, rfl, h⟩
                · replace h := x_iff hq8 h
                  refine x_iload_n C 0 rfl rfl dX12_isValue_48 ?_
                  refine x_bipush C (v1 := 99) dX12_isValue_49 (by decide) ?_
                  refine x_icmp_eq C (tgt := 72) dX12_isValue_51 (by decide) (fun hq9 => ?_) (fun hq9 => ?_)
                  · replace h := x_ift hq9 h
                    refine x_iconst C (v1 := 1) dX12_isValue_72 (by decide) ?_
                    refine x_goto C (tgt := 77) dX12_isValue_73 (by decide) ?_
                    exact x_zret C rfl dX12_isValue_77 ⟨_, rfl, h⟩
                  · replace h := x_iff hq9 h
                    refine x_iload_n C 0 rfl rfl dX12_isValue_54 ?_
                    refine x_bipush C (v1 := 122) dX12_isValue_55 (by decide) ?_
                    refine x_icmp_eq C (tgt := 72) dX12_isValue_57 (by decide) (fun hq10 => ?_) (fun hq10 => ?_)
                    · replace h := x_ift hq10 h
                      refine x_iconst C (v1 := 1) dX12_isValue_72 (by decide) ?_
                      refine x_goto C (tgt := 77) dX12_isValue_73 (by decide) ?_
                      exact x_zret C rfl dX12_isValue_77 ⟨_, rfl, h⟩
                    · replace h := x_iff hq10 h
                      refine x_iload_n C 0 rfl rfl dX12_isValue_60 ?_
                      refine x_bipush C (v1 := 104) dX12_isValue_61 (by decide) ?_
                      refine x_icmp_eq C (tgt := 72) dX12_isValue_63 (by decide) (fun hq11 => ?_) (fun hq11 => ?_)
                      · replace h := x_ift hq11 h
                        refine x_iconst C (v1 := 1) dX12_isValue_72 (by decide) ?_
                        refine x_goto C (tgt := 77) dX12_isValue_73 (by decide) ?_
                        exact x_zret C rfl dX12_isValue_77 ⟨_, rfl, h⟩
                      · replace h := x_iff hq11 h
                        refine x_iload_n C 0 rfl rfl dX12_isValue_66 ?_
                        refine x_bipush C (v1 := 118) dX12_isValue_67 (by decide) ?_
                        refine x_icmp_ne C (tgt := 76) dX12_isValue_69 (by decide) (fun hq12 => ?_) (fun hq12 => ?_)
                        · replace h := x_iff hq12 h
                          refine x_iconst C (v1 := 0) dX12_isValue_76 (by decide) ?_
                          exact x_zret C rfl dX12_isValue_77 ⟨_, rfl, h⟩
                        · replace h := x_ift hq12 h
                          refine x_iconst C (v1 := 1) dX12_isValue_72 (by decide) ?_
                          refine x_goto C (tgt := 77) dX12_isValue_73 (by decide) ?_
                          exact x_zret C rfl dX12_isValue_77 ⟨_, rfl, h⟩
set_option maxHeartbeats 4000000 in
set_option maxRecDepth 100000 in
theorem tX12_sums_24 {g : xG} (hg : x_inj (WM g))  {x : xCx}  {K0 : Int32 → xMem → Prop} {post : xMem → Prop} (C : xOk (WM g) x cX12_sums RX12 2 none (rm_X12_sums) (pV post))  (hK0 : ∀ (x1 : Int32) (M : xMem), K0 x1 M → xW (WM g) x 2 0 [(0, .ref (ga g 0)), (1, .int x1)] [] M) (x1 : Int32) (M : xMem)  (h : wX12_sums_24 K0 post x1 M) : xW (WM g) x 2 24 [(0, .ref (ga g 0)), (1, .int x1)] [] M := by
  unfold wX12_sums_24 at h
  refine x_aload_n C 0 rfl rfl dX12_sums_24 ?_
  refine x_aload_n C 0 rfl rfl dX12_sums_25 ?_
  refine x_callV C (st := [.ref (ga g 0)]) (As := []) (c := 0) (ci := 12) (enM_12 (c := 0) rfl) (Nat.le_of_ble_eq_true rfl) rfl (tX12_top hg _  _ _  h) wm_X12_319 wi_X12_top wv_X12_top wz_X12 wc_X12_top rfl yd_X12_top rfl ⟨rfl, rfl⟩ ⟨Nat.le_of_ble_eq_true rfl, Nat.le_of_ble_eq_true rfl⟩ (Nat.le_of_ble_eq_true rfl) rfl dX12_sums_26 (x_ki (fun r2 M1 h => ?_))
  refine x_iconst C (v1 := 0) dX12_sums_29 (by decide) ?_
  refine x_callV C (st := []) (As := [.int r2, .int 0]) (c := 0) (ci := 12) (enM_12 (c := 0) rfl) (Nat.le_of_ble_eq_true rfl) rfl (tX12_emit hg _ _ _ _ _  h) wm_X12_328 wi_X12_emit wv_X12_emit wz_X12 wc_X12_emit rfl yd_X12_emit rfl ⟨rfl, rfl⟩ ⟨Nat.le_of_ble_eq_true rfl, Nat.le_of_ble_eq_true rfl⟩ (Nat.le_of_ble_eq_true rfl) rfl dX12_sums_30 (x_kv (fun M3 h => ?_))
  refine x_aload_n C 0 rfl rfl dX12_sums_33 ?_
  refine x_dup C rfl dX12_sums_34 ?_
  refine x_get C (c := 0) (ci := 12) (k1 := 9) (v1 := .int (gi M3 0 9)) (enM_12 (c := 0) rfl) (Nat.le_of_ble_eq_true rfl) rfl inX12 (by decide) wf_X12_307 rfl dX12_sums_35 ?_
  refine x_iconst C (v1 := 1) dX12_sums_38 (by decide) ?_
  refine x_isub C dX12_sums_39 ?_
  refine x_put C (c := 0) (ci := 12) (k1 := 9) (u1 := ((gi M3 0 9) - 1)) (v1 := .int ((gi M3 0 9) - 1)) (ty := .int) (enM_12 (c := 0) rfl) (Nat.le_of_ble_eq_true rfl) rfl inX12 (by decide) (stX12_9 _ _ _) tyX12 tyX12_ok nmX12 wf_X12_307 rfl rfl rfl rfl (Nat.le_of_ble_eq_true rfl) dX12_sums_40 ?_
  refine x_nmM (fun M4 eM4 => ?_)
  replace h := h M4 eM4
  refine x_goto C (tgt := 0) dX12_sums_43 (by decide) ?_
  exact hK0 _ _  h
set_option maxHeartbeats 4000000 in
set_option maxRecDepth 100000 in
theorem tX12_sums_0 {g : xG} (hg : x_inj (WM g))  {x : xCx}   {post : xMem → Prop} (C : xOk (WM g) x cX12_sums RX12 2 none (rm_X12_sums) (pV post))   : ∀ (n : Nat) (x1 : Int32) (M : xMem), wX12_sums_0 post n x1 M → xW (WM g) x 2 0 [(0, .ref (ga g 0)), (1, .int x1)] [] M := by
  intro n
  induction n with
  | zero =>
    intro x1 M  h
    exact h.elim
  | succ n ih =>
    intro x1 M  h
    rw [wX12_sums_0] at h
    refine x_aload_n C 0 rfl rfl dX12_sums_0 ?_
    refine x_callV C (st := []) (As := []) (c := 0) (ci := 12) (enM_12 (c := 0) rfl) (Nat.le_of_ble_eq_true rfl) rfl (tX12_top hg _  _ _  h) wm_X12_319 wi_X12_top wv_X12_top wz_X12 wc_X12_top rfl yd_X12_top rfl ⟨rfl, rfl⟩ ⟨Nat.le_of_ble_eq_true rfl, Nat.le_of_ble_eq_true rfl⟩ (Nat.le_of_ble_eq_true rfl) rfl dX12_sums_1 (x_ki (fun r2 M1 h => ?_))
    refine x_callS C (st := []) (As := [.int r2]) (tX12_isTimes hg _ _ _ _  h) wm_X12_322 wsm_X12_isTimes wz_X12 wc_X12_isTimes yd_X12_isTimes rfl ⟨rfl, rfl⟩ ⟨Nat.le_of_ble_eq_true rfl, Nat.le_of_ble_eq_true rfl⟩ (Nat.le_of_ble_eq_true rfl) rfl dX12_sums_4 (x_ki (fun r4 M3 h => ?_))
    refine x_if_ne C (tgt := 24) dX12_sums_7 (by decide) (fun hq5 => ?_) (fun hq5 => ?_)
    · replace h := x_iff hq5 h
      exact tX12_sums_24 hg  C  ih _ _  h
    · replace h := x_ift hq5 h
      refine x_iload_n C 1 rfl rfl dX12_sums_10 ?_
      refine x_if_eq C (tgt := 46) dX12_sums_11 (by decide) (fun hq6 => ?_) (fun hq6 => ?_)
      · replace h := x_ift hq6 h
        exact x_vret C dX12_sums_46 ⟨rfl, h⟩
      · replace h := x_iff hq6 h
        refine x_aload_n C 0 rfl rfl dX12_sums_14 ?_
        refine x_callV C (st := []) (As := []) (c := 0) (ci := 12) (enM_12 (c := 0) rfl) (Nat.le_of_ble_eq_true rfl) rfl (tX12_top hg _  _ _  h) wm_X12_319 wi_X12_top wv_X12_top wz_X12 wc_X12_top rfl yd_X12_top rfl ⟨rfl, rfl⟩ ⟨Nat.le_of_ble_eq_true rfl, Nat.le_of_ble_eq_true rfl⟩ (Nat.le_of_ble_eq_true rfl) rfl dX12_sums_15 (x_ki (fun r8 M7 h => ?_))
        refine x_callS C (st := []) (As := [.int r8]) (tX12_isPlus hg _ _ _ _  h) wm_X12_325 wsm_X12_isPlus wz_X12 wc_X12_isPlus yd_X12_isPlus rfl ⟨rfl, rfl⟩ ⟨Nat.le_of_ble_eq_true rfl, Nat.le_of_ble_eq_true rfl⟩ (Nat.le_of_ble_eq_true rfl) rfl dX12_sums_18 (x_ki (fun r10 M9 h => ?_))
        refine x_if_eq C (tgt := 46) dX12_sums_21 (by decide) (fun hq11 => ?_) (fun hq11 => ?_)
        · replace h := x_ift hq11 h
          exact x_vret C dX12_sums_46 ⟨rfl, h⟩
        · replace h := x_iff hq11 h
          exact tX12_sums_24 hg  C  ih _ _  h
set_option maxHeartbeats 4000000 in
set_option maxRecDepth 100000 in
theorem tX12_sums {g : xG} (hg : x_inj (WM g))  (l : Launch) (a0 : Int32) (M : xMem) (post : xMem → Prop)  (h : wX12_sums a0 M post) : xMet (WM g) l yX12_sums cX12_sums 2 none (rm_X12_sums) [.ref (ga g 0), .int a0] M (pV post) := by
  refine x_enter (own := RX12) (L0 := [(0, .ref (ga g 0)), (1, .int a0)]) (by decide +kernel) rfl hg (x_stM g) (Nat.le_of_ble_eq_true rfl) rfl (fun x hl C => ?_)
  unfold wX12_sums at h
  obtain ⟨n0, h⟩ := h
  exact tX12_sums_0 hg  C   _ _ _  h
set_option maxHeartbeats 4000000 in
set_option maxRecDepth 100000 in
theorem tX12_joins_22 {g : xG} (hg : x_inj (WM g))  {x : xCx}  {K0 : Int32 → xMem → Prop} {post : xMem → Prop} (C : xOk (WM g) x cX12_joins RX12 2 none (rm_X12_joins) (pV post))  (hK0 : ∀ (x1 : Int32) (M : xMem), K0 x1 M → xW (WM g) x 2 0 [(0, .ref (ga g 0)), (1, .int x1)] [] M) (x1 : Int32) (M : xMem)  (h : wX12_joins_22 K0 post x1 M) : xW (WM g) x 2 22 [(0, .ref (ga g 0)), (1, .int x1)] [] M := by
  unfold wX12_joins_22 at h
  refine x_aload_n C 0 rfl rfl dX12_joins_22 ?_
  refine x_aload_n C 0 rfl rfl dX12_joins_23 ?_
  refine x_callV C (st := [.ref (ga g 0)]) (As := []) (c := 0) (ci := 12) (enM_12 (c := 0) rfl) (Nat.le_of_ble_eq_true rfl) rfl (tX12_top hg _  _ _  h) wm_X12_319 wi_X12_top wv_X12_top wz_X12 wc_X12_top rfl yd_X12_top rfl ⟨rfl, rfl⟩ ⟨Nat.le_of_ble_eq_true rfl, Nat.le_of_ble_eq_true rfl⟩ (Nat.le_of_ble_eq_true rfl) rfl dX12_joins_24 (x_ki (fun r2 M1 h => ?_))
  refine x_iconst C (v1 := 0) dX12_joins_27 (by decide) ?_
  refine x_callV C (st := []) (As := [.int r2, .int 0]) (c := 0) (ci := 12) (enM_12 (c := 0) rfl) (Nat.le_of_ble_eq_true rfl) rfl (tX12_emit hg _ _ _ _ _  h) wm_X12_328 wi_X12_emit wv_X12_emit wz_X12 wc_X12_emit rfl yd_X12_emit rfl ⟨rfl, rfl⟩ ⟨Nat.le_of_ble_eq_true rfl, Nat.le_of_ble_eq_true rfl⟩ (Nat.le_of_ble_eq_true rfl) rfl dX12_joins_28 (x_kv (fun M3 h => ?_))
  refine x_aload_n C 0 rfl rfl dX12_joins_31 ?_
  refine x_dup C rfl dX12_joins_32 ?_
  refine x_get C (c := 0) (ci := 12) (k1 := 9) (v1 := .int (gi M3 0 9)) (enM_12 (c := 0) rfl) (Nat.le_of_ble_eq_true rfl) rfl inX12 (by decide) wf_X12_307 rfl dX12_joins_33 ?_
  refine x_iconst C (v1 := 1) dX12_joins_36 (by decide) ?_
  refine x_isub C dX12_joins_37 ?_
  refine x_put C (c := 0) (ci := 12) (k1 := 9) (u1 := ((gi M3 0 9) - 1)) (v1 := .int ((gi M3 0 9) - 1)) (ty := .int) (enM_12 (c := 0) rfl) (Nat.le_of_ble_eq_true rfl) rfl inX12 (by decide) (stX12_9 _ _ _) tyX12 tyX12_ok nmX12 wf_X12_307 rfl rfl rfl rfl (Nat.le_of_ble_eq_true rfl) dX12_joins_38 ?_
  refine x_nmM (fun M4 eM4 => ?_)
  replace h := h M4 eM4
  refine x_goto C (tgt := 0) dX12_joins_41 (by decide) ?_
  exact hK0 _ _  h
set_option maxHeartbeats 4000000 in
set_option maxRecDepth 100000 in
theorem tX12_joins_0 {g : xG} (hg : x_inj (WM g))  {x : xCx}   {post : xMem → Prop} (C : xOk (WM g) x cX12_joins RX12 2 none (rm_X12_joins) (pV post))   : ∀ (n : Nat) (x1 : Int32) (M : xMem), wX12_joins_0 post n x1 M → xW (WM g) x 2 0 [(0, .ref (ga g 0)), (1, .int x1)] [] M := by
  intro n
  induction n with
  | zero =>
    intro x1 M  h
    exact h.elim
  | succ n ih =>
    intro x1 M  h
    rw [wX12_joins_0] at h
    refine x_aload_n C 0 rfl rfl dX12_joins_0 ?_
    refine x_callV C (st := []) (As := []) (c := 0) (ci := 12) (enM_12 (c := 0) rfl) (Nat.le_of_ble_eq_true rfl) rfl (tX12_top hg _  _ _  h) wm_X12_319 wi_X12_top wv_X12_top wz_X12 wc_X12_top rfl yd_X12_top rfl ⟨rfl, rfl⟩ ⟨Nat.le_of_ble_eq_true rfl, Nat.le_of_ble_eq_true rfl⟩ (Nat.le_of_ble_eq_true rfl) rfl dX12_joins_1 (x_ki (fun r2 M1 h => ?_))
    refine x_bipush C (v1 := 38) dX12_joins_4 (by decide) ?_
    refine x_icmp_eq C (tgt := 22) dX12_joins_6 (by decide) (fun hq3 => ?_) (fun hq3 => ?_)
    · replace h := x_ift hq3 h
      exact tX12_joins_22 hg  C  ih _ _  h
    · replace h := x_iff hq3 h
      refine x_iload_n C 1 rfl rfl dX12_joins_9 ?_
      refine x_if_eq C (tgt := 44) dX12_joins_10 (by decide) (fun hq4 => ?_) (fun hq4 => ?_)
      · replace h := x_ift hq4 h
        exact x_vret C dX12_joins_44 ⟨rfl, h⟩
      · replace h := x_iff hq4 h
        refine x_aload_n C 0 rfl rfl dX12_joins_13 ?_
        refine x_callV C (st := []) (As := []) (c := 0) (ci := 12) (enM_12 (c := 0) rfl) (Nat.le_of_ble_eq_true rfl) rfl (tX12_top hg _  _ _  h) wm_X12_319 wi_X12_top wv_X12_top wz_X12 wc_X12_top rfl yd_X12_top rfl ⟨rfl, rfl⟩ ⟨Nat.le_of_ble_eq_true rfl, Nat.le_of_ble_eq_true rfl⟩ (Nat.le_of_ble_eq_true rfl) rfl dX12_joins_14 (x_ki (fun r6 M5 h => ?_))
        refine x_bipush C (v1 := 124) dX12_joins_17 (by decide) ?_
        refine x_icmp_ne C (tgt := 44) dX12_joins_19 (by decide) (fun hq7 => ?_) (fun hq7 => ?_)
        · replace h := x_iff hq7 h
          exact x_vret C dX12_joins_44 ⟨rfl, h⟩
        · replace h := x_ift hq7 h
          exact tX12_joins_22 hg  C  ih _ _  h
set_option maxHeartbeats 4000000 in
set_option maxRecDepth 100000 in
theorem tX12_joins {g : xG} (hg : x_inj (WM g))  (l : Launch) (a0 : Int32) (M : xMem) (post : xMem → Prop)  (h : wX12_joins a0 M post) : xMet (WM g) l yX12_joins cX12_joins 2 none (rm_X12_joins) [.ref (ga g 0), .int a0] M (pV post) := by
  refine x_enter (own := RX12) (L0 := [(0, .ref (ga g 0)), (1, .int a0)]) (by decide +kernel) rfl hg (x_stM g) (Nat.le_of_ble_eq_true rfl) rfl (fun x hl C => ?_)
  unfold wX12_joins at h
  obtain ⟨n0, h⟩ := h
  exact tX12_joins_0 hg  C   _ _ _  h
set_option maxHeartbeats 4000000 in
set_option maxRecDepth 100000 in
theorem tX12_ends_0 {g : xG} (hg : x_inj (WM g))  {x : xCx}   {post : xMem → Prop} (C : xOk (WM g) x cX12_ends RX12 1 none (rm_X12_ends) (pV post))   : ∀ (n : Nat)  (M : xMem), wX12_ends_0 post n  M → xW (WM g) x 1 0 [(0, .ref (ga g 0))] [] M := by
  intro n
  induction n with
  | zero =>
    intro  M  h
    exact h.elim
  | succ n ih =>
    intro  M  h
    rw [wX12_ends_0] at h
    refine x_aload_n C 0 rfl rfl dX12_ends_0 ?_
    refine x_callV C (st := []) (As := []) (c := 0) (ci := 12) (enM_12 (c := 0) rfl) (Nat.le_of_ble_eq_true rfl) rfl (tX12_top hg _  _ _  h) wm_X12_319 wi_X12_top wv_X12_top wz_X12 wc_X12_top rfl yd_X12_top rfl ⟨rfl, rfl⟩ ⟨Nat.le_of_ble_eq_true rfl, Nat.le_of_ble_eq_true rfl⟩ (Nat.le_of_ble_eq_true rfl) rfl dX12_ends_1 (x_ki (fun r2 M1 h => ?_))
    refine x_bipush C (v1 := 33) dX12_ends_4 (by decide) ?_
    refine x_icmp_ne C (tgt := 38) dX12_ends_6 (by decide) (fun hq3 => ?_) (fun hq3 => ?_)
    · replace h := x_iff hq3 h
      exact x_vret C dX12_ends_38 ⟨rfl, h⟩
    · replace h := x_ift hq3 h
      refine x_aload_n C 0 rfl rfl dX12_ends_9 ?_
      refine x_iconst C (v1 := 2) dX12_ends_10 (by decide) ?_
      refine x_iconst C (v1 := 0) dX12_ends_11 (by decide) ?_
      refine x_callV C (st := []) (As := [.int 2, .int 0]) (c := 0) (ci := 12) (enM_12 (c := 0) rfl) (Nat.le_of_ble_eq_true rfl) rfl (tX12_emit hg _ _ _ _ _  h) wm_X12_328 wi_X12_emit wv_X12_emit wz_X12 wc_X12_emit rfl yd_X12_emit rfl ⟨rfl, rfl⟩ ⟨Nat.le_of_ble_eq_true rfl, Nat.le_of_ble_eq_true rfl⟩ (Nat.le_of_ble_eq_true rfl) rfl dX12_ends_12 (x_kv (fun M4 h => ?_))
      refine x_aload_n C 0 rfl rfl dX12_ends_15 ?_
      refine x_dup C rfl dX12_ends_16 ?_
      refine x_get C (c := 0) (ci := 12) (k1 := 9) (v1 := .int (gi M4 0 9)) (enM_12 (c := 0) rfl) (Nat.le_of_ble_eq_true rfl) rfl inX12 (by decide) wf_X12_307 rfl dX12_ends_17 ?_
      refine x_iconst C (v1 := 1) dX12_ends_20 (by decide) ?_
      refine x_isub C dX12_ends_21 ?_
      refine x_put C (c := 0) (ci := 12) (k1 := 9) (u1 := ((gi M4 0 9) - 1)) (v1 := .int ((gi M4 0 9) - 1)) (ty := .int) (enM_12 (c := 0) rfl) (Nat.le_of_ble_eq_true rfl) rfl inX12 (by decide) (stX12_9 _ _ _) tyX12 tyX12_ok nmX12 wf_X12_307 rfl rfl rfl rfl (Nat.le_of_ble_eq_true rfl) dX12_ends_22 ?_
      refine x_nmM (fun M5 eM5 => ?_)
      replace h := h M5 eM5
      refine x_aload_n C 0 rfl rfl dX12_ends_25 ?_
      refine x_dup C rfl dX12_ends_26 ?_
      refine x_get C (c := 0) (ci := 12) (k1 := 8) (v1 := .int (gi M5 0 8)) (enM_12 (c := 0) rfl) (Nat.le_of_ble_eq_true rfl) rfl inX12 (by decide) wf_X12_310 rfl dX12_ends_27 ?_
      refine x_iconst C (v1 := 1) dX12_ends_30 (by decide) ?_
      refine x_isub C dX12_ends_31 ?_
      refine x_put C (c := 0) (ci := 12) (k1 := 8) (u1 := ((gi M5 0 8) - 1)) (v1 := .int ((gi M5 0 8) - 1)) (ty := .int) (enM_12 (c := 0) rfl) (Nat.le_of_ble_eq_true rfl) rfl inX12 (by decide) (stX12_8 _ _ _) tyX12 tyX12_ok nmX12 wf_X12_310 rfl rfl rfl rfl (Nat.le_of_ble_eq_true rfl) dX12_ends_32 ?_
      refine x_nmM (fun M6 eM6 => ?_)
      replace h := h M6 eM6
      refine x_goto C (tgt := 0) dX12_ends_35 (by decide) ?_
      exact ih _  h
set_option maxHeartbeats 4000000 in
set_option maxRecDepth 100000 in
theorem tX12_ends {g : xG} (hg : x_inj (WM g))  (l : Launch)  (M : xMem) (post : xMem → Prop)  (h : wX12_ends  M post) : xMet (WM g) l yX12_ends cX12_ends 1 none (rm_X12_ends) [.ref (ga g 0)] M (pV post) := by
  refine x_enter (own := RX12) (L0 := [(0, .ref (ga g 0))]) (by decide +kernel) rfl hg (x_stM g) (Nat.le_of_ble_eq_true rfl) rfl (fun x hl C => ?_)
  unfold wX12_ends at h
  obtain ⟨n0, h⟩ := h
  exact tX12_ends_0 hg  C   _ _  h
set_option maxHeartbeats 4000000 in
set_option maxRecDepth 100000 in
theorem tX12_factor_23 {g : xG} (hg : x_inj (WM g))  {x : xCx}   {post : xMem → Prop} (C : xOk (WM g) x cX12_factor RX12 1 none (rm_X12_factor) (pV post))    (M : xMem)  (h : wX12_factor_23 post  M) : xW (WM g) x 1 23 [(0, .ref (ga g 0))] [] M := by
  unfold wX12_factor_23 at h
  refine x_aload_n C 0 rfl rfl dX12_factor_23 ?_
  refine x_callV C (st := []) (As := []) (c := 0) (ci := 12) (enM_12 (c := 0) rfl) (Nat.le_of_ble_eq_true rfl) rfl (tX12_isGood hg _  _ _  h) wm_X12_233 wi_X12_isGood wv_X12_isGood wz_X12 wc_X12_isGood rfl yd_X12_isGood rfl ⟨rfl, rfl⟩ ⟨Nat.le_of_ble_eq_true rfl, Nat.le_of_ble_eq_true rfl⟩ (Nat.le_of_ble_eq_true rfl) rfl dX12_factor_24 (x_ki (fun r2 M1 h => ?_))
  refine x_if_ne C (tgt := 31) dX12_factor_27 (by decide) (fun hq3 => ?_) (fun hq3 => ?_)
  · replace h := x_iff hq3 h
    refine x_aload_n C 0 rfl rfl dX12_factor_31 ?_
    refine x_callV C (st := []) (As := []) (c := 0) (ci := 12) (enM_12 (c := 0) rfl) (Nat.le_of_ble_eq_true rfl) rfl (tX12_seesDigit hg _  _ _  h) wm_X12_316 wi_X12_seesDigit wv_X12_seesDigit wz_X12 wc_X12_seesDigit rfl yd_X12_seesDigit rfl ⟨rfl, rfl⟩ ⟨Nat.le_of_ble_eq_true rfl, Nat.le_of_ble_eq_true rfl⟩ (Nat.le_of_ble_eq_true rfl) rfl dX12_factor_32 (x_ki (fun r5 M4 h => ?_))
    refine x_if_eq C (tgt := 50) dX12_factor_35 (by decide) (fun hq6 => ?_) (fun hq6 => ?_)
    · replace h := x_ift hq6 h
      refine x_aload_n C 0 rfl rfl dX12_factor_50 ?_
      refine x_callV C (st := []) (As := []) (c := 0) (ci := 12) (enM_12 (c := 0) rfl) (Nat.le_of_ble_eq_true rfl) rfl (tX12_here hg _  _ _  h) wm_X12_214 wi_X12_here wv_X12_here wz_X12 wc_X12_here rfl yd_X12_here rfl ⟨rfl, rfl⟩ ⟨Nat.le_of_ble_eq_true rfl, Nat.le_of_ble_eq_true rfl⟩ (Nat.le_of_ble_eq_true rfl) rfl dX12_factor_51 (x_ki (fun r8 M7 h => ?_))
      refine x_callS C (st := []) (As := [.int r8]) (tX12_isValue hg _ _ _ _  h) wm_X12_337 wsm_X12_isValue wz_X12 wc_X12_isValue yd_X12_isValue rfl ⟨rfl, rfl⟩ ⟨Nat.le_of_ble_eq_true rfl, Nat.le_of_ble_eq_true rfl⟩ (Nat.le_of_ble_eq_true rfl) rfl dX12_factor_54 (x_ki (fun r10 M9 h => ?_))
      refine x_if_eq C (tgt := 82) dX12_factor_57 (by decide) (fun hq11 => ?_) (fun hq11 => ?_)
      · replace h := x_ift hq11 h
        refine x_aload_n C 0 rfl rfl dX12_factor_82 ?_
        refine x_iconst C (v1 := 1) dX12_factor_83 (by decide) ?_
        refine x_aload_n C 0 rfl rfl dX12_factor_84 ?_
        refine x_get C (c := 0) (ci := 12) (k1 := 3) (v1 := .int (gi M9 0 3)) (enM_12 (c := 0) rfl) (Nat.le_of_ble_eq_true rfl) rfl inX12 (by decide) wf_X12_205 rfl dX12_factor_85 ?_
        refine x_callV C (st := []) (As := [.int 1, .int (gi M9 0 3)]) (c := 0) (ci := 12) (enM_12 (c := 0) rfl) (Nat.le_of_ble_eq_true rfl) rfl (tX12_wrongs hg _ _ _ _ _  h) wm_X12_229 wi_X12_wrongs wv_X12_wrongs wz_X12 wc_X12_wrongs rfl yd_X12_wrongs rfl ⟨rfl, rfl⟩ ⟨Nat.le_of_ble_eq_true rfl, Nat.le_of_ble_eq_true rfl⟩ (Nat.le_of_ble_eq_true rfl) rfl dX12_factor_88 (x_kv (fun M12 h => ?_))
        exact x_vret C dX12_factor_91 ⟨rfl, h⟩
      · replace h := x_iff hq11 h
        refine x_aload_n C 0 rfl rfl dX12_factor_60 ?_
        refine x_iconst C (v1 := 1) dX12_factor_61 (by decide) ?_
        refine x_aload_n C 0 rfl rfl dX12_factor_62 ?_
        refine x_callV C (st := [.int 1, .ref (ga g 0)]) (As := []) (c := 0) (ci := 12) (enM_12 (c := 0) rfl) (Nat.le_of_ble_eq_true rfl) rfl (tX12_here hg _  _ _  h) wm_X12_214 wi_X12_here wv_X12_here wz_X12 wc_X12_here rfl yd_X12_here rfl ⟨rfl, rfl⟩ ⟨Nat.le_of_ble_eq_true rfl, Nat.le_of_ble_eq_true rfl⟩ (Nat.le_of_ble_eq_true rfl) rfl dX12_factor_63 (x_ki (fun r14 M13 h => ?_))
        refine x_callV C (st := []) (As := [.int 1, .int r14]) (c := 0) (ci := 12) (enM_12 (c := 0) rfl) (Nat.le_of_ble_eq_true rfl) rfl (tX12_emit hg _ _ _ _ _  h) wm_X12_328 wi_X12_emit wv_X12_emit wz_X12 wc_X12_emit rfl yd_X12_emit rfl ⟨rfl, rfl⟩ ⟨Nat.le_of_ble_eq_true rfl, Nat.le_of_ble_eq_true rfl⟩ (Nat.le_of_ble_eq_true rfl) rfl dX12_factor_66 (x_kv (fun M15 h => ?_))
        refine x_aload_n C 0 rfl rfl dX12_factor_69 ?_
        refine x_dup C rfl dX12_factor_70 ?_
        refine x_get C (c := 0) (ci := 12) (k1 := 3) (v1 := .int (gi M15 0 3)) (enM_12 (c := 0) rfl) (Nat.le_of_ble_eq_true rfl) rfl inX12 (by decide) wf_X12_205 rfl dX12_factor_71 ?_
        refine x_iconst C (v1 := 1) dX12_factor_74 (by decide) ?_
        refine x_iadd C dX12_factor_75 ?_
        refine x_put C (c := 0) (ci := 12) (k1 := 3) (u1 := ((gi M15 0 3) + 1)) (v1 := .int ((gi M15 0 3) + 1)) (ty := .int) (enM_12 (c := 0) rfl) (Nat.le_of_ble_eq_true rfl) rfl inX12 (by decide) (stX12_3 _ _ _) tyX12 tyX12_ok nmX12 wf_X12_205 rfl rfl rfl rfl (Nat.le_of_ble_eq_true rfl) dX12_factor_76 ?_
        refine x_nmM (fun M16 eM16 => ?_)
        replace h := h M16 eM16
        refine x_goto C (tgt := 91) dX12_factor_79 (by decide) ?_
        exact x_vret C dX12_factor_91 ⟨rfl, h⟩
    · replace h := x_iff hq6 h
      refine x_aload_n C 0 rfl rfl dX12_factor_38 ?_
      refine x_iconst C (v1 := 0) dX12_factor_39 (by decide) ?_
      refine x_aload_n C 0 rfl rfl dX12_factor_40 ?_
      refine x_callV C (st := [.int 0, .ref (ga g 0)]) (As := []) (c := 0) (ci := 12) (enM_12 (c := 0) rfl) (Nat.le_of_ble_eq_true rfl) rfl (tX12_reads hg _  _ _  h) wm_X12_334 wi_X12_reads wv_X12_reads wz_X12 wc_X12_reads rfl yd_X12_reads rfl ⟨rfl, rfl⟩ ⟨Nat.le_of_ble_eq_true rfl, Nat.le_of_ble_eq_true rfl⟩ (Nat.le_of_ble_eq_true rfl) rfl dX12_factor_41 (x_ki (fun r18 M17 h => ?_))
      refine x_callV C (st := []) (As := [.int 0, .int r18]) (c := 0) (ci := 12) (enM_12 (c := 0) rfl) (Nat.le_of_ble_eq_true rfl) rfl (tX12_emit hg _ _ _ _ _  h) wm_X12_328 wi_X12_emit wv_X12_emit wz_X12 wc_X12_emit rfl yd_X12_emit rfl ⟨rfl, rfl⟩ ⟨Nat.le_of_ble_eq_true rfl, Nat.le_of_ble_eq_true rfl⟩ (Nat.le_of_ble_eq_true rfl) rfl dX12_factor_44 (x_kv (fun M19 h => ?_))
      refine x_goto C (tgt := 91) dX12_factor_47 (by decide) ?_
      exact x_vret C dX12_factor_91 ⟨rfl, h⟩
  · replace h := x_ift hq3 h
    exact x_vret C dX12_factor_30 ⟨rfl, h⟩
set_option maxHeartbeats 4000000 in
set_option maxRecDepth 100000 in
theorem tX12_factor_0 {g : xG} (hg : x_inj (WM g))  {x : xCx}   {post : xMem → Prop} (C : xOk (WM g) x cX12_factor RX12 1 none (rm_X12_factor) (pV post))   : ∀ (n : Nat)  (M : xMem), wX12_factor_0 post n  M → xW (WM g) x 1 0 [(0, .ref (ga g 0))] [] M := by
  intro n
  induction n with
  | zero =>
    intro  M  h
    exact h.elim
  | succ n ih =>
    intro  M  h
    rw [wX12_factor_0] at h
    refine x_aload_n C 0 rfl rfl dX12_factor_0 ?_
    refine x_callV C (st := []) (As := []) (c := 0) (ci := 12) (enM_12 (c := 0) rfl) (Nat.le_of_ble_eq_true rfl) rfl (tX12_isGood hg _  _ _  h) wm_X12_233 wi_X12_isGood wv_X12_isGood wz_X12 wc_X12_isGood rfl yd_X12_isGood rfl ⟨rfl, rfl⟩ ⟨Nat.le_of_ble_eq_true rfl, Nat.le_of_ble_eq_true rfl⟩ (Nat.le_of_ble_eq_true rfl) rfl dX12_factor_1 (x_ki (fun r2 M1 h => ?_))
    refine x_if_eq C (tgt := 23) dX12_factor_4 (by decide) (fun hq3 => ?_) (fun hq3 => ?_)
    · replace h := x_ift hq3 h
      exact tX12_factor_23 hg  C   _  h
    · replace h := x_iff hq3 h
      refine x_aload_n C 0 rfl rfl dX12_factor_7 ?_
      refine x_callV C (st := []) (As := []) (c := 0) (ci := 12) (enM_12 (c := 0) rfl) (Nat.le_of_ble_eq_true rfl) rfl (tX12_here hg _  _ _  h) wm_X12_214 wi_X12_here wv_X12_here wz_X12 wc_X12_here rfl yd_X12_here rfl ⟨rfl, rfl⟩ ⟨Nat.le_of_ble_eq_true rfl, Nat.le_of_ble_eq_true rfl⟩ (Nat.le_of_ble_eq_true rfl) rfl dX12_factor_8 (x_ki (fun r5 M4 h => ?_))
      refine x_bipush C (v1 := 91) dX12_factor_11 (by decide) ?_
      refine x_icmp_ne C (tgt := 23) dX12_factor_13 (by decide) (fun hq6 => ?_) (fun hq6 => ?_)
      · replace h := x_iff hq6 h
        exact tX12_factor_23 hg  C   _  h
      · replace h := x_ift hq6 h
        refine x_aload_n C 0 rfl rfl dX12_factor_16 ?_
        refine x_callV C (st := []) (As := []) (c := 0) (ci := 12) (enM_12 (c := 0) rfl) (Nat.le_of_ble_eq_true rfl) rfl (tX12_opens hg _  _ _  h) wm_X12_331 wi_X12_opens wv_X12_opens wz_X12 wc_X12_opens rfl yd_X12_opens rfl ⟨rfl, rfl⟩ ⟨Nat.le_of_ble_eq_true rfl, Nat.le_of_ble_eq_true rfl⟩ (Nat.le_of_ble_eq_true rfl) rfl dX12_factor_17 (x_kv (fun M7 h => ?_))
        refine x_goto C (tgt := 0) dX12_factor_20 (by decide) ?_
        exact ih _  h
set_option maxHeartbeats 4000000 in
set_option maxRecDepth 100000 in
theorem tX12_factor {g : xG} (hg : x_inj (WM g))  (l : Launch)  (M : xMem) (post : xMem → Prop)  (h : wX12_factor  M post) : xMet (WM g) l yX12_factor cX12_factor 1 none (rm_X12_factor) [.ref (ga g 0)] M (pV post) := by
  refine x_enter (own := RX12) (L0 := [(0, .ref (ga g 0))]) (by decide +kernel) rfl hg (x_stM g) (Nat.le_of_ble_eq_true rfl) rfl (fun x hl C => ?_)
  unfold wX12_factor at h
  obtain ⟨n0, h⟩ := h
  exact tX12_factor_0 hg  C   _ _  h
set_option maxHeartbeats 4000000 in
set_option maxRecDepth 100000 in
theorem tX12_stays_19 {g : xG} (hg : x_inj (WM g))  {x : xCx}   {post : Int32 → xMem → Prop} (C : xOk (WM g) x cX12_stays RX12 2 (some .boolean) (rm_X12_stays) (pI post))   (x1 : Int32) (M : xMem)  (h : wX12_stays_19 post x1 M) : xW (WM g) x 2 19 [(0, .ref (ga g 0)), (1, .int x1)] [] M := by
  unfold wX12_stays_19 at h
  refine x_aload_n C 0 rfl rfl dX12_stays_19 ?_
  refine x_iload_n C 1 rfl rfl dX12_stays_20 ?_
  refine x_callS C (st := [.ref (ga g 0)]) (As := [.int x1]) (tX12_isPlus hg _ _ _ _  h) wm_X12_325 wsm_X12_isPlus wz_X12 wc_X12_isPlus yd_X12_isPlus rfl ⟨rfl, rfl⟩ ⟨Nat.le_of_ble_eq_true rfl, Nat.le_of_ble_eq_true rfl⟩ (Nat.le_of_ble_eq_true rfl) rfl dX12_stays_21 (x_ki (fun r2 M1 h => ?_))
  refine x_callV C (st := []) (As := [.int r2]) (c := 0) (ci := 12) (enM_12 (c := 0) rfl) (Nat.le_of_ble_eq_true rfl) rfl (tX12_sums hg _ _ _ _  h) wm_X12_340 wi_X12_sums wv_X12_sums wz_X12 wc_X12_sums rfl yd_X12_sums rfl ⟨rfl, rfl⟩ ⟨Nat.le_of_ble_eq_true rfl, Nat.le_of_ble_eq_true rfl⟩ (Nat.le_of_ble_eq_true rfl) rfl dX12_stays_24 (x_kv (fun M3 h => ?_))
  refine x_aload_n C 0 rfl rfl dX12_stays_27 ?_
  refine x_iload_n C 1 rfl rfl dX12_stays_28 ?_
  refine x_callV C (st := []) (As := [.int x1]) (c := 0) (ci := 12) (enM_12 (c := 0) rfl) (Nat.le_of_ble_eq_true rfl) rfl (tX12_puts hg _ _ _ _  h) wm_X12_313 wi_X12_puts wv_X12_puts wz_X12 wc_X12_puts rfl yd_X12_puts rfl ⟨rfl, rfl⟩ ⟨Nat.le_of_ble_eq_true rfl, Nat.le_of_ble_eq_true rfl⟩ (Nat.le_of_ble_eq_true rfl) rfl dX12_stays_29 (x_kv (fun M4 h => ?_))
  refine x_iconst C (v1 := 1) dX12_stays_32 (by decide) ?_
  exact x_zret C rfl dX12_stays_33 ⟨_, rfl, h⟩
set_option maxHeartbeats 4000000 in
set_option maxRecDepth 100000 in
theorem tX12_stays {g : xG} (hg : x_inj (WM g))  (l : Launch)  (M : xMem) (post : Int32 → xMem → Prop)  (h : wX12_stays  M post) : xMet (WM g) l yX12_stays cX12_stays 2 (some .boolean) (rm_X12_stays) [.ref (ga g 0)] M (pI post) := by
  refine x_enter (own := RX12) (L0 := [(0, .ref (ga g 0))]) (by decide +kernel) rfl hg (x_stM g) (Nat.le_of_ble_eq_true rfl) rfl (fun x hl C => ?_)
  unfold wX12_stays at h
  refine x_aload_n C 0 rfl rfl dX12_stays_0 ?_
  refine x_callV C (st := []) (As := []) (c := 0) (ci := 12) (enM_12 (c := 0) rfl) (Nat.le_of_ble_eq_true rfl) rfl (tX12_here hg _  _ _  h) wm_X12_214 wi_X12_here wv_X12_here wz_X12 wc_X12_here rfl yd_X12_here rfl ⟨rfl, rfl⟩ ⟨Nat.le_of_ble_eq_true rfl, Nat.le_of_ble_eq_true rfl⟩ (Nat.le_of_ble_eq_true rfl) rfl dX12_stays_1 (x_ki (fun r2 M1 h => ?_))
  refine x_istore_n C (L' := [(1, .int r2), (0, .ref (ga g 0))]) rfl rfl (Nat.le_of_ble_eq_true rfl) dX12_stays_4 ?_
  refine x_iload_n C 0 rfl rfl dX12_stays_5 ?_
  refine x_callS C (st := []) (As := [.int r2]) (tX12_isTimes hg _ _ _ _  h) wm_X12_322 wsm_X12_isTimes wz_X12 wc_X12_isTimes yd_X12_isTimes rfl ⟨rfl, rfl⟩ ⟨Nat.le_of_ble_eq_true rfl, Nat.le_of_ble_eq_true rfl⟩ (Nat.le_of_ble_eq_true rfl) rfl dX12_stays_6 (x_ki (fun r4 M3 h => ?_))
  refine x_if_ne C (tgt := 19) dX12_stays_9 (by decide) (fun hq5 => ?_) (fun hq5 => ?_)
  · replace h := x_iff hq5 h
    refine x_loc (L' := [(0, .ref (ga g 0)), (1, .int r2)]) [1, 0] rfl ?_
    exact tX12_stays_19 hg  C   _ _  h
  · replace h := x_ift hq5 h
    refine x_iload_n C 0 rfl rfl dX12_stays_12 ?_
    refine x_callS C (st := []) (As := [.int r2]) (tX12_isPlus hg _ _ _ _  h) wm_X12_325 wsm_X12_isPlus wz_X12 wc_X12_isPlus yd_X12_isPlus rfl ⟨rfl, rfl⟩ ⟨Nat.le_of_ble_eq_true rfl, Nat.le_of_ble_eq_true rfl⟩ (Nat.le_of_ble_eq_true rfl) rfl dX12_stays_13 (x_ki (fun r7 M6 h => ?_))
    refine x_if_eq C (tgt := 34) dX12_stays_16 (by decide) (fun hq8 => ?_) (fun hq8 => ?_)
    · replace h := x_ift hq8 h
      refine x_aload_n C 1 rfl rfl dX12_stays_34 ?_
      refine x_iconst C (v1 := 1) dX12_stays_35 (by decide) ?_
      refine x_callV C (st := []) (As := [.int 1]) (c := 0) (ci := 12) (enM_12 (c := 0) rfl) (Nat.le_of_ble_eq_true rfl) rfl (tX12_sums hg _ _ _ _  h) wm_X12_340 wi_X12_sums wv_X12_sums wz_X12 wc_X12_sums rfl yd_X12_sums rfl ⟨rfl, rfl⟩ ⟨Nat.le_of_ble_eq_true rfl, Nat.le_of_ble_eq_true rfl⟩ (Nat.le_of_ble_eq_true rfl) rfl dX12_stays_36 (x_kv (fun M9 h => ?_))
      refine x_iload_n C 0 rfl rfl dX12_stays_39 ?_
      refine x_bipush C (v1 := 93) dX12_stays_40 (by decide) ?_
      refine x_icmp_eq C (tgt := 47) dX12_stays_42 (by decide) (fun hq10 => ?_) (fun hq10 => ?_)
      · replace h := x_ift hq10 h
        refine x_aload_n C 1 rfl rfl dX12_stays_47 ?_
        refine x_callV C (st := []) (As := []) (c := 0) (ci := 12) (enM_12 (c := 0) rfl) (Nat.le_of_ble_eq_true rfl) rfl (tX12_top hg _  _ _  h) wm_X12_319 wi_X12_top wv_X12_top wz_X12 wc_X12_top rfl yd_X12_top rfl ⟨rfl, rfl⟩ ⟨Nat.le_of_ble_eq_true rfl, Nat.le_of_ble_eq_true rfl⟩ (Nat.le_of_ble_eq_true rfl) rfl dX12_stays_48 (x_ki (fun r12 M11 h => ?_))
        refine x_bipush C (v1 := 91) dX12_stays_51 (by decide) ?_
        refine x_icmp_eq C (tgt := 67) dX12_stays_53 (by decide) (fun hq13 => ?_) (fun hq13 => ?_)
        · replace h := x_ift hq13 h
          refine x_aload_n C 1 rfl rfl dX12_stays_67 ?_
          refine x_dup C rfl dX12_stays_68 ?_
          refine x_get C (c := 0) (ci := 12) (k1 := 9) (v1 := .int (gi M11 0 9)) (enM_12 (c := 0) rfl) (Nat.le_of_ble_eq_true rfl) rfl inX12 (by decide) wf_X12_307 rfl dX12_stays_69 ?_
          refine x_iconst C (v1 := 1) dX12_stays_72 (by decide) ?_
          refine x_isub C dX12_stays_73 ?_
          refine x_put C (c := 0) (ci := 12) (k1 := 9) (u1 := ((gi M11 0 9) - 1)) (v1 := .int ((gi M11 0 9) - 1)) (ty := .int) (enM_12 (c := 0) rfl) (Nat.le_of_ble_eq_true rfl) rfl inX12 (by decide) (stX12_9 _ _ _) tyX12 tyX12_ok nmX12 wf_X12_307 rfl rfl rfl rfl (Nat.le_of_ble_eq_true rfl) dX12_stays_74 ?_
          refine x_nmM (fun M14 eM14 => ?_)
          replace h := h M14 eM14
          refine x_aload_n C 1 rfl rfl dX12_stays_77 ?_
          refine x_dup C rfl dX12_stays_78 ?_
          refine x_get C (c := 0) (ci := 12) (k1 := 8) (v1 := .int (gi M14 0 8)) (enM_12 (c := 0) rfl) (Nat.le_of_ble_eq_true rfl) rfl inX12 (by decide) wf_X12_310 rfl dX12_stays_79 ?_
          refine x_iconst C (v1 := 1) dX12_stays_82 (by decide) ?_
          refine x_isub C dX12_stays_83 ?_
          refine x_put C (c := 0) (ci := 12) (k1 := 8) (u1 := ((gi M14 0 8) - 1)) (v1 := .int ((gi M14 0 8) - 1)) (ty := .int) (enM_12 (c := 0) rfl) (Nat.le_of_ble_eq_true rfl) rfl inX12 (by decide) (stX12_8 _ _ _) tyX12 tyX12_ok nmX12 wf_X12_310 rfl rfl rfl rfl (Nat.le_of_ble_eq_true rfl) dX12_stays_84 ?_
          refine x_nmM (fun M15 eM15 => ?_)
          replace h := h M15 eM15
          refine x_aload_n C 1 rfl rfl dX12_stays_87 ?_
          refine x_dup C rfl dX12_stays_88 ?_
          refine x_get C (c := 0) (ci := 12) (k1 := 3) (v1 := .int (gi M15 0 3)) (enM_12 (c := 0) rfl) (Nat.le_of_ble_eq_true rfl) rfl inX12 (by decide) wf_X12_205 rfl dX12_stays_89 ?_
          refine x_iconst C (v1 := 1) dX12_stays_92 (by decide) ?_
          refine x_iadd C dX12_stays_93 ?_
          refine x_put C (c := 0) (ci := 12) (k1 := 3) (u1 := ((gi M15 0 3) + 1)) (v1 := .int ((gi M15 0 3) + 1)) (ty := .int) (enM_12 (c := 0) rfl) (Nat.le_of_ble_eq_true rfl) rfl inX12 (by decide) (stX12_3 _ _ _) tyX12 tyX12_ok nmX12 wf_X12_205 rfl rfl rfl rfl (Nat.le_of_ble_eq_true rfl) dX12_stays_94 ?_
          refine x_nmM (fun M16 eM16 => ?_)
          replace h := h M16 eM16
          refine x_aload_n C 1 rfl rfl dX12_stays_97 ?_
          refine x_iconst C (v1 := 1) dX12_stays_98 (by decide) ?_
          refine x_put C (c := 0) (ci := 12) (k1 := 36) (u1 := 1) (v1 := .int 1) (ty := .boolean) (enM_12 (c := 0) rfl) (Nat.le_of_ble_eq_true rfl) rfl inX12 (by decide) (stX12_36 _ _ _) tyX12 tyX12_ok nmX12 wf_X12_344 rfl rfl rfl rfl (Nat.le_of_ble_eq_true rfl) dX12_stays_99 ?_
          refine x_nmM (fun M17 eM17 => ?_)
          replace h := h M17 eM17
          refine x_iconst C (v1 := 1) dX12_stays_102 (by decide) ?_
          exact x_zret C rfl dX12_stays_103 ⟨_, rfl, h⟩
        · replace h := x_iff hq13 h
          refine x_aload_n C 1 rfl rfl dX12_stays_56 ?_
          refine x_iconst C (v1 := 1) dX12_stays_57 (by decide) ?_
          refine x_aload_n C 1 rfl rfl dX12_stays_58 ?_
          refine x_get C (c := 0) (ci := 12) (k1 := 3) (v1 := .int (gi M11 0 3)) (enM_12 (c := 0) rfl) (Nat.le_of_ble_eq_true rfl) rfl inX12 (by decide) wf_X12_205 rfl dX12_stays_59 ?_
          refine x_callV C (st := []) (As := [.int 1, .int (gi M11 0 3)]) (c := 0) (ci := 12) (enM_12 (c := 0) rfl) (Nat.le_of_ble_eq_true rfl) rfl (tX12_wrongs hg _ _ _ _ _  h) wm_X12_229 wi_X12_wrongs wv_X12_wrongs wz_X12 wc_X12_wrongs rfl yd_X12_wrongs rfl ⟨rfl, rfl⟩ ⟨Nat.le_of_ble_eq_true rfl, Nat.le_of_ble_eq_true rfl⟩ (Nat.le_of_ble_eq_true rfl) rfl dX12_stays_62 (x_kv (fun M18 h => ?_))
          refine x_iconst C (v1 := 0) dX12_stays_65 (by decide) ?_
          exact x_zret C rfl dX12_stays_66 ⟨_, rfl, h⟩
      · replace h := x_iff hq10 h
        refine x_iconst C (v1 := 0) dX12_stays_45 (by decide) ?_
        exact x_zret C rfl dX12_stays_46 ⟨_, rfl, h⟩
    · replace h := x_iff hq8 h
      refine x_loc (L' := [(0, .ref (ga g 0)), (1, .int r2)]) [1, 0] rfl ?_
      exact tX12_stays_19 hg  C   _ _  h
set_option maxHeartbeats 4000000 in
set_option maxRecDepth 100000 in
theorem tX12_value_57 {g : xG} (hg : x_inj (WM g))  {x : xCx}   {post : xMem → Prop} (C : xOk (WM g) x cX12_value RX12 2 none (rm_X12_value) (pV post))    (M : xMem)  (h : wX12_value_57 post  M) : xW (WM g) x 2 57 [(0, .ref (ga g 0))] [] M := by
  unfold wX12_value_57 at h
  refine x_aload_n C 0 rfl rfl dX12_value_57 ?_
  refine x_callV C (st := []) (As := []) (c := 0) (ci := 12) (enM_12 (c := 0) rfl) (Nat.le_of_ble_eq_true rfl) rfl (tX12_isGood hg _  _ _  h) wm_X12_233 wi_X12_isGood wv_X12_isGood wz_X12 wc_X12_isGood rfl yd_X12_isGood rfl ⟨rfl, rfl⟩ ⟨Nat.le_of_ble_eq_true rfl, Nat.le_of_ble_eq_true rfl⟩ (Nat.le_of_ble_eq_true rfl) rfl dX12_value_58 (x_ki (fun r2 M1 h => ?_))
  refine x_if_eq C (tgt := 82) dX12_value_61 (by decide) (fun hq3 => ?_) (fun hq3 => ?_)
  · replace h := x_ift hq3 h
    exact x_vret C dX12_value_82 ⟨rfl, h⟩
  · replace h := x_iff hq3 h
    refine x_aload_n C 0 rfl rfl dX12_value_64 ?_
    refine x_callV C (st := []) (As := []) (c := 0) (ci := 12) (enM_12 (c := 0) rfl) (Nat.le_of_ble_eq_true rfl) rfl (tX12_top hg _  _ _  h) wm_X12_319 wi_X12_top wv_X12_top wz_X12 wc_X12_top rfl yd_X12_top rfl ⟨rfl, rfl⟩ ⟨Nat.le_of_ble_eq_true rfl, Nat.le_of_ble_eq_true rfl⟩ (Nat.le_of_ble_eq_true rfl) rfl dX12_value_65 (x_ki (fun r5 M4 h => ?_))
    refine x_bipush C (v1 := 91) dX12_value_68 (by decide) ?_
    refine x_icmp_ne C (tgt := 82) dX12_value_70 (by decide) (fun hq6 => ?_) (fun hq6 => ?_)
    · replace h := x_iff hq6 h
      exact x_vret C dX12_value_82 ⟨rfl, h⟩
    · replace h := x_ift hq6 h
      refine x_aload_n C 0 rfl rfl dX12_value_73 ?_
      refine x_iconst C (v1 := 1) dX12_value_74 (by decide) ?_
      refine x_aload_n C 0 rfl rfl dX12_value_75 ?_
      refine x_get C (c := 0) (ci := 12) (k1 := 3) (v1 := .int (gi M4 0 3)) (enM_12 (c := 0) rfl) (Nat.le_of_ble_eq_true rfl) rfl inX12 (by decide) wf_X12_205 rfl dX12_value_76 ?_
      refine x_callV C (st := []) (As := [.int 1, .int (gi M4 0 3)]) (c := 0) (ci := 12) (enM_12 (c := 0) rfl) (Nat.le_of_ble_eq_true rfl) rfl (tX12_wrongs hg _ _ _ _ _  h) wm_X12_229 wi_X12_wrongs wv_X12_wrongs wz_X12 wc_X12_wrongs rfl yd_X12_wrongs rfl ⟨rfl, rfl⟩ ⟨Nat.le_of_ble_eq_true rfl, Nat.le_of_ble_eq_true rfl⟩ (Nat.le_of_ble_eq_true rfl) rfl dX12_value_79 (x_kv (fun M7 h => ?_))
      exact x_vret C dX12_value_82 ⟨rfl, h⟩
set_option maxHeartbeats 4000000 in
set_option maxRecDepth 100000 in
theorem tX12_value_53 {g : xG} (hg : x_inj (WM g))  {x : xCx}  {K7 : Int32 → xMem → Prop} {post : xMem → Prop} (C : xOk (WM g) x cX12_value RX12 2 none (rm_X12_value) (pV post))  (hK7 : ∀ (x1 : Int32) (M : xMem), K7 x1 M → xW (WM g) x 2 7 [(0, .ref (ga g 0)), (1, .int x1)] [] M) (s0 : Int32) (M : xMem)  (h : wX12_value_53 K7 post s0 M) : xW (WM g) x 2 53 [(0, .ref (ga g 0))] [.int s0] M := by
  unfold wX12_value_53 at h
  refine x_istore_n C (L' := [(1, .int s0), (0, .ref (ga g 0))]) rfl rfl (Nat.le_of_ble_eq_true rfl) dX12_value_53 ?_
  refine x_goto C (tgt := 7) dX12_value_54 (by decide) ?_
  refine x_loc (L' := [(0, .ref (ga g 0)), (1, .int s0)]) [1, 0] rfl ?_
  exact hK7 _ _  h
set_option maxHeartbeats 4000000 in
set_option maxRecDepth 100000 in
theorem tX12_value_52 {g : xG} (hg : x_inj (WM g))  {x : xCx}  {K7 : Int32 → xMem → Prop} {post : xMem → Prop} (C : xOk (WM g) x cX12_value RX12 2 none (rm_X12_value) (pV post))  (hK7 : ∀ (x1 : Int32) (M : xMem), K7 x1 M → xW (WM g) x 2 7 [(0, .ref (ga g 0)), (1, .int x1)] [] M)  (M : xMem)  (h : wX12_value_52 K7 post  M) : xW (WM g) x 2 52 [(0, .ref (ga g 0))] [] M := by
  unfold wX12_value_52 at h
  refine x_iconst C (v1 := 0) dX12_value_52 (by decide) ?_
  exact tX12_value_53 hg  C  hK7 _ _  h
set_option maxHeartbeats 4000000 in
set_option maxRecDepth 100000 in
theorem tX12_value_29 {g : xG} (hg : x_inj (WM g))  {x : xCx}  {K7 : Int32 → xMem → Prop} {post : xMem → Prop} (C : xOk (WM g) x cX12_value RX12 2 none (rm_X12_value) (pV post))  (hK7 : ∀ (x1 : Int32) (M : xMem), K7 x1 M → xW (WM g) x 2 7 [(0, .ref (ga g 0)), (1, .int x1)] [] M)  (M : xMem)  (h : wX12_value_29 K7 post  M) : xW (WM g) x 2 29 [(0, .ref (ga g 0))] [] M := by
  unfold wX12_value_29 at h
  refine x_aload_n C 0 rfl rfl dX12_value_29 ?_
  refine x_iconst C (v1 := 0) dX12_value_30 (by decide) ?_
  refine x_put C (c := 0) (ci := 12) (k1 := 36) (u1 := 0) (v1 := .int 0) (ty := .boolean) (enM_12 (c := 0) rfl) (Nat.le_of_ble_eq_true rfl) rfl inX12 (by decide) (stX12_36 _ _ _) tyX12 tyX12_ok nmX12 wf_X12_344 rfl rfl rfl rfl (Nat.le_of_ble_eq_true rfl) dX12_value_31 ?_
  refine x_nmM (fun M1 eM1 => ?_)
  replace h := h M1 eM1
  refine x_aload_n C 0 rfl rfl dX12_value_34 ?_
  refine x_callV C (st := []) (As := []) (c := 0) (ci := 12) (enM_12 (c := 0) rfl) (Nat.le_of_ble_eq_true rfl) rfl (tX12_isGood hg _  _ _  h) wm_X12_233 wi_X12_isGood wv_X12_isGood wz_X12 wc_X12_isGood rfl yd_X12_isGood rfl ⟨rfl, rfl⟩ ⟨Nat.le_of_ble_eq_true rfl, Nat.le_of_ble_eq_true rfl⟩ (Nat.le_of_ble_eq_true rfl) rfl dX12_value_35 (x_ki (fun r3 M2 h => ?_))
  refine x_if_eq C (tgt := 52) dX12_value_38 (by decide) (fun hq4 => ?_) (fun hq4 => ?_)
  · replace h := x_ift hq4 h
    exact tX12_value_52 hg  C  hK7 _  h
  · replace h := x_iff hq4 h
    refine x_aload_n C 0 rfl rfl dX12_value_41 ?_
    refine x_callV C (st := []) (As := []) (c := 0) (ci := 12) (enM_12 (c := 0) rfl) (Nat.le_of_ble_eq_true rfl) rfl (tX12_stays hg _  _ _  h) wm_X12_350 wi_X12_stays wv_X12_stays wz_X12 wc_X12_stays rfl yd_X12_stays rfl ⟨rfl, rfl⟩ ⟨Nat.le_of_ble_eq_true rfl, Nat.le_of_ble_eq_true rfl⟩ (Nat.le_of_ble_eq_true rfl) rfl dX12_value_42 (x_ki (fun r6 M5 h => ?_))
    refine x_if_eq C (tgt := 52) dX12_value_45 (by decide) (fun hq7 => ?_) (fun hq7 => ?_)
    · replace h := x_ift hq7 h
      exact tX12_value_52 hg  C  hK7 _  h
    · replace h := x_iff hq7 h
      refine x_iconst C (v1 := 1) dX12_value_48 (by decide) ?_
      refine x_goto C (tgt := 53) dX12_value_49 (by decide) ?_
      exact tX12_value_53 hg  C  hK7 _ _  h
set_option maxHeartbeats 4000000 in
set_option maxRecDepth 100000 in
theorem tX12_value_7 {g : xG} (hg : x_inj (WM g))  {x : xCx}   {post : xMem → Prop} (C : xOk (WM g) x cX12_value RX12 2 none (rm_X12_value) (pV post))   : ∀ (n : Nat) (x1 : Int32) (M : xMem), wX12_value_7 post n x1 M → xW (WM g) x 2 7 [(0, .ref (ga g 0)), (1, .int x1)] [] M := by
  intro n
  induction n with
  | zero =>
    intro x1 M  h
    exact h.elim
  | succ n ih =>
    intro x1 M  h
    rw [wX12_value_7] at h
    refine x_iload_n C 1 rfl rfl dX12_value_7 ?_
    refine x_if_eq C (tgt := 57) dX12_value_8 (by decide) (fun hq1 => ?_) (fun hq1 => ?_)
    · replace h := x_ift hq1 h
      refine x_loc (L' := [(0, .ref (ga g 0))]) [0] rfl ?_
      exact tX12_value_57 hg  C   _  h
    · replace h := x_iff hq1 h
      refine x_aload_n C 0 rfl rfl dX12_value_11 ?_
      refine x_callV C (st := []) (As := []) (c := 0) (ci := 12) (enM_12 (c := 0) rfl) (Nat.le_of_ble_eq_true rfl) rfl (tX12_isGood hg _  _ _  h) wm_X12_233 wi_X12_isGood wv_X12_isGood wz_X12 wc_X12_isGood rfl yd_X12_isGood rfl ⟨rfl, rfl⟩ ⟨Nat.le_of_ble_eq_true rfl, Nat.le_of_ble_eq_true rfl⟩ (Nat.le_of_ble_eq_true rfl) rfl dX12_value_12 (x_ki (fun r3 M2 h => ?_))
      refine x_if_eq C (tgt := 57) dX12_value_15 (by decide) (fun hq4 => ?_) (fun hq4 => ?_)
      · replace h := x_ift hq4 h
        refine x_loc (L' := [(0, .ref (ga g 0))]) [0] rfl ?_
        exact tX12_value_57 hg  C   _  h
      · replace h := x_iff hq4 h
        refine x_aload_n C 0 rfl rfl dX12_value_18 ?_
        refine x_get C (c := 0) (ci := 12) (k1 := 36) (v1 := .int (gi M2 0 36)) (enM_12 (c := 0) rfl) (Nat.le_of_ble_eq_true rfl) rfl inX12 (by decide) wf_X12_344 rfl dX12_value_19 ?_
        refine x_if_ne C (tgt := 29) dX12_value_22 (by decide) (fun hq5 => ?_) (fun hq5 => ?_)
        · replace h := x_iff hq5 h
          refine x_loc (L' := [(0, .ref (ga g 0))]) [0] rfl ?_
          exact tX12_value_29 hg  C  ih _  h
        · replace h := x_ift hq5 h
          refine x_aload_n C 0 rfl rfl dX12_value_25 ?_
          refine x_callV C (st := []) (As := []) (c := 0) (ci := 12) (enM_12 (c := 0) rfl) (Nat.le_of_ble_eq_true rfl) rfl (tX12_factor hg _  _ _  h) wm_X12_347 wi_X12_factor wv_X12_factor wz_X12 wc_X12_factor rfl yd_X12_factor rfl ⟨rfl, rfl⟩ ⟨Nat.le_of_ble_eq_true rfl, Nat.le_of_ble_eq_true rfl⟩ (Nat.le_of_ble_eq_true rfl) rfl dX12_value_26 (x_kv (fun M6 h => ?_))
          refine x_loc (L' := [(0, .ref (ga g 0))]) [0] rfl ?_
          exact tX12_value_29 hg  C  ih _  h
set_option maxHeartbeats 4000000 in
set_option maxRecDepth 100000 in
theorem tX12_value {g : xG} (hg : x_inj (WM g))  (l : Launch)  (M : xMem) (post : xMem → Prop)  (h : wX12_value  M post) : xMet (WM g) l yX12_value cX12_value 2 none (rm_X12_value) [.ref (ga g 0)] M (pV post) := by
  refine x_enter (own := RX12) (L0 := [(0, .ref (ga g 0))]) (by decide +kernel) rfl hg (x_stM g) (Nat.le_of_ble_eq_true rfl) rfl (fun x hl C => ?_)
  unfold wX12_value at h
  refine x_iconst C (v1 := 1) dX12_value_0 (by decide) ?_
  refine x_istore_n C (L' := [(1, .int 1), (0, .ref (ga g 0))]) rfl rfl (Nat.le_of_ble_eq_true rfl) dX12_value_1 ?_
  refine x_aload_n C 1 rfl rfl dX12_value_2 ?_
  refine x_iconst C (v1 := 0) dX12_value_3 (by decide) ?_
  refine x_put C (c := 0) (ci := 12) (k1 := 36) (u1 := 0) (v1 := .int 0) (ty := .boolean) (enM_12 (c := 0) rfl) (Nat.le_of_ble_eq_true rfl) rfl inX12 (by decide) (stX12_36 _ _ _) tyX12 tyX12_ok nmX12 wf_X12_344 rfl rfl rfl rfl (Nat.le_of_ble_eq_true rfl) dX12_value_4 ?_
  refine x_nmM (fun M1 eM1 => ?_)
  replace h := h M1 eM1
  refine x_loc (L' := [(0, .ref (ga g 0)), (1, .int 1)]) [1, 0] rfl ?_
  obtain ⟨n7, h⟩ := h
  exact tX12_value_7 hg  C   _ _ _  h
set_option maxHeartbeats 4000000 in
set_option maxRecDepth 100000 in
theorem tX12_pieceOfC_43 {g : xG} (hg : x_inj (WM g))  {x : xCx}   {post : xMem → Prop} (C : xOk (WM g) x cX12_pieceOfC RX12 2 none (rm_X12_pieceOfC) (pV post))    (M : xMem)  (h : wX12_pieceOfC_43 post  M) : xW (WM g) x 2 43 [(0, .ref (ga g 0))] [] M := by
  unfold wX12_pieceOfC_43 at h
  refine x_aload_n C 0 rfl rfl dX12_pieceOfC_43 ?_
  refine x_callV C (st := []) (As := []) (c := 0) (ci := 12) (enM_12 (c := 0) rfl) (Nat.le_of_ble_eq_true rfl) rfl (tX12_isGood hg _  _ _  h) wm_X12_233 wi_X12_isGood wv_X12_isGood wz_X12 wc_X12_isGood rfl yd_X12_isGood rfl ⟨rfl, rfl⟩ ⟨Nat.le_of_ble_eq_true rfl, Nat.le_of_ble_eq_true rfl⟩ (Nat.le_of_ble_eq_true rfl) rfl dX12_pieceOfC_44 (x_ki (fun r2 M1 h => ?_))
  refine x_if_ne C (tgt := 51) dX12_pieceOfC_47 (by decide) (fun hq3 => ?_) (fun hq3 => ?_)
  · replace h := x_iff hq3 h
    refine x_aload_n C 0 rfl rfl dX12_pieceOfC_51 ?_
    refine x_callV C (st := []) (As := []) (c := 0) (ci := 12) (enM_12 (c := 0) rfl) (Nat.le_of_ble_eq_true rfl) rfl (tX12_here hg _  _ _  h) wm_X12_214 wi_X12_here wv_X12_here wz_X12 wc_X12_here rfl yd_X12_here rfl ⟨rfl, rfl⟩ ⟨Nat.le_of_ble_eq_true rfl, Nat.le_of_ble_eq_true rfl⟩ (Nat.le_of_ble_eq_true rfl) rfl dX12_pieceOfC_52 (x_ki (fun r5 M4 h => ?_))
    refine x_istore_n C (L' := [(1, .int r5), (0, .ref (ga g 0))]) rfl rfl (Nat.le_of_ble_eq_true rfl) dX12_pieceOfC_55 ?_
    refine x_iload_n C 0 rfl rfl dX12_pieceOfC_56 ?_
    refine x_callS C (st := []) (As := [.int r5]) (tX12_isCompared hg _ _ _ _  h) wm_X12_356 wsm_X12_isCompared wz_X12 wc_X12_isCompared yd_X12_isCompared rfl ⟨rfl, rfl⟩ ⟨Nat.le_of_ble_eq_true rfl, Nat.le_of_ble_eq_true rfl⟩ (Nat.le_of_ble_eq_true rfl) rfl dX12_pieceOfC_57 (x_ki (fun r7 M6 h => ?_))
    refine x_if_ne C (tgt := 73) dX12_pieceOfC_60 (by decide) (fun hq8 => ?_) (fun hq8 => ?_)
    · replace h := x_iff hq8 h
      refine x_aload_n C 1 rfl rfl dX12_pieceOfC_73 ?_
      refine x_iload_n C 0 rfl rfl dX12_pieceOfC_74 ?_
      refine x_callV C (st := []) (As := [.int r5]) (c := 0) (ci := 12) (enM_12 (c := 0) rfl) (Nat.le_of_ble_eq_true rfl) rfl (tX12_puts hg _ _ _ _  h) wm_X12_313 wi_X12_puts wv_X12_puts wz_X12 wc_X12_puts rfl yd_X12_puts rfl ⟨rfl, rfl⟩ ⟨Nat.le_of_ble_eq_true rfl, Nat.le_of_ble_eq_true rfl⟩ (Nat.le_of_ble_eq_true rfl) rfl dX12_pieceOfC_75 (x_kv (fun M9 h => ?_))
      refine x_aload_n C 1 rfl rfl dX12_pieceOfC_78 ?_
      refine x_callV C (st := []) (As := []) (c := 0) (ci := 12) (enM_12 (c := 0) rfl) (Nat.le_of_ble_eq_true rfl) rfl (tX12_value hg _  _ _  h) wm_X12_353 wi_X12_value wv_X12_value wz_X12 wc_X12_value rfl yd_X12_value rfl ⟨rfl, rfl⟩ ⟨Nat.le_of_ble_eq_true rfl, Nat.le_of_ble_eq_true rfl⟩ (Nat.le_of_ble_eq_true rfl) rfl dX12_pieceOfC_79 (x_kv (fun M10 h => ?_))
      refine x_aload_n C 1 rfl rfl dX12_pieceOfC_82 ?_
      refine x_callV C (st := []) (As := []) (c := 0) (ci := 12) (enM_12 (c := 0) rfl) (Nat.le_of_ble_eq_true rfl) rfl (tX12_isGood hg _  _ _  h) wm_X12_233 wi_X12_isGood wv_X12_isGood wz_X12 wc_X12_isGood rfl yd_X12_isGood rfl ⟨rfl, rfl⟩ ⟨Nat.le_of_ble_eq_true rfl, Nat.le_of_ble_eq_true rfl⟩ (Nat.le_of_ble_eq_true rfl) rfl dX12_pieceOfC_83 (x_ki (fun r12 M11 h => ?_))
      refine x_if_ne C (tgt := 90) dX12_pieceOfC_86 (by decide) (fun hq13 => ?_) (fun hq13 => ?_)
      · replace h := x_iff hq13 h
        refine x_aload_n C 1 rfl rfl dX12_pieceOfC_90 ?_
        refine x_aload_n C 1 rfl rfl dX12_pieceOfC_91 ?_
        refine x_callV C (st := [.ref (ga g 0)]) (As := []) (c := 0) (ci := 12) (enM_12 (c := 0) rfl) (Nat.le_of_ble_eq_true rfl) rfl (tX12_top hg _  _ _  h) wm_X12_319 wi_X12_top wv_X12_top wz_X12 wc_X12_top rfl yd_X12_top rfl ⟨rfl, rfl⟩ ⟨Nat.le_of_ble_eq_true rfl, Nat.le_of_ble_eq_true rfl⟩ (Nat.le_of_ble_eq_true rfl) rfl dX12_pieceOfC_92 (x_ki (fun r15 M14 h => ?_))
        refine x_iconst C (v1 := 0) dX12_pieceOfC_95 (by decide) ?_
        refine x_callV C (st := []) (As := [.int r15, .int 0]) (c := 0) (ci := 12) (enM_12 (c := 0) rfl) (Nat.le_of_ble_eq_true rfl) rfl (tX12_emit hg _ _ _ _ _  h) wm_X12_328 wi_X12_emit wv_X12_emit wz_X12 wc_X12_emit rfl yd_X12_emit rfl ⟨rfl, rfl⟩ ⟨Nat.le_of_ble_eq_true rfl, Nat.le_of_ble_eq_true rfl⟩ (Nat.le_of_ble_eq_true rfl) rfl dX12_pieceOfC_96 (x_kv (fun M16 h => ?_))
        refine x_aload_n C 1 rfl rfl dX12_pieceOfC_99 ?_
        refine x_dup C rfl dX12_pieceOfC_100 ?_
        refine x_get C (c := 0) (ci := 12) (k1 := 9) (v1 := .int (gi M16 0 9)) (enM_12 (c := 0) rfl) (Nat.le_of_ble_eq_true rfl) rfl inX12 (by decide) wf_X12_307 rfl dX12_pieceOfC_101 ?_
        refine x_iconst C (v1 := 1) dX12_pieceOfC_104 (by decide) ?_
        refine x_isub C dX12_pieceOfC_105 ?_
        refine x_put C (c := 0) (ci := 12) (k1 := 9) (u1 := ((gi M16 0 9) - 1)) (v1 := .int ((gi M16 0 9) - 1)) (ty := .int) (enM_12 (c := 0) rfl) (Nat.le_of_ble_eq_true rfl) rfl inX12 (by decide) (stX12_9 _ _ _) tyX12 tyX12_ok nmX12 wf_X12_307 rfl rfl rfl rfl (Nat.le_of_ble_eq_true rfl) dX12_pieceOfC_106 ?_
        refine x_nmM (fun M17 eM17 => ?_)
        replace h := h M17 eM17
        refine x_aload_n C 1 rfl rfl dX12_pieceOfC_109 ?_
        refine x_callV C (st := []) (As := []) (c := 0) (ci := 12) (enM_12 (c := 0) rfl) (Nat.le_of_ble_eq_true rfl) rfl (tX12_ends hg _  _ _  h) wm_X12_359 wi_X12_ends wv_X12_ends wz_X12 wc_X12_ends rfl yd_X12_ends rfl ⟨rfl, rfl⟩ ⟨Nat.le_of_ble_eq_true rfl, Nat.le_of_ble_eq_true rfl⟩ (Nat.le_of_ble_eq_true rfl) rfl dX12_pieceOfC_110 (x_kv (fun M18 h => ?_))
        exact x_vret C dX12_pieceOfC_113 ⟨rfl, h⟩
      · replace h := x_ift hq13 h
        exact x_vret C dX12_pieceOfC_89 ⟨rfl, h⟩
    · replace h := x_ift hq8 h
      refine x_aload_n C 1 rfl rfl dX12_pieceOfC_63 ?_
      refine x_iconst C (v1 := 1) dX12_pieceOfC_64 (by decide) ?_
      refine x_aload_n C 1 rfl rfl dX12_pieceOfC_65 ?_
      refine x_get C (c := 0) (ci := 12) (k1 := 3) (v1 := .int (gi M6 0 3)) (enM_12 (c := 0) rfl) (Nat.le_of_ble_eq_true rfl) rfl inX12 (by decide) wf_X12_205 rfl dX12_pieceOfC_66 ?_
      refine x_callV C (st := []) (As := [.int 1, .int (gi M6 0 3)]) (c := 0) (ci := 12) (enM_12 (c := 0) rfl) (Nat.le_of_ble_eq_true rfl) rfl (tX12_wrongs hg _ _ _ _ _  h) wm_X12_229 wi_X12_wrongs wv_X12_wrongs wz_X12 wc_X12_wrongs rfl yd_X12_wrongs rfl ⟨rfl, rfl⟩ ⟨Nat.le_of_ble_eq_true rfl, Nat.le_of_ble_eq_true rfl⟩ (Nat.le_of_ble_eq_true rfl) rfl dX12_pieceOfC_69 (x_kv (fun M19 h => ?_))
      exact x_vret C dX12_pieceOfC_72 ⟨rfl, h⟩
  · replace h := x_ift hq3 h
    exact x_vret C dX12_pieceOfC_50 ⟨rfl, h⟩
set_option maxHeartbeats 4000000 in
set_option maxRecDepth 100000 in
theorem tX12_pieceOfC_32 {g : xG} (hg : x_inj (WM g))  {x : xCx}   {post : xMem → Prop} (C : xOk (WM g) x cX12_pieceOfC RX12 2 none (rm_X12_pieceOfC) (pV post))    (M : xMem)  (h : wX12_pieceOfC_32 post  M) : xW (WM g) x 2 32 [(0, .ref (ga g 0))] [] M := by
  unfold wX12_pieceOfC_32 at h
  refine x_aload_n C 0 rfl rfl dX12_pieceOfC_32 ?_
  refine x_callV C (st := []) (As := []) (c := 0) (ci := 12) (enM_12 (c := 0) rfl) (Nat.le_of_ble_eq_true rfl) rfl (tX12_isGood hg _  _ _  h) wm_X12_233 wi_X12_isGood wv_X12_isGood wz_X12 wc_X12_isGood rfl yd_X12_isGood rfl ⟨rfl, rfl⟩ ⟨Nat.le_of_ble_eq_true rfl, Nat.le_of_ble_eq_true rfl⟩ (Nat.le_of_ble_eq_true rfl) rfl dX12_pieceOfC_33 (x_ki (fun r2 M1 h => ?_))
  refine x_if_eq C (tgt := 43) dX12_pieceOfC_36 (by decide) (fun hq3 => ?_) (fun hq3 => ?_)
  · replace h := x_ift hq3 h
    exact tX12_pieceOfC_43 hg  C   _  h
  · replace h := x_iff hq3 h
    refine x_aload_n C 0 rfl rfl dX12_pieceOfC_39 ?_
    refine x_callV C (st := []) (As := []) (c := 0) (ci := 12) (enM_12 (c := 0) rfl) (Nat.le_of_ble_eq_true rfl) rfl (tX12_value hg _  _ _  h) wm_X12_353 wi_X12_value wv_X12_value wz_X12 wc_X12_value rfl yd_X12_value rfl ⟨rfl, rfl⟩ ⟨Nat.le_of_ble_eq_true rfl, Nat.le_of_ble_eq_true rfl⟩ (Nat.le_of_ble_eq_true rfl) rfl dX12_pieceOfC_40 (x_kv (fun M4 h => ?_))
    exact tX12_pieceOfC_43 hg  C   _  h
set_option maxHeartbeats 4000000 in
set_option maxRecDepth 100000 in
theorem tX12_pieceOfC_25 {g : xG} (hg : x_inj (WM g))  {x : xCx}  {K0 : xMem → Prop} {post : xMem → Prop} (C : xOk (WM g) x cX12_pieceOfC RX12 2 none (rm_X12_pieceOfC) (pV post))  (hK0 : ∀  (M : xMem), K0  M → xW (WM g) x 2 0 [(0, .ref (ga g 0))] [] M)  (M : xMem)  (h : wX12_pieceOfC_25 K0 post  M) : xW (WM g) x 2 25 [(0, .ref (ga g 0))] [] M := by
  unfold wX12_pieceOfC_25 at h
  refine x_aload_n C 0 rfl rfl dX12_pieceOfC_25 ?_
  refine x_callV C (st := []) (As := []) (c := 0) (ci := 12) (enM_12 (c := 0) rfl) (Nat.le_of_ble_eq_true rfl) rfl (tX12_opens hg _  _ _  h) wm_X12_331 wi_X12_opens wv_X12_opens wz_X12 wc_X12_opens rfl yd_X12_opens rfl ⟨rfl, rfl⟩ ⟨Nat.le_of_ble_eq_true rfl, Nat.le_of_ble_eq_true rfl⟩ (Nat.le_of_ble_eq_true rfl) rfl dX12_pieceOfC_26 (x_kv (fun M1 h => ?_))
  refine x_goto C (tgt := 0) dX12_pieceOfC_29 (by decide) ?_
  exact hK0 _  h
set_option maxHeartbeats 4000000 in
set_option maxRecDepth 100000 in
theorem tX12_pieceOfC_0 {g : xG} (hg : x_inj (WM g))  {x : xCx}   {post : xMem → Prop} (C : xOk (WM g) x cX12_pieceOfC RX12 2 none (rm_X12_pieceOfC) (pV post))   : ∀ (n : Nat)  (M : xMem), wX12_pieceOfC_0 post n  M → xW (WM g) x 2 0 [(0, .ref (ga g 0))] [] M := by
  intro n
  induction n with
  | zero =>
    intro  M  h
    exact h.elim
  | succ n ih =>
    intro  M  h
    rw [wX12_pieceOfC_0] at h
    refine x_aload_n C 0 rfl rfl dX12_pieceOfC_0 ?_
    refine x_callV C (st := []) (As := []) (c := 0) (ci := 12) (enM_12 (c := 0) rfl) (Nat.le_of_ble_eq_true rfl) rfl (tX12_isGood hg _  _ _  h) wm_X12_233 wi_X12_isGood wv_X12_isGood wz_X12 wc_X12_isGood rfl yd_X12_isGood rfl ⟨rfl, rfl⟩ ⟨Nat.le_of_ble_eq_true rfl, Nat.le_of_ble_eq_true rfl⟩ (Nat.le_of_ble_eq_true rfl) rfl dX12_pieceOfC_1 (x_ki (fun r2 M1 h => ?_))
    refine x_if_eq C (tgt := 32) dX12_pieceOfC_4 (by decide) (fun hq3 => ?_) (fun hq3 => ?_)
    · replace h := x_ift hq3 h
      exact tX12_pieceOfC_32 hg  C   _  h
    · replace h := x_iff hq3 h
      refine x_aload_n C 0 rfl rfl dX12_pieceOfC_7 ?_
      refine x_callV C (st := []) (As := []) (c := 0) (ci := 12) (enM_12 (c := 0) rfl) (Nat.le_of_ble_eq_true rfl) rfl (tX12_here hg _  _ _  h) wm_X12_214 wi_X12_here wv_X12_here wz_X12 wc_X12_here rfl yd_X12_here rfl ⟨rfl, rfl⟩ ⟨Nat.le_of_ble_eq_true rfl, Nat.le_of_ble_eq_true rfl⟩ (Nat.le_of_ble_eq_true rfl) rfl dX12_pieceOfC_8 (x_ki (fun r5 M4 h => ?_))
      refine x_bipush C (v1 := 33) dX12_pieceOfC_11 (by decide) ?_
      refine x_icmp_eq C (tgt := 25) dX12_pieceOfC_13 (by decide) (fun hq6 => ?_) (fun hq6 => ?_)
      · replace h := x_ift hq6 h
        exact tX12_pieceOfC_25 hg  C  ih _  h
      · replace h := x_iff hq6 h
        refine x_aload_n C 0 rfl rfl dX12_pieceOfC_16 ?_
        refine x_callV C (st := []) (As := []) (c := 0) (ci := 12) (enM_12 (c := 0) rfl) (Nat.le_of_ble_eq_true rfl) rfl (tX12_here hg _  _ _  h) wm_X12_214 wi_X12_here wv_X12_here wz_X12 wc_X12_here rfl yd_X12_here rfl ⟨rfl, rfl⟩ ⟨Nat.le_of_ble_eq_true rfl, Nat.le_of_ble_eq_true rfl⟩ (Nat.le_of_ble_eq_true rfl) rfl dX12_pieceOfC_17 (x_ki (fun r8 M7 h => ?_))
        refine x_bipush C (v1 := 40) dX12_pieceOfC_20 (by decide) ?_
        refine x_icmp_ne C (tgt := 32) dX12_pieceOfC_22 (by decide) (fun hq9 => ?_) (fun hq9 => ?_)
        · replace h := x_iff hq9 h
          exact tX12_pieceOfC_32 hg  C   _  h
        · replace h := x_ift hq9 h
          exact tX12_pieceOfC_25 hg  C  ih _  h
set_option maxHeartbeats 4000000 in
set_option maxRecDepth 100000 in
theorem tX12_pieceOfC {g : xG} (hg : x_inj (WM g))  (l : Launch)  (M : xMem) (post : xMem → Prop)  (h : wX12_pieceOfC  M post) : xMet (WM g) l yX12_pieceOfC cX12_pieceOfC 2 none (rm_X12_pieceOfC) [.ref (ga g 0)] M (pV post) := by
  refine x_enter (own := RX12) (L0 := [(0, .ref (ga g 0))]) (by decide +kernel) rfl hg (x_stM g) (Nat.le_of_ble_eq_true rfl) rfl (fun x hl C => ?_)
  unfold wX12_pieceOfC at h
  obtain ⟨n0, h⟩ := h
  exact tX12_pieceOfC_0 hg  C   _ _  h
