abbrev rm_X5_worthOf : Room := { frames := 2, cells := 0, slots := 0, locals := 51 }
theorem yd_X5_worthOf : yX5_worthOf.cls ≠ "java/lang/invoke/MethodHandle" ∧ yX5_worthOf.cls ≠ "java/lang/invoke/VarHandle" ∧ (parseMethodDescriptor yX5_worthOf.desc).map (fun d => d.parameters.length) = some 2 := by decide +kernel
def wX5_worthOf_110  (o : Nat) (K2 : Int32 → Int32 → xMem → Prop) (post : Int32 → xMem → Prop) (x1 : Int32) (x3 : Int32) (M : xMem) : Prop :=
    ∀ v1 : Int32, v1 = x3 + 1 →
    K2 x1 v1 M
def wX5_worthOf_96  (o : Nat)  (post : Int32 → xMem → Prop) (x4 : Int32) (s0 : Int32) (M : xMem) : Prop :=
    wJ9_min_7cf53 x4 s0 M (fun r2 M1 =>
      wJ9_max_7cf53 0 r2 M1 (fun r4 M3 =>
        post r4 M3))
def wX5_worthOf_95  (o : Nat)  (post : Int32 → xMem → Prop) (x4 : Int32) (M : xMem) : Prop :=
    wX5_worthOf_96 o post x4 0 M
def wX5_worthOf_73  (o : Nat)  (post : Int32 → xMem → Prop) (x1 : Int32) (s0 : Int32) (M : xMem) : Prop :=
    if x1 < 0 then (
      wX5_worthOf_95 o post s0 M)
    else (
      if 7 ≤ x1 then (
        wX5_worthOf_95 o post s0 M)
      else (
        vp_in x1 7 ∧
        wX5_worthOf_96 o post s0 (bd_at x1) M))
def wX5_worthOf_2  (o : Nat)  (post : Int32 → xMem → Prop) : Nat → Int32 → Int32 → xMem → Prop
  | 0 => fun _ _ _ => False
  | n + 1 => fun x1 x3 M =>
      if (gi M o 0) ≤ x3 then (
        post 0 M)
      else (
        if 16 ≤ x3 then (
          post 0 M)
        else (
          vp_in x3 16 ∧
          if (gi M ((o + 1)) x3.toNatClampNeg) = x1 then (
            vp_in x3 16 ∧
            vp_in x3 16 ∧
            wX5_reckon o (gi M ((o + 3)) x3.toNatClampNeg) (gi M ((o + 4)) x3.toNatClampNeg) M (fun r8 M7 =>
              if r8 = 0 then (
                wX5_worthOf_110 o (wX5_worthOf_2 o post n) post x1 x3 M7)
              else (
                if x1 = 6 then (
                  wX5_worthOf_73 o post x1 1 M7)
                else (
                  vp_in x3 16 ∧
                  vp_in x3 16 ∧
                  wX5_reckon o (gi M7 ((o + 2)) x3.toNatClampNeg) (gi M7 ((o + 3)) x3.toNatClampNeg) M7 (fun r14 M13 =>
                    wX5_worthOf_73 o post x1 r14 M13)))))
          else (
            wX5_worthOf_110 o (wX5_worthOf_2 o post n) post x1 x3 M)))
def wX5_worthOf  (o : Nat) (a0 : Int32) (M : xMem) (post : Int32 → xMem → Prop) : Prop :=
    ∃ n2 : Nat, wX5_worthOf_2 o post n2 a0 0 M
abbrev rm_X0_ofEnd : Room := { frames := 3, cells := 0, slots := 0, locals := 76 }
theorem yd_X0_ofEnd : yX0_ofEnd.cls ≠ "java/lang/invoke/MethodHandle" ∧ yX0_ofEnd.cls ≠ "java/lang/invoke/VarHandle" ∧ (parseMethodDescriptor yX0_ofEnd.desc).map (fun d => d.parameters.length) = some 4 := by decide +kernel
def wX0_ofEnd  (o0 : Nat) (o1 : Nat) (a2 : Int32) (a3 : Int32) (M : xMem) (post : Int32 → xMem → Prop) : Prop :=
    wX0_begin o0 M (fun M1 =>
      vp_in 7 12 ∧
      ∀ M3 : xMem, M3 = si M1 77 7 a3 →
      vp_in a3 10 ∧
      vp_in 8 12 ∧
      ∀ M6 : xMem, M6 = si M3 77 8 (gi M3 43 a3.toNatClampNeg) →
      vp_in a3 10 ∧
      vp_in 9 12 ∧
      ∀ M9 : xMem, M9 = si M6 77 9 (gi M6 ((o0 + 8)) a3.toNatClampNeg) →
      vp_in a3 10 ∧
      wJ6_bitCount_0f7a4 (gi M9 42 a3.toNatClampNeg) M9 (fun r12 M11 =>
        vp_in 10 12 ∧
        ∀ M14 : xMem, M14 = si M11 77 10 r12 →
        wX5_worthOf o1 a2 M14 (fun r16 M15 =>
          post r16 M15)))
abbrev rm_X4_draw : Room := { frames := 0, cells := 0, slots := 0, locals := 0 }
theorem yd_X4_draw : yX4_draw.cls ≠ "java/lang/invoke/MethodHandle" ∧ yX4_draw.cls ≠ "java/lang/invoke/VarHandle" ∧ (parseMethodDescriptor yX4_draw.desc).map (fun d => d.parameters.length) = some 0 := by decide +kernel
def wX4_draw  (o : Nat) (M : xMem) (post : Int32 → xMem → Prop) : Prop :=
    ∀ M1 : xMem, M1 = si M o 13 (((25173 * (gi M o 13)) + 13849) &&& 65535) →
    ¬ (10 : Int32) = 0 ∧
    post ((gi M1 o 13) - (gi M1 o 13) / 10 * 10) M1
abbrev rm_X1_buyOne : Room := { frames := 4, cells := 0, slots := 0, locals := 100 }
theorem yd_X1_buyOne : yX1_buyOne.cls ≠ "java/lang/invoke/MethodHandle" ∧ yX1_buyOne.cls ≠ "java/lang/invoke/VarHandle" ∧ (parseMethodDescriptor yX1_buyOne.desc).map (fun d => d.parameters.length) = some 3 := by decide +kernel
def wX1_buyOne_107    (post : Int32 → xMem → Prop) (x1 : Int32) (x5 : Int32) (M : xMem) : Prop :=
    kC ((gi M 78 3).toNatClampNeg) = 4 ∧
    vp_in x1 4 ∧
    ∀ v3 : Int32, v3 = (gi M ((((gi M 78 3).toNatClampNeg) + 4)) x1.toNatClampNeg) &&& x5 →
    kC ((gi M 78 3).toNatClampNeg) = 4 ∧
    vp_in x1 4 ∧
    vp_in x1 4 ∧
    ∀ M7 : xMem, M7 = si M ((((gi M 78 3).toNatClampNeg) + 4)) x1.toNatClampNeg ((gi M ((((gi M 78 3).toNatClampNeg) + 4)) x1.toNatClampNeg) &&& (x5 ^^^ (-1))) →
    post v3 M7
def wX1_buyOne  (a0 : Int32) (a1 : Int32) (a2 : Int32) (M : xMem) (post : Int32 → xMem → Prop) : Prop :=
    kC ((gi M 78 3).toNatClampNeg) = 4 ∧
    kC ((gi M 78 4).toNatClampNeg) = 5 ∧
    wX0_ofEnd (((gi M 78 3).toNatClampNeg)) (((gi M 78 4).toNatClampNeg)) 5 a1 M (fun r4 M3 =>
      kC ((gi M3 78 3).toNatClampNeg) = 4 ∧
      vp_in a0 4 ∧
      vp_in a0 4 ∧
      ∀ M8 : xMem, M8 = si M3 ((((gi M3 78 3).toNatClampNeg) + 2)) a0.toNatClampNeg ((gi M3 ((((gi M3 78 3).toNatClampNeg) + 2)) a0.toNatClampNeg) - a2) →
      kC ((gi M8 78 3).toNatClampNeg) = 4 ∧
      vp_in a1 10 ∧
      vp_in a1 10 ∧
      ∀ M12 : xMem, M12 = si M8 ((((gi M8 78 3).toNatClampNeg) + 8)) a1.toNatClampNeg ((gi M8 ((((gi M8 78 3).toNatClampNeg) + 8)) a1.toNatClampNeg) - 1) →
      ∀ M13 : xMem, M13 = si M12 78 6 ((gi M12 78 6) + a2) →
      ∀ M14 : xMem, M14 = si M13 78 7 ((gi M13 78 7) + 1) →
      vp_in a1 10 ∧
      ∀ v16 : Int32, v16 = gi M14 42 a1.toNatClampNeg →
      kC ((gi M14 78 3).toNatClampNeg) = 4 ∧
      wX4_draw (((gi M14 78 3).toNatClampNeg)) M14 (fun r19 M18 =>
        if r4 ≤ r19 then (
          wX1_buyOne_107 post a0 v16 M18)
        else (
          ∀ v21 : Int32, v21 = v16 &&& (v16 - 1) →
          ∀ M22 : xMem, M22 = si M18 78 8 ((gi M18 78 8) + 1) →
          wX1_buyOne_107 post a0 v21 M22)))
abbrev rm_X0_putTeller : Room := { frames := 1, cells := 0, slots := 0, locals := 20 }
theorem yd_X0_putTeller : yX0_putTeller.cls ≠ "java/lang/invoke/MethodHandle" ∧ yX0_putTeller.cls ≠ "java/lang/invoke/VarHandle" ∧ (parseMethodDescriptor yX0_putTeller.desc).map (fun d => d.parameters.length) = some 2 := by decide +kernel
def wX0_putTeller  (o0 : Nat) (a1 : Int32) (M : xMem) (post : xMem → Prop) : Prop :=
    vp_in 0 12 ∧
    ∀ M2 : xMem, M2 = si M 77 0 a1 →
    vp_in a1 4 ∧
    vp_in 1 12 ∧
    ∀ M5 : xMem, M5 = si M2 77 1 (gi M2 ((o0 + 3)) a1.toNatClampNeg) →
    vp_in a1 4 ∧
    vp_in 2 12 ∧
    ∀ M8 : xMem, M8 = si M5 77 2 (gi M5 ((o0 + 2)) a1.toNatClampNeg) →
    vp_in a1 4 ∧
    wJ6_bitCount_0f7a4 (gi M8 ((o0 + 4)) a1.toNatClampNeg) M8 (fun r11 M10 =>
      vp_in 3 12 ∧
      ∀ M13 : xMem, M13 = si M10 77 3 r11 →
      post M13)
abbrev rm_X0_ofListener : Room := { frames := 3, cells := 0, slots := 0, locals := 76 }
theorem yd_X0_ofListener : yX0_ofListener.cls ≠ "java/lang/invoke/MethodHandle" ∧ yX0_ofListener.cls ≠ "java/lang/invoke/VarHandle" ∧ (parseMethodDescriptor yX0_ofListener.desc).map (fun d => d.parameters.length) = some 5 := by decide +kernel
def wX0_ofListener  (o0 : Nat) (o1 : Nat) (a2 : Int32) (a3 : Int32) (a4 : Int32) (M : xMem) (post : Int32 → xMem → Prop) : Prop :=
    wX0_begin o0 M (fun M1 =>
      wX0_putTeller o0 a3 M1 (fun M2 =>
        vp_in 4 12 ∧
        ∀ M4 : xMem, M4 = si M2 77 4 a4 →
        vp_in a4 10 ∧
        vp_in 5 12 ∧
        ∀ M7 : xMem, M7 = si M4 77 5 (gi M4 ((o0 + 6)) a4.toNatClampNeg) →
        vp_in a4 10 ∧
        vp_in 6 12 ∧
        ∀ M10 : xMem, M10 = si M7 77 6 (gi M7 ((o0 + 7)) a4.toNatClampNeg) →
        wX5_worthOf o1 a2 M10 (fun r12 M11 =>
          post r12 M11)))
abbrev rm_X4_isBound : Room := { frames := 1, cells := 0, slots := 0, locals := 21 }
theorem yd_X4_isBound : yX4_isBound.cls ≠ "java/lang/invoke/MethodHandle" ∧ yX4_isBound.cls ≠ "java/lang/invoke/VarHandle" ∧ (parseMethodDescriptor yX4_isBound.desc).map (fun d => d.parameters.length) = some 2 := by decide +kernel
def wX4_isBound  (o : Nat) (a0 : Int32) (a1 : Int32) (M : xMem) (post : Int32 → xMem → Prop) : Prop :=
    wX11_has (gi M o 5) a0 M (fun r2 M1 =>
      if r2 = 0 then (
        post 0 M1)
      else (
        vp_in a0 10 ∧
        if (gi M1 ((o + 5)) a0.toNatClampNeg) = a1 then (
          post 1 M1)
        else (
          post 0 M1)))
abbrev rm_X1_collect : Room := { frames := 4, cells := 0, slots := 0, locals := 101 }
theorem yd_X1_collect : yX1_collect.cls ≠ "java/lang/invoke/MethodHandle" ∧ yX1_collect.cls ≠ "java/lang/invoke/VarHandle" ∧ (parseMethodDescriptor yX1_collect.desc).map (fun d => d.parameters.length) = some 1 := by decide +kernel
def wX1_collect_87   (K2 : Int32 → Int32 → xMem → Prop) (post : xMem → Prop) (x1 : Int32) (x2 : Int32) (M : xMem) : Prop :=
    ∀ v1 : Int32, v1 = x2 + 1 →
    K2 x1 v1 M
def wX1_collect_2    (post : xMem → Prop) : Nat → Int32 → Int32 → xMem → Prop
  | 0 => fun _ _ _ => False
  | n + 1 => fun x1 x2 M =>
      if 10 ≤ x2 then (
        kC ((gi M 78 3).toNatClampNeg) = 4 ∧
        ∀ M3 : xMem, M3 = si M (((gi M 78 3).toNatClampNeg)) 12 ((gi M (((gi M 78 3).toNatClampNeg)) 12) + 1) →
        ∀ M4 : xMem, M4 = si M3 78 11 ((gi M3 78 11) + 1) →
        kC ((gi M4 78 3).toNatClampNeg) = 4 ∧
        vp_in x1 4 ∧
        ∀ M7 : xMem, M7 = si M4 ((((gi M4 78 3).toNatClampNeg) + 3)) x1.toNatClampNeg 0 →
        post M7)
      else (
        kC ((gi M 78 3).toNatClampNeg) = 4 ∧
        wX4_isBound (((gi M 78 3).toNatClampNeg)) x2 x1 M (fun r10 M9 =>
          if r10 = 0 then (
            wX1_collect_87 (wX1_collect_2 post n) post x1 x2 M9)
          else (
            kC ((gi M9 78 3).toNatClampNeg) = 4 ∧
            kC ((gi M9 78 4).toNatClampNeg) = 5 ∧
            wX0_ofListener (((gi M9 78 3).toNatClampNeg)) (((gi M9 78 4).toNatClampNeg)) 4 x1 x2 M9 (fun r15 M14 =>
              kC ((gi M14 78 3).toNatClampNeg) = 4 ∧
              vp_in x1 4 ∧
              ∀ v18 : Int32, v18 = 9999 - (gi M14 ((((gi M14 78 3).toNatClampNeg) + 2)) x1.toNatClampNeg) →
              kC ((gi M14 78 3).toNatClampNeg) = 4 ∧
              vp_in x1 4 ∧
              wJ9_min_7cf53 r15 v18 M14 (fun r22 M21 =>
                vp_in x1 4 ∧
                ∀ M24 : xMem, M24 = si M21 ((((gi M14 78 3).toNatClampNeg) + 2)) x1.toNatClampNeg ((gi M14 ((((gi M14 78 3).toNatClampNeg) + 2)) x1.toNatClampNeg) + r22) →
                wJ9_min_7cf53 r15 v18 M24 (fun r26 M25 =>
                  ∀ M27 : xMem, M27 = si M25 78 12 ((gi M24 78 12) + r26) →
                  wX1_collect_87 (wX1_collect_2 post n) post x1 x2 M27))))))
def wX1_collect  (a0 : Int32) (M : xMem) (post : xMem → Prop) : Prop :=
    ∃ n2 : Nat, wX1_collect_2 post n2 a0 0 M
abbrev rm_X1_tire : Room := { frames := 1, cells := 0, slots := 0, locals := 21 }
theorem yd_X1_tire : yX1_tire.cls ≠ "java/lang/invoke/MethodHandle" ∧ yX1_tire.cls ≠ "java/lang/invoke/VarHandle" ∧ (parseMethodDescriptor yX1_tire.desc).map (fun d => d.parameters.length) = some 2 := by decide +kernel
def wX1_tire  (a0 : Int32) (a1 : Int32) (M : xMem) (post : xMem → Prop) : Prop :=
    kC ((gi M 78 3).toNatClampNeg) = 4 ∧
    vp_in a0 10 ∧
    ∀ v3 : Int32, v3 = gi M ((((gi M 78 3).toNatClampNeg) + 7)) a0.toNatClampNeg →
    kC ((gi M 78 3).toNatClampNeg) = 4 ∧
    wJ9_min_7cf53 9 (v3 + a1) M (fun r6 M5 =>
      vp_in a0 10 ∧
      ∀ M8 : xMem, M8 = si M5 ((((gi M 78 3).toNatClampNeg) + 7)) a0.toNatClampNeg r6 →
      if 9 ≤ v3 then (
        post M8)
      else (
        kC ((gi M8 78 3).toNatClampNeg) = 4 ∧
        vp_in a0 10 ∧
        if (gi M8 ((((gi M8 78 3).toNatClampNeg) + 7)) a0.toNatClampNeg) = 9 then (
          kC ((gi M8 78 3).toNatClampNeg) = 4 ∧
          ∀ M14 : xMem, M14 = si M8 (((gi M8 78 3).toNatClampNeg)) 11 ((gi M8 (((gi M8 78 3).toNatClampNeg)) 11) + 1) →
          ∀ M15 : xMem, M15 = si M14 78 9 ((gi M14 78 9) + 1) →
          if (gi M15 78 9) = 1 then (
            ∀ M17 : xMem, M17 = si M15 78 13 a0 →
            ∀ M18 : xMem, M18 = si M17 78 14 (gi M17 78 5) →
            post M18)
          else (
            post M15))
        else (
          post M8)))
abbrev rm_X1_listen : Room := { frames := 4, cells := 0, slots := 0, locals := 101 }
theorem yd_X1_listen : yX1_listen.cls ≠ "java/lang/invoke/MethodHandle" ∧ yX1_listen.cls ≠ "java/lang/invoke/VarHandle" ∧ (parseMethodDescriptor yX1_listen.desc).map (fun d => d.parameters.length) = some 2 := by decide +kernel
def wX1_listen_81    (post : xMem → Prop) (x1 : Int32) (x2 : Int32) (M : xMem) : Prop :=
    kC ((gi M 78 3).toNatClampNeg) = 4 ∧
    kC ((gi M 78 4).toNatClampNeg) = 5 ∧
    wX0_ofListener (((gi M 78 3).toNatClampNeg)) (((gi M 78 4).toNatClampNeg)) 6 x1 x2 M (fun r4 M3 =>
      if r4 = 0 then (
        post M3)
      else (
        kC ((gi M3 78 3).toNatClampNeg) = 4 ∧
        vp_in x2 10 ∧
        ∀ M8 : xMem, M8 = si M3 ((((gi M3 78 3).toNatClampNeg) + 5)) x2.toNatClampNeg (-2) →
        ∀ M9 : xMem, M9 = si M8 78 10 ((gi M8 78 10) + 1) →
        post M9))
def wX1_listen  (a0 : Int32) (a1 : Int32) (M : xMem) (post : xMem → Prop) : Prop :=
    kC ((gi M 78 3).toNatClampNeg) = 4 ∧
    vp_in a0 4 ∧
    if (gi M ((((gi M 78 3).toNatClampNeg) + 4)) a0.toNatClampNeg) = 0 then (
      kC ((gi M 78 3).toNatClampNeg) = 4 ∧
      kC ((gi M 78 4).toNatClampNeg) = 5 ∧
      wX0_ofListener (((gi M 78 3).toNatClampNeg)) (((gi M 78 4).toNatClampNeg)) 3 a0 a1 M (fun r7 M6 =>
        kC ((gi M6 78 3).toNatClampNeg) = 4 ∧
        kC ((gi M6 78 3).toNatClampNeg) = 4 ∧
        vp_in a1 10 ∧
        wJ9_max_7cf53 0 ((gi M6 ((((gi M6 78 3).toNatClampNeg) + 7)) a1.toNatClampNeg) - r7) M6 (fun r12 M11 =>
          vp_in a1 10 ∧
          ∀ M14 : xMem, M14 = si M11 ((((gi M6 78 3).toNatClampNeg) + 7)) a1.toNatClampNeg r12 →
          wX1_listen_81 post a0 a1 M14)))
    else (
      kC ((gi M 78 3).toNatClampNeg) = 4 ∧
      kC ((gi M 78 4).toNatClampNeg) = 5 ∧
      wX0_ofListener (((gi M 78 3).toNatClampNeg)) (((gi M 78 4).toNatClampNeg)) 2 a0 a1 M (fun r18 M17 =>
        wX1_tire a1 r18 M17 (fun M19 =>
          wX1_listen_81 post a0 a1 M19)))
abbrev rm_X1_storyOf : Room := { frames := 0, cells := 0, slots := 0, locals := 0 }
theorem yd_X1_storyOf : yX1_storyOf.cls ≠ "java/lang/invoke/MethodHandle" ∧ yX1_storyOf.cls ≠ "java/lang/invoke/VarHandle" ∧ (parseMethodDescriptor yX1_storyOf.desc).map (fun d => d.parameters.length) = some 1 := by decide +kernel
def wX1_storyOf  (a0 : Int32) (M : xMem) (post : Nat → xMem → Prop) : Prop :=
    kC ((gi M 78 3).toNatClampNeg) = 4 ∧
    vp_in a0 4 ∧
    ∀ v3 : Int32, v3 = gi M ((((gi M 78 3).toNatClampNeg) + 1)) a0.toNatClampNeg →
    if v3 < 0 then (
      post 0 M)
    else (
      if 6 ≤ v3 then (
        post 0 M)
      else (
        vp_in v3 6 ∧
        post ((3 + 2 * v3.toNatClampNeg)) M))
abbrev rm_X0_ofTeller : Room := { frames := 3, cells := 0, slots := 0, locals := 76 }
theorem yd_X0_ofTeller : yX0_ofTeller.cls ≠ "java/lang/invoke/MethodHandle" ∧ yX0_ofTeller.cls ≠ "java/lang/invoke/VarHandle" ∧ (parseMethodDescriptor yX0_ofTeller.desc).map (fun d => d.parameters.length) = some 4 := by decide +kernel
def wX0_ofTeller  (o0 : Nat) (o1 : Nat) (a2 : Int32) (a3 : Int32) (M : xMem) (post : Int32 → xMem → Prop) : Prop :=
    wX0_begin o0 M (fun M1 =>
      wX0_putTeller o0 a3 M1 (fun M2 =>
        wX5_worthOf o1 a2 M2 (fun r4 M3 =>
          post r4 M3)))
abbrev rm_X1_tellOn : Room := { frames := 4, cells := 0, slots := 0, locals := 100 }
theorem yd_X1_tellOn : yX1_tellOn.cls ≠ "java/lang/invoke/MethodHandle" ∧ yX1_tellOn.cls ≠ "java/lang/invoke/VarHandle" ∧ (parseMethodDescriptor yX1_tellOn.desc).map (fun d => d.parameters.length) = some 2 := by decide +kernel
def wX1_tellOn  (a0 : Int32) (o1 : Nat) (M : xMem) (post : xMem → Prop) : Prop :=
    kC ((gi M 78 3).toNatClampNeg) = 4 ∧
    vp_in a0 4 ∧
    ∀ v3 : Int32, v3 = gi M ((((gi M 78 3).toNatClampNeg) + 3)) a0.toNatClampNeg →
    kC ((gi M 78 3).toNatClampNeg) = 4 ∧
    kC ((gi M 78 4).toNatClampNeg) = 5 ∧
    wX0_ofTeller (((gi M 78 3).toNatClampNeg)) (((gi M 78 4).toNatClampNeg)) 0 a0 M (fun r7 M6 =>
      wJ9_min_7cf53 (gi M o1 1) (v3 + r7) M6 (fun r9 M8 =>
        kC ((gi M8 78 3).toNatClampNeg) = 4 ∧
        kC ((gi M8 78 3).toNatClampNeg) = 4 ∧
        vp_in a0 4 ∧
        wX9_openBehind o1 v3 r9 (gi M8 ((((gi M8 78 3).toNatClampNeg) + 4)) a0.toNatClampNeg) M8 (fun r14 M13 =>
          vp_in a0 4 ∧
          ∀ M16 : xMem, M16 = si M13 ((((gi M8 78 3).toNatClampNeg) + 4)) a0.toNatClampNeg r14 →
          kC ((gi M16 78 3).toNatClampNeg) = 4 ∧
          vp_in a0 4 ∧
          ∀ M19 : xMem, M19 = si M16 ((((gi M16 78 3).toNatClampNeg) + 3)) a0.toNatClampNeg r9 →
          post M19)))
abbrev rm_X2_endsOf : Room := { frames := 1, cells := 0, slots := 0, locals := 21 }
theorem yd_X2_endsOf : yX2_endsOf.cls ≠ "java/lang/invoke/MethodHandle" ∧ yX2_endsOf.cls ≠ "java/lang/invoke/VarHandle" ∧ (parseMethodDescriptor yX2_endsOf.desc).map (fun d => d.parameters.length) = some 2 := by decide +kernel
def wX2_endsOf_39   (K5 : Int32 → Int32 → Int32 → Int32 → xMem → Prop) (post : Int32 → xMem → Prop) (x1 : Int32) (x2 : Int32) (x3 : Int32) (x4 : Int32) (M : xMem) : Prop :=
    ∀ v1 : Int32, v1 = x4 + 1 →
    K5 x1 x2 x3 v1 M
def wX2_endsOf_5    (post : Int32 → xMem → Prop) : Nat → Int32 → Int32 → Int32 → Int32 → xMem → Prop
  | 0 => fun _ _ _ _ _ => False
  | n + 1 => fun x1 x2 x3 x4 M =>
      if x2 ≤ x4 then (
        post x3 M)
      else (
        if 10 ≤ x4 then (
          post x3 M)
        else (
          wX11_has x1 x4 M (fun r4 M3 =>
            if r4 = 0 then (
              wX2_endsOf_39 (wX2_endsOf_5 post n) post x1 x2 x3 x4 M3)
            else (
              vp_in x4 10 ∧
              ∀ v7 : Int32, v7 = x3 ||| (1 <<< ((gi M3 46 x4.toNatClampNeg) &&& 31)) →
              wX2_endsOf_39 (wX2_endsOf_5 post n) post x1 x2 v7 x4 M3))))
def wX2_endsOf  (a0 : Int32) (a1 : Int32) (M : xMem) (post : Int32 → xMem → Prop) : Prop :=
    ∃ n5 : Nat, wX2_endsOf_5 post n5 a0 a1 0 0 M
abbrev rm_X2_isCheaper : Room := { frames := 1, cells := 0, slots := 0, locals := 20 }
theorem yd_X2_isCheaper : yX2_isCheaper.cls ≠ "java/lang/invoke/MethodHandle" ∧ yX2_isCheaper.cls ≠ "java/lang/invoke/VarHandle" ∧ (parseMethodDescriptor yX2_isCheaper.desc).map (fun d => d.parameters.length) = some 2 := by decide +kernel
def wX2_isCheaper_16    (post : Int32 → xMem → Prop) (x1 : Int32) (x2 : Int32) (s0 : Int32) (M : xMem) : Prop :=
    vp_in x1 1024 ∧
    vp_in x2 1024 ∧
    if (gi M 47 x1.toNatClampNeg) < (gi M 47 x2.toNatClampNeg) then (
      post 1 M)
    else (
      vp_in x1 1024 ∧
      vp_in x2 1024 ∧
      if (gi M 47 x1.toNatClampNeg) = (gi M 47 x2.toNatClampNeg) then (
        if s0 = 0 then (
          post 0 M)
        else (
          post 1 M))
      else (
        post 0 M))
def wX2_isCheaper  (a0 : Int32) (a1 : Int32) (M : xMem) (post : Int32 → xMem → Prop) : Prop :=
    wJ6_bitCount_0f7a4 a0 M (fun r2 M1 =>
      wJ6_bitCount_0f7a4 a1 M1 (fun r4 M3 =>
        if r4 ≤ r2 then (
          wX2_isCheaper_16 post a0 a1 0 M3)
        else (
          wX2_isCheaper_16 post a0 a1 1 M3)))
abbrev rm_X2_chooseFor : Room := { frames := 4, cells := 0, slots := 0, locals := 100 }
theorem yd_X2_chooseFor : yX2_chooseFor.cls ≠ "java/lang/invoke/MethodHandle" ∧ yX2_chooseFor.cls ≠ "java/lang/invoke/VarHandle" ∧ (parseMethodDescriptor yX2_chooseFor.desc).map (fun d => d.parameters.length) = some 4 := by decide +kernel
def wX2_chooseFor_228  (o1 : Nat) (o2 : Nat) (K88 : Int32 → Int32 → Int32 → Int32 → xMem → Prop) (K114 : Int32 → Int32 → Int32 → Int32 → Int32 → Int32 → Int32 → xMem → Prop) (post : Int32 → xMem → Prop) (x1 : Int32) (x5 : Int32) (x6 : Int32) (x7 : Int32) (x8 : Int32) (x9 : Int32) (x10 : Int32) (M : xMem) : Prop :=
    ∀ v1 : Int32, v1 = x10 + 1 →
    K114 x1 x5 x6 x7 x8 x9 v1 M
def wX2_chooseFor_224  (o1 : Nat) (o2 : Nat) (K88 : Int32 → Int32 → Int32 → Int32 → xMem → Prop) (K114 : Int32 → Int32 → Int32 → Int32 → Int32 → Int32 → Int32 → xMem → Prop) (post : Int32 → xMem → Prop) (x1 : Int32) (x5 : Int32) (x7 : Int32) (x8 : Int32) (x9 : Int32) (x10 : Int32) (M : xMem) : Prop :=
    wX2_chooseFor_228 o1 o2 K88 K114 post x1 x5 x10 x7 x8 x9 x10 M
def wX2_chooseFor_186  (o1 : Nat) (o2 : Nat) (K88 : Int32 → Int32 → Int32 → Int32 → xMem → Prop) (K114 : Int32 → Int32 → Int32 → Int32 → Int32 → Int32 → Int32 → xMem → Prop) (post : Int32 → xMem → Prop) (x1 : Int32) (x5 : Int32) (x6 : Int32) (x7 : Int32) (x8 : Int32) (x9 : Int32) (x10 : Int32) (s0 : Int32) (s1 : Int32) (M : xMem) : Prop :=
    vp_in x9 10 ∧
    vp_in s1 1024 ∧
    ∀ M3 : xMem, M3 = si M 48 s1.toNatClampNeg (s0 ||| ((gi M 42 x9.toNatClampNeg) &&& x1)) →
    vp_in x10 1024 ∧
    if (gi M3 48 x10.toNatClampNeg) = x1 then (
      if x6 = 0 then (
        wX2_chooseFor_224 o1 o2 K88 K114 post x1 x5 x7 x8 x9 x10 M3)
      else (
        wX2_isCheaper x10 x6 M3 (fun r8 M7 =>
          if r8 = 0 then (
            wX2_chooseFor_228 o1 o2 K88 K114 post x1 x5 x6 x7 x8 x9 x10 M7)
          else (
            wX2_chooseFor_224 o1 o2 K88 K114 post x1 x5 x7 x8 x9 x10 M7))))
    else (
      wX2_chooseFor_228 o1 o2 K88 K114 post x1 x5 x6 x7 x8 x9 x10 M3)
def wX2_chooseFor_150  (o1 : Nat) (o2 : Nat) (K88 : Int32 → Int32 → Int32 → Int32 → xMem → Prop) (K114 : Int32 → Int32 → Int32 → Int32 → Int32 → Int32 → Int32 → xMem → Prop) (post : Int32 → xMem → Prop) (x1 : Int32) (x5 : Int32) (x6 : Int32) (x7 : Int32) (x8 : Int32) (x9 : Int32) (x10 : Int32) (s0 : Int32) (s1 : Int32) (M : xMem) : Prop :=
    vp_in x9 10 ∧
    vp_in s1 1024 ∧
    ∀ M3 : xMem, M3 = si M 47 s1.toNatClampNeg (s0 + (gi M 45 x9.toNatClampNeg)) →
    if x10 = x8 then (
      wX2_chooseFor_186 o1 o2 K88 K114 post x1 x5 x6 x7 x8 x9 x10 0 x10 M3)
    else (
      vp_in (x10 - x8) 1024 ∧
      wX2_chooseFor_186 o1 o2 K88 K114 post x1 x5 x6 x7 x8 x9 x10 (gi M3 48 (x10 - x8).toNatClampNeg) x10 M3)
def wX2_chooseFor_114  (o1 : Nat) (o2 : Nat) (K88 : Int32 → Int32 → Int32 → Int32 → xMem → Prop) (post : Int32 → xMem → Prop) : Nat → Int32 → Int32 → Int32 → Int32 → Int32 → Int32 → Int32 → xMem → Prop
  | 0 => fun _ _ _ _ _ _ _ _ => False
  | n + 1 => fun x1 x5 x6 x7 x8 x9 x10 M =>
      if (2 * x8) ≤ x10 then (
        ∀ v2 : Int32, v2 = x7 + 1 →
        K88 x1 x5 x6 v2 M)
      else (
        if x10 = x8 then (
          wX2_chooseFor_150 o1 o2 K88 (wX2_chooseFor_114 o1 o2 K88 post n) post x1 x5 x6 x7 x8 x9 x10 0 x10 M)
        else (
          vp_in (x10 - x8) 1024 ∧
          wX2_chooseFor_150 o1 o2 K88 (wX2_chooseFor_114 o1 o2 K88 post n) post x1 x5 x6 x7 x8 x9 x10 (gi M 47 (x10 - x8).toNatClampNeg) x10 M))
def wX2_chooseFor_88  (o1 : Nat) (o2 : Nat)  (post : Int32 → xMem → Prop) : Nat → Int32 → Int32 → Int32 → Int32 → xMem → Prop
  | 0 => fun _ _ _ _ _ => False
  | n + 1 => fun x1 x5 x6 x7 M =>
      if x5 ≤ x7 then (
        wX2_endsOf x6 x5 M (fun r3 M2 =>
          ∀ M4 : xMem, M4 = si M2 41 8 r3 →
          vp_in x6 1024 ∧
          ∀ M6 : xMem, M6 = si M4 41 9 (gi M4 47 x6.toNatClampNeg) →
          if x6 = 0 then (
            post 0 M6)
          else (
            post 1 M6)))
      else (
        ∀ v8 : Int32, v8 = 1 <<< (x7 &&& 31) →
        vp_in x7 10 ∧
        ∀ v10 : Int32, v10 = gi M 46 x7.toNatClampNeg →
        ∃ n114 : Nat, wX2_chooseFor_114 o1 o2 (wX2_chooseFor_88 o1 o2 post n) post n114 x1 x5 x6 x7 v8 v10 v8 M)
def wX2_chooseFor_76  (o1 : Nat) (o2 : Nat) (K6 : Int32 → Int32 → Int32 → xMem → Prop) (post : Int32 → xMem → Prop) (x1 : Int32) (x5 : Int32) (x6 : Int32) (M : xMem) : Prop :=
    ∀ v1 : Int32, v1 = x6 + 1 →
    K6 x1 x5 v1 M
def wX2_chooseFor_6  (o1 : Nat) (o2 : Nat)  (post : Int32 → xMem → Prop) : Nat → Int32 → Int32 → Int32 → xMem → Prop
  | 0 => fun _ _ _ _ => False
  | n + 1 => fun x1 x5 x6 M =>
      if 10 ≤ x6 then (
        ∃ n88 : Nat, wX2_chooseFor_88 o1 o2 post n88 x1 x5 0 0 M)
      else (
        wX11_has (gi M 41 0) x6 M (fun r3 M2 =>
          if r3 = 0 then (
            wX2_chooseFor_76 o1 o2 (wX2_chooseFor_6 o1 o2 post n) post x1 x5 x6 M2)
          else (
            vp_in x6 10 ∧
            if (gi M2 ((o1 + 8)) x6.toNatClampNeg) ≤ 0 then (
              wX2_chooseFor_76 o1 o2 (wX2_chooseFor_6 o1 o2 post n) post x1 x5 x6 M2)
            else (
              vp_in x6 10 ∧
              if ((gi M2 42 x6.toNatClampNeg) &&& x1) = 0 then (
                wX2_chooseFor_76 o1 o2 (wX2_chooseFor_6 o1 o2 post n) post x1 x5 x6 M2)
              else (
                wX0_ofEnd o1 o2 1 x6 M2 (fun r10 M9 =>
                  vp_in x6 10 ∧
                  ∀ M12 : xMem, M12 = si M9 45 x6.toNatClampNeg r10 →
                  vp_in x5 10 ∧
                  ∀ M14 : xMem, M14 = si M12 46 x5.toNatClampNeg x6 →
                  ∀ v15 : Int32, v15 = x5 + 1 →
                  wX2_chooseFor_76 o1 o2 (wX2_chooseFor_6 o1 o2 post n) post x1 v15 x6 M14))))))
def wX2_chooseFor  (a0 : Int32) (o1 : Nat) (o2 : Nat) (M : xMem) (post : Int32 → xMem → Prop) : Prop :=
    ∃ n6 : Nat, wX2_chooseFor_6 o1 o2 post n6 a0 0 0 M
abbrev rm_X1_visit : Room := { frames := 5, cells := 0, slots := 0, locals := 130 }
theorem yd_X1_visit : yX1_visit.cls ≠ "java/lang/invoke/MethodHandle" ∧ yX1_visit.cls ≠ "java/lang/invoke/VarHandle" ∧ (parseMethodDescriptor yX1_visit.desc).map (fun d => d.parameters.length) = some 1 := by decide +kernel
def wX1_visit_196   (K169 : Int32 → Int32 → Int32 → xMem → Prop) (post : xMem → Prop) (x1 : Int32) (x3 : Int32) (x5 : Int32) (M : xMem) : Prop :=
    ∀ v1 : Int32, v1 = x5 + 1 →
    K169 x1 x3 v1 M
def wX1_visit_169    (post : xMem → Prop) : Nat → Int32 → Int32 → Int32 → xMem → Prop
  | 0 => fun _ _ _ _ => False
  | n + 1 => fun x1 x3 x5 M =>
      if 10 ≤ x5 then (
        if x3 = 0 then (
          post M)
        else (
          kC ((gi M 78 3).toNatClampNeg) = 4 ∧
          vp_in x1 4 ∧
          if (gi M ((((gi M 78 3).toNatClampNeg) + 4)) x1.toNatClampNeg) = 0 then (
            wX1_collect x1 M (fun M6 =>
              post M6))
          else (
            post M)))
      else (
        kC ((gi M 78 3).toNatClampNeg) = 4 ∧
        wX4_isBound (((gi M 78 3).toNatClampNeg)) x5 x1 M (fun r9 M8 =>
          if r9 = 0 then (
            wX1_visit_196 (wX1_visit_169 post n) post x1 x3 x5 M8)
          else (
            wX1_listen x1 x5 M8 (fun M11 =>
              wX1_visit_196 (wX1_visit_169 post n) post x1 x3 x5 M11))))
def wX1_visit_166    (post : xMem → Prop) (x1 : Int32) (x3 : Int32) (M : xMem) : Prop :=
    ∃ n169 : Nat, wX1_visit_169 post n169 x1 x3 0 M
def wX1_visit_160   (K120 : Int32 → Int32 → Int32 → xMem → Prop) (post : xMem → Prop) (x1 : Int32) (x3 : Int32) (x5 : Int32) (M : xMem) : Prop :=
    ∀ v1 : Int32, v1 = x5 + 1 →
    K120 x1 x3 v1 M
def wX1_visit_120    (post : xMem → Prop) : Nat → Int32 → Int32 → Int32 → xMem → Prop
  | 0 => fun _ _ _ _ => False
  | n + 1 => fun x1 x3 x5 M =>
      if 10 ≤ x5 then (
        wX1_visit_166 post x1 x3 M)
      else (
        wX11_has (gi M 41 8) x5 M (fun r3 M2 =>
          if r3 = 0 then (
            wX1_visit_160 (wX1_visit_120 post n) post x1 x3 x5 M2)
          else (
            vp_in x5 10 ∧
            wX1_buyOne x1 x5 (gi M2 45 x5.toNatClampNeg) M2 (fun r7 M6 =>
              wX1_visit_160 (wX1_visit_120 post n) post x1 x3 x5 M6))))
def wX1_visit_91    (post : xMem → Prop) (x1 : Int32) (x3 : Int32) (s0 : Int32) (M : xMem) : Prop :=
    if s0 = 0 then (
      wX1_visit_166 post x1 x3 M)
    else (
      kC ((gi M 78 3).toNatClampNeg) = 4 ∧
      vp_in x1 4 ∧
      if (gi M ((((gi M 78 3).toNatClampNeg) + 2)) x1.toNatClampNeg) < (gi M 41 9) then (
        wX1_visit_166 post x1 x3 M)
      else (
        ∃ n120 : Nat, wX1_visit_120 post n120 x1 x3 0 M))
def wX1_visit_90    (post : xMem → Prop) (x1 : Int32) (x3 : Int32) (M : xMem) : Prop :=
    wX1_visit_91 post x1 x3 0 M
def wX1_visit_38    (post : xMem → Prop) (x1 : Int32) (s0 : Int32) (M : xMem) : Prop :=
    if s0 = 0 then (
      wX1_visit_90 post x1 s0 M)
    else (
      kC ((gi M 78 3).toNatClampNeg) = 4 ∧
      vp_in x1 4 ∧
      if (gi M ((((gi M 78 3).toNatClampNeg) + 4)) x1.toNatClampNeg) = 0 then (
        wX1_visit_90 post x1 s0 M)
      else (
        kC ((gi M 78 3).toNatClampNeg) = 4 ∧
        vp_in x1 4 ∧
        kC ((gi M 78 3).toNatClampNeg) = 4 ∧
        kC ((gi M 78 4).toNatClampNeg) = 5 ∧
        wX2_chooseFor (gi M ((((gi M 78 3).toNatClampNeg) + 4)) x1.toNatClampNeg) (((gi M 78 3).toNatClampNeg)) (((gi M 78 4).toNatClampNeg)) M (fun r10 M9 =>
          if r10 = 0 then (
            wX1_visit_90 post x1 s0 M9)
          else (
            wX1_visit_91 post x1 s0 1 M9))))
def wX1_visit  (a0 : Int32) (M : xMem) (post : xMem → Prop) : Prop :=
    wX1_storyOf a0 M (fun q2 M1 =>
      if q2 = 0 then (
        post M1)
      else (
        wX1_tellOn a0 q2 M1 (fun M3 =>
          kC ((gi M3 78 3).toNatClampNeg) = 4 ∧
          vp_in a0 4 ∧
          if (gi M3 ((((gi M3 78 3).toNatClampNeg) + 3)) a0.toNatClampNeg) < (gi M3 q2 1) then (
            wX1_visit_38 post a0 0 M3)
          else (
            wX1_visit_38 post a0 1 M3))))
abbrev rm_X1_run : Room := { frames := 6, cells := 0, slots := 0, locals := 155 }
theorem yd_X1_run : yX1_run.cls ≠ "java/lang/invoke/MethodHandle" ∧ yX1_run.cls ≠ "java/lang/invoke/VarHandle" ∧ (parseMethodDescriptor yX1_run.desc).map (fun d => d.parameters.length) = some 3 := by decide +kernel
def wX1_run_64  (o0 : Nat) (o1 : Nat) (K9 : Int32 → Int32 → xMem → Prop) (K37 : Int32 → Int32 → Int32 → xMem → Prop) (post : xMem → Prop) (x3 : Int32) (x4 : Int32) (x5 : Int32) (M : xMem) : Prop :=
    ∀ v1 : Int32, v1 = x5 + 1 →
    K37 x3 x4 v1 M
def wX1_run_37  (o0 : Nat) (o1 : Nat) (K9 : Int32 → Int32 → xMem → Prop) (post : xMem → Prop) : Nat → Int32 → Int32 → Int32 → xMem → Prop
  | 0 => fun _ _ _ _ => False
  | n + 1 => fun x3 x4 x5 M =>
      if 4 ≤ x5 then (
        kC ((gi M 78 3).toNatClampNeg) = 4 ∧
        ∀ M3 : xMem, M3 = si M (((gi M 78 3).toNatClampNeg)) 10 ((gi M (((gi M 78 3).toNatClampNeg)) 10) + 1) →
        ∀ v4 : Int32, v4 = x4 + 1 →
        K9 x3 v4 M3)
      else (
        kC ((gi M 78 3).toNatClampNeg) = 4 ∧
        wX11_has (gi M (((gi M 78 3).toNatClampNeg)) 0) x5 M (fun r7 M6 =>
          if r7 = 0 then (
            wX1_run_64 o0 o1 K9 (wX1_run_37 o0 o1 K9 post n) post x3 x4 x5 M6)
          else (
            wX1_visit x5 M6 (fun M9 =>
              wX1_run_64 o0 o1 K9 (wX1_run_37 o0 o1 K9 post n) post x3 x4 x5 M9))))
def wX1_run_9  (o0 : Nat) (o1 : Nat)  (post : xMem → Prop) : Nat → Int32 → Int32 → xMem → Prop
  | 0 => fun _ _ _ => False
  | n + 1 => fun x3 x4 M =>
      if x3 < x4 then (
        post M)
      else (
        kC ((gi M 78 3).toNatClampNeg) = 4 ∧
        if 9999 ≤ (gi M (((gi M 78 3).toNatClampNeg)) 10) then (
          post M)
        else (
          ∀ M4 : xMem, M4 = si M 78 5 x4 →
          ∃ n37 : Nat, wX1_run_37 o0 o1 (wX1_run_9 o0 o1 post n) post n37 x3 x4 0 M4))
def wX1_run  (o0 : Nat) (o1 : Nat) (a2 : Int32) (M : xMem) (post : xMem → Prop) : Prop :=
    wX1_beginIn o0 o1 M (fun M1 =>
      ∃ n9 : Nat, wX1_run_9 o0 o1 post n9 a2 1 M1)
abbrev rm_X11_evenings : Room := { frames := 7, cells := 0, slots := 0, locals := 180 }
theorem yd_X11_evenings : yX11_evenings.cls ≠ "java/lang/invoke/MethodHandle" ∧ yX11_evenings.cls ≠ "java/lang/invoke/VarHandle" ∧ (parseMethodDescriptor yX11_evenings.desc).map (fun d => d.parameters.length) = some 1 := by decide +kernel
def wX11_evenings  (a0 : Int32) (M : xMem) (post : Int32 → xMem → Prop) : Prop :=
    wX11_isWithin a0 1 60 M (fun r2 M1 =>
      if r2 = 0 then (
        post (-1) M1)
      else (
        wX1_run 49 18 a0 M1 (fun M4 =>
          post (gi M4 78 6) M4)))
abbrev rm_X11_canBeTried : Room := { frames := 1, cells := 0, slots := 0, locals := 22 }
theorem yd_X11_canBeTried : yX11_canBeTried.cls ≠ "java/lang/invoke/MethodHandle" ∧ yX11_canBeTried.cls ≠ "java/lang/invoke/VarHandle" ∧ (parseMethodDescriptor yX11_canBeTried.desc).map (fun d => d.parameters.length) = some 1 := by decide +kernel
def wX11_canBeTried  (a0 : Int32) (M : xMem) (post : Int32 → xMem → Prop) : Prop :=
    wX11_isWithin a0 0 6 M (fun r2 M1 =>
      if r2 = 0 then (
        wX11_has (gi M1 49 0) (a0 - 10) M1 (fun r5 M4 =>
          if r5 = 0 then (
            wX11_has (gi M4 49 0) (a0 - 20) M4 (fun r8 M7 =>
              if r8 = 0 then (
                wX11_has (gi M7 49 5) (a0 - 30) M7 (fun r11 M10 =>
                  if r11 = 0 then (
                    post 0 M10)
                  else (
                    post 1 M10)))
              else (
                post 1 M7)))
          else (
            post 1 M4)))
      else (
        post 1 M1))
abbrev rm_X1_result : Room := { frames := 1, cells := 0, slots := 0, locals := 22 }
theorem yd_X1_result : yX1_result.cls ≠ "java/lang/invoke/MethodHandle" ∧ yX1_result.cls ≠ "java/lang/invoke/VarHandle" ∧ (parseMethodDescriptor yX1_result.desc).map (fun d => d.parameters.length) = some 1 := by decide +kernel
def wX1_result  (a0 : Int32) (M : xMem) (post : Int32 → xMem → Prop) : Prop :=
    if a0 = 0 then (
      post (gi M 78 6) M)
    else
    if a0 = 1 then (
      post (gi M 78 7) M)
    else
    if a0 = 2 then (
      post (gi M 78 8) M)
    else
    if a0 = 3 then (
      post (gi M 78 9) M)
    else
    if a0 = 4 then (
      post (gi M 78 10) M)
    else
    if a0 = 5 then (
      post (gi M 78 11) M)
    else
    if a0 = 6 then (
      post (gi M 78 12) M)
    else (
      wX11_isWithin a0 10 13 M (fun r9 M8 =>
        if r9 = 0 then (
          wX11_isWithin a0 20 23 M8 (fun r12 M11 =>
            if r12 = 0 then (
              wX11_isWithin a0 30 39 M11 (fun r15 M14 =>
                if r15 = 0 then (
                  post (-1) M14)
                else (
                  kC ((gi M14 78 3).toNatClampNeg) = 4 ∧
                  vp_in (a0 - 30) 10 ∧
                  post (gi M14 ((((gi M14 78 3).toNatClampNeg) + 7)) (a0 - 30).toNatClampNeg) M14)))
            else (
              kC ((gi M11 78 3).toNatClampNeg) = 4 ∧
              vp_in (a0 - 20) 4 ∧
              post (gi M11 ((((gi M11 78 3).toNatClampNeg) + 4)) (a0 - 20).toNatClampNeg) M11)))
        else (
          kC ((gi M8 78 3).toNatClampNeg) = 4 ∧
          vp_in (a0 - 10) 4 ∧
          post (gi M8 ((((gi M8 78 3).toNatClampNeg) + 2)) (a0 - 10).toNatClampNeg) M8)))
abbrev rm_X4_takeFrom : Room := { frames := 1, cells := 0, slots := 0, locals := 60 }
theorem yd_X4_takeFrom : yX4_takeFrom.cls ≠ "java/lang/invoke/MethodHandle" ∧ yX4_takeFrom.cls ≠ "java/lang/invoke/VarHandle" ∧ (parseMethodDescriptor yX4_takeFrom.desc).map (fun d => d.parameters.length) = some 1 := by decide +kernel
def wX4_takeFrom  (o : Nat) (o0 : Nat) (M : xMem) (post : xMem → Prop) : Prop :=
    ∀ M1 : xMem, M1 = si M o 0 (gi M o0 0) →
    cpyok 0 0 4 4 4 ∧
    ∀ M3 : xMem, M3 = cpy M1 ((o0 + 1)) ((o + 1)) 0 0 4 →
    cpyok 0 0 4 4 4 ∧
    ∀ M5 : xMem, M5 = cpy M3 ((o0 + 2)) ((o + 2)) 0 0 4 →
    cpyok 0 0 4 4 4 ∧
    ∀ M7 : xMem, M7 = cpy M5 ((o0 + 3)) ((o + 3)) 0 0 4 →
    cpyok 0 0 4 4 4 ∧
    ∀ M9 : xMem, M9 = cpy M7 ((o0 + 4)) ((o + 4)) 0 0 4 →
    ∀ M10 : xMem, M10 = si M9 o 5 (gi M9 o0 5) →
    cpyok 0 0 10 10 10 ∧
    ∀ M12 : xMem, M12 = cpy M10 ((o0 + 5)) ((o + 5)) 0 0 10 →
    cpyok 0 0 10 10 10 ∧
    ∀ M14 : xMem, M14 = cpy M12 ((o0 + 6)) ((o + 6)) 0 0 10 →
    cpyok 0 0 10 10 10 ∧
    ∀ M16 : xMem, M16 = cpy M14 ((o0 + 7)) ((o + 7)) 0 0 10 →
    cpyok 0 0 10 10 10 ∧
    ∀ M18 : xMem, M18 = cpy M16 ((o0 + 8)) ((o + 8)) 0 0 10 →
    ∀ M19 : xMem, M19 = si M18 o 10 (gi M18 o0 10) →
    ∀ M20 : xMem, M20 = si M19 o 11 (gi M19 o0 11) →
    ∀ M21 : xMem, M21 = si M20 o 12 (gi M20 o0 12) →
    ∀ M22 : xMem, M22 = si M21 o 13 (gi M21 o0 13) →
    post M22
set_option maxHeartbeats 4000000 in
set_option maxRecDepth 100000 in
theorem tX5_worthOf_110 {g : xG} (hg : x_inj (WC g))  {x : xCx} {o : Nat} {K2 : Int32 → Int32 → xMem → Prop} {post : Int32 → xMem → Prop} (C : xOk (WC g) x cX5_worthOf RX5 6 (some .int) (rm_X5_worthOf) (pI post)) (ho : kC o = 5) (hK2 : ∀ (x1 : Int32) (x3 : Int32) (M : xMem), K2 x1 x3 M → xW (WC g) x 6 2 [(0, .ref (ga g o)), (1, .int x1), (2, .ref (ga g 77)), (3, .int x3)] [] M) (x1 : Int32) (x3 : Int32) (M : xMem)  (h : wX5_worthOf_110 o K2 post x1 x3 M) : xW (WC g) x 6 110 [(0, .ref (ga g o)), (1, .int x1), (2, .ref (ga g 77)), (3, .int x3)] [] M := by
  unfold wX5_worthOf_110 at h
  obtain ⟨v1, ev1⟩ : ∃ z : Int32, z = x3 + 1 := ⟨_, rfl⟩
  replace h := h v1 ev1
  refine x_iinc C 3 (v1 := v1) (L' := [(3, .int v1), (0, .ref (ga g o)), (1, .int x1), (2, .ref (ga g 77))]) rfl (by rw [ev1]; rfl) rfl (Nat.le_of_ble_eq_true rfl) dX5_worthOf_110 ?_
  refine x_goto C (tgt := 2) dX5_worthOf_113 (by decide) ?_
  refine x_loc (L' := [(0, .ref (ga g o)), (1, .int x1), (2, .ref (ga g 77)), (3, .int v1)]) [1, 2, 3, 0] rfl ?_
  exact hK2 _ _ _  h
set_option maxHeartbeats 4000000 in
set_option maxRecDepth 100000 in
theorem tX5_worthOf_96 {g : xG} (hg : x_inj (WC g))  {x : xCx} {o : Nat}  {post : Int32 → xMem → Prop} (C : xOk (WC g) x cX5_worthOf RX5 6 (some .int) (rm_X5_worthOf) (pI post)) (ho : kC o = 5)  (x4 : Int32) (s0 : Int32) (M : xMem)  (h : wX5_worthOf_96 o post x4 s0 M) : xW (WC g) x 6 96 [(4, .int x4)] [.int s0] M := by
  unfold wX5_worthOf_96 at h
  refine x_istore C (L' := [(5, .int s0), (4, .int x4)]) rfl (Nat.le_of_ble_eq_true rfl) dX5_worthOf_96 ?_
  refine x_iconst C (v1 := 0) dX5_worthOf_98 (by decide) ?_
  refine x_iload C 1 rfl dX5_worthOf_99 ?_
  refine x_iload C 0 rfl dX5_worthOf_101 ?_
  refine x_callS C (st := [.int 0]) (As := [.int x4, .int s0]) (tJ9_min_7cf53 hg _ _ _ _ _  h) wm_X5_54 wsm_J9_min_7cf53 wz_J9 wc_J9_min_7cf53 yd_J9_min_7cf53 rfl ⟨rfl, rfl⟩ ⟨Nat.le_of_ble_eq_true rfl, Nat.le_of_ble_eq_true rfl⟩ (Nat.le_of_ble_eq_true rfl) rfl dX5_worthOf_103 (x_ki (fun r2 M1 h => ?_))
  refine x_callS C (st := []) (As := [.int 0, .int r2]) (tJ9_max_7cf53 hg _ _ _ _ _  h) wm_X5_60 wsm_J9_max_7cf53 wz_J9 wc_J9_max_7cf53 yd_J9_max_7cf53 rfl ⟨rfl, rfl⟩ ⟨Nat.le_of_ble_eq_true rfl, Nat.le_of_ble_eq_true rfl⟩ (Nat.le_of_ble_eq_true rfl) rfl dX5_worthOf_106 (x_ki (fun r4 M3 h => ?_))
  exact x_iret C dX5_worthOf_109 ⟨_, rfl, h⟩
set_option maxHeartbeats 4000000 in
set_option maxRecDepth 100000 in
theorem tX5_worthOf_95 {g : xG} (hg : x_inj (WC g))  {x : xCx} {o : Nat}  {post : Int32 → xMem → Prop} (C : xOk (WC g) x cX5_worthOf RX5 6 (some .int) (rm_X5_worthOf) (pI post)) (ho : kC o = 5)  (x4 : Int32) (M : xMem)  (h : wX5_worthOf_95 o post x4 M) : xW (WC g) x 6 95 [(4, .int x4)] [] M := by
  unfold wX5_worthOf_95 at h
  refine x_iconst C (v1 := 0) dX5_worthOf_95 (by decide) ?_
  exact tX5_worthOf_96 hg  C ho  _ _ _  h
set_option maxHeartbeats 4000000 in
set_option maxRecDepth 100000 in
theorem tX5_worthOf_73 {g : xG} (hg : x_inj (WC g))  {x : xCx} {o : Nat}  {post : Int32 → xMem → Prop} (C : xOk (WC g) x cX5_worthOf RX5 6 (some .int) (rm_X5_worthOf) (pI post)) (ho : kC o = 5)  (x1 : Int32) (s0 : Int32) (M : xMem)  (h : wX5_worthOf_73 o post x1 s0 M) : xW (WC g) x 6 73 [(1, .int x1)] [.int s0] M := by
  unfold wX5_worthOf_73 at h
  refine x_istore C (L' := [(4, .int s0), (1, .int x1)]) rfl (Nat.le_of_ble_eq_true rfl) dX5_worthOf_73 ?_
  refine x_iload_n C 1 rfl rfl dX5_worthOf_75 ?_
  refine x_if_lt C (tgt := 95) dX5_worthOf_76 (by decide) (fun hq1 => ?_) (fun hq1 => ?_)
  · replace h := x_ift hq1 h
    refine x_loc (L' := [(4, .int s0)]) [0] rfl ?_
    exact tX5_worthOf_95 hg  C ho  _ _  h
  · replace h := x_iff hq1 h
    refine x_iload_n C 1 rfl rfl dX5_worthOf_79 ?_
    refine x_gets C C.x12.2.2.2.2.1 wf_X5_51 dX5_worthOf_80 ?_
    refine x_blen_ C dX5_worthOf_83 ?_
    refine x_icmp_ge C (tgt := 95) dX5_worthOf_84 (by decide) (fun hq2 => ?_) (fun hq2 => ?_)
    · replace h := x_ift hq2 h
      refine x_loc (L' := [(4, .int s0)]) [0] rfl ?_
      exact tX5_worthOf_95 hg  C ho  _ _  h
    · replace h := x_iff hq2 h
      refine x_gets C C.x12.2.2.2.2.1 wf_X5_51 dX5_worthOf_87 ?_
      refine x_iload_n C 1 rfl rfl dX5_worthOf_90 ?_
      obtain ⟨hi3, h⟩ := h
      refine x_bald_ C hi3 dX5_worthOf_91 ?_
      refine x_goto C (tgt := 96) dX5_worthOf_92 (by decide) ?_
      refine x_loc (L' := [(4, .int s0)]) [0] rfl ?_
      exact tX5_worthOf_96 hg  C ho  _ _ _  h
set_option maxHeartbeats 4000000 in
set_option maxRecDepth 100000 in
theorem tX5_worthOf_2 {g : xG} (hg : x_inj (WC g))  {x : xCx} {o : Nat}  {post : Int32 → xMem → Prop} (C : xOk (WC g) x cX5_worthOf RX5 6 (some .int) (rm_X5_worthOf) (pI post)) (ho : kC o = 5)  : ∀ (n : Nat) (x1 : Int32) (x3 : Int32) (M : xMem), wX5_worthOf_2 o post n x1 x3 M → xW (WC g) x 6 2 [(0, .ref (ga g o)), (1, .int x1), (2, .ref (ga g 77)), (3, .int x3)] [] M := by
  intro n
  induction n with
  | zero =>
    intro x1 x3 M  h
    exact h.elim
  | succ n ih =>
    intro x1 x3 M  h
    rw [wX5_worthOf_2] at h
    refine x_iload_n C 3 rfl rfl dX5_worthOf_2 ?_
    refine x_aload_n C 0 rfl rfl dX5_worthOf_3 ?_
    refine x_get C (c := o) (ci := 5) (k1 := 0) (v1 := .int (gi M o 0)) (enC_5 (c := o) ho) (kC_lt ho (by decide)) rfl inX5 (by decide) wf_X5_9 rfl dX5_worthOf_4 ?_
    refine x_icmp_ge C (tgt := 116) dX5_worthOf_7 (by decide) (fun hq1 => ?_) (fun hq1 => ?_)
    · replace h := x_ift hq1 h
      refine x_iconst C (v1 := 0) dX5_worthOf_116 (by decide) ?_
      exact x_iret C dX5_worthOf_117 ⟨_, rfl, h⟩
    · replace h := x_iff hq1 h
      refine x_iload_n C 3 rfl rfl dX5_worthOf_10 ?_
      refine x_bipush C (v1 := 16) dX5_worthOf_11 (by decide) ?_
      refine x_icmp_ge C (tgt := 116) dX5_worthOf_13 (by decide) (fun hq2 => ?_) (fun hq2 => ?_)
      · replace h := x_ift hq2 h
        refine x_iconst C (v1 := 0) dX5_worthOf_116 (by decide) ?_
        exact x_iret C dX5_worthOf_117 ⟨_, rfl, h⟩
      · replace h := x_iff hq2 h
        refine x_aload_n C 0 rfl rfl dX5_worthOf_16 ?_
        refine x_get C (c := o) (ci := 5) (k1 := 1) (v1 := .ref (ga g ((o + 1)))) (enC_5 (c := o) ho) (kC_lt ho (by decide)) rfl inX5 (by decide) wf_X5_15 rfl dX5_worthOf_17 ?_
        refine x_iload_n C 3 rfl rfl dX5_worthOf_20 ?_
        obtain ⟨hi3, h⟩ := h
        refine x_iald C 0 (c := (o + 1)) (enC_20n (c := (o + 1)) (n := 16) (krX5_1 ho) (lrX5_1 ho)) (kC_lt (krX5_1 ho) (by decide)) rfl hi3 dX5_worthOf_21 ?_
        refine x_iload_n C 1 rfl rfl dX5_worthOf_22 ?_
        refine x_icmp_ne C (tgt := 110) dX5_worthOf_23 (by decide) (fun hq4 => ?_) (fun hq4 => ?_)
        · replace h := x_iff hq4 h
          exact tX5_worthOf_110 hg  C ho ih _ _ _  h
        · replace h := x_ift hq4 h
          refine x_aload_n C 0 rfl rfl dX5_worthOf_26 ?_
          refine x_aload_n C 0 rfl rfl dX5_worthOf_27 ?_
          refine x_get C (c := o) (ci := 5) (k1 := 3) (v1 := .ref (ga g ((o + 3)))) (enC_5 (c := o) ho) (kC_lt ho (by decide)) rfl inX5 (by decide) wf_X5_22 rfl dX5_worthOf_28 ?_
          refine x_iload_n C 3 rfl rfl dX5_worthOf_31 ?_
          obtain ⟨hi5, h⟩ := h
          refine x_iald C 0 (c := (o + 3)) (enC_20n (c := (o + 3)) (n := 16) (krX5_3 ho) (lrX5_3 ho)) (kC_lt (krX5_3 ho) (by decide)) rfl hi5 dX5_worthOf_32 ?_
          refine x_aload_n C 0 rfl rfl dX5_worthOf_33 ?_
          refine x_get C (c := o) (ci := 5) (k1 := 4) (v1 := .ref (ga g ((o + 4)))) (enC_5 (c := o) ho) (kC_lt ho (by decide)) rfl inX5 (by decide) wf_X5_25 rfl dX5_worthOf_34 ?_
          refine x_iload_n C 3 rfl rfl dX5_worthOf_37 ?_
          obtain ⟨hi6, h⟩ := h
          refine x_iald C 0 (c := (o + 4)) (enC_20n (c := (o + 4)) (n := 16) (krX5_4 ho) (lrX5_4 ho)) (kC_lt (krX5_4 ho) (by decide)) rfl hi6 dX5_worthOf_38 ?_
          refine x_aload_n C 2 rfl rfl dX5_worthOf_39 ?_
          refine x_callV C (st := []) (As := [.int (gi M ((o + 3)) x3.toNatClampNeg), .int (gi M ((o + 4)) x3.toNatClampNeg), .ref (ga g 77)]) (c := o) (ci := 5) (enC_5 (c := o) ho) (kC_lt ho (by decide)) rfl (tX5_reckon hg _ _ _ _ _ _ ho h) wm_X5_47 wi_X5_reckon wv_X5_reckon wz_X5 wc_X5_reckon rfl yd_X5_reckon rfl ⟨rfl, rfl⟩ ⟨Nat.le_of_ble_eq_true rfl, Nat.le_of_ble_eq_true rfl⟩ (Nat.le_of_ble_eq_true rfl) rfl dX5_worthOf_40 (x_ki (fun r8 M7 h => ?_))
          refine x_if_eq C (tgt := 110) dX5_worthOf_43 (by decide) (fun hq9 => ?_) (fun hq9 => ?_)
          · replace h := x_ift hq9 h
            exact tX5_worthOf_110 hg  C ho ih _ _ _  h
          · replace h := x_iff hq9 h
            refine x_iload_n C 1 rfl rfl dX5_worthOf_46 ?_
            refine x_bipush C (v1 := 6) dX5_worthOf_47 (by decide) ?_
            refine x_icmp_ne C (tgt := 56) dX5_worthOf_49 (by decide) (fun hq10 => ?_) (fun hq10 => ?_)
            · replace h := x_iff hq10 h
              refine x_aload_n C 0 rfl rfl dX5_worthOf_56 ?_
              refine x_aload_n C 0 rfl rfl dX5_worthOf_57 ?_
              refine x_get C (c := o) (ci := 5) (k1 := 2) (v1 := .ref (ga g ((o + 2)))) (enC_5 (c := o) ho) (kC_lt ho (by decide)) rfl inX5 (by decide) wf_X5_19 rfl dX5_worthOf_58 ?_
              refine x_iload_n C 3 rfl rfl dX5_worthOf_61 ?_
              obtain ⟨hi11, h⟩ := h
              refine x_iald C 0 (c := (o + 2)) (enC_20n (c := (o + 2)) (n := 16) (krX5_2 ho) (lrX5_2 ho)) (kC_lt (krX5_2 ho) (by decide)) rfl hi11 dX5_worthOf_62 ?_
              refine x_aload_n C 0 rfl rfl dX5_worthOf_63 ?_
              refine x_get C (c := o) (ci := 5) (k1 := 3) (v1 := .ref (ga g ((o + 3)))) (enC_5 (c := o) ho) (kC_lt ho (by decide)) rfl inX5 (by decide) wf_X5_22 rfl dX5_worthOf_64 ?_
              refine x_iload_n C 3 rfl rfl dX5_worthOf_67 ?_
              obtain ⟨hi12, h⟩ := h
              refine x_iald C 0 (c := (o + 3)) (enC_20n (c := (o + 3)) (n := 16) (krX5_3 ho) (lrX5_3 ho)) (kC_lt (krX5_3 ho) (by decide)) rfl hi12 dX5_worthOf_68 ?_
              refine x_aload_n C 2 rfl rfl dX5_worthOf_69 ?_
              refine x_callV C (st := []) (As := [.int (gi M7 ((o + 2)) x3.toNatClampNeg), .int (gi M7 ((o + 3)) x3.toNatClampNeg), .ref (ga g 77)]) (c := o) (ci := 5) (enC_5 (c := o) ho) (kC_lt ho (by decide)) rfl (tX5_reckon hg _ _ _ _ _ _ ho h) wm_X5_47 wi_X5_reckon wv_X5_reckon wz_X5 wc_X5_reckon rfl yd_X5_reckon rfl ⟨rfl, rfl⟩ ⟨Nat.le_of_ble_eq_true rfl, Nat.le_of_ble_eq_true rfl⟩ (Nat.le_of_ble_eq_true rfl) rfl dX5_worthOf_70 (x_ki (fun r14 M13 h => ?_))
              refine x_loc (L' := [(1, .int x1)]) [1] rfl ?_
              exact tX5_worthOf_73 hg  C ho  _ _ _  h
            · replace h := x_ift hq10 h
              refine x_iconst C (v1 := 1) dX5_worthOf_52 (by decide) ?_
              refine x_goto C (tgt := 73) dX5_worthOf_53 (by decide) ?_
              refine x_loc (L' := [(1, .int x1)]) [1] rfl ?_
              exact tX5_worthOf_73 hg  C ho  _ _ _  h
set_option maxHeartbeats 4000000 in
set_option maxRecDepth 100000 in
theorem tX5_worthOf {g : xG} (hg : x_inj (WC g))  (l : Launch) (o : Nat) (a0 : Int32) (M : xMem) (post : Int32 → xMem → Prop) (ho : kC o = 5) (h : wX5_worthOf o a0 M post) : xMet (WC g) l yX5_worthOf cX5_worthOf 6 (some .int) (rm_X5_worthOf) [.ref (ga g o), .int a0, .ref (ga g 77)] M (pI post) := by
  refine x_enter (own := RX5) (L0 := [(0, .ref (ga g o)), (1, .int a0), (2, .ref (ga g 77))]) (by decide +kernel) rfl hg (x_stC g) (Nat.le_of_ble_eq_true rfl) rfl (fun x hl C => ?_)
  unfold wX5_worthOf at h
  refine x_iconst C (v1 := 0) dX5_worthOf_0 (by decide) ?_
  refine x_istore_n C (L' := [(3, .int 0), (0, .ref (ga g o)), (1, .int a0), (2, .ref (ga g 77))]) rfl rfl (Nat.le_of_ble_eq_true rfl) dX5_worthOf_1 ?_
  refine x_loc (L' := [(0, .ref (ga g o)), (1, .int a0), (2, .ref (ga g 77)), (3, .int 0)]) [1, 2, 3, 0] rfl ?_
  obtain ⟨n2, h⟩ := h
  exact tX5_worthOf_2 hg  C ho  _ _ _ _  h
set_option maxHeartbeats 4000000 in
set_option maxRecDepth 100000 in
theorem tX0_ofEnd {g : xG} (hg : x_inj (WC g))  (l : Launch) (o0 : Nat) (o1 : Nat) (a2 : Int32) (a3 : Int32) (M : xMem) (post : Int32 → xMem → Prop) (ho0 : kC o0 = 4) (ho1 : kC o1 = 5) (h : wX0_ofEnd o0 o1 a2 a3 M post) : xMet (WC g) l yX0_ofEnd cX0_ofEnd 5 (some .int) (rm_X0_ofEnd) [.ref (ga g 76), .ref (ga g o0), .ref (ga g o1), .int a2, .int a3] M (pI post) := by
  refine x_enter (own := RX0) (L0 := [(0, .ref (ga g 76)), (1, .ref (ga g o0)), (2, .ref (ga g o1)), (3, .int a2), (4, .int a3)]) (by decide +kernel) rfl hg (x_stC g) (Nat.le_of_ble_eq_true rfl) rfl (fun x hl C => ?_)
  unfold wX0_ofEnd at h
  refine x_aload_n C 0 rfl rfl dX0_ofEnd_0 ?_
  refine x_aload_n C 1 rfl rfl dX0_ofEnd_1 ?_
  refine x_callV C (st := []) (As := [.ref (ga g o0)]) (c := 76) (ci := 0) (enC_0 (c := 76) rfl) (Nat.le_of_ble_eq_true rfl) rfl (tX0_begin hg _ _ _ _ ho0 h) wm_X0_17 wi_X0_begin wv_X0_begin wz_X0 wc_X0_begin rfl yd_X0_begin rfl ⟨rfl, rfl⟩ ⟨Nat.le_of_ble_eq_true rfl, Nat.le_of_ble_eq_true rfl⟩ (Nat.le_of_ble_eq_true rfl) rfl dX0_ofEnd_2 (x_kv (fun M1 h => ?_))
  refine x_aload_n C 0 rfl rfl dX0_ofEnd_5 ?_
  refine x_get C (c := 76) (ci := 0) (k1 := 1) (v1 := .ref (ga g 77)) (enC_0 (c := 76) rfl) (Nat.le_of_ble_eq_true rfl) rfl inX0 (by decide) wf_X0_7 rfl dX0_ofEnd_6 ?_
  refine x_bipush C (v1 := 7) dX0_ofEnd_9 (by decide) ?_
  refine x_iload C 4 rfl dX0_ofEnd_11 ?_
  obtain ⟨hi2, h⟩ := h
  refine x_iast C 0 (c := 77) (enC_20n (c := 77) (n := 12) rfl rfl) (Nat.le_of_ble_eq_true rfl) rfl hi2 dX0_ofEnd_13 ?_
  refine x_nmM (fun M3 eM3 => ?_)
  replace h := h M3 eM3
  refine x_aload_n C 0 rfl rfl dX0_ofEnd_14 ?_
  refine x_get C (c := 76) (ci := 0) (k1 := 1) (v1 := .ref (ga g 77)) (enC_0 (c := 76) rfl) (Nat.le_of_ble_eq_true rfl) rfl inX0 (by decide) wf_X0_7 rfl dX0_ofEnd_15 ?_
  refine x_bipush C (v1 := 8) dX0_ofEnd_18 (by decide) ?_
  refine x_aload_n C 0 rfl rfl dX0_ofEnd_20 ?_
  refine x_get C (c := 76) (ci := 0) (k1 := 0) (v1 := .ref (ga g 41)) (enC_0 (c := 76) rfl) (Nat.le_of_ble_eq_true rfl) rfl inX0 (by decide) wf_X0_13 rfl dX0_ofEnd_21 ?_
  refine x_getN C (c := 41) (ci := 2) (k1 := 2) (v1 := .ref (ga g 43)) (enC_2 (c := 41) rfl) (Nat.le_of_ble_eq_true rfl) rfl inX2 (by decide) wfn_X0_39 rfl dX0_ofEnd_24 ?_
  refine x_iload C 4 rfl dX0_ofEnd_27 ?_
  obtain ⟨hi4, h⟩ := h
  refine x_iald C 0 (c := 43) (enC_20n (c := 43) (n := 10) rfl rfl) (Nat.le_of_ble_eq_true rfl) rfl hi4 dX0_ofEnd_29 ?_
  obtain ⟨hi5, h⟩ := h
  refine x_iast C 0 (c := 77) (enC_20n (c := 77) (n := 12) rfl rfl) (Nat.le_of_ble_eq_true rfl) rfl hi5 dX0_ofEnd_30 ?_
  refine x_nmM (fun M6 eM6 => ?_)
  replace h := h M6 eM6
  refine x_aload_n C 0 rfl rfl dX0_ofEnd_31 ?_
  refine x_get C (c := 76) (ci := 0) (k1 := 1) (v1 := .ref (ga g 77)) (enC_0 (c := 76) rfl) (Nat.le_of_ble_eq_true rfl) rfl inX0 (by decide) wf_X0_7 rfl dX0_ofEnd_32 ?_
  refine x_bipush C (v1 := 9) dX0_ofEnd_35 (by decide) ?_
  refine x_aload_n C 1 rfl rfl dX0_ofEnd_37 ?_
  refine x_getN C (c := o0) (ci := 4) (k1 := 9) (v1 := .ref (ga g ((o0 + 8)))) (enC_4 (c := o0) ho0) (kC_lt ho0 (by decide)) rfl inX4 (by decide) wfn_X0_44 rfl dX0_ofEnd_38 ?_
  refine x_iload C 4 rfl dX0_ofEnd_41 ?_
  obtain ⟨hi7, h⟩ := h
  refine x_iald C 0 (c := (o0 + 8)) (enC_20n (c := (o0 + 8)) (n := 10) (krX4_8 ho0) (lrX4_8 ho0)) (kC_lt (krX4_8 ho0) (by decide)) rfl hi7 dX0_ofEnd_43 ?_
  obtain ⟨hi8, h⟩ := h
  refine x_iast C 0 (c := 77) (enC_20n (c := 77) (n := 12) rfl rfl) (Nat.le_of_ble_eq_true rfl) rfl hi8 dX0_ofEnd_44 ?_
  refine x_nmM (fun M9 eM9 => ?_)
  replace h := h M9 eM9
  refine x_aload_n C 0 rfl rfl dX0_ofEnd_45 ?_
  refine x_get C (c := 76) (ci := 0) (k1 := 1) (v1 := .ref (ga g 77)) (enC_0 (c := 76) rfl) (Nat.le_of_ble_eq_true rfl) rfl inX0 (by decide) wf_X0_7 rfl dX0_ofEnd_46 ?_
  refine x_bipush C (v1 := 10) dX0_ofEnd_49 (by decide) ?_
  refine x_aload_n C 0 rfl rfl dX0_ofEnd_51 ?_
  refine x_get C (c := 76) (ci := 0) (k1 := 0) (v1 := .ref (ga g 41)) (enC_0 (c := 76) rfl) (Nat.le_of_ble_eq_true rfl) rfl inX0 (by decide) wf_X0_13 rfl dX0_ofEnd_52 ?_
  refine x_getN C (c := 41) (ci := 2) (k1 := 1) (v1 := .ref (ga g 42)) (enC_2 (c := 41) rfl) (Nat.le_of_ble_eq_true rfl) rfl inX2 (by decide) wfn_X0_47 rfl dX0_ofEnd_55 ?_
  refine x_iload C 4 rfl dX0_ofEnd_58 ?_
  obtain ⟨hi10, h⟩ := h
  refine x_iald C 0 (c := 42) (enC_20n (c := 42) (n := 10) rfl rfl) (Nat.le_of_ble_eq_true rfl) rfl hi10 dX0_ofEnd_60 ?_
  refine x_callS C (st := [.int 10, .ref (ga g 77)]) (As := [.int (gi M9 42 a3.toNatClampNeg)]) (tJ6_bitCount_0f7a4 hg _ _ _ _  h) wm_X0_50 wsm_J6_bitCount_0f7a4 wz_J6 wc_J6_bitCount_0f7a4 yd_J6_bitCount_0f7a4 rfl ⟨rfl, rfl⟩ ⟨Nat.le_of_ble_eq_true rfl, Nat.le_of_ble_eq_true rfl⟩ (Nat.le_of_ble_eq_true rfl) rfl dX0_ofEnd_61 (x_ki (fun r12 M11 h => ?_))
  obtain ⟨hi13, h⟩ := h
  refine x_iast C 0 (c := 77) (enC_20n (c := 77) (n := 12) rfl rfl) (Nat.le_of_ble_eq_true rfl) rfl hi13 dX0_ofEnd_64 ?_
  refine x_nmM (fun M14 eM14 => ?_)
  replace h := h M14 eM14
  refine x_aload_n C 2 rfl rfl dX0_ofEnd_65 ?_
  refine x_iload_n C 3 rfl rfl dX0_ofEnd_66 ?_
  refine x_aload_n C 0 rfl rfl dX0_ofEnd_67 ?_
  refine x_get C (c := 76) (ci := 0) (k1 := 1) (v1 := .ref (ga g 77)) (enC_0 (c := 76) rfl) (Nat.le_of_ble_eq_true rfl) rfl inX0 (by decide) wf_X0_7 rfl dX0_ofEnd_68 ?_
  refine x_callVN C (st := []) (As := [.int a2, .ref (ga g 77)]) (c := o1) (ci := 5) (enC_5 (c := o1) ho1) (kC_lt ho1 (by decide)) rfl (tX5_worthOf hg _ _ _ _ _ ho1 h) wmn_X0_25 wi_X5_worthOf wv_X5_worthOf wz_X5 wc_X5_worthOf yd_X5_worthOf rfl ⟨rfl, rfl⟩ ⟨Nat.le_of_ble_eq_true rfl, Nat.le_of_ble_eq_true rfl⟩ (Nat.le_of_ble_eq_true rfl) rfl dX0_ofEnd_71 (x_ki (fun r16 M15 h => ?_))
  exact x_iret C dX0_ofEnd_74 ⟨_, rfl, h⟩
set_option maxHeartbeats 4000000 in
set_option maxRecDepth 100000 in
theorem tX4_draw {g : xG} (hg : x_inj (WC g))  (l : Launch) (o : Nat) (M : xMem) (post : Int32 → xMem → Prop) (ho : kC o = 4) (h : wX4_draw o M post) : xMet (WC g) l yX4_draw cX4_draw 1 (some .int) (rm_X4_draw) [.ref (ga g o)] M (pI post) := by
  refine x_enter (own := RX4) (L0 := [(0, .ref (ga g o))]) (by decide +kernel) rfl hg (x_stC g) (Nat.le_of_ble_eq_true rfl) rfl (fun x hl C => ?_)
  unfold wX4_draw at h
  refine x_aload_n C 0 rfl rfl dX4_draw_0 ?_
  refine x_sipush C (v1 := 25173) dX4_draw_1 (by decide) ?_
  refine x_aload_n C 0 rfl rfl dX4_draw_4 ?_
  refine x_get C (c := o) (ci := 4) (k1 := 13) (v1 := .int (gi M o 13)) (enC_4 (c := o) ho) (kC_lt ho (by decide)) rfl inX4 (by decide) wf_X4_52 rfl dX4_draw_5 ?_
  refine x_imul C dX4_draw_8 ?_
  refine x_sipush C (v1 := 13849) dX4_draw_9 (by decide) ?_
  refine x_iadd C dX4_draw_12 ?_
  refine x_ldc C (v1 := 65535) (wco_X4_68) dX4_draw_13 ?_
  refine x_iand C dX4_draw_15 ?_
  refine x_put C (c := o) (ci := 4) (k1 := 13) (u1 := (((25173 * (gi M o 13)) + 13849) &&& 65535)) (v1 := .int (((25173 * (gi M o 13)) + 13849) &&& 65535)) (ty := .int) (enC_4 (c := o) ho) (kC_lt ho (by decide)) rfl inX4 (by decide) (stX4_13 _ _ _) tyX4 tyX4_ok nmX4 wf_X4_52 rfl rfl rfl rfl (Nat.le_of_ble_eq_true rfl) dX4_draw_16 ?_
  refine x_nmM (fun M1 eM1 => ?_)
  replace h := h M1 eM1
  refine x_aload_n C 0 rfl rfl dX4_draw_19 ?_
  refine x_get C (c := o) (ci := 4) (k1 := 13) (v1 := .int (gi M1 o 13)) (enC_4 (c := o) ho) (kC_lt ho (by decide)) rfl inX4 (by decide) wf_X4_52 rfl dX4_draw_20 ?_
  refine x_bipush C (v1 := 10) dX4_draw_23 (by decide) ?_
  obtain ⟨hz2, h⟩ := h
  refine x_irem C hz2 dX4_draw_25 ?_
  exact x_iret C dX4_draw_26 ⟨_, rfl, h⟩
set_option maxHeartbeats 4000000 in
set_option maxRecDepth 100000 in
theorem tX1_buyOne_107 {g : xG} (hg : x_inj (WC g))  {x : xCx}   {post : Int32 → xMem → Prop} (C : xOk (WC g) x cX1_buyOne RX1 7 (some .int) (rm_X1_buyOne) (pI post))   (x1 : Int32) (x5 : Int32) (M : xMem)  (h : wX1_buyOne_107 post x1 x5 M) : xW (WC g) x 7 107 [(0, .ref (ga g 78)), (1, .int x1), (5, .int x5)] [] M := by
  unfold wX1_buyOne_107 at h
  refine x_aload_n C 0 rfl rfl dX1_buyOne_107 ?_
  obtain ⟨hd1, h⟩ := h
  refine x_get C (c := 78) (ci := 1) (k1 := 3) (v1 := .ref (ga g (((gi M 78 3).toNatClampNeg)))) (enC_1 (c := 78) rfl) (Nat.le_of_ble_eq_true rfl) rfl inX1 (by decide) wf_X1_54 rfl dX1_buyOne_108 ?_
  refine x_getN C (c := ((gi M 78 3).toNatClampNeg)) (ci := 4) (k1 := 4) (v1 := .ref (ga g ((((gi M 78 3).toNatClampNeg) + 4)))) (enC_4 (c := ((gi M 78 3).toNatClampNeg)) hd1) (kC_lt hd1 (by decide)) rfl inX4 (by decide) wfn_X1_90 rfl dX1_buyOne_111 ?_
  refine x_iload_n C 1 rfl rfl dX1_buyOne_114 ?_
  obtain ⟨hi2, h⟩ := h
  refine x_iald C 0 (c := (((gi M 78 3).toNatClampNeg) + 4)) (enC_20n (c := (((gi M 78 3).toNatClampNeg) + 4)) (n := 4) (krX4_4 hd1) (lrX4_4 hd1)) (kC_lt (krX4_4 hd1) (by decide)) rfl hi2 dX1_buyOne_115 ?_
  refine x_iload C 2 rfl dX1_buyOne_116 ?_
  refine x_iand C dX1_buyOne_118 ?_
  refine x_nm (fun v3 ev3 => ?_)
  replace h := h v3 ev3
  refine x_istore C (L' := [(6, .int v3), (0, .ref (ga g 78)), (1, .int x1), (5, .int x5)]) rfl (Nat.le_of_ble_eq_true rfl) dX1_buyOne_119 ?_
  refine x_aload_n C 1 rfl rfl dX1_buyOne_121 ?_
  obtain ⟨hd4, h⟩ := h
  refine x_get C (c := 78) (ci := 1) (k1 := 3) (v1 := .ref (ga g (((gi M 78 3).toNatClampNeg)))) (enC_1 (c := 78) rfl) (Nat.le_of_ble_eq_true rfl) rfl inX1 (by decide) wf_X1_54 rfl dX1_buyOne_122 ?_
  refine x_getN C (c := ((gi M 78 3).toNatClampNeg)) (ci := 4) (k1 := 4) (v1 := .ref (ga g ((((gi M 78 3).toNatClampNeg) + 4)))) (enC_4 (c := ((gi M 78 3).toNatClampNeg)) hd4) (kC_lt hd4 (by decide)) rfl inX4 (by decide) wfn_X1_90 rfl dX1_buyOne_125 ?_
  refine x_iload_n C 2 rfl rfl dX1_buyOne_128 ?_
  refine x_dup2 C rfl rfl dX1_buyOne_129 ?_
  obtain ⟨hi5, h⟩ := h
  refine x_iald C 0 (c := (((gi M 78 3).toNatClampNeg) + 4)) (enC_20n (c := (((gi M 78 3).toNatClampNeg) + 4)) (n := 4) (krX4_4 hd4) (lrX4_4 hd4)) (kC_lt (krX4_4 hd4) (by decide)) rfl hi5 dX1_buyOne_130 ?_
  refine x_iload C 3 rfl dX1_buyOne_131 ?_
  refine x_iconst C (v1 := (-1)) dX1_buyOne_133 (by decide) ?_
  refine x_ixor C dX1_buyOne_134 ?_
  refine x_iand C dX1_buyOne_135 ?_
  obtain ⟨hi6, h⟩ := h
  refine x_iast C 0 (c := (((gi M 78 3).toNatClampNeg) + 4)) (enC_20n (c := (((gi M 78 3).toNatClampNeg) + 4)) (n := 4) (krX4_4 hd4) (lrX4_4 hd4)) (kC_lt (krX4_4 hd4) (by decide)) rfl hi6 dX1_buyOne_136 ?_
  refine x_nmM (fun M7 eM7 => ?_)
  replace h := h M7 eM7
  refine x_iload C 0 rfl dX1_buyOne_137 ?_
  exact x_iret C dX1_buyOne_139 ⟨_, rfl, h⟩
set_option maxHeartbeats 4000000 in
set_option maxRecDepth 100000 in
theorem tX1_buyOne {g : xG} (hg : x_inj (WC g))  (l : Launch) (a0 : Int32) (a1 : Int32) (a2 : Int32) (M : xMem) (post : Int32 → xMem → Prop)  (h : wX1_buyOne a0 a1 a2 M post) : xMet (WC g) l yX1_buyOne cX1_buyOne 7 (some .int) (rm_X1_buyOne) [.ref (ga g 78), .int a0, .int a1, .int a2] M (pI post) := by
  refine x_enter (own := RX1) (L0 := [(0, .ref (ga g 78)), (1, .int a0), (2, .int a1), (3, .int a2)]) (by decide +kernel) rfl hg (x_stC g) (Nat.le_of_ble_eq_true rfl) rfl (fun x hl C => ?_)
  unfold wX1_buyOne at h
  refine x_aload_n C 0 rfl rfl dX1_buyOne_0 ?_
  refine x_get C (c := 78) (ci := 1) (k1 := 2) (v1 := .ref (ga g 76)) (enC_1 (c := 78) rfl) (Nat.le_of_ble_eq_true rfl) rfl inX1 (by decide) wf_X1_50 rfl dX1_buyOne_1 ?_
  refine x_aload_n C 0 rfl rfl dX1_buyOne_4 ?_
  obtain ⟨hd1, h⟩ := h
  refine x_get C (c := 78) (ci := 1) (k1 := 3) (v1 := .ref (ga g (((gi M 78 3).toNatClampNeg)))) (enC_1 (c := 78) rfl) (Nat.le_of_ble_eq_true rfl) rfl inX1 (by decide) wf_X1_54 rfl dX1_buyOne_5 ?_
  refine x_aload_n C 0 rfl rfl dX1_buyOne_8 ?_
  obtain ⟨hd2, h⟩ := h
  refine x_get C (c := 78) (ci := 1) (k1 := 4) (v1 := .ref (ga g (((gi M 78 4).toNatClampNeg)))) (enC_1 (c := 78) rfl) (Nat.le_of_ble_eq_true rfl) rfl inX1 (by decide) wf_X1_58 rfl dX1_buyOne_9 ?_
  refine x_iconst C (v1 := 5) dX1_buyOne_12 (by decide) ?_
  refine x_iload_n C 2 rfl rfl dX1_buyOne_13 ?_
  refine x_callVN C (st := []) (As := [.ref (ga g (((gi M 78 3).toNatClampNeg))), .ref (ga g (((gi M 78 4).toNatClampNeg))), .int 5, .int a1]) (c := 76) (ci := 0) (enC_0 (c := 76) rfl) (Nat.le_of_ble_eq_true rfl) rfl (tX0_ofEnd hg _ _ _ _ _ _ _ hd1 hd2 h) wmn_X1_160 wi_X0_ofEnd wv_X0_ofEnd wz_X0 wc_X0_ofEnd yd_X0_ofEnd rfl ⟨rfl, rfl⟩ ⟨Nat.le_of_ble_eq_true rfl, Nat.le_of_ble_eq_true rfl⟩ (Nat.le_of_ble_eq_true rfl) rfl dX1_buyOne_14 (x_ki (fun r4 M3 h => ?_))
  refine x_istore C (L' := [(4, .int r4), (0, .ref (ga g 78)), (1, .int a0), (2, .int a1), (3, .int a2)]) rfl (Nat.le_of_ble_eq_true rfl) dX1_buyOne_17 ?_
  refine x_aload_n C 1 rfl rfl dX1_buyOne_19 ?_
  obtain ⟨hd5, h⟩ := h
  refine x_get C (c := 78) (ci := 1) (k1 := 3) (v1 := .ref (ga g (((gi M3 78 3).toNatClampNeg)))) (enC_1 (c := 78) rfl) (Nat.le_of_ble_eq_true rfl) rfl inX1 (by decide) wf_X1_54 rfl dX1_buyOne_20 ?_
  refine x_getN C (c := ((gi M3 78 3).toNatClampNeg)) (ci := 4) (k1 := 2) (v1 := .ref (ga g ((((gi M3 78 3).toNatClampNeg) + 2)))) (enC_4 (c := ((gi M3 78 3).toNatClampNeg)) hd5) (kC_lt hd5 (by decide)) rfl inX4 (by decide) wfn_X1_86 rfl dX1_buyOne_23 ?_
  refine x_iload_n C 2 rfl rfl dX1_buyOne_26 ?_
  refine x_dup2 C rfl rfl dX1_buyOne_27 ?_
  obtain ⟨hi6, h⟩ := h
  refine x_iald C 0 (c := (((gi M3 78 3).toNatClampNeg) + 2)) (enC_20n (c := (((gi M3 78 3).toNatClampNeg) + 2)) (n := 4) (krX4_2 hd5) (lrX4_2 hd5)) (kC_lt (krX4_2 hd5) (by decide)) rfl hi6 dX1_buyOne_28 ?_
  refine x_iload_n C 4 rfl rfl dX1_buyOne_29 ?_
  refine x_isub C dX1_buyOne_30 ?_
  obtain ⟨hi7, h⟩ := h
  refine x_iast C 0 (c := (((gi M3 78 3).toNatClampNeg) + 2)) (enC_20n (c := (((gi M3 78 3).toNatClampNeg) + 2)) (n := 4) (krX4_2 hd5) (lrX4_2 hd5)) (kC_lt (krX4_2 hd5) (by decide)) rfl hi7 dX1_buyOne_31 ?_
  refine x_nmM (fun M8 eM8 => ?_)
  replace h := h M8 eM8
  refine x_aload_n C 1 rfl rfl dX1_buyOne_32 ?_
  obtain ⟨hd9, h⟩ := h
  refine x_get C (c := 78) (ci := 1) (k1 := 3) (v1 := .ref (ga g (((gi M8 78 3).toNatClampNeg)))) (enC_1 (c := 78) rfl) (Nat.le_of_ble_eq_true rfl) rfl inX1 (by decide) wf_X1_54 rfl dX1_buyOne_33 ?_
  refine x_getN C (c := ((gi M8 78 3).toNatClampNeg)) (ci := 4) (k1 := 9) (v1 := .ref (ga g ((((gi M8 78 3).toNatClampNeg) + 8)))) (enC_4 (c := ((gi M8 78 3).toNatClampNeg)) hd9) (kC_lt hd9 (by decide)) rfl inX4 (by decide) wfn_X1_163 rfl dX1_buyOne_36 ?_
  refine x_iload_n C 3 rfl rfl dX1_buyOne_39 ?_
  refine x_dup2 C rfl rfl dX1_buyOne_40 ?_
  obtain ⟨hi10, h⟩ := h
  refine x_iald C 0 (c := (((gi M8 78 3).toNatClampNeg) + 8)) (enC_20n (c := (((gi M8 78 3).toNatClampNeg) + 8)) (n := 10) (krX4_8 hd9) (lrX4_8 hd9)) (kC_lt (krX4_8 hd9) (by decide)) rfl hi10 dX1_buyOne_41 ?_
  refine x_iconst C (v1 := 1) dX1_buyOne_42 (by decide) ?_
  refine x_isub C dX1_buyOne_43 ?_
  obtain ⟨hi11, h⟩ := h
  refine x_iast C 0 (c := (((gi M8 78 3).toNatClampNeg) + 8)) (enC_20n (c := (((gi M8 78 3).toNatClampNeg) + 8)) (n := 10) (krX4_8 hd9) (lrX4_8 hd9)) (kC_lt (krX4_8 hd9) (by decide)) rfl hi11 dX1_buyOne_44 ?_
  refine x_nmM (fun M12 eM12 => ?_)
  replace h := h M12 eM12
  refine x_aload_n C 1 rfl rfl dX1_buyOne_45 ?_
  refine x_dup C rfl dX1_buyOne_46 ?_
  refine x_get C (c := 78) (ci := 1) (k1 := 6) (v1 := .int (gi M12 78 6)) (enC_1 (c := 78) rfl) (Nat.le_of_ble_eq_true rfl) rfl inX1 (by decide) wf_X1_15 rfl dX1_buyOne_47 ?_
  refine x_iload_n C 4 rfl rfl dX1_buyOne_50 ?_
  refine x_iadd C dX1_buyOne_51 ?_
  refine x_put C (c := 78) (ci := 1) (k1 := 6) (u1 := ((gi M12 78 6) + a2)) (v1 := .int ((gi M12 78 6) + a2)) (ty := .int) (enC_1 (c := 78) rfl) (Nat.le_of_ble_eq_true rfl) rfl inX1 (by decide) (stX1_6 _ _ _) tyX1 tyX1_ok nmX1 wf_X1_15 rfl rfl rfl rfl (Nat.le_of_ble_eq_true rfl) dX1_buyOne_52 ?_
  refine x_nmM (fun M13 eM13 => ?_)
  replace h := h M13 eM13
  refine x_aload_n C 1 rfl rfl dX1_buyOne_55 ?_
  refine x_dup C rfl dX1_buyOne_56 ?_
  refine x_get C (c := 78) (ci := 1) (k1 := 7) (v1 := .int (gi M13 78 7)) (enC_1 (c := 78) rfl) (Nat.le_of_ble_eq_true rfl) rfl inX1 (by decide) wf_X1_18 rfl dX1_buyOne_57 ?_
  refine x_iconst C (v1 := 1) dX1_buyOne_60 (by decide) ?_
  refine x_iadd C dX1_buyOne_61 ?_
  refine x_put C (c := 78) (ci := 1) (k1 := 7) (u1 := ((gi M13 78 7) + 1)) (v1 := .int ((gi M13 78 7) + 1)) (ty := .int) (enC_1 (c := 78) rfl) (Nat.le_of_ble_eq_true rfl) rfl inX1 (by decide) (stX1_7 _ _ _) tyX1 tyX1_ok nmX1 wf_X1_18 rfl rfl rfl rfl (Nat.le_of_ble_eq_true rfl) dX1_buyOne_62 ?_
  refine x_nmM (fun M14 eM14 => ?_)
  replace h := h M14 eM14
  refine x_aload_n C 1 rfl rfl dX1_buyOne_65 ?_
  refine x_get C (c := 78) (ci := 1) (k1 := 1) (v1 := .ref (ga g 41)) (enC_1 (c := 78) rfl) (Nat.le_of_ble_eq_true rfl) rfl inX1 (by decide) wf_X1_46 rfl dX1_buyOne_66 ?_
  refine x_getN C (c := 41) (ci := 2) (k1 := 1) (v1 := .ref (ga g 42)) (enC_2 (c := 41) rfl) (Nat.le_of_ble_eq_true rfl) rfl inX2 (by decide) wfn_X1_166 rfl dX1_buyOne_69 ?_
  refine x_iload_n C 3 rfl rfl dX1_buyOne_72 ?_
  obtain ⟨hi15, h⟩ := h
  refine x_iald C 0 (c := 42) (enC_20n (c := 42) (n := 10) rfl rfl) (Nat.le_of_ble_eq_true rfl) rfl hi15 dX1_buyOne_73 ?_
  refine x_nm (fun v16 ev16 => ?_)
  replace h := h v16 ev16
  refine x_istore C (L' := [(5, .int v16), (4, .int r4), (0, .ref (ga g 78)), (1, .int a0), (2, .int a1), (3, .int a2)]) rfl (Nat.le_of_ble_eq_true rfl) dX1_buyOne_74 ?_
  refine x_aload_n C 2 rfl rfl dX1_buyOne_76 ?_
  obtain ⟨hd17, h⟩ := h
  refine x_get C (c := 78) (ci := 1) (k1 := 3) (v1 := .ref (ga g (((gi M14 78 3).toNatClampNeg)))) (enC_1 (c := 78) rfl) (Nat.le_of_ble_eq_true rfl) rfl inX1 (by decide) wf_X1_54 rfl dX1_buyOne_77 ?_
  refine x_callVN C (st := []) (As := []) (c := ((gi M14 78 3).toNatClampNeg)) (ci := 4) (enC_4 (c := ((gi M14 78 3).toNatClampNeg)) hd17) (kC_lt hd17 (by decide)) rfl (tX4_draw hg _ _ _ _ hd17 h) wmn_X1_169 wi_X4_draw wv_X4_draw wz_X4 wc_X4_draw yd_X4_draw rfl ⟨rfl, rfl⟩ ⟨Nat.le_of_ble_eq_true rfl, Nat.le_of_ble_eq_true rfl⟩ (Nat.le_of_ble_eq_true rfl) rfl dX1_buyOne_80 (x_ki (fun r19 M18 h => ?_))
  refine x_iload C 1 rfl dX1_buyOne_83 ?_
  refine x_icmp_ge C (tgt := 107) dX1_buyOne_85 (by decide) (fun hq20 => ?_) (fun hq20 => ?_)
  · replace h := x_ift hq20 h
    refine x_loc (L' := [(0, .ref (ga g 78)), (1, .int a0), (5, .int v16)]) [2, 3, 0] rfl ?_
    exact tX1_buyOne_107 hg  C   _ _ _  h
  · replace h := x_iff hq20 h
    refine x_iload C 0 rfl dX1_buyOne_88 ?_
    refine x_iload C 0 rfl dX1_buyOne_90 ?_
    refine x_iconst C (v1 := 1) dX1_buyOne_92 (by decide) ?_
    refine x_isub C dX1_buyOne_93 ?_
    refine x_iand C dX1_buyOne_94 ?_
    refine x_nm (fun v21 ev21 => ?_)
    replace h := h v21 ev21
    refine x_istore C (L' := [(5, .int v21), (4, .int r4), (0, .ref (ga g 78)), (1, .int a0), (2, .int a1), (3, .int a2)]) rfl (Nat.le_of_ble_eq_true rfl) dX1_buyOne_95 ?_
    refine x_aload_n C 2 rfl rfl dX1_buyOne_97 ?_
    refine x_dup C rfl dX1_buyOne_98 ?_
    refine x_get C (c := 78) (ci := 1) (k1 := 8) (v1 := .int (gi M18 78 8)) (enC_1 (c := 78) rfl) (Nat.le_of_ble_eq_true rfl) rfl inX1 (by decide) wf_X1_21 rfl dX1_buyOne_99 ?_
    refine x_iconst C (v1 := 1) dX1_buyOne_102 (by decide) ?_
    refine x_iadd C dX1_buyOne_103 ?_
    refine x_put C (c := 78) (ci := 1) (k1 := 8) (u1 := ((gi M18 78 8) + 1)) (v1 := .int ((gi M18 78 8) + 1)) (ty := .int) (enC_1 (c := 78) rfl) (Nat.le_of_ble_eq_true rfl) rfl inX1 (by decide) (stX1_8 _ _ _) tyX1 tyX1_ok nmX1 wf_X1_21 rfl rfl rfl rfl (Nat.le_of_ble_eq_true rfl) dX1_buyOne_104 ?_
    refine x_nmM (fun M22 eM22 => ?_)
    replace h := h M22 eM22
    refine x_loc (L' := [(0, .ref (ga g 78)), (1, .int a0), (5, .int v21)]) [2, 3, 0] rfl ?_
    exact tX1_buyOne_107 hg  C   _ _ _  h
set_option maxHeartbeats 4000000 in
set_option maxRecDepth 100000 in
theorem tX0_putTeller {g : xG} (hg : x_inj (WC g))  (l : Launch) (o0 : Nat) (a1 : Int32) (M : xMem) (post : xMem → Prop) (ho0 : kC o0 = 4) (h : wX0_putTeller o0 a1 M post) : xMet (WC g) l yX0_putTeller cX0_putTeller 3 none (rm_X0_putTeller) [.ref (ga g 76), .ref (ga g o0), .int a1] M (pV post) := by
  refine x_enter (own := RX0) (L0 := [(0, .ref (ga g 76)), (1, .ref (ga g o0)), (2, .int a1)]) (by decide +kernel) rfl hg (x_stC g) (Nat.le_of_ble_eq_true rfl) rfl (fun x hl C => ?_)
  unfold wX0_putTeller at h
  refine x_aload_n C 0 rfl rfl dX0_putTeller_0 ?_
  refine x_get C (c := 76) (ci := 0) (k1 := 1) (v1 := .ref (ga g 77)) (enC_0 (c := 76) rfl) (Nat.le_of_ble_eq_true rfl) rfl inX0 (by decide) wf_X0_7 rfl dX0_putTeller_1 ?_
  refine x_iconst C (v1 := 0) dX0_putTeller_4 (by decide) ?_
  refine x_iload_n C 2 rfl rfl dX0_putTeller_5 ?_
  obtain ⟨hi1, h⟩ := h
  refine x_iast C 0 (c := 77) (enC_20n (c := 77) (n := 12) rfl rfl) (Nat.le_of_ble_eq_true rfl) rfl hi1 dX0_putTeller_6 ?_
  refine x_nmM (fun M2 eM2 => ?_)
  replace h := h M2 eM2
  refine x_aload_n C 0 rfl rfl dX0_putTeller_7 ?_
  refine x_get C (c := 76) (ci := 0) (k1 := 1) (v1 := .ref (ga g 77)) (enC_0 (c := 76) rfl) (Nat.le_of_ble_eq_true rfl) rfl inX0 (by decide) wf_X0_7 rfl dX0_putTeller_8 ?_
  refine x_iconst C (v1 := 1) dX0_putTeller_11 (by decide) ?_
  refine x_aload_n C 1 rfl rfl dX0_putTeller_12 ?_
  refine x_getN C (c := o0) (ci := 4) (k1 := 3) (v1 := .ref (ga g ((o0 + 3)))) (enC_4 (c := o0) ho0) (kC_lt ho0 (by decide)) rfl inX4 (by decide) wfn_X0_66 rfl dX0_putTeller_13 ?_
  refine x_iload_n C 2 rfl rfl dX0_putTeller_16 ?_
  obtain ⟨hi3, h⟩ := h
  refine x_iald C 0 (c := (o0 + 3)) (enC_20n (c := (o0 + 3)) (n := 4) (krX4_3 ho0) (lrX4_3 ho0)) (kC_lt (krX4_3 ho0) (by decide)) rfl hi3 dX0_putTeller_17 ?_
  obtain ⟨hi4, h⟩ := h
  refine x_iast C 0 (c := 77) (enC_20n (c := 77) (n := 12) rfl rfl) (Nat.le_of_ble_eq_true rfl) rfl hi4 dX0_putTeller_18 ?_
  refine x_nmM (fun M5 eM5 => ?_)
  replace h := h M5 eM5
  refine x_aload_n C 0 rfl rfl dX0_putTeller_19 ?_
  refine x_get C (c := 76) (ci := 0) (k1 := 1) (v1 := .ref (ga g 77)) (enC_0 (c := 76) rfl) (Nat.le_of_ble_eq_true rfl) rfl inX0 (by decide) wf_X0_7 rfl dX0_putTeller_20 ?_
  refine x_iconst C (v1 := 2) dX0_putTeller_23 (by decide) ?_
  refine x_aload_n C 1 rfl rfl dX0_putTeller_24 ?_
  refine x_getN C (c := o0) (ci := 4) (k1 := 2) (v1 := .ref (ga g ((o0 + 2)))) (enC_4 (c := o0) ho0) (kC_lt ho0 (by decide)) rfl inX4 (by decide) wfn_X0_69 rfl dX0_putTeller_25 ?_
  refine x_iload_n C 2 rfl rfl dX0_putTeller_28 ?_
  obtain ⟨hi6, h⟩ := h
  refine x_iald C 0 (c := (o0 + 2)) (enC_20n (c := (o0 + 2)) (n := 4) (krX4_2 ho0) (lrX4_2 ho0)) (kC_lt (krX4_2 ho0) (by decide)) rfl hi6 dX0_putTeller_29 ?_
  obtain ⟨hi7, h⟩ := h
  refine x_iast C 0 (c := 77) (enC_20n (c := 77) (n := 12) rfl rfl) (Nat.le_of_ble_eq_true rfl) rfl hi7 dX0_putTeller_30 ?_
  refine x_nmM (fun M8 eM8 => ?_)
  replace h := h M8 eM8
  refine x_aload_n C 0 rfl rfl dX0_putTeller_31 ?_
  refine x_get C (c := 76) (ci := 0) (k1 := 1) (v1 := .ref (ga g 77)) (enC_0 (c := 76) rfl) (Nat.le_of_ble_eq_true rfl) rfl inX0 (by decide) wf_X0_7 rfl dX0_putTeller_32 ?_
  refine x_iconst C (v1 := 3) dX0_putTeller_35 (by decide) ?_
  refine x_aload_n C 1 rfl rfl dX0_putTeller_36 ?_
  refine x_getN C (c := o0) (ci := 4) (k1 := 4) (v1 := .ref (ga g ((o0 + 4)))) (enC_4 (c := o0) ho0) (kC_lt ho0 (by decide)) rfl inX4 (by decide) wfn_X0_72 rfl dX0_putTeller_37 ?_
  refine x_iload_n C 2 rfl rfl dX0_putTeller_40 ?_
  obtain ⟨hi9, h⟩ := h
  refine x_iald C 0 (c := (o0 + 4)) (enC_20n (c := (o0 + 4)) (n := 4) (krX4_4 ho0) (lrX4_4 ho0)) (kC_lt (krX4_4 ho0) (by decide)) rfl hi9 dX0_putTeller_41 ?_
  refine x_callS C (st := [.int 3, .ref (ga g 77)]) (As := [.int (gi M8 ((o0 + 4)) a1.toNatClampNeg)]) (tJ6_bitCount_0f7a4 hg _ _ _ _  h) wm_X0_50 wsm_J6_bitCount_0f7a4 wz_J6 wc_J6_bitCount_0f7a4 yd_J6_bitCount_0f7a4 rfl ⟨rfl, rfl⟩ ⟨Nat.le_of_ble_eq_true rfl, Nat.le_of_ble_eq_true rfl⟩ (Nat.le_of_ble_eq_true rfl) rfl dX0_putTeller_42 (x_ki (fun r11 M10 h => ?_))
  obtain ⟨hi12, h⟩ := h
  refine x_iast C 0 (c := 77) (enC_20n (c := 77) (n := 12) rfl rfl) (Nat.le_of_ble_eq_true rfl) rfl hi12 dX0_putTeller_45 ?_
  refine x_nmM (fun M13 eM13 => ?_)
  replace h := h M13 eM13
  exact x_vret C dX0_putTeller_46 ⟨rfl, h⟩
set_option maxHeartbeats 4000000 in
set_option maxRecDepth 100000 in
theorem tX0_ofListener {g : xG} (hg : x_inj (WC g))  (l : Launch) (o0 : Nat) (o1 : Nat) (a2 : Int32) (a3 : Int32) (a4 : Int32) (M : xMem) (post : Int32 → xMem → Prop) (ho0 : kC o0 = 4) (ho1 : kC o1 = 5) (h : wX0_ofListener o0 o1 a2 a3 a4 M post) : xMet (WC g) l yX0_ofListener cX0_ofListener 6 (some .int) (rm_X0_ofListener) [.ref (ga g 76), .ref (ga g o0), .ref (ga g o1), .int a2, .int a3, .int a4] M (pI post) := by
  refine x_enter (own := RX0) (L0 := [(0, .ref (ga g 76)), (1, .ref (ga g o0)), (2, .ref (ga g o1)), (3, .int a2), (4, .int a3), (5, .int a4)]) (by decide +kernel) rfl hg (x_stC g) (Nat.le_of_ble_eq_true rfl) rfl (fun x hl C => ?_)
  unfold wX0_ofListener at h
  refine x_aload_n C 0 rfl rfl dX0_ofListener_0 ?_
  refine x_aload_n C 1 rfl rfl dX0_ofListener_1 ?_
  refine x_callV C (st := []) (As := [.ref (ga g o0)]) (c := 76) (ci := 0) (enC_0 (c := 76) rfl) (Nat.le_of_ble_eq_true rfl) rfl (tX0_begin hg _ _ _ _ ho0 h) wm_X0_17 wi_X0_begin wv_X0_begin wz_X0 wc_X0_begin rfl yd_X0_begin rfl ⟨rfl, rfl⟩ ⟨Nat.le_of_ble_eq_true rfl, Nat.le_of_ble_eq_true rfl⟩ (Nat.le_of_ble_eq_true rfl) rfl dX0_ofListener_2 (x_kv (fun M1 h => ?_))
  refine x_aload_n C 0 rfl rfl dX0_ofListener_5 ?_
  refine x_aload_n C 1 rfl rfl dX0_ofListener_6 ?_
  refine x_iload C 4 rfl dX0_ofListener_7 ?_
  refine x_callV C (st := []) (As := [.ref (ga g o0), .int a3]) (c := 76) (ci := 0) (enC_0 (c := 76) rfl) (Nat.le_of_ble_eq_true rfl) rfl (tX0_putTeller hg _ _ _ _ _ ho0 h) wm_X0_21 wi_X0_putTeller wv_X0_putTeller wz_X0 wc_X0_putTeller rfl yd_X0_putTeller rfl ⟨rfl, rfl⟩ ⟨Nat.le_of_ble_eq_true rfl, Nat.le_of_ble_eq_true rfl⟩ (Nat.le_of_ble_eq_true rfl) rfl dX0_ofListener_9 (x_kv (fun M2 h => ?_))
  refine x_aload_n C 0 rfl rfl dX0_ofListener_12 ?_
  refine x_get C (c := 76) (ci := 0) (k1 := 1) (v1 := .ref (ga g 77)) (enC_0 (c := 76) rfl) (Nat.le_of_ble_eq_true rfl) rfl inX0 (by decide) wf_X0_7 rfl dX0_ofListener_13 ?_
  refine x_iconst C (v1 := 4) dX0_ofListener_16 (by decide) ?_
  refine x_iload C 5 rfl dX0_ofListener_17 ?_
  obtain ⟨hi3, h⟩ := h
  refine x_iast C 0 (c := 77) (enC_20n (c := 77) (n := 12) rfl rfl) (Nat.le_of_ble_eq_true rfl) rfl hi3 dX0_ofListener_19 ?_
  refine x_nmM (fun M4 eM4 => ?_)
  replace h := h M4 eM4
  refine x_aload_n C 0 rfl rfl dX0_ofListener_20 ?_
  refine x_get C (c := 76) (ci := 0) (k1 := 1) (v1 := .ref (ga g 77)) (enC_0 (c := 76) rfl) (Nat.le_of_ble_eq_true rfl) rfl inX0 (by decide) wf_X0_7 rfl dX0_ofListener_21 ?_
  refine x_iconst C (v1 := 5) dX0_ofListener_24 (by decide) ?_
  refine x_aload_n C 1 rfl rfl dX0_ofListener_25 ?_
  refine x_getN C (c := o0) (ci := 4) (k1 := 7) (v1 := .ref (ga g ((o0 + 6)))) (enC_4 (c := o0) ho0) (kC_lt ho0 (by decide)) rfl inX4 (by decide) wfn_X0_31 rfl dX0_ofListener_26 ?_
  refine x_iload C 5 rfl dX0_ofListener_29 ?_
  obtain ⟨hi5, h⟩ := h
  refine x_iald C 0 (c := (o0 + 6)) (enC_20n (c := (o0 + 6)) (n := 10) (krX4_6 ho0) (lrX4_6 ho0)) (kC_lt (krX4_6 ho0) (by decide)) rfl hi5 dX0_ofListener_31 ?_
  obtain ⟨hi6, h⟩ := h
  refine x_iast C 0 (c := 77) (enC_20n (c := 77) (n := 12) rfl rfl) (Nat.le_of_ble_eq_true rfl) rfl hi6 dX0_ofListener_32 ?_
  refine x_nmM (fun M7 eM7 => ?_)
  replace h := h M7 eM7
  refine x_aload_n C 0 rfl rfl dX0_ofListener_33 ?_
  refine x_get C (c := 76) (ci := 0) (k1 := 1) (v1 := .ref (ga g 77)) (enC_0 (c := 76) rfl) (Nat.le_of_ble_eq_true rfl) rfl inX0 (by decide) wf_X0_7 rfl dX0_ofListener_34 ?_
  refine x_bipush C (v1 := 6) dX0_ofListener_37 (by decide) ?_
  refine x_aload_n C 1 rfl rfl dX0_ofListener_39 ?_
  refine x_getN C (c := o0) (ci := 4) (k1 := 8) (v1 := .ref (ga g ((o0 + 7)))) (enC_4 (c := o0) ho0) (kC_lt ho0 (by decide)) rfl inX4 (by decide) wfn_X0_36 rfl dX0_ofListener_40 ?_
  refine x_iload C 5 rfl dX0_ofListener_43 ?_
  obtain ⟨hi8, h⟩ := h
  refine x_iald C 0 (c := (o0 + 7)) (enC_20n (c := (o0 + 7)) (n := 10) (krX4_7 ho0) (lrX4_7 ho0)) (kC_lt (krX4_7 ho0) (by decide)) rfl hi8 dX0_ofListener_45 ?_
  obtain ⟨hi9, h⟩ := h
  refine x_iast C 0 (c := 77) (enC_20n (c := 77) (n := 12) rfl rfl) (Nat.le_of_ble_eq_true rfl) rfl hi9 dX0_ofListener_46 ?_
  refine x_nmM (fun M10 eM10 => ?_)
  replace h := h M10 eM10
  refine x_aload_n C 2 rfl rfl dX0_ofListener_47 ?_
  refine x_iload_n C 3 rfl rfl dX0_ofListener_48 ?_
  refine x_aload_n C 0 rfl rfl dX0_ofListener_49 ?_
  refine x_get C (c := 76) (ci := 0) (k1 := 1) (v1 := .ref (ga g 77)) (enC_0 (c := 76) rfl) (Nat.le_of_ble_eq_true rfl) rfl inX0 (by decide) wf_X0_7 rfl dX0_ofListener_50 ?_
  refine x_callVN C (st := []) (As := [.int a2, .ref (ga g 77)]) (c := o1) (ci := 5) (enC_5 (c := o1) ho1) (kC_lt ho1 (by decide)) rfl (tX5_worthOf hg _ _ _ _ _ ho1 h) wmn_X0_25 wi_X5_worthOf wv_X5_worthOf wz_X5 wc_X5_worthOf yd_X5_worthOf rfl ⟨rfl, rfl⟩ ⟨Nat.le_of_ble_eq_true rfl, Nat.le_of_ble_eq_true rfl⟩ (Nat.le_of_ble_eq_true rfl) rfl dX0_ofListener_53 (x_ki (fun r12 M11 h => ?_))
  exact x_iret C dX0_ofListener_56 ⟨_, rfl, h⟩
set_option maxHeartbeats 4000000 in
set_option maxRecDepth 100000 in
theorem tX4_isBound {g : xG} (hg : x_inj (WC g))  (l : Launch) (o : Nat) (a0 : Int32) (a1 : Int32) (M : xMem) (post : Int32 → xMem → Prop) (ho : kC o = 4) (h : wX4_isBound o a0 a1 M post) : xMet (WC g) l yX4_isBound cX4_isBound 3 (some .boolean) (rm_X4_isBound) [.ref (ga g o), .int a0, .int a1] M (pI post) := by
  refine x_enter (own := RX4) (L0 := [(0, .ref (ga g o)), (1, .int a0), (2, .int a1)]) (by decide +kernel) rfl hg (x_stC g) (Nat.le_of_ble_eq_true rfl) rfl (fun x hl C => ?_)
  unfold wX4_isBound at h
  refine x_aload_n C 0 rfl rfl dX4_isBound_0 ?_
  refine x_get C (c := o) (ci := 4) (k1 := 5) (v1 := .int (gi M o 5)) (enC_4 (c := o) ho) (kC_lt ho (by decide)) rfl inX4 (by decide) wf_X4_28 rfl dX4_isBound_1 ?_
  refine x_iload_n C 1 rfl rfl dX4_isBound_4 ?_
  refine x_callSN C (st := []) (As := [.int (gi M o 5), .int a0]) (tX11_has hg _ _ _ _ _  h) wmn_X4_61 wsm_X11_has wz_X11 wc_X11_has yd_X11_has rfl ⟨rfl, rfl⟩ ⟨Nat.le_of_ble_eq_true rfl, Nat.le_of_ble_eq_true rfl⟩ (Nat.le_of_ble_eq_true rfl) rfl dX4_isBound_5 (x_ki (fun r2 M1 h => ?_))
  refine x_if_eq C (tgt := 25) dX4_isBound_8 (by decide) (fun hq3 => ?_) (fun hq3 => ?_)
  · replace h := x_ift hq3 h
    refine x_iconst C (v1 := 0) dX4_isBound_25 (by decide) ?_
    exact x_zret C rfl dX4_isBound_26 ⟨_, rfl, h⟩
  · replace h := x_iff hq3 h
    refine x_aload_n C 0 rfl rfl dX4_isBound_11 ?_
    refine x_get C (c := o) (ci := 4) (k1 := 6) (v1 := .ref (ga g ((o + 5)))) (enC_4 (c := o) ho) (kC_lt ho (by decide)) rfl inX4 (by decide) wf_X4_31 rfl dX4_isBound_12 ?_
    refine x_iload_n C 1 rfl rfl dX4_isBound_15 ?_
    obtain ⟨hi4, h⟩ := h
    refine x_iald C 0 (c := (o + 5)) (enC_20n (c := (o + 5)) (n := 10) (krX4_5 ho) (lrX4_5 ho)) (kC_lt (krX4_5 ho) (by decide)) rfl hi4 dX4_isBound_16 ?_
    refine x_iload_n C 2 rfl rfl dX4_isBound_17 ?_
    refine x_icmp_ne C (tgt := 25) dX4_isBound_18 (by decide) (fun hq5 => ?_) (fun hq5 => ?_)
    · replace h := x_iff hq5 h
      refine x_iconst C (v1 := 0) dX4_isBound_25 (by decide) ?_
      exact x_zret C rfl dX4_isBound_26 ⟨_, rfl, h⟩
    · replace h := x_ift hq5 h
      refine x_iconst C (v1 := 1) dX4_isBound_21 (by decide) ?_
      refine x_goto C (tgt := 26) dX4_isBound_22 (by decide) ?_
      exact x_zret C rfl dX4_isBound_26 ⟨_, rfl, h⟩
set_option maxHeartbeats 4000000 in
set_option maxRecDepth 100000 in
theorem tX1_collect_87 {g : xG} (hg : x_inj (WC g))  {x : xCx}  {K2 : Int32 → Int32 → xMem → Prop} {post : xMem → Prop} (C : xOk (WC g) x cX1_collect RX1 5 none (rm_X1_collect) (pV post))  (hK2 : ∀ (x1 : Int32) (x2 : Int32) (M : xMem), K2 x1 x2 M → xW (WC g) x 5 2 [(0, .ref (ga g 78)), (1, .int x1), (2, .int x2)] [] M) (x1 : Int32) (x2 : Int32) (M : xMem)  (h : wX1_collect_87 K2 post x1 x2 M) : xW (WC g) x 5 87 [(0, .ref (ga g 78)), (1, .int x1), (2, .int x2)] [] M := by
  unfold wX1_collect_87 at h
  obtain ⟨v1, ev1⟩ : ∃ z : Int32, z = x2 + 1 := ⟨_, rfl⟩
  replace h := h v1 ev1
  refine x_iinc C 2 (v1 := v1) (L' := [(2, .int v1), (0, .ref (ga g 78)), (1, .int x1)]) rfl (by rw [ev1]; rfl) rfl (Nat.le_of_ble_eq_true rfl) dX1_collect_87 ?_
  refine x_goto C (tgt := 2) dX1_collect_90 (by decide) ?_
  refine x_loc (L' := [(0, .ref (ga g 78)), (1, .int x1), (2, .int v1)]) [1, 2, 0] rfl ?_
  exact hK2 _ _ _  h
set_option maxHeartbeats 4000000 in
set_option maxRecDepth 100000 in
theorem tX1_collect_2 {g : xG} (hg : x_inj (WC g))  {x : xCx}   {post : xMem → Prop} (C : xOk (WC g) x cX1_collect RX1 5 none (rm_X1_collect) (pV post))   : ∀ (n : Nat) (x1 : Int32) (x2 : Int32) (M : xMem), wX1_collect_2 post n x1 x2 M → xW (WC g) x 5 2 [(0, .ref (ga g 78)), (1, .int x1), (2, .int x2)] [] M := by
  intro n
  induction n with
  | zero =>
    intro x1 x2 M  h
    exact h.elim
  | succ n ih =>
    intro x1 x2 M  h
    rw [wX1_collect_2] at h
    refine x_iload_n C 2 rfl rfl dX1_collect_2 ?_
    refine x_bipush C (v1 := 10) dX1_collect_3 (by decide) ?_
    refine x_icmp_ge C (tgt := 93) dX1_collect_5 (by decide) (fun hq1 => ?_) (fun hq1 => ?_)
    · replace h := x_ift hq1 h
      refine x_aload_n C 0 rfl rfl dX1_collect_93 ?_
      obtain ⟨hd2, h⟩ := h
      refine x_get C (c := 78) (ci := 1) (k1 := 3) (v1 := .ref (ga g (((gi M 78 3).toNatClampNeg)))) (enC_1 (c := 78) rfl) (Nat.le_of_ble_eq_true rfl) rfl inX1 (by decide) wf_X1_54 rfl dX1_collect_94 ?_
      refine x_dup C rfl dX1_collect_97 ?_
      refine x_getN C (c := ((gi M 78 3).toNatClampNeg)) (ci := 4) (k1 := 12) (v1 := .int (gi M (((gi M 78 3).toNatClampNeg)) 12)) (enC_4 (c := ((gi M 78 3).toNatClampNeg)) hd2) (kC_lt hd2 (by decide)) rfl inX4 (by decide) wfn_X1_187 rfl dX1_collect_98 ?_
      refine x_iconst C (v1 := 1) dX1_collect_101 (by decide) ?_
      refine x_iadd C dX1_collect_102 ?_
      refine x_putN C (c := ((gi M 78 3).toNatClampNeg)) (ci := 4) (k1 := 12) (u1 := ((gi M (((gi M 78 3).toNatClampNeg)) 12) + 1)) (v1 := .int ((gi M (((gi M 78 3).toNatClampNeg)) 12) + 1)) (ty := .int) (enC_4 (c := ((gi M 78 3).toNatClampNeg)) hd2) (kC_lt hd2 (by decide)) rfl inX4 (by decide) (stX4_12 _ _ _) tyX4 tyX4_ok nmX4 wfn_X1_187 rfl rfl rfl rfl (Nat.le_of_ble_eq_true rfl) dX1_collect_103 ?_
      refine x_nmM (fun M3 eM3 => ?_)
      replace h := h M3 eM3
      refine x_aload_n C 0 rfl rfl dX1_collect_106 ?_
      refine x_dup C rfl dX1_collect_107 ?_
      refine x_get C (c := 78) (ci := 1) (k1 := 11) (v1 := .int (gi M3 78 11)) (enC_1 (c := 78) rfl) (Nat.le_of_ble_eq_true rfl) rfl inX1 (by decide) wf_X1_30 rfl dX1_collect_108 ?_
      refine x_iconst C (v1 := 1) dX1_collect_111 (by decide) ?_
      refine x_iadd C dX1_collect_112 ?_
      refine x_put C (c := 78) (ci := 1) (k1 := 11) (u1 := ((gi M3 78 11) + 1)) (v1 := .int ((gi M3 78 11) + 1)) (ty := .int) (enC_1 (c := 78) rfl) (Nat.le_of_ble_eq_true rfl) rfl inX1 (by decide) (stX1_11 _ _ _) tyX1 tyX1_ok nmX1 wf_X1_30 rfl rfl rfl rfl (Nat.le_of_ble_eq_true rfl) dX1_collect_113 ?_
      refine x_nmM (fun M4 eM4 => ?_)
      replace h := h M4 eM4
      refine x_aload_n C 0 rfl rfl dX1_collect_116 ?_
      obtain ⟨hd5, h⟩ := h
      refine x_get C (c := 78) (ci := 1) (k1 := 3) (v1 := .ref (ga g (((gi M4 78 3).toNatClampNeg)))) (enC_1 (c := 78) rfl) (Nat.le_of_ble_eq_true rfl) rfl inX1 (by decide) wf_X1_54 rfl dX1_collect_117 ?_
      refine x_getN C (c := ((gi M4 78 3).toNatClampNeg)) (ci := 4) (k1 := 3) (v1 := .ref (ga g ((((gi M4 78 3).toNatClampNeg) + 3)))) (enC_4 (c := ((gi M4 78 3).toNatClampNeg)) hd5) (kC_lt hd5 (by decide)) rfl inX4 (by decide) wfn_X1_104 rfl dX1_collect_120 ?_
      refine x_iload_n C 1 rfl rfl dX1_collect_123 ?_
      refine x_iconst C (v1 := 0) dX1_collect_124 (by decide) ?_
      obtain ⟨hi6, h⟩ := h
      refine x_iast C 0 (c := (((gi M4 78 3).toNatClampNeg) + 3)) (enC_20n (c := (((gi M4 78 3).toNatClampNeg) + 3)) (n := 4) (krX4_3 hd5) (lrX4_3 hd5)) (kC_lt (krX4_3 hd5) (by decide)) rfl hi6 dX1_collect_125 ?_
      refine x_nmM (fun M7 eM7 => ?_)
      replace h := h M7 eM7
      exact x_vret C dX1_collect_126 ⟨rfl, h⟩
    · replace h := x_iff hq1 h
      refine x_aload_n C 0 rfl rfl dX1_collect_8 ?_
      obtain ⟨hd8, h⟩ := h
      refine x_get C (c := 78) (ci := 1) (k1 := 3) (v1 := .ref (ga g (((gi M 78 3).toNatClampNeg)))) (enC_1 (c := 78) rfl) (Nat.le_of_ble_eq_true rfl) rfl inX1 (by decide) wf_X1_54 rfl dX1_collect_9 ?_
      refine x_iload_n C 2 rfl rfl dX1_collect_12 ?_
      refine x_iload_n C 1 rfl rfl dX1_collect_13 ?_
      refine x_callVN C (st := []) (As := [.int x2, .int x1]) (c := ((gi M 78 3).toNatClampNeg)) (ci := 4) (enC_4 (c := ((gi M 78 3).toNatClampNeg)) hd8) (kC_lt hd8 (by decide)) rfl (tX4_isBound hg _ _ _ _ _ _ hd8 h) wmn_X1_131 wi_X4_isBound wv_X4_isBound wz_X4 wc_X4_isBound yd_X4_isBound rfl ⟨rfl, rfl⟩ ⟨Nat.le_of_ble_eq_true rfl, Nat.le_of_ble_eq_true rfl⟩ (Nat.le_of_ble_eq_true rfl) rfl dX1_collect_14 (x_ki (fun r10 M9 h => ?_))
      refine x_if_eq C (tgt := 87) dX1_collect_17 (by decide) (fun hq11 => ?_) (fun hq11 => ?_)
      · replace h := x_ift hq11 h
        exact tX1_collect_87 hg  C  ih _ _ _  h
      · replace h := x_iff hq11 h
        refine x_aload_n C 0 rfl rfl dX1_collect_20 ?_
        refine x_get C (c := 78) (ci := 1) (k1 := 2) (v1 := .ref (ga g 76)) (enC_1 (c := 78) rfl) (Nat.le_of_ble_eq_true rfl) rfl inX1 (by decide) wf_X1_50 rfl dX1_collect_21 ?_
        refine x_aload_n C 0 rfl rfl dX1_collect_24 ?_
        obtain ⟨hd12, h⟩ := h
        refine x_get C (c := 78) (ci := 1) (k1 := 3) (v1 := .ref (ga g (((gi M9 78 3).toNatClampNeg)))) (enC_1 (c := 78) rfl) (Nat.le_of_ble_eq_true rfl) rfl inX1 (by decide) wf_X1_54 rfl dX1_collect_25 ?_
        refine x_aload_n C 0 rfl rfl dX1_collect_28 ?_
        obtain ⟨hd13, h⟩ := h
        refine x_get C (c := 78) (ci := 1) (k1 := 4) (v1 := .ref (ga g (((gi M9 78 4).toNatClampNeg)))) (enC_1 (c := 78) rfl) (Nat.le_of_ble_eq_true rfl) rfl inX1 (by decide) wf_X1_58 rfl dX1_collect_29 ?_
        refine x_iconst C (v1 := 4) dX1_collect_32 (by decide) ?_
        refine x_iload_n C 1 rfl rfl dX1_collect_33 ?_
        refine x_iload_n C 2 rfl rfl dX1_collect_34 ?_
        refine x_callVN C (st := []) (As := [.ref (ga g (((gi M9 78 3).toNatClampNeg))), .ref (ga g (((gi M9 78 4).toNatClampNeg))), .int 4, .int x1, .int x2]) (c := 76) (ci := 0) (enC_0 (c := 76) rfl) (Nat.le_of_ble_eq_true rfl) rfl (tX0_ofListener hg _ _ _ _ _ _ _ _ hd12 hd13 h) wmn_X1_173 wi_X0_ofListener wv_X0_ofListener wz_X0 wc_X0_ofListener yd_X0_ofListener rfl ⟨rfl, rfl⟩ ⟨Nat.le_of_ble_eq_true rfl, Nat.le_of_ble_eq_true rfl⟩ (Nat.le_of_ble_eq_true rfl) rfl dX1_collect_35 (x_ki (fun r15 M14 h => ?_))
        refine x_istore_n C (L' := [(3, .int r15), (0, .ref (ga g 78)), (1, .int x1), (2, .int x2)]) rfl rfl (Nat.le_of_ble_eq_true rfl) dX1_collect_38 ?_
        refine x_sipush C (v1 := 9999) dX1_collect_39 (by decide) ?_
        refine x_aload_n C 1 rfl rfl dX1_collect_42 ?_
        obtain ⟨hd16, h⟩ := h
        refine x_get C (c := 78) (ci := 1) (k1 := 3) (v1 := .ref (ga g (((gi M14 78 3).toNatClampNeg)))) (enC_1 (c := 78) rfl) (Nat.le_of_ble_eq_true rfl) rfl inX1 (by decide) wf_X1_54 rfl dX1_collect_43 ?_
        refine x_getN C (c := ((gi M14 78 3).toNatClampNeg)) (ci := 4) (k1 := 2) (v1 := .ref (ga g ((((gi M14 78 3).toNatClampNeg) + 2)))) (enC_4 (c := ((gi M14 78 3).toNatClampNeg)) hd16) (kC_lt hd16 (by decide)) rfl inX4 (by decide) wfn_X1_86 rfl dX1_collect_46 ?_
        refine x_iload_n C 2 rfl rfl dX1_collect_49 ?_
        obtain ⟨hi17, h⟩ := h
        refine x_iald C 0 (c := (((gi M14 78 3).toNatClampNeg) + 2)) (enC_20n (c := (((gi M14 78 3).toNatClampNeg) + 2)) (n := 4) (krX4_2 hd16) (lrX4_2 hd16)) (kC_lt (krX4_2 hd16) (by decide)) rfl hi17 dX1_collect_50 ?_
        refine x_isub C dX1_collect_51 ?_
        refine x_nm (fun v18 ev18 => ?_)
        replace h := h v18 ev18
        refine x_istore C (L' := [(4, .int v18), (3, .int r15), (0, .ref (ga g 78)), (1, .int x1), (2, .int x2)]) rfl (Nat.le_of_ble_eq_true rfl) dX1_collect_52 ?_
        refine x_aload_n C 2 rfl rfl dX1_collect_54 ?_
        obtain ⟨hd19, h⟩ := h
        refine x_get C (c := 78) (ci := 1) (k1 := 3) (v1 := .ref (ga g (((gi M14 78 3).toNatClampNeg)))) (enC_1 (c := 78) rfl) (Nat.le_of_ble_eq_true rfl) rfl inX1 (by decide) wf_X1_54 rfl dX1_collect_55 ?_
        refine x_getN C (c := ((gi M14 78 3).toNatClampNeg)) (ci := 4) (k1 := 2) (v1 := .ref (ga g ((((gi M14 78 3).toNatClampNeg) + 2)))) (enC_4 (c := ((gi M14 78 3).toNatClampNeg)) hd19) (kC_lt hd19 (by decide)) rfl inX4 (by decide) wfn_X1_86 rfl dX1_collect_58 ?_
        refine x_iload_n C 3 rfl rfl dX1_collect_61 ?_
        refine x_dup2 C rfl rfl dX1_collect_62 ?_
        obtain ⟨hi20, h⟩ := h
        refine x_iald C 0 (c := (((gi M14 78 3).toNatClampNeg) + 2)) (enC_20n (c := (((gi M14 78 3).toNatClampNeg) + 2)) (n := 4) (krX4_2 hd19) (lrX4_2 hd19)) (kC_lt (krX4_2 hd19) (by decide)) rfl hi20 dX1_collect_63 ?_
        refine x_iload_n C 1 rfl rfl dX1_collect_64 ?_
        refine x_iload C 0 rfl dX1_collect_65 ?_
        refine x_callS C (st := [.int (gi M14 ((((gi M14 78 3).toNatClampNeg) + 2)) x1.toNatClampNeg), .int x1, .ref (ga g ((((gi M14 78 3).toNatClampNeg) + 2)))]) (As := [.int r15, .int v18]) (tJ9_min_7cf53 hg _ _ _ _ _  h) wm_X1_151 wsm_J9_min_7cf53 wz_J9 wc_J9_min_7cf53 yd_J9_min_7cf53 rfl ⟨rfl, rfl⟩ ⟨Nat.le_of_ble_eq_true rfl, Nat.le_of_ble_eq_true rfl⟩ (Nat.le_of_ble_eq_true rfl) rfl dX1_collect_67 (x_ki (fun r22 M21 h => ?_))
        refine x_iadd C dX1_collect_70 ?_
        obtain ⟨hi23, h⟩ := h
        refine x_iast C 0 (c := (((gi M14 78 3).toNatClampNeg) + 2)) (enC_20n (c := (((gi M14 78 3).toNatClampNeg) + 2)) (n := 4) (krX4_2 hd19) (lrX4_2 hd19)) (kC_lt (krX4_2 hd19) (by decide)) rfl hi23 dX1_collect_71 ?_
        refine x_nmM (fun M24 eM24 => ?_)
        replace h := h M24 eM24
        refine x_aload_n C 2 rfl rfl dX1_collect_72 ?_
        refine x_dup C rfl dX1_collect_73 ?_
        refine x_get C (c := 78) (ci := 1) (k1 := 12) (v1 := .int (gi M24 78 12)) (enC_1 (c := 78) rfl) (Nat.le_of_ble_eq_true rfl) rfl inX1 (by decide) wf_X1_33 rfl dX1_collect_74 ?_
        refine x_iload_n C 1 rfl rfl dX1_collect_77 ?_
        refine x_iload C 0 rfl dX1_collect_78 ?_
        refine x_callS C (st := [.int (gi M24 78 12), .ref (ga g 78)]) (As := [.int r15, .int v18]) (tJ9_min_7cf53 hg _ _ _ _ _  h) wm_X1_151 wsm_J9_min_7cf53 wz_J9 wc_J9_min_7cf53 yd_J9_min_7cf53 rfl ⟨rfl, rfl⟩ ⟨Nat.le_of_ble_eq_true rfl, Nat.le_of_ble_eq_true rfl⟩ (Nat.le_of_ble_eq_true rfl) rfl dX1_collect_80 (x_ki (fun r26 M25 h => ?_))
        refine x_iadd C dX1_collect_83 ?_
        refine x_put C (c := 78) (ci := 1) (k1 := 12) (u1 := ((gi M24 78 12) + r26)) (v1 := .int ((gi M24 78 12) + r26)) (ty := .int) (enC_1 (c := 78) rfl) (Nat.le_of_ble_eq_true rfl) rfl inX1 (by decide) (stX1_12 _ _ _) tyX1 tyX1_ok nmX1 wf_X1_33 rfl rfl rfl rfl (Nat.le_of_ble_eq_true rfl) dX1_collect_84 ?_
        refine x_nmM (fun M27 eM27 => ?_)
        replace h := h M27 eM27
        refine x_loc (L' := [(0, .ref (ga g 78)), (1, .int x1), (2, .int x2)]) [2, 3, 4] rfl ?_
        exact tX1_collect_87 hg  C  ih _ _ _  h
set_option maxHeartbeats 4000000 in
set_option maxRecDepth 100000 in
theorem tX1_collect {g : xG} (hg : x_inj (WC g))  (l : Launch) (a0 : Int32) (M : xMem) (post : xMem → Prop)  (h : wX1_collect a0 M post) : xMet (WC g) l yX1_collect cX1_collect 5 none (rm_X1_collect) [.ref (ga g 78), .int a0] M (pV post) := by
  refine x_enter (own := RX1) (L0 := [(0, .ref (ga g 78)), (1, .int a0)]) (by decide +kernel) rfl hg (x_stC g) (Nat.le_of_ble_eq_true rfl) rfl (fun x hl C => ?_)
  unfold wX1_collect at h
  refine x_iconst C (v1 := 0) dX1_collect_0 (by decide) ?_
  refine x_istore_n C (L' := [(2, .int 0), (0, .ref (ga g 78)), (1, .int a0)]) rfl rfl (Nat.le_of_ble_eq_true rfl) dX1_collect_1 ?_
  refine x_loc (L' := [(0, .ref (ga g 78)), (1, .int a0), (2, .int 0)]) [1, 2, 0] rfl ?_
  obtain ⟨n2, h⟩ := h
  exact tX1_collect_2 hg  C   _ _ _ _  h
set_option maxHeartbeats 4000000 in
set_option maxRecDepth 100000 in
theorem tX1_tire {g : xG} (hg : x_inj (WC g))  (l : Launch) (a0 : Int32) (a1 : Int32) (M : xMem) (post : xMem → Prop)  (h : wX1_tire a0 a1 M post) : xMet (WC g) l yX1_tire cX1_tire 4 none (rm_X1_tire) [.ref (ga g 78), .int a0, .int a1] M (pV post) := by
  refine x_enter (own := RX1) (L0 := [(0, .ref (ga g 78)), (1, .int a0), (2, .int a1)]) (by decide +kernel) rfl hg (x_stC g) (Nat.le_of_ble_eq_true rfl) rfl (fun x hl C => ?_)
  unfold wX1_tire at h
  refine x_aload_n C 0 rfl rfl dX1_tire_0 ?_
  obtain ⟨hd1, h⟩ := h
  refine x_get C (c := 78) (ci := 1) (k1 := 3) (v1 := .ref (ga g (((gi M 78 3).toNatClampNeg)))) (enC_1 (c := 78) rfl) (Nat.le_of_ble_eq_true rfl) rfl inX1 (by decide) wf_X1_54 rfl dX1_tire_1 ?_
  refine x_getN C (c := ((gi M 78 3).toNatClampNeg)) (ci := 4) (k1 := 8) (v1 := .ref (ga g ((((gi M 78 3).toNatClampNeg) + 7)))) (enC_4 (c := ((gi M 78 3).toNatClampNeg)) hd1) (kC_lt hd1 (by decide)) rfl inX4 (by decide) wfn_X1_93 rfl dX1_tire_4 ?_
  refine x_iload_n C 1 rfl rfl dX1_tire_7 ?_
  obtain ⟨hi2, h⟩ := h
  refine x_iald C 0 (c := (((gi M 78 3).toNatClampNeg) + 7)) (enC_20n (c := (((gi M 78 3).toNatClampNeg) + 7)) (n := 10) (krX4_7 hd1) (lrX4_7 hd1)) (kC_lt (krX4_7 hd1) (by decide)) rfl hi2 dX1_tire_8 ?_
  refine x_nm (fun v3 ev3 => ?_)
  replace h := h v3 ev3
  refine x_istore_n C (L' := [(3, .int v3), (0, .ref (ga g 78)), (1, .int a0), (2, .int a1)]) rfl rfl (Nat.le_of_ble_eq_true rfl) dX1_tire_9 ?_
  refine x_aload_n C 1 rfl rfl dX1_tire_10 ?_
  obtain ⟨hd4, h⟩ := h
  refine x_get C (c := 78) (ci := 1) (k1 := 3) (v1 := .ref (ga g (((gi M 78 3).toNatClampNeg)))) (enC_1 (c := 78) rfl) (Nat.le_of_ble_eq_true rfl) rfl inX1 (by decide) wf_X1_54 rfl dX1_tire_11 ?_
  refine x_getN C (c := ((gi M 78 3).toNatClampNeg)) (ci := 4) (k1 := 8) (v1 := .ref (ga g ((((gi M 78 3).toNatClampNeg) + 7)))) (enC_4 (c := ((gi M 78 3).toNatClampNeg)) hd4) (kC_lt hd4 (by decide)) rfl inX4 (by decide) wfn_X1_93 rfl dX1_tire_14 ?_
  refine x_iload_n C 2 rfl rfl dX1_tire_17 ?_
  refine x_bipush C (v1 := 9) dX1_tire_18 (by decide) ?_
  refine x_iload_n C 0 rfl rfl dX1_tire_20 ?_
  refine x_iload_n C 3 rfl rfl dX1_tire_21 ?_
  refine x_iadd C dX1_tire_22 ?_
  refine x_callS C (st := [.int a0, .ref (ga g ((((gi M 78 3).toNatClampNeg) + 7)))]) (As := [.int 9, .int (v3 + a1)]) (tJ9_min_7cf53 hg _ _ _ _ _  h) wm_X1_151 wsm_J9_min_7cf53 wz_J9 wc_J9_min_7cf53 yd_J9_min_7cf53 rfl ⟨rfl, rfl⟩ ⟨Nat.le_of_ble_eq_true rfl, Nat.le_of_ble_eq_true rfl⟩ (Nat.le_of_ble_eq_true rfl) rfl dX1_tire_23 (x_ki (fun r6 M5 h => ?_))
  obtain ⟨hi7, h⟩ := h
  refine x_iast C 0 (c := (((gi M 78 3).toNatClampNeg) + 7)) (enC_20n (c := (((gi M 78 3).toNatClampNeg) + 7)) (n := 10) (krX4_7 hd4) (lrX4_7 hd4)) (kC_lt (krX4_7 hd4) (by decide)) rfl hi7 dX1_tire_26 ?_
  refine x_nmM (fun M8 eM8 => ?_)
  replace h := h M8 eM8
  refine x_iload_n C 0 rfl rfl dX1_tire_27 ?_
  refine x_bipush C (v1 := 9) dX1_tire_28 (by decide) ?_
  refine x_icmp_ge C (tgt := 91) dX1_tire_30 (by decide) (fun hq9 => ?_) (fun hq9 => ?_)
  · replace h := x_ift hq9 h
    exact x_vret C dX1_tire_91 ⟨rfl, h⟩
  · replace h := x_iff hq9 h
    refine x_aload_n C 1 rfl rfl dX1_tire_33 ?_
    obtain ⟨hd10, h⟩ := h
    refine x_get C (c := 78) (ci := 1) (k1 := 3) (v1 := .ref (ga g (((gi M8 78 3).toNatClampNeg)))) (enC_1 (c := 78) rfl) (Nat.le_of_ble_eq_true rfl) rfl inX1 (by decide) wf_X1_54 rfl dX1_tire_34 ?_
    refine x_getN C (c := ((gi M8 78 3).toNatClampNeg)) (ci := 4) (k1 := 8) (v1 := .ref (ga g ((((gi M8 78 3).toNatClampNeg) + 7)))) (enC_4 (c := ((gi M8 78 3).toNatClampNeg)) hd10) (kC_lt hd10 (by decide)) rfl inX4 (by decide) wfn_X1_93 rfl dX1_tire_37 ?_
    refine x_iload_n C 2 rfl rfl dX1_tire_40 ?_
    obtain ⟨hi11, h⟩ := h
    refine x_iald C 0 (c := (((gi M8 78 3).toNatClampNeg) + 7)) (enC_20n (c := (((gi M8 78 3).toNatClampNeg) + 7)) (n := 10) (krX4_7 hd10) (lrX4_7 hd10)) (kC_lt (krX4_7 hd10) (by decide)) rfl hi11 dX1_tire_41 ?_
    refine x_bipush C (v1 := 9) dX1_tire_42 (by decide) ?_
    refine x_icmp_ne C (tgt := 91) dX1_tire_44 (by decide) (fun hq12 => ?_) (fun hq12 => ?_)
    · replace h := x_iff hq12 h
      exact x_vret C dX1_tire_91 ⟨rfl, h⟩
    · replace h := x_ift hq12 h
      refine x_aload_n C 1 rfl rfl dX1_tire_47 ?_
      obtain ⟨hd13, h⟩ := h
      refine x_get C (c := 78) (ci := 1) (k1 := 3) (v1 := .ref (ga g (((gi M8 78 3).toNatClampNeg)))) (enC_1 (c := 78) rfl) (Nat.le_of_ble_eq_true rfl) rfl inX1 (by decide) wf_X1_54 rfl dX1_tire_48 ?_
      refine x_dup C rfl dX1_tire_51 ?_
      refine x_getN C (c := ((gi M8 78 3).toNatClampNeg)) (ci := 4) (k1 := 11) (v1 := .int (gi M8 (((gi M8 78 3).toNatClampNeg)) 11)) (enC_4 (c := ((gi M8 78 3).toNatClampNeg)) hd13) (kC_lt hd13 (by decide)) rfl inX4 (by decide) wfn_X1_186 rfl dX1_tire_52 ?_
      refine x_iconst C (v1 := 1) dX1_tire_55 (by decide) ?_
      refine x_iadd C dX1_tire_56 ?_
      refine x_putN C (c := ((gi M8 78 3).toNatClampNeg)) (ci := 4) (k1 := 11) (u1 := ((gi M8 (((gi M8 78 3).toNatClampNeg)) 11) + 1)) (v1 := .int ((gi M8 (((gi M8 78 3).toNatClampNeg)) 11) + 1)) (ty := .int) (enC_4 (c := ((gi M8 78 3).toNatClampNeg)) hd13) (kC_lt hd13 (by decide)) rfl inX4 (by decide) (stX4_11 _ _ _) tyX4 tyX4_ok nmX4 wfn_X1_186 rfl rfl rfl rfl (Nat.le_of_ble_eq_true rfl) dX1_tire_57 ?_
      refine x_nmM (fun M14 eM14 => ?_)
      replace h := h M14 eM14
      refine x_aload_n C 1 rfl rfl dX1_tire_60 ?_
      refine x_dup C rfl dX1_tire_61 ?_
      refine x_get C (c := 78) (ci := 1) (k1 := 9) (v1 := .int (gi M14 78 9)) (enC_1 (c := 78) rfl) (Nat.le_of_ble_eq_true rfl) rfl inX1 (by decide) wf_X1_24 rfl dX1_tire_62 ?_
      refine x_iconst C (v1 := 1) dX1_tire_65 (by decide) ?_
      refine x_iadd C dX1_tire_66 ?_
      refine x_put C (c := 78) (ci := 1) (k1 := 9) (u1 := ((gi M14 78 9) + 1)) (v1 := .int ((gi M14 78 9) + 1)) (ty := .int) (enC_1 (c := 78) rfl) (Nat.le_of_ble_eq_true rfl) rfl inX1 (by decide) (stX1_9 _ _ _) tyX1 tyX1_ok nmX1 wf_X1_24 rfl rfl rfl rfl (Nat.le_of_ble_eq_true rfl) dX1_tire_67 ?_
      refine x_nmM (fun M15 eM15 => ?_)
      replace h := h M15 eM15
      refine x_aload_n C 1 rfl rfl dX1_tire_70 ?_
      refine x_get C (c := 78) (ci := 1) (k1 := 9) (v1 := .int (gi M15 78 9)) (enC_1 (c := 78) rfl) (Nat.le_of_ble_eq_true rfl) rfl inX1 (by decide) wf_X1_24 rfl dX1_tire_71 ?_
      refine x_iconst C (v1 := 1) dX1_tire_74 (by decide) ?_
      refine x_icmp_ne C (tgt := 91) dX1_tire_75 (by decide) (fun hq16 => ?_) (fun hq16 => ?_)
      · replace h := x_iff hq16 h
        exact x_vret C dX1_tire_91 ⟨rfl, h⟩
      · replace h := x_ift hq16 h
        refine x_aload_n C 1 rfl rfl dX1_tire_78 ?_
        refine x_iload_n C 2 rfl rfl dX1_tire_79 ?_
        refine x_put C (c := 78) (ci := 1) (k1 := 13) (u1 := a0) (v1 := .int a0) (ty := .int) (enC_1 (c := 78) rfl) (Nat.le_of_ble_eq_true rfl) rfl inX1 (by decide) (stX1_13 _ _ _) tyX1 tyX1_ok nmX1 wf_X1_36 rfl rfl rfl rfl (Nat.le_of_ble_eq_true rfl) dX1_tire_80 ?_
        refine x_nmM (fun M17 eM17 => ?_)
        replace h := h M17 eM17
        refine x_aload_n C 1 rfl rfl dX1_tire_83 ?_
        refine x_aload_n C 1 rfl rfl dX1_tire_84 ?_
        refine x_get C (c := 78) (ci := 1) (k1 := 5) (v1 := .int (gi M17 78 5)) (enC_1 (c := 78) rfl) (Nat.le_of_ble_eq_true rfl) rfl inX1 (by decide) wf_X1_9 rfl dX1_tire_85 ?_
        refine x_put C (c := 78) (ci := 1) (k1 := 14) (u1 := (gi M17 78 5)) (v1 := .int (gi M17 78 5)) (ty := .int) (enC_1 (c := 78) rfl) (Nat.le_of_ble_eq_true rfl) rfl inX1 (by decide) (stX1_14 _ _ _) tyX1 tyX1_ok nmX1 wf_X1_39 rfl rfl rfl rfl (Nat.le_of_ble_eq_true rfl) dX1_tire_88 ?_
        refine x_nmM (fun M18 eM18 => ?_)
        replace h := h M18 eM18
        exact x_vret C dX1_tire_91 ⟨rfl, h⟩
set_option maxHeartbeats 4000000 in
set_option maxRecDepth 100000 in
theorem tX1_listen_81 {g : xG} (hg : x_inj (WC g))  {x : xCx}   {post : xMem → Prop} (C : xOk (WC g) x cX1_listen RX1 4 none (rm_X1_listen) (pV post))   (x1 : Int32) (x2 : Int32) (M : xMem)  (h : wX1_listen_81 post x1 x2 M) : xW (WC g) x 4 81 [(0, .ref (ga g 78)), (1, .int x1), (2, .int x2)] [] M := by
  unfold wX1_listen_81 at h
  refine x_aload_n C 0 rfl rfl dX1_listen_81 ?_
  refine x_get C (c := 78) (ci := 1) (k1 := 2) (v1 := .ref (ga g 76)) (enC_1 (c := 78) rfl) (Nat.le_of_ble_eq_true rfl) rfl inX1 (by decide) wf_X1_50 rfl dX1_listen_82 ?_
  refine x_aload_n C 0 rfl rfl dX1_listen_85 ?_
  obtain ⟨hd1, h⟩ := h
  refine x_get C (c := 78) (ci := 1) (k1 := 3) (v1 := .ref (ga g (((gi M 78 3).toNatClampNeg)))) (enC_1 (c := 78) rfl) (Nat.le_of_ble_eq_true rfl) rfl inX1 (by decide) wf_X1_54 rfl dX1_listen_86 ?_
  refine x_aload_n C 0 rfl rfl dX1_listen_89 ?_
  obtain ⟨hd2, h⟩ := h
  refine x_get C (c := 78) (ci := 1) (k1 := 4) (v1 := .ref (ga g (((gi M 78 4).toNatClampNeg)))) (enC_1 (c := 78) rfl) (Nat.le_of_ble_eq_true rfl) rfl inX1 (by decide) wf_X1_58 rfl dX1_listen_90 ?_
  refine x_bipush C (v1 := 6) dX1_listen_93 (by decide) ?_
  refine x_iload_n C 1 rfl rfl dX1_listen_95 ?_
  refine x_iload_n C 2 rfl rfl dX1_listen_96 ?_
  refine x_callVN C (st := []) (As := [.ref (ga g (((gi M 78 3).toNatClampNeg))), .ref (ga g (((gi M 78 4).toNatClampNeg))), .int 6, .int x1, .int x2]) (c := 76) (ci := 0) (enC_0 (c := 76) rfl) (Nat.le_of_ble_eq_true rfl) rfl (tX0_ofListener hg _ _ _ _ _ _ _ _ hd1 hd2 h) wmn_X1_173 wi_X0_ofListener wv_X0_ofListener wz_X0 wc_X0_ofListener yd_X0_ofListener rfl ⟨rfl, rfl⟩ ⟨Nat.le_of_ble_eq_true rfl, Nat.le_of_ble_eq_true rfl⟩ (Nat.le_of_ble_eq_true rfl) rfl dX1_listen_97 (x_ki (fun r4 M3 h => ?_))
  refine x_if_eq C (tgt := 124) dX1_listen_100 (by decide) (fun hq5 => ?_) (fun hq5 => ?_)
  · replace h := x_ift hq5 h
    exact x_vret C dX1_listen_124 ⟨rfl, h⟩
  · replace h := x_iff hq5 h
    refine x_aload_n C 0 rfl rfl dX1_listen_103 ?_
    obtain ⟨hd6, h⟩ := h
    refine x_get C (c := 78) (ci := 1) (k1 := 3) (v1 := .ref (ga g (((gi M3 78 3).toNatClampNeg)))) (enC_1 (c := 78) rfl) (Nat.le_of_ble_eq_true rfl) rfl inX1 (by decide) wf_X1_54 rfl dX1_listen_104 ?_
    refine x_getN C (c := ((gi M3 78 3).toNatClampNeg)) (ci := 4) (k1 := 6) (v1 := .ref (ga g ((((gi M3 78 3).toNatClampNeg) + 5)))) (enC_4 (c := ((gi M3 78 3).toNatClampNeg)) hd6) (kC_lt hd6 (by decide)) rfl inX4 (by decide) wfn_X1_183 rfl dX1_listen_107 ?_
    refine x_iload_n C 2 rfl rfl dX1_listen_110 ?_
    refine x_bipush C (v1 := (-2)) dX1_listen_111 (by decide) ?_
    obtain ⟨hi7, h⟩ := h
    refine x_iast C 0 (c := (((gi M3 78 3).toNatClampNeg) + 5)) (enC_20n (c := (((gi M3 78 3).toNatClampNeg) + 5)) (n := 10) (krX4_5 hd6) (lrX4_5 hd6)) (kC_lt (krX4_5 hd6) (by decide)) rfl hi7 dX1_listen_113 ?_
    refine x_nmM (fun M8 eM8 => ?_)
    replace h := h M8 eM8
    refine x_aload_n C 0 rfl rfl dX1_listen_114 ?_
    refine x_dup C rfl dX1_listen_115 ?_
    refine x_get C (c := 78) (ci := 1) (k1 := 10) (v1 := .int (gi M8 78 10)) (enC_1 (c := 78) rfl) (Nat.le_of_ble_eq_true rfl) rfl inX1 (by decide) wf_X1_27 rfl dX1_listen_116 ?_
    refine x_iconst C (v1 := 1) dX1_listen_119 (by decide) ?_
    refine x_iadd C dX1_listen_120 ?_
    refine x_put C (c := 78) (ci := 1) (k1 := 10) (u1 := ((gi M8 78 10) + 1)) (v1 := .int ((gi M8 78 10) + 1)) (ty := .int) (enC_1 (c := 78) rfl) (Nat.le_of_ble_eq_true rfl) rfl inX1 (by decide) (stX1_10 _ _ _) tyX1 tyX1_ok nmX1 wf_X1_27 rfl rfl rfl rfl (Nat.le_of_ble_eq_true rfl) dX1_listen_121 ?_
    refine x_nmM (fun M9 eM9 => ?_)
    replace h := h M9 eM9
    exact x_vret C dX1_listen_124 ⟨rfl, h⟩
set_option maxHeartbeats 4000000 in
set_option maxRecDepth 100000 in
theorem tX1_listen {g : xG} (hg : x_inj (WC g))  (l : Launch) (a0 : Int32) (a1 : Int32) (M : xMem) (post : xMem → Prop)  (h : wX1_listen a0 a1 M post) : xMet (WC g) l yX1_listen cX1_listen 4 none (rm_X1_listen) [.ref (ga g 78), .int a0, .int a1] M (pV post) := by
  refine x_enter (own := RX1) (L0 := [(0, .ref (ga g 78)), (1, .int a0), (2, .int a1)]) (by decide +kernel) rfl hg (x_stC g) (Nat.le_of_ble_eq_true rfl) rfl (fun x hl C => ?_)
  unfold wX1_listen at h
  refine x_aload_n C 0 rfl rfl dX1_listen_0 ?_
  obtain ⟨hd1, h⟩ := h
  refine x_get C (c := 78) (ci := 1) (k1 := 3) (v1 := .ref (ga g (((gi M 78 3).toNatClampNeg)))) (enC_1 (c := 78) rfl) (Nat.le_of_ble_eq_true rfl) rfl inX1 (by decide) wf_X1_54 rfl dX1_listen_1 ?_
  refine x_getN C (c := ((gi M 78 3).toNatClampNeg)) (ci := 4) (k1 := 4) (v1 := .ref (ga g ((((gi M 78 3).toNatClampNeg) + 4)))) (enC_4 (c := ((gi M 78 3).toNatClampNeg)) hd1) (kC_lt hd1 (by decide)) rfl inX4 (by decide) wfn_X1_90 rfl dX1_listen_4 ?_
  refine x_iload_n C 1 rfl rfl dX1_listen_7 ?_
  obtain ⟨hi2, h⟩ := h
  refine x_iald C 0 (c := (((gi M 78 3).toNatClampNeg) + 4)) (enC_20n (c := (((gi M 78 3).toNatClampNeg) + 4)) (n := 4) (krX4_4 hd1) (lrX4_4 hd1)) (kC_lt (krX4_4 hd1) (by decide)) rfl hi2 dX1_listen_8 ?_
  refine x_if_eq C (tgt := 38) dX1_listen_9 (by decide) (fun hq3 => ?_) (fun hq3 => ?_)
  · replace h := x_ift hq3 h
    refine x_aload_n C 0 rfl rfl dX1_listen_38 ?_
    refine x_get C (c := 78) (ci := 1) (k1 := 2) (v1 := .ref (ga g 76)) (enC_1 (c := 78) rfl) (Nat.le_of_ble_eq_true rfl) rfl inX1 (by decide) wf_X1_50 rfl dX1_listen_39 ?_
    refine x_aload_n C 0 rfl rfl dX1_listen_42 ?_
    obtain ⟨hd4, h⟩ := h
    refine x_get C (c := 78) (ci := 1) (k1 := 3) (v1 := .ref (ga g (((gi M 78 3).toNatClampNeg)))) (enC_1 (c := 78) rfl) (Nat.le_of_ble_eq_true rfl) rfl inX1 (by decide) wf_X1_54 rfl dX1_listen_43 ?_
    refine x_aload_n C 0 rfl rfl dX1_listen_46 ?_
    obtain ⟨hd5, h⟩ := h
    refine x_get C (c := 78) (ci := 1) (k1 := 4) (v1 := .ref (ga g (((gi M 78 4).toNatClampNeg)))) (enC_1 (c := 78) rfl) (Nat.le_of_ble_eq_true rfl) rfl inX1 (by decide) wf_X1_58 rfl dX1_listen_47 ?_
    refine x_iconst C (v1 := 3) dX1_listen_50 (by decide) ?_
    refine x_iload_n C 1 rfl rfl dX1_listen_51 ?_
    refine x_iload_n C 2 rfl rfl dX1_listen_52 ?_
    refine x_callVN C (st := []) (As := [.ref (ga g (((gi M 78 3).toNatClampNeg))), .ref (ga g (((gi M 78 4).toNatClampNeg))), .int 3, .int a0, .int a1]) (c := 76) (ci := 0) (enC_0 (c := 76) rfl) (Nat.le_of_ble_eq_true rfl) rfl (tX0_ofListener hg _ _ _ _ _ _ _ _ hd4 hd5 h) wmn_X1_173 wi_X0_ofListener wv_X0_ofListener wz_X0 wc_X0_ofListener yd_X0_ofListener rfl ⟨rfl, rfl⟩ ⟨Nat.le_of_ble_eq_true rfl, Nat.le_of_ble_eq_true rfl⟩ (Nat.le_of_ble_eq_true rfl) rfl dX1_listen_53 (x_ki (fun r7 M6 h => ?_))
    refine x_istore_n C (L' := [(3, .int r7), (0, .ref (ga g 78)), (1, .int a0), (2, .int a1)]) rfl rfl (Nat.le_of_ble_eq_true rfl) dX1_listen_56 ?_
    refine x_aload_n C 1 rfl rfl dX1_listen_57 ?_
    obtain ⟨hd8, h⟩ := h
    refine x_get C (c := 78) (ci := 1) (k1 := 3) (v1 := .ref (ga g (((gi M6 78 3).toNatClampNeg)))) (enC_1 (c := 78) rfl) (Nat.le_of_ble_eq_true rfl) rfl inX1 (by decide) wf_X1_54 rfl dX1_listen_58 ?_
    refine x_getN C (c := ((gi M6 78 3).toNatClampNeg)) (ci := 4) (k1 := 8) (v1 := .ref (ga g ((((gi M6 78 3).toNatClampNeg) + 7)))) (enC_4 (c := ((gi M6 78 3).toNatClampNeg)) hd8) (kC_lt hd8 (by decide)) rfl inX4 (by decide) wfn_X1_93 rfl dX1_listen_61 ?_
    refine x_iload_n C 3 rfl rfl dX1_listen_64 ?_
    refine x_iconst C (v1 := 0) dX1_listen_65 (by decide) ?_
    refine x_aload_n C 1 rfl rfl dX1_listen_66 ?_
    obtain ⟨hd9, h⟩ := h
    refine x_get C (c := 78) (ci := 1) (k1 := 3) (v1 := .ref (ga g (((gi M6 78 3).toNatClampNeg)))) (enC_1 (c := 78) rfl) (Nat.le_of_ble_eq_true rfl) rfl inX1 (by decide) wf_X1_54 rfl dX1_listen_67 ?_
    refine x_getN C (c := ((gi M6 78 3).toNatClampNeg)) (ci := 4) (k1 := 8) (v1 := .ref (ga g ((((gi M6 78 3).toNatClampNeg) + 7)))) (enC_4 (c := ((gi M6 78 3).toNatClampNeg)) hd9) (kC_lt hd9 (by decide)) rfl inX4 (by decide) wfn_X1_93 rfl dX1_listen_70 ?_
    refine x_iload_n C 3 rfl rfl dX1_listen_73 ?_
    obtain ⟨hi10, h⟩ := h
    refine x_iald C 0 (c := (((gi M6 78 3).toNatClampNeg) + 7)) (enC_20n (c := (((gi M6 78 3).toNatClampNeg) + 7)) (n := 10) (krX4_7 hd9) (lrX4_7 hd9)) (kC_lt (krX4_7 hd9) (by decide)) rfl hi10 dX1_listen_74 ?_
    refine x_iload_n C 0 rfl rfl dX1_listen_75 ?_
    refine x_isub C dX1_listen_76 ?_
    refine x_callS C (st := [.int a1, .ref (ga g ((((gi M6 78 3).toNatClampNeg) + 7)))]) (As := [.int 0, .int ((gi M6 ((((gi M6 78 3).toNatClampNeg) + 7)) a1.toNatClampNeg) - r7)]) (tJ9_max_7cf53 hg _ _ _ _ _  h) wm_X1_180 wsm_J9_max_7cf53 wz_J9 wc_J9_max_7cf53 yd_J9_max_7cf53 rfl ⟨rfl, rfl⟩ ⟨Nat.le_of_ble_eq_true rfl, Nat.le_of_ble_eq_true rfl⟩ (Nat.le_of_ble_eq_true rfl) rfl dX1_listen_77 (x_ki (fun r12 M11 h => ?_))
    obtain ⟨hi13, h⟩ := h
    refine x_iast C 0 (c := (((gi M6 78 3).toNatClampNeg) + 7)) (enC_20n (c := (((gi M6 78 3).toNatClampNeg) + 7)) (n := 10) (krX4_7 hd8) (lrX4_7 hd8)) (kC_lt (krX4_7 hd8) (by decide)) rfl hi13 dX1_listen_80 ?_
    refine x_nmM (fun M14 eM14 => ?_)
    replace h := h M14 eM14
    refine x_loc (L' := [(0, .ref (ga g 78)), (1, .int a0), (2, .int a1)]) [1, 2, 3] rfl ?_
    exact tX1_listen_81 hg  C   _ _ _  h
  · replace h := x_iff hq3 h
    refine x_aload_n C 0 rfl rfl dX1_listen_12 ?_
    refine x_iload_n C 2 rfl rfl dX1_listen_13 ?_
    refine x_aload_n C 0 rfl rfl dX1_listen_14 ?_
    refine x_get C (c := 78) (ci := 1) (k1 := 2) (v1 := .ref (ga g 76)) (enC_1 (c := 78) rfl) (Nat.le_of_ble_eq_true rfl) rfl inX1 (by decide) wf_X1_50 rfl dX1_listen_15 ?_
    refine x_aload_n C 0 rfl rfl dX1_listen_18 ?_
    obtain ⟨hd15, h⟩ := h
    refine x_get C (c := 78) (ci := 1) (k1 := 3) (v1 := .ref (ga g (((gi M 78 3).toNatClampNeg)))) (enC_1 (c := 78) rfl) (Nat.le_of_ble_eq_true rfl) rfl inX1 (by decide) wf_X1_54 rfl dX1_listen_19 ?_
    refine x_aload_n C 0 rfl rfl dX1_listen_22 ?_
    obtain ⟨hd16, h⟩ := h
    refine x_get C (c := 78) (ci := 1) (k1 := 4) (v1 := .ref (ga g (((gi M 78 4).toNatClampNeg)))) (enC_1 (c := 78) rfl) (Nat.le_of_ble_eq_true rfl) rfl inX1 (by decide) wf_X1_58 rfl dX1_listen_23 ?_
    refine x_iconst C (v1 := 2) dX1_listen_26 (by decide) ?_
    refine x_iload_n C 1 rfl rfl dX1_listen_27 ?_
    refine x_iload_n C 2 rfl rfl dX1_listen_28 ?_
    refine x_callVN C (st := [.int a1, .ref (ga g 78)]) (As := [.ref (ga g (((gi M 78 3).toNatClampNeg))), .ref (ga g (((gi M 78 4).toNatClampNeg))), .int 2, .int a0, .int a1]) (c := 76) (ci := 0) (enC_0 (c := 76) rfl) (Nat.le_of_ble_eq_true rfl) rfl (tX0_ofListener hg _ _ _ _ _ _ _ _ hd15 hd16 h) wmn_X1_173 wi_X0_ofListener wv_X0_ofListener wz_X0 wc_X0_ofListener yd_X0_ofListener rfl ⟨rfl, rfl⟩ ⟨Nat.le_of_ble_eq_true rfl, Nat.le_of_ble_eq_true rfl⟩ (Nat.le_of_ble_eq_true rfl) rfl dX1_listen_29 (x_ki (fun r18 M17 h => ?_))
    refine x_callV C (st := []) (As := [.int a1, .int r18]) (c := 78) (ci := 1) (enC_1 (c := 78) rfl) (Nat.le_of_ble_eq_true rfl) rfl (tX1_tire hg _ _ _ _ _  h) wm_X1_177 wi_X1_tire wv_X1_tire wz_X1 wc_X1_tire rfl yd_X1_tire rfl ⟨rfl, rfl⟩ ⟨Nat.le_of_ble_eq_true rfl, Nat.le_of_ble_eq_true rfl⟩ (Nat.le_of_ble_eq_true rfl) rfl dX1_listen_32 (x_kv (fun M19 h => ?_))
    refine x_goto C (tgt := 81) dX1_listen_35 (by decide) ?_
    exact tX1_listen_81 hg  C   _ _ _  h
set_option maxHeartbeats 4000000 in
set_option maxRecDepth 100000 in
theorem tX1_storyOf {g : xG} (hg : x_inj (WC g))  (l : Launch) (a0 : Int32) (M : xMem) (post : Nat → xMem → Prop)  (h : wX1_storyOf a0 M post) : xMet (WC g) l yX1_storyOf cX1_storyOf 3 (some (.object "LineGuild$Story")) (rm_X1_storyOf) [.ref (ga g 78), .int a0] M (pR (WC g) (fun c => kC c = 9) post) := by
  refine x_enter (own := RX1) (L0 := [(0, .ref (ga g 78)), (1, .int a0)]) (by decide +kernel) rfl hg (x_stC g) (Nat.le_of_ble_eq_true rfl) rfl (fun x hl C => ?_)
  unfold wX1_storyOf at h
  refine x_aload_n C 0 rfl rfl dX1_storyOf_0 ?_
  obtain ⟨hd1, h⟩ := h
  refine x_get C (c := 78) (ci := 1) (k1 := 3) (v1 := .ref (ga g (((gi M 78 3).toNatClampNeg)))) (enC_1 (c := 78) rfl) (Nat.le_of_ble_eq_true rfl) rfl inX1 (by decide) wf_X1_54 rfl dX1_storyOf_1 ?_
  refine x_getN C (c := ((gi M 78 3).toNatClampNeg)) (ci := 4) (k1 := 1) (v1 := .ref (ga g ((((gi M 78 3).toNatClampNeg) + 1)))) (enC_4 (c := ((gi M 78 3).toNatClampNeg)) hd1) (kC_lt hd1 (by decide)) rfl inX4 (by decide) wfn_X1_141 rfl dX1_storyOf_4 ?_
  refine x_iload_n C 1 rfl rfl dX1_storyOf_7 ?_
  obtain ⟨hi2, h⟩ := h
  refine x_iald C 0 (c := (((gi M 78 3).toNatClampNeg) + 1)) (enC_20n (c := (((gi M 78 3).toNatClampNeg) + 1)) (n := 4) (krX4_1 hd1) (lrX4_1 hd1)) (kC_lt (krX4_1 hd1) (by decide)) rfl hi2 dX1_storyOf_8 ?_
  refine x_nm (fun v3 ev3 => ?_)
  replace h := h v3 ev3
  refine x_istore_n C (L' := [(2, .int v3), (0, .ref (ga g 78)), (1, .int a0)]) rfl rfl (Nat.le_of_ble_eq_true rfl) dX1_storyOf_9 ?_
  refine x_iload_n C 0 rfl rfl dX1_storyOf_10 ?_
  refine x_if_lt C (tgt := 32) dX1_storyOf_11 (by decide) (fun hq4 => ?_) (fun hq4 => ?_)
  · replace h := x_ift hq4 h
    refine x_null C dX1_storyOf_32 ?_
    exact x_aret C (Or.inl rfl) dX1_storyOf_33 ⟨0, rfl, Or.inl rfl, h⟩
  · replace h := x_iff hq4 h
    refine x_iload_n C 0 rfl rfl dX1_storyOf_14 ?_
    refine x_aload_n C 1 rfl rfl dX1_storyOf_15 ?_
    refine x_get C (c := 78) (ci := 1) (k1 := 0) (v1 := .ref (ga g 2)) (enC_1 (c := 78) rfl) (Nat.le_of_ble_eq_true rfl) rfl inX1 (by decide) wf_X1_42 rfl dX1_storyOf_16 ?_
    refine x_alens C (c := 2) (v1 := 6) (enC_22 (c := 2) rfl) (Nat.le_of_ble_eq_true rfl) rfl rfl dX1_storyOf_19 ?_
    refine x_icmp_ge C (tgt := 32) dX1_storyOf_20 (by decide) (fun hq5 => ?_) (fun hq5 => ?_)
    · replace h := x_ift hq5 h
      refine x_null C dX1_storyOf_32 ?_
      exact x_aret C (Or.inl rfl) dX1_storyOf_33 ⟨0, rfl, Or.inl rfl, h⟩
    · replace h := x_iff hq5 h
      refine x_aload_n C 1 rfl rfl dX1_storyOf_23 ?_
      refine x_get C (c := 78) (ci := 1) (k1 := 0) (v1 := .ref (ga g 2)) (enC_1 (c := 78) rfl) (Nat.le_of_ble_eq_true rfl) rfl inX1 (by decide) wf_X1_42 rfl dX1_storyOf_24 ?_
      refine x_iload_n C 0 rfl rfl dX1_storyOf_27 ?_
      obtain ⟨hi6, h⟩ := h
      refine x_sald C hi6 dX1_storyOf_28 ?_
      refine x_goto C (tgt := 33) dX1_storyOf_29 (by decide) ?_
      exact x_aret C (Or.inr ⟨_, rfl⟩) dX1_storyOf_33 ⟨((3 + 2 * v3.toNatClampNeg)), (congrArg some (x_rfne (w := WC g) (k9_ne (kst hi6)))).symm, Or.inr (kst hi6), h⟩
set_option maxHeartbeats 4000000 in
set_option maxRecDepth 100000 in
theorem tX0_ofTeller {g : xG} (hg : x_inj (WC g))  (l : Launch) (o0 : Nat) (o1 : Nat) (a2 : Int32) (a3 : Int32) (M : xMem) (post : Int32 → xMem → Prop) (ho0 : kC o0 = 4) (ho1 : kC o1 = 5) (h : wX0_ofTeller o0 o1 a2 a3 M post) : xMet (WC g) l yX0_ofTeller cX0_ofTeller 5 (some .int) (rm_X0_ofTeller) [.ref (ga g 76), .ref (ga g o0), .ref (ga g o1), .int a2, .int a3] M (pI post) := by
  refine x_enter (own := RX0) (L0 := [(0, .ref (ga g 76)), (1, .ref (ga g o0)), (2, .ref (ga g o1)), (3, .int a2), (4, .int a3)]) (by decide +kernel) rfl hg (x_stC g) (Nat.le_of_ble_eq_true rfl) rfl (fun x hl C => ?_)
  unfold wX0_ofTeller at h
  refine x_aload_n C 0 rfl rfl dX0_ofTeller_0 ?_
  refine x_aload_n C 1 rfl rfl dX0_ofTeller_1 ?_
  refine x_callV C (st := []) (As := [.ref (ga g o0)]) (c := 76) (ci := 0) (enC_0 (c := 76) rfl) (Nat.le_of_ble_eq_true rfl) rfl (tX0_begin hg _ _ _ _ ho0 h) wm_X0_17 wi_X0_begin wv_X0_begin wz_X0 wc_X0_begin rfl yd_X0_begin rfl ⟨rfl, rfl⟩ ⟨Nat.le_of_ble_eq_true rfl, Nat.le_of_ble_eq_true rfl⟩ (Nat.le_of_ble_eq_true rfl) rfl dX0_ofTeller_2 (x_kv (fun M1 h => ?_))
  refine x_aload_n C 0 rfl rfl dX0_ofTeller_5 ?_
  refine x_aload_n C 1 rfl rfl dX0_ofTeller_6 ?_
  refine x_iload C 4 rfl dX0_ofTeller_7 ?_
  refine x_callV C (st := []) (As := [.ref (ga g o0), .int a3]) (c := 76) (ci := 0) (enC_0 (c := 76) rfl) (Nat.le_of_ble_eq_true rfl) rfl (tX0_putTeller hg _ _ _ _ _ ho0 h) wm_X0_21 wi_X0_putTeller wv_X0_putTeller wz_X0 wc_X0_putTeller rfl yd_X0_putTeller rfl ⟨rfl, rfl⟩ ⟨Nat.le_of_ble_eq_true rfl, Nat.le_of_ble_eq_true rfl⟩ (Nat.le_of_ble_eq_true rfl) rfl dX0_ofTeller_9 (x_kv (fun M2 h => ?_))
  refine x_aload_n C 2 rfl rfl dX0_ofTeller_12 ?_
  refine x_iload_n C 3 rfl rfl dX0_ofTeller_13 ?_
  refine x_aload_n C 0 rfl rfl dX0_ofTeller_14 ?_
  refine x_get C (c := 76) (ci := 0) (k1 := 1) (v1 := .ref (ga g 77)) (enC_0 (c := 76) rfl) (Nat.le_of_ble_eq_true rfl) rfl inX0 (by decide) wf_X0_7 rfl dX0_ofTeller_15 ?_
  refine x_callVN C (st := []) (As := [.int a2, .ref (ga g 77)]) (c := o1) (ci := 5) (enC_5 (c := o1) ho1) (kC_lt ho1 (by decide)) rfl (tX5_worthOf hg _ _ _ _ _ ho1 h) wmn_X0_25 wi_X5_worthOf wv_X5_worthOf wz_X5 wc_X5_worthOf yd_X5_worthOf rfl ⟨rfl, rfl⟩ ⟨Nat.le_of_ble_eq_true rfl, Nat.le_of_ble_eq_true rfl⟩ (Nat.le_of_ble_eq_true rfl) rfl dX0_ofTeller_18 (x_ki (fun r4 M3 h => ?_))
  exact x_iret C dX0_ofTeller_21 ⟨_, rfl, h⟩
set_option maxHeartbeats 4000000 in
set_option maxRecDepth 100000 in
theorem tX1_tellOn {g : xG} (hg : x_inj (WC g))  (l : Launch) (a0 : Int32) (o1 : Nat) (M : xMem) (post : xMem → Prop) (ho1 : kC o1 = 9) (h : wX1_tellOn a0 o1 M post) : xMet (WC g) l yX1_tellOn cX1_tellOn 5 none (rm_X1_tellOn) [.ref (ga g 78), .int a0, .ref (ga g o1)] M (pV post) := by
  refine x_enter (own := RX1) (L0 := [(0, .ref (ga g 78)), (1, .int a0), (2, .ref (ga g o1))]) (by decide +kernel) rfl hg (x_stC g) (Nat.le_of_ble_eq_true rfl) rfl (fun x hl C => ?_)
  unfold wX1_tellOn at h
  refine x_aload_n C 0 rfl rfl dX1_tellOn_0 ?_
  obtain ⟨hd1, h⟩ := h
  refine x_get C (c := 78) (ci := 1) (k1 := 3) (v1 := .ref (ga g (((gi M 78 3).toNatClampNeg)))) (enC_1 (c := 78) rfl) (Nat.le_of_ble_eq_true rfl) rfl inX1 (by decide) wf_X1_54 rfl dX1_tellOn_1 ?_
  refine x_getN C (c := ((gi M 78 3).toNatClampNeg)) (ci := 4) (k1 := 3) (v1 := .ref (ga g ((((gi M 78 3).toNatClampNeg) + 3)))) (enC_4 (c := ((gi M 78 3).toNatClampNeg)) hd1) (kC_lt hd1 (by decide)) rfl inX4 (by decide) wfn_X1_104 rfl dX1_tellOn_4 ?_
  refine x_iload_n C 1 rfl rfl dX1_tellOn_7 ?_
  obtain ⟨hi2, h⟩ := h
  refine x_iald C 0 (c := (((gi M 78 3).toNatClampNeg) + 3)) (enC_20n (c := (((gi M 78 3).toNatClampNeg) + 3)) (n := 4) (krX4_3 hd1) (lrX4_3 hd1)) (kC_lt (krX4_3 hd1) (by decide)) rfl hi2 dX1_tellOn_8 ?_
  refine x_nm (fun v3 ev3 => ?_)
  replace h := h v3 ev3
  refine x_istore_n C (L' := [(3, .int v3), (0, .ref (ga g 78)), (1, .int a0), (2, .ref (ga g o1))]) rfl rfl (Nat.le_of_ble_eq_true rfl) dX1_tellOn_9 ?_
  refine x_aload_n C 3 rfl rfl dX1_tellOn_10 ?_
  refine x_getN C (c := o1) (ci := 9) (k1 := 1) (v1 := .int (gi M o1 1)) (enC_9 (c := o1) ho1) (kC_lt ho1 (by decide)) rfl inX9 (by decide) wfn_X1_107 rfl dX1_tellOn_11 ?_
  refine x_iload_n C 0 rfl rfl dX1_tellOn_14 ?_
  refine x_aload_n C 1 rfl rfl dX1_tellOn_15 ?_
  refine x_get C (c := 78) (ci := 1) (k1 := 2) (v1 := .ref (ga g 76)) (enC_1 (c := 78) rfl) (Nat.le_of_ble_eq_true rfl) rfl inX1 (by decide) wf_X1_50 rfl dX1_tellOn_16 ?_
  refine x_aload_n C 1 rfl rfl dX1_tellOn_19 ?_
  obtain ⟨hd4, h⟩ := h
  refine x_get C (c := 78) (ci := 1) (k1 := 3) (v1 := .ref (ga g (((gi M 78 3).toNatClampNeg)))) (enC_1 (c := 78) rfl) (Nat.le_of_ble_eq_true rfl) rfl inX1 (by decide) wf_X1_54 rfl dX1_tellOn_20 ?_
  refine x_aload_n C 1 rfl rfl dX1_tellOn_23 ?_
  obtain ⟨hd5, h⟩ := h
  refine x_get C (c := 78) (ci := 1) (k1 := 4) (v1 := .ref (ga g (((gi M 78 4).toNatClampNeg)))) (enC_1 (c := 78) rfl) (Nat.le_of_ble_eq_true rfl) rfl inX1 (by decide) wf_X1_58 rfl dX1_tellOn_24 ?_
  refine x_iconst C (v1 := 0) dX1_tellOn_27 (by decide) ?_
  refine x_iload_n C 2 rfl rfl dX1_tellOn_28 ?_
  refine x_callVN C (st := [.int v3, .int (gi M o1 1)]) (As := [.ref (ga g (((gi M 78 3).toNatClampNeg))), .ref (ga g (((gi M 78 4).toNatClampNeg))), .int 0, .int a0]) (c := 76) (ci := 0) (enC_0 (c := 76) rfl) (Nat.le_of_ble_eq_true rfl) rfl (tX0_ofTeller hg _ _ _ _ _ _ _ hd4 hd5 h) wmn_X1_145 wi_X0_ofTeller wv_X0_ofTeller wz_X0 wc_X0_ofTeller yd_X0_ofTeller rfl ⟨rfl, rfl⟩ ⟨Nat.le_of_ble_eq_true rfl, Nat.le_of_ble_eq_true rfl⟩ (Nat.le_of_ble_eq_true rfl) rfl dX1_tellOn_29 (x_ki (fun r7 M6 h => ?_))
  refine x_iadd C dX1_tellOn_32 ?_
  refine x_callS C (st := []) (As := [.int (gi M o1 1), .int (v3 + r7)]) (tJ9_min_7cf53 hg _ _ _ _ _  h) wm_X1_151 wsm_J9_min_7cf53 wz_J9 wc_J9_min_7cf53 yd_J9_min_7cf53 rfl ⟨rfl, rfl⟩ ⟨Nat.le_of_ble_eq_true rfl, Nat.le_of_ble_eq_true rfl⟩ (Nat.le_of_ble_eq_true rfl) rfl dX1_tellOn_33 (x_ki (fun r9 M8 h => ?_))
  refine x_istore C (L' := [(4, .int r9), (3, .int v3), (0, .ref (ga g 78)), (1, .int a0), (2, .ref (ga g o1))]) rfl (Nat.le_of_ble_eq_true rfl) dX1_tellOn_36 ?_
  refine x_aload_n C 2 rfl rfl dX1_tellOn_38 ?_
  obtain ⟨hd10, h⟩ := h
  refine x_get C (c := 78) (ci := 1) (k1 := 3) (v1 := .ref (ga g (((gi M8 78 3).toNatClampNeg)))) (enC_1 (c := 78) rfl) (Nat.le_of_ble_eq_true rfl) rfl inX1 (by decide) wf_X1_54 rfl dX1_tellOn_39 ?_
  refine x_getN C (c := ((gi M8 78 3).toNatClampNeg)) (ci := 4) (k1 := 4) (v1 := .ref (ga g ((((gi M8 78 3).toNatClampNeg) + 4)))) (enC_4 (c := ((gi M8 78 3).toNatClampNeg)) hd10) (kC_lt hd10 (by decide)) rfl inX4 (by decide) wfn_X1_90 rfl dX1_tellOn_42 ?_
  refine x_iload_n C 3 rfl rfl dX1_tellOn_45 ?_
  refine x_aload_n C 4 rfl rfl dX1_tellOn_46 ?_
  refine x_iload_n C 1 rfl rfl dX1_tellOn_47 ?_
  refine x_iload C 0 rfl dX1_tellOn_48 ?_
  refine x_aload_n C 2 rfl rfl dX1_tellOn_50 ?_
  obtain ⟨hd11, h⟩ := h
  refine x_get C (c := 78) (ci := 1) (k1 := 3) (v1 := .ref (ga g (((gi M8 78 3).toNatClampNeg)))) (enC_1 (c := 78) rfl) (Nat.le_of_ble_eq_true rfl) rfl inX1 (by decide) wf_X1_54 rfl dX1_tellOn_51 ?_
  refine x_getN C (c := ((gi M8 78 3).toNatClampNeg)) (ci := 4) (k1 := 4) (v1 := .ref (ga g ((((gi M8 78 3).toNatClampNeg) + 4)))) (enC_4 (c := ((gi M8 78 3).toNatClampNeg)) hd11) (kC_lt hd11 (by decide)) rfl inX4 (by decide) wfn_X1_90 rfl dX1_tellOn_54 ?_
  refine x_iload_n C 3 rfl rfl dX1_tellOn_57 ?_
  obtain ⟨hi12, h⟩ := h
  refine x_iald C 0 (c := (((gi M8 78 3).toNatClampNeg) + 4)) (enC_20n (c := (((gi M8 78 3).toNatClampNeg) + 4)) (n := 4) (krX4_4 hd11) (lrX4_4 hd11)) (kC_lt (krX4_4 hd11) (by decide)) rfl hi12 dX1_tellOn_58 ?_
  refine x_callVN C (st := [.int a0, .ref (ga g ((((gi M8 78 3).toNatClampNeg) + 4)))]) (As := [.int v3, .int r9, .int (gi M8 ((((gi M8 78 3).toNatClampNeg) + 4)) a0.toNatClampNeg)]) (c := o1) (ci := 9) (enC_9 (c := o1) ho1) (kC_lt ho1 (by decide)) rfl (tX9_openBehind hg _ _ _ _ _ _ _ ho1 h) wmn_X1_157 wi_X9_openBehind wv_X9_openBehind wz_X9 wc_X9_openBehind yd_X9_openBehind rfl ⟨rfl, rfl⟩ ⟨Nat.le_of_ble_eq_true rfl, Nat.le_of_ble_eq_true rfl⟩ (Nat.le_of_ble_eq_true rfl) rfl dX1_tellOn_59 (x_ki (fun r14 M13 h => ?_))
  obtain ⟨hi15, h⟩ := h
  refine x_iast C 0 (c := (((gi M8 78 3).toNatClampNeg) + 4)) (enC_20n (c := (((gi M8 78 3).toNatClampNeg) + 4)) (n := 4) (krX4_4 hd10) (lrX4_4 hd10)) (kC_lt (krX4_4 hd10) (by decide)) rfl hi15 dX1_tellOn_62 ?_
  refine x_nmM (fun M16 eM16 => ?_)
  replace h := h M16 eM16
  refine x_aload_n C 2 rfl rfl dX1_tellOn_63 ?_
  obtain ⟨hd17, h⟩ := h
  refine x_get C (c := 78) (ci := 1) (k1 := 3) (v1 := .ref (ga g (((gi M16 78 3).toNatClampNeg)))) (enC_1 (c := 78) rfl) (Nat.le_of_ble_eq_true rfl) rfl inX1 (by decide) wf_X1_54 rfl dX1_tellOn_64 ?_
  refine x_getN C (c := ((gi M16 78 3).toNatClampNeg)) (ci := 4) (k1 := 3) (v1 := .ref (ga g ((((gi M16 78 3).toNatClampNeg) + 3)))) (enC_4 (c := ((gi M16 78 3).toNatClampNeg)) hd17) (kC_lt hd17 (by decide)) rfl inX4 (by decide) wfn_X1_104 rfl dX1_tellOn_67 ?_
  refine x_iload_n C 3 rfl rfl dX1_tellOn_70 ?_
  refine x_iload C 0 rfl dX1_tellOn_71 ?_
  obtain ⟨hi18, h⟩ := h
  refine x_iast C 0 (c := (((gi M16 78 3).toNatClampNeg) + 3)) (enC_20n (c := (((gi M16 78 3).toNatClampNeg) + 3)) (n := 4) (krX4_3 hd17) (lrX4_3 hd17)) (kC_lt (krX4_3 hd17) (by decide)) rfl hi18 dX1_tellOn_73 ?_
  refine x_nmM (fun M19 eM19 => ?_)
  replace h := h M19 eM19
  exact x_vret C dX1_tellOn_74 ⟨rfl, h⟩
set_option maxHeartbeats 4000000 in
set_option maxRecDepth 100000 in
theorem tX2_endsOf_39 {g : xG} (hg : x_inj (WC g))  {x : xCx}  {K5 : Int32 → Int32 → Int32 → Int32 → xMem → Prop} {post : Int32 → xMem → Prop} (C : xOk (WC g) x cX2_endsOf RX2 5 (some .int) (rm_X2_endsOf) (pI post))  (hK5 : ∀ (x1 : Int32) (x2 : Int32) (x3 : Int32) (x4 : Int32) (M : xMem), K5 x1 x2 x3 x4 M → xW (WC g) x 5 5 [(0, .ref (ga g 41)), (1, .int x1), (2, .int x2), (3, .int x3), (4, .int x4)] [] M) (x1 : Int32) (x2 : Int32) (x3 : Int32) (x4 : Int32) (M : xMem)  (h : wX2_endsOf_39 K5 post x1 x2 x3 x4 M) : xW (WC g) x 5 39 [(0, .ref (ga g 41)), (1, .int x1), (2, .int x2), (3, .int x3), (4, .int x4)] [] M := by
  unfold wX2_endsOf_39 at h
  obtain ⟨v1, ev1⟩ : ∃ z : Int32, z = x4 + 1 := ⟨_, rfl⟩
  replace h := h v1 ev1
  refine x_iinc C 4 (v1 := v1) (L' := [(4, .int v1), (0, .ref (ga g 41)), (1, .int x1), (2, .int x2), (3, .int x3)]) rfl (by rw [ev1]; rfl) rfl (Nat.le_of_ble_eq_true rfl) dX2_endsOf_39 ?_
  refine x_goto C (tgt := 5) dX2_endsOf_42 (by decide) ?_
  refine x_loc (L' := [(0, .ref (ga g 41)), (1, .int x1), (2, .int x2), (3, .int x3), (4, .int v1)]) [1, 2, 3, 4, 0] rfl ?_
  exact hK5 _ _ _ _ _  h
set_option maxHeartbeats 4000000 in
set_option maxRecDepth 100000 in
theorem tX2_endsOf_5 {g : xG} (hg : x_inj (WC g))  {x : xCx}   {post : Int32 → xMem → Prop} (C : xOk (WC g) x cX2_endsOf RX2 5 (some .int) (rm_X2_endsOf) (pI post))   : ∀ (n : Nat) (x1 : Int32) (x2 : Int32) (x3 : Int32) (x4 : Int32) (M : xMem), wX2_endsOf_5 post n x1 x2 x3 x4 M → xW (WC g) x 5 5 [(0, .ref (ga g 41)), (1, .int x1), (2, .int x2), (3, .int x3), (4, .int x4)] [] M := by
  intro n
  induction n with
  | zero =>
    intro x1 x2 x3 x4 M  h
    exact h.elim
  | succ n ih =>
    intro x1 x2 x3 x4 M  h
    rw [wX2_endsOf_5] at h
    refine x_iload C 4 rfl dX2_endsOf_5 ?_
    refine x_iload_n C 2 rfl rfl dX2_endsOf_7 ?_
    refine x_icmp_ge C (tgt := 45) dX2_endsOf_8 (by decide) (fun hq1 => ?_) (fun hq1 => ?_)
    · replace h := x_ift hq1 h
      refine x_iload_n C 3 rfl rfl dX2_endsOf_45 ?_
      exact x_iret C dX2_endsOf_46 ⟨_, rfl, h⟩
    · replace h := x_iff hq1 h
      refine x_iload C 4 rfl dX2_endsOf_11 ?_
      refine x_bipush C (v1 := 10) dX2_endsOf_13 (by decide) ?_
      refine x_icmp_ge C (tgt := 45) dX2_endsOf_15 (by decide) (fun hq2 => ?_) (fun hq2 => ?_)
      · replace h := x_ift hq2 h
        refine x_iload_n C 3 rfl rfl dX2_endsOf_45 ?_
        exact x_iret C dX2_endsOf_46 ⟨_, rfl, h⟩
      · replace h := x_iff hq2 h
        refine x_iload_n C 1 rfl rfl dX2_endsOf_18 ?_
        refine x_iload C 4 rfl dX2_endsOf_19 ?_
        refine x_callSN C (st := []) (As := [.int x1, .int x4]) (tX11_has hg _ _ _ _ _  h) wmn_X2_56 wsm_X11_has wz_X11 wc_X11_has yd_X11_has rfl ⟨rfl, rfl⟩ ⟨Nat.le_of_ble_eq_true rfl, Nat.le_of_ble_eq_true rfl⟩ (Nat.le_of_ble_eq_true rfl) rfl dX2_endsOf_21 (x_ki (fun r4 M3 h => ?_))
        refine x_if_eq C (tgt := 39) dX2_endsOf_24 (by decide) (fun hq5 => ?_) (fun hq5 => ?_)
        · replace h := x_ift hq5 h
          exact tX2_endsOf_39 hg  C  ih _ _ _ _ _  h
        · replace h := x_iff hq5 h
          refine x_iload_n C 3 rfl rfl dX2_endsOf_27 ?_
          refine x_iconst C (v1 := 1) dX2_endsOf_28 (by decide) ?_
          refine x_aload_n C 0 rfl rfl dX2_endsOf_29 ?_
          refine x_get C (c := 41) (ci := 2) (k1 := 5) (v1 := .ref (ga g 46)) (enC_2 (c := 41) rfl) (Nat.le_of_ble_eq_true rfl) rfl inX2 (by decide) wf_X2_28 rfl dX2_endsOf_30 ?_
          refine x_iload C 4 rfl dX2_endsOf_33 ?_
          obtain ⟨hi6, h⟩ := h
          refine x_iald C 0 (c := 46) (enC_20n (c := 46) (n := 10) rfl rfl) (Nat.le_of_ble_eq_true rfl) rfl hi6 dX2_endsOf_35 ?_
          refine x_ishl C dX2_endsOf_36 ?_
          refine x_ior C dX2_endsOf_37 ?_
          refine x_nm (fun v7 ev7 => ?_)
          replace h := h v7 ev7
          refine x_istore_n C (L' := [(3, .int v7), (0, .ref (ga g 41)), (1, .int x1), (2, .int x2), (4, .int x4)]) rfl rfl (Nat.le_of_ble_eq_true rfl) dX2_endsOf_38 ?_
          refine x_loc (L' := [(0, .ref (ga g 41)), (1, .int x1), (2, .int x2), (3, .int v7), (4, .int x4)]) [1, 2, 3, 0, 4] rfl ?_
          exact tX2_endsOf_39 hg  C  ih _ _ _ _ _  h
set_option maxHeartbeats 4000000 in
set_option maxRecDepth 100000 in
theorem tX2_endsOf {g : xG} (hg : x_inj (WC g))  (l : Launch) (a0 : Int32) (a1 : Int32) (M : xMem) (post : Int32 → xMem → Prop)  (h : wX2_endsOf a0 a1 M post) : xMet (WC g) l yX2_endsOf cX2_endsOf 5 (some .int) (rm_X2_endsOf) [.ref (ga g 41), .int a0, .int a1] M (pI post) := by
  refine x_enter (own := RX2) (L0 := [(0, .ref (ga g 41)), (1, .int a0), (2, .int a1)]) (by decide +kernel) rfl hg (x_stC g) (Nat.le_of_ble_eq_true rfl) rfl (fun x hl C => ?_)
  unfold wX2_endsOf at h
  refine x_iconst C (v1 := 0) dX2_endsOf_0 (by decide) ?_
  refine x_istore_n C (L' := [(3, .int 0), (0, .ref (ga g 41)), (1, .int a0), (2, .int a1)]) rfl rfl (Nat.le_of_ble_eq_true rfl) dX2_endsOf_1 ?_
  refine x_iconst C (v1 := 0) dX2_endsOf_2 (by decide) ?_
  refine x_istore C (L' := [(4, .int 0), (3, .int 0), (0, .ref (ga g 41)), (1, .int a0), (2, .int a1)]) rfl (Nat.le_of_ble_eq_true rfl) dX2_endsOf_3 ?_
  refine x_loc (L' := [(0, .ref (ga g 41)), (1, .int a0), (2, .int a1), (3, .int 0), (4, .int 0)]) [2, 3, 4, 1, 0] rfl ?_
  obtain ⟨n5, h⟩ := h
  exact tX2_endsOf_5 hg  C   _ _ _ _ _ _  h
set_option maxHeartbeats 4000000 in
set_option maxRecDepth 100000 in
theorem tX2_isCheaper_16 {g : xG} (hg : x_inj (WC g))  {x : xCx}   {post : Int32 → xMem → Prop} (C : xOk (WC g) x cX2_isCheaper RX2 4 (some .boolean) (rm_X2_isCheaper) (pI post))   (x1 : Int32) (x2 : Int32) (s0 : Int32) (M : xMem)  (h : wX2_isCheaper_16 post x1 x2 s0 M) : xW (WC g) x 4 16 [(0, .ref (ga g 41)), (1, .int x1), (2, .int x2)] [.int s0] M := by
  unfold wX2_isCheaper_16 at h
  refine x_istore_n C (L' := [(3, .int s0), (0, .ref (ga g 41)), (1, .int x1), (2, .int x2)]) rfl rfl (Nat.le_of_ble_eq_true rfl) dX2_isCheaper_16 ?_
  refine x_aload_n C 1 rfl rfl dX2_isCheaper_17 ?_
  refine x_get C (c := 41) (ci := 2) (k1 := 6) (v1 := .ref (ga g 47)) (enC_2 (c := 41) rfl) (Nat.le_of_ble_eq_true rfl) rfl inX2 (by decide) wf_X2_31 rfl dX2_isCheaper_18 ?_
  refine x_iload_n C 2 rfl rfl dX2_isCheaper_21 ?_
  obtain ⟨hi1, h⟩ := h
  refine x_iald C 0 (c := 47) (enC_20n (c := 47) (n := 1024) rfl rfl) (Nat.le_of_ble_eq_true rfl) rfl hi1 dX2_isCheaper_22 ?_
  refine x_aload_n C 1 rfl rfl dX2_isCheaper_23 ?_
  refine x_get C (c := 41) (ci := 2) (k1 := 6) (v1 := .ref (ga g 47)) (enC_2 (c := 41) rfl) (Nat.le_of_ble_eq_true rfl) rfl inX2 (by decide) wf_X2_31 rfl dX2_isCheaper_24 ?_
  refine x_iload_n C 3 rfl rfl dX2_isCheaper_27 ?_
  obtain ⟨hi2, h⟩ := h
  refine x_iald C 0 (c := 47) (enC_20n (c := 47) (n := 1024) rfl rfl) (Nat.le_of_ble_eq_true rfl) rfl hi2 dX2_isCheaper_28 ?_
  refine x_icmp_lt C (tgt := 51) dX2_isCheaper_29 (by decide) (fun hq3 => ?_) (fun hq3 => ?_)
  · replace h := x_ift hq3 h
    refine x_iconst C (v1 := 1) dX2_isCheaper_51 (by decide) ?_
    refine x_goto C (tgt := 56) dX2_isCheaper_52 (by decide) ?_
    exact x_zret C rfl dX2_isCheaper_56 ⟨_, rfl, h⟩
  · replace h := x_iff hq3 h
    refine x_aload_n C 1 rfl rfl dX2_isCheaper_32 ?_
    refine x_get C (c := 41) (ci := 2) (k1 := 6) (v1 := .ref (ga g 47)) (enC_2 (c := 41) rfl) (Nat.le_of_ble_eq_true rfl) rfl inX2 (by decide) wf_X2_31 rfl dX2_isCheaper_33 ?_
    refine x_iload_n C 2 rfl rfl dX2_isCheaper_36 ?_
    obtain ⟨hi4, h⟩ := h
    refine x_iald C 0 (c := 47) (enC_20n (c := 47) (n := 1024) rfl rfl) (Nat.le_of_ble_eq_true rfl) rfl hi4 dX2_isCheaper_37 ?_
    refine x_aload_n C 1 rfl rfl dX2_isCheaper_38 ?_
    refine x_get C (c := 41) (ci := 2) (k1 := 6) (v1 := .ref (ga g 47)) (enC_2 (c := 41) rfl) (Nat.le_of_ble_eq_true rfl) rfl inX2 (by decide) wf_X2_31 rfl dX2_isCheaper_39 ?_
    refine x_iload_n C 3 rfl rfl dX2_isCheaper_42 ?_
    obtain ⟨hi5, h⟩ := h
    refine x_iald C 0 (c := 47) (enC_20n (c := 47) (n := 1024) rfl rfl) (Nat.le_of_ble_eq_true rfl) rfl hi5 dX2_isCheaper_43 ?_
    refine x_icmp_ne C (tgt := 55) dX2_isCheaper_44 (by decide) (fun hq6 => ?_) (fun hq6 => ?_)
    · replace h := x_iff hq6 h
      refine x_iconst C (v1 := 0) dX2_isCheaper_55 (by decide) ?_
      exact x_zret C rfl dX2_isCheaper_56 ⟨_, rfl, h⟩
    · replace h := x_ift hq6 h
      refine x_iload_n C 0 rfl rfl dX2_isCheaper_47 ?_
      refine x_if_eq C (tgt := 55) dX2_isCheaper_48 (by decide) (fun hq7 => ?_) (fun hq7 => ?_)
      · replace h := x_ift hq7 h
        refine x_iconst C (v1 := 0) dX2_isCheaper_55 (by decide) ?_
        exact x_zret C rfl dX2_isCheaper_56 ⟨_, rfl, h⟩
      · replace h := x_iff hq7 h
        refine x_iconst C (v1 := 1) dX2_isCheaper_51 (by decide) ?_
        refine x_goto C (tgt := 56) dX2_isCheaper_52 (by decide) ?_
        exact x_zret C rfl dX2_isCheaper_56 ⟨_, rfl, h⟩
set_option maxHeartbeats 4000000 in
set_option maxRecDepth 100000 in
theorem tX2_isCheaper {g : xG} (hg : x_inj (WC g))  (l : Launch) (a0 : Int32) (a1 : Int32) (M : xMem) (post : Int32 → xMem → Prop)  (h : wX2_isCheaper a0 a1 M post) : xMet (WC g) l yX2_isCheaper cX2_isCheaper 4 (some .boolean) (rm_X2_isCheaper) [.ref (ga g 41), .int a0, .int a1] M (pI post) := by
  refine x_enter (own := RX2) (L0 := [(0, .ref (ga g 41)), (1, .int a0), (2, .int a1)]) (by decide +kernel) rfl hg (x_stC g) (Nat.le_of_ble_eq_true rfl) rfl (fun x hl C => ?_)
  unfold wX2_isCheaper at h
  refine x_iload_n C 1 rfl rfl dX2_isCheaper_0 ?_
  refine x_callS C (st := []) (As := [.int a0]) (tJ6_bitCount_0f7a4 hg _ _ _ _  h) wm_X2_80 wsm_J6_bitCount_0f7a4 wz_J6 wc_J6_bitCount_0f7a4 yd_J6_bitCount_0f7a4 rfl ⟨rfl, rfl⟩ ⟨Nat.le_of_ble_eq_true rfl, Nat.le_of_ble_eq_true rfl⟩ (Nat.le_of_ble_eq_true rfl) rfl dX2_isCheaper_1 (x_ki (fun r2 M1 h => ?_))
  refine x_iload_n C 2 rfl rfl dX2_isCheaper_4 ?_
  refine x_callS C (st := [.int r2]) (As := [.int a1]) (tJ6_bitCount_0f7a4 hg _ _ _ _  h) wm_X2_80 wsm_J6_bitCount_0f7a4 wz_J6 wc_J6_bitCount_0f7a4 yd_J6_bitCount_0f7a4 rfl ⟨rfl, rfl⟩ ⟨Nat.le_of_ble_eq_true rfl, Nat.le_of_ble_eq_true rfl⟩ (Nat.le_of_ble_eq_true rfl) rfl dX2_isCheaper_5 (x_ki (fun r4 M3 h => ?_))
  refine x_icmp_ge C (tgt := 15) dX2_isCheaper_8 (by decide) (fun hq5 => ?_) (fun hq5 => ?_)
  · replace h := x_ift hq5 h
    refine x_iconst C (v1 := 0) dX2_isCheaper_15 (by decide) ?_
    exact tX2_isCheaper_16 hg  C   _ _ _ _  h
  · replace h := x_iff hq5 h
    refine x_iconst C (v1 := 1) dX2_isCheaper_11 (by decide) ?_
    refine x_goto C (tgt := 16) dX2_isCheaper_12 (by decide) ?_
    exact tX2_isCheaper_16 hg  C   _ _ _ _  h
set_option maxHeartbeats 4000000 in
set_option maxRecDepth 100000 in
theorem tX2_chooseFor_228 {g : xG} (hg : x_inj (WC g))  {x : xCx} {o1 : Nat} {o2 : Nat} {K88 : Int32 → Int32 → Int32 → Int32 → xMem → Prop} {K114 : Int32 → Int32 → Int32 → Int32 → Int32 → Int32 → Int32 → xMem → Prop} {post : Int32 → xMem → Prop} (C : xOk (WC g) x cX2_chooseFor RX2 11 (some .boolean) (rm_X2_chooseFor) (pI post)) (ho1 : kC o1 = 4) (ho2 : kC o2 = 5) (hK88 : ∀ (x1 : Int32) (x5 : Int32) (x6 : Int32) (x7 : Int32) (M : xMem), K88 x1 x5 x6 x7 M → xW (WC g) x 11 88 [(0, .ref (ga g 41)), (1, .int x1), (5, .int x5), (6, .int x6), (7, .int x7)] [] M) (hK114 : ∀ (x1 : Int32) (x5 : Int32) (x6 : Int32) (x7 : Int32) (x8 : Int32) (x9 : Int32) (x10 : Int32) (M : xMem), K114 x1 x5 x6 x7 x8 x9 x10 M → xW (WC g) x 11 114 [(0, .ref (ga g 41)), (1, .int x1), (5, .int x5), (6, .int x6), (7, .int x7), (8, .int x8), (9, .int x9), (10, .int x10)] [] M) (x1 : Int32) (x5 : Int32) (x6 : Int32) (x7 : Int32) (x8 : Int32) (x9 : Int32) (x10 : Int32) (M : xMem)  (h : wX2_chooseFor_228 o1 o2 K88 K114 post x1 x5 x6 x7 x8 x9 x10 M) : xW (WC g) x 11 228 [(0, .ref (ga g 41)), (1, .int x1), (5, .int x5), (6, .int x6), (7, .int x7), (8, .int x8), (9, .int x9), (10, .int x10)] [] M := by
  unfold wX2_chooseFor_228 at h
  obtain ⟨v1, ev1⟩ : ∃ z : Int32, z = x10 + 1 := ⟨_, rfl⟩
  replace h := h v1 ev1
  refine x_iinc C 7 (v1 := v1) (L' := [(10, .int v1), (0, .ref (ga g 41)), (1, .int x1), (5, .int x5), (6, .int x6), (7, .int x7), (8, .int x8), (9, .int x9)]) rfl (by rw [ev1]; rfl) rfl (Nat.le_of_ble_eq_true rfl) dX2_chooseFor_228 ?_
  refine x_goto C (tgt := 114) dX2_chooseFor_231 (by decide) ?_
  refine x_loc (L' := [(0, .ref (ga g 41)), (1, .int x1), (5, .int x5), (6, .int x6), (7, .int x7), (8, .int x8), (9, .int x9), (10, .int v1)]) [1, 2, 3, 4, 5, 6, 7, 0] rfl ?_
  exact hK114 _ _ _ _ _ _ _ _  h
set_option maxHeartbeats 4000000 in
set_option maxRecDepth 100000 in
theorem tX2_chooseFor_224 {g : xG} (hg : x_inj (WC g))  {x : xCx} {o1 : Nat} {o2 : Nat} {K88 : Int32 → Int32 → Int32 → Int32 → xMem → Prop} {K114 : Int32 → Int32 → Int32 → Int32 → Int32 → Int32 → Int32 → xMem → Prop} {post : Int32 → xMem → Prop} (C : xOk (WC g) x cX2_chooseFor RX2 11 (some .boolean) (rm_X2_chooseFor) (pI post)) (ho1 : kC o1 = 4) (ho2 : kC o2 = 5) (hK88 : ∀ (x1 : Int32) (x5 : Int32) (x6 : Int32) (x7 : Int32) (M : xMem), K88 x1 x5 x6 x7 M → xW (WC g) x 11 88 [(0, .ref (ga g 41)), (1, .int x1), (5, .int x5), (6, .int x6), (7, .int x7)] [] M) (hK114 : ∀ (x1 : Int32) (x5 : Int32) (x6 : Int32) (x7 : Int32) (x8 : Int32) (x9 : Int32) (x10 : Int32) (M : xMem), K114 x1 x5 x6 x7 x8 x9 x10 M → xW (WC g) x 11 114 [(0, .ref (ga g 41)), (1, .int x1), (5, .int x5), (6, .int x6), (7, .int x7), (8, .int x8), (9, .int x9), (10, .int x10)] [] M) (x1 : Int32) (x5 : Int32) (x7 : Int32) (x8 : Int32) (x9 : Int32) (x10 : Int32) (M : xMem)  (h : wX2_chooseFor_224 o1 o2 K88 K114 post x1 x5 x7 x8 x9 x10 M) : xW (WC g) x 11 224 [(0, .ref (ga g 41)), (1, .int x1), (5, .int x5), (7, .int x7), (8, .int x8), (9, .int x9), (10, .int x10)] [] M := by
  unfold wX2_chooseFor_224 at h
  refine x_iload C 6 rfl dX2_chooseFor_224 ?_
  refine x_istore C (L' := [(6, .int x10), (0, .ref (ga g 41)), (1, .int x1), (5, .int x5), (7, .int x7), (8, .int x8), (9, .int x9), (10, .int x10)]) rfl (Nat.le_of_ble_eq_true rfl) dX2_chooseFor_226 ?_
  refine x_loc (L' := [(0, .ref (ga g 41)), (1, .int x1), (5, .int x5), (6, .int x10), (7, .int x7), (8, .int x8), (9, .int x9), (10, .int x10)]) [1, 2, 3, 0, 4, 5, 6, 7] rfl ?_
  exact tX2_chooseFor_228 hg  C ho1 ho2 hK88 hK114 _ _ _ _ _ _ _ _  h
set_option maxHeartbeats 4000000 in
set_option maxRecDepth 100000 in
theorem tX2_chooseFor_186 {g : xG} (hg : x_inj (WC g))  {x : xCx} {o1 : Nat} {o2 : Nat} {K88 : Int32 → Int32 → Int32 → Int32 → xMem → Prop} {K114 : Int32 → Int32 → Int32 → Int32 → Int32 → Int32 → Int32 → xMem → Prop} {post : Int32 → xMem → Prop} (C : xOk (WC g) x cX2_chooseFor RX2 11 (some .boolean) (rm_X2_chooseFor) (pI post)) (ho1 : kC o1 = 4) (ho2 : kC o2 = 5) (hK88 : ∀ (x1 : Int32) (x5 : Int32) (x6 : Int32) (x7 : Int32) (M : xMem), K88 x1 x5 x6 x7 M → xW (WC g) x 11 88 [(0, .ref (ga g 41)), (1, .int x1), (5, .int x5), (6, .int x6), (7, .int x7)] [] M) (hK114 : ∀ (x1 : Int32) (x5 : Int32) (x6 : Int32) (x7 : Int32) (x8 : Int32) (x9 : Int32) (x10 : Int32) (M : xMem), K114 x1 x5 x6 x7 x8 x9 x10 M → xW (WC g) x 11 114 [(0, .ref (ga g 41)), (1, .int x1), (5, .int x5), (6, .int x6), (7, .int x7), (8, .int x8), (9, .int x9), (10, .int x10)] [] M) (x1 : Int32) (x5 : Int32) (x6 : Int32) (x7 : Int32) (x8 : Int32) (x9 : Int32) (x10 : Int32) (s0 : Int32) (s1 : Int32) (M : xMem)  (h : wX2_chooseFor_186 o1 o2 K88 K114 post x1 x5 x6 x7 x8 x9 x10 s0 s1 M) : xW (WC g) x 11 186 [(0, .ref (ga g 41)), (1, .int x1), (5, .int x5), (6, .int x6), (7, .int x7), (8, .int x8), (9, .int x9), (10, .int x10)] [.int s0, .int s1, .ref (ga g 48)] M := by
  unfold wX2_chooseFor_186 at h
  refine x_aload_n C 0 rfl rfl dX2_chooseFor_186 ?_
  refine x_get C (c := 41) (ci := 2) (k1 := 1) (v1 := .ref (ga g 42)) (enC_2 (c := 41) rfl) (Nat.le_of_ble_eq_true rfl) rfl inX2 (by decide) wf_X2_15 rfl dX2_chooseFor_187 ?_
  refine x_iload C 6 rfl dX2_chooseFor_190 ?_
  obtain ⟨hi1, h⟩ := h
  refine x_iald C 0 (c := 42) (enC_20n (c := 42) (n := 10) rfl rfl) (Nat.le_of_ble_eq_true rfl) rfl hi1 dX2_chooseFor_192 ?_
  refine x_iload_n C 1 rfl rfl dX2_chooseFor_193 ?_
  refine x_iand C dX2_chooseFor_194 ?_
  refine x_ior C dX2_chooseFor_195 ?_
  obtain ⟨hi2, h⟩ := h
  refine x_iast C 0 (c := 48) (enC_20n (c := 48) (n := 1024) rfl rfl) (Nat.le_of_ble_eq_true rfl) rfl hi2 dX2_chooseFor_196 ?_
  refine x_nmM (fun M3 eM3 => ?_)
  replace h := h M3 eM3
  refine x_aload_n C 0 rfl rfl dX2_chooseFor_197 ?_
  refine x_get C (c := 41) (ci := 2) (k1 := 7) (v1 := .ref (ga g 48)) (enC_2 (c := 41) rfl) (Nat.le_of_ble_eq_true rfl) rfl inX2 (by decide) wf_X2_34 rfl dX2_chooseFor_198 ?_
  refine x_iload C 7 rfl dX2_chooseFor_201 ?_
  obtain ⟨hi4, h⟩ := h
  refine x_iald C 0 (c := 48) (enC_20n (c := 48) (n := 1024) rfl rfl) (Nat.le_of_ble_eq_true rfl) rfl hi4 dX2_chooseFor_203 ?_
  refine x_iload_n C 1 rfl rfl dX2_chooseFor_204 ?_
  refine x_icmp_ne C (tgt := 228) dX2_chooseFor_205 (by decide) (fun hq5 => ?_) (fun hq5 => ?_)
  · replace h := x_iff hq5 h
    exact tX2_chooseFor_228 hg  C ho1 ho2 hK88 hK114 _ _ _ _ _ _ _ _  h
  · replace h := x_ift hq5 h
    refine x_iload C 3 rfl dX2_chooseFor_208 ?_
    refine x_if_eq C (tgt := 224) dX2_chooseFor_210 (by decide) (fun hq6 => ?_) (fun hq6 => ?_)
    · replace h := x_ift hq6 h
      refine x_loc (L' := [(0, .ref (ga g 41)), (1, .int x1), (5, .int x5), (7, .int x7), (8, .int x8), (9, .int x9), (10, .int x10)]) [0, 1, 2, 4, 5, 6, 7] rfl ?_
      exact tX2_chooseFor_224 hg  C ho1 ho2 hK88 hK114 _ _ _ _ _ _ _  h
    · replace h := x_iff hq6 h
      refine x_aload_n C 0 rfl rfl dX2_chooseFor_213 ?_
      refine x_iload C 7 rfl dX2_chooseFor_214 ?_
      refine x_iload C 3 rfl dX2_chooseFor_216 ?_
      refine x_callV C (st := []) (As := [.int x10, .int x6]) (c := 41) (ci := 2) (enC_2 (c := 41) rfl) (Nat.le_of_ble_eq_true rfl) rfl (tX2_isCheaper hg _ _ _ _ _  h) wm_X2_73 wi_X2_isCheaper wv_X2_isCheaper wz_X2 wc_X2_isCheaper rfl yd_X2_isCheaper rfl ⟨rfl, rfl⟩ ⟨Nat.le_of_ble_eq_true rfl, Nat.le_of_ble_eq_true rfl⟩ (Nat.le_of_ble_eq_true rfl) rfl dX2_chooseFor_218 (x_ki (fun r8 M7 h => ?_))
      refine x_if_eq C (tgt := 228) dX2_chooseFor_221 (by decide) (fun hq9 => ?_) (fun hq9 => ?_)
      · replace h := x_ift hq9 h
        exact tX2_chooseFor_228 hg  C ho1 ho2 hK88 hK114 _ _ _ _ _ _ _ _  h
      · replace h := x_iff hq9 h
        refine x_loc (L' := [(0, .ref (ga g 41)), (1, .int x1), (5, .int x5), (7, .int x7), (8, .int x8), (9, .int x9), (10, .int x10)]) [0, 1, 2, 4, 5, 6, 7] rfl ?_
        exact tX2_chooseFor_224 hg  C ho1 ho2 hK88 hK114 _ _ _ _ _ _ _  h
set_option maxHeartbeats 4000000 in
set_option maxRecDepth 100000 in
theorem tX2_chooseFor_150 {g : xG} (hg : x_inj (WC g))  {x : xCx} {o1 : Nat} {o2 : Nat} {K88 : Int32 → Int32 → Int32 → Int32 → xMem → Prop} {K114 : Int32 → Int32 → Int32 → Int32 → Int32 → Int32 → Int32 → xMem → Prop} {post : Int32 → xMem → Prop} (C : xOk (WC g) x cX2_chooseFor RX2 11 (some .boolean) (rm_X2_chooseFor) (pI post)) (ho1 : kC o1 = 4) (ho2 : kC o2 = 5) (hK88 : ∀ (x1 : Int32) (x5 : Int32) (x6 : Int32) (x7 : Int32) (M : xMem), K88 x1 x5 x6 x7 M → xW (WC g) x 11 88 [(0, .ref (ga g 41)), (1, .int x1), (5, .int x5), (6, .int x6), (7, .int x7)] [] M) (hK114 : ∀ (x1 : Int32) (x5 : Int32) (x6 : Int32) (x7 : Int32) (x8 : Int32) (x9 : Int32) (x10 : Int32) (M : xMem), K114 x1 x5 x6 x7 x8 x9 x10 M → xW (WC g) x 11 114 [(0, .ref (ga g 41)), (1, .int x1), (5, .int x5), (6, .int x6), (7, .int x7), (8, .int x8), (9, .int x9), (10, .int x10)] [] M) (x1 : Int32) (x5 : Int32) (x6 : Int32) (x7 : Int32) (x8 : Int32) (x9 : Int32) (x10 : Int32) (s0 : Int32) (s1 : Int32) (M : xMem)  (h : wX2_chooseFor_150 o1 o2 K88 K114 post x1 x5 x6 x7 x8 x9 x10 s0 s1 M) : xW (WC g) x 11 150 [(0, .ref (ga g 41)), (1, .int x1), (5, .int x5), (6, .int x6), (7, .int x7), (8, .int x8), (9, .int x9), (10, .int x10)] [.int s0, .int s1, .ref (ga g 47)] M := by
  unfold wX2_chooseFor_150 at h
  refine x_aload_n C 0 rfl rfl dX2_chooseFor_150 ?_
  refine x_get C (c := 41) (ci := 2) (k1 := 4) (v1 := .ref (ga g 45)) (enC_2 (c := 41) rfl) (Nat.le_of_ble_eq_true rfl) rfl inX2 (by decide) wf_X2_25 rfl dX2_chooseFor_151 ?_
  refine x_iload C 6 rfl dX2_chooseFor_154 ?_
  obtain ⟨hi1, h⟩ := h
  refine x_iald C 0 (c := 45) (enC_20n (c := 45) (n := 10) rfl rfl) (Nat.le_of_ble_eq_true rfl) rfl hi1 dX2_chooseFor_156 ?_
  refine x_iadd C dX2_chooseFor_157 ?_
  obtain ⟨hi2, h⟩ := h
  refine x_iast C 0 (c := 47) (enC_20n (c := 47) (n := 1024) rfl rfl) (Nat.le_of_ble_eq_true rfl) rfl hi2 dX2_chooseFor_158 ?_
  refine x_nmM (fun M3 eM3 => ?_)
  replace h := h M3 eM3
  refine x_aload_n C 0 rfl rfl dX2_chooseFor_159 ?_
  refine x_get C (c := 41) (ci := 2) (k1 := 7) (v1 := .ref (ga g 48)) (enC_2 (c := 41) rfl) (Nat.le_of_ble_eq_true rfl) rfl inX2 (by decide) wf_X2_34 rfl dX2_chooseFor_160 ?_
  refine x_iload C 7 rfl dX2_chooseFor_163 ?_
  refine x_iload C 7 rfl dX2_chooseFor_165 ?_
  refine x_iload C 5 rfl dX2_chooseFor_167 ?_
  refine x_icmp_ne C (tgt := 176) dX2_chooseFor_169 (by decide) (fun hq4 => ?_) (fun hq4 => ?_)
  · replace h := x_iff hq4 h
    refine x_aload_n C 0 rfl rfl dX2_chooseFor_176 ?_
    refine x_get C (c := 41) (ci := 2) (k1 := 7) (v1 := .ref (ga g 48)) (enC_2 (c := 41) rfl) (Nat.le_of_ble_eq_true rfl) rfl inX2 (by decide) wf_X2_34 rfl dX2_chooseFor_177 ?_
    refine x_iload C 7 rfl dX2_chooseFor_180 ?_
    refine x_iload C 5 rfl dX2_chooseFor_182 ?_
    refine x_isub C dX2_chooseFor_184 ?_
    obtain ⟨hi5, h⟩ := h
    refine x_iald C 0 (c := 48) (enC_20n (c := 48) (n := 1024) rfl rfl) (Nat.le_of_ble_eq_true rfl) rfl hi5 dX2_chooseFor_185 ?_
    exact tX2_chooseFor_186 hg  C ho1 ho2 hK88 hK114 _ _ _ _ _ _ _ _ _ _  h
  · replace h := x_ift hq4 h
    refine x_iconst C (v1 := 0) dX2_chooseFor_172 (by decide) ?_
    refine x_goto C (tgt := 186) dX2_chooseFor_173 (by decide) ?_
    exact tX2_chooseFor_186 hg  C ho1 ho2 hK88 hK114 _ _ _ _ _ _ _ _ _ _  h
set_option maxHeartbeats 4000000 in
set_option maxRecDepth 100000 in
theorem tX2_chooseFor_114 {g : xG} (hg : x_inj (WC g))  {x : xCx} {o1 : Nat} {o2 : Nat} {K88 : Int32 → Int32 → Int32 → Int32 → xMem → Prop} {post : Int32 → xMem → Prop} (C : xOk (WC g) x cX2_chooseFor RX2 11 (some .boolean) (rm_X2_chooseFor) (pI post)) (ho1 : kC o1 = 4) (ho2 : kC o2 = 5) (hK88 : ∀ (x1 : Int32) (x5 : Int32) (x6 : Int32) (x7 : Int32) (M : xMem), K88 x1 x5 x6 x7 M → xW (WC g) x 11 88 [(0, .ref (ga g 41)), (1, .int x1), (5, .int x5), (6, .int x6), (7, .int x7)] [] M) : ∀ (n : Nat) (x1 : Int32) (x5 : Int32) (x6 : Int32) (x7 : Int32) (x8 : Int32) (x9 : Int32) (x10 : Int32) (M : xMem), wX2_chooseFor_114 o1 o2 K88 post n x1 x5 x6 x7 x8 x9 x10 M → xW (WC g) x 11 114 [(0, .ref (ga g 41)), (1, .int x1), (5, .int x5), (6, .int x6), (7, .int x7), (8, .int x8), (9, .int x9), (10, .int x10)] [] M := by
  intro n
  induction n with
  | zero =>
    intro x1 x5 x6 x7 x8 x9 x10 M  h
    exact h.elim
  | succ n ih =>
    intro x1 x5 x6 x7 x8 x9 x10 M  h
    rw [wX2_chooseFor_114] at h
    refine x_iload C 7 rfl dX2_chooseFor_114 ?_
    refine x_iconst C (v1 := 2) dX2_chooseFor_116 (by decide) ?_
    refine x_iload C 5 rfl dX2_chooseFor_117 ?_
    refine x_imul C dX2_chooseFor_119 ?_
    refine x_icmp_ge C (tgt := 234) dX2_chooseFor_120 (by decide) (fun hq1 => ?_) (fun hq1 => ?_)
    · replace h := x_ift hq1 h
      obtain ⟨v2, ev2⟩ : ∃ z : Int32, z = x7 + 1 := ⟨_, rfl⟩
      replace h := h v2 ev2
      refine x_iinc C 4 (v1 := v2) (L' := [(7, .int v2), (0, .ref (ga g 41)), (1, .int x1), (5, .int x5), (6, .int x6), (8, .int x8), (9, .int x9), (10, .int x10)]) rfl (by rw [ev2]; rfl) rfl (Nat.le_of_ble_eq_true rfl) dX2_chooseFor_234 ?_
      refine x_goto C (tgt := 88) dX2_chooseFor_237 (by decide) ?_
      refine x_loc (L' := [(0, .ref (ga g 41)), (1, .int x1), (5, .int x5), (6, .int x6), (7, .int v2)]) [1, 2, 3, 4, 0] rfl ?_
      exact hK88 _ _ _ _ _  h
    · replace h := x_iff hq1 h
      refine x_aload_n C 0 rfl rfl dX2_chooseFor_123 ?_
      refine x_get C (c := 41) (ci := 2) (k1 := 6) (v1 := .ref (ga g 47)) (enC_2 (c := 41) rfl) (Nat.le_of_ble_eq_true rfl) rfl inX2 (by decide) wf_X2_31 rfl dX2_chooseFor_124 ?_
      refine x_iload C 7 rfl dX2_chooseFor_127 ?_
      refine x_iload C 7 rfl dX2_chooseFor_129 ?_
      refine x_iload C 5 rfl dX2_chooseFor_131 ?_
      refine x_icmp_ne C (tgt := 140) dX2_chooseFor_133 (by decide) (fun hq3 => ?_) (fun hq3 => ?_)
      · replace h := x_iff hq3 h
        refine x_aload_n C 0 rfl rfl dX2_chooseFor_140 ?_
        refine x_get C (c := 41) (ci := 2) (k1 := 6) (v1 := .ref (ga g 47)) (enC_2 (c := 41) rfl) (Nat.le_of_ble_eq_true rfl) rfl inX2 (by decide) wf_X2_31 rfl dX2_chooseFor_141 ?_
        refine x_iload C 7 rfl dX2_chooseFor_144 ?_
        refine x_iload C 5 rfl dX2_chooseFor_146 ?_
        refine x_isub C dX2_chooseFor_148 ?_
        obtain ⟨hi4, h⟩ := h
        refine x_iald C 0 (c := 47) (enC_20n (c := 47) (n := 1024) rfl rfl) (Nat.le_of_ble_eq_true rfl) rfl hi4 dX2_chooseFor_149 ?_
        exact tX2_chooseFor_150 hg  C ho1 ho2 hK88 ih _ _ _ _ _ _ _ _ _ _  h
      · replace h := x_ift hq3 h
        refine x_iconst C (v1 := 0) dX2_chooseFor_136 (by decide) ?_
        refine x_goto C (tgt := 150) dX2_chooseFor_137 (by decide) ?_
        exact tX2_chooseFor_150 hg  C ho1 ho2 hK88 ih _ _ _ _ _ _ _ _ _ _  h
set_option maxHeartbeats 4000000 in
set_option maxRecDepth 100000 in
theorem tX2_chooseFor_88 {g : xG} (hg : x_inj (WC g))  {x : xCx} {o1 : Nat} {o2 : Nat}  {post : Int32 → xMem → Prop} (C : xOk (WC g) x cX2_chooseFor RX2 11 (some .boolean) (rm_X2_chooseFor) (pI post)) (ho1 : kC o1 = 4) (ho2 : kC o2 = 5)  : ∀ (n : Nat) (x1 : Int32) (x5 : Int32) (x6 : Int32) (x7 : Int32) (M : xMem), wX2_chooseFor_88 o1 o2 post n x1 x5 x6 x7 M → xW (WC g) x 11 88 [(0, .ref (ga g 41)), (1, .int x1), (5, .int x5), (6, .int x6), (7, .int x7)] [] M := by
  intro n
  induction n with
  | zero =>
    intro x1 x5 x6 x7 M  h
    exact h.elim
  | succ n ih =>
    intro x1 x5 x6 x7 M  h
    rw [wX2_chooseFor_88] at h
    refine x_iload C 4 rfl dX2_chooseFor_88 ?_
    refine x_iload C 2 rfl dX2_chooseFor_90 ?_
    refine x_icmp_ge C (tgt := 240) dX2_chooseFor_92 (by decide) (fun hq1 => ?_) (fun hq1 => ?_)
    · replace h := x_ift hq1 h
      refine x_aload_n C 0 rfl rfl dX2_chooseFor_240 ?_
      refine x_aload_n C 0 rfl rfl dX2_chooseFor_241 ?_
      refine x_iload C 3 rfl dX2_chooseFor_242 ?_
      refine x_iload C 2 rfl dX2_chooseFor_244 ?_
      refine x_callV C (st := [.ref (ga g 41)]) (As := [.int x6, .int x5]) (c := 41) (ci := 2) (enC_2 (c := 41) rfl) (Nat.le_of_ble_eq_true rfl) rfl (tX2_endsOf hg _ _ _ _ _  h) wm_X2_76 wi_X2_endsOf wv_X2_endsOf wz_X2 wc_X2_endsOf rfl yd_X2_endsOf rfl ⟨rfl, rfl⟩ ⟨Nat.le_of_ble_eq_true rfl, Nat.le_of_ble_eq_true rfl⟩ (Nat.le_of_ble_eq_true rfl) rfl dX2_chooseFor_246 (x_ki (fun r3 M2 h => ?_))
      refine x_put C (c := 41) (ci := 2) (k1 := 8) (u1 := r3) (v1 := .int r3) (ty := .int) (enC_2 (c := 41) rfl) (Nat.le_of_ble_eq_true rfl) rfl inX2 (by decide) (stX2_8 _ _ _) tyX2 tyX2_ok nmX2 wf_X2_37 rfl rfl rfl rfl (Nat.le_of_ble_eq_true rfl) dX2_chooseFor_249 ?_
      refine x_nmM (fun M4 eM4 => ?_)
      replace h := h M4 eM4
      refine x_aload_n C 0 rfl rfl dX2_chooseFor_252 ?_
      refine x_aload_n C 0 rfl rfl dX2_chooseFor_253 ?_
      refine x_get C (c := 41) (ci := 2) (k1 := 6) (v1 := .ref (ga g 47)) (enC_2 (c := 41) rfl) (Nat.le_of_ble_eq_true rfl) rfl inX2 (by decide) wf_X2_31 rfl dX2_chooseFor_254 ?_
      refine x_iload C 3 rfl dX2_chooseFor_257 ?_
      obtain ⟨hi5, h⟩ := h
      refine x_iald C 0 (c := 47) (enC_20n (c := 47) (n := 1024) rfl rfl) (Nat.le_of_ble_eq_true rfl) rfl hi5 dX2_chooseFor_259 ?_
      refine x_put C (c := 41) (ci := 2) (k1 := 9) (u1 := (gi M4 47 x6.toNatClampNeg)) (v1 := .int (gi M4 47 x6.toNatClampNeg)) (ty := .int) (enC_2 (c := 41) rfl) (Nat.le_of_ble_eq_true rfl) rfl inX2 (by decide) (stX2_9 _ _ _) tyX2 tyX2_ok nmX2 wf_X2_40 rfl rfl rfl rfl (Nat.le_of_ble_eq_true rfl) dX2_chooseFor_260 ?_
      refine x_nmM (fun M6 eM6 => ?_)
      replace h := h M6 eM6
      refine x_iload C 3 rfl dX2_chooseFor_263 ?_
      refine x_if_eq C (tgt := 272) dX2_chooseFor_265 (by decide) (fun hq7 => ?_) (fun hq7 => ?_)
      · replace h := x_ift hq7 h
        refine x_iconst C (v1 := 0) dX2_chooseFor_272 (by decide) ?_
        exact x_zret C rfl dX2_chooseFor_273 ⟨_, rfl, h⟩
      · replace h := x_iff hq7 h
        refine x_iconst C (v1 := 1) dX2_chooseFor_268 (by decide) ?_
        refine x_goto C (tgt := 273) dX2_chooseFor_269 (by decide) ?_
        exact x_zret C rfl dX2_chooseFor_273 ⟨_, rfl, h⟩
    · replace h := x_iff hq1 h
      refine x_iconst C (v1 := 1) dX2_chooseFor_95 (by decide) ?_
      refine x_iload C 4 rfl dX2_chooseFor_96 ?_
      refine x_ishl C dX2_chooseFor_98 ?_
      refine x_nm (fun v8 ev8 => ?_)
      replace h := h v8 ev8
      refine x_istore C (L' := [(8, .int v8), (0, .ref (ga g 41)), (1, .int x1), (5, .int x5), (6, .int x6), (7, .int x7)]) rfl (Nat.le_of_ble_eq_true rfl) dX2_chooseFor_99 ?_
      refine x_aload_n C 1 rfl rfl dX2_chooseFor_101 ?_
      refine x_get C (c := 41) (ci := 2) (k1 := 5) (v1 := .ref (ga g 46)) (enC_2 (c := 41) rfl) (Nat.le_of_ble_eq_true rfl) rfl inX2 (by decide) wf_X2_28 rfl dX2_chooseFor_102 ?_
      refine x_iload C 5 rfl dX2_chooseFor_105 ?_
      obtain ⟨hi9, h⟩ := h
      refine x_iald C 0 (c := 46) (enC_20n (c := 46) (n := 10) rfl rfl) (Nat.le_of_ble_eq_true rfl) rfl hi9 dX2_chooseFor_107 ?_
      refine x_nm (fun v10 ev10 => ?_)
      replace h := h v10 ev10
      refine x_istore C (L' := [(9, .int v10), (8, .int v8), (0, .ref (ga g 41)), (1, .int x1), (5, .int x5), (6, .int x6), (7, .int x7)]) rfl (Nat.le_of_ble_eq_true rfl) dX2_chooseFor_108 ?_
      refine x_iload C 1 rfl dX2_chooseFor_110 ?_
      refine x_istore C (L' := [(10, .int v8), (9, .int v10), (8, .int v8), (0, .ref (ga g 41)), (1, .int x1), (5, .int x5), (6, .int x6), (7, .int x7)]) rfl (Nat.le_of_ble_eq_true rfl) dX2_chooseFor_112 ?_
      refine x_loc (L' := [(0, .ref (ga g 41)), (1, .int x1), (5, .int x5), (6, .int x6), (7, .int x7), (8, .int v8), (9, .int v10), (10, .int v8)]) [3, 4, 5, 6, 7, 2, 1, 0] rfl ?_
      obtain ⟨n114, h⟩ := h
      exact tX2_chooseFor_114 hg  C ho1 ho2 ih _ _ _ _ _ _ _ _ _  h
set_option maxHeartbeats 4000000 in
set_option maxRecDepth 100000 in
theorem tX2_chooseFor_76 {g : xG} (hg : x_inj (WC g))  {x : xCx} {o1 : Nat} {o2 : Nat} {K6 : Int32 → Int32 → Int32 → xMem → Prop} {post : Int32 → xMem → Prop} (C : xOk (WC g) x cX2_chooseFor RX2 11 (some .boolean) (rm_X2_chooseFor) (pI post)) (ho1 : kC o1 = 4) (ho2 : kC o2 = 5) (hK6 : ∀ (x1 : Int32) (x5 : Int32) (x6 : Int32) (M : xMem), K6 x1 x5 x6 M → xW (WC g) x 11 6 [(0, .ref (ga g 41)), (1, .int x1), (2, .ref (ga g o1)), (3, .ref (ga g o2)), (4, .ref (ga g 76)), (5, .int x5), (6, .int x6)] [] M) (x1 : Int32) (x5 : Int32) (x6 : Int32) (M : xMem)  (h : wX2_chooseFor_76 o1 o2 K6 post x1 x5 x6 M) : xW (WC g) x 11 76 [(0, .ref (ga g 41)), (1, .int x1), (2, .ref (ga g o1)), (3, .ref (ga g o2)), (4, .ref (ga g 76)), (5, .int x5), (6, .int x6)] [] M := by
  unfold wX2_chooseFor_76 at h
  obtain ⟨v1, ev1⟩ : ∃ z : Int32, z = x6 + 1 := ⟨_, rfl⟩
  replace h := h v1 ev1
  refine x_iinc C 6 (v1 := v1) (L' := [(6, .int v1), (0, .ref (ga g 41)), (1, .int x1), (2, .ref (ga g o1)), (3, .ref (ga g o2)), (4, .ref (ga g 76)), (5, .int x5)]) rfl (by rw [ev1]; rfl) rfl (Nat.le_of_ble_eq_true rfl) dX2_chooseFor_76 ?_
  refine x_goto C (tgt := 6) dX2_chooseFor_79 (by decide) ?_
  refine x_loc (L' := [(0, .ref (ga g 41)), (1, .int x1), (2, .ref (ga g o1)), (3, .ref (ga g o2)), (4, .ref (ga g 76)), (5, .int x5), (6, .int v1)]) [1, 2, 3, 4, 5, 6, 0] rfl ?_
  exact hK6 _ _ _ _  h
set_option maxHeartbeats 4000000 in
set_option maxRecDepth 100000 in
theorem tX2_chooseFor_6 {g : xG} (hg : x_inj (WC g))  {x : xCx} {o1 : Nat} {o2 : Nat}  {post : Int32 → xMem → Prop} (C : xOk (WC g) x cX2_chooseFor RX2 11 (some .boolean) (rm_X2_chooseFor) (pI post)) (ho1 : kC o1 = 4) (ho2 : kC o2 = 5)  : ∀ (n : Nat) (x1 : Int32) (x5 : Int32) (x6 : Int32) (M : xMem), wX2_chooseFor_6 o1 o2 post n x1 x5 x6 M → xW (WC g) x 11 6 [(0, .ref (ga g 41)), (1, .int x1), (2, .ref (ga g o1)), (3, .ref (ga g o2)), (4, .ref (ga g 76)), (5, .int x5), (6, .int x6)] [] M := by
  intro n
  induction n with
  | zero =>
    intro x1 x5 x6 M  h
    exact h.elim
  | succ n ih =>
    intro x1 x5 x6 M  h
    rw [wX2_chooseFor_6] at h
    refine x_iload C 6 rfl dX2_chooseFor_6 ?_
    refine x_bipush C (v1 := 10) dX2_chooseFor_8 (by decide) ?_
    refine x_icmp_ge C (tgt := 82) dX2_chooseFor_10 (by decide) (fun hq1 => ?_) (fun hq1 => ?_)
    · replace h := x_ift hq1 h
      refine x_iconst C (v1 := 0) dX2_chooseFor_82 (by decide) ?_
      refine x_istore C (L' := [(6, .int 0), (0, .ref (ga g 41)), (1, .int x1), (2, .ref (ga g o1)), (3, .ref (ga g o2)), (4, .ref (ga g 76)), (5, .int x5)]) rfl (Nat.le_of_ble_eq_true rfl) dX2_chooseFor_83 ?_
      refine x_iconst C (v1 := 0) dX2_chooseFor_85 (by decide) ?_
      refine x_istore C (L' := [(7, .int 0), (6, .int 0), (0, .ref (ga g 41)), (1, .int x1), (2, .ref (ga g o1)), (3, .ref (ga g o2)), (4, .ref (ga g 76)), (5, .int x5)]) rfl (Nat.le_of_ble_eq_true rfl) dX2_chooseFor_86 ?_
      refine x_loc (L' := [(0, .ref (ga g 41)), (1, .int x1), (5, .int x5), (6, .int 0), (7, .int 0)]) [2, 3, 7, 1, 0] rfl ?_
      obtain ⟨n88, h⟩ := h
      exact tX2_chooseFor_88 hg  C ho1 ho2  _ _ _ _ _ _  h
    · replace h := x_iff hq1 h
      refine x_aload_n C 0 rfl rfl dX2_chooseFor_13 ?_
      refine x_get C (c := 41) (ci := 2) (k1 := 0) (v1 := .int (gi M 41 0)) (enC_2 (c := 41) rfl) (Nat.le_of_ble_eq_true rfl) rfl inX2 (by decide) wf_X2_9 rfl dX2_chooseFor_14 ?_
      refine x_iload C 6 rfl dX2_chooseFor_17 ?_
      refine x_callSN C (st := []) (As := [.int (gi M 41 0), .int x6]) (tX11_has hg _ _ _ _ _  h) wmn_X2_56 wsm_X11_has wz_X11 wc_X11_has yd_X11_has rfl ⟨rfl, rfl⟩ ⟨Nat.le_of_ble_eq_true rfl, Nat.le_of_ble_eq_true rfl⟩ (Nat.le_of_ble_eq_true rfl) rfl dX2_chooseFor_19 (x_ki (fun r3 M2 h => ?_))
      refine x_if_eq C (tgt := 76) dX2_chooseFor_22 (by decide) (fun hq4 => ?_) (fun hq4 => ?_)
      · replace h := x_ift hq4 h
        exact tX2_chooseFor_76 hg  C ho1 ho2 ih _ _ _ _  h
      · replace h := x_iff hq4 h
        refine x_aload_n C 2 rfl rfl dX2_chooseFor_25 ?_
        refine x_getN C (c := o1) (ci := 4) (k1 := 9) (v1 := .ref (ga g ((o1 + 8)))) (enC_4 (c := o1) ho1) (kC_lt ho1 (by decide)) rfl inX4 (by decide) wfn_X2_60 rfl dX2_chooseFor_26 ?_
        refine x_iload C 6 rfl dX2_chooseFor_29 ?_
        obtain ⟨hi5, h⟩ := h
        refine x_iald C 0 (c := (o1 + 8)) (enC_20n (c := (o1 + 8)) (n := 10) (krX4_8 ho1) (lrX4_8 ho1)) (kC_lt (krX4_8 ho1) (by decide)) rfl hi5 dX2_chooseFor_31 ?_
        refine x_if_le C (tgt := 76) dX2_chooseFor_32 (by decide) (fun hq6 => ?_) (fun hq6 => ?_)
        · replace h := x_ift hq6 h
          exact tX2_chooseFor_76 hg  C ho1 ho2 ih _ _ _ _  h
        · replace h := x_iff hq6 h
          refine x_aload_n C 0 rfl rfl dX2_chooseFor_35 ?_
          refine x_get C (c := 41) (ci := 2) (k1 := 1) (v1 := .ref (ga g 42)) (enC_2 (c := 41) rfl) (Nat.le_of_ble_eq_true rfl) rfl inX2 (by decide) wf_X2_15 rfl dX2_chooseFor_36 ?_
          refine x_iload C 6 rfl dX2_chooseFor_39 ?_
          obtain ⟨hi7, h⟩ := h
          refine x_iald C 0 (c := 42) (enC_20n (c := 42) (n := 10) rfl rfl) (Nat.le_of_ble_eq_true rfl) rfl hi7 dX2_chooseFor_41 ?_
          refine x_iload_n C 1 rfl rfl dX2_chooseFor_42 ?_
          refine x_iand C dX2_chooseFor_43 ?_
          refine x_if_eq C (tgt := 76) dX2_chooseFor_44 (by decide) (fun hq8 => ?_) (fun hq8 => ?_)
          · replace h := x_ift hq8 h
            exact tX2_chooseFor_76 hg  C ho1 ho2 ih _ _ _ _  h
          · replace h := x_iff hq8 h
            refine x_aload_n C 0 rfl rfl dX2_chooseFor_47 ?_
            refine x_get C (c := 41) (ci := 2) (k1 := 4) (v1 := .ref (ga g 45)) (enC_2 (c := 41) rfl) (Nat.le_of_ble_eq_true rfl) rfl inX2 (by decide) wf_X2_25 rfl dX2_chooseFor_48 ?_
            refine x_iload C 6 rfl dX2_chooseFor_51 ?_
            refine x_aload C 4 rfl dX2_chooseFor_53 ?_
            refine x_aload_n C 2 rfl rfl dX2_chooseFor_55 ?_
            refine x_aload_n C 3 rfl rfl dX2_chooseFor_56 ?_
            refine x_iconst C (v1 := 1) dX2_chooseFor_57 (by decide) ?_
            refine x_iload C 6 rfl dX2_chooseFor_58 ?_
            refine x_callVN C (st := [.int x6, .ref (ga g 45)]) (As := [.ref (ga g o1), .ref (ga g o2), .int 1, .int x6]) (c := 76) (ci := 0) (enC_0 (c := 76) rfl) (Nat.le_of_ble_eq_true rfl) rfl (tX0_ofEnd hg _ _ _ _ _ _ _ ho1 ho2 h) wmn_X2_67 wi_X0_ofEnd wv_X0_ofEnd wz_X0 wc_X0_ofEnd yd_X0_ofEnd rfl ⟨rfl, rfl⟩ ⟨Nat.le_of_ble_eq_true rfl, Nat.le_of_ble_eq_true rfl⟩ (Nat.le_of_ble_eq_true rfl) rfl dX2_chooseFor_60 (x_ki (fun r10 M9 h => ?_))
            obtain ⟨hi11, h⟩ := h
            refine x_iast C 0 (c := 45) (enC_20n (c := 45) (n := 10) rfl rfl) (Nat.le_of_ble_eq_true rfl) rfl hi11 dX2_chooseFor_63 ?_
            refine x_nmM (fun M12 eM12 => ?_)
            replace h := h M12 eM12
            refine x_aload_n C 0 rfl rfl dX2_chooseFor_64 ?_
            refine x_get C (c := 41) (ci := 2) (k1 := 5) (v1 := .ref (ga g 46)) (enC_2 (c := 41) rfl) (Nat.le_of_ble_eq_true rfl) rfl inX2 (by decide) wf_X2_28 rfl dX2_chooseFor_65 ?_
            refine x_iload C 5 rfl dX2_chooseFor_68 ?_
            refine x_iload C 6 rfl dX2_chooseFor_70 ?_
            obtain ⟨hi13, h⟩ := h
            refine x_iast C 0 (c := 46) (enC_20n (c := 46) (n := 10) rfl rfl) (Nat.le_of_ble_eq_true rfl) rfl hi13 dX2_chooseFor_72 ?_
            refine x_nmM (fun M14 eM14 => ?_)
            replace h := h M14 eM14
            obtain ⟨v15, ev15⟩ : ∃ z : Int32, z = x5 + 1 := ⟨_, rfl⟩
            replace h := h v15 ev15
            refine x_iinc C 5 (v1 := v15) (L' := [(5, .int v15), (0, .ref (ga g 41)), (1, .int x1), (2, .ref (ga g o1)), (3, .ref (ga g o2)), (4, .ref (ga g 76)), (6, .int x6)]) rfl (by rw [ev15]; rfl) rfl (Nat.le_of_ble_eq_true rfl) dX2_chooseFor_73 ?_
            refine x_loc (L' := [(0, .ref (ga g 41)), (1, .int x1), (2, .ref (ga g o1)), (3, .ref (ga g o2)), (4, .ref (ga g 76)), (5, .int v15), (6, .int x6)]) [1, 2, 3, 4, 5, 0, 6] rfl ?_
            exact tX2_chooseFor_76 hg  C ho1 ho2 ih _ _ _ _  h
set_option maxHeartbeats 4000000 in
set_option maxRecDepth 100000 in
theorem tX2_chooseFor {g : xG} (hg : x_inj (WC g))  (l : Launch) (a0 : Int32) (o1 : Nat) (o2 : Nat) (M : xMem) (post : Int32 → xMem → Prop) (ho1 : kC o1 = 4) (ho2 : kC o2 = 5) (h : wX2_chooseFor a0 o1 o2 M post) : xMet (WC g) l yX2_chooseFor cX2_chooseFor 11 (some .boolean) (rm_X2_chooseFor) [.ref (ga g 41), .int a0, .ref (ga g o1), .ref (ga g o2), .ref (ga g 76)] M (pI post) := by
  refine x_enter (own := RX2) (L0 := [(0, .ref (ga g 41)), (1, .int a0), (2, .ref (ga g o1)), (3, .ref (ga g o2)), (4, .ref (ga g 76))]) (by decide +kernel) rfl hg (x_stC g) (Nat.le_of_ble_eq_true rfl) rfl (fun x hl C => ?_)
  unfold wX2_chooseFor at h
  refine x_iconst C (v1 := 0) dX2_chooseFor_0 (by decide) ?_
  refine x_istore C (L' := [(5, .int 0), (0, .ref (ga g 41)), (1, .int a0), (2, .ref (ga g o1)), (3, .ref (ga g o2)), (4, .ref (ga g 76))]) rfl (Nat.le_of_ble_eq_true rfl) dX2_chooseFor_1 ?_
  refine x_iconst C (v1 := 0) dX2_chooseFor_3 (by decide) ?_
  refine x_istore C (L' := [(6, .int 0), (5, .int 0), (0, .ref (ga g 41)), (1, .int a0), (2, .ref (ga g o1)), (3, .ref (ga g o2)), (4, .ref (ga g 76))]) rfl (Nat.le_of_ble_eq_true rfl) dX2_chooseFor_4 ?_
  refine x_loc (L' := [(0, .ref (ga g 41)), (1, .int a0), (2, .ref (ga g o1)), (3, .ref (ga g o2)), (4, .ref (ga g 76)), (5, .int 0), (6, .int 0)]) [2, 3, 4, 5, 6, 1, 0] rfl ?_
  obtain ⟨n6, h⟩ := h
  exact tX2_chooseFor_6 hg  C ho1 ho2  _ _ _ _ _  h
set_option maxHeartbeats 4000000 in
set_option maxRecDepth 100000 in
theorem tX1_visit_196 {g : xG} (hg : x_inj (WC g))  {x : xCx}  {K169 : Int32 → Int32 → Int32 → xMem → Prop} {post : xMem → Prop} (C : xOk (WC g) x cX1_visit RX1 6 none (rm_X1_visit) (pV post))  (hK169 : ∀ (x1 : Int32) (x3 : Int32) (x5 : Int32) (M : xMem), K169 x1 x3 x5 M → xW (WC g) x 6 169 [(0, .ref (ga g 78)), (1, .int x1), (3, .int x3), (5, .int x5)] [] M) (x1 : Int32) (x3 : Int32) (x5 : Int32) (M : xMem)  (h : wX1_visit_196 K169 post x1 x3 x5 M) : xW (WC g) x 6 196 [(0, .ref (ga g 78)), (1, .int x1), (3, .int x3), (5, .int x5)] [] M := by
  unfold wX1_visit_196 at h
  obtain ⟨v1, ev1⟩ : ∃ z : Int32, z = x5 + 1 := ⟨_, rfl⟩
  replace h := h v1 ev1
  refine x_iinc C 3 (v1 := v1) (L' := [(5, .int v1), (0, .ref (ga g 78)), (1, .int x1), (3, .int x3)]) rfl (by rw [ev1]; rfl) rfl (Nat.le_of_ble_eq_true rfl) dX1_visit_196 ?_
  refine x_goto C (tgt := 169) dX1_visit_199 (by decide) ?_
  refine x_loc (L' := [(0, .ref (ga g 78)), (1, .int x1), (3, .int x3), (5, .int v1)]) [1, 2, 3, 0] rfl ?_
  exact hK169 _ _ _ _  h
set_option maxHeartbeats 4000000 in
set_option maxRecDepth 100000 in
theorem tX1_visit_169 {g : xG} (hg : x_inj (WC g))  {x : xCx}   {post : xMem → Prop} (C : xOk (WC g) x cX1_visit RX1 6 none (rm_X1_visit) (pV post))   : ∀ (n : Nat) (x1 : Int32) (x3 : Int32) (x5 : Int32) (M : xMem), wX1_visit_169 post n x1 x3 x5 M → xW (WC g) x 6 169 [(0, .ref (ga g 78)), (1, .int x1), (3, .int x3), (5, .int x5)] [] M := by
  intro n
  induction n with
  | zero =>
    intro x1 x3 x5 M  h
    exact h.elim
  | succ n ih =>
    intro x1 x3 x5 M  h
    rw [wX1_visit_169] at h
    refine x_iload C 3 rfl dX1_visit_169 ?_
    refine x_bipush C (v1 := 10) dX1_visit_171 (by decide) ?_
    refine x_icmp_ge C (tgt := 202) dX1_visit_173 (by decide) (fun hq1 => ?_) (fun hq1 => ?_)
    · replace h := x_ift hq1 h
      refine x_iload_n C 2 rfl rfl dX1_visit_202 ?_
      refine x_if_eq C (tgt := 223) dX1_visit_203 (by decide) (fun hq2 => ?_) (fun hq2 => ?_)
      · replace h := x_ift hq2 h
        exact x_vret C dX1_visit_223 ⟨rfl, h⟩
      · replace h := x_iff hq2 h
        refine x_aload_n C 0 rfl rfl dX1_visit_206 ?_
        obtain ⟨hd3, h⟩ := h
        refine x_get C (c := 78) (ci := 1) (k1 := 3) (v1 := .ref (ga g (((gi M 78 3).toNatClampNeg)))) (enC_1 (c := 78) rfl) (Nat.le_of_ble_eq_true rfl) rfl inX1 (by decide) wf_X1_54 rfl dX1_visit_207 ?_
        refine x_getN C (c := ((gi M 78 3).toNatClampNeg)) (ci := 4) (k1 := 4) (v1 := .ref (ga g ((((gi M 78 3).toNatClampNeg) + 4)))) (enC_4 (c := ((gi M 78 3).toNatClampNeg)) hd3) (kC_lt hd3 (by decide)) rfl inX4 (by decide) wfn_X1_90 rfl dX1_visit_210 ?_
        refine x_iload_n C 1 rfl rfl dX1_visit_213 ?_
        obtain ⟨hi4, h⟩ := h
        refine x_iald C 0 (c := (((gi M 78 3).toNatClampNeg) + 4)) (enC_20n (c := (((gi M 78 3).toNatClampNeg) + 4)) (n := 4) (krX4_4 hd3) (lrX4_4 hd3)) (kC_lt (krX4_4 hd3) (by decide)) rfl hi4 dX1_visit_214 ?_
        refine x_if_ne C (tgt := 223) dX1_visit_215 (by decide) (fun hq5 => ?_) (fun hq5 => ?_)
        · replace h := x_iff hq5 h
          exact x_vret C dX1_visit_223 ⟨rfl, h⟩
        · replace h := x_ift hq5 h
          refine x_aload_n C 0 rfl rfl dX1_visit_218 ?_
          refine x_iload_n C 1 rfl rfl dX1_visit_219 ?_
          refine x_callV C (st := []) (As := [.int x1]) (c := 78) (ci := 1) (enC_1 (c := 78) rfl) (Nat.le_of_ble_eq_true rfl) rfl (tX1_collect hg _ _ _ _  h) wm_X1_138 wi_X1_collect wv_X1_collect wz_X1 wc_X1_collect rfl yd_X1_collect rfl ⟨rfl, rfl⟩ ⟨Nat.le_of_ble_eq_true rfl, Nat.le_of_ble_eq_true rfl⟩ (Nat.le_of_ble_eq_true rfl) rfl dX1_visit_220 (x_kv (fun M6 h => ?_))
          exact x_vret C dX1_visit_223 ⟨rfl, h⟩
    · replace h := x_iff hq1 h
      refine x_aload_n C 0 rfl rfl dX1_visit_176 ?_
      obtain ⟨hd7, h⟩ := h
      refine x_get C (c := 78) (ci := 1) (k1 := 3) (v1 := .ref (ga g (((gi M 78 3).toNatClampNeg)))) (enC_1 (c := 78) rfl) (Nat.le_of_ble_eq_true rfl) rfl inX1 (by decide) wf_X1_54 rfl dX1_visit_177 ?_
      refine x_iload C 3 rfl dX1_visit_180 ?_
      refine x_iload_n C 1 rfl rfl dX1_visit_182 ?_
      refine x_callVN C (st := []) (As := [.int x5, .int x1]) (c := ((gi M 78 3).toNatClampNeg)) (ci := 4) (enC_4 (c := ((gi M 78 3).toNatClampNeg)) hd7) (kC_lt hd7 (by decide)) rfl (tX4_isBound hg _ _ _ _ _ _ hd7 h) wmn_X1_131 wi_X4_isBound wv_X4_isBound wz_X4 wc_X4_isBound yd_X4_isBound rfl ⟨rfl, rfl⟩ ⟨Nat.le_of_ble_eq_true rfl, Nat.le_of_ble_eq_true rfl⟩ (Nat.le_of_ble_eq_true rfl) rfl dX1_visit_183 (x_ki (fun r9 M8 h => ?_))
      refine x_if_eq C (tgt := 196) dX1_visit_186 (by decide) (fun hq10 => ?_) (fun hq10 => ?_)
      · replace h := x_ift hq10 h
        exact tX1_visit_196 hg  C  ih _ _ _ _  h
      · replace h := x_iff hq10 h
        refine x_aload_n C 0 rfl rfl dX1_visit_189 ?_
        refine x_iload_n C 1 rfl rfl dX1_visit_190 ?_
        refine x_iload C 3 rfl dX1_visit_191 ?_
        refine x_callV C (st := []) (As := [.int x1, .int x5]) (c := 78) (ci := 1) (enC_1 (c := 78) rfl) (Nat.le_of_ble_eq_true rfl) rfl (tX1_listen hg _ _ _ _ _  h) wm_X1_134 wi_X1_listen wv_X1_listen wz_X1 wc_X1_listen rfl yd_X1_listen rfl ⟨rfl, rfl⟩ ⟨Nat.le_of_ble_eq_true rfl, Nat.le_of_ble_eq_true rfl⟩ (Nat.le_of_ble_eq_true rfl) rfl dX1_visit_193 (x_kv (fun M11 h => ?_))
        exact tX1_visit_196 hg  C  ih _ _ _ _  h
set_option maxHeartbeats 4000000 in
set_option maxRecDepth 100000 in
theorem tX1_visit_166 {g : xG} (hg : x_inj (WC g))  {x : xCx}   {post : xMem → Prop} (C : xOk (WC g) x cX1_visit RX1 6 none (rm_X1_visit) (pV post))   (x1 : Int32) (x3 : Int32) (M : xMem)  (h : wX1_visit_166 post x1 x3 M) : xW (WC g) x 6 166 [(0, .ref (ga g 78)), (1, .int x1), (3, .int x3)] [] M := by
  unfold wX1_visit_166 at h
  refine x_iconst C (v1 := 0) dX1_visit_166 (by decide) ?_
  refine x_istore C (L' := [(5, .int 0), (0, .ref (ga g 78)), (1, .int x1), (3, .int x3)]) rfl (Nat.le_of_ble_eq_true rfl) dX1_visit_167 ?_
  refine x_loc (L' := [(0, .ref (ga g 78)), (1, .int x1), (3, .int x3), (5, .int 0)]) [1, 2, 3, 0] rfl ?_
  obtain ⟨n169, h⟩ := h
  exact tX1_visit_169 hg  C   _ _ _ _ _  h
set_option maxHeartbeats 4000000 in
set_option maxRecDepth 100000 in
theorem tX1_visit_160 {g : xG} (hg : x_inj (WC g))  {x : xCx}  {K120 : Int32 → Int32 → Int32 → xMem → Prop} {post : xMem → Prop} (C : xOk (WC g) x cX1_visit RX1 6 none (rm_X1_visit) (pV post))  (hK120 : ∀ (x1 : Int32) (x3 : Int32) (x5 : Int32) (M : xMem), K120 x1 x3 x5 M → xW (WC g) x 6 120 [(0, .ref (ga g 78)), (1, .int x1), (3, .int x3), (5, .int x5)] [] M) (x1 : Int32) (x3 : Int32) (x5 : Int32) (M : xMem)  (h : wX1_visit_160 K120 post x1 x3 x5 M) : xW (WC g) x 6 160 [(0, .ref (ga g 78)), (1, .int x1), (3, .int x3), (5, .int x5)] [] M := by
  unfold wX1_visit_160 at h
  obtain ⟨v1, ev1⟩ : ∃ z : Int32, z = x5 + 1 := ⟨_, rfl⟩
  replace h := h v1 ev1
  refine x_iinc C 3 (v1 := v1) (L' := [(5, .int v1), (0, .ref (ga g 78)), (1, .int x1), (3, .int x3)]) rfl (by rw [ev1]; rfl) rfl (Nat.le_of_ble_eq_true rfl) dX1_visit_160 ?_
  refine x_goto C (tgt := 120) dX1_visit_163 (by decide) ?_
  refine x_loc (L' := [(0, .ref (ga g 78)), (1, .int x1), (3, .int x3), (5, .int v1)]) [1, 2, 3, 0] rfl ?_
  exact hK120 _ _ _ _  h
set_option maxHeartbeats 4000000 in
set_option maxRecDepth 100000 in
theorem tX1_visit_120 {g : xG} (hg : x_inj (WC g))  {x : xCx}   {post : xMem → Prop} (C : xOk (WC g) x cX1_visit RX1 6 none (rm_X1_visit) (pV post))   : ∀ (n : Nat) (x1 : Int32) (x3 : Int32) (x5 : Int32) (M : xMem), wX1_visit_120 post n x1 x3 x5 M → xW (WC g) x 6 120 [(0, .ref (ga g 78)), (1, .int x1), (3, .int x3), (5, .int x5)] [] M := by
  intro n
  induction n with
  | zero =>
    intro x1 x3 x5 M  h
    exact h.elim
  | succ n ih =>
    intro x1 x3 x5 M  h
    rw [wX1_visit_120] at h
    refine x_iload C 3 rfl dX1_visit_120 ?_
    refine x_bipush C (v1 := 10) dX1_visit_122 (by decide) ?_
    refine x_icmp_ge C (tgt := 166) dX1_visit_124 (by decide) (fun hq1 => ?_) (fun hq1 => ?_)
    · replace h := x_ift hq1 h
      refine x_loc (L' := [(0, .ref (ga g 78)), (1, .int x1), (3, .int x3)]) [0, 1, 2] rfl ?_
      exact tX1_visit_166 hg  C   _ _ _  h
    · replace h := x_iff hq1 h
      refine x_aload_n C 0 rfl rfl dX1_visit_127 ?_
      refine x_get C (c := 78) (ci := 1) (k1 := 1) (v1 := .ref (ga g 41)) (enC_1 (c := 78) rfl) (Nat.le_of_ble_eq_true rfl) rfl inX1 (by decide) wf_X1_46 rfl dX1_visit_128 ?_
      refine x_getN C (c := 41) (ci := 2) (k1 := 8) (v1 := .int (gi M 41 8)) (enC_2 (c := 41) rfl) (Nat.le_of_ble_eq_true rfl) rfl inX2 (by decide) wfn_X1_121 rfl dX1_visit_131 ?_
      refine x_iload C 3 rfl dX1_visit_134 ?_
      refine x_callSN C (st := []) (As := [.int (gi M 41 8), .int x5]) (tX11_has hg _ _ _ _ _  h) wmn_X1_74 wsm_X11_has wz_X11 wc_X11_has yd_X11_has rfl ⟨rfl, rfl⟩ ⟨Nat.le_of_ble_eq_true rfl, Nat.le_of_ble_eq_true rfl⟩ (Nat.le_of_ble_eq_true rfl) rfl dX1_visit_136 (x_ki (fun r3 M2 h => ?_))
      refine x_if_eq C (tgt := 160) dX1_visit_139 (by decide) (fun hq4 => ?_) (fun hq4 => ?_)
      · replace h := x_ift hq4 h
        exact tX1_visit_160 hg  C  ih _ _ _ _  h
      · replace h := x_iff hq4 h
        refine x_aload_n C 0 rfl rfl dX1_visit_142 ?_
        refine x_iload_n C 1 rfl rfl dX1_visit_143 ?_
        refine x_iload C 3 rfl dX1_visit_144 ?_
        refine x_aload_n C 0 rfl rfl dX1_visit_146 ?_
        refine x_get C (c := 78) (ci := 1) (k1 := 1) (v1 := .ref (ga g 41)) (enC_1 (c := 78) rfl) (Nat.le_of_ble_eq_true rfl) rfl inX1 (by decide) wf_X1_46 rfl dX1_visit_147 ?_
        refine x_getN C (c := 41) (ci := 2) (k1 := 4) (v1 := .ref (ga g 45)) (enC_2 (c := 41) rfl) (Nat.le_of_ble_eq_true rfl) rfl inX2 (by decide) wfn_X1_124 rfl dX1_visit_150 ?_
        refine x_iload C 3 rfl dX1_visit_153 ?_
        obtain ⟨hi5, h⟩ := h
        refine x_iald C 0 (c := 45) (enC_20n (c := 45) (n := 10) rfl rfl) (Nat.le_of_ble_eq_true rfl) rfl hi5 dX1_visit_155 ?_
        refine x_callV C (st := []) (As := [.int x1, .int x5, .int (gi M2 45 x5.toNatClampNeg)]) (c := 78) (ci := 1) (enC_1 (c := 78) rfl) (Nat.le_of_ble_eq_true rfl) rfl (tX1_buyOne hg _ _ _ _ _ _  h) wm_X1_127 wi_X1_buyOne wv_X1_buyOne wz_X1 wc_X1_buyOne rfl yd_X1_buyOne rfl ⟨rfl, rfl⟩ ⟨Nat.le_of_ble_eq_true rfl, Nat.le_of_ble_eq_true rfl⟩ (Nat.le_of_ble_eq_true rfl) rfl dX1_visit_156 (x_ki (fun r7 M6 h => ?_))
        refine x_pop C rfl dX1_visit_159 ?_
        exact tX1_visit_160 hg  C  ih _ _ _ _  h
set_option maxHeartbeats 4000000 in
set_option maxRecDepth 100000 in
theorem tX1_visit_91 {g : xG} (hg : x_inj (WC g))  {x : xCx}   {post : xMem → Prop} (C : xOk (WC g) x cX1_visit RX1 6 none (rm_X1_visit) (pV post))   (x1 : Int32) (x3 : Int32) (s0 : Int32) (M : xMem)  (h : wX1_visit_91 post x1 x3 s0 M) : xW (WC g) x 6 91 [(0, .ref (ga g 78)), (1, .int x1), (3, .int x3)] [.int s0] M := by
  unfold wX1_visit_91 at h
  refine x_istore C (L' := [(4, .int s0), (0, .ref (ga g 78)), (1, .int x1), (3, .int x3)]) rfl (Nat.le_of_ble_eq_true rfl) dX1_visit_91 ?_
  refine x_iload C 0 rfl dX1_visit_93 ?_
  refine x_if_eq C (tgt := 166) dX1_visit_95 (by decide) (fun hq1 => ?_) (fun hq1 => ?_)
  · replace h := x_ift hq1 h
    refine x_loc (L' := [(0, .ref (ga g 78)), (1, .int x1), (3, .int x3)]) [1, 2, 3] rfl ?_
    exact tX1_visit_166 hg  C   _ _ _  h
  · replace h := x_iff hq1 h
    refine x_aload_n C 1 rfl rfl dX1_visit_98 ?_
    refine x_get C (c := 78) (ci := 1) (k1 := 1) (v1 := .ref (ga g 41)) (enC_1 (c := 78) rfl) (Nat.le_of_ble_eq_true rfl) rfl inX1 (by decide) wf_X1_46 rfl dX1_visit_99 ?_
    refine x_getN C (c := 41) (ci := 2) (k1 := 9) (v1 := .int (gi M 41 9)) (enC_2 (c := 41) rfl) (Nat.le_of_ble_eq_true rfl) rfl inX2 (by decide) wfn_X1_118 rfl dX1_visit_102 ?_
    refine x_aload_n C 1 rfl rfl dX1_visit_105 ?_
    obtain ⟨hd2, h⟩ := h
    refine x_get C (c := 78) (ci := 1) (k1 := 3) (v1 := .ref (ga g (((gi M 78 3).toNatClampNeg)))) (enC_1 (c := 78) rfl) (Nat.le_of_ble_eq_true rfl) rfl inX1 (by decide) wf_X1_54 rfl dX1_visit_106 ?_
    refine x_getN C (c := ((gi M 78 3).toNatClampNeg)) (ci := 4) (k1 := 2) (v1 := .ref (ga g ((((gi M 78 3).toNatClampNeg) + 2)))) (enC_4 (c := ((gi M 78 3).toNatClampNeg)) hd2) (kC_lt hd2 (by decide)) rfl inX4 (by decide) wfn_X1_86 rfl dX1_visit_109 ?_
    refine x_iload_n C 2 rfl rfl dX1_visit_112 ?_
    obtain ⟨hi3, h⟩ := h
    refine x_iald C 0 (c := (((gi M 78 3).toNatClampNeg) + 2)) (enC_20n (c := (((gi M 78 3).toNatClampNeg) + 2)) (n := 4) (krX4_2 hd2) (lrX4_2 hd2)) (kC_lt (krX4_2 hd2) (by decide)) rfl hi3 dX1_visit_113 ?_
    refine x_icmp_gt C (tgt := 166) dX1_visit_114 (by decide) (fun hq4 => ?_) (fun hq4 => ?_)
    · replace h := x_ift hq4 h
      refine x_loc (L' := [(0, .ref (ga g 78)), (1, .int x1), (3, .int x3)]) [1, 2, 3] rfl ?_
      exact tX1_visit_166 hg  C   _ _ _  h
    · replace h := x_iff hq4 h
      refine x_iconst C (v1 := 0) dX1_visit_117 (by decide) ?_
      refine x_istore C (L' := [(5, .int 0), (4, .int s0), (0, .ref (ga g 78)), (1, .int x1), (3, .int x3)]) rfl (Nat.le_of_ble_eq_true rfl) dX1_visit_118 ?_
      refine x_loc (L' := [(0, .ref (ga g 78)), (1, .int x1), (3, .int x3), (5, .int 0)]) [2, 3, 4, 0] rfl ?_
      obtain ⟨n120, h⟩ := h
      exact tX1_visit_120 hg  C   _ _ _ _ _  h
set_option maxHeartbeats 4000000 in
set_option maxRecDepth 100000 in
theorem tX1_visit_90 {g : xG} (hg : x_inj (WC g))  {x : xCx}   {post : xMem → Prop} (C : xOk (WC g) x cX1_visit RX1 6 none (rm_X1_visit) (pV post))   (x1 : Int32) (x3 : Int32) (M : xMem)  (h : wX1_visit_90 post x1 x3 M) : xW (WC g) x 6 90 [(0, .ref (ga g 78)), (1, .int x1), (3, .int x3)] [] M := by
  unfold wX1_visit_90 at h
  refine x_iconst C (v1 := 0) dX1_visit_90 (by decide) ?_
  exact tX1_visit_91 hg  C   _ _ _ _  h
set_option maxHeartbeats 4000000 in
set_option maxRecDepth 100000 in
theorem tX1_visit_38 {g : xG} (hg : x_inj (WC g))  {x : xCx}   {post : xMem → Prop} (C : xOk (WC g) x cX1_visit RX1 6 none (rm_X1_visit) (pV post))   (x1 : Int32) (s0 : Int32) (M : xMem)  (h : wX1_visit_38 post x1 s0 M) : xW (WC g) x 6 38 [(0, .ref (ga g 78)), (1, .int x1)] [.int s0] M := by
  unfold wX1_visit_38 at h
  refine x_istore_n C (L' := [(3, .int s0), (0, .ref (ga g 78)), (1, .int x1)]) rfl rfl (Nat.le_of_ble_eq_true rfl) dX1_visit_38 ?_
  refine x_iload_n C 0 rfl rfl dX1_visit_39 ?_
  refine x_if_eq C (tgt := 90) dX1_visit_40 (by decide) (fun hq1 => ?_) (fun hq1 => ?_)
  · replace h := x_ift hq1 h
    refine x_loc (L' := [(0, .ref (ga g 78)), (1, .int x1), (3, .int s0)]) [1, 2, 0] rfl ?_
    exact tX1_visit_90 hg  C   _ _ _  h
  · replace h := x_iff hq1 h
    refine x_aload_n C 1 rfl rfl dX1_visit_43 ?_
    obtain ⟨hd2, h⟩ := h
    refine x_get C (c := 78) (ci := 1) (k1 := 3) (v1 := .ref (ga g (((gi M 78 3).toNatClampNeg)))) (enC_1 (c := 78) rfl) (Nat.le_of_ble_eq_true rfl) rfl inX1 (by decide) wf_X1_54 rfl dX1_visit_44 ?_
    refine x_getN C (c := ((gi M 78 3).toNatClampNeg)) (ci := 4) (k1 := 4) (v1 := .ref (ga g ((((gi M 78 3).toNatClampNeg) + 4)))) (enC_4 (c := ((gi M 78 3).toNatClampNeg)) hd2) (kC_lt hd2 (by decide)) rfl inX4 (by decide) wfn_X1_90 rfl dX1_visit_47 ?_
    refine x_iload_n C 2 rfl rfl dX1_visit_50 ?_
    obtain ⟨hi3, h⟩ := h
    refine x_iald C 0 (c := (((gi M 78 3).toNatClampNeg) + 4)) (enC_20n (c := (((gi M 78 3).toNatClampNeg) + 4)) (n := 4) (krX4_4 hd2) (lrX4_4 hd2)) (kC_lt (krX4_4 hd2) (by decide)) rfl hi3 dX1_visit_51 ?_
    refine x_if_eq C (tgt := 90) dX1_visit_52 (by decide) (fun hq4 => ?_) (fun hq4 => ?_)
    · replace h := x_ift hq4 h
      refine x_loc (L' := [(0, .ref (ga g 78)), (1, .int x1), (3, .int s0)]) [1, 2, 0] rfl ?_
      exact tX1_visit_90 hg  C   _ _ _  h
    · replace h := x_iff hq4 h
      refine x_aload_n C 1 rfl rfl dX1_visit_55 ?_
      refine x_get C (c := 78) (ci := 1) (k1 := 1) (v1 := .ref (ga g 41)) (enC_1 (c := 78) rfl) (Nat.le_of_ble_eq_true rfl) rfl inX1 (by decide) wf_X1_46 rfl dX1_visit_56 ?_
      refine x_aload_n C 1 rfl rfl dX1_visit_59 ?_
      obtain ⟨hd5, h⟩ := h
      refine x_get C (c := 78) (ci := 1) (k1 := 3) (v1 := .ref (ga g (((gi M 78 3).toNatClampNeg)))) (enC_1 (c := 78) rfl) (Nat.le_of_ble_eq_true rfl) rfl inX1 (by decide) wf_X1_54 rfl dX1_visit_60 ?_
      refine x_getN C (c := ((gi M 78 3).toNatClampNeg)) (ci := 4) (k1 := 4) (v1 := .ref (ga g ((((gi M 78 3).toNatClampNeg) + 4)))) (enC_4 (c := ((gi M 78 3).toNatClampNeg)) hd5) (kC_lt hd5 (by decide)) rfl inX4 (by decide) wfn_X1_90 rfl dX1_visit_63 ?_
      refine x_iload_n C 2 rfl rfl dX1_visit_66 ?_
      obtain ⟨hi6, h⟩ := h
      refine x_iald C 0 (c := (((gi M 78 3).toNatClampNeg) + 4)) (enC_20n (c := (((gi M 78 3).toNatClampNeg) + 4)) (n := 4) (krX4_4 hd5) (lrX4_4 hd5)) (kC_lt (krX4_4 hd5) (by decide)) rfl hi6 dX1_visit_67 ?_
      refine x_aload_n C 1 rfl rfl dX1_visit_68 ?_
      obtain ⟨hd7, h⟩ := h
      refine x_get C (c := 78) (ci := 1) (k1 := 3) (v1 := .ref (ga g (((gi M 78 3).toNatClampNeg)))) (enC_1 (c := 78) rfl) (Nat.le_of_ble_eq_true rfl) rfl inX1 (by decide) wf_X1_54 rfl dX1_visit_69 ?_
      refine x_aload_n C 1 rfl rfl dX1_visit_72 ?_
      obtain ⟨hd8, h⟩ := h
      refine x_get C (c := 78) (ci := 1) (k1 := 4) (v1 := .ref (ga g (((gi M 78 4).toNatClampNeg)))) (enC_1 (c := 78) rfl) (Nat.le_of_ble_eq_true rfl) rfl inX1 (by decide) wf_X1_58 rfl dX1_visit_73 ?_
      refine x_aload_n C 1 rfl rfl dX1_visit_76 ?_
      refine x_get C (c := 78) (ci := 1) (k1 := 2) (v1 := .ref (ga g 76)) (enC_1 (c := 78) rfl) (Nat.le_of_ble_eq_true rfl) rfl inX1 (by decide) wf_X1_50 rfl dX1_visit_77 ?_
      refine x_callVN C (st := []) (As := [.int (gi M ((((gi M 78 3).toNatClampNeg) + 4)) x1.toNatClampNeg), .ref (ga g (((gi M 78 3).toNatClampNeg))), .ref (ga g (((gi M 78 4).toNatClampNeg))), .ref (ga g 76)]) (c := 41) (ci := 2) (enC_2 (c := 41) rfl) (Nat.le_of_ble_eq_true rfl) rfl (tX2_chooseFor hg _ _ _ _ _ _ hd7 hd8 h) wmn_X1_112 wi_X2_chooseFor wv_X2_chooseFor wz_X2 wc_X2_chooseFor yd_X2_chooseFor rfl ⟨rfl, rfl⟩ ⟨Nat.le_of_ble_eq_true rfl, Nat.le_of_ble_eq_true rfl⟩ (Nat.le_of_ble_eq_true rfl) rfl dX1_visit_80 (x_ki (fun r10 M9 h => ?_))
      refine x_if_eq C (tgt := 90) dX1_visit_83 (by decide) (fun hq11 => ?_) (fun hq11 => ?_)
      · replace h := x_ift hq11 h
        refine x_loc (L' := [(0, .ref (ga g 78)), (1, .int x1), (3, .int s0)]) [1, 2, 0] rfl ?_
        exact tX1_visit_90 hg  C   _ _ _  h
      · replace h := x_iff hq11 h
        refine x_iconst C (v1 := 1) dX1_visit_86 (by decide) ?_
        refine x_goto C (tgt := 91) dX1_visit_87 (by decide) ?_
        refine x_loc (L' := [(0, .ref (ga g 78)), (1, .int x1), (3, .int s0)]) [1, 2, 0] rfl ?_
        exact tX1_visit_91 hg  C   _ _ _ _  h
set_option maxHeartbeats 4000000 in
set_option maxRecDepth 100000 in
theorem tX1_visit {g : xG} (hg : x_inj (WC g))  (l : Launch) (a0 : Int32) (M : xMem) (post : xMem → Prop)  (h : wX1_visit a0 M post) : xMet (WC g) l yX1_visit cX1_visit 6 none (rm_X1_visit) [.ref (ga g 78), .int a0] M (pV post) := by
  refine x_enter (own := RX1) (L0 := [(0, .ref (ga g 78)), (1, .int a0)]) (by decide +kernel) rfl hg (x_stC g) (Nat.le_of_ble_eq_true rfl) rfl (fun x hl C => ?_)
  unfold wX1_visit at h
  refine x_aload_n C 0 rfl rfl dX1_visit_0 ?_
  refine x_iload_n C 1 rfl rfl dX1_visit_1 ?_
  refine x_callV C (st := []) (As := [.int a0]) (c := 78) (ci := 1) (enC_1 (c := 78) rfl) (Nat.le_of_ble_eq_true rfl) rfl (tX1_storyOf hg _ _ _ _  h) wm_X1_96 wi_X1_storyOf wv_X1_storyOf wz_X1 wc_X1_storyOf rfl yd_X1_storyOf rfl ⟨rfl, rfl⟩ ⟨Nat.le_of_ble_eq_true rfl, Nat.le_of_ble_eq_true rfl⟩ (Nat.le_of_ble_eq_true rfl) rfl dX1_visit_2 (x_kr (fun M1 h => ?_) (fun q2 M1 h0 hkq2 h => ?_))
  · replace h := x_ift rfl h
    refine x_astore_nN C (L' := [(2, .null), (0, .ref (ga g 78)), (1, .int a0)]) rfl rfl (Nat.le_of_ble_eq_true rfl) dX1_visit_5 ?_
    refine x_aload_nN C 0 rfl rfl dX1_visit_6 ?_
    refine x_ifnonnullN C dX1_visit_7 ?_
    exact x_vret C dX1_visit_10 ⟨rfl, h⟩
  · replace h := x_iff h0 h
    refine x_astore_n C (L' := [(2, .ref (ga g q2)), (0, .ref (ga g 78)), (1, .int a0)]) rfl rfl (Nat.le_of_ble_eq_true rfl) dX1_visit_5 ?_
    refine x_aload_n C 0 rfl rfl dX1_visit_6 ?_
    refine x_ifnonnull_r C (tgt := 11) dX1_visit_7 (by decide) ?_
    refine x_aload_n C 1 rfl rfl dX1_visit_11 ?_
    refine x_iload_n C 2 rfl rfl dX1_visit_12 ?_
    refine x_aload_n C 0 rfl rfl dX1_visit_13 ?_
    refine x_callV C (st := []) (As := [.int a0, .ref (ga g q2)]) (c := 78) (ci := 1) (enC_1 (c := 78) rfl) (Nat.le_of_ble_eq_true rfl) rfl (tX1_tellOn hg _ _ _ _ _ hkq2 h) wm_X1_100 wi_X1_tellOn wv_X1_tellOn wz_X1 wc_X1_tellOn rfl yd_X1_tellOn rfl ⟨rfl, rfl⟩ ⟨Nat.le_of_ble_eq_true rfl, Nat.le_of_ble_eq_true rfl⟩ (Nat.le_of_ble_eq_true rfl) rfl dX1_visit_14 (x_kv (fun M3 h => ?_))
    refine x_aload_n C 1 rfl rfl dX1_visit_17 ?_
    obtain ⟨hd4, h⟩ := h
    refine x_get C (c := 78) (ci := 1) (k1 := 3) (v1 := .ref (ga g (((gi M3 78 3).toNatClampNeg)))) (enC_1 (c := 78) rfl) (Nat.le_of_ble_eq_true rfl) rfl inX1 (by decide) wf_X1_54 rfl dX1_visit_18 ?_
    refine x_getN C (c := ((gi M3 78 3).toNatClampNeg)) (ci := 4) (k1 := 3) (v1 := .ref (ga g ((((gi M3 78 3).toNatClampNeg) + 3)))) (enC_4 (c := ((gi M3 78 3).toNatClampNeg)) hd4) (kC_lt hd4 (by decide)) rfl inX4 (by decide) wfn_X1_104 rfl dX1_visit_21 ?_
    refine x_iload_n C 2 rfl rfl dX1_visit_24 ?_
    obtain ⟨hi5, h⟩ := h
    refine x_iald C 0 (c := (((gi M3 78 3).toNatClampNeg) + 3)) (enC_20n (c := (((gi M3 78 3).toNatClampNeg) + 3)) (n := 4) (krX4_3 hd4) (lrX4_3 hd4)) (kC_lt (krX4_3 hd4) (by decide)) rfl hi5 dX1_visit_25 ?_
    refine x_aload_n C 0 rfl rfl dX1_visit_26 ?_
    refine x_getN C (c := q2) (ci := 9) (k1 := 1) (v1 := .int (gi M3 q2 1)) (enC_9 (c := q2) hkq2) (kC_lt hkq2 (by decide)) rfl inX9 (by decide) wfn_X1_107 rfl dX1_visit_27 ?_
    refine x_icmp_lt C (tgt := 37) dX1_visit_30 (by decide) (fun hq6 => ?_) (fun hq6 => ?_)
    · replace h := x_ift hq6 h
      refine x_iconst C (v1 := 0) dX1_visit_37 (by decide) ?_
      refine x_loc (L' := [(0, .ref (ga g 78)), (1, .int a0)]) [1, 2] rfl ?_
      exact tX1_visit_38 hg  C   _ _ _  h
    · replace h := x_iff hq6 h
      refine x_iconst C (v1 := 1) dX1_visit_33 (by decide) ?_
      refine x_goto C (tgt := 38) dX1_visit_34 (by decide) ?_
      refine x_loc (L' := [(0, .ref (ga g 78)), (1, .int a0)]) [1, 2] rfl ?_
      exact tX1_visit_38 hg  C   _ _ _  h
set_option maxHeartbeats 4000000 in
set_option maxRecDepth 100000 in
theorem tX1_run_64 {g : xG} (hg : x_inj (WC g))  {x : xCx} {o0 : Nat} {o1 : Nat} {K9 : Int32 → Int32 → xMem → Prop} {K37 : Int32 → Int32 → Int32 → xMem → Prop} {post : xMem → Prop} (C : xOk (WC g) x cX1_run RX1 6 none (rm_X1_run) (pV post)) (ho0 : kC o0 = 4) (ho1 : kC o1 = 5) (hK9 : ∀ (x3 : Int32) (x4 : Int32) (M : xMem), K9 x3 x4 M → xW (WC g) x 6 9 [(0, .ref (ga g 78)), (3, .int x3), (4, .int x4)] [] M) (hK37 : ∀ (x3 : Int32) (x4 : Int32) (x5 : Int32) (M : xMem), K37 x3 x4 x5 M → xW (WC g) x 6 37 [(0, .ref (ga g 78)), (3, .int x3), (4, .int x4), (5, .int x5)] [] M) (x3 : Int32) (x4 : Int32) (x5 : Int32) (M : xMem)  (h : wX1_run_64 o0 o1 K9 K37 post x3 x4 x5 M) : xW (WC g) x 6 64 [(0, .ref (ga g 78)), (3, .int x3), (4, .int x4), (5, .int x5)] [] M := by
  unfold wX1_run_64 at h
  obtain ⟨v1, ev1⟩ : ∃ z : Int32, z = x5 + 1 := ⟨_, rfl⟩
  replace h := h v1 ev1
  refine x_iinc C 3 (v1 := v1) (L' := [(5, .int v1), (0, .ref (ga g 78)), (3, .int x3), (4, .int x4)]) rfl (by rw [ev1]; rfl) rfl (Nat.le_of_ble_eq_true rfl) dX1_run_64 ?_
  refine x_goto C (tgt := 37) dX1_run_67 (by decide) ?_
  refine x_loc (L' := [(0, .ref (ga g 78)), (3, .int x3), (4, .int x4), (5, .int v1)]) [1, 2, 3, 0] rfl ?_
  exact hK37 _ _ _ _  h
set_option maxHeartbeats 4000000 in
set_option maxRecDepth 100000 in
theorem tX1_run_37 {g : xG} (hg : x_inj (WC g))  {x : xCx} {o0 : Nat} {o1 : Nat} {K9 : Int32 → Int32 → xMem → Prop} {post : xMem → Prop} (C : xOk (WC g) x cX1_run RX1 6 none (rm_X1_run) (pV post)) (ho0 : kC o0 = 4) (ho1 : kC o1 = 5) (hK9 : ∀ (x3 : Int32) (x4 : Int32) (M : xMem), K9 x3 x4 M → xW (WC g) x 6 9 [(0, .ref (ga g 78)), (3, .int x3), (4, .int x4)] [] M) : ∀ (n : Nat) (x3 : Int32) (x4 : Int32) (x5 : Int32) (M : xMem), wX1_run_37 o0 o1 K9 post n x3 x4 x5 M → xW (WC g) x 6 37 [(0, .ref (ga g 78)), (3, .int x3), (4, .int x4), (5, .int x5)] [] M := by
  intro n
  induction n with
  | zero =>
    intro x3 x4 x5 M  h
    exact h.elim
  | succ n ih =>
    intro x3 x4 x5 M  h
    rw [wX1_run_37] at h
    refine x_iload C 3 rfl dX1_run_37 ?_
    refine x_iconst C (v1 := 4) dX1_run_39 (by decide) ?_
    refine x_icmp_ge C (tgt := 70) dX1_run_40 (by decide) (fun hq1 => ?_) (fun hq1 => ?_)
    · replace h := x_ift hq1 h
      refine x_aload_n C 0 rfl rfl dX1_run_70 ?_
      obtain ⟨hd2, h⟩ := h
      refine x_get C (c := 78) (ci := 1) (k1 := 3) (v1 := .ref (ga g (((gi M 78 3).toNatClampNeg)))) (enC_1 (c := 78) rfl) (Nat.le_of_ble_eq_true rfl) rfl inX1 (by decide) wf_X1_54 rfl dX1_run_71 ?_
      refine x_dup C rfl dX1_run_74 ?_
      refine x_getN C (c := ((gi M 78 3).toNatClampNeg)) (ci := 4) (k1 := 10) (v1 := .int (gi M (((gi M 78 3).toNatClampNeg)) 10)) (enC_4 (c := ((gi M 78 3).toNatClampNeg)) hd2) (kC_lt hd2 (by decide)) rfl inX4 (by decide) wfn_X1_66 rfl dX1_run_75 ?_
      refine x_iconst C (v1 := 1) dX1_run_78 (by decide) ?_
      refine x_iadd C dX1_run_79 ?_
      refine x_putN C (c := ((gi M 78 3).toNatClampNeg)) (ci := 4) (k1 := 10) (u1 := ((gi M (((gi M 78 3).toNatClampNeg)) 10) + 1)) (v1 := .int ((gi M (((gi M 78 3).toNatClampNeg)) 10) + 1)) (ty := .int) (enC_4 (c := ((gi M 78 3).toNatClampNeg)) hd2) (kC_lt hd2 (by decide)) rfl inX4 (by decide) (stX4_10 _ _ _) tyX4 tyX4_ok nmX4 wfn_X1_66 rfl rfl rfl rfl (Nat.le_of_ble_eq_true rfl) dX1_run_80 ?_
      refine x_nmM (fun M3 eM3 => ?_)
      replace h := h M3 eM3
      obtain ⟨v4, ev4⟩ : ∃ z : Int32, z = x4 + 1 := ⟨_, rfl⟩
      replace h := h v4 ev4
      refine x_iinc C 2 (v1 := v4) (L' := [(4, .int v4), (0, .ref (ga g 78)), (3, .int x3), (5, .int x5)]) rfl (by rw [ev4]; rfl) rfl (Nat.le_of_ble_eq_true rfl) dX1_run_83 ?_
      refine x_goto C (tgt := 9) dX1_run_86 (by decide) ?_
      refine x_loc (L' := [(0, .ref (ga g 78)), (3, .int x3), (4, .int v4)]) [1, 2, 0] rfl ?_
      exact hK9 _ _ _  h
    · replace h := x_iff hq1 h
      refine x_aload_n C 0 rfl rfl dX1_run_43 ?_
      obtain ⟨hd5, h⟩ := h
      refine x_get C (c := 78) (ci := 1) (k1 := 3) (v1 := .ref (ga g (((gi M 78 3).toNatClampNeg)))) (enC_1 (c := 78) rfl) (Nat.le_of_ble_eq_true rfl) rfl inX1 (by decide) wf_X1_54 rfl dX1_run_44 ?_
      refine x_getN C (c := ((gi M 78 3).toNatClampNeg)) (ci := 4) (k1 := 0) (v1 := .int (gi M (((gi M 78 3).toNatClampNeg)) 0)) (enC_4 (c := ((gi M 78 3).toNatClampNeg)) hd5) (kC_lt hd5 (by decide)) rfl inX4 (by decide) wfn_X1_71 rfl dX1_run_47 ?_
      refine x_iload C 3 rfl dX1_run_50 ?_
      refine x_callSN C (st := []) (As := [.int (gi M (((gi M 78 3).toNatClampNeg)) 0), .int x5]) (tX11_has hg _ _ _ _ _  h) wmn_X1_74 wsm_X11_has wz_X11 wc_X11_has yd_X11_has rfl ⟨rfl, rfl⟩ ⟨Nat.le_of_ble_eq_true rfl, Nat.le_of_ble_eq_true rfl⟩ (Nat.le_of_ble_eq_true rfl) rfl dX1_run_52 (x_ki (fun r7 M6 h => ?_))
      refine x_if_eq C (tgt := 64) dX1_run_55 (by decide) (fun hq8 => ?_) (fun hq8 => ?_)
      · replace h := x_ift hq8 h
        exact tX1_run_64 hg  C ho0 ho1 hK9 ih _ _ _ _  h
      · replace h := x_iff hq8 h
        refine x_aload_n C 0 rfl rfl dX1_run_58 ?_
        refine x_iload C 3 rfl dX1_run_59 ?_
        refine x_callV C (st := []) (As := [.int x5]) (c := 78) (ci := 1) (enC_1 (c := 78) rfl) (Nat.le_of_ble_eq_true rfl) rfl (tX1_visit hg _ _ _ _  h) wm_X1_78 wi_X1_visit wv_X1_visit wz_X1 wc_X1_visit rfl yd_X1_visit rfl ⟨rfl, rfl⟩ ⟨Nat.le_of_ble_eq_true rfl, Nat.le_of_ble_eq_true rfl⟩ (Nat.le_of_ble_eq_true rfl) rfl dX1_run_61 (x_kv (fun M9 h => ?_))
        exact tX1_run_64 hg  C ho0 ho1 hK9 ih _ _ _ _  h
set_option maxHeartbeats 4000000 in
set_option maxRecDepth 100000 in
theorem tX1_run_9 {g : xG} (hg : x_inj (WC g))  {x : xCx} {o0 : Nat} {o1 : Nat}  {post : xMem → Prop} (C : xOk (WC g) x cX1_run RX1 6 none (rm_X1_run) (pV post)) (ho0 : kC o0 = 4) (ho1 : kC o1 = 5)  : ∀ (n : Nat) (x3 : Int32) (x4 : Int32) (M : xMem), wX1_run_9 o0 o1 post n x3 x4 M → xW (WC g) x 6 9 [(0, .ref (ga g 78)), (3, .int x3), (4, .int x4)] [] M := by
  intro n
  induction n with
  | zero =>
    intro x3 x4 M  h
    exact h.elim
  | succ n ih =>
    intro x3 x4 M  h
    rw [wX1_run_9] at h
    refine x_iload C 2 rfl dX1_run_9 ?_
    refine x_iload_n C 1 rfl rfl dX1_run_11 ?_
    refine x_icmp_gt C (tgt := 89) dX1_run_12 (by decide) (fun hq1 => ?_) (fun hq1 => ?_)
    · replace h := x_ift hq1 h
      exact x_vret C dX1_run_89 ⟨rfl, h⟩
    · replace h := x_iff hq1 h
      refine x_aload_n C 0 rfl rfl dX1_run_15 ?_
      obtain ⟨hd2, h⟩ := h
      refine x_get C (c := 78) (ci := 1) (k1 := 3) (v1 := .ref (ga g (((gi M 78 3).toNatClampNeg)))) (enC_1 (c := 78) rfl) (Nat.le_of_ble_eq_true rfl) rfl inX1 (by decide) wf_X1_54 rfl dX1_run_16 ?_
      refine x_getN C (c := ((gi M 78 3).toNatClampNeg)) (ci := 4) (k1 := 10) (v1 := .int (gi M (((gi M 78 3).toNatClampNeg)) 10)) (enC_4 (c := ((gi M 78 3).toNatClampNeg)) hd2) (kC_lt hd2 (by decide)) rfl inX4 (by decide) wfn_X1_66 rfl dX1_run_19 ?_
      refine x_sipush C (v1 := 9999) dX1_run_22 (by decide) ?_
      refine x_icmp_ge C (tgt := 89) dX1_run_25 (by decide) (fun hq3 => ?_) (fun hq3 => ?_)
      · replace h := x_ift hq3 h
        exact x_vret C dX1_run_89 ⟨rfl, h⟩
      · replace h := x_iff hq3 h
        refine x_aload_n C 0 rfl rfl dX1_run_28 ?_
        refine x_iload C 2 rfl dX1_run_29 ?_
        refine x_put C (c := 78) (ci := 1) (k1 := 5) (u1 := x4) (v1 := .int x4) (ty := .int) (enC_1 (c := 78) rfl) (Nat.le_of_ble_eq_true rfl) rfl inX1 (by decide) (stX1_5 _ _ _) tyX1 tyX1_ok nmX1 wf_X1_9 rfl rfl rfl rfl (Nat.le_of_ble_eq_true rfl) dX1_run_31 ?_
        refine x_nmM (fun M4 eM4 => ?_)
        replace h := h M4 eM4
        refine x_iconst C (v1 := 0) dX1_run_34 (by decide) ?_
        refine x_istore C (L' := [(5, .int 0), (0, .ref (ga g 78)), (3, .int x3), (4, .int x4)]) rfl (Nat.le_of_ble_eq_true rfl) dX1_run_35 ?_
        refine x_loc (L' := [(0, .ref (ga g 78)), (3, .int x3), (4, .int x4), (5, .int 0)]) [1, 2, 3, 0] rfl ?_
        obtain ⟨n37, h⟩ := h
        exact tX1_run_37 hg  C ho0 ho1 ih _ _ _ _ _  h
set_option maxHeartbeats 4000000 in
set_option maxRecDepth 100000 in
theorem tX1_run {g : xG} (hg : x_inj (WC g))  (l : Launch) (o0 : Nat) (o1 : Nat) (a2 : Int32) (M : xMem) (post : xMem → Prop) (ho0 : kC o0 = 4) (ho1 : kC o1 = 5) (h : wX1_run o0 o1 a2 M post) : xMet (WC g) l yX1_run cX1_run 6 none (rm_X1_run) [.ref (ga g 78), .ref (ga g o0), .ref (ga g o1), .int a2] M (pV post) := by
  refine x_enter (own := RX1) (L0 := [(0, .ref (ga g 78)), (1, .ref (ga g o0)), (2, .ref (ga g o1)), (3, .int a2)]) (by decide +kernel) rfl hg (x_stC g) (Nat.le_of_ble_eq_true rfl) rfl (fun x hl C => ?_)
  unfold wX1_run at h
  refine x_aload_n C 0 rfl rfl dX1_run_0 ?_
  refine x_aload_n C 1 rfl rfl dX1_run_1 ?_
  refine x_aload_n C 2 rfl rfl dX1_run_2 ?_
  refine x_callV C (st := []) (As := [.ref (ga g o0), .ref (ga g o1)]) (c := 78) (ci := 1) (enC_1 (c := 78) rfl) (Nat.le_of_ble_eq_true rfl) rfl (tX1_beginIn hg _ _ _ _ _ ho0 ho1 h) wm_X1_62 wi_X1_beginIn wv_X1_beginIn wz_X1 wc_X1_beginIn rfl yd_X1_beginIn rfl ⟨rfl, rfl⟩ ⟨Nat.le_of_ble_eq_true rfl, Nat.le_of_ble_eq_true rfl⟩ (Nat.le_of_ble_eq_true rfl) rfl dX1_run_3 (x_kv (fun M1 h => ?_))
  refine x_iconst C (v1 := 1) dX1_run_6 (by decide) ?_
  refine x_istore C (L' := [(4, .int 1), (0, .ref (ga g 78)), (1, .ref (ga g o0)), (2, .ref (ga g o1)), (3, .int a2)]) rfl (Nat.le_of_ble_eq_true rfl) dX1_run_7 ?_
  refine x_loc (L' := [(0, .ref (ga g 78)), (3, .int a2), (4, .int 1)]) [1, 4, 0] rfl ?_
  obtain ⟨n9, h⟩ := h
  exact tX1_run_9 hg  C ho0 ho1  _ _ _ _  h
set_option maxHeartbeats 4000000 in
set_option maxRecDepth 100000 in
theorem tX11_evenings {g : xG} (hg : x_inj (WC g))  (l : Launch) (a0 : Int32) (M : xMem) (post : Int32 → xMem → Prop)  (h : wX11_evenings a0 M post) : xMet (WC g) l yX11_evenings cX11_evenings 2 (some .int) (rm_X11_evenings) [.ref (ga g 0), .int a0] M (pI post) := by
  refine x_enter (own := RX11) (L0 := [(0, .ref (ga g 0)), (1, .int a0)]) (by decide +kernel) rfl hg (x_stC g) (Nat.le_of_ble_eq_true rfl) rfl (fun x hl C => ?_)
  unfold wX11_evenings at h
  refine x_iload_n C 1 rfl rfl dX11_evenings_0 ?_
  refine x_iconst C (v1 := 1) dX11_evenings_1 (by decide) ?_
  refine x_bipush C (v1 := 60) dX11_evenings_2 (by decide) ?_
  refine x_callS C (st := []) (As := [.int a0, .int 1, .int 60]) (tX11_isWithin hg _ _ _ _ _ _  h) wm_X11_145 wsm_X11_isWithin wz_X11 wc_X11_isWithin yd_X11_isWithin rfl ⟨rfl, rfl⟩ ⟨Nat.le_of_ble_eq_true rfl, Nat.le_of_ble_eq_true rfl⟩ (Nat.le_of_ble_eq_true rfl) rfl dX11_evenings_4 (x_ki (fun r2 M1 h => ?_))
  refine x_if_ne C (tgt := 12) dX11_evenings_7 (by decide) (fun hq3 => ?_) (fun hq3 => ?_)
  · replace h := x_iff hq3 h
    refine x_aload_n C 0 rfl rfl dX11_evenings_12 ?_
    refine x_get C (c := 0) (ci := 11) (k1 := 13) (v1 := .ref (ga g 78)) (enC_11 (c := 0) rfl) (Nat.le_of_ble_eq_true rfl) rfl inX11 (by decide) wf_X11_85 rfl dX11_evenings_13 ?_
    refine x_aload_n C 0 rfl rfl dX11_evenings_16 ?_
    refine x_get C (c := 0) (ci := 11) (k1 := 8) (v1 := .ref (ga g 49)) (enC_11 (c := 0) rfl) (Nat.le_of_ble_eq_true rfl) rfl inX11 (by decide) wf_X11_57 rfl dX11_evenings_17 ?_
    refine x_aload_n C 0 rfl rfl dX11_evenings_20 ?_
    refine x_get C (c := 0) (ci := 11) (k1 := 4) (v1 := .ref (ga g 18)) (enC_11 (c := 0) rfl) (Nat.le_of_ble_eq_true rfl) rfl inX11 (by decide) wf_X11_33 rfl dX11_evenings_21 ?_
    refine x_iload_n C 1 rfl rfl dX11_evenings_24 ?_
    refine x_callVN C (st := []) (As := [.ref (ga g 49), .ref (ga g 18), .int a0]) (c := 78) (ci := 1) (enC_1 (c := 78) rfl) (Nat.le_of_ble_eq_true rfl) rfl (tX1_run hg _ _ _ _ _ _ rfl rfl h) wmn_X11_171 wi_X1_run wv_X1_run wz_X1 wc_X1_run yd_X1_run rfl ⟨rfl, rfl⟩ ⟨Nat.le_of_ble_eq_true rfl, Nat.le_of_ble_eq_true rfl⟩ (Nat.le_of_ble_eq_true rfl) rfl dX11_evenings_25 (x_kv (fun M4 h => ?_))
    refine x_aload_n C 0 rfl rfl dX11_evenings_28 ?_
    refine x_get C (c := 0) (ci := 11) (k1 := 13) (v1 := .ref (ga g 78)) (enC_11 (c := 0) rfl) (Nat.le_of_ble_eq_true rfl) rfl inX11 (by decide) wf_X11_85 rfl dX11_evenings_29 ?_
    refine x_getN C (c := 78) (ci := 1) (k1 := 6) (v1 := .int (gi M4 78 6)) (enC_1 (c := 78) rfl) (Nat.le_of_ble_eq_true rfl) rfl inX1 (by decide) wfn_X11_175 rfl dX11_evenings_32 ?_
    exact x_iret C dX11_evenings_35 ⟨_, rfl, h⟩
  · replace h := x_ift hq3 h
    refine x_iconst C (v1 := (-1)) dX11_evenings_10 (by decide) ?_
    exact x_iret C dX11_evenings_11 ⟨_, rfl, h⟩
set_option maxHeartbeats 4000000 in
set_option maxRecDepth 100000 in
theorem tX11_canBeTried {g : xG} (hg : x_inj (WC g))  (l : Launch) (a0 : Int32) (M : xMem) (post : Int32 → xMem → Prop)  (h : wX11_canBeTried a0 M post) : xMet (WC g) l yX11_canBeTried cX11_canBeTried 2 (some .boolean) (rm_X11_canBeTried) [.ref (ga g 0), .int a0] M (pI post) := by
  refine x_enter (own := RX11) (L0 := [(0, .ref (ga g 0)), (1, .int a0)]) (by decide +kernel) rfl hg (x_stC g) (Nat.le_of_ble_eq_true rfl) rfl (fun x hl C => ?_)
  unfold wX11_canBeTried at h
  refine x_iload_n C 1 rfl rfl dX11_canBeTried_0 ?_
  refine x_iconst C (v1 := 0) dX11_canBeTried_1 (by decide) ?_
  refine x_bipush C (v1 := 6) dX11_canBeTried_2 (by decide) ?_
  refine x_callS C (st := []) (As := [.int a0, .int 0, .int 6]) (tX11_isWithin hg _ _ _ _ _ _  h) wm_X11_145 wsm_X11_isWithin wz_X11 wc_X11_isWithin yd_X11_isWithin rfl ⟨rfl, rfl⟩ ⟨Nat.le_of_ble_eq_true rfl, Nat.le_of_ble_eq_true rfl⟩ (Nat.le_of_ble_eq_true rfl) rfl dX11_canBeTried_4 (x_ki (fun r2 M1 h => ?_))
  refine x_if_ne C (tgt := 61) dX11_canBeTried_7 (by decide) (fun hq3 => ?_) (fun hq3 => ?_)
  · replace h := x_iff hq3 h
    refine x_iconst C (v1 := 1) dX11_canBeTried_61 (by decide) ?_
    refine x_goto C (tgt := 66) dX11_canBeTried_62 (by decide) ?_
    exact x_zret C rfl dX11_canBeTried_66 ⟨_, rfl, h⟩
  · replace h := x_ift hq3 h
    refine x_aload_n C 0 rfl rfl dX11_canBeTried_10 ?_
    refine x_get C (c := 0) (ci := 11) (k1 := 8) (v1 := .ref (ga g 49)) (enC_11 (c := 0) rfl) (Nat.le_of_ble_eq_true rfl) rfl inX11 (by decide) wf_X11_57 rfl dX11_canBeTried_11 ?_
    refine x_getN C (c := 49) (ci := 4) (k1 := 0) (v1 := .int (gi M1 49 0)) (enC_4 (c := 49) rfl) (Nat.le_of_ble_eq_true rfl) rfl inX4 (by decide) wfn_X11_161 rfl dX11_canBeTried_14 ?_
    refine x_iload_n C 1 rfl rfl dX11_canBeTried_17 ?_
    refine x_bipush C (v1 := 10) dX11_canBeTried_18 (by decide) ?_
    refine x_isub C dX11_canBeTried_20 ?_
    refine x_callS C (st := []) (As := [.int (gi M1 49 0), .int (a0 - 10)]) (tX11_has hg _ _ _ _ _  h) wm_X11_164 wsm_X11_has wz_X11 wc_X11_has yd_X11_has rfl ⟨rfl, rfl⟩ ⟨Nat.le_of_ble_eq_true rfl, Nat.le_of_ble_eq_true rfl⟩ (Nat.le_of_ble_eq_true rfl) rfl dX11_canBeTried_21 (x_ki (fun r5 M4 h => ?_))
    refine x_if_ne C (tgt := 61) dX11_canBeTried_24 (by decide) (fun hq6 => ?_) (fun hq6 => ?_)
    · replace h := x_iff hq6 h
      refine x_iconst C (v1 := 1) dX11_canBeTried_61 (by decide) ?_
      refine x_goto C (tgt := 66) dX11_canBeTried_62 (by decide) ?_
      exact x_zret C rfl dX11_canBeTried_66 ⟨_, rfl, h⟩
    · replace h := x_ift hq6 h
      refine x_aload_n C 0 rfl rfl dX11_canBeTried_27 ?_
      refine x_get C (c := 0) (ci := 11) (k1 := 8) (v1 := .ref (ga g 49)) (enC_11 (c := 0) rfl) (Nat.le_of_ble_eq_true rfl) rfl inX11 (by decide) wf_X11_57 rfl dX11_canBeTried_28 ?_
      refine x_getN C (c := 49) (ci := 4) (k1 := 0) (v1 := .int (gi M4 49 0)) (enC_4 (c := 49) rfl) (Nat.le_of_ble_eq_true rfl) rfl inX4 (by decide) wfn_X11_161 rfl dX11_canBeTried_31 ?_
      refine x_iload_n C 1 rfl rfl dX11_canBeTried_34 ?_
      refine x_bipush C (v1 := 20) dX11_canBeTried_35 (by decide) ?_
      refine x_isub C dX11_canBeTried_37 ?_
      refine x_callS C (st := []) (As := [.int (gi M4 49 0), .int (a0 - 20)]) (tX11_has hg _ _ _ _ _  h) wm_X11_164 wsm_X11_has wz_X11 wc_X11_has yd_X11_has rfl ⟨rfl, rfl⟩ ⟨Nat.le_of_ble_eq_true rfl, Nat.le_of_ble_eq_true rfl⟩ (Nat.le_of_ble_eq_true rfl) rfl dX11_canBeTried_38 (x_ki (fun r8 M7 h => ?_))
      refine x_if_ne C (tgt := 61) dX11_canBeTried_41 (by decide) (fun hq9 => ?_) (fun hq9 => ?_)
      · replace h := x_iff hq9 h
        refine x_iconst C (v1 := 1) dX11_canBeTried_61 (by decide) ?_
        refine x_goto C (tgt := 66) dX11_canBeTried_62 (by decide) ?_
        exact x_zret C rfl dX11_canBeTried_66 ⟨_, rfl, h⟩
      · replace h := x_ift hq9 h
        refine x_aload_n C 0 rfl rfl dX11_canBeTried_44 ?_
        refine x_get C (c := 0) (ci := 11) (k1 := 8) (v1 := .ref (ga g 49)) (enC_11 (c := 0) rfl) (Nat.le_of_ble_eq_true rfl) rfl inX11 (by decide) wf_X11_57 rfl dX11_canBeTried_45 ?_
        refine x_getN C (c := 49) (ci := 4) (k1 := 5) (v1 := .int (gi M7 49 5)) (enC_4 (c := 49) rfl) (Nat.le_of_ble_eq_true rfl) rfl inX4 (by decide) wfn_X11_251 rfl dX11_canBeTried_48 ?_
        refine x_iload_n C 1 rfl rfl dX11_canBeTried_51 ?_
        refine x_bipush C (v1 := 30) dX11_canBeTried_52 (by decide) ?_
        refine x_isub C dX11_canBeTried_54 ?_
        refine x_callS C (st := []) (As := [.int (gi M7 49 5), .int (a0 - 30)]) (tX11_has hg _ _ _ _ _  h) wm_X11_164 wsm_X11_has wz_X11 wc_X11_has yd_X11_has rfl ⟨rfl, rfl⟩ ⟨Nat.le_of_ble_eq_true rfl, Nat.le_of_ble_eq_true rfl⟩ (Nat.le_of_ble_eq_true rfl) rfl dX11_canBeTried_55 (x_ki (fun r11 M10 h => ?_))
        refine x_if_eq C (tgt := 65) dX11_canBeTried_58 (by decide) (fun hq12 => ?_) (fun hq12 => ?_)
        · replace h := x_ift hq12 h
          refine x_iconst C (v1 := 0) dX11_canBeTried_65 (by decide) ?_
          exact x_zret C rfl dX11_canBeTried_66 ⟨_, rfl, h⟩
        · replace h := x_iff hq12 h
          refine x_iconst C (v1 := 1) dX11_canBeTried_61 (by decide) ?_
          refine x_goto C (tgt := 66) dX11_canBeTried_62 (by decide) ?_
          exact x_zret C rfl dX11_canBeTried_66 ⟨_, rfl, h⟩
set_option maxHeartbeats 4000000 in
set_option maxRecDepth 100000 in
theorem tX1_result {g : xG} (hg : x_inj (WC g))  (l : Launch) (a0 : Int32) (M : xMem) (post : Int32 → xMem → Prop)  (h : wX1_result a0 M post) : xMet (WC g) l yX1_result cX1_result 2 (some .int) (rm_X1_result) [.ref (ga g 78), .int a0] M (pI post) := by
  refine x_enter (own := RX1) (L0 := [(0, .ref (ga g 78)), (1, .int a0)]) (by decide +kernel) rfl hg (x_stC g) (Nat.le_of_ble_eq_true rfl) rfl (fun x hl C => ?_)
  unfold wX1_result at h
  refine x_iload_n C 1 rfl rfl dX1_result_0 ?_
  by_cases hq1 : a0 = 0
  · replace h := x_ift hq1 h
    refine x_tabIn C hq1 (tgt := 44) dX1_result_1 (by decide) (by decide) rfl (by decide) ?_
    refine x_aload_n C 0 rfl rfl dX1_result_44 ?_
    refine x_get C (c := 78) (ci := 1) (k1 := 6) (v1 := .int (gi M 78 6)) (enC_1 (c := 78) rfl) (Nat.le_of_ble_eq_true rfl) rfl inX1 (by decide) wf_X1_15 rfl dX1_result_45 ?_
    exact x_iret C dX1_result_48 ⟨_, rfl, h⟩
  · replace h := x_iff hq1 h
    by_cases hq2 : a0 = 1
    · replace h := x_ift hq2 h
      refine x_tabIn C hq2 (tgt := 49) dX1_result_1 (by decide) (by decide) rfl (by decide) ?_
      refine x_aload_n C 0 rfl rfl dX1_result_49 ?_
      refine x_get C (c := 78) (ci := 1) (k1 := 7) (v1 := .int (gi M 78 7)) (enC_1 (c := 78) rfl) (Nat.le_of_ble_eq_true rfl) rfl inX1 (by decide) wf_X1_18 rfl dX1_result_50 ?_
      exact x_iret C dX1_result_53 ⟨_, rfl, h⟩
    · replace h := x_iff hq2 h
      by_cases hq3 : a0 = 2
      · replace h := x_ift hq3 h
        refine x_tabIn C hq3 (tgt := 54) dX1_result_1 (by decide) (by decide) rfl (by decide) ?_
        refine x_aload_n C 0 rfl rfl dX1_result_54 ?_
        refine x_get C (c := 78) (ci := 1) (k1 := 8) (v1 := .int (gi M 78 8)) (enC_1 (c := 78) rfl) (Nat.le_of_ble_eq_true rfl) rfl inX1 (by decide) wf_X1_21 rfl dX1_result_55 ?_
        exact x_iret C dX1_result_58 ⟨_, rfl, h⟩
      · replace h := x_iff hq3 h
        by_cases hq4 : a0 = 3
        · replace h := x_ift hq4 h
          refine x_tabIn C hq4 (tgt := 59) dX1_result_1 (by decide) (by decide) rfl (by decide) ?_
          refine x_aload_n C 0 rfl rfl dX1_result_59 ?_
          refine x_get C (c := 78) (ci := 1) (k1 := 9) (v1 := .int (gi M 78 9)) (enC_1 (c := 78) rfl) (Nat.le_of_ble_eq_true rfl) rfl inX1 (by decide) wf_X1_24 rfl dX1_result_60 ?_
          exact x_iret C dX1_result_63 ⟨_, rfl, h⟩
        · replace h := x_iff hq4 h
          by_cases hq5 : a0 = 4
          · replace h := x_ift hq5 h
            refine x_tabIn C hq5 (tgt := 64) dX1_result_1 (by decide) (by decide) rfl (by decide) ?_
            refine x_aload_n C 0 rfl rfl dX1_result_64 ?_
            refine x_get C (c := 78) (ci := 1) (k1 := 10) (v1 := .int (gi M 78 10)) (enC_1 (c := 78) rfl) (Nat.le_of_ble_eq_true rfl) rfl inX1 (by decide) wf_X1_27 rfl dX1_result_65 ?_
            exact x_iret C dX1_result_68 ⟨_, rfl, h⟩
          · replace h := x_iff hq5 h
            by_cases hq6 : a0 = 5
            · replace h := x_ift hq6 h
              refine x_tabIn C hq6 (tgt := 69) dX1_result_1 (by decide) (by decide) rfl (by decide) ?_
              refine x_aload_n C 0 rfl rfl dX1_result_69 ?_
              refine x_get C (c := 78) (ci := 1) (k1 := 11) (v1 := .int (gi M 78 11)) (enC_1 (c := 78) rfl) (Nat.le_of_ble_eq_true rfl) rfl inX1 (by decide) wf_X1_30 rfl dX1_result_70 ?_
              exact x_iret C dX1_result_73 ⟨_, rfl, h⟩
            · replace h := x_iff hq6 h
              by_cases hq7 : a0 = 6
              · replace h := x_ift hq7 h
                refine x_tabIn C hq7 (tgt := 74) dX1_result_1 (by decide) (by decide) rfl (by decide) ?_
                refine x_aload_n C 0 rfl rfl dX1_result_74 ?_
                refine x_get C (c := 78) (ci := 1) (k1 := 12) (v1 := .int (gi M 78 12)) (enC_1 (c := 78) rfl) (Nat.le_of_ble_eq_true rfl) rfl inX1 (by decide) wf_X1_33 rfl dX1_result_75 ?_
                exact x_iret C dX1_result_78 ⟨_, rfl, h⟩
              · replace h := x_iff hq7 h
                refine x_tabOut C (tgt := 79) dX1_result_1 (by have t0 := x_i32ne hq1; have u0 : (0 : Int32).toInt = 0 := (by decide); have t1 := x_i32ne hq2; have u1 : (1 : Int32).toInt = 1 := (by decide); have t2 := x_i32ne hq3; have u2 : (2 : Int32).toInt = 2 := (by decide); have t3 := x_i32ne hq4; have u3 : (3 : Int32).toInt = 3 := (by decide); have t4 := x_i32ne hq5; have u4 : (4 : Int32).toInt = 4 := (by decide); have t5 := x_i32ne hq6; have u5 : (5 : Int32).toInt = 5 := (by decide); have t6 := x_i32ne hq7; have u6 : (6 : Int32).toInt = 6 := (by decide); omega) (by decide) ?_
                refine x_iload_n C 1 rfl rfl dX1_result_79 ?_
                refine x_bipush C (v1 := 10) dX1_result_80 (by decide) ?_
                refine x_bipush C (v1 := 13) dX1_result_82 (by decide) ?_
                refine x_callSN C (st := []) (As := [.int a0, .int 10, .int 13]) (tX11_isWithin hg _ _ _ _ _ _  h) wmn_X1_82 wsm_X11_isWithin wz_X11 wc_X11_isWithin yd_X11_isWithin rfl ⟨rfl, rfl⟩ ⟨Nat.le_of_ble_eq_true rfl, Nat.le_of_ble_eq_true rfl⟩ (Nat.le_of_ble_eq_true rfl) rfl dX1_result_84 (x_ki (fun r9 M8 h => ?_))
                refine x_if_eq C (tgt := 103) dX1_result_87 (by decide) (fun hq10 => ?_) (fun hq10 => ?_)
                · replace h := x_ift hq10 h
                  refine x_iload_n C 1 rfl rfl dX1_result_103 ?_
                  refine x_bipush C (v1 := 20) dX1_result_104 (by decide) ?_
                  refine x_bipush C (v1 := 23) dX1_result_106 (by decide) ?_
                  refine x_callSN C (st := []) (As := [.int a0, .int 20, .int 23]) (tX11_isWithin hg _ _ _ _ _ _  h) wmn_X1_82 wsm_X11_isWithin wz_X11 wc_X11_isWithin yd_X11_isWithin rfl ⟨rfl, rfl⟩ ⟨Nat.le_of_ble_eq_true rfl, Nat.le_of_ble_eq_true rfl⟩ (Nat.le_of_ble_eq_true rfl) rfl dX1_result_108 (x_ki (fun r12 M11 h => ?_))
                  refine x_if_eq C (tgt := 127) dX1_result_111 (by decide) (fun hq13 => ?_) (fun hq13 => ?_)
                  · replace h := x_ift hq13 h
                    refine x_iload_n C 1 rfl rfl dX1_result_127 ?_
                    refine x_bipush C (v1 := 30) dX1_result_128 (by decide) ?_
                    refine x_bipush C (v1 := 39) dX1_result_130 (by decide) ?_
                    refine x_callSN C (st := []) (As := [.int a0, .int 30, .int 39]) (tX11_isWithin hg _ _ _ _ _ _  h) wmn_X1_82 wsm_X11_isWithin wz_X11 wc_X11_isWithin yd_X11_isWithin rfl ⟨rfl, rfl⟩ ⟨Nat.le_of_ble_eq_true rfl, Nat.le_of_ble_eq_true rfl⟩ (Nat.le_of_ble_eq_true rfl) rfl dX1_result_132 (x_ki (fun r15 M14 h => ?_))
                    refine x_if_eq C (tgt := 153) dX1_result_135 (by decide) (fun hq16 => ?_) (fun hq16 => ?_)
                    · replace h := x_ift hq16 h
                      refine x_iconst C (v1 := (-1)) dX1_result_153 (by decide) ?_
                      exact x_iret C dX1_result_154 ⟨_, rfl, h⟩
                    · replace h := x_iff hq16 h
                      refine x_aload_n C 0 rfl rfl dX1_result_138 ?_
                      obtain ⟨hd17, h⟩ := h
                      refine x_get C (c := 78) (ci := 1) (k1 := 3) (v1 := .ref (ga g (((gi M14 78 3).toNatClampNeg)))) (enC_1 (c := 78) rfl) (Nat.le_of_ble_eq_true rfl) rfl inX1 (by decide) wf_X1_54 rfl dX1_result_139 ?_
                      refine x_getN C (c := ((gi M14 78 3).toNatClampNeg)) (ci := 4) (k1 := 8) (v1 := .ref (ga g ((((gi M14 78 3).toNatClampNeg) + 7)))) (enC_4 (c := ((gi M14 78 3).toNatClampNeg)) hd17) (kC_lt hd17 (by decide)) rfl inX4 (by decide) wfn_X1_93 rfl dX1_result_142 ?_
                      refine x_iload_n C 1 rfl rfl dX1_result_145 ?_
                      refine x_bipush C (v1 := 30) dX1_result_146 (by decide) ?_
                      refine x_isub C dX1_result_148 ?_
                      obtain ⟨hi18, h⟩ := h
                      refine x_iald C 0 (c := (((gi M14 78 3).toNatClampNeg) + 7)) (enC_20n (c := (((gi M14 78 3).toNatClampNeg) + 7)) (n := 10) (krX4_7 hd17) (lrX4_7 hd17)) (kC_lt (krX4_7 hd17) (by decide)) rfl hi18 dX1_result_149 ?_
                      refine x_goto C (tgt := 154) dX1_result_150 (by decide) ?_
                      exact x_iret C dX1_result_154 ⟨_, rfl, h⟩
                  · replace h := x_iff hq13 h
                    refine x_aload_n C 0 rfl rfl dX1_result_114 ?_
                    obtain ⟨hd19, h⟩ := h
                    refine x_get C (c := 78) (ci := 1) (k1 := 3) (v1 := .ref (ga g (((gi M11 78 3).toNatClampNeg)))) (enC_1 (c := 78) rfl) (Nat.le_of_ble_eq_true rfl) rfl inX1 (by decide) wf_X1_54 rfl dX1_result_115 ?_
                    refine x_getN C (c := ((gi M11 78 3).toNatClampNeg)) (ci := 4) (k1 := 4) (v1 := .ref (ga g ((((gi M11 78 3).toNatClampNeg) + 4)))) (enC_4 (c := ((gi M11 78 3).toNatClampNeg)) hd19) (kC_lt hd19 (by decide)) rfl inX4 (by decide) wfn_X1_90 rfl dX1_result_118 ?_
                    refine x_iload_n C 1 rfl rfl dX1_result_121 ?_
                    refine x_bipush C (v1 := 20) dX1_result_122 (by decide) ?_
                    refine x_isub C dX1_result_124 ?_
                    obtain ⟨hi20, h⟩ := h
                    refine x_iald C 0 (c := (((gi M11 78 3).toNatClampNeg) + 4)) (enC_20n (c := (((gi M11 78 3).toNatClampNeg) + 4)) (n := 4) (krX4_4 hd19) (lrX4_4 hd19)) (kC_lt (krX4_4 hd19) (by decide)) rfl hi20 dX1_result_125 ?_
                    exact x_iret C dX1_result_126 ⟨_, rfl, h⟩
                · replace h := x_iff hq10 h
                  refine x_aload_n C 0 rfl rfl dX1_result_90 ?_
                  obtain ⟨hd21, h⟩ := h
                  refine x_get C (c := 78) (ci := 1) (k1 := 3) (v1 := .ref (ga g (((gi M8 78 3).toNatClampNeg)))) (enC_1 (c := 78) rfl) (Nat.le_of_ble_eq_true rfl) rfl inX1 (by decide) wf_X1_54 rfl dX1_result_91 ?_
                  refine x_getN C (c := ((gi M8 78 3).toNatClampNeg)) (ci := 4) (k1 := 2) (v1 := .ref (ga g ((((gi M8 78 3).toNatClampNeg) + 2)))) (enC_4 (c := ((gi M8 78 3).toNatClampNeg)) hd21) (kC_lt hd21 (by decide)) rfl inX4 (by decide) wfn_X1_86 rfl dX1_result_94 ?_
                  refine x_iload_n C 1 rfl rfl dX1_result_97 ?_
                  refine x_bipush C (v1 := 10) dX1_result_98 (by decide) ?_
                  refine x_isub C dX1_result_100 ?_
                  obtain ⟨hi22, h⟩ := h
                  refine x_iald C 0 (c := (((gi M8 78 3).toNatClampNeg) + 2)) (enC_20n (c := (((gi M8 78 3).toNatClampNeg) + 2)) (n := 4) (krX4_2 hd21) (lrX4_2 hd21)) (kC_lt (krX4_2 hd21) (by decide)) rfl hi22 dX1_result_101 ?_
                  exact x_iret C dX1_result_102 ⟨_, rfl, h⟩
set_option maxHeartbeats 4000000 in
set_option maxRecDepth 100000 in
theorem tX4_takeFrom {g : xG} (hg : x_inj (WC g))  (l : Launch) (o : Nat) (o0 : Nat) (M : xMem) (post : xMem → Prop) (ho : kC o = 4) (ho0 : kC o0 = 4) (h : wX4_takeFrom o o0 M post) : xMet (WC g) l yX4_takeFrom cX4_takeFrom 2 none (rm_X4_takeFrom) [.ref (ga g o), .ref (ga g o0)] M (pV post) := by
  refine x_enter (own := RX4) (L0 := [(0, .ref (ga g o)), (1, .ref (ga g o0))]) (by decide +kernel) rfl hg (x_stC g) (Nat.le_of_ble_eq_true rfl) rfl (fun x hl C => ?_)
  unfold wX4_takeFrom at h
  refine x_aload_n C 0 rfl rfl dX4_takeFrom_0 ?_
  refine x_aload_n C 1 rfl rfl dX4_takeFrom_1 ?_
  refine x_get C (c := o0) (ci := 4) (k1 := 0) (v1 := .int (gi M o0 0)) (enC_4 (c := o0) ho0) (kC_lt ho0 (by decide)) rfl inX4 (by decide) wf_X4_9 rfl dX4_takeFrom_2 ?_
  refine x_put C (c := o) (ci := 4) (k1 := 0) (u1 := (gi M o0 0)) (v1 := .int (gi M o0 0)) (ty := .int) (enC_4 (c := o) ho) (kC_lt ho (by decide)) rfl inX4 (by decide) (stX4_0 _ _ _) tyX4 tyX4_ok nmX4 wf_X4_9 rfl rfl rfl rfl (Nat.le_of_ble_eq_true rfl) dX4_takeFrom_5 ?_
  refine x_nmM (fun M1 eM1 => ?_)
  replace h := h M1 eM1
  refine x_aload_n C 1 rfl rfl dX4_takeFrom_8 ?_
  refine x_get C (c := o0) (ci := 4) (k1 := 1) (v1 := .ref (ga g ((o0 + 1)))) (enC_4 (c := o0) ho0) (kC_lt ho0 (by decide)) rfl inX4 (by decide) wf_X4_15 rfl dX4_takeFrom_9 ?_
  refine x_iconst C (v1 := 0) dX4_takeFrom_12 (by decide) ?_
  refine x_aload_n C 0 rfl rfl dX4_takeFrom_13 ?_
  refine x_get C (c := o) (ci := 4) (k1 := 1) (v1 := .ref (ga g ((o + 1)))) (enC_4 (c := o) ho) (kC_lt ho (by decide)) rfl inX4 (by decide) wf_X4_15 rfl dX4_takeFrom_14 ?_
  refine x_iconst C (v1 := 0) dX4_takeFrom_17 (by decide) ?_
  refine x_iconst C (v1 := 4) dX4_takeFrom_18 (by decide) ?_
  obtain ⟨hk2, h⟩ := h
  refine x_acopy C 0 (c := (o0 + 1)) (d := (o + 1)) (sp := 0) (dp := 0) (n := 4) (enC_20n (c := (o0 + 1)) (n := 4) (krX4_1 ho0) (lrX4_1 ho0)) (enC_20n (c := (o + 1)) (n := 4) (krX4_1 ho) (lrX4_1 ho)) (kC_lt (krX4_1 ho0) (by decide)) (kC_lt (krX4_1 ho) (by decide)) rfl wm_X4_55 (by first | exact wna_arraycopy) (wsm_arraycopy) wz_system hk2 (Nat.le_of_ble_eq_true rfl) (Nat.le_of_ble_eq_true rfl) dX4_takeFrom_19 ?_
  refine x_nmM (fun M3 eM3 => ?_)
  replace h := h M3 eM3
  refine x_aload_n C 1 rfl rfl dX4_takeFrom_22 ?_
  refine x_get C (c := o0) (ci := 4) (k1 := 2) (v1 := .ref (ga g ((o0 + 2)))) (enC_4 (c := o0) ho0) (kC_lt ho0 (by decide)) rfl inX4 (by decide) wf_X4_19 rfl dX4_takeFrom_23 ?_
  refine x_iconst C (v1 := 0) dX4_takeFrom_26 (by decide) ?_
  refine x_aload_n C 0 rfl rfl dX4_takeFrom_27 ?_
  refine x_get C (c := o) (ci := 4) (k1 := 2) (v1 := .ref (ga g ((o + 2)))) (enC_4 (c := o) ho) (kC_lt ho (by decide)) rfl inX4 (by decide) wf_X4_19 rfl dX4_takeFrom_28 ?_
  refine x_iconst C (v1 := 0) dX4_takeFrom_31 (by decide) ?_
  refine x_iconst C (v1 := 4) dX4_takeFrom_32 (by decide) ?_
  obtain ⟨hk4, h⟩ := h
  refine x_acopy C 0 (c := (o0 + 2)) (d := (o + 2)) (sp := 0) (dp := 0) (n := 4) (enC_20n (c := (o0 + 2)) (n := 4) (krX4_2 ho0) (lrX4_2 ho0)) (enC_20n (c := (o + 2)) (n := 4) (krX4_2 ho) (lrX4_2 ho)) (kC_lt (krX4_2 ho0) (by decide)) (kC_lt (krX4_2 ho) (by decide)) rfl wm_X4_55 (by first | exact wna_arraycopy) (wsm_arraycopy) wz_system hk4 (Nat.le_of_ble_eq_true rfl) (Nat.le_of_ble_eq_true rfl) dX4_takeFrom_33 ?_
  refine x_nmM (fun M5 eM5 => ?_)
  replace h := h M5 eM5
  refine x_aload_n C 1 rfl rfl dX4_takeFrom_36 ?_
  refine x_get C (c := o0) (ci := 4) (k1 := 3) (v1 := .ref (ga g ((o0 + 3)))) (enC_4 (c := o0) ho0) (kC_lt ho0 (by decide)) rfl inX4 (by decide) wf_X4_22 rfl dX4_takeFrom_37 ?_
  refine x_iconst C (v1 := 0) dX4_takeFrom_40 (by decide) ?_
  refine x_aload_n C 0 rfl rfl dX4_takeFrom_41 ?_
  refine x_get C (c := o) (ci := 4) (k1 := 3) (v1 := .ref (ga g ((o + 3)))) (enC_4 (c := o) ho) (kC_lt ho (by decide)) rfl inX4 (by decide) wf_X4_22 rfl dX4_takeFrom_42 ?_
  refine x_iconst C (v1 := 0) dX4_takeFrom_45 (by decide) ?_
  refine x_iconst C (v1 := 4) dX4_takeFrom_46 (by decide) ?_
  obtain ⟨hk6, h⟩ := h
  refine x_acopy C 0 (c := (o0 + 3)) (d := (o + 3)) (sp := 0) (dp := 0) (n := 4) (enC_20n (c := (o0 + 3)) (n := 4) (krX4_3 ho0) (lrX4_3 ho0)) (enC_20n (c := (o + 3)) (n := 4) (krX4_3 ho) (lrX4_3 ho)) (kC_lt (krX4_3 ho0) (by decide)) (kC_lt (krX4_3 ho) (by decide)) rfl wm_X4_55 (by first | exact wna_arraycopy) (wsm_arraycopy) wz_system hk6 (Nat.le_of_ble_eq_true rfl) (Nat.le_of_ble_eq_true rfl) dX4_takeFrom_47 ?_
  refine x_nmM (fun M7 eM7 => ?_)
  replace h := h M7 eM7
  refine x_aload_n C 1 rfl rfl dX4_takeFrom_50 ?_
  refine x_get C (c := o0) (ci := 4) (k1 := 4) (v1 := .ref (ga g ((o0 + 4)))) (enC_4 (c := o0) ho0) (kC_lt ho0 (by decide)) rfl inX4 (by decide) wf_X4_25 rfl dX4_takeFrom_51 ?_
  refine x_iconst C (v1 := 0) dX4_takeFrom_54 (by decide) ?_
  refine x_aload_n C 0 rfl rfl dX4_takeFrom_55 ?_
  refine x_get C (c := o) (ci := 4) (k1 := 4) (v1 := .ref (ga g ((o + 4)))) (enC_4 (c := o) ho) (kC_lt ho (by decide)) rfl inX4 (by decide) wf_X4_25 rfl dX4_takeFrom_56 ?_
  refine x_iconst C (v1 := 0) dX4_takeFrom_59 (by decide) ?_
  refine x_iconst C (v1 := 4) dX4_takeFrom_60 (by decide) ?_
  obtain ⟨hk8, h⟩ := h
  refine x_acopy C 0 (c := (o0 + 4)) (d := (o + 4)) (sp := 0) (dp := 0) (n := 4) (enC_20n (c := (o0 + 4)) (n := 4) (krX4_4 ho0) (lrX4_4 ho0)) (enC_20n (c := (o + 4)) (n := 4) (krX4_4 ho) (lrX4_4 ho)) (kC_lt (krX4_4 ho0) (by decide)) (kC_lt (krX4_4 ho) (by decide)) rfl wm_X4_55 (by first | exact wna_arraycopy) (wsm_arraycopy) wz_system hk8 (Nat.le_of_ble_eq_true rfl) (Nat.le_of_ble_eq_true rfl) dX4_takeFrom_61 ?_
  refine x_nmM (fun M9 eM9 => ?_)
  replace h := h M9 eM9
  refine x_aload_n C 0 rfl rfl dX4_takeFrom_64 ?_
  refine x_aload_n C 1 rfl rfl dX4_takeFrom_65 ?_
  refine x_get C (c := o0) (ci := 4) (k1 := 5) (v1 := .int (gi M9 o0 5)) (enC_4 (c := o0) ho0) (kC_lt ho0 (by decide)) rfl inX4 (by decide) wf_X4_28 rfl dX4_takeFrom_66 ?_
  refine x_put C (c := o) (ci := 4) (k1 := 5) (u1 := (gi M9 o0 5)) (v1 := .int (gi M9 o0 5)) (ty := .int) (enC_4 (c := o) ho) (kC_lt ho (by decide)) rfl inX4 (by decide) (stX4_5 _ _ _) tyX4 tyX4_ok nmX4 wf_X4_28 rfl rfl rfl rfl (Nat.le_of_ble_eq_true rfl) dX4_takeFrom_69 ?_
  refine x_nmM (fun M10 eM10 => ?_)
  replace h := h M10 eM10
  refine x_aload_n C 1 rfl rfl dX4_takeFrom_72 ?_
  refine x_get C (c := o0) (ci := 4) (k1 := 6) (v1 := .ref (ga g ((o0 + 5)))) (enC_4 (c := o0) ho0) (kC_lt ho0 (by decide)) rfl inX4 (by decide) wf_X4_31 rfl dX4_takeFrom_73 ?_
  refine x_iconst C (v1 := 0) dX4_takeFrom_76 (by decide) ?_
  refine x_aload_n C 0 rfl rfl dX4_takeFrom_77 ?_
  refine x_get C (c := o) (ci := 4) (k1 := 6) (v1 := .ref (ga g ((o + 5)))) (enC_4 (c := o) ho) (kC_lt ho (by decide)) rfl inX4 (by decide) wf_X4_31 rfl dX4_takeFrom_78 ?_
  refine x_iconst C (v1 := 0) dX4_takeFrom_81 (by decide) ?_
  refine x_bipush C (v1 := 10) dX4_takeFrom_82 (by decide) ?_
  obtain ⟨hk11, h⟩ := h
  refine x_acopy C 0 (c := (o0 + 5)) (d := (o + 5)) (sp := 0) (dp := 0) (n := 10) (enC_20n (c := (o0 + 5)) (n := 10) (krX4_5 ho0) (lrX4_5 ho0)) (enC_20n (c := (o + 5)) (n := 10) (krX4_5 ho) (lrX4_5 ho)) (kC_lt (krX4_5 ho0) (by decide)) (kC_lt (krX4_5 ho) (by decide)) rfl wm_X4_55 (by first | exact wna_arraycopy) (wsm_arraycopy) wz_system hk11 (Nat.le_of_ble_eq_true rfl) (Nat.le_of_ble_eq_true rfl) dX4_takeFrom_84 ?_
  refine x_nmM (fun M12 eM12 => ?_)
  replace h := h M12 eM12
  refine x_aload_n C 1 rfl rfl dX4_takeFrom_87 ?_
  refine x_get C (c := o0) (ci := 4) (k1 := 7) (v1 := .ref (ga g ((o0 + 6)))) (enC_4 (c := o0) ho0) (kC_lt ho0 (by decide)) rfl inX4 (by decide) wf_X4_34 rfl dX4_takeFrom_88 ?_
  refine x_iconst C (v1 := 0) dX4_takeFrom_91 (by decide) ?_
  refine x_aload_n C 0 rfl rfl dX4_takeFrom_92 ?_
  refine x_get C (c := o) (ci := 4) (k1 := 7) (v1 := .ref (ga g ((o + 6)))) (enC_4 (c := o) ho) (kC_lt ho (by decide)) rfl inX4 (by decide) wf_X4_34 rfl dX4_takeFrom_93 ?_
  refine x_iconst C (v1 := 0) dX4_takeFrom_96 (by decide) ?_
  refine x_bipush C (v1 := 10) dX4_takeFrom_97 (by decide) ?_
  obtain ⟨hk13, h⟩ := h
  refine x_acopy C 0 (c := (o0 + 6)) (d := (o + 6)) (sp := 0) (dp := 0) (n := 10) (enC_20n (c := (o0 + 6)) (n := 10) (krX4_6 ho0) (lrX4_6 ho0)) (enC_20n (c := (o + 6)) (n := 10) (krX4_6 ho) (lrX4_6 ho)) (kC_lt (krX4_6 ho0) (by decide)) (kC_lt (krX4_6 ho) (by decide)) rfl wm_X4_55 (by first | exact wna_arraycopy) (wsm_arraycopy) wz_system hk13 (Nat.le_of_ble_eq_true rfl) (Nat.le_of_ble_eq_true rfl) dX4_takeFrom_99 ?_
  refine x_nmM (fun M14 eM14 => ?_)
  replace h := h M14 eM14
  refine x_aload_n C 1 rfl rfl dX4_takeFrom_102 ?_
  refine x_get C (c := o0) (ci := 4) (k1 := 8) (v1 := .ref (ga g ((o0 + 7)))) (enC_4 (c := o0) ho0) (kC_lt ho0 (by decide)) rfl inX4 (by decide) wf_X4_37 rfl dX4_takeFrom_103 ?_
  refine x_iconst C (v1 := 0) dX4_takeFrom_106 (by decide) ?_
  refine x_aload_n C 0 rfl rfl dX4_takeFrom_107 ?_
  refine x_get C (c := o) (ci := 4) (k1 := 8) (v1 := .ref (ga g ((o + 7)))) (enC_4 (c := o) ho) (kC_lt ho (by decide)) rfl inX4 (by decide) wf_X4_37 rfl dX4_takeFrom_108 ?_
  refine x_iconst C (v1 := 0) dX4_takeFrom_111 (by decide) ?_
  refine x_bipush C (v1 := 10) dX4_takeFrom_112 (by decide) ?_
  obtain ⟨hk15, h⟩ := h
  refine x_acopy C 0 (c := (o0 + 7)) (d := (o + 7)) (sp := 0) (dp := 0) (n := 10) (enC_20n (c := (o0 + 7)) (n := 10) (krX4_7 ho0) (lrX4_7 ho0)) (enC_20n (c := (o + 7)) (n := 10) (krX4_7 ho) (lrX4_7 ho)) (kC_lt (krX4_7 ho0) (by decide)) (kC_lt (krX4_7 ho) (by decide)) rfl wm_X4_55 (by first | exact wna_arraycopy) (wsm_arraycopy) wz_system hk15 (Nat.le_of_ble_eq_true rfl) (Nat.le_of_ble_eq_true rfl) dX4_takeFrom_114 ?_
  refine x_nmM (fun M16 eM16 => ?_)
  replace h := h M16 eM16
  refine x_aload_n C 1 rfl rfl dX4_takeFrom_117 ?_
  refine x_get C (c := o0) (ci := 4) (k1 := 9) (v1 := .ref (ga g ((o0 + 8)))) (enC_4 (c := o0) ho0) (kC_lt ho0 (by decide)) rfl inX4 (by decide) wf_X4_40 rfl dX4_takeFrom_118 ?_
  refine x_iconst C (v1 := 0) dX4_takeFrom_121 (by decide) ?_
  refine x_aload_n C 0 rfl rfl dX4_takeFrom_122 ?_
  refine x_get C (c := o) (ci := 4) (k1 := 9) (v1 := .ref (ga g ((o + 8)))) (enC_4 (c := o) ho) (kC_lt ho (by decide)) rfl inX4 (by decide) wf_X4_40 rfl dX4_takeFrom_123 ?_
  refine x_iconst C (v1 := 0) dX4_takeFrom_126 (by decide) ?_
  refine x_bipush C (v1 := 10) dX4_takeFrom_127 (by decide) ?_
  obtain ⟨hk17, h⟩ := h
  refine x_acopy C 0 (c := (o0 + 8)) (d := (o + 8)) (sp := 0) (dp := 0) (n := 10) (enC_20n (c := (o0 + 8)) (n := 10) (krX4_8 ho0) (lrX4_8 ho0)) (enC_20n (c := (o + 8)) (n := 10) (krX4_8 ho) (lrX4_8 ho)) (kC_lt (krX4_8 ho0) (by decide)) (kC_lt (krX4_8 ho) (by decide)) rfl wm_X4_55 (by first | exact wna_arraycopy) (wsm_arraycopy) wz_system hk17 (Nat.le_of_ble_eq_true rfl) (Nat.le_of_ble_eq_true rfl) dX4_takeFrom_129 ?_
  refine x_nmM (fun M18 eM18 => ?_)
  replace h := h M18 eM18
  refine x_aload_n C 0 rfl rfl dX4_takeFrom_132 ?_
  refine x_aload_n C 1 rfl rfl dX4_takeFrom_133 ?_
  refine x_get C (c := o0) (ci := 4) (k1 := 10) (v1 := .int (gi M18 o0 10)) (enC_4 (c := o0) ho0) (kC_lt ho0 (by decide)) rfl inX4 (by decide) wf_X4_43 rfl dX4_takeFrom_134 ?_
  refine x_put C (c := o) (ci := 4) (k1 := 10) (u1 := (gi M18 o0 10)) (v1 := .int (gi M18 o0 10)) (ty := .int) (enC_4 (c := o) ho) (kC_lt ho (by decide)) rfl inX4 (by decide) (stX4_10 _ _ _) tyX4 tyX4_ok nmX4 wf_X4_43 rfl rfl rfl rfl (Nat.le_of_ble_eq_true rfl) dX4_takeFrom_137 ?_
  refine x_nmM (fun M19 eM19 => ?_)
  replace h := h M19 eM19
  refine x_aload_n C 0 rfl rfl dX4_takeFrom_140 ?_
  refine x_aload_n C 1 rfl rfl dX4_takeFrom_141 ?_
  refine x_get C (c := o0) (ci := 4) (k1 := 11) (v1 := .int (gi M19 o0 11)) (enC_4 (c := o0) ho0) (kC_lt ho0 (by decide)) rfl inX4 (by decide) wf_X4_46 rfl dX4_takeFrom_142 ?_
  refine x_put C (c := o) (ci := 4) (k1 := 11) (u1 := (gi M19 o0 11)) (v1 := .int (gi M19 o0 11)) (ty := .int) (enC_4 (c := o) ho) (kC_lt ho (by decide)) rfl inX4 (by decide) (stX4_11 _ _ _) tyX4 tyX4_ok nmX4 wf_X4_46 rfl rfl rfl rfl (Nat.le_of_ble_eq_true rfl) dX4_takeFrom_145 ?_
  refine x_nmM (fun M20 eM20 => ?_)
  replace h := h M20 eM20
  refine x_aload_n C 0 rfl rfl dX4_takeFrom_148 ?_
  refine x_aload_n C 1 rfl rfl dX4_takeFrom_149 ?_
  refine x_get C (c := o0) (ci := 4) (k1 := 12) (v1 := .int (gi M20 o0 12)) (enC_4 (c := o0) ho0) (kC_lt ho0 (by decide)) rfl inX4 (by decide) wf_X4_49 rfl dX4_takeFrom_150 ?_
  refine x_put C (c := o) (ci := 4) (k1 := 12) (u1 := (gi M20 o0 12)) (v1 := .int (gi M20 o0 12)) (ty := .int) (enC_4 (c := o) ho) (kC_lt ho (by decide)) rfl inX4 (by decide) (stX4_12 _ _ _) tyX4 tyX4_ok nmX4 wf_X4_49 rfl rfl rfl rfl (Nat.le_of_ble_eq_true rfl) dX4_takeFrom_153 ?_
  refine x_nmM (fun M21 eM21 => ?_)
  replace h := h M21 eM21
  refine x_aload_n C 0 rfl rfl dX4_takeFrom_156 ?_
  refine x_aload_n C 1 rfl rfl dX4_takeFrom_157 ?_
  refine x_get C (c := o0) (ci := 4) (k1 := 13) (v1 := .int (gi M21 o0 13)) (enC_4 (c := o0) ho0) (kC_lt ho0 (by decide)) rfl inX4 (by decide) wf_X4_52 rfl dX4_takeFrom_158 ?_
  refine x_put C (c := o) (ci := 4) (k1 := 13) (u1 := (gi M21 o0 13)) (v1 := .int (gi M21 o0 13)) (ty := .int) (enC_4 (c := o) ho) (kC_lt ho (by decide)) rfl inX4 (by decide) (stX4_13 _ _ _) tyX4 tyX4_ok nmX4 wf_X4_52 rfl rfl rfl rfl (Nat.le_of_ble_eq_true rfl) dX4_takeFrom_161 ?_
  refine x_nmM (fun M22 eM22 => ?_)
  replace h := h M22 eM22
  exact x_vret C dX4_takeFrom_164 ⟨rfl, h⟩
