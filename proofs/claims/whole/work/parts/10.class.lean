abbrev rm_X11_putOnTape : Room := { frames := 0, cells := 0, slots := 0, locals := 0 }
theorem yd_X11_putOnTape : yX11_putOnTape.cls ≠ "java/lang/invoke/MethodHandle" ∧ yX11_putOnTape.cls ≠ "java/lang/invoke/VarHandle" ∧ (parseMethodDescriptor yX11_putOnTape.desc).map (fun d => d.parameters.length) = some 1 := by decide +kernel
def wX11_putOnTape_43   (K3 : Int32 → Int32 → xMem → Prop) (post : xMem → Prop) (x1 : Int32) (x2 : Int32) (M : xMem) : Prop :=
    ∀ v1 : Int32, v1 = x2 + (-8) →
    K3 x1 v1 M
def wX11_putOnTape_3    (post : xMem → Prop) : Nat → Int32 → Int32 → xMem → Prop
  | 0 => fun _ _ _ => False
  | n + 1 => fun x1 x2 M =>
      if x2 < 0 then (
        post M)
      else (
        if 260 ≤ (gi M 0 1) then (
          wX11_putOnTape_43 (wX11_putOnTape_3 post n) post x1 x2 M)
        else (
          vp_in (gi M 0 1) 260 ∧
          ∀ M4 : xMem, M4 = si M 1 (gi M 0 1).toNatClampNeg ((xushr x1 x2) &&& 255) →
          ∀ M5 : xMem, M5 = si M4 0 1 ((gi M4 0 1) + 1) →
          wX11_putOnTape_43 (wX11_putOnTape_3 post n) post x1 x2 M5))
def wX11_putOnTape  (a0 : Int32) (M : xMem) (post : xMem → Prop) : Prop :=
    ∃ n3 : Nat, wX11_putOnTape_3 post n3 a0 24 M
abbrev rm_X11_feed : Room := { frames := 1, cells := 0, slots := 0, locals := 22 }
theorem yd_X11_feed : yX11_feed.cls ≠ "java/lang/invoke/MethodHandle" ∧ yX11_feed.cls ≠ "java/lang/invoke/VarHandle" ∧ (parseMethodDescriptor yX11_feed.desc).map (fun d => d.parameters.length) = some 5 := by decide +kernel
def wX11_feed  (a0 : Int32) (a1 : Int32) (a2 : Int32) (a3 : Int32) (a4 : Int32) (M : xMem) (post : Int32 → xMem → Prop) : Prop :=
    if ((gi M 0 1) + 20) ≤ 260 then (
      wX11_putOnTape a0 M (fun M2 =>
        wX11_putOnTape a1 M2 (fun M3 =>
          wX11_putOnTape a2 M3 (fun M4 =>
            wX11_putOnTape a3 M4 (fun M5 =>
              wX11_putOnTape a4 M5 (fun M6 =>
                post (gi M6 0 1) M6))))))
    else (
      post (-1) M)
abbrev rm_X11_isWithin : Room := { frames := 0, cells := 0, slots := 0, locals := 0 }
theorem yd_X11_isWithin : yX11_isWithin.cls ≠ "java/lang/invoke/MethodHandle" ∧ yX11_isWithin.cls ≠ "java/lang/invoke/VarHandle" ∧ (parseMethodDescriptor yX11_isWithin.desc).map (fun d => d.parameters.length) = some 3 := by decide +kernel
def wX11_isWithin  (a0 : Int32) (a1 : Int32) (a2 : Int32) (M : xMem) (post : Int32 → xMem → Prop) : Prop :=
    if a0 < a1 then (
      post 0 M)
    else (
      if a2 < a0 then (
        post 0 M)
      else (
        post 1 M))
abbrev rm_X11_storyAt : Room := { frames := 1, cells := 0, slots := 0, locals := 22 }
theorem yd_X11_storyAt : yX11_storyAt.cls ≠ "java/lang/invoke/MethodHandle" ∧ yX11_storyAt.cls ≠ "java/lang/invoke/VarHandle" ∧ (parseMethodDescriptor yX11_storyAt.desc).map (fun d => d.parameters.length) = some 1 := by decide +kernel
def wX11_storyAt  (a0 : Int32) (M : xMem) (post : Nat → xMem → Prop) : Prop :=
    wX11_isWithin a0 0 5 M (fun r2 M1 =>
      if r2 = 0 then (
        post 0 M1)
      else (
        vp_in a0 6 ∧
        post ((3 + 2 * a0.toNatClampNeg)) M1))
abbrev rm_X11_tapeGives : Room := { frames := 1, cells := 0, slots := 0, locals := 22 }
theorem yd_X11_tapeGives : yX11_tapeGives.cls ≠ "java/lang/invoke/MethodHandle" ∧ yX11_tapeGives.cls ≠ "java/lang/invoke/VarHandle" ∧ (parseMethodDescriptor yX11_tapeGives.desc).map (fun d => d.parameters.length) = some 3 := by decide +kernel
def wX11_tapeGives  (a0 : Int32) (a1 : Int32) (a2 : Int32) (M : xMem) (post : Int32 → xMem → Prop) : Prop :=
    wX11_isWithin a0 a1 a2 M (fun r2 M1 =>
      if r2 = 0 then (
        post 0 M1)
      else (
        if (gi M1 0 1) < a0 then (
          post 0 M1)
        else (
          post 1 M1)))
abbrev rm_X11_has : Room := { frames := 0, cells := 0, slots := 0, locals := 0 }
theorem yd_X11_has : yX11_has.cls ≠ "java/lang/invoke/MethodHandle" ∧ yX11_has.cls ≠ "java/lang/invoke/VarHandle" ∧ (parseMethodDescriptor yX11_has.desc).map (fun d => d.parameters.length) = some 2 := by decide +kernel
def wX11_has  (a0 : Int32) (a1 : Int32) (M : xMem) (post : Int32 → xMem → Prop) : Prop :=
    if a1 < 0 then (
      post 0 M)
    else (
      if 10 ≤ a1 then (
        post 0 M)
      else (
        if ((a0 >>> (a1 &&& 31)) &&& 1) = 1 then (
          post 1 M)
        else (
          post 0 M)))
abbrev rm_X4_beginAnew : Room := { frames := 1, cells := 0, slots := 0, locals := 21 }
theorem yd_X4_beginAnew : yX4_beginAnew.cls ≠ "java/lang/invoke/MethodHandle" ∧ yX4_beginAnew.cls ≠ "java/lang/invoke/VarHandle" ∧ (parseMethodDescriptor yX4_beginAnew.desc).map (fun d => d.parameters.length) = some 1 := by decide +kernel
def wX4_beginAnew_42  (o : Nat) (K2 : Int32 → Int32 → xMem → Prop) (post : xMem → Prop) (x1 : Int32) (x2 : Int32) (M : xMem) : Prop :=
    ∀ v1 : Int32, v1 = x2 + 1 →
    K2 x1 v1 M
def wX4_beginAnew_2  (o : Nat)  (post : xMem → Prop) : Nat → Int32 → Int32 → xMem → Prop
  | 0 => fun _ _ _ => False
  | n + 1 => fun x1 x2 M =>
      if 4 ≤ x2 then (
        post M)
      else (
        wX11_has (gi M o 0) x2 M (fun r3 M2 =>
          if r3 = 0 then (
            wX4_beginAnew_42 o (wX4_beginAnew_2 o post n) post x1 x2 M2)
          else (
            vp_in x2 4 ∧
            if (gi M2 ((o + 1)) x2.toNatClampNeg) = x1 then (
              vp_in x2 4 ∧
              ∀ M8 : xMem, M8 = si M2 ((o + 3)) x2.toNatClampNeg 0 →
              vp_in x2 4 ∧
              ∀ M10 : xMem, M10 = si M8 ((o + 4)) x2.toNatClampNeg 0 →
              wX4_beginAnew_42 o (wX4_beginAnew_2 o post n) post x1 x2 M10)
            else (
              wX4_beginAnew_42 o (wX4_beginAnew_2 o post n) post x1 x2 M2))))
def wX4_beginAnew  (o : Nat) (a0 : Int32) (M : xMem) (post : xMem → Prop) : Prop :=
    ∃ n2 : Nat, wX4_beginAnew_2 o post n2 a0 0 M
abbrev rm_X11_story : Room := { frames := 182, cells := 0, slots := 0, locals := 9046 }
theorem yd_X11_story : yX11_story.cls ≠ "java/lang/invoke/MethodHandle" ∧ yX11_story.cls ≠ "java/lang/invoke/VarHandle" ∧ (parseMethodDescriptor yX11_story.desc).map (fun d => d.parameters.length) = some 2 := by decide +kernel
def wX11_story  (a0 : Int32) (a1 : Int32) (M : xMem) (post : Int32 → xMem → Prop) : Prop :=
    wX11_storyAt a0 M (fun q2 M1 =>
      if q2 = 0 then (
        post (-1) M1)
      else (
        wX11_tapeGives a1 1 80 M1 (fun r4 M3 =>
          if r4 = 0 then (
            post (-1) M3)
          else (
            ∀ M6 : xMem, M6 = si M3 0 1 0 →
            wX10_read a1 M6 (fun r8 M7 =>
              if r8 ≤ 0 then (
                post r8 M7)
              else (
                wX9_take q2 r8 M7 (fun M10 =>
                  wX4_beginAnew 49 a0 M10 (fun M11 =>
                    post r8 M11))))))))
abbrev rm_X5_takeFrom : Room := { frames := 1, cells := 0, slots := 0, locals := 60 }
theorem yd_X5_takeFrom : yX5_takeFrom.cls ≠ "java/lang/invoke/MethodHandle" ∧ yX5_takeFrom.cls ≠ "java/lang/invoke/VarHandle" ∧ (parseMethodDescriptor yX5_takeFrom.desc).map (fun d => d.parameters.length) = some 1 := by decide +kernel
def wX5_takeFrom  (o : Nat) (o0 : Nat) (M : xMem) (post : xMem → Prop) : Prop :=
    ∀ M1 : xMem, M1 = si M o 0 (gi M o0 0) →
    ∀ M2 : xMem, M2 = si M1 o 5 (gi M1 o0 5) →
    cpyok 0 0 16 16 16 ∧
    ∀ M4 : xMem, M4 = cpy M2 ((o0 + 1)) ((o + 1)) 0 0 16 →
    cpyok 0 0 16 16 16 ∧
    ∀ M6 : xMem, M6 = cpy M4 ((o0 + 2)) ((o + 2)) 0 0 16 →
    cpyok 0 0 16 16 16 ∧
    ∀ M8 : xMem, M8 = cpy M6 ((o0 + 3)) ((o + 3)) 0 0 16 →
    cpyok 0 0 16 16 16 ∧
    ∀ M10 : xMem, M10 = cpy M8 ((o0 + 4)) ((o + 4)) 0 0 16 →
    cpyok 0 0 240 240 240 ∧
    ∀ M12 : xMem, M12 = cpy M10 ((o0 + 5)) ((o + 5)) 0 0 240 →
    post M12
abbrev rm_X5_clear : Room := { frames := 0, cells := 0, slots := 0, locals := 0 }
theorem yd_X5_clear : yX5_clear.cls ≠ "java/lang/invoke/MethodHandle" ∧ yX5_clear.cls ≠ "java/lang/invoke/VarHandle" ∧ (parseMethodDescriptor yX5_clear.desc).map (fun d => d.parameters.length) = some 0 := by decide +kernel
def wX5_clear  (o : Nat) (M : xMem) (post : xMem → Prop) : Prop :=
    ∀ M1 : xMem, M1 = si M o 0 0 →
    ∀ M2 : xMem, M2 = si M1 o 5 0 →
    post M2
abbrev rm_X5_addClause : Room := { frames := 0, cells := 0, slots := 0, locals := 0 }
theorem yd_X5_addClause : yX5_addClause.cls ≠ "java/lang/invoke/MethodHandle" ∧ yX5_addClause.cls ≠ "java/lang/invoke/VarHandle" ∧ (parseMethodDescriptor yX5_addClause.desc).map (fun d => d.parameters.length) = some 3 := by decide +kernel
def wX5_addClause  (o : Nat) (a0 : Int32) (a1 : Int32) (a2 : Int32) (M : xMem) (post : xMem → Prop) : Prop :=
    if 16 ≤ (gi M o 0) then (
      post M)
    else (
      vp_in (gi M o 0) 16 ∧
      ∀ M3 : xMem, M3 = si M ((o + 1)) (gi M o 0).toNatClampNeg a0 →
      vp_in (gi M3 o 0) 16 ∧
      ∀ M5 : xMem, M5 = si M3 ((o + 2)) (gi M3 o 0).toNatClampNeg a1 →
      vp_in (gi M5 o 0) 16 ∧
      ∀ M7 : xMem, M7 = si M5 ((o + 3)) (gi M5 o 0).toNatClampNeg a2 →
      vp_in (gi M7 o 0) 16 ∧
      ∀ M9 : xMem, M9 = si M7 ((o + 4)) (gi M7 o 0).toNatClampNeg (gi M7 o 5) →
      ∀ M10 : xMem, M10 = si M9 o 0 ((gi M9 o 0) + 1) →
      post M10)
abbrev rm_X6_sign : Room := { frames := 0, cells := 0, slots := 0, locals := 0 }
theorem yd_X6_sign : yX6_sign.cls ≠ "java/lang/invoke/MethodHandle" ∧ yX6_sign.cls ≠ "java/lang/invoke/VarHandle" ∧ (parseMethodDescriptor yX6_sign.desc).map (fun d => d.parameters.length) = some 0 := by decide +kernel
def wX6_sign   (M : xMem) (post : Int32 → xMem → Prop) : Prop :=
    if (gi M 32 3) < 0 then (
      post (-1) M)
    else (
      if (gi M 32 2) ≤ (gi M 32 3) then (
        post (-1) M)
      else (
        kC ((gi M 32 1).toNatClampNeg) = 20 ∧
        if (nI (lC (((gi M 32 1).toNatClampNeg)))) ≤ (gi M 32 3) then (
          post (-1) M)
        else (
          kC ((gi M 32 1).toNatClampNeg) = 20 ∧
          vp_in (gi M 32 3) (lC (((gi M 32 1).toNatClampNeg))) ∧
          post (gi M (((gi M 32 1).toNatClampNeg)) (gi M 32 3).toNatClampNeg) M)))
abbrev rm_X6_placeIn : Room := { frames := 6, cells := 0, slots := 0, locals := 300 }
theorem yd_X6_placeIn : yX6_placeIn.cls ≠ "java/lang/invoke/MethodHandle" ∧ yX6_placeIn.cls ≠ "java/lang/invoke/VarHandle" ∧ (parseMethodDescriptor yX6_placeIn.desc).map (fun d => d.parameters.length) = some 1 := by decide +kernel
def wX6_placeIn  (o0 : Nat) (M : xMem) (post : Int32 → xMem → Prop) : Prop :=
    wX6_sign  M (fun r2 M1 =>
      if 0 ≤ r2 then (
        wX6_sign  M1 (fun r5 M4 =>
          post (sx o0 ((r5.toUInt32 % 65536).toInt32)) M4))
      else (
        post (-1) M1))
abbrev rm_X5_addStep : Room := { frames := 0, cells := 0, slots := 0, locals := 0 }
theorem yd_X5_addStep : yX5_addStep.cls ≠ "java/lang/invoke/MethodHandle" ∧ yX5_addStep.cls ≠ "java/lang/invoke/VarHandle" ∧ (parseMethodDescriptor yX5_addStep.desc).map (fun d => d.parameters.length) = some 2 := by decide +kernel
def wX5_addStep  (o : Nat) (a0 : Int32) (a1 : Int32) (M : xMem) (post : xMem → Prop) : Prop :=
    if 240 ≤ (gi M o 5) then (
      post M)
    else (
      vp_in (gi M o 5) 240 ∧
      ∀ M3 : xMem, M3 = si M ((o + 5)) (gi M o 5).toNatClampNeg ((a1 <<< (4 &&& 31)) ||| a0) →
      ∀ M4 : xMem, M4 = si M3 o 5 ((gi M3 o 5) + 1) →
      post M4)
abbrev rm_X6_refuse : Room := { frames := 0, cells := 0, slots := 0, locals := 0 }
theorem yd_X6_refuse : yX6_refuse.cls ≠ "java/lang/invoke/MethodHandle" ∧ yX6_refuse.cls ≠ "java/lang/invoke/VarHandle" ∧ (parseMethodDescriptor yX6_refuse.desc).map (fun d => d.parameters.length) = some 1 := by decide +kernel
def wX6_refuse  (a0 : Int32) (M : xMem) (post : xMem → Prop) : Prop :=
    if (gi M 32 4) = 0 then (
      ∀ M2 : xMem, M2 = si M 32 4 (((-1000) * a0) - (gi M 32 3)) →
      post M2)
    else (
      post M)
abbrev rm_X6_openAt : Room := { frames := 1, cells := 0, slots := 0, locals := 21 }
theorem yd_X6_openAt : yX6_openAt.cls ≠ "java/lang/invoke/MethodHandle" ∧ yX6_openAt.cls ≠ "java/lang/invoke/VarHandle" ∧ (parseMethodDescriptor yX6_openAt.desc).map (fun d => d.parameters.length) = some 1 := by decide +kernel
def wX6_openAt_11    (post : xMem → Prop)  (M : xMem) : Prop :=
    ∀ M1 : xMem, M1 = si M 32 3 ((gi M 32 3) + 1) →
    post M1
def wX6_openAt  (a0 : Int32) (M : xMem) (post : xMem → Prop) : Prop :=
    if a0 < 6 then (
      wX6_openAt_11 post M)
    else (
      wX6_refuse 5 M (fun M2 =>
        wX6_openAt_11 post M2))
abbrev rm_X5_leapHere : Room := { frames := 0, cells := 0, slots := 0, locals := 0 }
theorem yd_X5_leapHere : yX5_leapHere.cls ≠ "java/lang/invoke/MethodHandle" ∧ yX5_leapHere.cls ≠ "java/lang/invoke/VarHandle" ∧ (parseMethodDescriptor yX5_leapHere.desc).map (fun d => d.parameters.length) = some 1 := by decide +kernel
def wX5_leapHere  (o : Nat) (a0 : Int32) (M : xMem) (post : xMem → Prop) : Prop :=
    if a0 < 0 then (
      post M)
    else (
      if 240 ≤ a0 then (
        post M)
      else (
        vp_in a0 240 ∧
        vp_in a0 240 ∧
        ∀ M5 : xMem, M5 = si M ((o + 5)) a0.toNatClampNeg ((gi M ((o + 5)) a0.toNatClampNeg) ||| ((gi M o 5) <<< (4 &&& 31))) →
        post M5))
abbrev rm_X6_readTest (d : Nat) : Room := { frames := 30 * d + 450, cells := 0, slots := 0, locals := 1500 * d + 22000 }
theorem yd_X6_readTest : yX6_readTest.cls ≠ "java/lang/invoke/MethodHandle" ∧ yX6_readTest.cls ≠ "java/lang/invoke/VarHandle" ∧ (parseMethodDescriptor yX6_readTest.desc).map (fun d => d.parameters.length) = some 1 := by decide +kernel
abbrev rm_X6_readPart (d : Nat) : Room := { frames := 30 * d + 451, cells := 0, slots := 0, locals := 1500 * d + 22022 }
theorem yd_X6_readPart : yX6_readPart.cls ≠ "java/lang/invoke/MethodHandle" ∧ yX6_readPart.cls ≠ "java/lang/invoke/VarHandle" ∧ (parseMethodDescriptor yX6_readPart.desc).map (fun d => d.parameters.length) = some 1 := by decide +kernel
def wX6_readPart_7 (rec : Int32 → xMem → (xMem → Prop) → Prop)   (post : xMem → Prop) : Nat → Int32 → Int32 → xMem → Prop
  | 0 => fun _ _ _ => False
  | n + 1 => fun x1 x2 M =>
      if 240 ≤ x2 then (
        post M)
      else (
        if (gi M 32 4) = 0 then (
          wX6_sign  M (fun r4 M3 =>
            if r4 = 38 then (
              ∀ v6 : Int32, v6 = gi M3 33 5 →
              wX5_addStep 33 3 0 M3 (fun M7 =>
                ∀ M8 : xMem, M8 = si M7 32 3 ((gi M7 32 3) + 1) →
                rec x1 M8 (fun M9 =>
                  wX5_leapHere 33 v6 M9 (fun M10 =>
                    ∀ v11 : Int32, v11 = x2 + 1 →
                    wX6_readPart_7 rec post n x1 v11 M10))))
            else (
              post M3)))
        else (
          post M))
def wX6_readPart (rec : Int32 → xMem → (xMem → Prop) → Prop) (a0 : Int32) (M : xMem) (post : xMem → Prop) : Prop :=
    rec a0 M (fun M1 =>
      ∃ n7 : Nat, wX6_readPart_7 rec post n7 a0 0 M1)
abbrev rm_X6_readCondition (d : Nat) : Room := { frames := 30 * d + 452, cells := 0, slots := 0, locals := 1500 * d + 22045 }
theorem yd_X6_readCondition : yX6_readCondition.cls ≠ "java/lang/invoke/MethodHandle" ∧ yX6_readCondition.cls ≠ "java/lang/invoke/VarHandle" ∧ (parseMethodDescriptor yX6_readCondition.desc).map (fun d => d.parameters.length) = some 1 := by decide +kernel
def wX6_readCondition_7 (rec : Int32 → xMem → (xMem → Prop) → Prop)   (post : xMem → Prop) : Nat → Int32 → Int32 → xMem → Prop
  | 0 => fun _ _ _ => False
  | n + 1 => fun x1 x2 M =>
      if 240 ≤ x2 then (
        post M)
      else (
        if (gi M 32 4) = 0 then (
          wX6_sign  M (fun r4 M3 =>
            if r4 = 124 then (
              ∀ v6 : Int32, v6 = gi M3 33 5 →
              wX5_addStep 33 4 0 M3 (fun M7 =>
                ∀ M8 : xMem, M8 = si M7 32 3 ((gi M7 32 3) + 1) →
                wX6_readPart rec x1 M8 (fun M9 =>
                  wX5_leapHere 33 v6 M9 (fun M10 =>
                    ∀ v11 : Int32, v11 = x2 + 1 →
                    wX6_readCondition_7 rec post n x1 v11 M10))))
            else (
              post M3)))
        else (
          post M))
def wX6_readCondition (rec : Int32 → xMem → (xMem → Prop) → Prop) (a0 : Int32) (M : xMem) (post : xMem → Prop) : Prop :=
    wX6_readPart rec a0 M (fun M1 =>
      ∃ n7 : Nat, wX6_readCondition_7 rec post n7 a0 0 M1)
abbrev rm_X6_isDigit : Room := { frames := 1, cells := 0, slots := 0, locals := 20 }
theorem yd_X6_isDigit : yX6_isDigit.cls ≠ "java/lang/invoke/MethodHandle" ∧ yX6_isDigit.cls ≠ "java/lang/invoke/VarHandle" ∧ (parseMethodDescriptor yX6_isDigit.desc).map (fun d => d.parameters.length) = some 0 := by decide +kernel
def wX6_isDigit   (M : xMem) (post : Int32 → xMem → Prop) : Prop :=
    wX6_sign  M (fun r2 M1 =>
      if r2 < 48 then (
        post 0 M1)
      else (
        wX6_sign  M1 (fun r5 M4 =>
          if 57 < r5 then (
            post 0 M4)
          else (
            post 1 M4))))
abbrev rm_X6_readNumber : Room := { frames := 2, cells := 0, slots := 0, locals := 40 }
theorem yd_X6_readNumber : yX6_readNumber.cls ≠ "java/lang/invoke/MethodHandle" ∧ yX6_readNumber.cls ≠ "java/lang/invoke/VarHandle" ∧ (parseMethodDescriptor yX6_readNumber.desc).map (fun d => d.parameters.length) = some 0 := by decide +kernel
def wX6_readNumber_69    (post : xMem → Prop) (x1 : Int32) (M : xMem) : Prop :=
    wX5_addStep 33 0 x1 M (fun M1 =>
      post M1)
def wX6_readNumber_45    (post : xMem → Prop) (x1 : Int32) (x2 : Int32) (M : xMem) : Prop :=
    if x2 = 0 then (
      wX6_refuse 1 M (fun M6 =>
        wX6_readNumber_69 post x1 M6))
    else (
      wX6_isDigit  M (fun r3 M2 =>
        if r3 = 0 then (
          wX6_readNumber_69 post x1 M2)
        else (
          wX6_refuse 2 M2 (fun M5 =>
            wX6_readNumber_69 post x1 M5))))
def wX6_readNumber_4    (post : xMem → Prop) : Nat → Int32 → Int32 → xMem → Prop
  | 0 => fun _ _ _ => False
  | n + 1 => fun x1 x2 M =>
      if 5 ≤ x2 then (
        wX6_readNumber_45 post x1 x2 M)
      else (
        wX6_isDigit  M (fun r3 M2 =>
          if r3 = 0 then (
            wX6_readNumber_45 post x1 x2 M2)
          else (
            wX6_sign  M2 (fun r6 M5 =>
              ∀ v7 : Int32, v7 = ((10 * x1) + r6) - 48 →
              ∀ M8 : xMem, M8 = si M5 32 3 ((gi M5 32 3) + 1) →
              ∀ v9 : Int32, v9 = x2 + 1 →
              wX6_readNumber_4 post n v7 v9 M8))))
def wX6_readNumber   (M : xMem) (post : xMem → Prop) : Prop :=
    ∃ n4 : Nat, wX6_readNumber_4 post n4 0 0 M
abbrev rm_X6_take : Room := { frames := 1, cells := 0, slots := 0, locals := 21 }
theorem yd_X6_take : yX6_take.cls ≠ "java/lang/invoke/MethodHandle" ∧ yX6_take.cls ≠ "java/lang/invoke/VarHandle" ∧ (parseMethodDescriptor yX6_take.desc).map (fun d => d.parameters.length) = some 1 := by decide +kernel
def wX6_take_13    (post : xMem → Prop)  (M : xMem) : Prop :=
    ∀ M1 : xMem, M1 = si M 32 3 ((gi M 32 3) + 1) →
    post M1
def wX6_take  (a0 : Int32) (M : xMem) (post : xMem → Prop) : Prop :=
    wX6_sign  M (fun r2 M1 =>
      if r2 = a0 then (
        wX6_take_13 post M1)
      else (
        wX6_refuse 1 M1 (fun M4 =>
          wX6_take_13 post M4)))
abbrev rm_X6_readSum (d : Nat) : Room := { frames := 30 * d + 30, cells := 0, slots := 0, locals := 1500 * d + 1500 }
theorem yd_X6_readSum : yX6_readSum.cls ≠ "java/lang/invoke/MethodHandle" ∧ yX6_readSum.cls ≠ "java/lang/invoke/VarHandle" ∧ (parseMethodDescriptor yX6_readSum.desc).map (fun d => d.parameters.length) = some 1 := by decide +kernel
abbrev rm_X6_readFactor (d : Nat) : Room := { frames := 30 * d + 31, cells := 0, slots := 0, locals := 1500 * d + 1523 }
theorem yd_X6_readFactor : yX6_readFactor.cls ≠ "java/lang/invoke/MethodHandle" ∧ yX6_readFactor.cls ≠ "java/lang/invoke/VarHandle" ∧ (parseMethodDescriptor yX6_readFactor.desc).map (fun d => d.parameters.length) = some 1 := by decide +kernel
def wX6_readFactor (rec : Int32 → xMem → (xMem → Prop) → Prop) (a0 : Int32) (M : xMem) (post : xMem → Prop) : Prop :=
    if (gi M 32 4) = 0 then (
      wX6_placeIn 2 M (fun r3 M2 =>
        wX6_sign  M2 (fun r5 M4 =>
          if r5 = 91 then (
            wX6_openAt a0 M4 (fun M11 =>
              rec (a0 + 1) M11 (fun M12 =>
                wX6_take 93 M12 (fun M13 =>
                  post M13))))
          else (
            if r3 < 0 then (
              wX6_readNumber  M4 (fun M8 =>
                post M8))
            else (
              wX5_addStep 33 1 r3 M4 (fun M9 =>
                ∀ M10 : xMem, M10 = si M9 32 3 ((gi M9 32 3) + 1) →
                post M10))))))
    else (
      post M)
abbrev rm_X6_readProduct (d : Nat) : Room := { frames := 30 * d + 32, cells := 0, slots := 0, locals := 1500 * d + 1545 }
theorem yd_X6_readProduct : yX6_readProduct.cls ≠ "java/lang/invoke/MethodHandle" ∧ yX6_readProduct.cls ≠ "java/lang/invoke/VarHandle" ∧ (parseMethodDescriptor yX6_readProduct.desc).map (fun d => d.parameters.length) = some 1 := by decide +kernel
def wX6_readProduct_7 (rec : Int32 → xMem → (xMem → Prop) → Prop)   (post : xMem → Prop) : Nat → Int32 → Int32 → xMem → Prop
  | 0 => fun _ _ _ => False
  | n + 1 => fun x1 x2 M =>
      if 240 ≤ x2 then (
        post M)
      else (
        if (gi M 32 4) = 0 then (
          wX6_placeIn 3 M (fun r4 M3 =>
            if r4 < 0 then (
              post M3)
            else (
              wX6_placeIn 4 M3 (fun r7 M6 =>
                ∀ M8 : xMem, M8 = si M6 32 3 ((gi M6 32 3) + 1) →
                wX6_readFactor rec x1 M8 (fun M9 =>
                  wX5_addStep 33 (5 + r7) 0 M9 (fun M10 =>
                    ∀ v11 : Int32, v11 = x2 + 1 →
                    wX6_readProduct_7 rec post n x1 v11 M10))))))
        else (
          post M))
def wX6_readProduct (rec : Int32 → xMem → (xMem → Prop) → Prop) (a0 : Int32) (M : xMem) (post : xMem → Prop) : Prop :=
    wX6_readFactor rec a0 M (fun M1 =>
      ∃ n7 : Nat, wX6_readProduct_7 rec post n7 a0 0 M1)
def wX6_readSum_at_7 (rec : Int32 → xMem → (xMem → Prop) → Prop)   (post : xMem → Prop) : Nat → Int32 → Int32 → xMem → Prop
  | 0 => fun _ _ _ => False
  | n + 1 => fun x1 x2 M =>
      if 240 ≤ x2 then (
        post M)
      else (
        if (gi M 32 4) = 0 then (
          wX6_placeIn 5 M (fun r4 M3 =>
            if r4 < 0 then (
              post M3)
            else (
              wX6_placeIn 4 M3 (fun r7 M6 =>
                ∀ M8 : xMem, M8 = si M6 32 3 ((gi M6 32 3) + 1) →
                wX6_readProduct rec x1 M8 (fun M9 =>
                  wX5_addStep 33 (5 + r7) 0 M9 (fun M10 =>
                    ∀ v11 : Int32, v11 = x2 + 1 →
                    wX6_readSum_at_7 rec post n x1 v11 M10))))))
        else (
          post M))
def wX6_readSum_at (rec : Int32 → xMem → (xMem → Prop) → Prop) (a0 : Int32) (M : xMem) (post : xMem → Prop) : Prop :=
    wX6_readProduct rec a0 M (fun M1 =>
      ∃ n7 : Nat, wX6_readSum_at_7 rec post n7 a0 0 M1)
def wX6_readSum : Nat → Int32 → xMem → (xMem → Prop) → Prop
  | 0 => fun _ _ _ => False
  | d + 1 => wX6_readSum_at (wX6_readSum d)
def wX6_readTest_at_105 (rec : Int32 → xMem → (xMem → Prop) → Prop)   (post : xMem → Prop) (x1 : Int32) (x2 : Int32) (M : xMem) : Prop :=
    ∀ M1 : xMem, M1 = si M 32 3 ((gi M 32 3) + 1) →
    wX6_readSum 12 x1 M1 (fun M2 =>
      wX5_addStep 33 (5 + x2) 0 M2 (fun M3 =>
        post M3))
def wX6_readTest_at_95 (rec : Int32 → xMem → (xMem → Prop) → Prop)   (post : xMem → Prop) (x1 : Int32) (s0 : Int32) (M : xMem) : Prop :=
    if 0 ≤ s0 then (
      wX6_readTest_at_105 rec post x1 s0 M)
    else (
      wX6_refuse 1 M (fun M2 =>
        wX6_readTest_at_105 rec post x1 s0 M2))
def wX6_readTest_at (rec : Int32 → xMem → (xMem → Prop) → Prop) (a0 : Int32) (M : xMem) (post : xMem → Prop) : Prop :=
    if (gi M 32 4) = 0 then (
      wX6_sign  M (fun r3 M2 =>
        if r3 = 33 then (
          wX6_openAt a0 M2 (fun M17 =>
            rec (a0 + 1) M17 (fun M18 =>
              wX5_addStep 33 2 0 M18 (fun M19 =>
                post M19))))
        else (
          wX6_sign  M2 (fun r6 M5 =>
            if r6 = 40 then (
              wX6_openAt a0 M5 (fun M14 =>
                wX6_readCondition rec (a0 + 1) M14 (fun M15 =>
                  wX6_take 41 M15 (fun M16 =>
                    post M16))))
            else (
              wX6_readSum 12 a0 M5 (fun M8 =>
                wX6_placeIn 6 M8 (fun r10 M9 =>
                  if 0 ≤ r10 then (
                    wX6_placeIn 4 M9 (fun r13 M12 =>
                      wX6_readTest_at_95 rec post a0 r13 M12))
                  else (
                    wX6_readTest_at_95 rec post a0 (-1) M9))))))))
    else (
      post M)
def wX6_readTest : Nat → Int32 → xMem → (xMem → Prop) → Prop
  | 0 => fun _ _ _ => False
  | d + 1 => wX6_readTest_at (wX6_readTest d)
abbrev rm_X6_readClause : Room := { frames := 813, cells := 0, slots := 0, locals := 40068 }
theorem yd_X6_readClause : yX6_readClause.cls ≠ "java/lang/invoke/MethodHandle" ∧ yX6_readClause.cls ≠ "java/lang/invoke/VarHandle" ∧ (parseMethodDescriptor yX6_readClause.desc).map (fun d => d.parameters.length) = some 0 := by decide +kernel
def wX6_readClause_65    (post : xMem → Prop) (x1 : Int32) (x2 : Int32) (M : xMem) : Prop :=
    ∀ v1 : Int32, v1 = gi M 33 5 →
    wX6_take 40 M (fun M2 =>
      wX6_readCondition (wX6_readTest 12) 1 M2 (fun M3 =>
        wX6_take 41 M3 (fun M4 =>
          wX5_addClause 33 x1 x2 v1 M4 (fun M5 =>
            post M5))))
def wX6_readClause_36    (post : xMem → Prop) (x1 : Int32) (M : xMem) : Prop :=
    ∀ M1 : xMem, M1 = si M 32 3 ((gi M 32 3) + 1) →
    ∀ v2 : Int32, v2 = gi M1 33 5 →
    if x1 = 6 then (
      wX6_readClause_65 post x1 v2 M1)
    else (
      wX6_readSum 12 0 M1 (fun M4 =>
        wX6_readClause_65 post x1 v2 M4))
def wX6_readClause   (M : xMem) (post : xMem → Prop) : Prop :=
    wX6_placeIn 1 M (fun r2 M1 =>
      if 0 ≤ r2 then (
        if (gi M1 33 0) < 16 then (
          wX6_readClause_36 post r2 M1)
        else (
          wX6_refuse 4 M1 (fun M5 =>
            wX6_readClause_36 post r2 M5)))
      else (
        wX6_refuse 1 M1 (fun M6 =>
          wX6_readClause_36 post r2 M6)))
abbrev rm_X6_read : Room := { frames := 814, cells := 0, slots := 0, locals := 40091 }
theorem yd_X6_read : yX6_read.cls ≠ "java/lang/invoke/MethodHandle" ∧ yX6_read.cls ≠ "java/lang/invoke/VarHandle" ∧ (parseMethodDescriptor yX6_read.desc).map (fun d => d.parameters.length) = some 2 := by decide +kernel
def wX6_read_79    (post : Int32 → xMem → Prop)  (M : xMem) : Prop :=
    if (gi M 32 4) = 0 then (
      post (gi M 33 0) M)
    else (
      post (gi M 32 4) M)
def wX6_read_38    (post : Int32 → xMem → Prop) : Nat → Int32 → xMem → Prop
  | 0 => fun _ _ => False
  | n + 1 => fun x3 M =>
      if 240 ≤ x3 then (
        wX6_read_79 post M)
      else (
        if (gi M 32 4) = 0 then (
          if (gi M 32 2) ≤ (gi M 32 3) then (
            wX6_read_79 post M)
          else (
            wX6_take 59 M (fun M4 =>
              wX6_readClause  M4 (fun M5 =>
                ∀ v6 : Int32, v6 = x3 + 1 →
                wX6_read_38 post n v6 M5))))
        else (
          wX6_read_79 post M))
def wX6_read  (a1 : Int32) (M : xMem) (post : Int32 → xMem → Prop) : Prop :=
    ∀ M1 : xMem, M1 = si M 32 1 1 →
    wJ9_min_7cf53 a1 260 M1 (fun r3 M2 =>
      ∀ M4 : xMem, M4 = si M2 32 2 r3 →
      ∀ M5 : xMem, M5 = si M4 32 3 0 →
      ∀ M6 : xMem, M6 = si M5 32 4 0 →
      wX5_clear 33 M6 (fun M7 =>
        wX6_readClause  M7 (fun M8 =>
          ∃ n38 : Nat, wX6_read_38 post n38 0 M8)))
abbrev rm_X11_law : Room := { frames := 815, cells := 0, slots := 0, locals := 40114 }
theorem yd_X11_law : yX11_law.cls ≠ "java/lang/invoke/MethodHandle" ∧ yX11_law.cls ≠ "java/lang/invoke/VarHandle" ∧ (parseMethodDescriptor yX11_law.desc).map (fun d => d.parameters.length) = some 1 := by decide +kernel
def wX11_law  (a0 : Int32) (M : xMem) (post : Int32 → xMem → Prop) : Prop :=
    wX11_tapeGives a0 1 240 M (fun r2 M1 =>
      if r2 = 0 then (
        post (-1) M1)
      else (
        ∀ M4 : xMem, M4 = si M1 0 1 0 →
        wX6_read a0 M4 (fun r6 M5 =>
          if r6 ≤ 0 then (
            post r6 M5)
          else (
            wX5_takeFrom 18 33 M5 (fun M8 =>
              post r6 M8)))))
abbrev rm_X2_take : Room := { frames := 0, cells := 0, slots := 0, locals := 0 }
theorem yd_X2_take : yX2_take.cls ≠ "java/lang/invoke/MethodHandle" ∧ yX2_take.cls ≠ "java/lang/invoke/VarHandle" ∧ (parseMethodDescriptor yX2_take.desc).map (fun d => d.parameters.length) = some 4 := by decide +kernel
def wX2_take  (a0 : Int32) (a1 : Int32) (a2 : Int32) (a3 : Int32) (M : xMem) (post : xMem → Prop) : Prop :=
    vp_in a0 10 ∧
    ∀ M2 : xMem, M2 = si M 42 a0.toNatClampNeg a1 →
    vp_in a0 10 ∧
    ∀ M4 : xMem, M4 = si M2 43 a0.toNatClampNeg a2 →
    vp_in a0 10 ∧
    ∀ M6 : xMem, M6 = si M4 44 a0.toNatClampNeg a3 →
    ∀ M7 : xMem, M7 = si M6 41 0 ((gi M6 41 0) ||| (1 <<< (a0 &&& 31))) →
    post M7
abbrev rm_X11_end : Room := { frames := 1, cells := 0, slots := 0, locals := 24 }
theorem yd_X11_end : yX11_end.cls ≠ "java/lang/invoke/MethodHandle" ∧ yX11_end.cls ≠ "java/lang/invoke/VarHandle" ∧ (parseMethodDescriptor yX11_end.desc).map (fun d => d.parameters.length) = some 5 := by decide +kernel
def wX11_end_58    (post : Int32 → xMem → Prop) (x1 : Int32) (x2 : Int32) (x3 : Int32) (x4 : Int32) (x5 : Int32) (s0 : Int32) (M : xMem) : Prop :=
    if s0 = 0 then (
      bz s0 ∧ post s0 M)
    else (
      wX2_take x1 x2 x3 x5 M (fun M2 =>
        vp_in x1 10 ∧
        ∀ M4 : xMem, M4 = si M2 57 x1.toNatClampNeg x4 →
        bz s0 ∧ post s0 M4))
def wX11_end_57    (post : Int32 → xMem → Prop) (x1 : Int32) (x2 : Int32) (x3 : Int32) (x4 : Int32) (x5 : Int32) (M : xMem) : Prop :=
    wX11_end_58 post x1 x2 x3 x4 x5 0 M
def wX11_end  (a0 : Int32) (a1 : Int32) (a2 : Int32) (a3 : Int32) (a4 : Int32) (M : xMem) (post : Int32 → xMem → Prop) : Prop :=
    wX11_isWithin a0 0 9 M (fun r2 M1 =>
      if r2 = 0 then (
        wX11_end_57 post a0 a1 a2 a3 a4 M1)
      else (
        wX11_isWithin a1 1 1023 M1 (fun r5 M4 =>
          if r5 = 0 then (
            wX11_end_57 post a0 a1 a2 a3 a4 M4)
          else (
            wX11_isWithin a2 0 99 M4 (fun r8 M7 =>
              if r8 = 0 then (
                wX11_end_57 post a0 a1 a2 a3 a4 M7)
              else (
                wX11_isWithin a3 0 9 M7 (fun r11 M10 =>
                  if r11 = 0 then (
                    wX11_end_57 post a0 a1 a2 a3 a4 M10)
                  else (
                    wX11_isWithin a4 1 30 M10 (fun r14 M13 =>
                      if r14 = 0 then (
                        wX11_end_57 post a0 a1 a2 a3 a4 M13)
                      else (
                        wX11_end_58 post a0 a1 a2 a3 a4 1 M13))))))))))
abbrev rm_X11_toldStory : Room := { frames := 2, cells := 0, slots := 0, locals := 43 }
theorem yd_X11_toldStory : yX11_toldStory.cls ≠ "java/lang/invoke/MethodHandle" ∧ yX11_toldStory.cls ≠ "java/lang/invoke/VarHandle" ∧ (parseMethodDescriptor yX11_toldStory.desc).map (fun d => d.parameters.length) = some 1 := by decide +kernel
def wX11_toldStory  (a0 : Int32) (M : xMem) (post : Nat → xMem → Prop) : Prop :=
    wX11_storyAt a0 M (fun q2 M1 =>
      if q2 = 0 then (
        post 0 M1)
      else (
        if (gi M1 q2 1) = 0 then (
          post 0 M1)
        else (
          post q2 M1)))
abbrev rm_X4_takeTeller : Room := { frames := 0, cells := 0, slots := 0, locals := 0 }
theorem yd_X4_takeTeller : yX4_takeTeller.cls ≠ "java/lang/invoke/MethodHandle" ∧ yX4_takeTeller.cls ≠ "java/lang/invoke/VarHandle" ∧ (parseMethodDescriptor yX4_takeTeller.desc).map (fun d => d.parameters.length) = some 3 := by decide +kernel
def wX4_takeTeller  (o : Nat) (a0 : Int32) (a1 : Int32) (a2 : Int32) (M : xMem) (post : xMem → Prop) : Prop :=
    ∀ M1 : xMem, M1 = si M o 0 ((gi M o 0) ||| (1 <<< (a0 &&& 31))) →
    vp_in a0 4 ∧
    ∀ M3 : xMem, M3 = si M1 ((o + 1)) a0.toNatClampNeg a1 →
    vp_in a0 4 ∧
    ∀ M5 : xMem, M5 = si M3 ((o + 2)) a0.toNatClampNeg a2 →
    vp_in a0 4 ∧
    ∀ M7 : xMem, M7 = si M5 ((o + 3)) a0.toNatClampNeg 0 →
    vp_in a0 4 ∧
    ∀ M9 : xMem, M9 = si M7 ((o + 4)) a0.toNatClampNeg 0 →
    post M9
abbrev rm_X11_teller : Room := { frames := 3, cells := 0, slots := 0, locals := 65 }
theorem yd_X11_teller : yX11_teller.cls ≠ "java/lang/invoke/MethodHandle" ∧ yX11_teller.cls ≠ "java/lang/invoke/VarHandle" ∧ (parseMethodDescriptor yX11_teller.desc).map (fun d => d.parameters.length) = some 3 := by decide +kernel
def wX11_teller_33    (post : Int32 → xMem → Prop) (x1 : Int32) (x2 : Int32) (x3 : Int32) (s0 : Int32) (M : xMem) : Prop :=
    if s0 = 0 then (
      bz s0 ∧ post s0 M)
    else (
      wX4_takeTeller 49 x1 x2 x3 M (fun M2 =>
        bz s0 ∧ post s0 M2))
def wX11_teller_32    (post : Int32 → xMem → Prop) (x1 : Int32) (x2 : Int32) (x3 : Int32) (M : xMem) : Prop :=
    wX11_teller_33 post x1 x2 x3 0 M
def wX11_teller  (a0 : Int32) (a1 : Int32) (a2 : Int32) (M : xMem) (post : Int32 → xMem → Prop) : Prop :=
    wX11_isWithin a0 0 3 M (fun r2 M1 =>
      if r2 = 0 then (
        wX11_teller_32 post a0 a1 a2 M1)
      else (
        wX11_toldStory a1 M1 (fun q5 M4 =>
          if q5 = 0 then (
            wX11_teller_32 post a0 a1 a2 M4)
          else (
            wX11_isWithin a2 0 9999 M4 (fun r7 M6 =>
              if r7 = 0 then (
                wX11_teller_32 post a0 a1 a2 M6)
              else (
                wX11_teller_33 post a0 a1 a2 1 M6))))))
abbrev rm_X4_takeListener : Room := { frames := 0, cells := 0, slots := 0, locals := 0 }
theorem yd_X4_takeListener : yX4_takeListener.cls ≠ "java/lang/invoke/MethodHandle" ∧ yX4_takeListener.cls ≠ "java/lang/invoke/VarHandle" ∧ (parseMethodDescriptor yX4_takeListener.desc).map (fun d => d.parameters.length) = some 3 := by decide +kernel
def wX4_takeListener  (o : Nat) (a0 : Int32) (a1 : Int32) (a2 : Int32) (M : xMem) (post : xMem → Prop) : Prop :=
    ∀ M1 : xMem, M1 = si M o 5 ((gi M o 5) ||| (1 <<< (a0 &&& 31))) →
    vp_in a0 10 ∧
    ∀ M3 : xMem, M3 = si M1 ((o + 5)) a0.toNatClampNeg a1 →
    vp_in a0 10 ∧
    ∀ M5 : xMem, M5 = si M3 ((o + 6)) a0.toNatClampNeg a2 →
    vp_in a0 10 ∧
    ∀ M7 : xMem, M7 = si M5 ((o + 7)) a0.toNatClampNeg 0 →
    post M7
abbrev rm_X11_listener : Room := { frames := 1, cells := 0, slots := 0, locals := 23 }
theorem yd_X11_listener : yX11_listener.cls ≠ "java/lang/invoke/MethodHandle" ∧ yX11_listener.cls ≠ "java/lang/invoke/VarHandle" ∧ (parseMethodDescriptor yX11_listener.desc).map (fun d => d.parameters.length) = some 3 := by decide +kernel
def wX11_listener_39    (post : Int32 → xMem → Prop) (x1 : Int32) (x2 : Int32) (x3 : Int32) (s0 : Int32) (M : xMem) : Prop :=
    if s0 = 0 then (
      bz s0 ∧ post s0 M)
    else (
      wX4_takeListener 49 x1 x2 x3 M (fun M2 =>
        bz s0 ∧ post s0 M2))
def wX11_listener_38    (post : Int32 → xMem → Prop) (x1 : Int32) (x2 : Int32) (x3 : Int32) (M : xMem) : Prop :=
    wX11_listener_39 post x1 x2 x3 0 M
def wX11_listener  (a0 : Int32) (a1 : Int32) (a2 : Int32) (M : xMem) (post : Int32 → xMem → Prop) : Prop :=
    wX11_isWithin a0 0 9 M (fun r2 M1 =>
      if r2 = 0 then (
        wX11_listener_38 post a0 a1 a2 M1)
      else (
        wX11_has (gi M1 49 0) a1 M1 (fun r5 M4 =>
          if r5 = 0 then (
            wX11_listener_38 post a0 a1 a2 M4)
          else (
            wX11_isWithin a2 0 99 M4 (fun r8 M7 =>
              if r8 = 0 then (
                wX11_listener_38 post a0 a1 a2 M7)
              else (
                wX11_listener_39 post a0 a1 a2 1 M7))))))
abbrev rm_X1_beginIn : Room := { frames := 0, cells := 0, slots := 0, locals := 0 }
theorem yd_X1_beginIn : yX1_beginIn.cls ≠ "java/lang/invoke/MethodHandle" ∧ yX1_beginIn.cls ≠ "java/lang/invoke/VarHandle" ∧ (parseMethodDescriptor yX1_beginIn.desc).map (fun d => d.parameters.length) = some 2 := by decide +kernel
def wX1_beginIn  (o0 : Nat) (o1 : Nat) (M : xMem) (post : xMem → Prop) : Prop :=
    ∀ M1 : xMem, M1 = si M 78 3 (nI o0) →
    ∀ M2 : xMem, M2 = si M1 78 4 (nI o1) →
    ∀ M3 : xMem, M3 = si M2 78 6 0 →
    ∀ M4 : xMem, M4 = si M3 78 7 0 →
    ∀ M5 : xMem, M5 = si M4 78 8 0 →
    ∀ M6 : xMem, M6 = si M5 78 9 0 →
    ∀ M7 : xMem, M7 = si M6 78 10 0 →
    ∀ M8 : xMem, M8 = si M7 78 11 0 →
    ∀ M9 : xMem, M9 = si M8 78 12 0 →
    ∀ M10 : xMem, M10 = si M9 78 13 (-2) →
    ∀ M11 : xMem, M11 = si M10 78 14 (-2) →
    post M11
abbrev rm_X0_begin : Room := { frames := 1, cells := 0, slots := 0, locals := 23 }
theorem yd_X0_begin : yX0_begin.cls ≠ "java/lang/invoke/MethodHandle" ∧ yX0_begin.cls ≠ "java/lang/invoke/VarHandle" ∧ (parseMethodDescriptor yX0_begin.desc).map (fun d => d.parameters.length) = some 1 := by decide +kernel
def wX0_begin  (o0 : Nat) (M : xMem) (post : xMem → Prop) : Prop :=
    wJ7_fill_53178 77 0 M (fun M1 =>
      vp_in 11 12 ∧
      ∀ M3 : xMem, M3 = si M1 77 11 (gi M1 o0 10) →
      post M3)
abbrev rm_X5_joined : Room := { frames := 0, cells := 0, slots := 0, locals := 0 }
theorem yd_X5_joined : yX5_joined.cls ≠ "java/lang/invoke/MethodHandle" ∧ yX5_joined.cls ≠ "java/lang/invoke/VarHandle" ∧ (parseMethodDescriptor yX5_joined.desc).map (fun d => d.parameters.length) = some 3 := by decide +kernel
def wX5_joined_28  (o : Nat)  (post : Int32 → xMem → Prop) (x2 : Int32) (x3 : Int32) (x4 : Int32) (M : xMem) : Prop :=
    if x4 = 0 then (
      post (x2 + x3) M)
    else
    if x4 = 1 then (
      post (x2 - x3) M)
    else
    if x4 = 2 then (
      post (x2 * x3) M)
    else
    if x4 = 3 then (
      if x3 = 0 then (
        post 0 M)
      else (
        ¬ (x3 : Int32) = 0 ∧
        post (x2 / x3) M))
    else
    if x4 = 4 then (
      if x3 = 0 then (
        post 0 M)
      else (
        ¬ (x3 : Int32) = 0 ∧
        post (x2 - x2 / x3 * x3) M))
    else
    if x4 = 5 then (
      if x3 ≤ x2 then (
        post 0 M)
      else (
        post 1 M))
    else
    if x4 = 6 then (
      if x2 ≤ x3 then (
        post 0 M)
      else (
        post 1 M))
    else (
      if x2 = x3 then (
        post 1 M)
      else (
        post 0 M))
def wX5_joined_17  (o : Nat)  (post : Int32 → xMem → Prop) (x2 : Int32) (x3 : Int32) (x4 : Int32) (M : xMem) : Prop :=
    if x3 = 0 then (
      ∀ M2 : xMem, M2 = si M o 8 1 →
      post 0 M2)
    else (
      wX5_joined_28 o post x2 x3 x4 M)
def wX5_joined  (o : Nat) (a0 : Int32) (a1 : Int32) (a2 : Int32) (M : xMem) (post : Int32 → xMem → Prop) : Prop :=
    ∀ v1 : Int32, v1 = a0 - 5 →
    if v1 = 3 then (
      wX5_joined_17 o post a1 a2 v1 M)
    else (
      if v1 = 4 then (
        wX5_joined_17 o post a1 a2 v1 M)
      else (
        wX5_joined_28 o post a1 a2 v1 M))
abbrev rm_X5_reckon : Room := { frames := 1, cells := 0, slots := 0, locals := 24 }
theorem yd_X5_reckon : yX5_reckon.cls ≠ "java/lang/invoke/MethodHandle" ∧ yX5_reckon.cls ≠ "java/lang/invoke/VarHandle" ∧ (parseMethodDescriptor yX5_reckon.desc).map (fun d => d.parameters.length) = some 3 := by decide +kernel
def wX5_reckon_277  (o : Nat)  (post : Int32 → xMem → Prop) (x4 : Int32) (M : xMem) : Prop :=
    if (gi M o 8) = 0 then (
      if 1 ≤ x4 then (
        vp_in (x4 - 1) 64 ∧
        post (gi M ((o + 6)) (x4 - 1).toNatClampNeg) M)
      else (
        post 0 M))
    else (
      post 0 M)
def wX5_reckon_271  (o : Nat) (K15 : Int32 → Int32 → Int32 → xMem → Prop) (post : Int32 → xMem → Prop) (x2 : Int32) (x4 : Int32) (x5 : Int32) (M : xMem) : Prop :=
    ∀ v1 : Int32, v1 = x5 + 1 →
    K15 x2 x4 v1 M
def wX5_reckon_126  (o : Nat) (K15 : Int32 → Int32 → Int32 → xMem → Prop) (post : Int32 → xMem → Prop) (x2 : Int32) (x4 : Int32) (x5 : Int32) (s0 : Int32) (s1 : Int32) (M : xMem) : Prop :=
    vp_in s1 64 ∧
    ∀ M2 : xMem, M2 = si M ((o + 6)) s1.toNatClampNeg s0 →
    ∀ v3 : Int32, v3 = x4 + 1 →
    wX5_reckon_271 o K15 post x2 v3 x5 M2
def wX5_reckon_96  (o : Nat) (K15 : Int32 → Int32 → Int32 → xMem → Prop) (post : Int32 → xMem → Prop) (x2 : Int32) (x4 : Int32) (x5 : Int32) (x6 : Int32) (x7 : Int32) (s0 : Int32) (M : xMem) : Prop :=
    bz s0 ∧
    ∀ M1 : xMem, M1 = si M o 8 s0 →
    if (gi M1 o 8) = 0 then (
      if x6 = 0 then (
        wX5_reckon_126 o K15 post x2 x4 x5 x7 x4 M1)
      else (
        vp_in x7 12 ∧
        wX5_reckon_126 o K15 post x2 x4 x5 (gi M1 77 x7.toNatClampNeg) x4 M1))
    else (
      wX5_reckon_271 o K15 post x2 x4 x5 M1)
def wX5_reckon_91  (o : Nat) (K15 : Int32 → Int32 → Int32 → xMem → Prop) (post : Int32 → xMem → Prop) (x2 : Int32) (x4 : Int32) (x5 : Int32) (x6 : Int32) (x7 : Int32) (M : xMem) : Prop :=
    wX5_reckon_96 o K15 post x2 x4 x5 x6 x7 1 M
def wX5_reckon_95  (o : Nat) (K15 : Int32 → Int32 → Int32 → xMem → Prop) (post : Int32 → xMem → Prop) (x2 : Int32) (x4 : Int32) (x5 : Int32) (x6 : Int32) (x7 : Int32) (M : xMem) : Prop :=
    wX5_reckon_96 o K15 post x2 x4 x5 x6 x7 0 M
def wX5_reckon_70  (o : Nat) (K15 : Int32 → Int32 → Int32 → xMem → Prop) (post : Int32 → xMem → Prop) (x2 : Int32) (x4 : Int32) (x5 : Int32) (x6 : Int32) (x7 : Int32) (M : xMem) : Prop :=
    if 64 ≤ x4 then (
      wX5_reckon_91 o K15 post x2 x4 x5 x6 x7 M)
    else (
      if x6 = 1 then (
        if x7 < 12 then (
          wX5_reckon_95 o K15 post x2 x4 x5 x6 x7 M)
        else (
          wX5_reckon_91 o K15 post x2 x4 x5 x6 x7 M))
      else (
        wX5_reckon_95 o K15 post x2 x4 x5 x6 x7 M))
def wX5_reckon_151  (o : Nat) (K15 : Int32 → Int32 → Int32 → xMem → Prop) (post : Int32 → xMem → Prop) (x2 : Int32) (x4 : Int32) (x5 : Int32) (M : xMem) : Prop :=
    ∀ M1 : xMem, M1 = si M o 8 1 →
    wX5_reckon_271 o K15 post x2 x4 x5 M1
def wX5_reckon_251  (o : Nat) (K15 : Int32 → Int32 → Int32 → xMem → Prop) (post : Int32 → xMem → Prop) (x2 : Int32) (x4 : Int32) (x5 : Int32) (x7 : Int32) (s0 : Int32) (s1 : Int32) (M : xMem) : Prop :=
    if s1 = s0 then (
      wJ9_max_7cf53 x5 (x7 - 1) M (fun r4 M3 =>
        wX5_reckon_271 o K15 post x2 x4 r4 M3))
    else (
      ∀ v2 : Int32, v2 = x4 + (-1) →
      wX5_reckon_271 o K15 post x2 v2 x5 M)
def wX5_reckon_159  (o : Nat) (K15 : Int32 → Int32 → Int32 → xMem → Prop) (post : Int32 → xMem → Prop) (x2 : Int32) (x4 : Int32) (x5 : Int32) (x6 : Int32) (x7 : Int32) (M : xMem) : Prop :=
    if x6 = 2 then (
      vp_in (x4 - 1) 64 ∧
      vp_in (x4 - 1) 64 ∧
      ∀ M14 : xMem, M14 = si M ((o + 6)) (x4 - 1).toNatClampNeg (1 - (gi M ((o + 6)) (x4 - 1).toNatClampNeg)) →
      wX5_reckon_271 o K15 post x2 x4 x5 M14)
    else (
      if x6 < 5 then (
        vp_in (x4 - 1) 64 ∧
        if x6 = 4 then (
          wX5_reckon_251 o K15 post x2 x4 x5 x7 1 (gi M ((o + 6)) (x4 - 1).toNatClampNeg) M)
        else (
          wX5_reckon_251 o K15 post x2 x4 x5 x7 0 (gi M ((o + 6)) (x4 - 1).toNatClampNeg) M))
      else (
        ∀ v5 : Int32, v5 = x4 + (-1) →
        vp_in (v5 - 1) 64 ∧
        vp_in v5 64 ∧
        wX5_joined o x6 (gi M ((o + 6)) (v5 - 1).toNatClampNeg) (gi M ((o + 6)) v5.toNatClampNeg) M (fun r9 M8 =>
          vp_in (v5 - 1) 64 ∧
          ∀ M11 : xMem, M11 = si M8 ((o + 6)) (v5 - 1).toNatClampNeg r9 →
          wX5_reckon_271 o K15 post x2 v5 x5 M11)))
def wX5_reckon_15  (o : Nat)  (post : Int32 → xMem → Prop) : Nat → Int32 → Int32 → Int32 → xMem → Prop
  | 0 => fun _ _ _ _ => False
  | n + 1 => fun x2 x4 x5 M =>
      if x2 ≤ x5 then (
        wX5_reckon_277 o post x4 M)
      else (
        if 240 ≤ x5 then (
          wX5_reckon_277 o post x4 M)
        else (
          if (gi M o 8) = 0 then (
            vp_in x5 240 ∧
            ∀ v5 : Int32, v5 = (gi M ((o + 5)) x5.toNatClampNeg) &&& 15 →
            vp_in x5 240 ∧
            ∀ v7 : Int32, v7 = (gi M ((o + 5)) x5.toNatClampNeg) >>> (4 &&& 31) →
            if v5 = 0 then (
              wX5_reckon_70 o (wX5_reckon_15 o post n) post x2 x4 x5 v5 v7 M)
            else (
              if v5 = 1 then (
                wX5_reckon_70 o (wX5_reckon_15 o post n) post x2 x4 x5 v5 v7 M)
              else (
                if x4 < 1 then (
                  wX5_reckon_151 o (wX5_reckon_15 o post n) post x2 x4 x5 M)
                else (
                  if v5 < 5 then (
                    wX5_reckon_159 o (wX5_reckon_15 o post n) post x2 x4 x5 v5 v7 M)
                  else (
                    if 2 ≤ x4 then (
                      wX5_reckon_159 o (wX5_reckon_15 o post n) post x2 x4 x5 v5 v7 M)
                    else (
                      wX5_reckon_151 o (wX5_reckon_15 o post n) post x2 x4 x5 M))))))
          else (
            wX5_reckon_277 o post x4 M)))
def wX5_reckon  (o : Nat) (a0 : Int32) (a1 : Int32) (M : xMem) (post : Int32 → xMem → Prop) : Prop :=
    ∀ M1 : xMem, M1 = si M o 8 0 →
    wJ9_max_7cf53 0 a0 M1 (fun r3 M2 =>
      ∃ n15 : Nat, wX5_reckon_15 o post n15 a1 0 r3 M2)
set_option maxHeartbeats 4000000 in
set_option maxRecDepth 100000 in
theorem tX11_putOnTape_43 {g : xG} (hg : x_inj (WC g))  {x : xCx}  {K3 : Int32 → Int32 → xMem → Prop} {post : xMem → Prop} (C : xOk (WC g) x cX11_putOnTape RX11 3 none (rm_X11_putOnTape) (pV post))  (hK3 : ∀ (x1 : Int32) (x2 : Int32) (M : xMem), K3 x1 x2 M → xW (WC g) x 3 3 [(0, .ref (ga g 0)), (1, .int x1), (2, .int x2)] [] M) (x1 : Int32) (x2 : Int32) (M : xMem)  (h : wX11_putOnTape_43 K3 post x1 x2 M) : xW (WC g) x 3 43 [(0, .ref (ga g 0)), (1, .int x1), (2, .int x2)] [] M := by
  unfold wX11_putOnTape_43 at h
  obtain ⟨v1, ev1⟩ : ∃ z : Int32, z = x2 + (-8) := ⟨_, rfl⟩
  replace h := h v1 ev1
  refine x_iinc C 2 (v1 := v1) (L' := [(2, .int v1), (0, .ref (ga g 0)), (1, .int x1)]) rfl (by rw [ev1]; rfl) rfl (Nat.le_of_ble_eq_true rfl) dX11_putOnTape_43 ?_
  refine x_goto C (tgt := 3) dX11_putOnTape_46 (by decide) ?_
  refine x_loc (L' := [(0, .ref (ga g 0)), (1, .int x1), (2, .int v1)]) [1, 2, 0] rfl ?_
  exact hK3 _ _ _  h
set_option maxHeartbeats 4000000 in
set_option maxRecDepth 100000 in
theorem tX11_putOnTape_3 {g : xG} (hg : x_inj (WC g))  {x : xCx}   {post : xMem → Prop} (C : xOk (WC g) x cX11_putOnTape RX11 3 none (rm_X11_putOnTape) (pV post))   : ∀ (n : Nat) (x1 : Int32) (x2 : Int32) (M : xMem), wX11_putOnTape_3 post n x1 x2 M → xW (WC g) x 3 3 [(0, .ref (ga g 0)), (1, .int x1), (2, .int x2)] [] M := by
  intro n
  induction n with
  | zero =>
    intro x1 x2 M  h
    exact h.elim
  | succ n ih =>
    intro x1 x2 M  h
    rw [wX11_putOnTape_3] at h
    refine x_iload_n C 2 rfl rfl dX11_putOnTape_3 ?_
    refine x_if_lt C (tgt := 49) dX11_putOnTape_4 (by decide) (fun hq1 => ?_) (fun hq1 => ?_)
    · replace h := x_ift hq1 h
      exact x_vret C dX11_putOnTape_49 ⟨rfl, h⟩
    · replace h := x_iff hq1 h
      refine x_aload_n C 0 rfl rfl dX11_putOnTape_7 ?_
      refine x_get C (c := 0) (ci := 11) (k1 := 1) (v1 := .int (gi M 0 1)) (enC_11 (c := 0) rfl) (Nat.le_of_ble_eq_true rfl) rfl inX11 (by decide) wf_X11_13 rfl dX11_putOnTape_8 ?_
      refine x_sipush C (v1 := 260) dX11_putOnTape_11 (by decide) ?_
      refine x_icmp_ge C (tgt := 43) dX11_putOnTape_14 (by decide) (fun hq2 => ?_) (fun hq2 => ?_)
      · replace h := x_ift hq2 h
        exact tX11_putOnTape_43 hg  C  ih _ _ _  h
      · replace h := x_iff hq2 h
        refine x_aload_n C 0 rfl rfl dX11_putOnTape_17 ?_
        refine x_get C (c := 0) (ci := 11) (k1 := 0) (v1 := .ref (ga g 1)) (enC_11 (c := 0) rfl) (Nat.le_of_ble_eq_true rfl) rfl inX11 (by decide) wf_X11_9 rfl dX11_putOnTape_18 ?_
        refine x_aload_n C 0 rfl rfl dX11_putOnTape_21 ?_
        refine x_get C (c := 0) (ci := 11) (k1 := 1) (v1 := .int (gi M 0 1)) (enC_11 (c := 0) rfl) (Nat.le_of_ble_eq_true rfl) rfl inX11 (by decide) wf_X11_13 rfl dX11_putOnTape_22 ?_
        refine x_iload_n C 1 rfl rfl dX11_putOnTape_25 ?_
        refine x_iload_n C 2 rfl rfl dX11_putOnTape_26 ?_
        refine x_iushr C dX11_putOnTape_27 ?_
        refine x_sipush C (v1 := 255) dX11_putOnTape_28 (by decide) ?_
        refine x_iand C dX11_putOnTape_31 ?_
        obtain ⟨hi3, h⟩ := h
        refine x_iast C 0 (c := 1) (enC_20n (c := 1) (n := 260) rfl rfl) (Nat.le_of_ble_eq_true rfl) rfl hi3 dX11_putOnTape_32 ?_
        refine x_nmM (fun M4 eM4 => ?_)
        replace h := h M4 eM4
        refine x_aload_n C 0 rfl rfl dX11_putOnTape_33 ?_
        refine x_dup C rfl dX11_putOnTape_34 ?_
        refine x_get C (c := 0) (ci := 11) (k1 := 1) (v1 := .int (gi M4 0 1)) (enC_11 (c := 0) rfl) (Nat.le_of_ble_eq_true rfl) rfl inX11 (by decide) wf_X11_13 rfl dX11_putOnTape_35 ?_
        refine x_iconst C (v1 := 1) dX11_putOnTape_38 (by decide) ?_
        refine x_iadd C dX11_putOnTape_39 ?_
        refine x_put C (c := 0) (ci := 11) (k1 := 1) (u1 := ((gi M4 0 1) + 1)) (v1 := .int ((gi M4 0 1) + 1)) (ty := .int) (enC_11 (c := 0) rfl) (Nat.le_of_ble_eq_true rfl) rfl inX11 (by decide) (stX11_1 _ _ _) tyX11 tyX11_ok nmX11 wf_X11_13 rfl rfl rfl rfl (Nat.le_of_ble_eq_true rfl) dX11_putOnTape_40 ?_
        refine x_nmM (fun M5 eM5 => ?_)
        replace h := h M5 eM5
        exact tX11_putOnTape_43 hg  C  ih _ _ _  h
set_option maxHeartbeats 4000000 in
set_option maxRecDepth 100000 in
theorem tX11_putOnTape {g : xG} (hg : x_inj (WC g))  (l : Launch) (a0 : Int32) (M : xMem) (post : xMem → Prop)  (h : wX11_putOnTape a0 M post) : xMet (WC g) l yX11_putOnTape cX11_putOnTape 3 none (rm_X11_putOnTape) [.ref (ga g 0), .int a0] M (pV post) := by
  refine x_enter (own := RX11) (L0 := [(0, .ref (ga g 0)), (1, .int a0)]) (by decide +kernel) rfl hg (x_stC g) (Nat.le_of_ble_eq_true rfl) rfl (fun x hl C => ?_)
  unfold wX11_putOnTape at h
  refine x_bipush C (v1 := 24) dX11_putOnTape_0 (by decide) ?_
  refine x_istore_n C (L' := [(2, .int 24), (0, .ref (ga g 0)), (1, .int a0)]) rfl rfl (Nat.le_of_ble_eq_true rfl) dX11_putOnTape_2 ?_
  refine x_loc (L' := [(0, .ref (ga g 0)), (1, .int a0), (2, .int 24)]) [1, 2, 0] rfl ?_
  obtain ⟨n3, h⟩ := h
  exact tX11_putOnTape_3 hg  C   _ _ _ _  h
set_option maxHeartbeats 4000000 in
set_option maxRecDepth 100000 in
theorem tX11_feed {g : xG} (hg : x_inj (WC g))  (l : Launch) (a0 : Int32) (a1 : Int32) (a2 : Int32) (a3 : Int32) (a4 : Int32) (M : xMem) (post : Int32 → xMem → Prop)  (h : wX11_feed a0 a1 a2 a3 a4 M post) : xMet (WC g) l yX11_feed cX11_feed 6 (some .int) (rm_X11_feed) [.ref (ga g 0), .int a0, .int a1, .int a2, .int a3, .int a4] M (pI post) := by
  refine x_enter (own := RX11) (L0 := [(0, .ref (ga g 0)), (1, .int a0), (2, .int a1), (3, .int a2), (4, .int a3), (5, .int a4)]) (by decide +kernel) rfl hg (x_stC g) (Nat.le_of_ble_eq_true rfl) rfl (fun x hl C => ?_)
  unfold wX11_feed at h
  refine x_aload_n C 0 rfl rfl dX11_feed_0 ?_
  refine x_get C (c := 0) (ci := 11) (k1 := 1) (v1 := .int (gi M 0 1)) (enC_11 (c := 0) rfl) (Nat.le_of_ble_eq_true rfl) rfl inX11 (by decide) wf_X11_13 rfl dX11_feed_1 ?_
  refine x_bipush C (v1 := 20) dX11_feed_4 (by decide) ?_
  refine x_iadd C dX11_feed_6 ?_
  refine x_sipush C (v1 := 260) dX11_feed_7 (by decide) ?_
  refine x_icmp_le C (tgt := 15) dX11_feed_10 (by decide) (fun hq1 => ?_) (fun hq1 => ?_)
  · replace h := x_ift hq1 h
    refine x_aload_n C 0 rfl rfl dX11_feed_15 ?_
    refine x_iload_n C 1 rfl rfl dX11_feed_16 ?_
    refine x_callV C (st := []) (As := [.int a0]) (c := 0) (ci := 11) (enC_11 (c := 0) rfl) (Nat.le_of_ble_eq_true rfl) rfl (tX11_putOnTape hg _ _ _ _  h) wm_X11_111 wi_X11_putOnTape wv_X11_putOnTape wz_X11 wc_X11_putOnTape rfl yd_X11_putOnTape rfl ⟨rfl, rfl⟩ ⟨Nat.le_of_ble_eq_true rfl, Nat.le_of_ble_eq_true rfl⟩ (Nat.le_of_ble_eq_true rfl) rfl dX11_feed_17 (x_kv (fun M2 h => ?_))
    refine x_aload_n C 0 rfl rfl dX11_feed_20 ?_
    refine x_iload_n C 2 rfl rfl dX11_feed_21 ?_
    refine x_callV C (st := []) (As := [.int a1]) (c := 0) (ci := 11) (enC_11 (c := 0) rfl) (Nat.le_of_ble_eq_true rfl) rfl (tX11_putOnTape hg _ _ _ _  h) wm_X11_111 wi_X11_putOnTape wv_X11_putOnTape wz_X11 wc_X11_putOnTape rfl yd_X11_putOnTape rfl ⟨rfl, rfl⟩ ⟨Nat.le_of_ble_eq_true rfl, Nat.le_of_ble_eq_true rfl⟩ (Nat.le_of_ble_eq_true rfl) rfl dX11_feed_22 (x_kv (fun M3 h => ?_))
    refine x_aload_n C 0 rfl rfl dX11_feed_25 ?_
    refine x_iload_n C 3 rfl rfl dX11_feed_26 ?_
    refine x_callV C (st := []) (As := [.int a2]) (c := 0) (ci := 11) (enC_11 (c := 0) rfl) (Nat.le_of_ble_eq_true rfl) rfl (tX11_putOnTape hg _ _ _ _  h) wm_X11_111 wi_X11_putOnTape wv_X11_putOnTape wz_X11 wc_X11_putOnTape rfl yd_X11_putOnTape rfl ⟨rfl, rfl⟩ ⟨Nat.le_of_ble_eq_true rfl, Nat.le_of_ble_eq_true rfl⟩ (Nat.le_of_ble_eq_true rfl) rfl dX11_feed_27 (x_kv (fun M4 h => ?_))
    refine x_aload_n C 0 rfl rfl dX11_feed_30 ?_
    refine x_iload C 4 rfl dX11_feed_31 ?_
    refine x_callV C (st := []) (As := [.int a3]) (c := 0) (ci := 11) (enC_11 (c := 0) rfl) (Nat.le_of_ble_eq_true rfl) rfl (tX11_putOnTape hg _ _ _ _  h) wm_X11_111 wi_X11_putOnTape wv_X11_putOnTape wz_X11 wc_X11_putOnTape rfl yd_X11_putOnTape rfl ⟨rfl, rfl⟩ ⟨Nat.le_of_ble_eq_true rfl, Nat.le_of_ble_eq_true rfl⟩ (Nat.le_of_ble_eq_true rfl) rfl dX11_feed_33 (x_kv (fun M5 h => ?_))
    refine x_aload_n C 0 rfl rfl dX11_feed_36 ?_
    refine x_iload C 5 rfl dX11_feed_37 ?_
    refine x_callV C (st := []) (As := [.int a4]) (c := 0) (ci := 11) (enC_11 (c := 0) rfl) (Nat.le_of_ble_eq_true rfl) rfl (tX11_putOnTape hg _ _ _ _  h) wm_X11_111 wi_X11_putOnTape wv_X11_putOnTape wz_X11 wc_X11_putOnTape rfl yd_X11_putOnTape rfl ⟨rfl, rfl⟩ ⟨Nat.le_of_ble_eq_true rfl, Nat.le_of_ble_eq_true rfl⟩ (Nat.le_of_ble_eq_true rfl) rfl dX11_feed_39 (x_kv (fun M6 h => ?_))
    refine x_aload_n C 0 rfl rfl dX11_feed_42 ?_
    refine x_get C (c := 0) (ci := 11) (k1 := 1) (v1 := .int (gi M6 0 1)) (enC_11 (c := 0) rfl) (Nat.le_of_ble_eq_true rfl) rfl inX11 (by decide) wf_X11_13 rfl dX11_feed_43 ?_
    exact x_iret C dX11_feed_46 ⟨_, rfl, h⟩
  · replace h := x_iff hq1 h
    refine x_iconst C (v1 := (-1)) dX11_feed_13 (by decide) ?_
    exact x_iret C dX11_feed_14 ⟨_, rfl, h⟩
set_option maxHeartbeats 4000000 in
set_option maxRecDepth 100000 in
theorem tX11_isWithin {g : xG} (hg : x_inj (WC g))  (l : Launch) (a0 : Int32) (a1 : Int32) (a2 : Int32) (M : xMem) (post : Int32 → xMem → Prop)  (h : wX11_isWithin a0 a1 a2 M post) : xMet (WC g) l yX11_isWithin cX11_isWithin 3 (some .boolean) (rm_X11_isWithin) [.int a0, .int a1, .int a2] M (pI post) := by
  refine x_enter (own := RX11) (L0 := [(0, .int a0), (1, .int a1), (2, .int a2)]) (by decide +kernel) rfl hg (x_stC g) (Nat.le_of_ble_eq_true rfl) rfl (fun x hl C => ?_)
  unfold wX11_isWithin at h
  refine x_iload_n C 0 rfl rfl dX11_isWithin_0 ?_
  refine x_iload_n C 1 rfl rfl dX11_isWithin_1 ?_
  refine x_icmp_lt C (tgt := 14) dX11_isWithin_2 (by decide) (fun hq1 => ?_) (fun hq1 => ?_)
  · replace h := x_ift hq1 h
    refine x_iconst C (v1 := 0) dX11_isWithin_14 (by decide) ?_
    exact x_zret C rfl dX11_isWithin_15 ⟨_, rfl, h⟩
  · replace h := x_iff hq1 h
    refine x_iload_n C 0 rfl rfl dX11_isWithin_5 ?_
    refine x_iload_n C 2 rfl rfl dX11_isWithin_6 ?_
    refine x_icmp_gt C (tgt := 14) dX11_isWithin_7 (by decide) (fun hq2 => ?_) (fun hq2 => ?_)
    · replace h := x_ift hq2 h
      refine x_iconst C (v1 := 0) dX11_isWithin_14 (by decide) ?_
      exact x_zret C rfl dX11_isWithin_15 ⟨_, rfl, h⟩
    · replace h := x_iff hq2 h
      refine x_iconst C (v1 := 1) dX11_isWithin_10 (by decide) ?_
      refine x_goto C (tgt := 15) dX11_isWithin_11 (by decide) ?_
      exact x_zret C rfl dX11_isWithin_15 ⟨_, rfl, h⟩
set_option maxHeartbeats 4000000 in
set_option maxRecDepth 100000 in
theorem tX11_storyAt {g : xG} (hg : x_inj (WC g))  (l : Launch) (a0 : Int32) (M : xMem) (post : Nat → xMem → Prop)  (h : wX11_storyAt a0 M post) : xMet (WC g) l yX11_storyAt cX11_storyAt 2 (some (.object "LineGuild$Story")) (rm_X11_storyAt) [.ref (ga g 0), .int a0] M (pR (WC g) (fun c => kC c = 9) post) := by
  refine x_enter (own := RX11) (L0 := [(0, .ref (ga g 0)), (1, .int a0)]) (by decide +kernel) rfl hg (x_stC g) (Nat.le_of_ble_eq_true rfl) rfl (fun x hl C => ?_)
  unfold wX11_storyAt at h
  refine x_iload_n C 1 rfl rfl dX11_storyAt_0 ?_
  refine x_iconst C (v1 := 0) dX11_storyAt_1 (by decide) ?_
  refine x_iconst C (v1 := 5) dX11_storyAt_2 (by decide) ?_
  refine x_callS C (st := []) (As := [.int a0, .int 0, .int 5]) (tX11_isWithin hg _ _ _ _ _ _  h) wm_X11_145 wsm_X11_isWithin wz_X11 wc_X11_isWithin yd_X11_isWithin rfl ⟨rfl, rfl⟩ ⟨Nat.le_of_ble_eq_true rfl, Nat.le_of_ble_eq_true rfl⟩ (Nat.le_of_ble_eq_true rfl) rfl dX11_storyAt_3 (x_ki (fun r2 M1 h => ?_))
  refine x_if_eq C (tgt := 18) dX11_storyAt_6 (by decide) (fun hq3 => ?_) (fun hq3 => ?_)
  · replace h := x_ift hq3 h
    refine x_null C dX11_storyAt_18 ?_
    exact x_aret C (Or.inl rfl) dX11_storyAt_19 ⟨0, rfl, Or.inl rfl, h⟩
  · replace h := x_iff hq3 h
    refine x_aload_n C 0 rfl rfl dX11_storyAt_9 ?_
    refine x_get C (c := 0) (ci := 11) (k1 := 2) (v1 := .ref (ga g 2)) (enC_11 (c := 0) rfl) (Nat.le_of_ble_eq_true rfl) rfl inX11 (by decide) wf_X11_19 rfl dX11_storyAt_10 ?_
    refine x_iload_n C 1 rfl rfl dX11_storyAt_13 ?_
    obtain ⟨hi4, h⟩ := h
    refine x_sald C hi4 dX11_storyAt_14 ?_
    refine x_goto C (tgt := 19) dX11_storyAt_15 (by decide) ?_
    exact x_aret C (Or.inr ⟨_, rfl⟩) dX11_storyAt_19 ⟨((3 + 2 * a0.toNatClampNeg)), (congrArg some (x_rfne (w := WC g) (k9_ne (kst hi4)))).symm, Or.inr (kst hi4), h⟩
set_option maxHeartbeats 4000000 in
set_option maxRecDepth 100000 in
theorem tX11_tapeGives {g : xG} (hg : x_inj (WC g))  (l : Launch) (a0 : Int32) (a1 : Int32) (a2 : Int32) (M : xMem) (post : Int32 → xMem → Prop)  (h : wX11_tapeGives a0 a1 a2 M post) : xMet (WC g) l yX11_tapeGives cX11_tapeGives 4 (some .boolean) (rm_X11_tapeGives) [.ref (ga g 0), .int a0, .int a1, .int a2] M (pI post) := by
  refine x_enter (own := RX11) (L0 := [(0, .ref (ga g 0)), (1, .int a0), (2, .int a1), (3, .int a2)]) (by decide +kernel) rfl hg (x_stC g) (Nat.le_of_ble_eq_true rfl) rfl (fun x hl C => ?_)
  unfold wX11_tapeGives at h
  refine x_iload_n C 1 rfl rfl dX11_tapeGives_0 ?_
  refine x_iload_n C 2 rfl rfl dX11_tapeGives_1 ?_
  refine x_iload_n C 3 rfl rfl dX11_tapeGives_2 ?_
  refine x_callS C (st := []) (As := [.int a0, .int a1, .int a2]) (tX11_isWithin hg _ _ _ _ _ _  h) wm_X11_145 wsm_X11_isWithin wz_X11 wc_X11_isWithin yd_X11_isWithin rfl ⟨rfl, rfl⟩ ⟨Nat.le_of_ble_eq_true rfl, Nat.le_of_ble_eq_true rfl⟩ (Nat.le_of_ble_eq_true rfl) rfl dX11_tapeGives_3 (x_ki (fun r2 M1 h => ?_))
  refine x_if_eq C (tgt := 21) dX11_tapeGives_6 (by decide) (fun hq3 => ?_) (fun hq3 => ?_)
  · replace h := x_ift hq3 h
    refine x_iconst C (v1 := 0) dX11_tapeGives_21 (by decide) ?_
    exact x_zret C rfl dX11_tapeGives_22 ⟨_, rfl, h⟩
  · replace h := x_iff hq3 h
    refine x_iload_n C 1 rfl rfl dX11_tapeGives_9 ?_
    refine x_aload_n C 0 rfl rfl dX11_tapeGives_10 ?_
    refine x_get C (c := 0) (ci := 11) (k1 := 1) (v1 := .int (gi M1 0 1)) (enC_11 (c := 0) rfl) (Nat.le_of_ble_eq_true rfl) rfl inX11 (by decide) wf_X11_13 rfl dX11_tapeGives_11 ?_
    refine x_icmp_gt C (tgt := 21) dX11_tapeGives_14 (by decide) (fun hq4 => ?_) (fun hq4 => ?_)
    · replace h := x_ift hq4 h
      refine x_iconst C (v1 := 0) dX11_tapeGives_21 (by decide) ?_
      exact x_zret C rfl dX11_tapeGives_22 ⟨_, rfl, h⟩
    · replace h := x_iff hq4 h
      refine x_iconst C (v1 := 1) dX11_tapeGives_17 (by decide) ?_
      refine x_goto C (tgt := 22) dX11_tapeGives_18 (by decide) ?_
      exact x_zret C rfl dX11_tapeGives_22 ⟨_, rfl, h⟩
set_option maxHeartbeats 4000000 in
set_option maxRecDepth 100000 in
theorem tX11_has {g : xG} (hg : x_inj (WC g))  (l : Launch) (a0 : Int32) (a1 : Int32) (M : xMem) (post : Int32 → xMem → Prop)  (h : wX11_has a0 a1 M post) : xMet (WC g) l yX11_has cX11_has 2 (some .boolean) (rm_X11_has) [.int a0, .int a1] M (pI post) := by
  refine x_enter (own := RX11) (L0 := [(0, .int a0), (1, .int a1)]) (by decide +kernel) rfl hg (x_stC g) (Nat.le_of_ble_eq_true rfl) rfl (fun x hl C => ?_)
  unfold wX11_has at h
  refine x_iload_n C 1 rfl rfl dX11_has_0 ?_
  refine x_if_lt C (tgt := 23) dX11_has_1 (by decide) (fun hq1 => ?_) (fun hq1 => ?_)
  · replace h := x_ift hq1 h
    refine x_iconst C (v1 := 0) dX11_has_23 (by decide) ?_
    exact x_zret C rfl dX11_has_24 ⟨_, rfl, h⟩
  · replace h := x_iff hq1 h
    refine x_iload_n C 1 rfl rfl dX11_has_4 ?_
    refine x_bipush C (v1 := 10) dX11_has_5 (by decide) ?_
    refine x_icmp_ge C (tgt := 23) dX11_has_7 (by decide) (fun hq2 => ?_) (fun hq2 => ?_)
    · replace h := x_ift hq2 h
      refine x_iconst C (v1 := 0) dX11_has_23 (by decide) ?_
      exact x_zret C rfl dX11_has_24 ⟨_, rfl, h⟩
    · replace h := x_iff hq2 h
      refine x_iload_n C 0 rfl rfl dX11_has_10 ?_
      refine x_iload_n C 1 rfl rfl dX11_has_11 ?_
      refine x_ishr C dX11_has_12 ?_
      refine x_iconst C (v1 := 1) dX11_has_13 (by decide) ?_
      refine x_iand C dX11_has_14 ?_
      refine x_iconst C (v1 := 1) dX11_has_15 (by decide) ?_
      refine x_icmp_ne C (tgt := 23) dX11_has_16 (by decide) (fun hq3 => ?_) (fun hq3 => ?_)
      · replace h := x_iff hq3 h
        refine x_iconst C (v1 := 0) dX11_has_23 (by decide) ?_
        exact x_zret C rfl dX11_has_24 ⟨_, rfl, h⟩
      · replace h := x_ift hq3 h
        refine x_iconst C (v1 := 1) dX11_has_19 (by decide) ?_
        refine x_goto C (tgt := 24) dX11_has_20 (by decide) ?_
        exact x_zret C rfl dX11_has_24 ⟨_, rfl, h⟩
set_option maxHeartbeats 4000000 in
set_option maxRecDepth 100000 in
theorem tX4_beginAnew_42 {g : xG} (hg : x_inj (WC g))  {x : xCx} {o : Nat} {K2 : Int32 → Int32 → xMem → Prop} {post : xMem → Prop} (C : xOk (WC g) x cX4_beginAnew RX4 3 none (rm_X4_beginAnew) (pV post)) (ho : kC o = 4) (hK2 : ∀ (x1 : Int32) (x2 : Int32) (M : xMem), K2 x1 x2 M → xW (WC g) x 3 2 [(0, .ref (ga g o)), (1, .int x1), (2, .int x2)] [] M) (x1 : Int32) (x2 : Int32) (M : xMem)  (h : wX4_beginAnew_42 o K2 post x1 x2 M) : xW (WC g) x 3 42 [(0, .ref (ga g o)), (1, .int x1), (2, .int x2)] [] M := by
  unfold wX4_beginAnew_42 at h
  obtain ⟨v1, ev1⟩ : ∃ z : Int32, z = x2 + 1 := ⟨_, rfl⟩
  replace h := h v1 ev1
  refine x_iinc C 2 (v1 := v1) (L' := [(2, .int v1), (0, .ref (ga g o)), (1, .int x1)]) rfl (by rw [ev1]; rfl) rfl (Nat.le_of_ble_eq_true rfl) dX4_beginAnew_42 ?_
  refine x_goto C (tgt := 2) dX4_beginAnew_45 (by decide) ?_
  refine x_loc (L' := [(0, .ref (ga g o)), (1, .int x1), (2, .int v1)]) [1, 2, 0] rfl ?_
  exact hK2 _ _ _  h
set_option maxHeartbeats 4000000 in
set_option maxRecDepth 100000 in
theorem tX4_beginAnew_2 {g : xG} (hg : x_inj (WC g))  {x : xCx} {o : Nat}  {post : xMem → Prop} (C : xOk (WC g) x cX4_beginAnew RX4 3 none (rm_X4_beginAnew) (pV post)) (ho : kC o = 4)  : ∀ (n : Nat) (x1 : Int32) (x2 : Int32) (M : xMem), wX4_beginAnew_2 o post n x1 x2 M → xW (WC g) x 3 2 [(0, .ref (ga g o)), (1, .int x1), (2, .int x2)] [] M := by
  intro n
  induction n with
  | zero =>
    intro x1 x2 M  h
    exact h.elim
  | succ n ih =>
    intro x1 x2 M  h
    rw [wX4_beginAnew_2] at h
    refine x_iload_n C 2 rfl rfl dX4_beginAnew_2 ?_
    refine x_iconst C (v1 := 4) dX4_beginAnew_3 (by decide) ?_
    refine x_icmp_ge C (tgt := 48) dX4_beginAnew_4 (by decide) (fun hq1 => ?_) (fun hq1 => ?_)
    · replace h := x_ift hq1 h
      exact x_vret C dX4_beginAnew_48 ⟨rfl, h⟩
    · replace h := x_iff hq1 h
      refine x_aload_n C 0 rfl rfl dX4_beginAnew_7 ?_
      refine x_get C (c := o) (ci := 4) (k1 := 0) (v1 := .int (gi M o 0)) (enC_4 (c := o) ho) (kC_lt ho (by decide)) rfl inX4 (by decide) wf_X4_9 rfl dX4_beginAnew_8 ?_
      refine x_iload_n C 2 rfl rfl dX4_beginAnew_11 ?_
      refine x_callSN C (st := []) (As := [.int (gi M o 0), .int x2]) (tX11_has hg _ _ _ _ _  h) wmn_X4_61 wsm_X11_has wz_X11 wc_X11_has yd_X11_has rfl ⟨rfl, rfl⟩ ⟨Nat.le_of_ble_eq_true rfl, Nat.le_of_ble_eq_true rfl⟩ (Nat.le_of_ble_eq_true rfl) rfl dX4_beginAnew_12 (x_ki (fun r3 M2 h => ?_))
      refine x_if_eq C (tgt := 42) dX4_beginAnew_15 (by decide) (fun hq4 => ?_) (fun hq4 => ?_)
      · replace h := x_ift hq4 h
        exact tX4_beginAnew_42 hg  C ho ih _ _ _  h
      · replace h := x_iff hq4 h
        refine x_aload_n C 0 rfl rfl dX4_beginAnew_18 ?_
        refine x_get C (c := o) (ci := 4) (k1 := 1) (v1 := .ref (ga g ((o + 1)))) (enC_4 (c := o) ho) (kC_lt ho (by decide)) rfl inX4 (by decide) wf_X4_15 rfl dX4_beginAnew_19 ?_
        refine x_iload_n C 2 rfl rfl dX4_beginAnew_22 ?_
        obtain ⟨hi5, h⟩ := h
        refine x_iald C 0 (c := (o + 1)) (enC_20n (c := (o + 1)) (n := 4) (krX4_1 ho) (lrX4_1 ho)) (kC_lt (krX4_1 ho) (by decide)) rfl hi5 dX4_beginAnew_23 ?_
        refine x_iload_n C 1 rfl rfl dX4_beginAnew_24 ?_
        refine x_icmp_ne C (tgt := 42) dX4_beginAnew_25 (by decide) (fun hq6 => ?_) (fun hq6 => ?_)
        · replace h := x_iff hq6 h
          exact tX4_beginAnew_42 hg  C ho ih _ _ _  h
        · replace h := x_ift hq6 h
          refine x_aload_n C 0 rfl rfl dX4_beginAnew_28 ?_
          refine x_get C (c := o) (ci := 4) (k1 := 3) (v1 := .ref (ga g ((o + 3)))) (enC_4 (c := o) ho) (kC_lt ho (by decide)) rfl inX4 (by decide) wf_X4_22 rfl dX4_beginAnew_29 ?_
          refine x_iload_n C 2 rfl rfl dX4_beginAnew_32 ?_
          refine x_iconst C (v1 := 0) dX4_beginAnew_33 (by decide) ?_
          obtain ⟨hi7, h⟩ := h
          refine x_iast C 0 (c := (o + 3)) (enC_20n (c := (o + 3)) (n := 4) (krX4_3 ho) (lrX4_3 ho)) (kC_lt (krX4_3 ho) (by decide)) rfl hi7 dX4_beginAnew_34 ?_
          refine x_nmM (fun M8 eM8 => ?_)
          replace h := h M8 eM8
          refine x_aload_n C 0 rfl rfl dX4_beginAnew_35 ?_
          refine x_get C (c := o) (ci := 4) (k1 := 4) (v1 := .ref (ga g ((o + 4)))) (enC_4 (c := o) ho) (kC_lt ho (by decide)) rfl inX4 (by decide) wf_X4_25 rfl dX4_beginAnew_36 ?_
          refine x_iload_n C 2 rfl rfl dX4_beginAnew_39 ?_
          refine x_iconst C (v1 := 0) dX4_beginAnew_40 (by decide) ?_
          obtain ⟨hi9, h⟩ := h
          refine x_iast C 0 (c := (o + 4)) (enC_20n (c := (o + 4)) (n := 4) (krX4_4 ho) (lrX4_4 ho)) (kC_lt (krX4_4 ho) (by decide)) rfl hi9 dX4_beginAnew_41 ?_
          refine x_nmM (fun M10 eM10 => ?_)
          replace h := h M10 eM10
          exact tX4_beginAnew_42 hg  C ho ih _ _ _  h
set_option maxHeartbeats 4000000 in
set_option maxRecDepth 100000 in
theorem tX4_beginAnew {g : xG} (hg : x_inj (WC g))  (l : Launch) (o : Nat) (a0 : Int32) (M : xMem) (post : xMem → Prop) (ho : kC o = 4) (h : wX4_beginAnew o a0 M post) : xMet (WC g) l yX4_beginAnew cX4_beginAnew 3 none (rm_X4_beginAnew) [.ref (ga g o), .int a0] M (pV post) := by
  refine x_enter (own := RX4) (L0 := [(0, .ref (ga g o)), (1, .int a0)]) (by decide +kernel) rfl hg (x_stC g) (Nat.le_of_ble_eq_true rfl) rfl (fun x hl C => ?_)
  unfold wX4_beginAnew at h
  refine x_iconst C (v1 := 0) dX4_beginAnew_0 (by decide) ?_
  refine x_istore_n C (L' := [(2, .int 0), (0, .ref (ga g o)), (1, .int a0)]) rfl rfl (Nat.le_of_ble_eq_true rfl) dX4_beginAnew_1 ?_
  refine x_loc (L' := [(0, .ref (ga g o)), (1, .int a0), (2, .int 0)]) [1, 2, 0] rfl ?_
  obtain ⟨n2, h⟩ := h
  exact tX4_beginAnew_2 hg  C ho  _ _ _ _  h
set_option maxHeartbeats 4000000 in
set_option maxRecDepth 100000 in
theorem tX11_story {g : xG} (hg : x_inj (WC g))  (l : Launch) (a0 : Int32) (a1 : Int32) (M : xMem) (post : Int32 → xMem → Prop)  (h : wX11_story a0 a1 M post) : xMet (WC g) l yX11_story cX11_story 5 (some .int) (rm_X11_story) [.ref (ga g 0), .int a0, .int a1] M (pI post) := by
  refine x_enter (own := RX11) (L0 := [(0, .ref (ga g 0)), (1, .int a0), (2, .int a1)]) (by decide +kernel) rfl hg (x_stC g) (Nat.le_of_ble_eq_true rfl) rfl (fun x hl C => ?_)
  unfold wX11_story at h
  refine x_aload_n C 0 rfl rfl dX11_story_0 ?_
  refine x_iload_n C 1 rfl rfl dX11_story_1 ?_
  refine x_callV C (st := []) (As := [.int a0]) (c := 0) (ci := 11) (enC_11 (c := 0) rfl) (Nat.le_of_ble_eq_true rfl) rfl (tX11_storyAt hg _ _ _ _  h) wm_X11_115 wi_X11_storyAt wv_X11_storyAt wz_X11 wc_X11_storyAt rfl yd_X11_storyAt rfl ⟨rfl, rfl⟩ ⟨Nat.le_of_ble_eq_true rfl, Nat.le_of_ble_eq_true rfl⟩ (Nat.le_of_ble_eq_true rfl) rfl dX11_story_2 (x_kr (fun M1 h => ?_) (fun q2 M1 h0 hkq2 h => ?_))
  · replace h := x_ift rfl h
    refine x_astore_nN C (L' := [(3, .null), (0, .ref (ga g 0)), (1, .int a0), (2, .int a1)]) rfl rfl (Nat.le_of_ble_eq_true rfl) dX11_story_5 ?_
    refine x_aload_nN C 0 rfl rfl dX11_story_6 ?_
    refine x_ifnullN C (tgt := 21) dX11_story_7 (by decide) ?_
    refine x_iconst C (v1 := (-1)) dX11_story_21 (by decide) ?_
    exact x_iret C dX11_story_22 ⟨_, rfl, h⟩
  · replace h := x_iff h0 h
    refine x_astore_n C (L' := [(3, .ref (ga g q2)), (0, .ref (ga g 0)), (1, .int a0), (2, .int a1)]) rfl rfl (Nat.le_of_ble_eq_true rfl) dX11_story_5 ?_
    refine x_aload_n C 0 rfl rfl dX11_story_6 ?_
    refine x_ifnull_r C dX11_story_7 ?_
    refine x_aload_n C 1 rfl rfl dX11_story_10 ?_
    refine x_iload_n C 3 rfl rfl dX11_story_11 ?_
    refine x_iconst C (v1 := 1) dX11_story_12 (by decide) ?_
    refine x_bipush C (v1 := 80) dX11_story_13 (by decide) ?_
    refine x_callV C (st := []) (As := [.int a1, .int 1, .int 80]) (c := 0) (ci := 11) (enC_11 (c := 0) rfl) (Nat.le_of_ble_eq_true rfl) rfl (tX11_tapeGives hg _ _ _ _ _ _  h) wm_X11_119 wi_X11_tapeGives wv_X11_tapeGives wz_X11 wc_X11_tapeGives rfl yd_X11_tapeGives rfl ⟨rfl, rfl⟩ ⟨Nat.le_of_ble_eq_true rfl, Nat.le_of_ble_eq_true rfl⟩ (Nat.le_of_ble_eq_true rfl) rfl dX11_story_15 (x_ki (fun r4 M3 h => ?_))
    refine x_if_ne C (tgt := 23) dX11_story_18 (by decide) (fun hq5 => ?_) (fun hq5 => ?_)
    · replace h := x_iff hq5 h
      refine x_aload_n C 1 rfl rfl dX11_story_23 ?_
      refine x_iconst C (v1 := 0) dX11_story_24 (by decide) ?_
      refine x_put C (c := 0) (ci := 11) (k1 := 1) (u1 := 0) (v1 := .int 0) (ty := .int) (enC_11 (c := 0) rfl) (Nat.le_of_ble_eq_true rfl) rfl inX11 (by decide) (stX11_1 _ _ _) tyX11 tyX11_ok nmX11 wf_X11_13 rfl rfl rfl rfl (Nat.le_of_ble_eq_true rfl) dX11_story_25 ?_
      refine x_nmM (fun M6 eM6 => ?_)
      replace h := h M6 eM6
      refine x_aload_n C 1 rfl rfl dX11_story_28 ?_
      refine x_get C (c := 0) (ci := 11) (k1 := 3) (v1 := .ref (ga g 15)) (enC_11 (c := 0) rfl) (Nat.le_of_ble_eq_true rfl) rfl inX11 (by decide) wf_X11_26 rfl dX11_story_29 ?_
      refine x_aload_n C 1 rfl rfl dX11_story_32 ?_
      refine x_get C (c := 0) (ci := 11) (k1 := 0) (v1 := .ref (ga g 1)) (enC_11 (c := 0) rfl) (Nat.le_of_ble_eq_true rfl) rfl inX11 (by decide) wf_X11_9 rfl dX11_story_33 ?_
      refine x_iload_n C 3 rfl rfl dX11_story_36 ?_
      refine x_callVN C (st := []) (As := [.ref (ga g 1), .int a1]) (c := 15) (ci := 10) (enC_10 (c := 15) rfl) (Nat.le_of_ble_eq_true rfl) rfl (tX10_read hg _ _ _ _  h) wmn_X11_123 wi_X10_read wv_X10_read wz_X10 wc_X10_read yd_X10_read rfl ⟨rfl, rfl⟩ ⟨Nat.le_of_ble_eq_true rfl, Nat.le_of_ble_eq_true rfl⟩ (Nat.le_of_ble_eq_true rfl) rfl dX11_story_37 (x_ki (fun r8 M7 h => ?_))
      refine x_istore C (L' := [(4, .int r8), (3, .ref (ga g q2)), (0, .ref (ga g 0)), (1, .int a0), (2, .int a1)]) rfl (Nat.le_of_ble_eq_true rfl) dX11_story_40 ?_
      refine x_iload C 0 rfl dX11_story_42 ?_
      refine x_if_le C (tgt := 68) dX11_story_44 (by decide) (fun hq9 => ?_) (fun hq9 => ?_)
      · replace h := x_ift hq9 h
        refine x_iload C 0 rfl dX11_story_68 ?_
        exact x_iret C dX11_story_70 ⟨_, rfl, h⟩
      · replace h := x_iff hq9 h
        refine x_aload_n C 1 rfl rfl dX11_story_47 ?_
        refine x_aload_n C 2 rfl rfl dX11_story_48 ?_
        refine x_get C (c := 0) (ci := 11) (k1 := 3) (v1 := .ref (ga g 15)) (enC_11 (c := 0) rfl) (Nat.le_of_ble_eq_true rfl) rfl inX11 (by decide) wf_X11_26 rfl dX11_story_49 ?_
        refine x_getN C (c := 15) (ci := 10) (k1 := 0) (v1 := .ref (ga g 16)) (enC_10 (c := 15) rfl) (Nat.le_of_ble_eq_true rfl) rfl inX10 (by decide) wfn_X11_127 rfl dX11_story_52 ?_
        refine x_iload C 0 rfl dX11_story_55 ?_
        refine x_callVN C (st := []) (As := [.ref (ga g 16), .int r8]) (c := q2) (ci := 9) (enC_9 (c := q2) hkq2) (kC_lt hkq2 (by decide)) rfl (tX9_take hg _ _ _ _ _ hkq2 h) wmn_X11_130 wi_X9_take wv_X9_take wz_X9 wc_X9_take yd_X9_take rfl ⟨rfl, rfl⟩ ⟨Nat.le_of_ble_eq_true rfl, Nat.le_of_ble_eq_true rfl⟩ (Nat.le_of_ble_eq_true rfl) rfl dX11_story_57 (x_kv (fun M10 h => ?_))
        refine x_aload_n C 2 rfl rfl dX11_story_60 ?_
        refine x_get C (c := 0) (ci := 11) (k1 := 8) (v1 := .ref (ga g 49)) (enC_11 (c := 0) rfl) (Nat.le_of_ble_eq_true rfl) rfl inX11 (by decide) wf_X11_57 rfl dX11_story_61 ?_
        refine x_iload_n C 3 rfl rfl dX11_story_64 ?_
        refine x_callVN C (st := []) (As := [.int a0]) (c := 49) (ci := 4) (enC_4 (c := 49) rfl) (Nat.le_of_ble_eq_true rfl) rfl (tX4_beginAnew hg _ _ _ _ _ rfl h) wmn_X11_134 wi_X4_beginAnew wv_X4_beginAnew wz_X4 wc_X4_beginAnew yd_X4_beginAnew rfl ⟨rfl, rfl⟩ ⟨Nat.le_of_ble_eq_true rfl, Nat.le_of_ble_eq_true rfl⟩ (Nat.le_of_ble_eq_true rfl) rfl dX11_story_65 (x_kv (fun M11 h => ?_))
        refine x_iload C 0 rfl dX11_story_68 ?_
        exact x_iret C dX11_story_70 ⟨_, rfl, h⟩
    · replace h := x_ift hq5 h
      refine x_iconst C (v1 := (-1)) dX11_story_21 (by decide) ?_
      exact x_iret C dX11_story_22 ⟨_, rfl, h⟩
set_option maxHeartbeats 4000000 in
set_option maxRecDepth 100000 in
theorem tX5_takeFrom {g : xG} (hg : x_inj (WC g))  (l : Launch) (o : Nat) (o0 : Nat) (M : xMem) (post : xMem → Prop) (ho : kC o = 5) (ho0 : kC o0 = 5) (h : wX5_takeFrom o o0 M post) : xMet (WC g) l yX5_takeFrom cX5_takeFrom 2 none (rm_X5_takeFrom) [.ref (ga g o), .ref (ga g o0)] M (pV post) := by
  refine x_enter (own := RX5) (L0 := [(0, .ref (ga g o)), (1, .ref (ga g o0))]) (by decide +kernel) rfl hg (x_stC g) (Nat.le_of_ble_eq_true rfl) rfl (fun x hl C => ?_)
  unfold wX5_takeFrom at h
  refine x_aload_n C 0 rfl rfl dX5_takeFrom_0 ?_
  refine x_aload_n C 1 rfl rfl dX5_takeFrom_1 ?_
  refine x_get C (c := o0) (ci := 5) (k1 := 0) (v1 := .int (gi M o0 0)) (enC_5 (c := o0) ho0) (kC_lt ho0 (by decide)) rfl inX5 (by decide) wf_X5_9 rfl dX5_takeFrom_2 ?_
  refine x_put C (c := o) (ci := 5) (k1 := 0) (u1 := (gi M o0 0)) (v1 := .int (gi M o0 0)) (ty := .int) (enC_5 (c := o) ho) (kC_lt ho (by decide)) rfl inX5 (by decide) (stX5_0 _ _ _) tyX5 tyX5_ok nmX5 wf_X5_9 rfl rfl rfl rfl (Nat.le_of_ble_eq_true rfl) dX5_takeFrom_5 ?_
  refine x_nmM (fun M1 eM1 => ?_)
  replace h := h M1 eM1
  refine x_aload_n C 0 rfl rfl dX5_takeFrom_8 ?_
  refine x_aload_n C 1 rfl rfl dX5_takeFrom_9 ?_
  refine x_get C (c := o0) (ci := 5) (k1 := 5) (v1 := .int (gi M1 o0 5)) (enC_5 (c := o0) ho0) (kC_lt ho0 (by decide)) rfl inX5 (by decide) wf_X5_28 rfl dX5_takeFrom_10 ?_
  refine x_put C (c := o) (ci := 5) (k1 := 5) (u1 := (gi M1 o0 5)) (v1 := .int (gi M1 o0 5)) (ty := .int) (enC_5 (c := o) ho) (kC_lt ho (by decide)) rfl inX5 (by decide) (stX5_5 _ _ _) tyX5 tyX5_ok nmX5 wf_X5_28 rfl rfl rfl rfl (Nat.le_of_ble_eq_true rfl) dX5_takeFrom_13 ?_
  refine x_nmM (fun M2 eM2 => ?_)
  replace h := h M2 eM2
  refine x_aload_n C 1 rfl rfl dX5_takeFrom_16 ?_
  refine x_get C (c := o0) (ci := 5) (k1 := 1) (v1 := .ref (ga g ((o0 + 1)))) (enC_5 (c := o0) ho0) (kC_lt ho0 (by decide)) rfl inX5 (by decide) wf_X5_15 rfl dX5_takeFrom_17 ?_
  refine x_iconst C (v1 := 0) dX5_takeFrom_20 (by decide) ?_
  refine x_aload_n C 0 rfl rfl dX5_takeFrom_21 ?_
  refine x_get C (c := o) (ci := 5) (k1 := 1) (v1 := .ref (ga g ((o + 1)))) (enC_5 (c := o) ho) (kC_lt ho (by decide)) rfl inX5 (by decide) wf_X5_15 rfl dX5_takeFrom_22 ?_
  refine x_iconst C (v1 := 0) dX5_takeFrom_25 (by decide) ?_
  refine x_bipush C (v1 := 16) dX5_takeFrom_26 (by decide) ?_
  obtain ⟨hk3, h⟩ := h
  refine x_acopy C 0 (c := (o0 + 1)) (d := (o + 1)) (sp := 0) (dp := 0) (n := 16) (enC_20n (c := (o0 + 1)) (n := 16) (krX5_1 ho0) (lrX5_1 ho0)) (enC_20n (c := (o + 1)) (n := 16) (krX5_1 ho) (lrX5_1 ho)) (kC_lt (krX5_1 ho0) (by decide)) (kC_lt (krX5_1 ho) (by decide)) rfl wm_X5_41 (by first | exact wna_arraycopy) (wsm_arraycopy) wz_system hk3 (Nat.le_of_ble_eq_true rfl) (Nat.le_of_ble_eq_true rfl) dX5_takeFrom_28 ?_
  refine x_nmM (fun M4 eM4 => ?_)
  replace h := h M4 eM4
  refine x_aload_n C 1 rfl rfl dX5_takeFrom_31 ?_
  refine x_get C (c := o0) (ci := 5) (k1 := 2) (v1 := .ref (ga g ((o0 + 2)))) (enC_5 (c := o0) ho0) (kC_lt ho0 (by decide)) rfl inX5 (by decide) wf_X5_19 rfl dX5_takeFrom_32 ?_
  refine x_iconst C (v1 := 0) dX5_takeFrom_35 (by decide) ?_
  refine x_aload_n C 0 rfl rfl dX5_takeFrom_36 ?_
  refine x_get C (c := o) (ci := 5) (k1 := 2) (v1 := .ref (ga g ((o + 2)))) (enC_5 (c := o) ho) (kC_lt ho (by decide)) rfl inX5 (by decide) wf_X5_19 rfl dX5_takeFrom_37 ?_
  refine x_iconst C (v1 := 0) dX5_takeFrom_40 (by decide) ?_
  refine x_bipush C (v1 := 16) dX5_takeFrom_41 (by decide) ?_
  obtain ⟨hk5, h⟩ := h
  refine x_acopy C 0 (c := (o0 + 2)) (d := (o + 2)) (sp := 0) (dp := 0) (n := 16) (enC_20n (c := (o0 + 2)) (n := 16) (krX5_2 ho0) (lrX5_2 ho0)) (enC_20n (c := (o + 2)) (n := 16) (krX5_2 ho) (lrX5_2 ho)) (kC_lt (krX5_2 ho0) (by decide)) (kC_lt (krX5_2 ho) (by decide)) rfl wm_X5_41 (by first | exact wna_arraycopy) (wsm_arraycopy) wz_system hk5 (Nat.le_of_ble_eq_true rfl) (Nat.le_of_ble_eq_true rfl) dX5_takeFrom_43 ?_
  refine x_nmM (fun M6 eM6 => ?_)
  replace h := h M6 eM6
  refine x_aload_n C 1 rfl rfl dX5_takeFrom_46 ?_
  refine x_get C (c := o0) (ci := 5) (k1 := 3) (v1 := .ref (ga g ((o0 + 3)))) (enC_5 (c := o0) ho0) (kC_lt ho0 (by decide)) rfl inX5 (by decide) wf_X5_22 rfl dX5_takeFrom_47 ?_
  refine x_iconst C (v1 := 0) dX5_takeFrom_50 (by decide) ?_
  refine x_aload_n C 0 rfl rfl dX5_takeFrom_51 ?_
  refine x_get C (c := o) (ci := 5) (k1 := 3) (v1 := .ref (ga g ((o + 3)))) (enC_5 (c := o) ho) (kC_lt ho (by decide)) rfl inX5 (by decide) wf_X5_22 rfl dX5_takeFrom_52 ?_
  refine x_iconst C (v1 := 0) dX5_takeFrom_55 (by decide) ?_
  refine x_bipush C (v1 := 16) dX5_takeFrom_56 (by decide) ?_
  obtain ⟨hk7, h⟩ := h
  refine x_acopy C 0 (c := (o0 + 3)) (d := (o + 3)) (sp := 0) (dp := 0) (n := 16) (enC_20n (c := (o0 + 3)) (n := 16) (krX5_3 ho0) (lrX5_3 ho0)) (enC_20n (c := (o + 3)) (n := 16) (krX5_3 ho) (lrX5_3 ho)) (kC_lt (krX5_3 ho0) (by decide)) (kC_lt (krX5_3 ho) (by decide)) rfl wm_X5_41 (by first | exact wna_arraycopy) (wsm_arraycopy) wz_system hk7 (Nat.le_of_ble_eq_true rfl) (Nat.le_of_ble_eq_true rfl) dX5_takeFrom_58 ?_
  refine x_nmM (fun M8 eM8 => ?_)
  replace h := h M8 eM8
  refine x_aload_n C 1 rfl rfl dX5_takeFrom_61 ?_
  refine x_get C (c := o0) (ci := 5) (k1 := 4) (v1 := .ref (ga g ((o0 + 4)))) (enC_5 (c := o0) ho0) (kC_lt ho0 (by decide)) rfl inX5 (by decide) wf_X5_25 rfl dX5_takeFrom_62 ?_
  refine x_iconst C (v1 := 0) dX5_takeFrom_65 (by decide) ?_
  refine x_aload_n C 0 rfl rfl dX5_takeFrom_66 ?_
  refine x_get C (c := o) (ci := 5) (k1 := 4) (v1 := .ref (ga g ((o + 4)))) (enC_5 (c := o) ho) (kC_lt ho (by decide)) rfl inX5 (by decide) wf_X5_25 rfl dX5_takeFrom_67 ?_
  refine x_iconst C (v1 := 0) dX5_takeFrom_70 (by decide) ?_
  refine x_bipush C (v1 := 16) dX5_takeFrom_71 (by decide) ?_
  obtain ⟨hk9, h⟩ := h
  refine x_acopy C 0 (c := (o0 + 4)) (d := (o + 4)) (sp := 0) (dp := 0) (n := 16) (enC_20n (c := (o0 + 4)) (n := 16) (krX5_4 ho0) (lrX5_4 ho0)) (enC_20n (c := (o + 4)) (n := 16) (krX5_4 ho) (lrX5_4 ho)) (kC_lt (krX5_4 ho0) (by decide)) (kC_lt (krX5_4 ho) (by decide)) rfl wm_X5_41 (by first | exact wna_arraycopy) (wsm_arraycopy) wz_system hk9 (Nat.le_of_ble_eq_true rfl) (Nat.le_of_ble_eq_true rfl) dX5_takeFrom_73 ?_
  refine x_nmM (fun M10 eM10 => ?_)
  replace h := h M10 eM10
  refine x_aload_n C 1 rfl rfl dX5_takeFrom_76 ?_
  refine x_get C (c := o0) (ci := 5) (k1 := 6) (v1 := .ref (ga g ((o0 + 5)))) (enC_5 (c := o0) ho0) (kC_lt ho0 (by decide)) rfl inX5 (by decide) wf_X5_31 rfl dX5_takeFrom_77 ?_
  refine x_iconst C (v1 := 0) dX5_takeFrom_80 (by decide) ?_
  refine x_aload_n C 0 rfl rfl dX5_takeFrom_81 ?_
  refine x_get C (c := o) (ci := 5) (k1 := 6) (v1 := .ref (ga g ((o + 5)))) (enC_5 (c := o) ho) (kC_lt ho (by decide)) rfl inX5 (by decide) wf_X5_31 rfl dX5_takeFrom_82 ?_
  refine x_iconst C (v1 := 0) dX5_takeFrom_85 (by decide) ?_
  refine x_sipush C (v1 := 240) dX5_takeFrom_86 (by decide) ?_
  obtain ⟨hk11, h⟩ := h
  refine x_acopy C 0 (c := (o0 + 5)) (d := (o + 5)) (sp := 0) (dp := 0) (n := 240) (enC_20n (c := (o0 + 5)) (n := 240) (krX5_5 ho0) (lrX5_5 ho0)) (enC_20n (c := (o + 5)) (n := 240) (krX5_5 ho) (lrX5_5 ho)) (kC_lt (krX5_5 ho0) (by decide)) (kC_lt (krX5_5 ho) (by decide)) rfl wm_X5_41 (by first | exact wna_arraycopy) (wsm_arraycopy) wz_system hk11 (Nat.le_of_ble_eq_true rfl) (Nat.le_of_ble_eq_true rfl) dX5_takeFrom_89 ?_
  refine x_nmM (fun M12 eM12 => ?_)
  replace h := h M12 eM12
  exact x_vret C dX5_takeFrom_92 ⟨rfl, h⟩
set_option maxHeartbeats 4000000 in
set_option maxRecDepth 100000 in
theorem tX5_clear {g : xG} (hg : x_inj (WC g))  (l : Launch) (o : Nat) (M : xMem) (post : xMem → Prop) (ho : kC o = 5) (h : wX5_clear o M post) : xMet (WC g) l yX5_clear cX5_clear 1 none (rm_X5_clear) [.ref (ga g o)] M (pV post) := by
  refine x_enter (own := RX5) (L0 := [(0, .ref (ga g o))]) (by decide +kernel) rfl hg (x_stC g) (Nat.le_of_ble_eq_true rfl) rfl (fun x hl C => ?_)
  unfold wX5_clear at h
  refine x_aload_n C 0 rfl rfl dX5_clear_0 ?_
  refine x_iconst C (v1 := 0) dX5_clear_1 (by decide) ?_
  refine x_put C (c := o) (ci := 5) (k1 := 0) (u1 := 0) (v1 := .int 0) (ty := .int) (enC_5 (c := o) ho) (kC_lt ho (by decide)) rfl inX5 (by decide) (stX5_0 _ _ _) tyX5 tyX5_ok nmX5 wf_X5_9 rfl rfl rfl rfl (Nat.le_of_ble_eq_true rfl) dX5_clear_2 ?_
  refine x_nmM (fun M1 eM1 => ?_)
  replace h := h M1 eM1
  refine x_aload_n C 0 rfl rfl dX5_clear_5 ?_
  refine x_iconst C (v1 := 0) dX5_clear_6 (by decide) ?_
  refine x_put C (c := o) (ci := 5) (k1 := 5) (u1 := 0) (v1 := .int 0) (ty := .int) (enC_5 (c := o) ho) (kC_lt ho (by decide)) rfl inX5 (by decide) (stX5_5 _ _ _) tyX5 tyX5_ok nmX5 wf_X5_28 rfl rfl rfl rfl (Nat.le_of_ble_eq_true rfl) dX5_clear_7 ?_
  refine x_nmM (fun M2 eM2 => ?_)
  replace h := h M2 eM2
  exact x_vret C dX5_clear_10 ⟨rfl, h⟩
set_option maxHeartbeats 4000000 in
set_option maxRecDepth 100000 in
theorem tX5_addClause {g : xG} (hg : x_inj (WC g))  (l : Launch) (o : Nat) (a0 : Int32) (a1 : Int32) (a2 : Int32) (M : xMem) (post : xMem → Prop) (ho : kC o = 5) (h : wX5_addClause o a0 a1 a2 M post) : xMet (WC g) l yX5_addClause cX5_addClause 4 none (rm_X5_addClause) [.ref (ga g o), .int a0, .int a1, .int a2] M (pV post) := by
  refine x_enter (own := RX5) (L0 := [(0, .ref (ga g o)), (1, .int a0), (2, .int a1), (3, .int a2)]) (by decide +kernel) rfl hg (x_stC g) (Nat.le_of_ble_eq_true rfl) rfl (fun x hl C => ?_)
  unfold wX5_addClause at h
  refine x_aload_n C 0 rfl rfl dX5_addClause_0 ?_
  refine x_get C (c := o) (ci := 5) (k1 := 0) (v1 := .int (gi M o 0)) (enC_5 (c := o) ho) (kC_lt ho (by decide)) rfl inX5 (by decide) wf_X5_9 rfl dX5_addClause_1 ?_
  refine x_bipush C (v1 := 16) dX5_addClause_4 (by decide) ?_
  refine x_icmp_ge C (tgt := 62) dX5_addClause_6 (by decide) (fun hq1 => ?_) (fun hq1 => ?_)
  · replace h := x_ift hq1 h
    exact x_vret C dX5_addClause_62 ⟨rfl, h⟩
  · replace h := x_iff hq1 h
    refine x_aload_n C 0 rfl rfl dX5_addClause_9 ?_
    refine x_get C (c := o) (ci := 5) (k1 := 1) (v1 := .ref (ga g ((o + 1)))) (enC_5 (c := o) ho) (kC_lt ho (by decide)) rfl inX5 (by decide) wf_X5_15 rfl dX5_addClause_10 ?_
    refine x_aload_n C 0 rfl rfl dX5_addClause_13 ?_
    refine x_get C (c := o) (ci := 5) (k1 := 0) (v1 := .int (gi M o 0)) (enC_5 (c := o) ho) (kC_lt ho (by decide)) rfl inX5 (by decide) wf_X5_9 rfl dX5_addClause_14 ?_
    refine x_iload_n C 1 rfl rfl dX5_addClause_17 ?_
    obtain ⟨hi2, h⟩ := h
    refine x_iast C 0 (c := (o + 1)) (enC_20n (c := (o + 1)) (n := 16) (krX5_1 ho) (lrX5_1 ho)) (kC_lt (krX5_1 ho) (by decide)) rfl hi2 dX5_addClause_18 ?_
    refine x_nmM (fun M3 eM3 => ?_)
    replace h := h M3 eM3
    refine x_aload_n C 0 rfl rfl dX5_addClause_19 ?_
    refine x_get C (c := o) (ci := 5) (k1 := 2) (v1 := .ref (ga g ((o + 2)))) (enC_5 (c := o) ho) (kC_lt ho (by decide)) rfl inX5 (by decide) wf_X5_19 rfl dX5_addClause_20 ?_
    refine x_aload_n C 0 rfl rfl dX5_addClause_23 ?_
    refine x_get C (c := o) (ci := 5) (k1 := 0) (v1 := .int (gi M3 o 0)) (enC_5 (c := o) ho) (kC_lt ho (by decide)) rfl inX5 (by decide) wf_X5_9 rfl dX5_addClause_24 ?_
    refine x_iload_n C 2 rfl rfl dX5_addClause_27 ?_
    obtain ⟨hi4, h⟩ := h
    refine x_iast C 0 (c := (o + 2)) (enC_20n (c := (o + 2)) (n := 16) (krX5_2 ho) (lrX5_2 ho)) (kC_lt (krX5_2 ho) (by decide)) rfl hi4 dX5_addClause_28 ?_
    refine x_nmM (fun M5 eM5 => ?_)
    replace h := h M5 eM5
    refine x_aload_n C 0 rfl rfl dX5_addClause_29 ?_
    refine x_get C (c := o) (ci := 5) (k1 := 3) (v1 := .ref (ga g ((o + 3)))) (enC_5 (c := o) ho) (kC_lt ho (by decide)) rfl inX5 (by decide) wf_X5_22 rfl dX5_addClause_30 ?_
    refine x_aload_n C 0 rfl rfl dX5_addClause_33 ?_
    refine x_get C (c := o) (ci := 5) (k1 := 0) (v1 := .int (gi M5 o 0)) (enC_5 (c := o) ho) (kC_lt ho (by decide)) rfl inX5 (by decide) wf_X5_9 rfl dX5_addClause_34 ?_
    refine x_iload_n C 3 rfl rfl dX5_addClause_37 ?_
    obtain ⟨hi6, h⟩ := h
    refine x_iast C 0 (c := (o + 3)) (enC_20n (c := (o + 3)) (n := 16) (krX5_3 ho) (lrX5_3 ho)) (kC_lt (krX5_3 ho) (by decide)) rfl hi6 dX5_addClause_38 ?_
    refine x_nmM (fun M7 eM7 => ?_)
    replace h := h M7 eM7
    refine x_aload_n C 0 rfl rfl dX5_addClause_39 ?_
    refine x_get C (c := o) (ci := 5) (k1 := 4) (v1 := .ref (ga g ((o + 4)))) (enC_5 (c := o) ho) (kC_lt ho (by decide)) rfl inX5 (by decide) wf_X5_25 rfl dX5_addClause_40 ?_
    refine x_aload_n C 0 rfl rfl dX5_addClause_43 ?_
    refine x_get C (c := o) (ci := 5) (k1 := 0) (v1 := .int (gi M7 o 0)) (enC_5 (c := o) ho) (kC_lt ho (by decide)) rfl inX5 (by decide) wf_X5_9 rfl dX5_addClause_44 ?_
    refine x_aload_n C 0 rfl rfl dX5_addClause_47 ?_
    refine x_get C (c := o) (ci := 5) (k1 := 5) (v1 := .int (gi M7 o 5)) (enC_5 (c := o) ho) (kC_lt ho (by decide)) rfl inX5 (by decide) wf_X5_28 rfl dX5_addClause_48 ?_
    obtain ⟨hi8, h⟩ := h
    refine x_iast C 0 (c := (o + 4)) (enC_20n (c := (o + 4)) (n := 16) (krX5_4 ho) (lrX5_4 ho)) (kC_lt (krX5_4 ho) (by decide)) rfl hi8 dX5_addClause_51 ?_
    refine x_nmM (fun M9 eM9 => ?_)
    replace h := h M9 eM9
    refine x_aload_n C 0 rfl rfl dX5_addClause_52 ?_
    refine x_dup C rfl dX5_addClause_53 ?_
    refine x_get C (c := o) (ci := 5) (k1 := 0) (v1 := .int (gi M9 o 0)) (enC_5 (c := o) ho) (kC_lt ho (by decide)) rfl inX5 (by decide) wf_X5_9 rfl dX5_addClause_54 ?_
    refine x_iconst C (v1 := 1) dX5_addClause_57 (by decide) ?_
    refine x_iadd C dX5_addClause_58 ?_
    refine x_put C (c := o) (ci := 5) (k1 := 0) (u1 := ((gi M9 o 0) + 1)) (v1 := .int ((gi M9 o 0) + 1)) (ty := .int) (enC_5 (c := o) ho) (kC_lt ho (by decide)) rfl inX5 (by decide) (stX5_0 _ _ _) tyX5 tyX5_ok nmX5 wf_X5_9 rfl rfl rfl rfl (Nat.le_of_ble_eq_true rfl) dX5_addClause_59 ?_
    refine x_nmM (fun M10 eM10 => ?_)
    replace h := h M10 eM10
    exact x_vret C dX5_addClause_62 ⟨rfl, h⟩
set_option maxHeartbeats 4000000 in
set_option maxRecDepth 100000 in
theorem tX6_sign {g : xG} (hg : x_inj (WC g))  (l : Launch)  (M : xMem) (post : Int32 → xMem → Prop)  (h : wX6_sign  M post) : xMet (WC g) l yX6_sign cX6_sign 1 (some .int) (rm_X6_sign) [.ref (ga g 32)] M (pI post) := by
  refine x_enter (own := RX6) (L0 := [(0, .ref (ga g 32))]) (by decide +kernel) rfl hg (x_stC g) (Nat.le_of_ble_eq_true rfl) rfl (fun x hl C => ?_)
  unfold wX6_sign at h
  refine x_aload_n C 0 rfl rfl dX6_sign_0 ?_
  refine x_get C (c := 32) (ci := 6) (k1 := 3) (v1 := .int (gi M 32 3)) (enC_6 (c := 32) rfl) (Nat.le_of_ble_eq_true rfl) rfl inX6 (by decide) wf_X6_26 rfl dX6_sign_1 ?_
  refine x_if_lt C (tgt := 42) dX6_sign_4 (by decide) (fun hq1 => ?_) (fun hq1 => ?_)
  · replace h := x_ift hq1 h
    refine x_iconst C (v1 := (-1)) dX6_sign_42 (by decide) ?_
    exact x_iret C dX6_sign_43 ⟨_, rfl, h⟩
  · replace h := x_iff hq1 h
    refine x_aload_n C 0 rfl rfl dX6_sign_7 ?_
    refine x_get C (c := 32) (ci := 6) (k1 := 3) (v1 := .int (gi M 32 3)) (enC_6 (c := 32) rfl) (Nat.le_of_ble_eq_true rfl) rfl inX6 (by decide) wf_X6_26 rfl dX6_sign_8 ?_
    refine x_aload_n C 0 rfl rfl dX6_sign_11 ?_
    refine x_get C (c := 32) (ci := 6) (k1 := 2) (v1 := .int (gi M 32 2)) (enC_6 (c := 32) rfl) (Nat.le_of_ble_eq_true rfl) rfl inX6 (by decide) wf_X6_22 rfl dX6_sign_12 ?_
    refine x_icmp_ge C (tgt := 42) dX6_sign_15 (by decide) (fun hq2 => ?_) (fun hq2 => ?_)
    · replace h := x_ift hq2 h
      refine x_iconst C (v1 := (-1)) dX6_sign_42 (by decide) ?_
      exact x_iret C dX6_sign_43 ⟨_, rfl, h⟩
    · replace h := x_iff hq2 h
      refine x_aload_n C 0 rfl rfl dX6_sign_18 ?_
      refine x_get C (c := 32) (ci := 6) (k1 := 3) (v1 := .int (gi M 32 3)) (enC_6 (c := 32) rfl) (Nat.le_of_ble_eq_true rfl) rfl inX6 (by decide) wf_X6_26 rfl dX6_sign_19 ?_
      refine x_aload_n C 0 rfl rfl dX6_sign_22 ?_
      obtain ⟨hd3, h⟩ := h
      refine x_get C (c := 32) (ci := 6) (k1 := 1) (v1 := .ref (ga g (((gi M 32 1).toNatClampNeg)))) (enC_6 (c := 32) rfl) (Nat.le_of_ble_eq_true rfl) rfl inX6 (by decide) wf_X6_18 rfl dX6_sign_23 ?_
      refine x_aleni C (c := ((gi M 32 1).toNatClampNeg)) (v1 := (nI (lC (((gi M 32 1).toNatClampNeg))))) (enC_20n (c := ((gi M 32 1).toNatClampNeg)) (n := (lC (((gi M 32 1).toNatClampNeg)))) hd3 rfl) (kC_lt hd3 (by decide)) rfl rfl dX6_sign_26 ?_
      refine x_icmp_ge C (tgt := 42) dX6_sign_27 (by decide) (fun hq4 => ?_) (fun hq4 => ?_)
      · replace h := x_ift hq4 h
        refine x_iconst C (v1 := (-1)) dX6_sign_42 (by decide) ?_
        exact x_iret C dX6_sign_43 ⟨_, rfl, h⟩
      · replace h := x_iff hq4 h
        refine x_aload_n C 0 rfl rfl dX6_sign_30 ?_
        obtain ⟨hd5, h⟩ := h
        refine x_get C (c := 32) (ci := 6) (k1 := 1) (v1 := .ref (ga g (((gi M 32 1).toNatClampNeg)))) (enC_6 (c := 32) rfl) (Nat.le_of_ble_eq_true rfl) rfl inX6 (by decide) wf_X6_18 rfl dX6_sign_31 ?_
        refine x_aload_n C 0 rfl rfl dX6_sign_34 ?_
        refine x_get C (c := 32) (ci := 6) (k1 := 3) (v1 := .int (gi M 32 3)) (enC_6 (c := 32) rfl) (Nat.le_of_ble_eq_true rfl) rfl inX6 (by decide) wf_X6_26 rfl dX6_sign_35 ?_
        obtain ⟨hi6, h⟩ := h
        refine x_iald C 0 (c := ((gi M 32 1).toNatClampNeg)) (enC_20n (c := ((gi M 32 1).toNatClampNeg)) (n := (lC (((gi M 32 1).toNatClampNeg)))) hd5 rfl) (kC_lt hd5 (by decide)) rfl hi6 dX6_sign_38 ?_
        refine x_goto C (tgt := 43) dX6_sign_39 (by decide) ?_
        exact x_iret C dX6_sign_43 ⟨_, rfl, h⟩
set_option maxHeartbeats 4000000 in
set_option maxRecDepth 100000 in
theorem tX6_placeIn {g : xG} (hg : x_inj (WC g))  (l : Launch) (o0 : Nat) (M : xMem) (post : Int32 → xMem → Prop) (ho0 : o0 < 7) (h : wX6_placeIn o0 M post) : xMet (WC g) l yX6_placeIn cX6_placeIn 2 (some .int) (rm_X6_placeIn) [.ref (ga g 32), .ref (gK g o0)] M (pI post) := by
  refine x_enter (own := RX6) (L0 := [(0, .ref (ga g 32)), (1, .ref (gK g o0))]) (by decide +kernel) rfl hg (x_stC g) (Nat.le_of_ble_eq_true rfl) rfl (fun x hl C => ?_)
  unfold wX6_placeIn at h
  refine x_aload_n C 0 rfl rfl dX6_placeIn_0 ?_
  refine x_callV C (st := []) (As := []) (c := 32) (ci := 6) (enC_6 (c := 32) rfl) (Nat.le_of_ble_eq_true rfl) rfl (tX6_sign hg _  _ _  h) wm_X6_74 wi_X6_sign wv_X6_sign wz_X6 wc_X6_sign rfl yd_X6_sign rfl ⟨rfl, rfl⟩ ⟨Nat.le_of_ble_eq_true rfl, Nat.le_of_ble_eq_true rfl⟩ (Nat.le_of_ble_eq_true rfl) rfl dX6_placeIn_1 (x_ki (fun r2 M1 h => ?_))
  refine x_if_ge C (tgt := 11) dX6_placeIn_4 (by decide) (fun hq3 => ?_) (fun hq3 => ?_)
  · replace h := x_ift hq3 h
    refine x_aload_n C 1 rfl rfl dX6_placeIn_11 ?_
    refine x_aload_n C 0 rfl rfl dX6_placeIn_12 ?_
    refine x_callV C (st := [.ref (gK g o0)]) (As := []) (c := 32) (ci := 6) (enC_6 (c := 32) rfl) (Nat.le_of_ble_eq_true rfl) rfl (tX6_sign hg _  _ _  h) wm_X6_74 wi_X6_sign wv_X6_sign wz_X6 wc_X6_sign rfl yd_X6_sign rfl ⟨rfl, rfl⟩ ⟨Nat.le_of_ble_eq_true rfl, Nat.le_of_ble_eq_true rfl⟩ (Nat.le_of_ble_eq_true rfl) rfl dX6_placeIn_13 (x_ki (fun r5 M4 h => ?_))
    refine x_i2c C dX6_placeIn_16 ?_
    refine x_indexOf hg C (i := o0) ho0 ⟨Nat.le_of_ble_eq_true rfl, Nat.le_of_ble_eq_true rfl⟩ (Nat.le_of_ble_eq_true rfl) wm_X6_116 dX6_placeIn_17 ?_
    exact x_iret C dX6_placeIn_20 ⟨_, rfl, h⟩
  · replace h := x_iff hq3 h
    refine x_iconst C (v1 := (-1)) dX6_placeIn_7 (by decide) ?_
    refine x_goto C (tgt := 20) dX6_placeIn_8 (by decide) ?_
    exact x_iret C dX6_placeIn_20 ⟨_, rfl, h⟩
set_option maxHeartbeats 4000000 in
set_option maxRecDepth 100000 in
theorem tX5_addStep {g : xG} (hg : x_inj (WC g))  (l : Launch) (o : Nat) (a0 : Int32) (a1 : Int32) (M : xMem) (post : xMem → Prop) (ho : kC o = 5) (h : wX5_addStep o a0 a1 M post) : xMet (WC g) l yX5_addStep cX5_addStep 3 none (rm_X5_addStep) [.ref (ga g o), .int a0, .int a1] M (pV post) := by
  refine x_enter (own := RX5) (L0 := [(0, .ref (ga g o)), (1, .int a0), (2, .int a1)]) (by decide +kernel) rfl hg (x_stC g) (Nat.le_of_ble_eq_true rfl) rfl (fun x hl C => ?_)
  unfold wX5_addStep at h
  refine x_aload_n C 0 rfl rfl dX5_addStep_0 ?_
  refine x_get C (c := o) (ci := 5) (k1 := 5) (v1 := .int (gi M o 5)) (enC_5 (c := o) ho) (kC_lt ho (by decide)) rfl inX5 (by decide) wf_X5_28 rfl dX5_addStep_1 ?_
  refine x_sipush C (v1 := 240) dX5_addStep_4 (by decide) ?_
  refine x_icmp_ge C (tgt := 34) dX5_addStep_7 (by decide) (fun hq1 => ?_) (fun hq1 => ?_)
  · replace h := x_ift hq1 h
    exact x_vret C dX5_addStep_34 ⟨rfl, h⟩
  · replace h := x_iff hq1 h
    refine x_aload_n C 0 rfl rfl dX5_addStep_10 ?_
    refine x_get C (c := o) (ci := 5) (k1 := 6) (v1 := .ref (ga g ((o + 5)))) (enC_5 (c := o) ho) (kC_lt ho (by decide)) rfl inX5 (by decide) wf_X5_31 rfl dX5_addStep_11 ?_
    refine x_aload_n C 0 rfl rfl dX5_addStep_14 ?_
    refine x_get C (c := o) (ci := 5) (k1 := 5) (v1 := .int (gi M o 5)) (enC_5 (c := o) ho) (kC_lt ho (by decide)) rfl inX5 (by decide) wf_X5_28 rfl dX5_addStep_15 ?_
    refine x_iload_n C 2 rfl rfl dX5_addStep_18 ?_
    refine x_iconst C (v1 := 4) dX5_addStep_19 (by decide) ?_
    refine x_ishl C dX5_addStep_20 ?_
    refine x_iload_n C 1 rfl rfl dX5_addStep_21 ?_
    refine x_ior C dX5_addStep_22 ?_
    obtain ⟨hi2, h⟩ := h
    refine x_iast C 0 (c := (o + 5)) (enC_20n (c := (o + 5)) (n := 240) (krX5_5 ho) (lrX5_5 ho)) (kC_lt (krX5_5 ho) (by decide)) rfl hi2 dX5_addStep_23 ?_
    refine x_nmM (fun M3 eM3 => ?_)
    replace h := h M3 eM3
    refine x_aload_n C 0 rfl rfl dX5_addStep_24 ?_
    refine x_dup C rfl dX5_addStep_25 ?_
    refine x_get C (c := o) (ci := 5) (k1 := 5) (v1 := .int (gi M3 o 5)) (enC_5 (c := o) ho) (kC_lt ho (by decide)) rfl inX5 (by decide) wf_X5_28 rfl dX5_addStep_26 ?_
    refine x_iconst C (v1 := 1) dX5_addStep_29 (by decide) ?_
    refine x_iadd C dX5_addStep_30 ?_
    refine x_put C (c := o) (ci := 5) (k1 := 5) (u1 := ((gi M3 o 5) + 1)) (v1 := .int ((gi M3 o 5) + 1)) (ty := .int) (enC_5 (c := o) ho) (kC_lt ho (by decide)) rfl inX5 (by decide) (stX5_5 _ _ _) tyX5 tyX5_ok nmX5 wf_X5_28 rfl rfl rfl rfl (Nat.le_of_ble_eq_true rfl) dX5_addStep_31 ?_
    refine x_nmM (fun M4 eM4 => ?_)
    replace h := h M4 eM4
    exact x_vret C dX5_addStep_34 ⟨rfl, h⟩
set_option maxHeartbeats 4000000 in
set_option maxRecDepth 100000 in
theorem tX6_refuse {g : xG} (hg : x_inj (WC g))  (l : Launch) (a0 : Int32) (M : xMem) (post : xMem → Prop)  (h : wX6_refuse a0 M post) : xMet (WC g) l yX6_refuse cX6_refuse 2 none (rm_X6_refuse) [.ref (ga g 32), .int a0] M (pV post) := by
  refine x_enter (own := RX6) (L0 := [(0, .ref (ga g 32)), (1, .int a0)]) (by decide +kernel) rfl hg (x_stC g) (Nat.le_of_ble_eq_true rfl) rfl (fun x hl C => ?_)
  unfold wX6_refuse at h
  refine x_aload_n C 0 rfl rfl dX6_refuse_0 ?_
  refine x_get C (c := 32) (ci := 6) (k1 := 4) (v1 := .int (gi M 32 4)) (enC_6 (c := 32) rfl) (Nat.le_of_ble_eq_true rfl) rfl inX6 (by decide) wf_X6_29 rfl dX6_refuse_1 ?_
  refine x_if_ne C (tgt := 21) dX6_refuse_4 (by decide) (fun hq1 => ?_) (fun hq1 => ?_)
  · replace h := x_iff hq1 h
    exact x_vret C dX6_refuse_21 ⟨rfl, h⟩
  · replace h := x_ift hq1 h
    refine x_aload_n C 0 rfl rfl dX6_refuse_7 ?_
    refine x_sipush C (v1 := (-1000)) dX6_refuse_8 (by decide) ?_
    refine x_iload_n C 1 rfl rfl dX6_refuse_11 ?_
    refine x_imul C dX6_refuse_12 ?_
    refine x_aload_n C 0 rfl rfl dX6_refuse_13 ?_
    refine x_get C (c := 32) (ci := 6) (k1 := 3) (v1 := .int (gi M 32 3)) (enC_6 (c := 32) rfl) (Nat.le_of_ble_eq_true rfl) rfl inX6 (by decide) wf_X6_26 rfl dX6_refuse_14 ?_
    refine x_isub C dX6_refuse_17 ?_
    refine x_put C (c := 32) (ci := 6) (k1 := 4) (u1 := (((-1000) * a0) - (gi M 32 3))) (v1 := .int (((-1000) * a0) - (gi M 32 3))) (ty := .int) (enC_6 (c := 32) rfl) (Nat.le_of_ble_eq_true rfl) rfl inX6 (by decide) (stX6_4 _ _ _) tyX6 tyX6_ok nmX6 wf_X6_29 rfl rfl rfl rfl (Nat.le_of_ble_eq_true rfl) dX6_refuse_18 ?_
    refine x_nmM (fun M2 eM2 => ?_)
    replace h := h M2 eM2
    exact x_vret C dX6_refuse_21 ⟨rfl, h⟩
set_option maxHeartbeats 4000000 in
set_option maxRecDepth 100000 in
theorem tX6_openAt_11 {g : xG} (hg : x_inj (WC g))  {x : xCx}   {post : xMem → Prop} (C : xOk (WC g) x cX6_openAt RX6 2 none (rm_X6_openAt) (pV post))    (M : xMem)  (h : wX6_openAt_11 post  M) : xW (WC g) x 2 11 [(0, .ref (ga g 32))] [] M := by
  unfold wX6_openAt_11 at h
  refine x_aload_n C 0 rfl rfl dX6_openAt_11 ?_
  refine x_dup C rfl dX6_openAt_12 ?_
  refine x_get C (c := 32) (ci := 6) (k1 := 3) (v1 := .int (gi M 32 3)) (enC_6 (c := 32) rfl) (Nat.le_of_ble_eq_true rfl) rfl inX6 (by decide) wf_X6_26 rfl dX6_openAt_13 ?_
  refine x_iconst C (v1 := 1) dX6_openAt_16 (by decide) ?_
  refine x_iadd C dX6_openAt_17 ?_
  refine x_put C (c := 32) (ci := 6) (k1 := 3) (u1 := ((gi M 32 3) + 1)) (v1 := .int ((gi M 32 3) + 1)) (ty := .int) (enC_6 (c := 32) rfl) (Nat.le_of_ble_eq_true rfl) rfl inX6 (by decide) (stX6_3 _ _ _) tyX6 tyX6_ok nmX6 wf_X6_26 rfl rfl rfl rfl (Nat.le_of_ble_eq_true rfl) dX6_openAt_18 ?_
  refine x_nmM (fun M1 eM1 => ?_)
  replace h := h M1 eM1
  exact x_vret C dX6_openAt_21 ⟨rfl, h⟩
set_option maxHeartbeats 4000000 in
set_option maxRecDepth 100000 in
theorem tX6_openAt {g : xG} (hg : x_inj (WC g))  (l : Launch) (a0 : Int32) (M : xMem) (post : xMem → Prop)  (h : wX6_openAt a0 M post) : xMet (WC g) l yX6_openAt cX6_openAt 2 none (rm_X6_openAt) [.ref (ga g 32), .int a0] M (pV post) := by
  refine x_enter (own := RX6) (L0 := [(0, .ref (ga g 32)), (1, .int a0)]) (by decide +kernel) rfl hg (x_stC g) (Nat.le_of_ble_eq_true rfl) rfl (fun x hl C => ?_)
  unfold wX6_openAt at h
  refine x_iload_n C 1 rfl rfl dX6_openAt_0 ?_
  refine x_bipush C (v1 := 6) dX6_openAt_1 (by decide) ?_
  refine x_icmp_lt C (tgt := 11) dX6_openAt_3 (by decide) (fun hq1 => ?_) (fun hq1 => ?_)
  · replace h := x_ift hq1 h
    refine x_loc (L' := [(0, .ref (ga g 32))]) [0] rfl ?_
    exact tX6_openAt_11 hg  C   _  h
  · replace h := x_iff hq1 h
    refine x_aload_n C 0 rfl rfl dX6_openAt_6 ?_
    refine x_iconst C (v1 := 5) dX6_openAt_7 (by decide) ?_
    refine x_callV C (st := []) (As := [.int 5]) (c := 32) (ci := 6) (enC_6 (c := 32) rfl) (Nat.le_of_ble_eq_true rfl) rfl (tX6_refuse hg _ _ _ _  h) wm_X6_57 wi_X6_refuse wv_X6_refuse wz_X6 wc_X6_refuse rfl yd_X6_refuse rfl ⟨rfl, rfl⟩ ⟨Nat.le_of_ble_eq_true rfl, Nat.le_of_ble_eq_true rfl⟩ (Nat.le_of_ble_eq_true rfl) rfl dX6_openAt_8 (x_kv (fun M2 h => ?_))
    refine x_loc (L' := [(0, .ref (ga g 32))]) [0] rfl ?_
    exact tX6_openAt_11 hg  C   _  h
set_option maxHeartbeats 4000000 in
set_option maxRecDepth 100000 in
theorem tX5_leapHere {g : xG} (hg : x_inj (WC g))  (l : Launch) (o : Nat) (a0 : Int32) (M : xMem) (post : xMem → Prop) (ho : kC o = 5) (h : wX5_leapHere o a0 M post) : xMet (WC g) l yX5_leapHere cX5_leapHere 2 none (rm_X5_leapHere) [.ref (ga g o), .int a0] M (pV post) := by
  refine x_enter (own := RX5) (L0 := [(0, .ref (ga g o)), (1, .int a0)]) (by decide +kernel) rfl hg (x_stC g) (Nat.le_of_ble_eq_true rfl) rfl (fun x hl C => ?_)
  unfold wX5_leapHere at h
  refine x_iload_n C 1 rfl rfl dX5_leapHere_0 ?_
  refine x_if_lt C (tgt := 26) dX5_leapHere_1 (by decide) (fun hq1 => ?_) (fun hq1 => ?_)
  · replace h := x_ift hq1 h
    exact x_vret C dX5_leapHere_26 ⟨rfl, h⟩
  · replace h := x_iff hq1 h
    refine x_iload_n C 1 rfl rfl dX5_leapHere_4 ?_
    refine x_sipush C (v1 := 240) dX5_leapHere_5 (by decide) ?_
    refine x_icmp_ge C (tgt := 26) dX5_leapHere_8 (by decide) (fun hq2 => ?_) (fun hq2 => ?_)
    · replace h := x_ift hq2 h
      exact x_vret C dX5_leapHere_26 ⟨rfl, h⟩
    · replace h := x_iff hq2 h
      refine x_aload_n C 0 rfl rfl dX5_leapHere_11 ?_
      refine x_get C (c := o) (ci := 5) (k1 := 6) (v1 := .ref (ga g ((o + 5)))) (enC_5 (c := o) ho) (kC_lt ho (by decide)) rfl inX5 (by decide) wf_X5_31 rfl dX5_leapHere_12 ?_
      refine x_iload_n C 1 rfl rfl dX5_leapHere_15 ?_
      refine x_dup2 C rfl rfl dX5_leapHere_16 ?_
      obtain ⟨hi3, h⟩ := h
      refine x_iald C 0 (c := (o + 5)) (enC_20n (c := (o + 5)) (n := 240) (krX5_5 ho) (lrX5_5 ho)) (kC_lt (krX5_5 ho) (by decide)) rfl hi3 dX5_leapHere_17 ?_
      refine x_aload_n C 0 rfl rfl dX5_leapHere_18 ?_
      refine x_get C (c := o) (ci := 5) (k1 := 5) (v1 := .int (gi M o 5)) (enC_5 (c := o) ho) (kC_lt ho (by decide)) rfl inX5 (by decide) wf_X5_28 rfl dX5_leapHere_19 ?_
      refine x_iconst C (v1 := 4) dX5_leapHere_22 (by decide) ?_
      refine x_ishl C dX5_leapHere_23 ?_
      refine x_ior C dX5_leapHere_24 ?_
      obtain ⟨hi4, h⟩ := h
      refine x_iast C 0 (c := (o + 5)) (enC_20n (c := (o + 5)) (n := 240) (krX5_5 ho) (lrX5_5 ho)) (kC_lt (krX5_5 ho) (by decide)) rfl hi4 dX5_leapHere_25 ?_
      refine x_nmM (fun M5 eM5 => ?_)
      replace h := h M5 eM5
      exact x_vret C dX5_leapHere_26 ⟨rfl, h⟩
set_option maxHeartbeats 4000000 in
set_option maxRecDepth 100000 in
theorem tX6_readPart_7 {g : xG} (hg : x_inj (WC g)) (d : Nat) {rec : Int32 → xMem → (xMem → Prop) → Prop} (hrec : ∀ (l : Launch) (a0 : Int32) (M : xMem) (post : xMem → Prop), rec a0 M post → xMet (WC g) l yX6_readTest cX6_readTest 3 none (rm_X6_readTest d) [.ref (ga g 32), .int a0] M (pV post)) {x : xCx}   {post : xMem → Prop} (C : xOk (WC g) x cX6_readPart RX6 4 none (rm_X6_readPart d) (pV post))   : ∀ (n : Nat) (x1 : Int32) (x2 : Int32) (M : xMem), wX6_readPart_7 rec post n x1 x2 M → xW (WC g) x 4 7 [(0, .ref (ga g 32)), (1, .int x1), (2, .int x2)] [] M := by
  intro n
  induction n with
  | zero =>
    intro x1 x2 M  h
    exact h.elim
  | succ n ih =>
    intro x1 x2 M  h
    rw [wX6_readPart_7] at h
    refine x_iload_n C 2 rfl rfl dX6_readPart_7 ?_
    refine x_sipush C (v1 := 240) dX6_readPart_8 (by decide) ?_
    refine x_icmp_ge C (tgt := 76) dX6_readPart_11 (by decide) (fun hq1 => ?_) (fun hq1 => ?_)
    · replace h := x_ift hq1 h
      exact x_vret C dX6_readPart_76 ⟨rfl, h⟩
    · replace h := x_iff hq1 h
      refine x_aload_n C 0 rfl rfl dX6_readPart_14 ?_
      refine x_get C (c := 32) (ci := 6) (k1 := 4) (v1 := .int (gi M 32 4)) (enC_6 (c := 32) rfl) (Nat.le_of_ble_eq_true rfl) rfl inX6 (by decide) wf_X6_29 rfl dX6_readPart_15 ?_
      refine x_if_ne C (tgt := 76) dX6_readPart_18 (by decide) (fun hq2 => ?_) (fun hq2 => ?_)
      · replace h := x_iff hq2 h
        exact x_vret C dX6_readPart_76 ⟨rfl, h⟩
      · replace h := x_ift hq2 h
        refine x_aload_n C 0 rfl rfl dX6_readPart_21 ?_
        refine x_callV C (st := []) (As := []) (c := 32) (ci := 6) (enC_6 (c := 32) rfl) (Nat.le_of_ble_eq_true rfl) rfl (tX6_sign hg _  _ _  h) wm_X6_74 wi_X6_sign wv_X6_sign wz_X6 wc_X6_sign rfl yd_X6_sign rfl ⟨rfl, rfl⟩ ⟨Nat.le_of_ble_eq_true rfl, Nat.le_of_ble_eq_true rfl⟩ (Nat.le_of_ble_eq_true rfl) rfl dX6_readPart_22 (x_ki (fun r4 M3 h => ?_))
        refine x_bipush C (v1 := 38) dX6_readPart_25 (by decide) ?_
        refine x_icmp_ne C (tgt := 76) dX6_readPart_27 (by decide) (fun hq5 => ?_) (fun hq5 => ?_)
        · replace h := x_iff hq5 h
          exact x_vret C dX6_readPart_76 ⟨rfl, h⟩
        · replace h := x_ift hq5 h
          refine x_aload_n C 0 rfl rfl dX6_readPart_30 ?_
          refine x_get C (c := 32) (ci := 6) (k1 := 0) (v1 := .ref (ga g 33)) (enC_6 (c := 32) rfl) (Nat.le_of_ble_eq_true rfl) rfl inX6 (by decide) wf_X6_12 rfl dX6_readPart_31 ?_
          refine x_getN C (c := 33) (ci := 5) (k1 := 5) (v1 := .int (gi M3 33 5)) (enC_5 (c := 33) rfl) (Nat.le_of_ble_eq_true rfl) rfl inX5 (by decide) wfn_X6_60 rfl dX6_readPart_34 ?_
          refine x_nm (fun v6 ev6 => ?_)
          replace h := h v6 ev6
          refine x_istore_n C (L' := [(3, .int v6), (0, .ref (ga g 32)), (1, .int x1), (2, .int x2)]) rfl rfl (Nat.le_of_ble_eq_true rfl) dX6_readPart_37 ?_
          refine x_aload_n C 1 rfl rfl dX6_readPart_38 ?_
          refine x_get C (c := 32) (ci := 6) (k1 := 0) (v1 := .ref (ga g 33)) (enC_6 (c := 32) rfl) (Nat.le_of_ble_eq_true rfl) rfl inX6 (by decide) wf_X6_12 rfl dX6_readPart_39 ?_
          refine x_iconst C (v1 := 3) dX6_readPart_42 (by decide) ?_
          refine x_iconst C (v1 := 0) dX6_readPart_43 (by decide) ?_
          refine x_callVN C (st := []) (As := [.int 3, .int 0]) (c := 33) (ci := 5) (enC_5 (c := 33) rfl) (Nat.le_of_ble_eq_true rfl) rfl (tX5_addStep hg _ _ _ _ _ _ rfl h) wmn_X6_78 wi_X5_addStep wv_X5_addStep wz_X5 wc_X5_addStep yd_X5_addStep rfl ⟨rfl, rfl⟩ ⟨Nat.le_of_ble_eq_true rfl, Nat.le_of_ble_eq_true rfl⟩ (Nat.le_of_ble_eq_true rfl) rfl dX6_readPart_44 (x_kv (fun M7 h => ?_))
          refine x_aload_n C 1 rfl rfl dX6_readPart_47 ?_
          refine x_dup C rfl dX6_readPart_48 ?_
          refine x_get C (c := 32) (ci := 6) (k1 := 3) (v1 := .int (gi M7 32 3)) (enC_6 (c := 32) rfl) (Nat.le_of_ble_eq_true rfl) rfl inX6 (by decide) wf_X6_26 rfl dX6_readPart_49 ?_
          refine x_iconst C (v1 := 1) dX6_readPart_52 (by decide) ?_
          refine x_iadd C dX6_readPart_53 ?_
          refine x_put C (c := 32) (ci := 6) (k1 := 3) (u1 := ((gi M7 32 3) + 1)) (v1 := .int ((gi M7 32 3) + 1)) (ty := .int) (enC_6 (c := 32) rfl) (Nat.le_of_ble_eq_true rfl) rfl inX6 (by decide) (stX6_3 _ _ _) tyX6 tyX6_ok nmX6 wf_X6_26 rfl rfl rfl rfl (Nat.le_of_ble_eq_true rfl) dX6_readPart_54 ?_
          refine x_nmM (fun M8 eM8 => ?_)
          replace h := h M8 eM8
          refine x_aload_n C 1 rfl rfl dX6_readPart_57 ?_
          refine x_iload_n C 2 rfl rfl dX6_readPart_58 ?_
          refine x_callV C (st := []) (As := [.int x1]) (c := 32) (ci := 6) (enC_6 (c := 32) rfl) (Nat.le_of_ble_eq_true rfl) rfl (hrec _ _ _ _  h) wm_X6_85 wi_X6_readTest wv_X6_readTest wz_X6 wc_X6_readTest rfl yd_X6_readTest rfl ⟨rfl, rfl⟩ (by simp only [rm_X6_readPart, rm_X6_readTest]; omega) (Nat.le_of_ble_eq_true rfl) rfl dX6_readPart_59 (x_kv (fun M9 h => ?_))
          refine x_aload_n C 1 rfl rfl dX6_readPart_62 ?_
          refine x_get C (c := 32) (ci := 6) (k1 := 0) (v1 := .ref (ga g 33)) (enC_6 (c := 32) rfl) (Nat.le_of_ble_eq_true rfl) rfl inX6 (by decide) wf_X6_12 rfl dX6_readPart_63 ?_
          refine x_iload_n C 0 rfl rfl dX6_readPart_66 ?_
          refine x_callVN C (st := []) (As := [.int v6]) (c := 33) (ci := 5) (enC_5 (c := 33) rfl) (Nat.le_of_ble_eq_true rfl) rfl (tX5_leapHere hg _ _ _ _ _ rfl h) wmn_X6_82 wi_X5_leapHere wv_X5_leapHere wz_X5 wc_X5_leapHere yd_X5_leapHere rfl ⟨rfl, rfl⟩ ⟨Nat.le_of_ble_eq_true rfl, Nat.le_of_ble_eq_true rfl⟩ (Nat.le_of_ble_eq_true rfl) rfl dX6_readPart_67 (x_kv (fun M10 h => ?_))
          obtain ⟨v11, ev11⟩ : ∃ z : Int32, z = x2 + 1 := ⟨_, rfl⟩
          replace h := h v11 ev11
          refine x_iinc C 3 (v1 := v11) (L' := [(2, .int v11), (3, .int v6), (0, .ref (ga g 32)), (1, .int x1)]) rfl (by rw [ev11]; rfl) rfl (Nat.le_of_ble_eq_true rfl) dX6_readPart_70 ?_
          refine x_goto C (tgt := 7) dX6_readPart_73 (by decide) ?_
          refine x_loc (L' := [(0, .ref (ga g 32)), (1, .int x1), (2, .int v11)]) [2, 3, 0] rfl ?_
          exact ih _ _ _  h
set_option maxHeartbeats 4000000 in
set_option maxRecDepth 100000 in
theorem tX6_readPart {g : xG} (hg : x_inj (WC g)) (d : Nat) {rec : Int32 → xMem → (xMem → Prop) → Prop} (hrec : ∀ (l : Launch) (a0 : Int32) (M : xMem) (post : xMem → Prop), rec a0 M post → xMet (WC g) l yX6_readTest cX6_readTest 3 none (rm_X6_readTest d) [.ref (ga g 32), .int a0] M (pV post)) (l : Launch) (a0 : Int32) (M : xMem) (post : xMem → Prop)  (h : wX6_readPart rec a0 M post) : xMet (WC g) l yX6_readPart cX6_readPart 4 none (rm_X6_readPart d) [.ref (ga g 32), .int a0] M (pV post) := by
  refine x_enter (own := RX6) (L0 := [(0, .ref (ga g 32)), (1, .int a0)]) (by decide +kernel) rfl hg (x_stC g) (Nat.le_of_ble_eq_true rfl) rfl (fun x hl C => ?_)
  unfold wX6_readPart at h
  refine x_aload_n C 0 rfl rfl dX6_readPart_0 ?_
  refine x_iload_n C 1 rfl rfl dX6_readPart_1 ?_
  refine x_callV C (st := []) (As := [.int a0]) (c := 32) (ci := 6) (enC_6 (c := 32) rfl) (Nat.le_of_ble_eq_true rfl) rfl (hrec _ _ _ _  h) wm_X6_85 wi_X6_readTest wv_X6_readTest wz_X6 wc_X6_readTest rfl yd_X6_readTest rfl ⟨rfl, rfl⟩ (by simp only [rm_X6_readPart, rm_X6_readTest]; omega) (Nat.le_of_ble_eq_true rfl) rfl dX6_readPart_2 (x_kv (fun M1 h => ?_))
  refine x_iconst C (v1 := 0) dX6_readPart_5 (by decide) ?_
  refine x_istore_n C (L' := [(2, .int 0), (0, .ref (ga g 32)), (1, .int a0)]) rfl rfl (Nat.le_of_ble_eq_true rfl) dX6_readPart_6 ?_
  refine x_loc (L' := [(0, .ref (ga g 32)), (1, .int a0), (2, .int 0)]) [1, 2, 0] rfl ?_
  obtain ⟨n7, h⟩ := h
  exact tX6_readPart_7 hg d hrec C   _ _ _ _  h
set_option maxHeartbeats 4000000 in
set_option maxRecDepth 100000 in
theorem tX6_readCondition_7 {g : xG} (hg : x_inj (WC g)) (d : Nat) {rec : Int32 → xMem → (xMem → Prop) → Prop} (hrec : ∀ (l : Launch) (a0 : Int32) (M : xMem) (post : xMem → Prop), rec a0 M post → xMet (WC g) l yX6_readTest cX6_readTest 3 none (rm_X6_readTest d) [.ref (ga g 32), .int a0] M (pV post)) {x : xCx}   {post : xMem → Prop} (C : xOk (WC g) x cX6_readCondition RX6 4 none (rm_X6_readCondition d) (pV post))   : ∀ (n : Nat) (x1 : Int32) (x2 : Int32) (M : xMem), wX6_readCondition_7 rec post n x1 x2 M → xW (WC g) x 4 7 [(0, .ref (ga g 32)), (1, .int x1), (2, .int x2)] [] M := by
  intro n
  induction n with
  | zero =>
    intro x1 x2 M  h
    exact h.elim
  | succ n ih =>
    intro x1 x2 M  h
    rw [wX6_readCondition_7] at h
    refine x_iload_n C 2 rfl rfl dX6_readCondition_7 ?_
    refine x_sipush C (v1 := 240) dX6_readCondition_8 (by decide) ?_
    refine x_icmp_ge C (tgt := 76) dX6_readCondition_11 (by decide) (fun hq1 => ?_) (fun hq1 => ?_)
    · replace h := x_ift hq1 h
      exact x_vret C dX6_readCondition_76 ⟨rfl, h⟩
    · replace h := x_iff hq1 h
      refine x_aload_n C 0 rfl rfl dX6_readCondition_14 ?_
      refine x_get C (c := 32) (ci := 6) (k1 := 4) (v1 := .int (gi M 32 4)) (enC_6 (c := 32) rfl) (Nat.le_of_ble_eq_true rfl) rfl inX6 (by decide) wf_X6_29 rfl dX6_readCondition_15 ?_
      refine x_if_ne C (tgt := 76) dX6_readCondition_18 (by decide) (fun hq2 => ?_) (fun hq2 => ?_)
      · replace h := x_iff hq2 h
        exact x_vret C dX6_readCondition_76 ⟨rfl, h⟩
      · replace h := x_ift hq2 h
        refine x_aload_n C 0 rfl rfl dX6_readCondition_21 ?_
        refine x_callV C (st := []) (As := []) (c := 32) (ci := 6) (enC_6 (c := 32) rfl) (Nat.le_of_ble_eq_true rfl) rfl (tX6_sign hg _  _ _  h) wm_X6_74 wi_X6_sign wv_X6_sign wz_X6 wc_X6_sign rfl yd_X6_sign rfl ⟨rfl, rfl⟩ ⟨Nat.le_of_ble_eq_true rfl, Nat.le_of_ble_eq_true rfl⟩ (Nat.le_of_ble_eq_true rfl) rfl dX6_readCondition_22 (x_ki (fun r4 M3 h => ?_))
        refine x_bipush C (v1 := 124) dX6_readCondition_25 (by decide) ?_
        refine x_icmp_ne C (tgt := 76) dX6_readCondition_27 (by decide) (fun hq5 => ?_) (fun hq5 => ?_)
        · replace h := x_iff hq5 h
          exact x_vret C dX6_readCondition_76 ⟨rfl, h⟩
        · replace h := x_ift hq5 h
          refine x_aload_n C 0 rfl rfl dX6_readCondition_30 ?_
          refine x_get C (c := 32) (ci := 6) (k1 := 0) (v1 := .ref (ga g 33)) (enC_6 (c := 32) rfl) (Nat.le_of_ble_eq_true rfl) rfl inX6 (by decide) wf_X6_12 rfl dX6_readCondition_31 ?_
          refine x_getN C (c := 33) (ci := 5) (k1 := 5) (v1 := .int (gi M3 33 5)) (enC_5 (c := 33) rfl) (Nat.le_of_ble_eq_true rfl) rfl inX5 (by decide) wfn_X6_60 rfl dX6_readCondition_34 ?_
          refine x_nm (fun v6 ev6 => ?_)
          replace h := h v6 ev6
          refine x_istore_n C (L' := [(3, .int v6), (0, .ref (ga g 32)), (1, .int x1), (2, .int x2)]) rfl rfl (Nat.le_of_ble_eq_true rfl) dX6_readCondition_37 ?_
          refine x_aload_n C 1 rfl rfl dX6_readCondition_38 ?_
          refine x_get C (c := 32) (ci := 6) (k1 := 0) (v1 := .ref (ga g 33)) (enC_6 (c := 32) rfl) (Nat.le_of_ble_eq_true rfl) rfl inX6 (by decide) wf_X6_12 rfl dX6_readCondition_39 ?_
          refine x_iconst C (v1 := 4) dX6_readCondition_42 (by decide) ?_
          refine x_iconst C (v1 := 0) dX6_readCondition_43 (by decide) ?_
          refine x_callVN C (st := []) (As := [.int 4, .int 0]) (c := 33) (ci := 5) (enC_5 (c := 33) rfl) (Nat.le_of_ble_eq_true rfl) rfl (tX5_addStep hg _ _ _ _ _ _ rfl h) wmn_X6_78 wi_X5_addStep wv_X5_addStep wz_X5 wc_X5_addStep yd_X5_addStep rfl ⟨rfl, rfl⟩ ⟨Nat.le_of_ble_eq_true rfl, Nat.le_of_ble_eq_true rfl⟩ (Nat.le_of_ble_eq_true rfl) rfl dX6_readCondition_44 (x_kv (fun M7 h => ?_))
          refine x_aload_n C 1 rfl rfl dX6_readCondition_47 ?_
          refine x_dup C rfl dX6_readCondition_48 ?_
          refine x_get C (c := 32) (ci := 6) (k1 := 3) (v1 := .int (gi M7 32 3)) (enC_6 (c := 32) rfl) (Nat.le_of_ble_eq_true rfl) rfl inX6 (by decide) wf_X6_26 rfl dX6_readCondition_49 ?_
          refine x_iconst C (v1 := 1) dX6_readCondition_52 (by decide) ?_
          refine x_iadd C dX6_readCondition_53 ?_
          refine x_put C (c := 32) (ci := 6) (k1 := 3) (u1 := ((gi M7 32 3) + 1)) (v1 := .int ((gi M7 32 3) + 1)) (ty := .int) (enC_6 (c := 32) rfl) (Nat.le_of_ble_eq_true rfl) rfl inX6 (by decide) (stX6_3 _ _ _) tyX6 tyX6_ok nmX6 wf_X6_26 rfl rfl rfl rfl (Nat.le_of_ble_eq_true rfl) dX6_readCondition_54 ?_
          refine x_nmM (fun M8 eM8 => ?_)
          replace h := h M8 eM8
          refine x_aload_n C 1 rfl rfl dX6_readCondition_57 ?_
          refine x_iload_n C 2 rfl rfl dX6_readCondition_58 ?_
          refine x_callV C (st := []) (As := [.int x1]) (c := 32) (ci := 6) (enC_6 (c := 32) rfl) (Nat.le_of_ble_eq_true rfl) rfl (tX6_readPart hg d hrec _ _ _ _  h) wm_X6_71 wi_X6_readPart wv_X6_readPart wz_X6 wc_X6_readPart rfl yd_X6_readPart rfl ⟨rfl, rfl⟩ (by simp only [rm_X6_readCondition, rm_X6_readPart]; omega) (Nat.le_of_ble_eq_true rfl) rfl dX6_readCondition_59 (x_kv (fun M9 h => ?_))
          refine x_aload_n C 1 rfl rfl dX6_readCondition_62 ?_
          refine x_get C (c := 32) (ci := 6) (k1 := 0) (v1 := .ref (ga g 33)) (enC_6 (c := 32) rfl) (Nat.le_of_ble_eq_true rfl) rfl inX6 (by decide) wf_X6_12 rfl dX6_readCondition_63 ?_
          refine x_iload_n C 0 rfl rfl dX6_readCondition_66 ?_
          refine x_callVN C (st := []) (As := [.int v6]) (c := 33) (ci := 5) (enC_5 (c := 33) rfl) (Nat.le_of_ble_eq_true rfl) rfl (tX5_leapHere hg _ _ _ _ _ rfl h) wmn_X6_82 wi_X5_leapHere wv_X5_leapHere wz_X5 wc_X5_leapHere yd_X5_leapHere rfl ⟨rfl, rfl⟩ ⟨Nat.le_of_ble_eq_true rfl, Nat.le_of_ble_eq_true rfl⟩ (Nat.le_of_ble_eq_true rfl) rfl dX6_readCondition_67 (x_kv (fun M10 h => ?_))
          obtain ⟨v11, ev11⟩ : ∃ z : Int32, z = x2 + 1 := ⟨_, rfl⟩
          replace h := h v11 ev11
          refine x_iinc C 3 (v1 := v11) (L' := [(2, .int v11), (3, .int v6), (0, .ref (ga g 32)), (1, .int x1)]) rfl (by rw [ev11]; rfl) rfl (Nat.le_of_ble_eq_true rfl) dX6_readCondition_70 ?_
          refine x_goto C (tgt := 7) dX6_readCondition_73 (by decide) ?_
          refine x_loc (L' := [(0, .ref (ga g 32)), (1, .int x1), (2, .int v11)]) [2, 3, 0] rfl ?_
          exact ih _ _ _  h
set_option maxHeartbeats 4000000 in
set_option maxRecDepth 100000 in
theorem tX6_readCondition {g : xG} (hg : x_inj (WC g)) (d : Nat) {rec : Int32 → xMem → (xMem → Prop) → Prop} (hrec : ∀ (l : Launch) (a0 : Int32) (M : xMem) (post : xMem → Prop), rec a0 M post → xMet (WC g) l yX6_readTest cX6_readTest 3 none (rm_X6_readTest d) [.ref (ga g 32), .int a0] M (pV post)) (l : Launch) (a0 : Int32) (M : xMem) (post : xMem → Prop)  (h : wX6_readCondition rec a0 M post) : xMet (WC g) l yX6_readCondition cX6_readCondition 4 none (rm_X6_readCondition d) [.ref (ga g 32), .int a0] M (pV post) := by
  refine x_enter (own := RX6) (L0 := [(0, .ref (ga g 32)), (1, .int a0)]) (by decide +kernel) rfl hg (x_stC g) (Nat.le_of_ble_eq_true rfl) rfl (fun x hl C => ?_)
  unfold wX6_readCondition at h
  refine x_aload_n C 0 rfl rfl dX6_readCondition_0 ?_
  refine x_iload_n C 1 rfl rfl dX6_readCondition_1 ?_
  refine x_callV C (st := []) (As := [.int a0]) (c := 32) (ci := 6) (enC_6 (c := 32) rfl) (Nat.le_of_ble_eq_true rfl) rfl (tX6_readPart hg d hrec _ _ _ _  h) wm_X6_71 wi_X6_readPart wv_X6_readPart wz_X6 wc_X6_readPart rfl yd_X6_readPart rfl ⟨rfl, rfl⟩ (by simp only [rm_X6_readCondition, rm_X6_readPart]; omega) (Nat.le_of_ble_eq_true rfl) rfl dX6_readCondition_2 (x_kv (fun M1 h => ?_))
  refine x_iconst C (v1 := 0) dX6_readCondition_5 (by decide) ?_
  refine x_istore_n C (L' := [(2, .int 0), (0, .ref (ga g 32)), (1, .int a0)]) rfl rfl (Nat.le_of_ble_eq_true rfl) dX6_readCondition_6 ?_
  refine x_loc (L' := [(0, .ref (ga g 32)), (1, .int a0), (2, .int 0)]) [1, 2, 0] rfl ?_
  obtain ⟨n7, h⟩ := h
  exact tX6_readCondition_7 hg d hrec C   _ _ _ _  h
set_option maxHeartbeats 4000000 in
set_option maxRecDepth 100000 in
theorem tX6_isDigit {g : xG} (hg : x_inj (WC g))  (l : Launch)  (M : xMem) (post : Int32 → xMem → Prop)  (h : wX6_isDigit  M post) : xMet (WC g) l yX6_isDigit cX6_isDigit 1 (some .boolean) (rm_X6_isDigit) [.ref (ga g 32)] M (pI post) := by
  refine x_enter (own := RX6) (L0 := [(0, .ref (ga g 32))]) (by decide +kernel) rfl hg (x_stC g) (Nat.le_of_ble_eq_true rfl) rfl (fun x hl C => ?_)
  unfold wX6_isDigit at h
  refine x_aload_n C 0 rfl rfl dX6_isDigit_0 ?_
  refine x_callV C (st := []) (As := []) (c := 32) (ci := 6) (enC_6 (c := 32) rfl) (Nat.le_of_ble_eq_true rfl) rfl (tX6_sign hg _  _ _  h) wm_X6_74 wi_X6_sign wv_X6_sign wz_X6 wc_X6_sign rfl yd_X6_sign rfl ⟨rfl, rfl⟩ ⟨Nat.le_of_ble_eq_true rfl, Nat.le_of_ble_eq_true rfl⟩ (Nat.le_of_ble_eq_true rfl) rfl dX6_isDigit_1 (x_ki (fun r2 M1 h => ?_))
  refine x_bipush C (v1 := 48) dX6_isDigit_4 (by decide) ?_
  refine x_icmp_lt C (tgt := 22) dX6_isDigit_6 (by decide) (fun hq3 => ?_) (fun hq3 => ?_)
  · replace h := x_ift hq3 h
    refine x_iconst C (v1 := 0) dX6_isDigit_22 (by decide) ?_
    exact x_zret C rfl dX6_isDigit_23 ⟨_, rfl, h⟩
  · replace h := x_iff hq3 h
    refine x_aload_n C 0 rfl rfl dX6_isDigit_9 ?_
    refine x_callV C (st := []) (As := []) (c := 32) (ci := 6) (enC_6 (c := 32) rfl) (Nat.le_of_ble_eq_true rfl) rfl (tX6_sign hg _  _ _  h) wm_X6_74 wi_X6_sign wv_X6_sign wz_X6 wc_X6_sign rfl yd_X6_sign rfl ⟨rfl, rfl⟩ ⟨Nat.le_of_ble_eq_true rfl, Nat.le_of_ble_eq_true rfl⟩ (Nat.le_of_ble_eq_true rfl) rfl dX6_isDigit_10 (x_ki (fun r5 M4 h => ?_))
    refine x_bipush C (v1 := 57) dX6_isDigit_13 (by decide) ?_
    refine x_icmp_gt C (tgt := 22) dX6_isDigit_15 (by decide) (fun hq6 => ?_) (fun hq6 => ?_)
    · replace h := x_ift hq6 h
      refine x_iconst C (v1 := 0) dX6_isDigit_22 (by decide) ?_
      exact x_zret C rfl dX6_isDigit_23 ⟨_, rfl, h⟩
    · replace h := x_iff hq6 h
      refine x_iconst C (v1 := 1) dX6_isDigit_18 (by decide) ?_
      refine x_goto C (tgt := 23) dX6_isDigit_19 (by decide) ?_
      exact x_zret C rfl dX6_isDigit_23 ⟨_, rfl, h⟩
set_option maxHeartbeats 4000000 in
set_option maxRecDepth 100000 in
theorem tX6_readNumber_69 {g : xG} (hg : x_inj (WC g))  {x : xCx}   {post : xMem → Prop} (C : xOk (WC g) x cX6_readNumber RX6 3 none (rm_X6_readNumber) (pV post))   (x1 : Int32) (M : xMem)  (h : wX6_readNumber_69 post x1 M) : xW (WC g) x 3 69 [(0, .ref (ga g 32)), (1, .int x1)] [] M := by
  unfold wX6_readNumber_69 at h
  refine x_aload_n C 0 rfl rfl dX6_readNumber_69 ?_
  refine x_get C (c := 32) (ci := 6) (k1 := 0) (v1 := .ref (ga g 33)) (enC_6 (c := 32) rfl) (Nat.le_of_ble_eq_true rfl) rfl inX6 (by decide) wf_X6_12 rfl dX6_readNumber_70 ?_
  refine x_iconst C (v1 := 0) dX6_readNumber_73 (by decide) ?_
  refine x_iload_n C 1 rfl rfl dX6_readNumber_74 ?_
  refine x_callVN C (st := []) (As := [.int 0, .int x1]) (c := 33) (ci := 5) (enC_5 (c := 33) rfl) (Nat.le_of_ble_eq_true rfl) rfl (tX5_addStep hg _ _ _ _ _ _ rfl h) wmn_X6_78 wi_X5_addStep wv_X5_addStep wz_X5 wc_X5_addStep yd_X5_addStep rfl ⟨rfl, rfl⟩ ⟨Nat.le_of_ble_eq_true rfl, Nat.le_of_ble_eq_true rfl⟩ (Nat.le_of_ble_eq_true rfl) rfl dX6_readNumber_75 (x_kv (fun M1 h => ?_))
  exact x_vret C dX6_readNumber_78 ⟨rfl, h⟩
set_option maxHeartbeats 4000000 in
set_option maxRecDepth 100000 in
theorem tX6_readNumber_45 {g : xG} (hg : x_inj (WC g))  {x : xCx}   {post : xMem → Prop} (C : xOk (WC g) x cX6_readNumber RX6 3 none (rm_X6_readNumber) (pV post))   (x1 : Int32) (x2 : Int32) (M : xMem)  (h : wX6_readNumber_45 post x1 x2 M) : xW (WC g) x 3 45 [(0, .ref (ga g 32)), (1, .int x1), (2, .int x2)] [] M := by
  unfold wX6_readNumber_45 at h
  refine x_iload_n C 2 rfl rfl dX6_readNumber_45 ?_
  refine x_if_ne C (tgt := 57) dX6_readNumber_46 (by decide) (fun hq1 => ?_) (fun hq1 => ?_)
  · replace h := x_iff hq1 h
    refine x_aload_n C 0 rfl rfl dX6_readNumber_57 ?_
    refine x_callV C (st := []) (As := []) (c := 32) (ci := 6) (enC_6 (c := 32) rfl) (Nat.le_of_ble_eq_true rfl) rfl (tX6_isDigit hg _  _ _  h) wm_X6_112 wi_X6_isDigit wv_X6_isDigit wz_X6 wc_X6_isDigit rfl yd_X6_isDigit rfl ⟨rfl, rfl⟩ ⟨Nat.le_of_ble_eq_true rfl, Nat.le_of_ble_eq_true rfl⟩ (Nat.le_of_ble_eq_true rfl) rfl dX6_readNumber_58 (x_ki (fun r3 M2 h => ?_))
    refine x_if_eq C (tgt := 69) dX6_readNumber_61 (by decide) (fun hq4 => ?_) (fun hq4 => ?_)
    · replace h := x_ift hq4 h
      refine x_loc (L' := [(0, .ref (ga g 32)), (1, .int x1)]) [0, 1] rfl ?_
      exact tX6_readNumber_69 hg  C   _ _  h
    · replace h := x_iff hq4 h
      refine x_aload_n C 0 rfl rfl dX6_readNumber_64 ?_
      refine x_iconst C (v1 := 2) dX6_readNumber_65 (by decide) ?_
      refine x_callV C (st := []) (As := [.int 2]) (c := 32) (ci := 6) (enC_6 (c := 32) rfl) (Nat.le_of_ble_eq_true rfl) rfl (tX6_refuse hg _ _ _ _  h) wm_X6_57 wi_X6_refuse wv_X6_refuse wz_X6 wc_X6_refuse rfl yd_X6_refuse rfl ⟨rfl, rfl⟩ ⟨Nat.le_of_ble_eq_true rfl, Nat.le_of_ble_eq_true rfl⟩ (Nat.le_of_ble_eq_true rfl) rfl dX6_readNumber_66 (x_kv (fun M5 h => ?_))
      refine x_loc (L' := [(0, .ref (ga g 32)), (1, .int x1)]) [0, 1] rfl ?_
      exact tX6_readNumber_69 hg  C   _ _  h
  · replace h := x_ift hq1 h
    refine x_aload_n C 0 rfl rfl dX6_readNumber_49 ?_
    refine x_iconst C (v1 := 1) dX6_readNumber_50 (by decide) ?_
    refine x_callV C (st := []) (As := [.int 1]) (c := 32) (ci := 6) (enC_6 (c := 32) rfl) (Nat.le_of_ble_eq_true rfl) rfl (tX6_refuse hg _ _ _ _  h) wm_X6_57 wi_X6_refuse wv_X6_refuse wz_X6 wc_X6_refuse rfl yd_X6_refuse rfl ⟨rfl, rfl⟩ ⟨Nat.le_of_ble_eq_true rfl, Nat.le_of_ble_eq_true rfl⟩ (Nat.le_of_ble_eq_true rfl) rfl dX6_readNumber_51 (x_kv (fun M6 h => ?_))
    refine x_goto C (tgt := 69) dX6_readNumber_54 (by decide) ?_
    refine x_loc (L' := [(0, .ref (ga g 32)), (1, .int x1)]) [0, 1] rfl ?_
    exact tX6_readNumber_69 hg  C   _ _  h
set_option maxHeartbeats 4000000 in
set_option maxRecDepth 100000 in
theorem tX6_readNumber_4 {g : xG} (hg : x_inj (WC g))  {x : xCx}   {post : xMem → Prop} (C : xOk (WC g) x cX6_readNumber RX6 3 none (rm_X6_readNumber) (pV post))   : ∀ (n : Nat) (x1 : Int32) (x2 : Int32) (M : xMem), wX6_readNumber_4 post n x1 x2 M → xW (WC g) x 3 4 [(0, .ref (ga g 32)), (1, .int x1), (2, .int x2)] [] M := by
  intro n
  induction n with
  | zero =>
    intro x1 x2 M  h
    exact h.elim
  | succ n ih =>
    intro x1 x2 M  h
    rw [wX6_readNumber_4] at h
    refine x_iload_n C 2 rfl rfl dX6_readNumber_4 ?_
    refine x_iconst C (v1 := 5) dX6_readNumber_5 (by decide) ?_
    refine x_icmp_ge C (tgt := 45) dX6_readNumber_6 (by decide) (fun hq1 => ?_) (fun hq1 => ?_)
    · replace h := x_ift hq1 h
      exact tX6_readNumber_45 hg  C   _ _ _  h
    · replace h := x_iff hq1 h
      refine x_aload_n C 0 rfl rfl dX6_readNumber_9 ?_
      refine x_callV C (st := []) (As := []) (c := 32) (ci := 6) (enC_6 (c := 32) rfl) (Nat.le_of_ble_eq_true rfl) rfl (tX6_isDigit hg _  _ _  h) wm_X6_112 wi_X6_isDigit wv_X6_isDigit wz_X6 wc_X6_isDigit rfl yd_X6_isDigit rfl ⟨rfl, rfl⟩ ⟨Nat.le_of_ble_eq_true rfl, Nat.le_of_ble_eq_true rfl⟩ (Nat.le_of_ble_eq_true rfl) rfl dX6_readNumber_10 (x_ki (fun r3 M2 h => ?_))
      refine x_if_eq C (tgt := 45) dX6_readNumber_13 (by decide) (fun hq4 => ?_) (fun hq4 => ?_)
      · replace h := x_ift hq4 h
        exact tX6_readNumber_45 hg  C   _ _ _  h
      · replace h := x_iff hq4 h
        refine x_bipush C (v1 := 10) dX6_readNumber_16 (by decide) ?_
        refine x_iload_n C 1 rfl rfl dX6_readNumber_18 ?_
        refine x_imul C dX6_readNumber_19 ?_
        refine x_aload_n C 0 rfl rfl dX6_readNumber_20 ?_
        refine x_callV C (st := [.int (10 * x1)]) (As := []) (c := 32) (ci := 6) (enC_6 (c := 32) rfl) (Nat.le_of_ble_eq_true rfl) rfl (tX6_sign hg _  _ _  h) wm_X6_74 wi_X6_sign wv_X6_sign wz_X6 wc_X6_sign rfl yd_X6_sign rfl ⟨rfl, rfl⟩ ⟨Nat.le_of_ble_eq_true rfl, Nat.le_of_ble_eq_true rfl⟩ (Nat.le_of_ble_eq_true rfl) rfl dX6_readNumber_21 (x_ki (fun r6 M5 h => ?_))
        refine x_iadd C dX6_readNumber_24 ?_
        refine x_bipush C (v1 := 48) dX6_readNumber_25 (by decide) ?_
        refine x_isub C dX6_readNumber_27 ?_
        refine x_nm (fun v7 ev7 => ?_)
        replace h := h v7 ev7
        refine x_istore_n C (L' := [(1, .int v7), (0, .ref (ga g 32)), (2, .int x2)]) rfl rfl (Nat.le_of_ble_eq_true rfl) dX6_readNumber_28 ?_
        refine x_aload_n C 1 rfl rfl dX6_readNumber_29 ?_
        refine x_dup C rfl dX6_readNumber_30 ?_
        refine x_get C (c := 32) (ci := 6) (k1 := 3) (v1 := .int (gi M5 32 3)) (enC_6 (c := 32) rfl) (Nat.le_of_ble_eq_true rfl) rfl inX6 (by decide) wf_X6_26 rfl dX6_readNumber_31 ?_
        refine x_iconst C (v1 := 1) dX6_readNumber_34 (by decide) ?_
        refine x_iadd C dX6_readNumber_35 ?_
        refine x_put C (c := 32) (ci := 6) (k1 := 3) (u1 := ((gi M5 32 3) + 1)) (v1 := .int ((gi M5 32 3) + 1)) (ty := .int) (enC_6 (c := 32) rfl) (Nat.le_of_ble_eq_true rfl) rfl inX6 (by decide) (stX6_3 _ _ _) tyX6 tyX6_ok nmX6 wf_X6_26 rfl rfl rfl rfl (Nat.le_of_ble_eq_true rfl) dX6_readNumber_36 ?_
        refine x_nmM (fun M8 eM8 => ?_)
        replace h := h M8 eM8
        obtain ⟨v9, ev9⟩ : ∃ z : Int32, z = x2 + 1 := ⟨_, rfl⟩
        replace h := h v9 ev9
        refine x_iinc C 2 (v1 := v9) (L' := [(2, .int v9), (1, .int v7), (0, .ref (ga g 32))]) rfl (by rw [ev9]; rfl) rfl (Nat.le_of_ble_eq_true rfl) dX6_readNumber_39 ?_
        refine x_goto C (tgt := 4) dX6_readNumber_42 (by decide) ?_
        refine x_loc (L' := [(0, .ref (ga g 32)), (1, .int v7), (2, .int v9)]) [2, 1, 0] rfl ?_
        exact ih _ _ _  h
set_option maxHeartbeats 4000000 in
set_option maxRecDepth 100000 in
theorem tX6_readNumber {g : xG} (hg : x_inj (WC g))  (l : Launch)  (M : xMem) (post : xMem → Prop)  (h : wX6_readNumber  M post) : xMet (WC g) l yX6_readNumber cX6_readNumber 3 none (rm_X6_readNumber) [.ref (ga g 32)] M (pV post) := by
  refine x_enter (own := RX6) (L0 := [(0, .ref (ga g 32))]) (by decide +kernel) rfl hg (x_stC g) (Nat.le_of_ble_eq_true rfl) rfl (fun x hl C => ?_)
  unfold wX6_readNumber at h
  refine x_iconst C (v1 := 0) dX6_readNumber_0 (by decide) ?_
  refine x_istore_n C (L' := [(1, .int 0), (0, .ref (ga g 32))]) rfl rfl (Nat.le_of_ble_eq_true rfl) dX6_readNumber_1 ?_
  refine x_iconst C (v1 := 0) dX6_readNumber_2 (by decide) ?_
  refine x_istore_n C (L' := [(2, .int 0), (1, .int 0), (0, .ref (ga g 32))]) rfl rfl (Nat.le_of_ble_eq_true rfl) dX6_readNumber_3 ?_
  refine x_loc (L' := [(0, .ref (ga g 32)), (1, .int 0), (2, .int 0)]) [2, 1, 0] rfl ?_
  obtain ⟨n4, h⟩ := h
  exact tX6_readNumber_4 hg  C   _ _ _ _  h
set_option maxHeartbeats 4000000 in
set_option maxRecDepth 100000 in
theorem tX6_take_13 {g : xG} (hg : x_inj (WC g))  {x : xCx}   {post : xMem → Prop} (C : xOk (WC g) x cX6_take RX6 2 none (rm_X6_take) (pV post))    (M : xMem)  (h : wX6_take_13 post  M) : xW (WC g) x 2 13 [(0, .ref (ga g 32))] [] M := by
  unfold wX6_take_13 at h
  refine x_aload_n C 0 rfl rfl dX6_take_13 ?_
  refine x_dup C rfl dX6_take_14 ?_
  refine x_get C (c := 32) (ci := 6) (k1 := 3) (v1 := .int (gi M 32 3)) (enC_6 (c := 32) rfl) (Nat.le_of_ble_eq_true rfl) rfl inX6 (by decide) wf_X6_26 rfl dX6_take_15 ?_
  refine x_iconst C (v1 := 1) dX6_take_18 (by decide) ?_
  refine x_iadd C dX6_take_19 ?_
  refine x_put C (c := 32) (ci := 6) (k1 := 3) (u1 := ((gi M 32 3) + 1)) (v1 := .int ((gi M 32 3) + 1)) (ty := .int) (enC_6 (c := 32) rfl) (Nat.le_of_ble_eq_true rfl) rfl inX6 (by decide) (stX6_3 _ _ _) tyX6 tyX6_ok nmX6 wf_X6_26 rfl rfl rfl rfl (Nat.le_of_ble_eq_true rfl) dX6_take_20 ?_
  refine x_nmM (fun M1 eM1 => ?_)
  replace h := h M1 eM1
  exact x_vret C dX6_take_23 ⟨rfl, h⟩
set_option maxHeartbeats 4000000 in
set_option maxRecDepth 100000 in
theorem tX6_take {g : xG} (hg : x_inj (WC g))  (l : Launch) (a0 : Int32) (M : xMem) (post : xMem → Prop)  (h : wX6_take a0 M post) : xMet (WC g) l yX6_take cX6_take 2 none (rm_X6_take) [.ref (ga g 32), .int a0] M (pV post) := by
  refine x_enter (own := RX6) (L0 := [(0, .ref (ga g 32)), (1, .int a0)]) (by decide +kernel) rfl hg (x_stC g) (Nat.le_of_ble_eq_true rfl) rfl (fun x hl C => ?_)
  unfold wX6_take at h
  refine x_aload_n C 0 rfl rfl dX6_take_0 ?_
  refine x_callV C (st := []) (As := []) (c := 32) (ci := 6) (enC_6 (c := 32) rfl) (Nat.le_of_ble_eq_true rfl) rfl (tX6_sign hg _  _ _  h) wm_X6_74 wi_X6_sign wv_X6_sign wz_X6 wc_X6_sign rfl yd_X6_sign rfl ⟨rfl, rfl⟩ ⟨Nat.le_of_ble_eq_true rfl, Nat.le_of_ble_eq_true rfl⟩ (Nat.le_of_ble_eq_true rfl) rfl dX6_take_1 (x_ki (fun r2 M1 h => ?_))
  refine x_iload_n C 1 rfl rfl dX6_take_4 ?_
  refine x_icmp_eq C (tgt := 13) dX6_take_5 (by decide) (fun hq3 => ?_) (fun hq3 => ?_)
  · replace h := x_ift hq3 h
    refine x_loc (L' := [(0, .ref (ga g 32))]) [0] rfl ?_
    exact tX6_take_13 hg  C   _  h
  · replace h := x_iff hq3 h
    refine x_aload_n C 0 rfl rfl dX6_take_8 ?_
    refine x_iconst C (v1 := 1) dX6_take_9 (by decide) ?_
    refine x_callV C (st := []) (As := [.int 1]) (c := 32) (ci := 6) (enC_6 (c := 32) rfl) (Nat.le_of_ble_eq_true rfl) rfl (tX6_refuse hg _ _ _ _  h) wm_X6_57 wi_X6_refuse wv_X6_refuse wz_X6 wc_X6_refuse rfl yd_X6_refuse rfl ⟨rfl, rfl⟩ ⟨Nat.le_of_ble_eq_true rfl, Nat.le_of_ble_eq_true rfl⟩ (Nat.le_of_ble_eq_true rfl) rfl dX6_take_10 (x_kv (fun M4 h => ?_))
    refine x_loc (L' := [(0, .ref (ga g 32))]) [0] rfl ?_
    exact tX6_take_13 hg  C   _  h
set_option maxHeartbeats 4000000 in
set_option maxRecDepth 100000 in
theorem tX6_readFactor {g : xG} (hg : x_inj (WC g)) (d : Nat) {rec : Int32 → xMem → (xMem → Prop) → Prop} (hrec : ∀ (l : Launch) (a0 : Int32) (M : xMem) (post : xMem → Prop), rec a0 M post → xMet (WC g) l yX6_readSum cX6_readSum 4 none (rm_X6_readSum d) [.ref (ga g 32), .int a0] M (pV post)) (l : Launch) (a0 : Int32) (M : xMem) (post : xMem → Prop)  (h : wX6_readFactor rec a0 M post) : xMet (WC g) l yX6_readFactor cX6_readFactor 3 none (rm_X6_readFactor d) [.ref (ga g 32), .int a0] M (pV post) := by
  refine x_enter (own := RX6) (L0 := [(0, .ref (ga g 32)), (1, .int a0)]) (by decide +kernel) rfl hg (x_stC g) (Nat.le_of_ble_eq_true rfl) rfl (fun x hl C => ?_)
  unfold wX6_readFactor at h
  refine x_aload_n C 0 rfl rfl dX6_readFactor_0 ?_
  refine x_get C (c := 32) (ci := 6) (k1 := 4) (v1 := .int (gi M 32 4)) (enC_6 (c := 32) rfl) (Nat.le_of_ble_eq_true rfl) rfl inX6 (by decide) wf_X6_29 rfl dX6_readFactor_1 ?_
  refine x_if_eq C (tgt := 8) dX6_readFactor_4 (by decide) (fun hq1 => ?_) (fun hq1 => ?_)
  · replace h := x_ift hq1 h
    refine x_aload_n C 0 rfl rfl dX6_readFactor_8 ?_
    refine x_ldcS C 2 rfl dX6_readFactor_9 ?_
    refine x_callV C (st := []) (As := [.ref (gK g 2)]) (c := 32) (ci := 6) (enC_6 (c := 32) rfl) (Nat.le_of_ble_eq_true rfl) rfl (tX6_placeIn hg _ _ _ _ (by decide) h) wm_X6_53 wi_X6_placeIn wv_X6_placeIn wz_X6 wc_X6_placeIn rfl yd_X6_placeIn rfl ⟨rfl, rfl⟩ ⟨Nat.le_of_ble_eq_true rfl, Nat.le_of_ble_eq_true rfl⟩ (Nat.le_of_ble_eq_true rfl) rfl dX6_readFactor_11 (x_ki (fun r3 M2 h => ?_))
    refine x_istore_n C (L' := [(2, .int r3), (0, .ref (ga g 32)), (1, .int a0)]) rfl rfl (Nat.le_of_ble_eq_true rfl) dX6_readFactor_14 ?_
    refine x_aload_n C 1 rfl rfl dX6_readFactor_15 ?_
    refine x_callV C (st := []) (As := []) (c := 32) (ci := 6) (enC_6 (c := 32) rfl) (Nat.le_of_ble_eq_true rfl) rfl (tX6_sign hg _  _ _  h) wm_X6_74 wi_X6_sign wv_X6_sign wz_X6 wc_X6_sign rfl yd_X6_sign rfl ⟨rfl, rfl⟩ ⟨Nat.le_of_ble_eq_true rfl, Nat.le_of_ble_eq_true rfl⟩ (Nat.le_of_ble_eq_true rfl) rfl dX6_readFactor_16 (x_ki (fun r5 M4 h => ?_))
    refine x_bipush C (v1 := 91) dX6_readFactor_19 (by decide) ?_
    refine x_icmp_ne C (tgt := 45) dX6_readFactor_21 (by decide) (fun hq6 => ?_) (fun hq6 => ?_)
    · replace h := x_iff hq6 h
      refine x_iload_n C 0 rfl rfl dX6_readFactor_45 ?_
      refine x_if_lt C (tgt := 71) dX6_readFactor_46 (by decide) (fun hq7 => ?_) (fun hq7 => ?_)
      · replace h := x_ift hq7 h
        refine x_aload_n C 1 rfl rfl dX6_readFactor_71 ?_
        refine x_callV C (st := []) (As := []) (c := 32) (ci := 6) (enC_6 (c := 32) rfl) (Nat.le_of_ble_eq_true rfl) rfl (tX6_readNumber hg _  _ _  h) wm_X6_109 wi_X6_readNumber wv_X6_readNumber wz_X6 wc_X6_readNumber rfl yd_X6_readNumber rfl ⟨rfl, rfl⟩ ⟨Nat.le_of_ble_eq_true rfl, Nat.le_of_ble_eq_true rfl⟩ (Nat.le_of_ble_eq_true rfl) rfl dX6_readFactor_72 (x_kv (fun M8 h => ?_))
        exact x_vret C dX6_readFactor_75 ⟨rfl, h⟩
      · replace h := x_iff hq7 h
        refine x_aload_n C 1 rfl rfl dX6_readFactor_49 ?_
        refine x_get C (c := 32) (ci := 6) (k1 := 0) (v1 := .ref (ga g 33)) (enC_6 (c := 32) rfl) (Nat.le_of_ble_eq_true rfl) rfl inX6 (by decide) wf_X6_12 rfl dX6_readFactor_50 ?_
        refine x_iconst C (v1 := 1) dX6_readFactor_53 (by decide) ?_
        refine x_iload_n C 0 rfl rfl dX6_readFactor_54 ?_
        refine x_callVN C (st := []) (As := [.int 1, .int r3]) (c := 33) (ci := 5) (enC_5 (c := 33) rfl) (Nat.le_of_ble_eq_true rfl) rfl (tX5_addStep hg _ _ _ _ _ _ rfl h) wmn_X6_78 wi_X5_addStep wv_X5_addStep wz_X5 wc_X5_addStep yd_X5_addStep rfl ⟨rfl, rfl⟩ ⟨Nat.le_of_ble_eq_true rfl, Nat.le_of_ble_eq_true rfl⟩ (Nat.le_of_ble_eq_true rfl) rfl dX6_readFactor_55 (x_kv (fun M9 h => ?_))
        refine x_aload_n C 1 rfl rfl dX6_readFactor_58 ?_
        refine x_dup C rfl dX6_readFactor_59 ?_
        refine x_get C (c := 32) (ci := 6) (k1 := 3) (v1 := .int (gi M9 32 3)) (enC_6 (c := 32) rfl) (Nat.le_of_ble_eq_true rfl) rfl inX6 (by decide) wf_X6_26 rfl dX6_readFactor_60 ?_
        refine x_iconst C (v1 := 1) dX6_readFactor_63 (by decide) ?_
        refine x_iadd C dX6_readFactor_64 ?_
        refine x_put C (c := 32) (ci := 6) (k1 := 3) (u1 := ((gi M9 32 3) + 1)) (v1 := .int ((gi M9 32 3) + 1)) (ty := .int) (enC_6 (c := 32) rfl) (Nat.le_of_ble_eq_true rfl) rfl inX6 (by decide) (stX6_3 _ _ _) tyX6 tyX6_ok nmX6 wf_X6_26 rfl rfl rfl rfl (Nat.le_of_ble_eq_true rfl) dX6_readFactor_65 ?_
        refine x_nmM (fun M10 eM10 => ?_)
        replace h := h M10 eM10
        refine x_goto C (tgt := 75) dX6_readFactor_68 (by decide) ?_
        exact x_vret C dX6_readFactor_75 ⟨rfl, h⟩
    · replace h := x_ift hq6 h
      refine x_aload_n C 1 rfl rfl dX6_readFactor_24 ?_
      refine x_iload_n C 2 rfl rfl dX6_readFactor_25 ?_
      refine x_callV C (st := []) (As := [.int a0]) (c := 32) (ci := 6) (enC_6 (c := 32) rfl) (Nat.le_of_ble_eq_true rfl) rfl (tX6_openAt hg _ _ _ _  h) wm_X6_88 wi_X6_openAt wv_X6_openAt wz_X6 wc_X6_openAt rfl yd_X6_openAt rfl ⟨rfl, rfl⟩ ⟨Nat.le_of_ble_eq_true rfl, Nat.le_of_ble_eq_true rfl⟩ (Nat.le_of_ble_eq_true rfl) rfl dX6_readFactor_26 (x_kv (fun M11 h => ?_))
      refine x_aload_n C 1 rfl rfl dX6_readFactor_29 ?_
      refine x_iload_n C 2 rfl rfl dX6_readFactor_30 ?_
      refine x_iconst C (v1 := 1) dX6_readFactor_31 (by decide) ?_
      refine x_iadd C dX6_readFactor_32 ?_
      refine x_callV C (st := []) (As := [.int (a0 + 1)]) (c := 32) (ci := 6) (enC_6 (c := 32) rfl) (Nat.le_of_ble_eq_true rfl) rfl (hrec _ _ _ _  h) wm_X6_61 wi_X6_readSum wv_X6_readSum wz_X6 wc_X6_readSum rfl yd_X6_readSum rfl ⟨rfl, rfl⟩ (by simp only [rm_X6_readFactor, rm_X6_readSum]; omega) (Nat.le_of_ble_eq_true rfl) rfl dX6_readFactor_33 (x_kv (fun M12 h => ?_))
      refine x_aload_n C 1 rfl rfl dX6_readFactor_36 ?_
      refine x_bipush C (v1 := 93) dX6_readFactor_37 (by decide) ?_
      refine x_callV C (st := []) (As := [.int 93]) (c := 32) (ci := 6) (enC_6 (c := 32) rfl) (Nat.le_of_ble_eq_true rfl) rfl (tX6_take hg _ _ _ _  h) wm_X6_44 wi_X6_take wv_X6_take wz_X6 wc_X6_take rfl yd_X6_take rfl ⟨rfl, rfl⟩ ⟨Nat.le_of_ble_eq_true rfl, Nat.le_of_ble_eq_true rfl⟩ (Nat.le_of_ble_eq_true rfl) rfl dX6_readFactor_39 (x_kv (fun M13 h => ?_))
      refine x_goto C (tgt := 75) dX6_readFactor_42 (by decide) ?_
      exact x_vret C dX6_readFactor_75 ⟨rfl, h⟩
  · replace h := x_iff hq1 h
    exact x_vret C dX6_readFactor_7 ⟨rfl, h⟩
set_option maxHeartbeats 4000000 in
set_option maxRecDepth 100000 in
theorem tX6_readProduct_7 {g : xG} (hg : x_inj (WC g)) (d : Nat) {rec : Int32 → xMem → (xMem → Prop) → Prop} (hrec : ∀ (l : Launch) (a0 : Int32) (M : xMem) (post : xMem → Prop), rec a0 M post → xMet (WC g) l yX6_readSum cX6_readSum 4 none (rm_X6_readSum d) [.ref (ga g 32), .int a0] M (pV post)) {x : xCx}   {post : xMem → Prop} (C : xOk (WC g) x cX6_readProduct RX6 4 none (rm_X6_readProduct d) (pV post))   : ∀ (n : Nat) (x1 : Int32) (x2 : Int32) (M : xMem), wX6_readProduct_7 rec post n x1 x2 M → xW (WC g) x 4 7 [(0, .ref (ga g 32)), (1, .int x1), (2, .int x2)] [] M := by
  intro n
  induction n with
  | zero =>
    intro x1 x2 M  h
    exact h.elim
  | succ n ih =>
    intro x1 x2 M  h
    rw [wX6_readProduct_7] at h
    refine x_iload_n C 2 rfl rfl dX6_readProduct_7 ?_
    refine x_sipush C (v1 := 240) dX6_readProduct_8 (by decide) ?_
    refine x_icmp_ge C (tgt := 69) dX6_readProduct_11 (by decide) (fun hq1 => ?_) (fun hq1 => ?_)
    · replace h := x_ift hq1 h
      exact x_vret C dX6_readProduct_69 ⟨rfl, h⟩
    · replace h := x_iff hq1 h
      refine x_aload_n C 0 rfl rfl dX6_readProduct_14 ?_
      refine x_get C (c := 32) (ci := 6) (k1 := 4) (v1 := .int (gi M 32 4)) (enC_6 (c := 32) rfl) (Nat.le_of_ble_eq_true rfl) rfl inX6 (by decide) wf_X6_29 rfl dX6_readProduct_15 ?_
      refine x_if_ne C (tgt := 69) dX6_readProduct_18 (by decide) (fun hq2 => ?_) (fun hq2 => ?_)
      · replace h := x_iff hq2 h
        exact x_vret C dX6_readProduct_69 ⟨rfl, h⟩
      · replace h := x_ift hq2 h
        refine x_aload_n C 0 rfl rfl dX6_readProduct_21 ?_
        refine x_ldcS C 3 rfl dX6_readProduct_22 ?_
        refine x_callV C (st := []) (As := [.ref (gK g 3)]) (c := 32) (ci := 6) (enC_6 (c := 32) rfl) (Nat.le_of_ble_eq_true rfl) rfl (tX6_placeIn hg _ _ _ _ (by decide) h) wm_X6_53 wi_X6_placeIn wv_X6_placeIn wz_X6 wc_X6_placeIn rfl yd_X6_placeIn rfl ⟨rfl, rfl⟩ ⟨Nat.le_of_ble_eq_true rfl, Nat.le_of_ble_eq_true rfl⟩ (Nat.le_of_ble_eq_true rfl) rfl dX6_readProduct_24 (x_ki (fun r4 M3 h => ?_))
        refine x_if_lt C (tgt := 69) dX6_readProduct_27 (by decide) (fun hq5 => ?_) (fun hq5 => ?_)
        · replace h := x_ift hq5 h
          exact x_vret C dX6_readProduct_69 ⟨rfl, h⟩
        · replace h := x_iff hq5 h
          refine x_aload_n C 0 rfl rfl dX6_readProduct_30 ?_
          refine x_ldcS C 4 rfl dX6_readProduct_31 ?_
          refine x_callV C (st := []) (As := [.ref (gK g 4)]) (c := 32) (ci := 6) (enC_6 (c := 32) rfl) (Nat.le_of_ble_eq_true rfl) rfl (tX6_placeIn hg _ _ _ _ (by decide) h) wm_X6_53 wi_X6_placeIn wv_X6_placeIn wz_X6 wc_X6_placeIn rfl yd_X6_placeIn rfl ⟨rfl, rfl⟩ ⟨Nat.le_of_ble_eq_true rfl, Nat.le_of_ble_eq_true rfl⟩ (Nat.le_of_ble_eq_true rfl) rfl dX6_readProduct_33 (x_ki (fun r7 M6 h => ?_))
          refine x_istore_n C (L' := [(3, .int r7), (0, .ref (ga g 32)), (1, .int x1), (2, .int x2)]) rfl rfl (Nat.le_of_ble_eq_true rfl) dX6_readProduct_36 ?_
          refine x_aload_n C 1 rfl rfl dX6_readProduct_37 ?_
          refine x_dup C rfl dX6_readProduct_38 ?_
          refine x_get C (c := 32) (ci := 6) (k1 := 3) (v1 := .int (gi M6 32 3)) (enC_6 (c := 32) rfl) (Nat.le_of_ble_eq_true rfl) rfl inX6 (by decide) wf_X6_26 rfl dX6_readProduct_39 ?_
          refine x_iconst C (v1 := 1) dX6_readProduct_42 (by decide) ?_
          refine x_iadd C dX6_readProduct_43 ?_
          refine x_put C (c := 32) (ci := 6) (k1 := 3) (u1 := ((gi M6 32 3) + 1)) (v1 := .int ((gi M6 32 3) + 1)) (ty := .int) (enC_6 (c := 32) rfl) (Nat.le_of_ble_eq_true rfl) rfl inX6 (by decide) (stX6_3 _ _ _) tyX6 tyX6_ok nmX6 wf_X6_26 rfl rfl rfl rfl (Nat.le_of_ble_eq_true rfl) dX6_readProduct_44 ?_
          refine x_nmM (fun M8 eM8 => ?_)
          replace h := h M8 eM8
          refine x_aload_n C 1 rfl rfl dX6_readProduct_47 ?_
          refine x_iload_n C 2 rfl rfl dX6_readProduct_48 ?_
          refine x_callV C (st := []) (As := [.int x1]) (c := 32) (ci := 6) (enC_6 (c := 32) rfl) (Nat.le_of_ble_eq_true rfl) rfl (tX6_readFactor hg d hrec _ _ _ _  h) wm_X6_100 wi_X6_readFactor wv_X6_readFactor wz_X6 wc_X6_readFactor rfl yd_X6_readFactor rfl ⟨rfl, rfl⟩ (by simp only [rm_X6_readProduct, rm_X6_readFactor]; omega) (Nat.le_of_ble_eq_true rfl) rfl dX6_readProduct_49 (x_kv (fun M9 h => ?_))
          refine x_aload_n C 1 rfl rfl dX6_readProduct_52 ?_
          refine x_get C (c := 32) (ci := 6) (k1 := 0) (v1 := .ref (ga g 33)) (enC_6 (c := 32) rfl) (Nat.le_of_ble_eq_true rfl) rfl inX6 (by decide) wf_X6_12 rfl dX6_readProduct_53 ?_
          refine x_iconst C (v1 := 5) dX6_readProduct_56 (by decide) ?_
          refine x_iload_n C 0 rfl rfl dX6_readProduct_57 ?_
          refine x_iadd C dX6_readProduct_58 ?_
          refine x_iconst C (v1 := 0) dX6_readProduct_59 (by decide) ?_
          refine x_callVN C (st := []) (As := [.int (5 + r7), .int 0]) (c := 33) (ci := 5) (enC_5 (c := 33) rfl) (Nat.le_of_ble_eq_true rfl) rfl (tX5_addStep hg _ _ _ _ _ _ rfl h) wmn_X6_78 wi_X5_addStep wv_X5_addStep wz_X5 wc_X5_addStep yd_X5_addStep rfl ⟨rfl, rfl⟩ ⟨Nat.le_of_ble_eq_true rfl, Nat.le_of_ble_eq_true rfl⟩ (Nat.le_of_ble_eq_true rfl) rfl dX6_readProduct_60 (x_kv (fun M10 h => ?_))
          obtain ⟨v11, ev11⟩ : ∃ z : Int32, z = x2 + 1 := ⟨_, rfl⟩
          replace h := h v11 ev11
          refine x_iinc C 3 (v1 := v11) (L' := [(2, .int v11), (3, .int r7), (0, .ref (ga g 32)), (1, .int x1)]) rfl (by rw [ev11]; rfl) rfl (Nat.le_of_ble_eq_true rfl) dX6_readProduct_63 ?_
          refine x_goto C (tgt := 7) dX6_readProduct_66 (by decide) ?_
          refine x_loc (L' := [(0, .ref (ga g 32)), (1, .int x1), (2, .int v11)]) [2, 3, 0] rfl ?_
          exact ih _ _ _  h
set_option maxHeartbeats 4000000 in
set_option maxRecDepth 100000 in
theorem tX6_readProduct {g : xG} (hg : x_inj (WC g)) (d : Nat) {rec : Int32 → xMem → (xMem → Prop) → Prop} (hrec : ∀ (l : Launch) (a0 : Int32) (M : xMem) (post : xMem → Prop), rec a0 M post → xMet (WC g) l yX6_readSum cX6_readSum 4 none (rm_X6_readSum d) [.ref (ga g 32), .int a0] M (pV post)) (l : Launch) (a0 : Int32) (M : xMem) (post : xMem → Prop)  (h : wX6_readProduct rec a0 M post) : xMet (WC g) l yX6_readProduct cX6_readProduct 4 none (rm_X6_readProduct d) [.ref (ga g 32), .int a0] M (pV post) := by
  refine x_enter (own := RX6) (L0 := [(0, .ref (ga g 32)), (1, .int a0)]) (by decide +kernel) rfl hg (x_stC g) (Nat.le_of_ble_eq_true rfl) rfl (fun x hl C => ?_)
  unfold wX6_readProduct at h
  refine x_aload_n C 0 rfl rfl dX6_readProduct_0 ?_
  refine x_iload_n C 1 rfl rfl dX6_readProduct_1 ?_
  refine x_callV C (st := []) (As := [.int a0]) (c := 32) (ci := 6) (enC_6 (c := 32) rfl) (Nat.le_of_ble_eq_true rfl) rfl (tX6_readFactor hg d hrec _ _ _ _  h) wm_X6_100 wi_X6_readFactor wv_X6_readFactor wz_X6 wc_X6_readFactor rfl yd_X6_readFactor rfl ⟨rfl, rfl⟩ (by simp only [rm_X6_readProduct, rm_X6_readFactor]; omega) (Nat.le_of_ble_eq_true rfl) rfl dX6_readProduct_2 (x_kv (fun M1 h => ?_))
  refine x_iconst C (v1 := 0) dX6_readProduct_5 (by decide) ?_
  refine x_istore_n C (L' := [(2, .int 0), (0, .ref (ga g 32)), (1, .int a0)]) rfl rfl (Nat.le_of_ble_eq_true rfl) dX6_readProduct_6 ?_
  refine x_loc (L' := [(0, .ref (ga g 32)), (1, .int a0), (2, .int 0)]) [1, 2, 0] rfl ?_
  obtain ⟨n7, h⟩ := h
  exact tX6_readProduct_7 hg d hrec C   _ _ _ _  h
set_option maxHeartbeats 4000000 in
set_option maxRecDepth 100000 in
theorem tX6_readSum_7 {g : xG} (hg : x_inj (WC g)) (d : Nat) {rec : Int32 → xMem → (xMem → Prop) → Prop} (hrec : ∀ (l : Launch) (a0 : Int32) (M : xMem) (post : xMem → Prop), rec a0 M post → xMet (WC g) l yX6_readSum cX6_readSum 4 none (rm_X6_readSum d) [.ref (ga g 32), .int a0] M (pV post)) {x : xCx}   {post : xMem → Prop} (C : xOk (WC g) x cX6_readSum RX6 4 none (rm_X6_readSum (d + 1)) (pV post))   : ∀ (n : Nat) (x1 : Int32) (x2 : Int32) (M : xMem), wX6_readSum_at_7 rec post n x1 x2 M → xW (WC g) x 4 7 [(0, .ref (ga g 32)), (1, .int x1), (2, .int x2)] [] M := by
  intro n
  induction n with
  | zero =>
    intro x1 x2 M  h
    exact h.elim
  | succ n ih =>
    intro x1 x2 M  h
    rw [wX6_readSum_at_7] at h
    refine x_iload_n C 2 rfl rfl dX6_readSum_7 ?_
    refine x_sipush C (v1 := 240) dX6_readSum_8 (by decide) ?_
    refine x_icmp_ge C (tgt := 69) dX6_readSum_11 (by decide) (fun hq1 => ?_) (fun hq1 => ?_)
    · replace h := x_ift hq1 h
      exact x_vret C dX6_readSum_69 ⟨rfl, h⟩
    · replace h := x_iff hq1 h
      refine x_aload_n C 0 rfl rfl dX6_readSum_14 ?_
      refine x_get C (c := 32) (ci := 6) (k1 := 4) (v1 := .int (gi M 32 4)) (enC_6 (c := 32) rfl) (Nat.le_of_ble_eq_true rfl) rfl inX6 (by decide) wf_X6_29 rfl dX6_readSum_15 ?_
      refine x_if_ne C (tgt := 69) dX6_readSum_18 (by decide) (fun hq2 => ?_) (fun hq2 => ?_)
      · replace h := x_iff hq2 h
        exact x_vret C dX6_readSum_69 ⟨rfl, h⟩
      · replace h := x_ift hq2 h
        refine x_aload_n C 0 rfl rfl dX6_readSum_21 ?_
        refine x_ldcS C 5 rfl dX6_readSum_22 ?_
        refine x_callV C (st := []) (As := [.ref (gK g 5)]) (c := 32) (ci := 6) (enC_6 (c := 32) rfl) (Nat.le_of_ble_eq_true rfl) rfl (tX6_placeIn hg _ _ _ _ (by decide) h) wm_X6_53 wi_X6_placeIn wv_X6_placeIn wz_X6 wc_X6_placeIn rfl yd_X6_placeIn rfl ⟨rfl, rfl⟩ ⟨Nat.le_of_ble_eq_true rfl, Nat.le_of_ble_eq_true rfl⟩ (Nat.le_of_ble_eq_true rfl) rfl dX6_readSum_24 (x_ki (fun r4 M3 h => ?_))
        refine x_if_lt C (tgt := 69) dX6_readSum_27 (by decide) (fun hq5 => ?_) (fun hq5 => ?_)
        · replace h := x_ift hq5 h
          exact x_vret C dX6_readSum_69 ⟨rfl, h⟩
        · replace h := x_iff hq5 h
          refine x_aload_n C 0 rfl rfl dX6_readSum_30 ?_
          refine x_ldcS C 4 rfl dX6_readSum_31 ?_
          refine x_callV C (st := []) (As := [.ref (gK g 4)]) (c := 32) (ci := 6) (enC_6 (c := 32) rfl) (Nat.le_of_ble_eq_true rfl) rfl (tX6_placeIn hg _ _ _ _ (by decide) h) wm_X6_53 wi_X6_placeIn wv_X6_placeIn wz_X6 wc_X6_placeIn rfl yd_X6_placeIn rfl ⟨rfl, rfl⟩ ⟨Nat.le_of_ble_eq_true rfl, Nat.le_of_ble_eq_true rfl⟩ (Nat.le_of_ble_eq_true rfl) rfl dX6_readSum_33 (x_ki (fun r7 M6 h => ?_))
          refine x_istore_n C (L' := [(3, .int r7), (0, .ref (ga g 32)), (1, .int x1), (2, .int x2)]) rfl rfl (Nat.le_of_ble_eq_true rfl) dX6_readSum_36 ?_
          refine x_aload_n C 1 rfl rfl dX6_readSum_37 ?_
          refine x_dup C rfl dX6_readSum_38 ?_
          refine x_get C (c := 32) (ci := 6) (k1 := 3) (v1 := .int (gi M6 32 3)) (enC_6 (c := 32) rfl) (Nat.le_of_ble_eq_true rfl) rfl inX6 (by decide) wf_X6_26 rfl dX6_readSum_39 ?_
          refine x_iconst C (v1 := 1) dX6_readSum_42 (by decide) ?_
          refine x_iadd C dX6_readSum_43 ?_
          refine x_put C (c := 32) (ci := 6) (k1 := 3) (u1 := ((gi M6 32 3) + 1)) (v1 := .int ((gi M6 32 3) + 1)) (ty := .int) (enC_6 (c := 32) rfl) (Nat.le_of_ble_eq_true rfl) rfl inX6 (by decide) (stX6_3 _ _ _) tyX6 tyX6_ok nmX6 wf_X6_26 rfl rfl rfl rfl (Nat.le_of_ble_eq_true rfl) dX6_readSum_44 ?_
          refine x_nmM (fun M8 eM8 => ?_)
          replace h := h M8 eM8
          refine x_aload_n C 1 rfl rfl dX6_readSum_47 ?_
          refine x_iload_n C 2 rfl rfl dX6_readSum_48 ?_
          refine x_callV C (st := []) (As := [.int x1]) (c := 32) (ci := 6) (enC_6 (c := 32) rfl) (Nat.le_of_ble_eq_true rfl) rfl (tX6_readProduct hg d hrec _ _ _ _  h) wm_X6_95 wi_X6_readProduct wv_X6_readProduct wz_X6 wc_X6_readProduct rfl yd_X6_readProduct rfl ⟨rfl, rfl⟩ (by simp only [rm_X6_readSum, rm_X6_readProduct]; omega) (Nat.le_of_ble_eq_true rfl) rfl dX6_readSum_49 (x_kv (fun M9 h => ?_))
          refine x_aload_n C 1 rfl rfl dX6_readSum_52 ?_
          refine x_get C (c := 32) (ci := 6) (k1 := 0) (v1 := .ref (ga g 33)) (enC_6 (c := 32) rfl) (Nat.le_of_ble_eq_true rfl) rfl inX6 (by decide) wf_X6_12 rfl dX6_readSum_53 ?_
          refine x_iconst C (v1 := 5) dX6_readSum_56 (by decide) ?_
          refine x_iload_n C 0 rfl rfl dX6_readSum_57 ?_
          refine x_iadd C dX6_readSum_58 ?_
          refine x_iconst C (v1 := 0) dX6_readSum_59 (by decide) ?_
          refine x_callVN C (st := []) (As := [.int (5 + r7), .int 0]) (c := 33) (ci := 5) (enC_5 (c := 33) rfl) (Nat.le_of_ble_eq_true rfl) rfl (tX5_addStep hg _ _ _ _ _ _ rfl h) wmn_X6_78 wi_X5_addStep wv_X5_addStep wz_X5 wc_X5_addStep yd_X5_addStep rfl ⟨rfl, rfl⟩ ⟨Nat.le_of_ble_eq_true rfl, Nat.le_of_ble_eq_true rfl⟩ (Nat.le_of_ble_eq_true rfl) rfl dX6_readSum_60 (x_kv (fun M10 h => ?_))
          obtain ⟨v11, ev11⟩ : ∃ z : Int32, z = x2 + 1 := ⟨_, rfl⟩
          replace h := h v11 ev11
          refine x_iinc C 3 (v1 := v11) (L' := [(2, .int v11), (3, .int r7), (0, .ref (ga g 32)), (1, .int x1)]) rfl (by rw [ev11]; rfl) rfl (Nat.le_of_ble_eq_true rfl) dX6_readSum_63 ?_
          refine x_goto C (tgt := 7) dX6_readSum_66 (by decide) ?_
          refine x_loc (L' := [(0, .ref (ga g 32)), (1, .int x1), (2, .int v11)]) [2, 3, 0] rfl ?_
          exact ih _ _ _  h
set_option maxHeartbeats 4000000 in
set_option maxRecDepth 100000 in
theorem tX6_readSum_at {g : xG} (hg : x_inj (WC g)) (d : Nat) {rec : Int32 → xMem → (xMem → Prop) → Prop} (hrec : ∀ (l : Launch) (a0 : Int32) (M : xMem) (post : xMem → Prop), rec a0 M post → xMet (WC g) l yX6_readSum cX6_readSum 4 none (rm_X6_readSum d) [.ref (ga g 32), .int a0] M (pV post)) (l : Launch) (a0 : Int32) (M : xMem) (post : xMem → Prop)  (h : wX6_readSum_at rec a0 M post) : xMet (WC g) l yX6_readSum cX6_readSum 4 none (rm_X6_readSum (d + 1)) [.ref (ga g 32), .int a0] M (pV post) := by
  refine x_enter (own := RX6) (L0 := [(0, .ref (ga g 32)), (1, .int a0)]) (by decide +kernel) rfl hg (x_stC g) (Nat.le_of_ble_eq_true rfl) rfl (fun x hl C => ?_)
  unfold wX6_readSum_at at h
  refine x_aload_n C 0 rfl rfl dX6_readSum_0 ?_
  refine x_iload_n C 1 rfl rfl dX6_readSum_1 ?_
  refine x_callV C (st := []) (As := [.int a0]) (c := 32) (ci := 6) (enC_6 (c := 32) rfl) (Nat.le_of_ble_eq_true rfl) rfl (tX6_readProduct hg d hrec _ _ _ _  h) wm_X6_95 wi_X6_readProduct wv_X6_readProduct wz_X6 wc_X6_readProduct rfl yd_X6_readProduct rfl ⟨rfl, rfl⟩ (by simp only [rm_X6_readSum, rm_X6_readProduct]; omega) (Nat.le_of_ble_eq_true rfl) rfl dX6_readSum_2 (x_kv (fun M1 h => ?_))
  refine x_iconst C (v1 := 0) dX6_readSum_5 (by decide) ?_
  refine x_istore_n C (L' := [(2, .int 0), (0, .ref (ga g 32)), (1, .int a0)]) rfl rfl (Nat.le_of_ble_eq_true rfl) dX6_readSum_6 ?_
  refine x_loc (L' := [(0, .ref (ga g 32)), (1, .int a0), (2, .int 0)]) [1, 2, 0] rfl ?_
  obtain ⟨n7, h⟩ := h
  exact tX6_readSum_7 hg d hrec C   _ _ _ _  h
theorem tX6_readSum {g : xG} (hg : x_inj (WC g)) : ∀ (d : Nat) (l : Launch) (a0 : Int32) (M : xMem) (post : xMem → Prop), wX6_readSum d a0 M post → xMet (WC g) l yX6_readSum cX6_readSum 4 none (rm_X6_readSum d) [.ref (ga g 32), .int a0] M (pV post) := by
  intro d
  induction d with
  | zero =>
    intro l a0 M post  h
    exact h.elim
  | succ d ih =>
    intro l a0 M post  h
    exact tX6_readSum_at hg d ih l a0 M post  h
set_option maxHeartbeats 4000000 in
set_option maxRecDepth 100000 in
theorem tX6_readTest_105 {g : xG} (hg : x_inj (WC g)) (d : Nat) {rec : Int32 → xMem → (xMem → Prop) → Prop} (hrec : ∀ (l : Launch) (a0 : Int32) (M : xMem) (post : xMem → Prop), rec a0 M post → xMet (WC g) l yX6_readTest cX6_readTest 3 none (rm_X6_readTest d) [.ref (ga g 32), .int a0] M (pV post)) {x : xCx}   {post : xMem → Prop} (C : xOk (WC g) x cX6_readTest RX6 3 none (rm_X6_readTest (d + 1)) (pV post))   (x1 : Int32) (x2 : Int32) (M : xMem)  (h : wX6_readTest_at_105 rec post x1 x2 M) : xW (WC g) x 3 105 [(0, .ref (ga g 32)), (1, .int x1), (2, .int x2)] [] M := by
  unfold wX6_readTest_at_105 at h
  refine x_aload_n C 0 rfl rfl dX6_readTest_105 ?_
  refine x_dup C rfl dX6_readTest_106 ?_
  refine x_get C (c := 32) (ci := 6) (k1 := 3) (v1 := .int (gi M 32 3)) (enC_6 (c := 32) rfl) (Nat.le_of_ble_eq_true rfl) rfl inX6 (by decide) wf_X6_26 rfl dX6_readTest_107 ?_
  refine x_iconst C (v1 := 1) dX6_readTest_110 (by decide) ?_
  refine x_iadd C dX6_readTest_111 ?_
  refine x_put C (c := 32) (ci := 6) (k1 := 3) (u1 := ((gi M 32 3) + 1)) (v1 := .int ((gi M 32 3) + 1)) (ty := .int) (enC_6 (c := 32) rfl) (Nat.le_of_ble_eq_true rfl) rfl inX6 (by decide) (stX6_3 _ _ _) tyX6 tyX6_ok nmX6 wf_X6_26 rfl rfl rfl rfl (Nat.le_of_ble_eq_true rfl) dX6_readTest_112 ?_
  refine x_nmM (fun M1 eM1 => ?_)
  replace h := h M1 eM1
  refine x_aload_n C 0 rfl rfl dX6_readTest_115 ?_
  refine x_iload_n C 1 rfl rfl dX6_readTest_116 ?_
  refine x_callV C (st := []) (As := [.int x1]) (c := 32) (ci := 6) (enC_6 (c := 32) rfl) (Nat.le_of_ble_eq_true rfl) rfl (tX6_readSum hg 12 _ _ _ _  h) wm_X6_61 wi_X6_readSum wv_X6_readSum wz_X6 wc_X6_readSum rfl yd_X6_readSum rfl ⟨rfl, rfl⟩ (by simp only [rm_X6_readTest, rm_X6_readSum]; omega) (Nat.le_of_ble_eq_true rfl) rfl dX6_readTest_117 (x_kv (fun M2 h => ?_))
  refine x_aload_n C 0 rfl rfl dX6_readTest_120 ?_
  refine x_get C (c := 32) (ci := 6) (k1 := 0) (v1 := .ref (ga g 33)) (enC_6 (c := 32) rfl) (Nat.le_of_ble_eq_true rfl) rfl inX6 (by decide) wf_X6_12 rfl dX6_readTest_121 ?_
  refine x_iconst C (v1 := 5) dX6_readTest_124 (by decide) ?_
  refine x_iload_n C 2 rfl rfl dX6_readTest_125 ?_
  refine x_iadd C dX6_readTest_126 ?_
  refine x_iconst C (v1 := 0) dX6_readTest_127 (by decide) ?_
  refine x_callVN C (st := []) (As := [.int (5 + x2), .int 0]) (c := 33) (ci := 5) (enC_5 (c := 33) rfl) (Nat.le_of_ble_eq_true rfl) rfl (tX5_addStep hg _ _ _ _ _ _ rfl h) wmn_X6_78 wi_X5_addStep wv_X5_addStep wz_X5 wc_X5_addStep yd_X5_addStep rfl ⟨rfl, rfl⟩ ⟨Nat.le_of_ble_eq_true rfl, Nat.le_of_ble_eq_true rfl⟩ (Nat.le_of_ble_eq_true rfl) rfl dX6_readTest_128 (x_kv (fun M3 h => ?_))
  exact x_vret C dX6_readTest_131 ⟨rfl, h⟩
set_option maxHeartbeats 4000000 in
set_option maxRecDepth 100000 in
theorem tX6_readTest_95 {g : xG} (hg : x_inj (WC g)) (d : Nat) {rec : Int32 → xMem → (xMem → Prop) → Prop} (hrec : ∀ (l : Launch) (a0 : Int32) (M : xMem) (post : xMem → Prop), rec a0 M post → xMet (WC g) l yX6_readTest cX6_readTest 3 none (rm_X6_readTest d) [.ref (ga g 32), .int a0] M (pV post)) {x : xCx}   {post : xMem → Prop} (C : xOk (WC g) x cX6_readTest RX6 3 none (rm_X6_readTest (d + 1)) (pV post))   (x1 : Int32) (s0 : Int32) (M : xMem)  (h : wX6_readTest_at_95 rec post x1 s0 M) : xW (WC g) x 3 95 [(0, .ref (ga g 32)), (1, .int x1)] [.int s0] M := by
  unfold wX6_readTest_at_95 at h
  refine x_istore_n C (L' := [(2, .int s0), (0, .ref (ga g 32)), (1, .int x1)]) rfl rfl (Nat.le_of_ble_eq_true rfl) dX6_readTest_95 ?_
  refine x_iload_n C 0 rfl rfl dX6_readTest_96 ?_
  refine x_if_ge C (tgt := 105) dX6_readTest_97 (by decide) (fun hq1 => ?_) (fun hq1 => ?_)
  · replace h := x_ift hq1 h
    refine x_loc (L' := [(0, .ref (ga g 32)), (1, .int x1), (2, .int s0)]) [1, 2, 0] rfl ?_
    exact tX6_readTest_105 hg d hrec C   _ _ _  h
  · replace h := x_iff hq1 h
    refine x_aload_n C 1 rfl rfl dX6_readTest_100 ?_
    refine x_iconst C (v1 := 1) dX6_readTest_101 (by decide) ?_
    refine x_callV C (st := []) (As := [.int 1]) (c := 32) (ci := 6) (enC_6 (c := 32) rfl) (Nat.le_of_ble_eq_true rfl) rfl (tX6_refuse hg _ _ _ _  h) wm_X6_57 wi_X6_refuse wv_X6_refuse wz_X6 wc_X6_refuse rfl yd_X6_refuse rfl ⟨rfl, rfl⟩ ⟨Nat.le_of_ble_eq_true rfl, Nat.le_of_ble_eq_true rfl⟩ (Nat.le_of_ble_eq_true rfl) rfl dX6_readTest_102 (x_kv (fun M2 h => ?_))
    refine x_loc (L' := [(0, .ref (ga g 32)), (1, .int x1), (2, .int s0)]) [1, 2, 0] rfl ?_
    exact tX6_readTest_105 hg d hrec C   _ _ _  h
set_option maxHeartbeats 4000000 in
set_option maxRecDepth 100000 in
theorem tX6_readTest_at {g : xG} (hg : x_inj (WC g)) (d : Nat) {rec : Int32 → xMem → (xMem → Prop) → Prop} (hrec : ∀ (l : Launch) (a0 : Int32) (M : xMem) (post : xMem → Prop), rec a0 M post → xMet (WC g) l yX6_readTest cX6_readTest 3 none (rm_X6_readTest d) [.ref (ga g 32), .int a0] M (pV post)) (l : Launch) (a0 : Int32) (M : xMem) (post : xMem → Prop)  (h : wX6_readTest_at rec a0 M post) : xMet (WC g) l yX6_readTest cX6_readTest 3 none (rm_X6_readTest (d + 1)) [.ref (ga g 32), .int a0] M (pV post) := by
  refine x_enter (own := RX6) (L0 := [(0, .ref (ga g 32)), (1, .int a0)]) (by decide +kernel) rfl hg (x_stC g) (Nat.le_of_ble_eq_true rfl) rfl (fun x hl C => ?_)
  unfold wX6_readTest_at at h
  refine x_aload_n C 0 rfl rfl dX6_readTest_0 ?_
  refine x_get C (c := 32) (ci := 6) (k1 := 4) (v1 := .int (gi M 32 4)) (enC_6 (c := 32) rfl) (Nat.le_of_ble_eq_true rfl) rfl inX6 (by decide) wf_X6_29 rfl dX6_readTest_1 ?_
  refine x_if_eq C (tgt := 8) dX6_readTest_4 (by decide) (fun hq1 => ?_) (fun hq1 => ?_)
  · replace h := x_ift hq1 h
    refine x_aload_n C 0 rfl rfl dX6_readTest_8 ?_
    refine x_callV C (st := []) (As := []) (c := 32) (ci := 6) (enC_6 (c := 32) rfl) (Nat.le_of_ble_eq_true rfl) rfl (tX6_sign hg _  _ _  h) wm_X6_74 wi_X6_sign wv_X6_sign wz_X6 wc_X6_sign rfl yd_X6_sign rfl ⟨rfl, rfl⟩ ⟨Nat.le_of_ble_eq_true rfl, Nat.le_of_ble_eq_true rfl⟩ (Nat.le_of_ble_eq_true rfl) rfl dX6_readTest_9 (x_ki (fun r3 M2 h => ?_))
    refine x_bipush C (v1 := 33) dX6_readTest_12 (by decide) ?_
    refine x_icmp_ne C (tgt := 41) dX6_readTest_14 (by decide) (fun hq4 => ?_) (fun hq4 => ?_)
    · replace h := x_iff hq4 h
      refine x_aload_n C 0 rfl rfl dX6_readTest_41 ?_
      refine x_callV C (st := []) (As := []) (c := 32) (ci := 6) (enC_6 (c := 32) rfl) (Nat.le_of_ble_eq_true rfl) rfl (tX6_sign hg _  _ _  h) wm_X6_74 wi_X6_sign wv_X6_sign wz_X6 wc_X6_sign rfl yd_X6_sign rfl ⟨rfl, rfl⟩ ⟨Nat.le_of_ble_eq_true rfl, Nat.le_of_ble_eq_true rfl⟩ (Nat.le_of_ble_eq_true rfl) rfl dX6_readTest_42 (x_ki (fun r6 M5 h => ?_))
      refine x_bipush C (v1 := 40) dX6_readTest_45 (by decide) ?_
      refine x_icmp_ne C (tgt := 71) dX6_readTest_47 (by decide) (fun hq7 => ?_) (fun hq7 => ?_)
      · replace h := x_iff hq7 h
        refine x_aload_n C 0 rfl rfl dX6_readTest_71 ?_
        refine x_iload_n C 1 rfl rfl dX6_readTest_72 ?_
        refine x_callV C (st := []) (As := [.int a0]) (c := 32) (ci := 6) (enC_6 (c := 32) rfl) (Nat.le_of_ble_eq_true rfl) rfl (tX6_readSum hg 12 _ _ _ _  h) wm_X6_61 wi_X6_readSum wv_X6_readSum wz_X6 wc_X6_readSum rfl yd_X6_readSum rfl ⟨rfl, rfl⟩ (by simp only [rm_X6_readTest, rm_X6_readSum]; omega) (Nat.le_of_ble_eq_true rfl) rfl dX6_readTest_73 (x_kv (fun M8 h => ?_))
        refine x_aload_n C 0 rfl rfl dX6_readTest_76 ?_
        refine x_ldcS C 6 rfl dX6_readTest_77 ?_
        refine x_callV C (st := []) (As := [.ref (gK g 6)]) (c := 32) (ci := 6) (enC_6 (c := 32) rfl) (Nat.le_of_ble_eq_true rfl) rfl (tX6_placeIn hg _ _ _ _ (by decide) h) wm_X6_53 wi_X6_placeIn wv_X6_placeIn wz_X6 wc_X6_placeIn rfl yd_X6_placeIn rfl ⟨rfl, rfl⟩ ⟨Nat.le_of_ble_eq_true rfl, Nat.le_of_ble_eq_true rfl⟩ (Nat.le_of_ble_eq_true rfl) rfl dX6_readTest_79 (x_ki (fun r10 M9 h => ?_))
        refine x_if_ge C (tgt := 89) dX6_readTest_82 (by decide) (fun hq11 => ?_) (fun hq11 => ?_)
        · replace h := x_ift hq11 h
          refine x_aload_n C 0 rfl rfl dX6_readTest_89 ?_
          refine x_ldcS C 4 rfl dX6_readTest_90 ?_
          refine x_callV C (st := []) (As := [.ref (gK g 4)]) (c := 32) (ci := 6) (enC_6 (c := 32) rfl) (Nat.le_of_ble_eq_true rfl) rfl (tX6_placeIn hg _ _ _ _ (by decide) h) wm_X6_53 wi_X6_placeIn wv_X6_placeIn wz_X6 wc_X6_placeIn rfl yd_X6_placeIn rfl ⟨rfl, rfl⟩ ⟨Nat.le_of_ble_eq_true rfl, Nat.le_of_ble_eq_true rfl⟩ (Nat.le_of_ble_eq_true rfl) rfl dX6_readTest_92 (x_ki (fun r13 M12 h => ?_))
          exact tX6_readTest_95 hg d hrec C   _ _ _  h
        · replace h := x_iff hq11 h
          refine x_iconst C (v1 := (-1)) dX6_readTest_85 (by decide) ?_
          refine x_goto C (tgt := 95) dX6_readTest_86 (by decide) ?_
          exact tX6_readTest_95 hg d hrec C   _ _ _  h
      · replace h := x_ift hq7 h
        refine x_aload_n C 0 rfl rfl dX6_readTest_50 ?_
        refine x_iload_n C 1 rfl rfl dX6_readTest_51 ?_
        refine x_callV C (st := []) (As := [.int a0]) (c := 32) (ci := 6) (enC_6 (c := 32) rfl) (Nat.le_of_ble_eq_true rfl) rfl (tX6_openAt hg _ _ _ _  h) wm_X6_88 wi_X6_openAt wv_X6_openAt wz_X6 wc_X6_openAt rfl yd_X6_openAt rfl ⟨rfl, rfl⟩ ⟨Nat.le_of_ble_eq_true rfl, Nat.le_of_ble_eq_true rfl⟩ (Nat.le_of_ble_eq_true rfl) rfl dX6_readTest_52 (x_kv (fun M14 h => ?_))
        refine x_aload_n C 0 rfl rfl dX6_readTest_55 ?_
        refine x_iload_n C 1 rfl rfl dX6_readTest_56 ?_
        refine x_iconst C (v1 := 1) dX6_readTest_57 (by decide) ?_
        refine x_iadd C dX6_readTest_58 ?_
        refine x_callV C (st := []) (As := [.int (a0 + 1)]) (c := 32) (ci := 6) (enC_6 (c := 32) rfl) (Nat.le_of_ble_eq_true rfl) rfl (tX6_readCondition hg d hrec _ _ _ _  h) wm_X6_64 wi_X6_readCondition wv_X6_readCondition wz_X6 wc_X6_readCondition rfl yd_X6_readCondition rfl ⟨rfl, rfl⟩ (by simp only [rm_X6_readTest, rm_X6_readCondition]; omega) (Nat.le_of_ble_eq_true rfl) rfl dX6_readTest_59 (x_kv (fun M15 h => ?_))
        refine x_aload_n C 0 rfl rfl dX6_readTest_62 ?_
        refine x_bipush C (v1 := 41) dX6_readTest_63 (by decide) ?_
        refine x_callV C (st := []) (As := [.int 41]) (c := 32) (ci := 6) (enC_6 (c := 32) rfl) (Nat.le_of_ble_eq_true rfl) rfl (tX6_take hg _ _ _ _  h) wm_X6_44 wi_X6_take wv_X6_take wz_X6 wc_X6_take rfl yd_X6_take rfl ⟨rfl, rfl⟩ ⟨Nat.le_of_ble_eq_true rfl, Nat.le_of_ble_eq_true rfl⟩ (Nat.le_of_ble_eq_true rfl) rfl dX6_readTest_65 (x_kv (fun M16 h => ?_))
        refine x_goto C (tgt := 131) dX6_readTest_68 (by decide) ?_
        exact x_vret C dX6_readTest_131 ⟨rfl, h⟩
    · replace h := x_ift hq4 h
      refine x_aload_n C 0 rfl rfl dX6_readTest_17 ?_
      refine x_iload_n C 1 rfl rfl dX6_readTest_18 ?_
      refine x_callV C (st := []) (As := [.int a0]) (c := 32) (ci := 6) (enC_6 (c := 32) rfl) (Nat.le_of_ble_eq_true rfl) rfl (tX6_openAt hg _ _ _ _  h) wm_X6_88 wi_X6_openAt wv_X6_openAt wz_X6 wc_X6_openAt rfl yd_X6_openAt rfl ⟨rfl, rfl⟩ ⟨Nat.le_of_ble_eq_true rfl, Nat.le_of_ble_eq_true rfl⟩ (Nat.le_of_ble_eq_true rfl) rfl dX6_readTest_19 (x_kv (fun M17 h => ?_))
      refine x_aload_n C 0 rfl rfl dX6_readTest_22 ?_
      refine x_iload_n C 1 rfl rfl dX6_readTest_23 ?_
      refine x_iconst C (v1 := 1) dX6_readTest_24 (by decide) ?_
      refine x_iadd C dX6_readTest_25 ?_
      refine x_callV C (st := []) (As := [.int (a0 + 1)]) (c := 32) (ci := 6) (enC_6 (c := 32) rfl) (Nat.le_of_ble_eq_true rfl) rfl (hrec _ _ _ _  h) wm_X6_85 wi_X6_readTest wv_X6_readTest wz_X6 wc_X6_readTest rfl yd_X6_readTest rfl ⟨rfl, rfl⟩ (by simp only [rm_X6_readTest, rm_X6_readTest]; omega) (Nat.le_of_ble_eq_true rfl) rfl dX6_readTest_26 (x_kv (fun M18 h => ?_))
      refine x_aload_n C 0 rfl rfl dX6_readTest_29 ?_
      refine x_get C (c := 32) (ci := 6) (k1 := 0) (v1 := .ref (ga g 33)) (enC_6 (c := 32) rfl) (Nat.le_of_ble_eq_true rfl) rfl inX6 (by decide) wf_X6_12 rfl dX6_readTest_30 ?_
      refine x_iconst C (v1 := 2) dX6_readTest_33 (by decide) ?_
      refine x_iconst C (v1 := 0) dX6_readTest_34 (by decide) ?_
      refine x_callVN C (st := []) (As := [.int 2, .int 0]) (c := 33) (ci := 5) (enC_5 (c := 33) rfl) (Nat.le_of_ble_eq_true rfl) rfl (tX5_addStep hg _ _ _ _ _ _ rfl h) wmn_X6_78 wi_X5_addStep wv_X5_addStep wz_X5 wc_X5_addStep yd_X5_addStep rfl ⟨rfl, rfl⟩ ⟨Nat.le_of_ble_eq_true rfl, Nat.le_of_ble_eq_true rfl⟩ (Nat.le_of_ble_eq_true rfl) rfl dX6_readTest_35 (x_kv (fun M19 h => ?_))
      refine x_goto C (tgt := 131) dX6_readTest_38 (by decide) ?_
      exact x_vret C dX6_readTest_131 ⟨rfl, h⟩
  · replace h := x_iff hq1 h
    exact x_vret C dX6_readTest_7 ⟨rfl, h⟩
theorem tX6_readTest {g : xG} (hg : x_inj (WC g)) : ∀ (d : Nat) (l : Launch) (a0 : Int32) (M : xMem) (post : xMem → Prop), wX6_readTest d a0 M post → xMet (WC g) l yX6_readTest cX6_readTest 3 none (rm_X6_readTest d) [.ref (ga g 32), .int a0] M (pV post) := by
  intro d
  induction d with
  | zero =>
    intro l a0 M post  h
    exact h.elim
  | succ d ih =>
    intro l a0 M post  h
    exact tX6_readTest_at hg d ih l a0 M post  h
set_option maxHeartbeats 4000000 in
set_option maxRecDepth 100000 in
theorem tX6_readClause_65 {g : xG} (hg : x_inj (WC g))  {x : xCx}   {post : xMem → Prop} (C : xOk (WC g) x cX6_readClause RX6 4 none (rm_X6_readClause) (pV post))   (x1 : Int32) (x2 : Int32) (M : xMem)  (h : wX6_readClause_65 post x1 x2 M) : xW (WC g) x 4 65 [(0, .ref (ga g 32)), (1, .int x1), (2, .int x2)] [] M := by
  unfold wX6_readClause_65 at h
  refine x_aload_n C 0 rfl rfl dX6_readClause_65 ?_
  refine x_get C (c := 32) (ci := 6) (k1 := 0) (v1 := .ref (ga g 33)) (enC_6 (c := 32) rfl) (Nat.le_of_ble_eq_true rfl) rfl inX6 (by decide) wf_X6_12 rfl dX6_readClause_66 ?_
  refine x_getN C (c := 33) (ci := 5) (k1 := 5) (v1 := .int (gi M 33 5)) (enC_5 (c := 33) rfl) (Nat.le_of_ble_eq_true rfl) rfl inX5 (by decide) wfn_X6_60 rfl dX6_readClause_69 ?_
  refine x_nm (fun v1 ev1 => ?_)
  replace h := h v1 ev1
  refine x_istore_n C (L' := [(3, .int v1), (0, .ref (ga g 32)), (1, .int x1), (2, .int x2)]) rfl rfl (Nat.le_of_ble_eq_true rfl) dX6_readClause_72 ?_
  refine x_aload_n C 1 rfl rfl dX6_readClause_73 ?_
  refine x_bipush C (v1 := 40) dX6_readClause_74 (by decide) ?_
  refine x_callV C (st := []) (As := [.int 40]) (c := 32) (ci := 6) (enC_6 (c := 32) rfl) (Nat.le_of_ble_eq_true rfl) rfl (tX6_take hg _ _ _ _  h) wm_X6_44 wi_X6_take wv_X6_take wz_X6 wc_X6_take rfl yd_X6_take rfl ⟨rfl, rfl⟩ ⟨Nat.le_of_ble_eq_true rfl, Nat.le_of_ble_eq_true rfl⟩ (Nat.le_of_ble_eq_true rfl) rfl dX6_readClause_76 (x_kv (fun M2 h => ?_))
  refine x_aload_n C 1 rfl rfl dX6_readClause_79 ?_
  refine x_iconst C (v1 := 1) dX6_readClause_80 (by decide) ?_
  refine x_callV C (st := []) (As := [.int 1]) (c := 32) (ci := 6) (enC_6 (c := 32) rfl) (Nat.le_of_ble_eq_true rfl) rfl (tX6_readCondition hg 12 (tX6_readTest hg 12) _ _ _ _  h) wm_X6_64 wi_X6_readCondition wv_X6_readCondition wz_X6 wc_X6_readCondition rfl yd_X6_readCondition rfl ⟨rfl, rfl⟩ ⟨Nat.le_of_ble_eq_true rfl, Nat.le_of_ble_eq_true rfl⟩ (Nat.le_of_ble_eq_true rfl) rfl dX6_readClause_81 (x_kv (fun M3 h => ?_))
  refine x_aload_n C 1 rfl rfl dX6_readClause_84 ?_
  refine x_bipush C (v1 := 41) dX6_readClause_85 (by decide) ?_
  refine x_callV C (st := []) (As := [.int 41]) (c := 32) (ci := 6) (enC_6 (c := 32) rfl) (Nat.le_of_ble_eq_true rfl) rfl (tX6_take hg _ _ _ _  h) wm_X6_44 wi_X6_take wv_X6_take wz_X6 wc_X6_take rfl yd_X6_take rfl ⟨rfl, rfl⟩ ⟨Nat.le_of_ble_eq_true rfl, Nat.le_of_ble_eq_true rfl⟩ (Nat.le_of_ble_eq_true rfl) rfl dX6_readClause_87 (x_kv (fun M4 h => ?_))
  refine x_aload_n C 1 rfl rfl dX6_readClause_90 ?_
  refine x_get C (c := 32) (ci := 6) (k1 := 0) (v1 := .ref (ga g 33)) (enC_6 (c := 32) rfl) (Nat.le_of_ble_eq_true rfl) rfl inX6 (by decide) wf_X6_12 rfl dX6_readClause_91 ?_
  refine x_iload_n C 2 rfl rfl dX6_readClause_94 ?_
  refine x_iload_n C 3 rfl rfl dX6_readClause_95 ?_
  refine x_iload_n C 0 rfl rfl dX6_readClause_96 ?_
  refine x_callVN C (st := []) (As := [.int x1, .int x2, .int v1]) (c := 33) (ci := 5) (enC_5 (c := 33) rfl) (Nat.le_of_ble_eq_true rfl) rfl (tX5_addClause hg _ _ _ _ _ _ _ rfl h) wmn_X6_67 wi_X5_addClause wv_X5_addClause wz_X5 wc_X5_addClause yd_X5_addClause rfl ⟨rfl, rfl⟩ ⟨Nat.le_of_ble_eq_true rfl, Nat.le_of_ble_eq_true rfl⟩ (Nat.le_of_ble_eq_true rfl) rfl dX6_readClause_97 (x_kv (fun M5 h => ?_))
  exact x_vret C dX6_readClause_100 ⟨rfl, h⟩
set_option maxHeartbeats 4000000 in
set_option maxRecDepth 100000 in
theorem tX6_readClause_36 {g : xG} (hg : x_inj (WC g))  {x : xCx}   {post : xMem → Prop} (C : xOk (WC g) x cX6_readClause RX6 4 none (rm_X6_readClause) (pV post))   (x1 : Int32) (M : xMem)  (h : wX6_readClause_36 post x1 M) : xW (WC g) x 4 36 [(0, .ref (ga g 32)), (1, .int x1)] [] M := by
  unfold wX6_readClause_36 at h
  refine x_aload_n C 0 rfl rfl dX6_readClause_36 ?_
  refine x_dup C rfl dX6_readClause_37 ?_
  refine x_get C (c := 32) (ci := 6) (k1 := 3) (v1 := .int (gi M 32 3)) (enC_6 (c := 32) rfl) (Nat.le_of_ble_eq_true rfl) rfl inX6 (by decide) wf_X6_26 rfl dX6_readClause_38 ?_
  refine x_iconst C (v1 := 1) dX6_readClause_41 (by decide) ?_
  refine x_iadd C dX6_readClause_42 ?_
  refine x_put C (c := 32) (ci := 6) (k1 := 3) (u1 := ((gi M 32 3) + 1)) (v1 := .int ((gi M 32 3) + 1)) (ty := .int) (enC_6 (c := 32) rfl) (Nat.le_of_ble_eq_true rfl) rfl inX6 (by decide) (stX6_3 _ _ _) tyX6 tyX6_ok nmX6 wf_X6_26 rfl rfl rfl rfl (Nat.le_of_ble_eq_true rfl) dX6_readClause_43 ?_
  refine x_nmM (fun M1 eM1 => ?_)
  replace h := h M1 eM1
  refine x_aload_n C 0 rfl rfl dX6_readClause_46 ?_
  refine x_get C (c := 32) (ci := 6) (k1 := 0) (v1 := .ref (ga g 33)) (enC_6 (c := 32) rfl) (Nat.le_of_ble_eq_true rfl) rfl inX6 (by decide) wf_X6_12 rfl dX6_readClause_47 ?_
  refine x_getN C (c := 33) (ci := 5) (k1 := 5) (v1 := .int (gi M1 33 5)) (enC_5 (c := 33) rfl) (Nat.le_of_ble_eq_true rfl) rfl inX5 (by decide) wfn_X6_60 rfl dX6_readClause_50 ?_
  refine x_nm (fun v2 ev2 => ?_)
  replace h := h v2 ev2
  refine x_istore_n C (L' := [(2, .int v2), (0, .ref (ga g 32)), (1, .int x1)]) rfl rfl (Nat.le_of_ble_eq_true rfl) dX6_readClause_53 ?_
  refine x_iload_n C 2 rfl rfl dX6_readClause_54 ?_
  refine x_bipush C (v1 := 6) dX6_readClause_55 (by decide) ?_
  refine x_icmp_eq C (tgt := 65) dX6_readClause_57 (by decide) (fun hq3 => ?_) (fun hq3 => ?_)
  · replace h := x_ift hq3 h
    refine x_loc (L' := [(0, .ref (ga g 32)), (1, .int x1), (2, .int v2)]) [1, 2, 0] rfl ?_
    exact tX6_readClause_65 hg  C   _ _ _  h
  · replace h := x_iff hq3 h
    refine x_aload_n C 1 rfl rfl dX6_readClause_60 ?_
    refine x_iconst C (v1 := 0) dX6_readClause_61 (by decide) ?_
    refine x_callV C (st := []) (As := [.int 0]) (c := 32) (ci := 6) (enC_6 (c := 32) rfl) (Nat.le_of_ble_eq_true rfl) rfl (tX6_readSum hg 12 _ _ _ _  h) wm_X6_61 wi_X6_readSum wv_X6_readSum wz_X6 wc_X6_readSum rfl yd_X6_readSum rfl ⟨rfl, rfl⟩ ⟨Nat.le_of_ble_eq_true rfl, Nat.le_of_ble_eq_true rfl⟩ (Nat.le_of_ble_eq_true rfl) rfl dX6_readClause_62 (x_kv (fun M4 h => ?_))
    refine x_loc (L' := [(0, .ref (ga g 32)), (1, .int x1), (2, .int v2)]) [1, 2, 0] rfl ?_
    exact tX6_readClause_65 hg  C   _ _ _  h
set_option maxHeartbeats 4000000 in
set_option maxRecDepth 100000 in
theorem tX6_readClause {g : xG} (hg : x_inj (WC g))  (l : Launch)  (M : xMem) (post : xMem → Prop)  (h : wX6_readClause  M post) : xMet (WC g) l yX6_readClause cX6_readClause 4 none (rm_X6_readClause) [.ref (ga g 32)] M (pV post) := by
  refine x_enter (own := RX6) (L0 := [(0, .ref (ga g 32))]) (by decide +kernel) rfl hg (x_stC g) (Nat.le_of_ble_eq_true rfl) rfl (fun x hl C => ?_)
  unfold wX6_readClause at h
  refine x_aload_n C 0 rfl rfl dX6_readClause_0 ?_
  refine x_ldcS C 1 rfl dX6_readClause_1 ?_
  refine x_callV C (st := []) (As := [.ref (gK g 1)]) (c := 32) (ci := 6) (enC_6 (c := 32) rfl) (Nat.le_of_ble_eq_true rfl) rfl (tX6_placeIn hg _ _ _ _ (by decide) h) wm_X6_53 wi_X6_placeIn wv_X6_placeIn wz_X6 wc_X6_placeIn rfl yd_X6_placeIn rfl ⟨rfl, rfl⟩ ⟨Nat.le_of_ble_eq_true rfl, Nat.le_of_ble_eq_true rfl⟩ (Nat.le_of_ble_eq_true rfl) rfl dX6_readClause_3 (x_ki (fun r2 M1 h => ?_))
  refine x_istore_n C (L' := [(1, .int r2), (0, .ref (ga g 32))]) rfl rfl (Nat.le_of_ble_eq_true rfl) dX6_readClause_6 ?_
  refine x_iload_n C 0 rfl rfl dX6_readClause_7 ?_
  refine x_if_ge C (tgt := 19) dX6_readClause_8 (by decide) (fun hq3 => ?_) (fun hq3 => ?_)
  · replace h := x_ift hq3 h
    refine x_aload_n C 1 rfl rfl dX6_readClause_19 ?_
    refine x_get C (c := 32) (ci := 6) (k1 := 0) (v1 := .ref (ga g 33)) (enC_6 (c := 32) rfl) (Nat.le_of_ble_eq_true rfl) rfl inX6 (by decide) wf_X6_12 rfl dX6_readClause_20 ?_
    refine x_getN C (c := 33) (ci := 5) (k1 := 0) (v1 := .int (gi M1 33 0)) (enC_5 (c := 33) rfl) (Nat.le_of_ble_eq_true rfl) rfl inX5 (by decide) wfn_X6_48 rfl dX6_readClause_23 ?_
    refine x_bipush C (v1 := 16) dX6_readClause_26 (by decide) ?_
    refine x_icmp_lt C (tgt := 36) dX6_readClause_28 (by decide) (fun hq4 => ?_) (fun hq4 => ?_)
    · replace h := x_ift hq4 h
      refine x_loc (L' := [(0, .ref (ga g 32)), (1, .int r2)]) [1, 0] rfl ?_
      exact tX6_readClause_36 hg  C   _ _  h
    · replace h := x_iff hq4 h
      refine x_aload_n C 1 rfl rfl dX6_readClause_31 ?_
      refine x_iconst C (v1 := 4) dX6_readClause_32 (by decide) ?_
      refine x_callV C (st := []) (As := [.int 4]) (c := 32) (ci := 6) (enC_6 (c := 32) rfl) (Nat.le_of_ble_eq_true rfl) rfl (tX6_refuse hg _ _ _ _  h) wm_X6_57 wi_X6_refuse wv_X6_refuse wz_X6 wc_X6_refuse rfl yd_X6_refuse rfl ⟨rfl, rfl⟩ ⟨Nat.le_of_ble_eq_true rfl, Nat.le_of_ble_eq_true rfl⟩ (Nat.le_of_ble_eq_true rfl) rfl dX6_readClause_33 (x_kv (fun M5 h => ?_))
      refine x_loc (L' := [(0, .ref (ga g 32)), (1, .int r2)]) [1, 0] rfl ?_
      exact tX6_readClause_36 hg  C   _ _  h
  · replace h := x_iff hq3 h
    refine x_aload_n C 1 rfl rfl dX6_readClause_11 ?_
    refine x_iconst C (v1 := 1) dX6_readClause_12 (by decide) ?_
    refine x_callV C (st := []) (As := [.int 1]) (c := 32) (ci := 6) (enC_6 (c := 32) rfl) (Nat.le_of_ble_eq_true rfl) rfl (tX6_refuse hg _ _ _ _  h) wm_X6_57 wi_X6_refuse wv_X6_refuse wz_X6 wc_X6_refuse rfl yd_X6_refuse rfl ⟨rfl, rfl⟩ ⟨Nat.le_of_ble_eq_true rfl, Nat.le_of_ble_eq_true rfl⟩ (Nat.le_of_ble_eq_true rfl) rfl dX6_readClause_13 (x_kv (fun M6 h => ?_))
    refine x_goto C (tgt := 36) dX6_readClause_16 (by decide) ?_
    refine x_loc (L' := [(0, .ref (ga g 32)), (1, .int r2)]) [1, 0] rfl ?_
    exact tX6_readClause_36 hg  C   _ _  h
set_option maxHeartbeats 4000000 in
set_option maxRecDepth 100000 in
theorem tX6_read_79 {g : xG} (hg : x_inj (WC g))  {x : xCx}   {post : Int32 → xMem → Prop} (C : xOk (WC g) x cX6_read RX6 4 (some .int) (rm_X6_read) (pI post))    (M : xMem)  (h : wX6_read_79 post  M) : xW (WC g) x 4 79 [(0, .ref (ga g 32))] [] M := by
  unfold wX6_read_79 at h
  refine x_aload_n C 0 rfl rfl dX6_read_79 ?_
  refine x_get C (c := 32) (ci := 6) (k1 := 4) (v1 := .int (gi M 32 4)) (enC_6 (c := 32) rfl) (Nat.le_of_ble_eq_true rfl) rfl inX6 (by decide) wf_X6_29 rfl dX6_read_80 ?_
  refine x_if_eq C (tgt := 93) dX6_read_83 (by decide) (fun hq1 => ?_) (fun hq1 => ?_)
  · replace h := x_ift hq1 h
    refine x_aload_n C 0 rfl rfl dX6_read_93 ?_
    refine x_get C (c := 32) (ci := 6) (k1 := 0) (v1 := .ref (ga g 33)) (enC_6 (c := 32) rfl) (Nat.le_of_ble_eq_true rfl) rfl inX6 (by decide) wf_X6_12 rfl dX6_read_94 ?_
    refine x_getN C (c := 33) (ci := 5) (k1 := 0) (v1 := .int (gi M 33 0)) (enC_5 (c := 33) rfl) (Nat.le_of_ble_eq_true rfl) rfl inX5 (by decide) wfn_X6_48 rfl dX6_read_97 ?_
    exact x_iret C dX6_read_100 ⟨_, rfl, h⟩
  · replace h := x_iff hq1 h
    refine x_aload_n C 0 rfl rfl dX6_read_86 ?_
    refine x_get C (c := 32) (ci := 6) (k1 := 4) (v1 := .int (gi M 32 4)) (enC_6 (c := 32) rfl) (Nat.le_of_ble_eq_true rfl) rfl inX6 (by decide) wf_X6_29 rfl dX6_read_87 ?_
    refine x_goto C (tgt := 100) dX6_read_90 (by decide) ?_
    exact x_iret C dX6_read_100 ⟨_, rfl, h⟩
set_option maxHeartbeats 4000000 in
set_option maxRecDepth 100000 in
theorem tX6_read_38 {g : xG} (hg : x_inj (WC g))  {x : xCx}   {post : Int32 → xMem → Prop} (C : xOk (WC g) x cX6_read RX6 4 (some .int) (rm_X6_read) (pI post))   : ∀ (n : Nat) (x3 : Int32) (M : xMem), wX6_read_38 post n x3 M → xW (WC g) x 4 38 [(0, .ref (ga g 32)), (3, .int x3)] [] M := by
  intro n
  induction n with
  | zero =>
    intro x3 M  h
    exact h.elim
  | succ n ih =>
    intro x3 M  h
    rw [wX6_read_38] at h
    refine x_iload_n C 1 rfl rfl dX6_read_38 ?_
    refine x_sipush C (v1 := 240) dX6_read_39 (by decide) ?_
    refine x_icmp_ge C (tgt := 79) dX6_read_42 (by decide) (fun hq1 => ?_) (fun hq1 => ?_)
    · replace h := x_ift hq1 h
      refine x_loc (L' := [(0, .ref (ga g 32))]) [0] rfl ?_
      exact tX6_read_79 hg  C   _  h
    · replace h := x_iff hq1 h
      refine x_aload_n C 0 rfl rfl dX6_read_45 ?_
      refine x_get C (c := 32) (ci := 6) (k1 := 4) (v1 := .int (gi M 32 4)) (enC_6 (c := 32) rfl) (Nat.le_of_ble_eq_true rfl) rfl inX6 (by decide) wf_X6_29 rfl dX6_read_46 ?_
      refine x_if_ne C (tgt := 79) dX6_read_49 (by decide) (fun hq2 => ?_) (fun hq2 => ?_)
      · replace h := x_iff hq2 h
        refine x_loc (L' := [(0, .ref (ga g 32))]) [0] rfl ?_
        exact tX6_read_79 hg  C   _  h
      · replace h := x_ift hq2 h
        refine x_aload_n C 0 rfl rfl dX6_read_52 ?_
        refine x_get C (c := 32) (ci := 6) (k1 := 3) (v1 := .int (gi M 32 3)) (enC_6 (c := 32) rfl) (Nat.le_of_ble_eq_true rfl) rfl inX6 (by decide) wf_X6_26 rfl dX6_read_53 ?_
        refine x_aload_n C 0 rfl rfl dX6_read_56 ?_
        refine x_get C (c := 32) (ci := 6) (k1 := 2) (v1 := .int (gi M 32 2)) (enC_6 (c := 32) rfl) (Nat.le_of_ble_eq_true rfl) rfl inX6 (by decide) wf_X6_22 rfl dX6_read_57 ?_
        refine x_icmp_ge C (tgt := 79) dX6_read_60 (by decide) (fun hq3 => ?_) (fun hq3 => ?_)
        · replace h := x_ift hq3 h
          refine x_loc (L' := [(0, .ref (ga g 32))]) [0] rfl ?_
          exact tX6_read_79 hg  C   _  h
        · replace h := x_iff hq3 h
          refine x_aload_n C 0 rfl rfl dX6_read_63 ?_
          refine x_bipush C (v1 := 59) dX6_read_64 (by decide) ?_
          refine x_callV C (st := []) (As := [.int 59]) (c := 32) (ci := 6) (enC_6 (c := 32) rfl) (Nat.le_of_ble_eq_true rfl) rfl (tX6_take hg _ _ _ _  h) wm_X6_44 wi_X6_take wv_X6_take wz_X6 wc_X6_take rfl yd_X6_take rfl ⟨rfl, rfl⟩ ⟨Nat.le_of_ble_eq_true rfl, Nat.le_of_ble_eq_true rfl⟩ (Nat.le_of_ble_eq_true rfl) rfl dX6_read_66 (x_kv (fun M4 h => ?_))
          refine x_aload_n C 0 rfl rfl dX6_read_69 ?_
          refine x_callV C (st := []) (As := []) (c := 32) (ci := 6) (enC_6 (c := 32) rfl) (Nat.le_of_ble_eq_true rfl) rfl (tX6_readClause hg _  _ _  h) wm_X6_41 wi_X6_readClause wv_X6_readClause wz_X6 wc_X6_readClause rfl yd_X6_readClause rfl ⟨rfl, rfl⟩ ⟨Nat.le_of_ble_eq_true rfl, Nat.le_of_ble_eq_true rfl⟩ (Nat.le_of_ble_eq_true rfl) rfl dX6_read_70 (x_kv (fun M5 h => ?_))
          obtain ⟨v6, ev6⟩ : ∃ z : Int32, z = x3 + 1 := ⟨_, rfl⟩
          replace h := h v6 ev6
          refine x_iinc C 1 (v1 := v6) (L' := [(3, .int v6), (0, .ref (ga g 32))]) rfl (by rw [ev6]; rfl) rfl (Nat.le_of_ble_eq_true rfl) dX6_read_73 ?_
          refine x_goto C (tgt := 38) dX6_read_76 (by decide) ?_
          refine x_loc (L' := [(0, .ref (ga g 32)), (3, .int v6)]) [1, 0] rfl ?_
          exact ih _ _  h
set_option maxHeartbeats 4000000 in
set_option maxRecDepth 100000 in
theorem tX6_read {g : xG} (hg : x_inj (WC g))  (l : Launch) (a1 : Int32) (M : xMem) (post : Int32 → xMem → Prop)  (h : wX6_read a1 M post) : xMet (WC g) l yX6_read cX6_read 4 (some .int) (rm_X6_read) [.ref (ga g 32), .ref (ga g 1), .int a1] M (pI post) := by
  refine x_enter (own := RX6) (L0 := [(0, .ref (ga g 32)), (1, .ref (ga g 1)), (2, .int a1)]) (by decide +kernel) rfl hg (x_stC g) (Nat.le_of_ble_eq_true rfl) rfl (fun x hl C => ?_)
  unfold wX6_read at h
  refine x_aload_n C 0 rfl rfl dX6_read_0 ?_
  refine x_aload_n C 1 rfl rfl dX6_read_1 ?_
  refine x_put C (c := 32) (ci := 6) (k1 := 1) (u1 := 1) (v1 := .ref (ga g 1)) (ty := (.array .int)) (enC_6 (c := 32) rfl) (Nat.le_of_ble_eq_true rfl) rfl inX6 (by decide) (stX6_1 _ _ _ _ (by decide)) tyX6 tyX6_ok nmX6 wf_X6_18 rfl rfl rfl rfl (Nat.le_of_ble_eq_true rfl) dX6_read_2 ?_
  refine x_nmM (fun M1 eM1 => ?_)
  replace h := h M1 eM1
  refine x_aload_n C 0 rfl rfl dX6_read_5 ?_
  refine x_iload_n C 2 rfl rfl dX6_read_6 ?_
  refine x_aload_n C 1 rfl rfl dX6_read_7 ?_
  refine x_aleni C (c := 1) (v1 := 260) (enC_20n (c := 1) (n := 260) rfl rfl) (Nat.le_of_ble_eq_true rfl) rfl rfl dX6_read_8 ?_
  refine x_callS C (st := [.ref (ga g 32)]) (As := [.int a1, .int 260]) (tJ9_min_7cf53 hg _ _ _ _ _  h) wm_X6_32 wsm_J9_min_7cf53 wz_J9 wc_J9_min_7cf53 yd_J9_min_7cf53 rfl ⟨rfl, rfl⟩ ⟨Nat.le_of_ble_eq_true rfl, Nat.le_of_ble_eq_true rfl⟩ (Nat.le_of_ble_eq_true rfl) rfl dX6_read_9 (x_ki (fun r3 M2 h => ?_))
  refine x_put C (c := 32) (ci := 6) (k1 := 2) (u1 := r3) (v1 := .int r3) (ty := .int) (enC_6 (c := 32) rfl) (Nat.le_of_ble_eq_true rfl) rfl inX6 (by decide) (stX6_2 _ _ _) tyX6 tyX6_ok nmX6 wf_X6_22 rfl rfl rfl rfl (Nat.le_of_ble_eq_true rfl) dX6_read_12 ?_
  refine x_nmM (fun M4 eM4 => ?_)
  replace h := h M4 eM4
  refine x_aload_n C 0 rfl rfl dX6_read_15 ?_
  refine x_iconst C (v1 := 0) dX6_read_16 (by decide) ?_
  refine x_put C (c := 32) (ci := 6) (k1 := 3) (u1 := 0) (v1 := .int 0) (ty := .int) (enC_6 (c := 32) rfl) (Nat.le_of_ble_eq_true rfl) rfl inX6 (by decide) (stX6_3 _ _ _) tyX6 tyX6_ok nmX6 wf_X6_26 rfl rfl rfl rfl (Nat.le_of_ble_eq_true rfl) dX6_read_17 ?_
  refine x_nmM (fun M5 eM5 => ?_)
  replace h := h M5 eM5
  refine x_aload_n C 0 rfl rfl dX6_read_20 ?_
  refine x_iconst C (v1 := 0) dX6_read_21 (by decide) ?_
  refine x_put C (c := 32) (ci := 6) (k1 := 4) (u1 := 0) (v1 := .int 0) (ty := .int) (enC_6 (c := 32) rfl) (Nat.le_of_ble_eq_true rfl) rfl inX6 (by decide) (stX6_4 _ _ _) tyX6 tyX6_ok nmX6 wf_X6_29 rfl rfl rfl rfl (Nat.le_of_ble_eq_true rfl) dX6_read_22 ?_
  refine x_nmM (fun M6 eM6 => ?_)
  replace h := h M6 eM6
  refine x_aload_n C 0 rfl rfl dX6_read_25 ?_
  refine x_get C (c := 32) (ci := 6) (k1 := 0) (v1 := .ref (ga g 33)) (enC_6 (c := 32) rfl) (Nat.le_of_ble_eq_true rfl) rfl inX6 (by decide) wf_X6_12 rfl dX6_read_26 ?_
  refine x_callVN C (st := []) (As := []) (c := 33) (ci := 5) (enC_5 (c := 33) rfl) (Nat.le_of_ble_eq_true rfl) rfl (tX5_clear hg _ _ _ _ rfl h) wmn_X6_38 wi_X5_clear wv_X5_clear wz_X5 wc_X5_clear yd_X5_clear rfl ⟨rfl, rfl⟩ ⟨Nat.le_of_ble_eq_true rfl, Nat.le_of_ble_eq_true rfl⟩ (Nat.le_of_ble_eq_true rfl) rfl dX6_read_29 (x_kv (fun M7 h => ?_))
  refine x_aload_n C 0 rfl rfl dX6_read_32 ?_
  refine x_callV C (st := []) (As := []) (c := 32) (ci := 6) (enC_6 (c := 32) rfl) (Nat.le_of_ble_eq_true rfl) rfl (tX6_readClause hg _  _ _  h) wm_X6_41 wi_X6_readClause wv_X6_readClause wz_X6 wc_X6_readClause rfl yd_X6_readClause rfl ⟨rfl, rfl⟩ ⟨Nat.le_of_ble_eq_true rfl, Nat.le_of_ble_eq_true rfl⟩ (Nat.le_of_ble_eq_true rfl) rfl dX6_read_33 (x_kv (fun M8 h => ?_))
  refine x_iconst C (v1 := 0) dX6_read_36 (by decide) ?_
  refine x_istore_n C (L' := [(3, .int 0), (0, .ref (ga g 32)), (1, .ref (ga g 1)), (2, .int a1)]) rfl rfl (Nat.le_of_ble_eq_true rfl) dX6_read_37 ?_
  refine x_loc (L' := [(0, .ref (ga g 32)), (3, .int 0)]) [1, 0] rfl ?_
  obtain ⟨n38, h⟩ := h
  exact tX6_read_38 hg  C   _ _ _  h
set_option maxHeartbeats 4000000 in
set_option maxRecDepth 100000 in
theorem tX11_law {g : xG} (hg : x_inj (WC g))  (l : Launch) (a0 : Int32) (M : xMem) (post : Int32 → xMem → Prop)  (h : wX11_law a0 M post) : xMet (WC g) l yX11_law cX11_law 3 (some .int) (rm_X11_law) [.ref (ga g 0), .int a0] M (pI post) := by
  refine x_enter (own := RX11) (L0 := [(0, .ref (ga g 0)), (1, .int a0)]) (by decide +kernel) rfl hg (x_stC g) (Nat.le_of_ble_eq_true rfl) rfl (fun x hl C => ?_)
  unfold wX11_law at h
  refine x_aload_n C 0 rfl rfl dX11_law_0 ?_
  refine x_iload_n C 1 rfl rfl dX11_law_1 ?_
  refine x_iconst C (v1 := 1) dX11_law_2 (by decide) ?_
  refine x_sipush C (v1 := 240) dX11_law_3 (by decide) ?_
  refine x_callV C (st := []) (As := [.int a0, .int 1, .int 240]) (c := 0) (ci := 11) (enC_11 (c := 0) rfl) (Nat.le_of_ble_eq_true rfl) rfl (tX11_tapeGives hg _ _ _ _ _ _  h) wm_X11_119 wi_X11_tapeGives wv_X11_tapeGives wz_X11 wc_X11_tapeGives rfl yd_X11_tapeGives rfl ⟨rfl, rfl⟩ ⟨Nat.le_of_ble_eq_true rfl, Nat.le_of_ble_eq_true rfl⟩ (Nat.le_of_ble_eq_true rfl) rfl dX11_law_6 (x_ki (fun r2 M1 h => ?_))
  refine x_if_ne C (tgt := 14) dX11_law_9 (by decide) (fun hq3 => ?_) (fun hq3 => ?_)
  · replace h := x_iff hq3 h
    refine x_aload_n C 0 rfl rfl dX11_law_14 ?_
    refine x_iconst C (v1 := 0) dX11_law_15 (by decide) ?_
    refine x_put C (c := 0) (ci := 11) (k1 := 1) (u1 := 0) (v1 := .int 0) (ty := .int) (enC_11 (c := 0) rfl) (Nat.le_of_ble_eq_true rfl) rfl inX11 (by decide) (stX11_1 _ _ _) tyX11 tyX11_ok nmX11 wf_X11_13 rfl rfl rfl rfl (Nat.le_of_ble_eq_true rfl) dX11_law_16 ?_
    refine x_nmM (fun M4 eM4 => ?_)
    replace h := h M4 eM4
    refine x_aload_n C 0 rfl rfl dX11_law_19 ?_
    refine x_get C (c := 0) (ci := 11) (k1 := 6) (v1 := .ref (ga g 32)) (enC_11 (c := 0) rfl) (Nat.le_of_ble_eq_true rfl) rfl inX11 (by decide) wf_X11_43 rfl dX11_law_20 ?_
    refine x_aload_n C 0 rfl rfl dX11_law_23 ?_
    refine x_get C (c := 0) (ci := 11) (k1 := 0) (v1 := .ref (ga g 1)) (enC_11 (c := 0) rfl) (Nat.le_of_ble_eq_true rfl) rfl inX11 (by decide) wf_X11_9 rfl dX11_law_24 ?_
    refine x_iload_n C 1 rfl rfl dX11_law_27 ?_
    refine x_callVN C (st := []) (As := [.ref (ga g 1), .int a0]) (c := 32) (ci := 6) (enC_6 (c := 32) rfl) (Nat.le_of_ble_eq_true rfl) rfl (tX6_read hg _ _ _ _  h) wmn_X11_137 wi_X6_read wv_X6_read wz_X6 wc_X6_read yd_X6_read rfl ⟨rfl, rfl⟩ ⟨Nat.le_of_ble_eq_true rfl, Nat.le_of_ble_eq_true rfl⟩ (Nat.le_of_ble_eq_true rfl) rfl dX11_law_28 (x_ki (fun r6 M5 h => ?_))
    refine x_istore_n C (L' := [(2, .int r6), (0, .ref (ga g 0)), (1, .int a0)]) rfl rfl (Nat.le_of_ble_eq_true rfl) dX11_law_31 ?_
    refine x_iload_n C 0 rfl rfl dX11_law_32 ?_
    refine x_if_le C (tgt := 50) dX11_law_33 (by decide) (fun hq7 => ?_) (fun hq7 => ?_)
    · replace h := x_ift hq7 h
      refine x_iload_n C 0 rfl rfl dX11_law_50 ?_
      exact x_iret C dX11_law_51 ⟨_, rfl, h⟩
    · replace h := x_iff hq7 h
      refine x_aload_n C 1 rfl rfl dX11_law_36 ?_
      refine x_get C (c := 0) (ci := 11) (k1 := 4) (v1 := .ref (ga g 18)) (enC_11 (c := 0) rfl) (Nat.le_of_ble_eq_true rfl) rfl inX11 (by decide) wf_X11_33 rfl dX11_law_37 ?_
      refine x_aload_n C 1 rfl rfl dX11_law_40 ?_
      refine x_get C (c := 0) (ci := 11) (k1 := 6) (v1 := .ref (ga g 32)) (enC_11 (c := 0) rfl) (Nat.le_of_ble_eq_true rfl) rfl inX11 (by decide) wf_X11_43 rfl dX11_law_41 ?_
      refine x_getN C (c := 32) (ci := 6) (k1 := 0) (v1 := .ref (ga g 33)) (enC_6 (c := 32) rfl) (Nat.le_of_ble_eq_true rfl) rfl inX6 (by decide) wfn_X11_138 rfl dX11_law_44 ?_
      refine x_callVN C (st := []) (As := [.ref (ga g 33)]) (c := 18) (ci := 5) (enC_5 (c := 18) rfl) (Nat.le_of_ble_eq_true rfl) rfl (tX5_takeFrom hg _ _ _ _ _ rfl rfl h) wmn_X11_141 wi_X5_takeFrom wv_X5_takeFrom wz_X5 wc_X5_takeFrom yd_X5_takeFrom rfl ⟨rfl, rfl⟩ ⟨Nat.le_of_ble_eq_true rfl, Nat.le_of_ble_eq_true rfl⟩ (Nat.le_of_ble_eq_true rfl) rfl dX11_law_47 (x_kv (fun M8 h => ?_))
      refine x_iload_n C 0 rfl rfl dX11_law_50 ?_
      exact x_iret C dX11_law_51 ⟨_, rfl, h⟩
  · replace h := x_ift hq3 h
    refine x_iconst C (v1 := (-1)) dX11_law_12 (by decide) ?_
    exact x_iret C dX11_law_13 ⟨_, rfl, h⟩
set_option maxHeartbeats 4000000 in
set_option maxRecDepth 100000 in
theorem tX2_take {g : xG} (hg : x_inj (WC g))  (l : Launch) (a0 : Int32) (a1 : Int32) (a2 : Int32) (a3 : Int32) (M : xMem) (post : xMem → Prop)  (h : wX2_take a0 a1 a2 a3 M post) : xMet (WC g) l yX2_take cX2_take 5 none (rm_X2_take) [.ref (ga g 41), .int a0, .int a1, .int a2, .int a3] M (pV post) := by
  refine x_enter (own := RX2) (L0 := [(0, .ref (ga g 41)), (1, .int a0), (2, .int a1), (3, .int a2), (4, .int a3)]) (by decide +kernel) rfl hg (x_stC g) (Nat.le_of_ble_eq_true rfl) rfl (fun x hl C => ?_)
  unfold wX2_take at h
  refine x_aload_n C 0 rfl rfl dX2_take_0 ?_
  refine x_get C (c := 41) (ci := 2) (k1 := 1) (v1 := .ref (ga g 42)) (enC_2 (c := 41) rfl) (Nat.le_of_ble_eq_true rfl) rfl inX2 (by decide) wf_X2_15 rfl dX2_take_1 ?_
  refine x_iload_n C 1 rfl rfl dX2_take_4 ?_
  refine x_iload_n C 2 rfl rfl dX2_take_5 ?_
  obtain ⟨hi1, h⟩ := h
  refine x_iast C 0 (c := 42) (enC_20n (c := 42) (n := 10) rfl rfl) (Nat.le_of_ble_eq_true rfl) rfl hi1 dX2_take_6 ?_
  refine x_nmM (fun M2 eM2 => ?_)
  replace h := h M2 eM2
  refine x_aload_n C 0 rfl rfl dX2_take_7 ?_
  refine x_get C (c := 41) (ci := 2) (k1 := 2) (v1 := .ref (ga g 43)) (enC_2 (c := 41) rfl) (Nat.le_of_ble_eq_true rfl) rfl inX2 (by decide) wf_X2_19 rfl dX2_take_8 ?_
  refine x_iload_n C 1 rfl rfl dX2_take_11 ?_
  refine x_iload_n C 3 rfl rfl dX2_take_12 ?_
  obtain ⟨hi3, h⟩ := h
  refine x_iast C 0 (c := 43) (enC_20n (c := 43) (n := 10) rfl rfl) (Nat.le_of_ble_eq_true rfl) rfl hi3 dX2_take_13 ?_
  refine x_nmM (fun M4 eM4 => ?_)
  replace h := h M4 eM4
  refine x_aload_n C 0 rfl rfl dX2_take_14 ?_
  refine x_get C (c := 41) (ci := 2) (k1 := 3) (v1 := .ref (ga g 44)) (enC_2 (c := 41) rfl) (Nat.le_of_ble_eq_true rfl) rfl inX2 (by decide) wf_X2_22 rfl dX2_take_15 ?_
  refine x_iload_n C 1 rfl rfl dX2_take_18 ?_
  refine x_iload C 4 rfl dX2_take_19 ?_
  obtain ⟨hi5, h⟩ := h
  refine x_iast C 0 (c := 44) (enC_20n (c := 44) (n := 10) rfl rfl) (Nat.le_of_ble_eq_true rfl) rfl hi5 dX2_take_21 ?_
  refine x_nmM (fun M6 eM6 => ?_)
  replace h := h M6 eM6
  refine x_aload_n C 0 rfl rfl dX2_take_22 ?_
  refine x_dup C rfl dX2_take_23 ?_
  refine x_get C (c := 41) (ci := 2) (k1 := 0) (v1 := .int (gi M6 41 0)) (enC_2 (c := 41) rfl) (Nat.le_of_ble_eq_true rfl) rfl inX2 (by decide) wf_X2_9 rfl dX2_take_24 ?_
  refine x_iconst C (v1 := 1) dX2_take_27 (by decide) ?_
  refine x_iload_n C 1 rfl rfl dX2_take_28 ?_
  refine x_ishl C dX2_take_29 ?_
  refine x_ior C dX2_take_30 ?_
  refine x_put C (c := 41) (ci := 2) (k1 := 0) (u1 := ((gi M6 41 0) ||| (1 <<< (a0 &&& 31)))) (v1 := .int ((gi M6 41 0) ||| (1 <<< (a0 &&& 31)))) (ty := .int) (enC_2 (c := 41) rfl) (Nat.le_of_ble_eq_true rfl) rfl inX2 (by decide) (stX2_0 _ _ _) tyX2 tyX2_ok nmX2 wf_X2_9 rfl rfl rfl rfl (Nat.le_of_ble_eq_true rfl) dX2_take_31 ?_
  refine x_nmM (fun M7 eM7 => ?_)
  replace h := h M7 eM7
  exact x_vret C dX2_take_34 ⟨rfl, h⟩
set_option maxHeartbeats 4000000 in
set_option maxRecDepth 100000 in
theorem tX11_end_58 {g : xG} (hg : x_inj (WC g))  {x : xCx}   {post : Int32 → xMem → Prop} (C : xOk (WC g) x cX11_end RX11 7 (some .boolean) (rm_X11_end) (pI post))   (x1 : Int32) (x2 : Int32) (x3 : Int32) (x4 : Int32) (x5 : Int32) (s0 : Int32) (M : xMem)  (h : wX11_end_58 post x1 x2 x3 x4 x5 s0 M) : xW (WC g) x 7 58 [(0, .ref (ga g 0)), (1, .int x1), (2, .int x2), (3, .int x3), (4, .int x4), (5, .int x5)] [.int s0] M := by
  unfold wX11_end_58 at h
  refine x_istore C (L' := [(6, .int s0), (0, .ref (ga g 0)), (1, .int x1), (2, .int x2), (3, .int x3), (4, .int x4), (5, .int x5)]) rfl (Nat.le_of_ble_eq_true rfl) dX11_end_58 ?_
  refine x_iload C 0 rfl dX11_end_60 ?_
  refine x_if_eq C (tgt := 88) dX11_end_62 (by decide) (fun hq1 => ?_) (fun hq1 => ?_)
  · replace h := x_ift hq1 h
    refine x_iload C 0 rfl dX11_end_88 ?_
    exact x_zret C h.1.1 dX11_end_90 ⟨_, rfl, h.2⟩
  · replace h := x_iff hq1 h
    refine x_aload_n C 1 rfl rfl dX11_end_65 ?_
    refine x_get C (c := 0) (ci := 11) (k1 := 7) (v1 := .ref (ga g 41)) (enC_11 (c := 0) rfl) (Nat.le_of_ble_eq_true rfl) rfl inX11 (by decide) wf_X11_50 rfl dX11_end_66 ?_
    refine x_iload_n C 2 rfl rfl dX11_end_69 ?_
    refine x_iload_n C 3 rfl rfl dX11_end_70 ?_
    refine x_iload_n C 4 rfl rfl dX11_end_71 ?_
    refine x_iload C 6 rfl dX11_end_72 ?_
    refine x_callVN C (st := []) (As := [.int x1, .int x2, .int x3, .int x5]) (c := 41) (ci := 2) (enC_2 (c := 41) rfl) (Nat.le_of_ble_eq_true rfl) rfl (tX2_take hg _ _ _ _ _ _ _  h) wmn_X11_148 wi_X2_take wv_X2_take wz_X2 wc_X2_take yd_X2_take rfl ⟨rfl, rfl⟩ ⟨Nat.le_of_ble_eq_true rfl, Nat.le_of_ble_eq_true rfl⟩ (Nat.le_of_ble_eq_true rfl) rfl dX11_end_74 (x_kv (fun M2 h => ?_))
    refine x_aload_n C 1 rfl rfl dX11_end_77 ?_
    refine x_get C (c := 0) (ci := 11) (k1 := 8) (v1 := .ref (ga g 49)) (enC_11 (c := 0) rfl) (Nat.le_of_ble_eq_true rfl) rfl inX11 (by decide) wf_X11_57 rfl dX11_end_78 ?_
    refine x_getN C (c := 49) (ci := 4) (k1 := 9) (v1 := .ref (ga g 57)) (enC_4 (c := 49) rfl) (Nat.le_of_ble_eq_true rfl) rfl inX4 (by decide) wfn_X11_151 rfl dX11_end_81 ?_
    refine x_iload_n C 2 rfl rfl dX11_end_84 ?_
    refine x_iload C 5 rfl dX11_end_85 ?_
    obtain ⟨hi3, h⟩ := h
    refine x_iast C 0 (c := 57) (enC_20n (c := 57) (n := 10) rfl rfl) (Nat.le_of_ble_eq_true rfl) rfl hi3 dX11_end_87 ?_
    refine x_nmM (fun M4 eM4 => ?_)
    replace h := h M4 eM4
    refine x_iload C 0 rfl dX11_end_88 ?_
    exact x_zret C h.1.1 dX11_end_90 ⟨_, rfl, h.2⟩
set_option maxHeartbeats 4000000 in
set_option maxRecDepth 100000 in
theorem tX11_end_57 {g : xG} (hg : x_inj (WC g))  {x : xCx}   {post : Int32 → xMem → Prop} (C : xOk (WC g) x cX11_end RX11 7 (some .boolean) (rm_X11_end) (pI post))   (x1 : Int32) (x2 : Int32) (x3 : Int32) (x4 : Int32) (x5 : Int32) (M : xMem)  (h : wX11_end_57 post x1 x2 x3 x4 x5 M) : xW (WC g) x 7 57 [(0, .ref (ga g 0)), (1, .int x1), (2, .int x2), (3, .int x3), (4, .int x4), (5, .int x5)] [] M := by
  unfold wX11_end_57 at h
  refine x_iconst C (v1 := 0) dX11_end_57 (by decide) ?_
  exact tX11_end_58 hg  C   _ _ _ _ _ _ _  h
set_option maxHeartbeats 4000000 in
set_option maxRecDepth 100000 in
theorem tX11_end {g : xG} (hg : x_inj (WC g))  (l : Launch) (a0 : Int32) (a1 : Int32) (a2 : Int32) (a3 : Int32) (a4 : Int32) (M : xMem) (post : Int32 → xMem → Prop)  (h : wX11_end a0 a1 a2 a3 a4 M post) : xMet (WC g) l yX11_end cX11_end 7 (some .boolean) (rm_X11_end) [.ref (ga g 0), .int a0, .int a1, .int a2, .int a3, .int a4] M (pI post) := by
  refine x_enter (own := RX11) (L0 := [(0, .ref (ga g 0)), (1, .int a0), (2, .int a1), (3, .int a2), (4, .int a3), (5, .int a4)]) (by decide +kernel) rfl hg (x_stC g) (Nat.le_of_ble_eq_true rfl) rfl (fun x hl C => ?_)
  unfold wX11_end at h
  refine x_iload_n C 1 rfl rfl dX11_end_0 ?_
  refine x_iconst C (v1 := 0) dX11_end_1 (by decide) ?_
  refine x_bipush C (v1 := 9) dX11_end_2 (by decide) ?_
  refine x_callS C (st := []) (As := [.int a0, .int 0, .int 9]) (tX11_isWithin hg _ _ _ _ _ _  h) wm_X11_145 wsm_X11_isWithin wz_X11 wc_X11_isWithin yd_X11_isWithin rfl ⟨rfl, rfl⟩ ⟨Nat.le_of_ble_eq_true rfl, Nat.le_of_ble_eq_true rfl⟩ (Nat.le_of_ble_eq_true rfl) rfl dX11_end_4 (x_ki (fun r2 M1 h => ?_))
  refine x_if_eq C (tgt := 57) dX11_end_7 (by decide) (fun hq3 => ?_) (fun hq3 => ?_)
  · replace h := x_ift hq3 h
    exact tX11_end_57 hg  C   _ _ _ _ _ _  h
  · replace h := x_iff hq3 h
    refine x_iload_n C 2 rfl rfl dX11_end_10 ?_
    refine x_iconst C (v1 := 1) dX11_end_11 (by decide) ?_
    refine x_sipush C (v1 := 1023) dX11_end_12 (by decide) ?_
    refine x_callS C (st := []) (As := [.int a1, .int 1, .int 1023]) (tX11_isWithin hg _ _ _ _ _ _  h) wm_X11_145 wsm_X11_isWithin wz_X11 wc_X11_isWithin yd_X11_isWithin rfl ⟨rfl, rfl⟩ ⟨Nat.le_of_ble_eq_true rfl, Nat.le_of_ble_eq_true rfl⟩ (Nat.le_of_ble_eq_true rfl) rfl dX11_end_15 (x_ki (fun r5 M4 h => ?_))
    refine x_if_eq C (tgt := 57) dX11_end_18 (by decide) (fun hq6 => ?_) (fun hq6 => ?_)
    · replace h := x_ift hq6 h
      exact tX11_end_57 hg  C   _ _ _ _ _ _  h
    · replace h := x_iff hq6 h
      refine x_iload_n C 3 rfl rfl dX11_end_21 ?_
      refine x_iconst C (v1 := 0) dX11_end_22 (by decide) ?_
      refine x_bipush C (v1 := 99) dX11_end_23 (by decide) ?_
      refine x_callS C (st := []) (As := [.int a2, .int 0, .int 99]) (tX11_isWithin hg _ _ _ _ _ _  h) wm_X11_145 wsm_X11_isWithin wz_X11 wc_X11_isWithin yd_X11_isWithin rfl ⟨rfl, rfl⟩ ⟨Nat.le_of_ble_eq_true rfl, Nat.le_of_ble_eq_true rfl⟩ (Nat.le_of_ble_eq_true rfl) rfl dX11_end_25 (x_ki (fun r8 M7 h => ?_))
      refine x_if_eq C (tgt := 57) dX11_end_28 (by decide) (fun hq9 => ?_) (fun hq9 => ?_)
      · replace h := x_ift hq9 h
        exact tX11_end_57 hg  C   _ _ _ _ _ _  h
      · replace h := x_iff hq9 h
        refine x_iload C 4 rfl dX11_end_31 ?_
        refine x_iconst C (v1 := 0) dX11_end_33 (by decide) ?_
        refine x_bipush C (v1 := 9) dX11_end_34 (by decide) ?_
        refine x_callS C (st := []) (As := [.int a3, .int 0, .int 9]) (tX11_isWithin hg _ _ _ _ _ _  h) wm_X11_145 wsm_X11_isWithin wz_X11 wc_X11_isWithin yd_X11_isWithin rfl ⟨rfl, rfl⟩ ⟨Nat.le_of_ble_eq_true rfl, Nat.le_of_ble_eq_true rfl⟩ (Nat.le_of_ble_eq_true rfl) rfl dX11_end_36 (x_ki (fun r11 M10 h => ?_))
        refine x_if_eq C (tgt := 57) dX11_end_39 (by decide) (fun hq12 => ?_) (fun hq12 => ?_)
        · replace h := x_ift hq12 h
          exact tX11_end_57 hg  C   _ _ _ _ _ _  h
        · replace h := x_iff hq12 h
          refine x_iload C 5 rfl dX11_end_42 ?_
          refine x_iconst C (v1 := 1) dX11_end_44 (by decide) ?_
          refine x_bipush C (v1 := 30) dX11_end_45 (by decide) ?_
          refine x_callS C (st := []) (As := [.int a4, .int 1, .int 30]) (tX11_isWithin hg _ _ _ _ _ _  h) wm_X11_145 wsm_X11_isWithin wz_X11 wc_X11_isWithin yd_X11_isWithin rfl ⟨rfl, rfl⟩ ⟨Nat.le_of_ble_eq_true rfl, Nat.le_of_ble_eq_true rfl⟩ (Nat.le_of_ble_eq_true rfl) rfl dX11_end_47 (x_ki (fun r14 M13 h => ?_))
          refine x_if_eq C (tgt := 57) dX11_end_50 (by decide) (fun hq15 => ?_) (fun hq15 => ?_)
          · replace h := x_ift hq15 h
            exact tX11_end_57 hg  C   _ _ _ _ _ _  h
          · replace h := x_iff hq15 h
            refine x_iconst C (v1 := 1) dX11_end_53 (by decide) ?_
            refine x_goto C (tgt := 58) dX11_end_54 (by decide) ?_
            exact tX11_end_58 hg  C   _ _ _ _ _ _ _  h
set_option maxHeartbeats 4000000 in
set_option maxRecDepth 100000 in
theorem tX11_toldStory {g : xG} (hg : x_inj (WC g))  (l : Launch) (a0 : Int32) (M : xMem) (post : Nat → xMem → Prop)  (h : wX11_toldStory a0 M post) : xMet (WC g) l yX11_toldStory cX11_toldStory 3 (some (.object "LineGuild$Story")) (rm_X11_toldStory) [.ref (ga g 0), .int a0] M (pR (WC g) (fun c => kC c = 9) post) := by
  refine x_enter (own := RX11) (L0 := [(0, .ref (ga g 0)), (1, .int a0)]) (by decide +kernel) rfl hg (x_stC g) (Nat.le_of_ble_eq_true rfl) rfl (fun x hl C => ?_)
  unfold wX11_toldStory at h
  refine x_aload_n C 0 rfl rfl dX11_toldStory_0 ?_
  refine x_iload_n C 1 rfl rfl dX11_toldStory_1 ?_
  refine x_callV C (st := []) (As := [.int a0]) (c := 0) (ci := 11) (enC_11 (c := 0) rfl) (Nat.le_of_ble_eq_true rfl) rfl (tX11_storyAt hg _ _ _ _  h) wm_X11_115 wi_X11_storyAt wv_X11_storyAt wz_X11 wc_X11_storyAt rfl yd_X11_storyAt rfl ⟨rfl, rfl⟩ ⟨Nat.le_of_ble_eq_true rfl, Nat.le_of_ble_eq_true rfl⟩ (Nat.le_of_ble_eq_true rfl) rfl dX11_toldStory_2 (x_kr (fun M1 h => ?_) (fun q2 M1 h0 hkq2 h => ?_))
  · replace h := x_ift rfl h
    refine x_astore_nN C (L' := [(2, .null), (0, .ref (ga g 0)), (1, .int a0)]) rfl rfl (Nat.le_of_ble_eq_true rfl) dX11_toldStory_5 ?_
    refine x_aload_nN C 0 rfl rfl dX11_toldStory_6 ?_
    refine x_ifnullN C (tgt := 17) dX11_toldStory_7 (by decide) ?_
    refine x_null C dX11_toldStory_17 ?_
    refine x_goto C (tgt := 22) dX11_toldStory_18 (by decide) ?_
    exact x_aret C (Or.inl rfl) dX11_toldStory_22 ⟨0, rfl, Or.inl rfl, h⟩
  · replace h := x_iff h0 h
    refine x_astore_n C (L' := [(2, .ref (ga g q2)), (0, .ref (ga g 0)), (1, .int a0)]) rfl rfl (Nat.le_of_ble_eq_true rfl) dX11_toldStory_5 ?_
    refine x_aload_n C 0 rfl rfl dX11_toldStory_6 ?_
    refine x_ifnull_r C dX11_toldStory_7 ?_
    refine x_aload_n C 0 rfl rfl dX11_toldStory_10 ?_
    refine x_getN C (c := q2) (ci := 9) (k1 := 1) (v1 := .int (gi M1 q2 1)) (enC_9 (c := q2) hkq2) (kC_lt hkq2 (by decide)) rfl inX9 (by decide) wfn_X11_198 rfl dX11_toldStory_11 ?_
    refine x_if_ne C (tgt := 21) dX11_toldStory_14 (by decide) (fun hq3 => ?_) (fun hq3 => ?_)
    · replace h := x_iff hq3 h
      refine x_aload_n C 0 rfl rfl dX11_toldStory_21 ?_
      exact x_aret C (Or.inr ⟨_, rfl⟩) dX11_toldStory_22 ⟨q2, (congrArg some (x_rfne (w := WC g) (k9_ne hkq2))).symm, Or.inr hkq2, h⟩
    · replace h := x_ift hq3 h
      refine x_null C dX11_toldStory_17 ?_
      refine x_goto C (tgt := 22) dX11_toldStory_18 (by decide) ?_
      exact x_aret C (Or.inl rfl) dX11_toldStory_22 ⟨0, rfl, Or.inl rfl, h⟩
set_option maxHeartbeats 4000000 in
set_option maxRecDepth 100000 in
theorem tX4_takeTeller {g : xG} (hg : x_inj (WC g))  (l : Launch) (o : Nat) (a0 : Int32) (a1 : Int32) (a2 : Int32) (M : xMem) (post : xMem → Prop) (ho : kC o = 4) (h : wX4_takeTeller o a0 a1 a2 M post) : xMet (WC g) l yX4_takeTeller cX4_takeTeller 4 none (rm_X4_takeTeller) [.ref (ga g o), .int a0, .int a1, .int a2] M (pV post) := by
  refine x_enter (own := RX4) (L0 := [(0, .ref (ga g o)), (1, .int a0), (2, .int a1), (3, .int a2)]) (by decide +kernel) rfl hg (x_stC g) (Nat.le_of_ble_eq_true rfl) rfl (fun x hl C => ?_)
  unfold wX4_takeTeller at h
  refine x_aload_n C 0 rfl rfl dX4_takeTeller_0 ?_
  refine x_dup C rfl dX4_takeTeller_1 ?_
  refine x_get C (c := o) (ci := 4) (k1 := 0) (v1 := .int (gi M o 0)) (enC_4 (c := o) ho) (kC_lt ho (by decide)) rfl inX4 (by decide) wf_X4_9 rfl dX4_takeTeller_2 ?_
  refine x_iconst C (v1 := 1) dX4_takeTeller_5 (by decide) ?_
  refine x_iload_n C 1 rfl rfl dX4_takeTeller_6 ?_
  refine x_ishl C dX4_takeTeller_7 ?_
  refine x_ior C dX4_takeTeller_8 ?_
  refine x_put C (c := o) (ci := 4) (k1 := 0) (u1 := ((gi M o 0) ||| (1 <<< (a0 &&& 31)))) (v1 := .int ((gi M o 0) ||| (1 <<< (a0 &&& 31)))) (ty := .int) (enC_4 (c := o) ho) (kC_lt ho (by decide)) rfl inX4 (by decide) (stX4_0 _ _ _) tyX4 tyX4_ok nmX4 wf_X4_9 rfl rfl rfl rfl (Nat.le_of_ble_eq_true rfl) dX4_takeTeller_9 ?_
  refine x_nmM (fun M1 eM1 => ?_)
  replace h := h M1 eM1
  refine x_aload_n C 0 rfl rfl dX4_takeTeller_12 ?_
  refine x_get C (c := o) (ci := 4) (k1 := 1) (v1 := .ref (ga g ((o + 1)))) (enC_4 (c := o) ho) (kC_lt ho (by decide)) rfl inX4 (by decide) wf_X4_15 rfl dX4_takeTeller_13 ?_
  refine x_iload_n C 1 rfl rfl dX4_takeTeller_16 ?_
  refine x_iload_n C 2 rfl rfl dX4_takeTeller_17 ?_
  obtain ⟨hi2, h⟩ := h
  refine x_iast C 0 (c := (o + 1)) (enC_20n (c := (o + 1)) (n := 4) (krX4_1 ho) (lrX4_1 ho)) (kC_lt (krX4_1 ho) (by decide)) rfl hi2 dX4_takeTeller_18 ?_
  refine x_nmM (fun M3 eM3 => ?_)
  replace h := h M3 eM3
  refine x_aload_n C 0 rfl rfl dX4_takeTeller_19 ?_
  refine x_get C (c := o) (ci := 4) (k1 := 2) (v1 := .ref (ga g ((o + 2)))) (enC_4 (c := o) ho) (kC_lt ho (by decide)) rfl inX4 (by decide) wf_X4_19 rfl dX4_takeTeller_20 ?_
  refine x_iload_n C 1 rfl rfl dX4_takeTeller_23 ?_
  refine x_iload_n C 3 rfl rfl dX4_takeTeller_24 ?_
  obtain ⟨hi4, h⟩ := h
  refine x_iast C 0 (c := (o + 2)) (enC_20n (c := (o + 2)) (n := 4) (krX4_2 ho) (lrX4_2 ho)) (kC_lt (krX4_2 ho) (by decide)) rfl hi4 dX4_takeTeller_25 ?_
  refine x_nmM (fun M5 eM5 => ?_)
  replace h := h M5 eM5
  refine x_aload_n C 0 rfl rfl dX4_takeTeller_26 ?_
  refine x_get C (c := o) (ci := 4) (k1 := 3) (v1 := .ref (ga g ((o + 3)))) (enC_4 (c := o) ho) (kC_lt ho (by decide)) rfl inX4 (by decide) wf_X4_22 rfl dX4_takeTeller_27 ?_
  refine x_iload_n C 1 rfl rfl dX4_takeTeller_30 ?_
  refine x_iconst C (v1 := 0) dX4_takeTeller_31 (by decide) ?_
  obtain ⟨hi6, h⟩ := h
  refine x_iast C 0 (c := (o + 3)) (enC_20n (c := (o + 3)) (n := 4) (krX4_3 ho) (lrX4_3 ho)) (kC_lt (krX4_3 ho) (by decide)) rfl hi6 dX4_takeTeller_32 ?_
  refine x_nmM (fun M7 eM7 => ?_)
  replace h := h M7 eM7
  refine x_aload_n C 0 rfl rfl dX4_takeTeller_33 ?_
  refine x_get C (c := o) (ci := 4) (k1 := 4) (v1 := .ref (ga g ((o + 4)))) (enC_4 (c := o) ho) (kC_lt ho (by decide)) rfl inX4 (by decide) wf_X4_25 rfl dX4_takeTeller_34 ?_
  refine x_iload_n C 1 rfl rfl dX4_takeTeller_37 ?_
  refine x_iconst C (v1 := 0) dX4_takeTeller_38 (by decide) ?_
  obtain ⟨hi8, h⟩ := h
  refine x_iast C 0 (c := (o + 4)) (enC_20n (c := (o + 4)) (n := 4) (krX4_4 ho) (lrX4_4 ho)) (kC_lt (krX4_4 ho) (by decide)) rfl hi8 dX4_takeTeller_39 ?_
  refine x_nmM (fun M9 eM9 => ?_)
  replace h := h M9 eM9
  exact x_vret C dX4_takeTeller_40 ⟨rfl, h⟩
set_option maxHeartbeats 4000000 in
set_option maxRecDepth 100000 in
theorem tX11_teller_33 {g : xG} (hg : x_inj (WC g))  {x : xCx}   {post : Int32 → xMem → Prop} (C : xOk (WC g) x cX11_teller RX11 5 (some .boolean) (rm_X11_teller) (pI post))   (x1 : Int32) (x2 : Int32) (x3 : Int32) (s0 : Int32) (M : xMem)  (h : wX11_teller_33 post x1 x2 x3 s0 M) : xW (WC g) x 5 33 [(0, .ref (ga g 0)), (1, .int x1), (2, .int x2), (3, .int x3)] [.int s0] M := by
  unfold wX11_teller_33 at h
  refine x_istore C (L' := [(4, .int s0), (0, .ref (ga g 0)), (1, .int x1), (2, .int x2), (3, .int x3)]) rfl (Nat.le_of_ble_eq_true rfl) dX11_teller_33 ?_
  refine x_iload C 0 rfl dX11_teller_35 ?_
  refine x_if_eq C (tgt := 50) dX11_teller_37 (by decide) (fun hq1 => ?_) (fun hq1 => ?_)
  · replace h := x_ift hq1 h
    refine x_iload C 0 rfl dX11_teller_50 ?_
    exact x_zret C h.1.1 dX11_teller_52 ⟨_, rfl, h.2⟩
  · replace h := x_iff hq1 h
    refine x_aload_n C 1 rfl rfl dX11_teller_40 ?_
    refine x_get C (c := 0) (ci := 11) (k1 := 8) (v1 := .ref (ga g 49)) (enC_11 (c := 0) rfl) (Nat.le_of_ble_eq_true rfl) rfl inX11 (by decide) wf_X11_57 rfl dX11_teller_41 ?_
    refine x_iload_n C 2 rfl rfl dX11_teller_44 ?_
    refine x_iload_n C 3 rfl rfl dX11_teller_45 ?_
    refine x_iload_n C 4 rfl rfl dX11_teller_46 ?_
    refine x_callVN C (st := []) (As := [.int x1, .int x2, .int x3]) (c := 49) (ci := 4) (enC_4 (c := 49) rfl) (Nat.le_of_ble_eq_true rfl) rfl (tX4_takeTeller hg _ _ _ _ _ _ _ rfl h) wmn_X11_157 wi_X4_takeTeller wv_X4_takeTeller wz_X4 wc_X4_takeTeller yd_X4_takeTeller rfl ⟨rfl, rfl⟩ ⟨Nat.le_of_ble_eq_true rfl, Nat.le_of_ble_eq_true rfl⟩ (Nat.le_of_ble_eq_true rfl) rfl dX11_teller_47 (x_kv (fun M2 h => ?_))
    refine x_iload C 0 rfl dX11_teller_50 ?_
    exact x_zret C h.1.1 dX11_teller_52 ⟨_, rfl, h.2⟩
set_option maxHeartbeats 4000000 in
set_option maxRecDepth 100000 in
theorem tX11_teller_32 {g : xG} (hg : x_inj (WC g))  {x : xCx}   {post : Int32 → xMem → Prop} (C : xOk (WC g) x cX11_teller RX11 5 (some .boolean) (rm_X11_teller) (pI post))   (x1 : Int32) (x2 : Int32) (x3 : Int32) (M : xMem)  (h : wX11_teller_32 post x1 x2 x3 M) : xW (WC g) x 5 32 [(0, .ref (ga g 0)), (1, .int x1), (2, .int x2), (3, .int x3)] [] M := by
  unfold wX11_teller_32 at h
  refine x_iconst C (v1 := 0) dX11_teller_32 (by decide) ?_
  exact tX11_teller_33 hg  C   _ _ _ _ _  h
set_option maxHeartbeats 4000000 in
set_option maxRecDepth 100000 in
theorem tX11_teller {g : xG} (hg : x_inj (WC g))  (l : Launch) (a0 : Int32) (a1 : Int32) (a2 : Int32) (M : xMem) (post : Int32 → xMem → Prop)  (h : wX11_teller a0 a1 a2 M post) : xMet (WC g) l yX11_teller cX11_teller 5 (some .boolean) (rm_X11_teller) [.ref (ga g 0), .int a0, .int a1, .int a2] M (pI post) := by
  refine x_enter (own := RX11) (L0 := [(0, .ref (ga g 0)), (1, .int a0), (2, .int a1), (3, .int a2)]) (by decide +kernel) rfl hg (x_stC g) (Nat.le_of_ble_eq_true rfl) rfl (fun x hl C => ?_)
  unfold wX11_teller at h
  refine x_iload_n C 1 rfl rfl dX11_teller_0 ?_
  refine x_iconst C (v1 := 0) dX11_teller_1 (by decide) ?_
  refine x_iconst C (v1 := 3) dX11_teller_2 (by decide) ?_
  refine x_callS C (st := []) (As := [.int a0, .int 0, .int 3]) (tX11_isWithin hg _ _ _ _ _ _  h) wm_X11_145 wsm_X11_isWithin wz_X11 wc_X11_isWithin yd_X11_isWithin rfl ⟨rfl, rfl⟩ ⟨Nat.le_of_ble_eq_true rfl, Nat.le_of_ble_eq_true rfl⟩ (Nat.le_of_ble_eq_true rfl) rfl dX11_teller_3 (x_ki (fun r2 M1 h => ?_))
  refine x_if_eq C (tgt := 32) dX11_teller_6 (by decide) (fun hq3 => ?_) (fun hq3 => ?_)
  · replace h := x_ift hq3 h
    exact tX11_teller_32 hg  C   _ _ _ _  h
  · replace h := x_iff hq3 h
    refine x_aload_n C 0 rfl rfl dX11_teller_9 ?_
    refine x_iload_n C 2 rfl rfl dX11_teller_10 ?_
    refine x_callV C (st := []) (As := [.int a1]) (c := 0) (ci := 11) (enC_11 (c := 0) rfl) (Nat.le_of_ble_eq_true rfl) rfl (tX11_toldStory hg _ _ _ _  h) wm_X11_154 wi_X11_toldStory wv_X11_toldStory wz_X11 wc_X11_toldStory rfl yd_X11_toldStory rfl ⟨rfl, rfl⟩ ⟨Nat.le_of_ble_eq_true rfl, Nat.le_of_ble_eq_true rfl⟩ (Nat.le_of_ble_eq_true rfl) rfl dX11_teller_11 (x_kr (fun M4 h => ?_) (fun q5 M4 h0 hkq5 h => ?_))
    · replace h := x_ift rfl h
      refine x_ifnullN C (tgt := 32) dX11_teller_14 (by decide) ?_
      exact tX11_teller_32 hg  C   _ _ _ _  h
    · replace h := x_iff h0 h
      refine x_ifnull_r C dX11_teller_14 ?_
      refine x_iload_n C 3 rfl rfl dX11_teller_17 ?_
      refine x_iconst C (v1 := 0) dX11_teller_18 (by decide) ?_
      refine x_sipush C (v1 := 9999) dX11_teller_19 (by decide) ?_
      refine x_callS C (st := []) (As := [.int a2, .int 0, .int 9999]) (tX11_isWithin hg _ _ _ _ _ _  h) wm_X11_145 wsm_X11_isWithin wz_X11 wc_X11_isWithin yd_X11_isWithin rfl ⟨rfl, rfl⟩ ⟨Nat.le_of_ble_eq_true rfl, Nat.le_of_ble_eq_true rfl⟩ (Nat.le_of_ble_eq_true rfl) rfl dX11_teller_22 (x_ki (fun r7 M6 h => ?_))
      refine x_if_eq C (tgt := 32) dX11_teller_25 (by decide) (fun hq8 => ?_) (fun hq8 => ?_)
      · replace h := x_ift hq8 h
        exact tX11_teller_32 hg  C   _ _ _ _  h
      · replace h := x_iff hq8 h
        refine x_iconst C (v1 := 1) dX11_teller_28 (by decide) ?_
        refine x_goto C (tgt := 33) dX11_teller_29 (by decide) ?_
        exact tX11_teller_33 hg  C   _ _ _ _ _  h
set_option maxHeartbeats 4000000 in
set_option maxRecDepth 100000 in
theorem tX4_takeListener {g : xG} (hg : x_inj (WC g))  (l : Launch) (o : Nat) (a0 : Int32) (a1 : Int32) (a2 : Int32) (M : xMem) (post : xMem → Prop) (ho : kC o = 4) (h : wX4_takeListener o a0 a1 a2 M post) : xMet (WC g) l yX4_takeListener cX4_takeListener 4 none (rm_X4_takeListener) [.ref (ga g o), .int a0, .int a1, .int a2] M (pV post) := by
  refine x_enter (own := RX4) (L0 := [(0, .ref (ga g o)), (1, .int a0), (2, .int a1), (3, .int a2)]) (by decide +kernel) rfl hg (x_stC g) (Nat.le_of_ble_eq_true rfl) rfl (fun x hl C => ?_)
  unfold wX4_takeListener at h
  refine x_aload_n C 0 rfl rfl dX4_takeListener_0 ?_
  refine x_dup C rfl dX4_takeListener_1 ?_
  refine x_get C (c := o) (ci := 4) (k1 := 5) (v1 := .int (gi M o 5)) (enC_4 (c := o) ho) (kC_lt ho (by decide)) rfl inX4 (by decide) wf_X4_28 rfl dX4_takeListener_2 ?_
  refine x_iconst C (v1 := 1) dX4_takeListener_5 (by decide) ?_
  refine x_iload_n C 1 rfl rfl dX4_takeListener_6 ?_
  refine x_ishl C dX4_takeListener_7 ?_
  refine x_ior C dX4_takeListener_8 ?_
  refine x_put C (c := o) (ci := 4) (k1 := 5) (u1 := ((gi M o 5) ||| (1 <<< (a0 &&& 31)))) (v1 := .int ((gi M o 5) ||| (1 <<< (a0 &&& 31)))) (ty := .int) (enC_4 (c := o) ho) (kC_lt ho (by decide)) rfl inX4 (by decide) (stX4_5 _ _ _) tyX4 tyX4_ok nmX4 wf_X4_28 rfl rfl rfl rfl (Nat.le_of_ble_eq_true rfl) dX4_takeListener_9 ?_
  refine x_nmM (fun M1 eM1 => ?_)
  replace h := h M1 eM1
  refine x_aload_n C 0 rfl rfl dX4_takeListener_12 ?_
  refine x_get C (c := o) (ci := 4) (k1 := 6) (v1 := .ref (ga g ((o + 5)))) (enC_4 (c := o) ho) (kC_lt ho (by decide)) rfl inX4 (by decide) wf_X4_31 rfl dX4_takeListener_13 ?_
  refine x_iload_n C 1 rfl rfl dX4_takeListener_16 ?_
  refine x_iload_n C 2 rfl rfl dX4_takeListener_17 ?_
  obtain ⟨hi2, h⟩ := h
  refine x_iast C 0 (c := (o + 5)) (enC_20n (c := (o + 5)) (n := 10) (krX4_5 ho) (lrX4_5 ho)) (kC_lt (krX4_5 ho) (by decide)) rfl hi2 dX4_takeListener_18 ?_
  refine x_nmM (fun M3 eM3 => ?_)
  replace h := h M3 eM3
  refine x_aload_n C 0 rfl rfl dX4_takeListener_19 ?_
  refine x_get C (c := o) (ci := 4) (k1 := 7) (v1 := .ref (ga g ((o + 6)))) (enC_4 (c := o) ho) (kC_lt ho (by decide)) rfl inX4 (by decide) wf_X4_34 rfl dX4_takeListener_20 ?_
  refine x_iload_n C 1 rfl rfl dX4_takeListener_23 ?_
  refine x_iload_n C 3 rfl rfl dX4_takeListener_24 ?_
  obtain ⟨hi4, h⟩ := h
  refine x_iast C 0 (c := (o + 6)) (enC_20n (c := (o + 6)) (n := 10) (krX4_6 ho) (lrX4_6 ho)) (kC_lt (krX4_6 ho) (by decide)) rfl hi4 dX4_takeListener_25 ?_
  refine x_nmM (fun M5 eM5 => ?_)
  replace h := h M5 eM5
  refine x_aload_n C 0 rfl rfl dX4_takeListener_26 ?_
  refine x_get C (c := o) (ci := 4) (k1 := 8) (v1 := .ref (ga g ((o + 7)))) (enC_4 (c := o) ho) (kC_lt ho (by decide)) rfl inX4 (by decide) wf_X4_37 rfl dX4_takeListener_27 ?_
  refine x_iload_n C 1 rfl rfl dX4_takeListener_30 ?_
  refine x_iconst C (v1 := 0) dX4_takeListener_31 (by decide) ?_
  obtain ⟨hi6, h⟩ := h
  refine x_iast C 0 (c := (o + 7)) (enC_20n (c := (o + 7)) (n := 10) (krX4_7 ho) (lrX4_7 ho)) (kC_lt (krX4_7 ho) (by decide)) rfl hi6 dX4_takeListener_32 ?_
  refine x_nmM (fun M7 eM7 => ?_)
  replace h := h M7 eM7
  exact x_vret C dX4_takeListener_33 ⟨rfl, h⟩
set_option maxHeartbeats 4000000 in
set_option maxRecDepth 100000 in
theorem tX11_listener_39 {g : xG} (hg : x_inj (WC g))  {x : xCx}   {post : Int32 → xMem → Prop} (C : xOk (WC g) x cX11_listener RX11 5 (some .boolean) (rm_X11_listener) (pI post))   (x1 : Int32) (x2 : Int32) (x3 : Int32) (s0 : Int32) (M : xMem)  (h : wX11_listener_39 post x1 x2 x3 s0 M) : xW (WC g) x 5 39 [(0, .ref (ga g 0)), (1, .int x1), (2, .int x2), (3, .int x3)] [.int s0] M := by
  unfold wX11_listener_39 at h
  refine x_istore C (L' := [(4, .int s0), (0, .ref (ga g 0)), (1, .int x1), (2, .int x2), (3, .int x3)]) rfl (Nat.le_of_ble_eq_true rfl) dX11_listener_39 ?_
  refine x_iload C 0 rfl dX11_listener_41 ?_
  refine x_if_eq C (tgt := 56) dX11_listener_43 (by decide) (fun hq1 => ?_) (fun hq1 => ?_)
  · replace h := x_ift hq1 h
    refine x_iload C 0 rfl dX11_listener_56 ?_
    exact x_zret C h.1.1 dX11_listener_58 ⟨_, rfl, h.2⟩
  · replace h := x_iff hq1 h
    refine x_aload_n C 1 rfl rfl dX11_listener_46 ?_
    refine x_get C (c := 0) (ci := 11) (k1 := 8) (v1 := .ref (ga g 49)) (enC_11 (c := 0) rfl) (Nat.le_of_ble_eq_true rfl) rfl inX11 (by decide) wf_X11_57 rfl dX11_listener_47 ?_
    refine x_iload_n C 2 rfl rfl dX11_listener_50 ?_
    refine x_iload_n C 3 rfl rfl dX11_listener_51 ?_
    refine x_iload_n C 4 rfl rfl dX11_listener_52 ?_
    refine x_callVN C (st := []) (As := [.int x1, .int x2, .int x3]) (c := 49) (ci := 4) (enC_4 (c := 49) rfl) (Nat.le_of_ble_eq_true rfl) rfl (tX4_takeListener hg _ _ _ _ _ _ _ rfl h) wmn_X11_168 wi_X4_takeListener wv_X4_takeListener wz_X4 wc_X4_takeListener yd_X4_takeListener rfl ⟨rfl, rfl⟩ ⟨Nat.le_of_ble_eq_true rfl, Nat.le_of_ble_eq_true rfl⟩ (Nat.le_of_ble_eq_true rfl) rfl dX11_listener_53 (x_kv (fun M2 h => ?_))
    refine x_iload C 0 rfl dX11_listener_56 ?_
    exact x_zret C h.1.1 dX11_listener_58 ⟨_, rfl, h.2⟩
set_option maxHeartbeats 4000000 in
set_option maxRecDepth 100000 in
theorem tX11_listener_38 {g : xG} (hg : x_inj (WC g))  {x : xCx}   {post : Int32 → xMem → Prop} (C : xOk (WC g) x cX11_listener RX11 5 (some .boolean) (rm_X11_listener) (pI post))   (x1 : Int32) (x2 : Int32) (x3 : Int32) (M : xMem)  (h : wX11_listener_38 post x1 x2 x3 M) : xW (WC g) x 5 38 [(0, .ref (ga g 0)), (1, .int x1), (2, .int x2), (3, .int x3)] [] M := by
  unfold wX11_listener_38 at h
  refine x_iconst C (v1 := 0) dX11_listener_38 (by decide) ?_
  exact tX11_listener_39 hg  C   _ _ _ _ _  h
set_option maxHeartbeats 4000000 in
set_option maxRecDepth 100000 in
theorem tX11_listener {g : xG} (hg : x_inj (WC g))  (l : Launch) (a0 : Int32) (a1 : Int32) (a2 : Int32) (M : xMem) (post : Int32 → xMem → Prop)  (h : wX11_listener a0 a1 a2 M post) : xMet (WC g) l yX11_listener cX11_listener 5 (some .boolean) (rm_X11_listener) [.ref (ga g 0), .int a0, .int a1, .int a2] M (pI post) := by
  refine x_enter (own := RX11) (L0 := [(0, .ref (ga g 0)), (1, .int a0), (2, .int a1), (3, .int a2)]) (by decide +kernel) rfl hg (x_stC g) (Nat.le_of_ble_eq_true rfl) rfl (fun x hl C => ?_)
  unfold wX11_listener at h
  refine x_iload_n C 1 rfl rfl dX11_listener_0 ?_
  refine x_iconst C (v1 := 0) dX11_listener_1 (by decide) ?_
  refine x_bipush C (v1 := 9) dX11_listener_2 (by decide) ?_
  refine x_callS C (st := []) (As := [.int a0, .int 0, .int 9]) (tX11_isWithin hg _ _ _ _ _ _  h) wm_X11_145 wsm_X11_isWithin wz_X11 wc_X11_isWithin yd_X11_isWithin rfl ⟨rfl, rfl⟩ ⟨Nat.le_of_ble_eq_true rfl, Nat.le_of_ble_eq_true rfl⟩ (Nat.le_of_ble_eq_true rfl) rfl dX11_listener_4 (x_ki (fun r2 M1 h => ?_))
  refine x_if_eq C (tgt := 38) dX11_listener_7 (by decide) (fun hq3 => ?_) (fun hq3 => ?_)
  · replace h := x_ift hq3 h
    exact tX11_listener_38 hg  C   _ _ _ _  h
  · replace h := x_iff hq3 h
    refine x_aload_n C 0 rfl rfl dX11_listener_10 ?_
    refine x_get C (c := 0) (ci := 11) (k1 := 8) (v1 := .ref (ga g 49)) (enC_11 (c := 0) rfl) (Nat.le_of_ble_eq_true rfl) rfl inX11 (by decide) wf_X11_57 rfl dX11_listener_11 ?_
    refine x_getN C (c := 49) (ci := 4) (k1 := 0) (v1 := .int (gi M1 49 0)) (enC_4 (c := 49) rfl) (Nat.le_of_ble_eq_true rfl) rfl inX4 (by decide) wfn_X11_161 rfl dX11_listener_14 ?_
    refine x_iload_n C 2 rfl rfl dX11_listener_17 ?_
    refine x_callS C (st := []) (As := [.int (gi M1 49 0), .int a1]) (tX11_has hg _ _ _ _ _  h) wm_X11_164 wsm_X11_has wz_X11 wc_X11_has yd_X11_has rfl ⟨rfl, rfl⟩ ⟨Nat.le_of_ble_eq_true rfl, Nat.le_of_ble_eq_true rfl⟩ (Nat.le_of_ble_eq_true rfl) rfl dX11_listener_18 (x_ki (fun r5 M4 h => ?_))
    refine x_if_eq C (tgt := 38) dX11_listener_21 (by decide) (fun hq6 => ?_) (fun hq6 => ?_)
    · replace h := x_ift hq6 h
      exact tX11_listener_38 hg  C   _ _ _ _  h
    · replace h := x_iff hq6 h
      refine x_iload_n C 3 rfl rfl dX11_listener_24 ?_
      refine x_iconst C (v1 := 0) dX11_listener_25 (by decide) ?_
      refine x_bipush C (v1 := 99) dX11_listener_26 (by decide) ?_
      refine x_callS C (st := []) (As := [.int a2, .int 0, .int 99]) (tX11_isWithin hg _ _ _ _ _ _  h) wm_X11_145 wsm_X11_isWithin wz_X11 wc_X11_isWithin yd_X11_isWithin rfl ⟨rfl, rfl⟩ ⟨Nat.le_of_ble_eq_true rfl, Nat.le_of_ble_eq_true rfl⟩ (Nat.le_of_ble_eq_true rfl) rfl dX11_listener_28 (x_ki (fun r8 M7 h => ?_))
      refine x_if_eq C (tgt := 38) dX11_listener_31 (by decide) (fun hq9 => ?_) (fun hq9 => ?_)
      · replace h := x_ift hq9 h
        exact tX11_listener_38 hg  C   _ _ _ _  h
      · replace h := x_iff hq9 h
        refine x_iconst C (v1 := 1) dX11_listener_34 (by decide) ?_
        refine x_goto C (tgt := 39) dX11_listener_35 (by decide) ?_
        exact tX11_listener_39 hg  C   _ _ _ _ _  h
set_option maxHeartbeats 4000000 in
set_option maxRecDepth 100000 in
theorem tX1_beginIn {g : xG} (hg : x_inj (WC g))  (l : Launch) (o0 : Nat) (o1 : Nat) (M : xMem) (post : xMem → Prop) (ho0 : kC o0 = 4) (ho1 : kC o1 = 5) (h : wX1_beginIn o0 o1 M post) : xMet (WC g) l yX1_beginIn cX1_beginIn 3 none (rm_X1_beginIn) [.ref (ga g 78), .ref (ga g o0), .ref (ga g o1)] M (pV post) := by
  refine x_enter (own := RX1) (L0 := [(0, .ref (ga g 78)), (1, .ref (ga g o0)), (2, .ref (ga g o1))]) (by decide +kernel) rfl hg (x_stC g) (Nat.le_of_ble_eq_true rfl) rfl (fun x hl C => ?_)
  unfold wX1_beginIn at h
  refine x_aload_n C 0 rfl rfl dX1_beginIn_0 ?_
  refine x_aload_n C 1 rfl rfl dX1_beginIn_1 ?_
  refine x_put C (c := 78) (ci := 1) (k1 := 3) (u1 := (nI o0)) (v1 := .ref (ga g o0)) (ty := (.object "LineGuild$Hall")) (enC_1 (c := 78) rfl) (Nat.le_of_ble_eq_true rfl) rfl inX1 (by decide) (stX1_3 _ _ _ _ (nI_clamp (Nat.lt_trans (kC_lt ho0 (by decide)) (by decide)))) tyX1 tyX1_ok nmX1 wf_X1_54 rfl rfl rfl rfl (Nat.le_of_ble_eq_true rfl) dX1_beginIn_2 ?_
  refine x_nmM (fun M1 eM1 => ?_)
  replace h := h M1 eM1
  refine x_aload_n C 0 rfl rfl dX1_beginIn_5 ?_
  refine x_aload_n C 2 rfl rfl dX1_beginIn_6 ?_
  refine x_put C (c := 78) (ci := 1) (k1 := 4) (u1 := (nI o1)) (v1 := .ref (ga g o1)) (ty := (.object "LineGuild$Law")) (enC_1 (c := 78) rfl) (Nat.le_of_ble_eq_true rfl) rfl inX1 (by decide) (stX1_4 _ _ _ _ (nI_clamp (Nat.lt_trans (kC_lt ho1 (by decide)) (by decide)))) tyX1 tyX1_ok nmX1 wf_X1_58 rfl rfl rfl rfl (Nat.le_of_ble_eq_true rfl) dX1_beginIn_7 ?_
  refine x_nmM (fun M2 eM2 => ?_)
  replace h := h M2 eM2
  refine x_aload_n C 0 rfl rfl dX1_beginIn_10 ?_
  refine x_iconst C (v1 := 0) dX1_beginIn_11 (by decide) ?_
  refine x_put C (c := 78) (ci := 1) (k1 := 6) (u1 := 0) (v1 := .int 0) (ty := .int) (enC_1 (c := 78) rfl) (Nat.le_of_ble_eq_true rfl) rfl inX1 (by decide) (stX1_6 _ _ _) tyX1 tyX1_ok nmX1 wf_X1_15 rfl rfl rfl rfl (Nat.le_of_ble_eq_true rfl) dX1_beginIn_12 ?_
  refine x_nmM (fun M3 eM3 => ?_)
  replace h := h M3 eM3
  refine x_aload_n C 0 rfl rfl dX1_beginIn_15 ?_
  refine x_iconst C (v1 := 0) dX1_beginIn_16 (by decide) ?_
  refine x_put C (c := 78) (ci := 1) (k1 := 7) (u1 := 0) (v1 := .int 0) (ty := .int) (enC_1 (c := 78) rfl) (Nat.le_of_ble_eq_true rfl) rfl inX1 (by decide) (stX1_7 _ _ _) tyX1 tyX1_ok nmX1 wf_X1_18 rfl rfl rfl rfl (Nat.le_of_ble_eq_true rfl) dX1_beginIn_17 ?_
  refine x_nmM (fun M4 eM4 => ?_)
  replace h := h M4 eM4
  refine x_aload_n C 0 rfl rfl dX1_beginIn_20 ?_
  refine x_iconst C (v1 := 0) dX1_beginIn_21 (by decide) ?_
  refine x_put C (c := 78) (ci := 1) (k1 := 8) (u1 := 0) (v1 := .int 0) (ty := .int) (enC_1 (c := 78) rfl) (Nat.le_of_ble_eq_true rfl) rfl inX1 (by decide) (stX1_8 _ _ _) tyX1 tyX1_ok nmX1 wf_X1_21 rfl rfl rfl rfl (Nat.le_of_ble_eq_true rfl) dX1_beginIn_22 ?_
  refine x_nmM (fun M5 eM5 => ?_)
  replace h := h M5 eM5
  refine x_aload_n C 0 rfl rfl dX1_beginIn_25 ?_
  refine x_iconst C (v1 := 0) dX1_beginIn_26 (by decide) ?_
  refine x_put C (c := 78) (ci := 1) (k1 := 9) (u1 := 0) (v1 := .int 0) (ty := .int) (enC_1 (c := 78) rfl) (Nat.le_of_ble_eq_true rfl) rfl inX1 (by decide) (stX1_9 _ _ _) tyX1 tyX1_ok nmX1 wf_X1_24 rfl rfl rfl rfl (Nat.le_of_ble_eq_true rfl) dX1_beginIn_27 ?_
  refine x_nmM (fun M6 eM6 => ?_)
  replace h := h M6 eM6
  refine x_aload_n C 0 rfl rfl dX1_beginIn_30 ?_
  refine x_iconst C (v1 := 0) dX1_beginIn_31 (by decide) ?_
  refine x_put C (c := 78) (ci := 1) (k1 := 10) (u1 := 0) (v1 := .int 0) (ty := .int) (enC_1 (c := 78) rfl) (Nat.le_of_ble_eq_true rfl) rfl inX1 (by decide) (stX1_10 _ _ _) tyX1 tyX1_ok nmX1 wf_X1_27 rfl rfl rfl rfl (Nat.le_of_ble_eq_true rfl) dX1_beginIn_32 ?_
  refine x_nmM (fun M7 eM7 => ?_)
  replace h := h M7 eM7
  refine x_aload_n C 0 rfl rfl dX1_beginIn_35 ?_
  refine x_iconst C (v1 := 0) dX1_beginIn_36 (by decide) ?_
  refine x_put C (c := 78) (ci := 1) (k1 := 11) (u1 := 0) (v1 := .int 0) (ty := .int) (enC_1 (c := 78) rfl) (Nat.le_of_ble_eq_true rfl) rfl inX1 (by decide) (stX1_11 _ _ _) tyX1 tyX1_ok nmX1 wf_X1_30 rfl rfl rfl rfl (Nat.le_of_ble_eq_true rfl) dX1_beginIn_37 ?_
  refine x_nmM (fun M8 eM8 => ?_)
  replace h := h M8 eM8
  refine x_aload_n C 0 rfl rfl dX1_beginIn_40 ?_
  refine x_iconst C (v1 := 0) dX1_beginIn_41 (by decide) ?_
  refine x_put C (c := 78) (ci := 1) (k1 := 12) (u1 := 0) (v1 := .int 0) (ty := .int) (enC_1 (c := 78) rfl) (Nat.le_of_ble_eq_true rfl) rfl inX1 (by decide) (stX1_12 _ _ _) tyX1 tyX1_ok nmX1 wf_X1_33 rfl rfl rfl rfl (Nat.le_of_ble_eq_true rfl) dX1_beginIn_42 ?_
  refine x_nmM (fun M9 eM9 => ?_)
  replace h := h M9 eM9
  refine x_aload_n C 0 rfl rfl dX1_beginIn_45 ?_
  refine x_bipush C (v1 := (-2)) dX1_beginIn_46 (by decide) ?_
  refine x_put C (c := 78) (ci := 1) (k1 := 13) (u1 := (-2)) (v1 := .int (-2)) (ty := .int) (enC_1 (c := 78) rfl) (Nat.le_of_ble_eq_true rfl) rfl inX1 (by decide) (stX1_13 _ _ _) tyX1 tyX1_ok nmX1 wf_X1_36 rfl rfl rfl rfl (Nat.le_of_ble_eq_true rfl) dX1_beginIn_48 ?_
  refine x_nmM (fun M10 eM10 => ?_)
  replace h := h M10 eM10
  refine x_aload_n C 0 rfl rfl dX1_beginIn_51 ?_
  refine x_bipush C (v1 := (-2)) dX1_beginIn_52 (by decide) ?_
  refine x_put C (c := 78) (ci := 1) (k1 := 14) (u1 := (-2)) (v1 := .int (-2)) (ty := .int) (enC_1 (c := 78) rfl) (Nat.le_of_ble_eq_true rfl) rfl inX1 (by decide) (stX1_14 _ _ _) tyX1 tyX1_ok nmX1 wf_X1_39 rfl rfl rfl rfl (Nat.le_of_ble_eq_true rfl) dX1_beginIn_54 ?_
  refine x_nmM (fun M11 eM11 => ?_)
  replace h := h M11 eM11
  exact x_vret C dX1_beginIn_57 ⟨rfl, h⟩
set_option maxHeartbeats 4000000 in
set_option maxRecDepth 100000 in
theorem tX0_begin {g : xG} (hg : x_inj (WC g))  (l : Launch) (o0 : Nat) (M : xMem) (post : xMem → Prop) (ho0 : kC o0 = 4) (h : wX0_begin o0 M post) : xMet (WC g) l yX0_begin cX0_begin 2 none (rm_X0_begin) [.ref (ga g 76), .ref (ga g o0)] M (pV post) := by
  refine x_enter (own := RX0) (L0 := [(0, .ref (ga g 76)), (1, .ref (ga g o0))]) (by decide +kernel) rfl hg (x_stC g) (Nat.le_of_ble_eq_true rfl) rfl (fun x hl C => ?_)
  unfold wX0_begin at h
  refine x_aload_n C 0 rfl rfl dX0_begin_0 ?_
  refine x_get C (c := 76) (ci := 0) (k1 := 1) (v1 := .ref (ga g 77)) (enC_0 (c := 76) rfl) (Nat.le_of_ble_eq_true rfl) rfl inX0 (by decide) wf_X0_7 rfl dX0_begin_1 ?_
  refine x_iconst C (v1 := 0) dX0_begin_4 (by decide) ?_
  refine x_callS C (st := []) (As := [.ref (ga g 77), .int 0]) (tJ7_fill_53178 hg _ _ _ _ _ rfl h) wm_X0_56 wsm_J7_fill_53178 wz_J7 wc_J7_fill_53178 yd_J7_fill_53178 rfl ⟨rfl, rfl⟩ ⟨Nat.le_of_ble_eq_true rfl, Nat.le_of_ble_eq_true rfl⟩ (Nat.le_of_ble_eq_true rfl) rfl dX0_begin_5 (x_kv (fun M1 h => ?_))
  refine x_aload_n C 0 rfl rfl dX0_begin_8 ?_
  refine x_get C (c := 76) (ci := 0) (k1 := 1) (v1 := .ref (ga g 77)) (enC_0 (c := 76) rfl) (Nat.le_of_ble_eq_true rfl) rfl inX0 (by decide) wf_X0_7 rfl dX0_begin_9 ?_
  refine x_bipush C (v1 := 11) dX0_begin_12 (by decide) ?_
  refine x_aload_n C 1 rfl rfl dX0_begin_14 ?_
  refine x_getN C (c := o0) (ci := 4) (k1 := 10) (v1 := .int (gi M1 o0 10)) (enC_4 (c := o0) ho0) (kC_lt ho0 (by decide)) rfl inX4 (by decide) wfn_X0_62 rfl dX0_begin_15 ?_
  obtain ⟨hi2, h⟩ := h
  refine x_iast C 0 (c := 77) (enC_20n (c := 77) (n := 12) rfl rfl) (Nat.le_of_ble_eq_true rfl) rfl hi2 dX0_begin_18 ?_
  refine x_nmM (fun M3 eM3 => ?_)
  replace h := h M3 eM3
  exact x_vret C dX0_begin_19 ⟨rfl, h⟩
set_option maxHeartbeats 4000000 in
set_option maxRecDepth 100000 in
theorem tX5_joined_28 {g : xG} (hg : x_inj (WC g))  {x : xCx} {o : Nat}  {post : Int32 → xMem → Prop} (C : xOk (WC g) x cX5_joined RX5 5 (some .int) (rm_X5_joined) (pI post)) (ho : kC o = 5)  (x2 : Int32) (x3 : Int32) (x4 : Int32) (M : xMem)  (h : wX5_joined_28 o post x2 x3 x4 M) : xW (WC g) x 5 28 [(2, .int x2), (3, .int x3), (4, .int x4)] [] M := by
  unfold wX5_joined_28 at h
  refine x_iload C 2 rfl dX5_joined_28 ?_
  by_cases hq1 : x4 = 0
  · replace h := x_ift hq1 h
    refine x_tabIn C hq1 (tgt := 72) dX5_joined_30 (by decide) (by decide) rfl (by decide) ?_
    refine x_iload_n C 0 rfl rfl dX5_joined_72 ?_
    refine x_iload_n C 1 rfl rfl dX5_joined_73 ?_
    refine x_iadd C dX5_joined_74 ?_
    exact x_iret C dX5_joined_75 ⟨_, rfl, h⟩
  · replace h := x_iff hq1 h
    by_cases hq2 : x4 = 1
    · replace h := x_ift hq2 h
      refine x_tabIn C hq2 (tgt := 76) dX5_joined_30 (by decide) (by decide) rfl (by decide) ?_
      refine x_iload_n C 0 rfl rfl dX5_joined_76 ?_
      refine x_iload_n C 1 rfl rfl dX5_joined_77 ?_
      refine x_isub C dX5_joined_78 ?_
      exact x_iret C dX5_joined_79 ⟨_, rfl, h⟩
    · replace h := x_iff hq2 h
      by_cases hq3 : x4 = 2
      · replace h := x_ift hq3 h
        refine x_tabIn C hq3 (tgt := 80) dX5_joined_30 (by decide) (by decide) rfl (by decide) ?_
        refine x_iload_n C 0 rfl rfl dX5_joined_80 ?_
        refine x_iload_n C 1 rfl rfl dX5_joined_81 ?_
        refine x_imul C dX5_joined_82 ?_
        exact x_iret C dX5_joined_83 ⟨_, rfl, h⟩
      · replace h := x_iff hq3 h
        by_cases hq4 : x4 = 3
        · replace h := x_ift hq4 h
          refine x_tabIn C hq4 (tgt := 84) dX5_joined_30 (by decide) (by decide) rfl (by decide) ?_
          refine x_iload_n C 1 rfl rfl dX5_joined_84 ?_
          refine x_if_ne C (tgt := 92) dX5_joined_85 (by decide) (fun hq5 => ?_) (fun hq5 => ?_)
          · replace h := x_iff hq5 h
            refine x_iload_n C 0 rfl rfl dX5_joined_92 ?_
            refine x_iload_n C 1 rfl rfl dX5_joined_93 ?_
            obtain ⟨hz6, h⟩ := h
            refine x_idiv C hz6 dX5_joined_94 ?_
            exact x_iret C dX5_joined_95 ⟨_, rfl, h⟩
          · replace h := x_ift hq5 h
            refine x_iconst C (v1 := 0) dX5_joined_88 (by decide) ?_
            refine x_goto C (tgt := 95) dX5_joined_89 (by decide) ?_
            exact x_iret C dX5_joined_95 ⟨_, rfl, h⟩
        · replace h := x_iff hq4 h
          by_cases hq7 : x4 = 4
          · replace h := x_ift hq7 h
            refine x_tabIn C hq7 (tgt := 96) dX5_joined_30 (by decide) (by decide) rfl (by decide) ?_
            refine x_iload_n C 1 rfl rfl dX5_joined_96 ?_
            refine x_if_ne C (tgt := 104) dX5_joined_97 (by decide) (fun hq8 => ?_) (fun hq8 => ?_)
            · replace h := x_iff hq8 h
              refine x_iload_n C 0 rfl rfl dX5_joined_104 ?_
              refine x_iload_n C 1 rfl rfl dX5_joined_105 ?_
              obtain ⟨hz9, h⟩ := h
              refine x_irem C hz9 dX5_joined_106 ?_
              exact x_iret C dX5_joined_107 ⟨_, rfl, h⟩
            · replace h := x_ift hq8 h
              refine x_iconst C (v1 := 0) dX5_joined_100 (by decide) ?_
              refine x_goto C (tgt := 107) dX5_joined_101 (by decide) ?_
              exact x_iret C dX5_joined_107 ⟨_, rfl, h⟩
          · replace h := x_iff hq7 h
            by_cases hq10 : x4 = 5
            · replace h := x_ift hq10 h
              refine x_tabIn C hq10 (tgt := 108) dX5_joined_30 (by decide) (by decide) rfl (by decide) ?_
              refine x_iload_n C 0 rfl rfl dX5_joined_108 ?_
              refine x_iload_n C 1 rfl rfl dX5_joined_109 ?_
              refine x_icmp_ge C (tgt := 117) dX5_joined_110 (by decide) (fun hq11 => ?_) (fun hq11 => ?_)
              · replace h := x_ift hq11 h
                refine x_iconst C (v1 := 0) dX5_joined_117 (by decide) ?_
                exact x_iret C dX5_joined_118 ⟨_, rfl, h⟩
              · replace h := x_iff hq11 h
                refine x_iconst C (v1 := 1) dX5_joined_113 (by decide) ?_
                refine x_goto C (tgt := 118) dX5_joined_114 (by decide) ?_
                exact x_iret C dX5_joined_118 ⟨_, rfl, h⟩
            · replace h := x_iff hq10 h
              by_cases hq12 : x4 = 6
              · replace h := x_ift hq12 h
                refine x_tabIn C hq12 (tgt := 119) dX5_joined_30 (by decide) (by decide) rfl (by decide) ?_
                refine x_iload_n C 0 rfl rfl dX5_joined_119 ?_
                refine x_iload_n C 1 rfl rfl dX5_joined_120 ?_
                refine x_icmp_le C (tgt := 128) dX5_joined_121 (by decide) (fun hq13 => ?_) (fun hq13 => ?_)
                · replace h := x_ift hq13 h
                  refine x_iconst C (v1 := 0) dX5_joined_128 (by decide) ?_
                  exact x_iret C dX5_joined_129 ⟨_, rfl, h⟩
                · replace h := x_iff hq13 h
                  refine x_iconst C (v1 := 1) dX5_joined_124 (by decide) ?_
                  refine x_goto C (tgt := 129) dX5_joined_125 (by decide) ?_
                  exact x_iret C dX5_joined_129 ⟨_, rfl, h⟩
              · replace h := x_iff hq12 h
                refine x_tabOut C (tgt := 130) dX5_joined_30 (by have t0 := x_i32ne hq1; have u0 : (0 : Int32).toInt = 0 := (by decide); have t1 := x_i32ne hq2; have u1 : (1 : Int32).toInt = 1 := (by decide); have t2 := x_i32ne hq3; have u2 : (2 : Int32).toInt = 2 := (by decide); have t3 := x_i32ne hq4; have u3 : (3 : Int32).toInt = 3 := (by decide); have t4 := x_i32ne hq7; have u4 : (4 : Int32).toInt = 4 := (by decide); have t5 := x_i32ne hq10; have u5 : (5 : Int32).toInt = 5 := (by decide); have t6 := x_i32ne hq12; have u6 : (6 : Int32).toInt = 6 := (by decide); omega) (by decide) ?_
                refine x_iload_n C 0 rfl rfl dX5_joined_130 ?_
                refine x_iload_n C 1 rfl rfl dX5_joined_131 ?_
                refine x_icmp_ne C (tgt := 139) dX5_joined_132 (by decide) (fun hq14 => ?_) (fun hq14 => ?_)
                · replace h := x_iff hq14 h
                  refine x_iconst C (v1 := 0) dX5_joined_139 (by decide) ?_
                  exact x_iret C dX5_joined_140 ⟨_, rfl, h⟩
                · replace h := x_ift hq14 h
                  refine x_iconst C (v1 := 1) dX5_joined_135 (by decide) ?_
                  refine x_goto C (tgt := 140) dX5_joined_136 (by decide) ?_
                  exact x_iret C dX5_joined_140 ⟨_, rfl, h⟩
set_option maxHeartbeats 4000000 in
set_option maxRecDepth 100000 in
theorem tX5_joined_17 {g : xG} (hg : x_inj (WC g))  {x : xCx} {o : Nat}  {post : Int32 → xMem → Prop} (C : xOk (WC g) x cX5_joined RX5 5 (some .int) (rm_X5_joined) (pI post)) (ho : kC o = 5)  (x2 : Int32) (x3 : Int32) (x4 : Int32) (M : xMem)  (h : wX5_joined_17 o post x2 x3 x4 M) : xW (WC g) x 5 17 [(0, .ref (ga g o)), (2, .int x2), (3, .int x3), (4, .int x4)] [] M := by
  unfold wX5_joined_17 at h
  refine x_iload_n C 2 rfl rfl dX5_joined_17 ?_
  refine x_if_ne C (tgt := 28) dX5_joined_18 (by decide) (fun hq1 => ?_) (fun hq1 => ?_)
  · replace h := x_iff hq1 h
    refine x_loc (L' := [(2, .int x2), (3, .int x3), (4, .int x4)]) [1, 2, 3] rfl ?_
    exact tX5_joined_28 hg  C ho  _ _ _ _  h
  · replace h := x_ift hq1 h
    refine x_aload_n C 0 rfl rfl dX5_joined_21 ?_
    refine x_iconst C (v1 := 1) dX5_joined_22 (by decide) ?_
    refine x_put C (c := o) (ci := 5) (k1 := 8) (u1 := 1) (v1 := .int 1) (ty := .boolean) (enC_5 (c := o) ho) (kC_lt ho (by decide)) rfl inX5 (by decide) (stX5_8 _ _ _) tyX5 tyX5_ok nmX5 wf_X5_37 rfl rfl rfl rfl (Nat.le_of_ble_eq_true rfl) dX5_joined_23 ?_
    refine x_nmM (fun M2 eM2 => ?_)
    replace h := h M2 eM2
    refine x_iconst C (v1 := 0) dX5_joined_26 (by decide) ?_
    exact x_iret C dX5_joined_27 ⟨_, rfl, h⟩
set_option maxHeartbeats 4000000 in
set_option maxRecDepth 100000 in
theorem tX5_joined {g : xG} (hg : x_inj (WC g))  (l : Launch) (o : Nat) (a0 : Int32) (a1 : Int32) (a2 : Int32) (M : xMem) (post : Int32 → xMem → Prop) (ho : kC o = 5) (h : wX5_joined o a0 a1 a2 M post) : xMet (WC g) l yX5_joined cX5_joined 5 (some .int) (rm_X5_joined) [.ref (ga g o), .int a0, .int a1, .int a2] M (pI post) := by
  refine x_enter (own := RX5) (L0 := [(0, .ref (ga g o)), (1, .int a0), (2, .int a1), (3, .int a2)]) (by decide +kernel) rfl hg (x_stC g) (Nat.le_of_ble_eq_true rfl) rfl (fun x hl C => ?_)
  unfold wX5_joined at h
  refine x_iload_n C 1 rfl rfl dX5_joined_0 ?_
  refine x_iconst C (v1 := 5) dX5_joined_1 (by decide) ?_
  refine x_isub C dX5_joined_2 ?_
  refine x_nm (fun v1 ev1 => ?_)
  replace h := h v1 ev1
  refine x_istore C (L' := [(4, .int v1), (0, .ref (ga g o)), (1, .int a0), (2, .int a1), (3, .int a2)]) rfl (Nat.le_of_ble_eq_true rfl) dX5_joined_3 ?_
  refine x_iload C 0 rfl dX5_joined_5 ?_
  refine x_iconst C (v1 := 3) dX5_joined_7 (by decide) ?_
  refine x_icmp_eq C (tgt := 17) dX5_joined_8 (by decide) (fun hq2 => ?_) (fun hq2 => ?_)
  · replace h := x_ift hq2 h
    refine x_loc (L' := [(0, .ref (ga g o)), (2, .int a1), (3, .int a2), (4, .int v1)]) [1, 3, 4, 0] rfl ?_
    exact tX5_joined_17 hg  C ho  _ _ _ _  h
  · replace h := x_iff hq2 h
    refine x_iload C 0 rfl dX5_joined_11 ?_
    refine x_iconst C (v1 := 4) dX5_joined_13 (by decide) ?_
    refine x_icmp_ne C (tgt := 28) dX5_joined_14 (by decide) (fun hq3 => ?_) (fun hq3 => ?_)
    · replace h := x_iff hq3 h
      refine x_loc (L' := [(2, .int a1), (3, .int a2), (4, .int v1)]) [3, 4, 0] rfl ?_
      exact tX5_joined_28 hg  C ho  _ _ _ _  h
    · replace h := x_ift hq3 h
      refine x_loc (L' := [(0, .ref (ga g o)), (2, .int a1), (3, .int a2), (4, .int v1)]) [1, 3, 4, 0] rfl ?_
      exact tX5_joined_17 hg  C ho  _ _ _ _  h
set_option maxHeartbeats 4000000 in
set_option maxRecDepth 100000 in
theorem tX5_reckon_277 {g : xG} (hg : x_inj (WC g))  {x : xCx} {o : Nat}  {post : Int32 → xMem → Prop} (C : xOk (WC g) x cX5_reckon RX5 8 (some .int) (rm_X5_reckon) (pI post)) (ho : kC o = 5)  (x4 : Int32) (M : xMem)  (h : wX5_reckon_277 o post x4 M) : xW (WC g) x 8 277 [(0, .ref (ga g o)), (4, .int x4)] [] M := by
  unfold wX5_reckon_277 at h
  refine x_aload_n C 0 rfl rfl dX5_reckon_277 ?_
  refine x_get C (c := o) (ci := 5) (k1 := 8) (v1 := .int (gi M o 8)) (enC_5 (c := o) ho) (kC_lt ho (by decide)) rfl inX5 (by decide) wf_X5_37 rfl dX5_reckon_278 ?_
  refine x_if_ne C (tgt := 290) dX5_reckon_281 (by decide) (fun hq1 => ?_) (fun hq1 => ?_)
  · replace h := x_iff hq1 h
    refine x_iconst C (v1 := 0) dX5_reckon_290 (by decide) ?_
    refine x_goto C (tgt := 303) dX5_reckon_291 (by decide) ?_
    exact x_iret C dX5_reckon_303 ⟨_, rfl, h⟩
  · replace h := x_ift hq1 h
    refine x_iload C 1 rfl dX5_reckon_284 ?_
    refine x_iconst C (v1 := 1) dX5_reckon_286 (by decide) ?_
    refine x_icmp_ge C (tgt := 294) dX5_reckon_287 (by decide) (fun hq2 => ?_) (fun hq2 => ?_)
    · replace h := x_ift hq2 h
      refine x_aload_n C 0 rfl rfl dX5_reckon_294 ?_
      refine x_get C (c := o) (ci := 5) (k1 := 7) (v1 := .ref (ga g ((o + 6)))) (enC_5 (c := o) ho) (kC_lt ho (by decide)) rfl inX5 (by decide) wf_X5_34 rfl dX5_reckon_295 ?_
      refine x_iload C 1 rfl dX5_reckon_298 ?_
      refine x_iconst C (v1 := 1) dX5_reckon_300 (by decide) ?_
      refine x_isub C dX5_reckon_301 ?_
      obtain ⟨hi3, h⟩ := h
      refine x_iald C 0 (c := (o + 6)) (enC_20n (c := (o + 6)) (n := 64) (krX5_6 ho) (lrX5_6 ho)) (kC_lt (krX5_6 ho) (by decide)) rfl hi3 dX5_reckon_302 ?_
      exact x_iret C dX5_reckon_303 ⟨_, rfl, h⟩
    · replace h := x_iff hq2 h
      refine x_iconst C (v1 := 0) dX5_reckon_290 (by decide) ?_
      refine x_goto C (tgt := 303) dX5_reckon_291 (by decide) ?_
      exact x_iret C dX5_reckon_303 ⟨_, rfl, h⟩
set_option maxHeartbeats 4000000 in
set_option maxRecDepth 100000 in
theorem tX5_reckon_271 {g : xG} (hg : x_inj (WC g))  {x : xCx} {o : Nat} {K15 : Int32 → Int32 → Int32 → xMem → Prop} {post : Int32 → xMem → Prop} (C : xOk (WC g) x cX5_reckon RX5 8 (some .int) (rm_X5_reckon) (pI post)) (ho : kC o = 5) (hK15 : ∀ (x2 : Int32) (x4 : Int32) (x5 : Int32) (M : xMem), K15 x2 x4 x5 M → xW (WC g) x 8 15 [(0, .ref (ga g o)), (2, .int x2), (3, .ref (ga g 77)), (4, .int x4), (5, .int x5)] [] M) (x2 : Int32) (x4 : Int32) (x5 : Int32) (M : xMem)  (h : wX5_reckon_271 o K15 post x2 x4 x5 M) : xW (WC g) x 8 271 [(0, .ref (ga g o)), (2, .int x2), (3, .ref (ga g 77)), (4, .int x4), (5, .int x5)] [] M := by
  unfold wX5_reckon_271 at h
  obtain ⟨v1, ev1⟩ : ∃ z : Int32, z = x5 + 1 := ⟨_, rfl⟩
  replace h := h v1 ev1
  refine x_iinc C 4 (v1 := v1) (L' := [(5, .int v1), (0, .ref (ga g o)), (2, .int x2), (3, .ref (ga g 77)), (4, .int x4)]) rfl (by rw [ev1]; rfl) rfl (Nat.le_of_ble_eq_true rfl) dX5_reckon_271 ?_
  refine x_goto C (tgt := 15) dX5_reckon_274 (by decide) ?_
  refine x_loc (L' := [(0, .ref (ga g o)), (2, .int x2), (3, .ref (ga g 77)), (4, .int x4), (5, .int v1)]) [1, 2, 3, 4, 0] rfl ?_
  exact hK15 _ _ _ _  h
set_option maxHeartbeats 4000000 in
set_option maxRecDepth 100000 in
theorem tX5_reckon_126 {g : xG} (hg : x_inj (WC g))  {x : xCx} {o : Nat} {K15 : Int32 → Int32 → Int32 → xMem → Prop} {post : Int32 → xMem → Prop} (C : xOk (WC g) x cX5_reckon RX5 8 (some .int) (rm_X5_reckon) (pI post)) (ho : kC o = 5) (hK15 : ∀ (x2 : Int32) (x4 : Int32) (x5 : Int32) (M : xMem), K15 x2 x4 x5 M → xW (WC g) x 8 15 [(0, .ref (ga g o)), (2, .int x2), (3, .ref (ga g 77)), (4, .int x4), (5, .int x5)] [] M) (x2 : Int32) (x4 : Int32) (x5 : Int32) (s0 : Int32) (s1 : Int32) (M : xMem)  (h : wX5_reckon_126 o K15 post x2 x4 x5 s0 s1 M) : xW (WC g) x 8 126 [(0, .ref (ga g o)), (2, .int x2), (3, .ref (ga g 77)), (4, .int x4), (5, .int x5)] [.int s0, .int s1, .ref (ga g ((o + 6)))] M := by
  unfold wX5_reckon_126 at h
  obtain ⟨hi1, h⟩ := h
  refine x_iast C 0 (c := (o + 6)) (enC_20n (c := (o + 6)) (n := 64) (krX5_6 ho) (lrX5_6 ho)) (kC_lt (krX5_6 ho) (by decide)) rfl hi1 dX5_reckon_126 ?_
  refine x_nmM (fun M2 eM2 => ?_)
  replace h := h M2 eM2
  obtain ⟨v3, ev3⟩ : ∃ z : Int32, z = x4 + 1 := ⟨_, rfl⟩
  replace h := h v3 ev3
  refine x_iinc C 3 (v1 := v3) (L' := [(4, .int v3), (0, .ref (ga g o)), (2, .int x2), (3, .ref (ga g 77)), (5, .int x5)]) rfl (by rw [ev3]; rfl) rfl (Nat.le_of_ble_eq_true rfl) dX5_reckon_127 ?_
  refine x_goto C (tgt := 271) dX5_reckon_130 (by decide) ?_
  refine x_loc (L' := [(0, .ref (ga g o)), (2, .int x2), (3, .ref (ga g 77)), (4, .int v3), (5, .int x5)]) [1, 2, 3, 0, 4] rfl ?_
  exact tX5_reckon_271 hg  C ho hK15 _ _ _ _  h
set_option maxHeartbeats 4000000 in
set_option maxRecDepth 100000 in
theorem tX5_reckon_96 {g : xG} (hg : x_inj (WC g))  {x : xCx} {o : Nat} {K15 : Int32 → Int32 → Int32 → xMem → Prop} {post : Int32 → xMem → Prop} (C : xOk (WC g) x cX5_reckon RX5 8 (some .int) (rm_X5_reckon) (pI post)) (ho : kC o = 5) (hK15 : ∀ (x2 : Int32) (x4 : Int32) (x5 : Int32) (M : xMem), K15 x2 x4 x5 M → xW (WC g) x 8 15 [(0, .ref (ga g o)), (2, .int x2), (3, .ref (ga g 77)), (4, .int x4), (5, .int x5)] [] M) (x2 : Int32) (x4 : Int32) (x5 : Int32) (x6 : Int32) (x7 : Int32) (s0 : Int32) (M : xMem)  (h : wX5_reckon_96 o K15 post x2 x4 x5 x6 x7 s0 M) : xW (WC g) x 8 96 [(0, .ref (ga g o)), (2, .int x2), (3, .ref (ga g 77)), (4, .int x4), (5, .int x5), (6, .int x6), (7, .int x7)] [.int s0, .ref (ga g o)] M := by
  unfold wX5_reckon_96 at h
  obtain ⟨hb2, h⟩ := h
  refine x_put C (c := o) (ci := 5) (k1 := 8) (u1 := s0) (v1 := .int s0) (ty := .boolean) (enC_5 (c := o) ho) (kC_lt ho (by decide)) rfl inX5 (by decide) (stX5_8 _ _ _) tyX5 tyX5_ok nmX5 wf_X5_37 rfl rfl hb2.1 hb2.2 (Nat.le_of_ble_eq_true rfl) dX5_reckon_96 ?_
  refine x_nmM (fun M1 eM1 => ?_)
  replace h := h M1 eM1
  refine x_aload_n C 0 rfl rfl dX5_reckon_99 ?_
  refine x_get C (c := o) (ci := 5) (k1 := 8) (v1 := .int (gi M1 o 8)) (enC_5 (c := o) ho) (kC_lt ho (by decide)) rfl inX5 (by decide) wf_X5_37 rfl dX5_reckon_100 ?_
  refine x_if_ne C (tgt := 271) dX5_reckon_103 (by decide) (fun hq3 => ?_) (fun hq3 => ?_)
  · replace h := x_iff hq3 h
    refine x_loc (L' := [(0, .ref (ga g o)), (2, .int x2), (3, .ref (ga g 77)), (4, .int x4), (5, .int x5)]) [0, 1, 2, 3, 4] rfl ?_
    exact tX5_reckon_271 hg  C ho hK15 _ _ _ _  h
  · replace h := x_ift hq3 h
    refine x_aload_n C 0 rfl rfl dX5_reckon_106 ?_
    refine x_get C (c := o) (ci := 5) (k1 := 7) (v1 := .ref (ga g ((o + 6)))) (enC_5 (c := o) ho) (kC_lt ho (by decide)) rfl inX5 (by decide) wf_X5_34 rfl dX5_reckon_107 ?_
    refine x_iload C 3 rfl dX5_reckon_110 ?_
    refine x_iload C 5 rfl dX5_reckon_112 ?_
    refine x_if_ne C (tgt := 122) dX5_reckon_114 (by decide) (fun hq4 => ?_) (fun hq4 => ?_)
    · replace h := x_iff hq4 h
      refine x_aload_n C 2 rfl rfl dX5_reckon_122 ?_
      refine x_iload C 6 rfl dX5_reckon_123 ?_
      obtain ⟨hi5, h⟩ := h
      refine x_iald C 0 (c := 77) (enC_20n (c := 77) (n := 12) rfl rfl) (Nat.le_of_ble_eq_true rfl) rfl hi5 dX5_reckon_125 ?_
      refine x_loc (L' := [(0, .ref (ga g o)), (2, .int x2), (3, .ref (ga g 77)), (4, .int x4), (5, .int x5)]) [0, 1, 2, 3, 4] rfl ?_
      exact tX5_reckon_126 hg  C ho hK15 _ _ _ _ _ _  h
    · replace h := x_ift hq4 h
      refine x_iload C 6 rfl dX5_reckon_117 ?_
      refine x_goto C (tgt := 126) dX5_reckon_119 (by decide) ?_
      refine x_loc (L' := [(0, .ref (ga g o)), (2, .int x2), (3, .ref (ga g 77)), (4, .int x4), (5, .int x5)]) [0, 1, 2, 3, 4] rfl ?_
      exact tX5_reckon_126 hg  C ho hK15 _ _ _ _ _ _  h
set_option maxHeartbeats 4000000 in
set_option maxRecDepth 100000 in
theorem tX5_reckon_91 {g : xG} (hg : x_inj (WC g))  {x : xCx} {o : Nat} {K15 : Int32 → Int32 → Int32 → xMem → Prop} {post : Int32 → xMem → Prop} (C : xOk (WC g) x cX5_reckon RX5 8 (some .int) (rm_X5_reckon) (pI post)) (ho : kC o = 5) (hK15 : ∀ (x2 : Int32) (x4 : Int32) (x5 : Int32) (M : xMem), K15 x2 x4 x5 M → xW (WC g) x 8 15 [(0, .ref (ga g o)), (2, .int x2), (3, .ref (ga g 77)), (4, .int x4), (5, .int x5)] [] M) (x2 : Int32) (x4 : Int32) (x5 : Int32) (x6 : Int32) (x7 : Int32) (M : xMem)  (h : wX5_reckon_91 o K15 post x2 x4 x5 x6 x7 M) : xW (WC g) x 8 91 [(0, .ref (ga g o)), (2, .int x2), (3, .ref (ga g 77)), (4, .int x4), (5, .int x5), (6, .int x6), (7, .int x7)] [.ref (ga g o)] M := by
  unfold wX5_reckon_91 at h
  refine x_iconst C (v1 := 1) dX5_reckon_91 (by decide) ?_
  refine x_goto C (tgt := 96) dX5_reckon_92 (by decide) ?_
  exact tX5_reckon_96 hg  C ho hK15 _ _ _ _ _ _ _  h
set_option maxHeartbeats 4000000 in
set_option maxRecDepth 100000 in
theorem tX5_reckon_95 {g : xG} (hg : x_inj (WC g))  {x : xCx} {o : Nat} {K15 : Int32 → Int32 → Int32 → xMem → Prop} {post : Int32 → xMem → Prop} (C : xOk (WC g) x cX5_reckon RX5 8 (some .int) (rm_X5_reckon) (pI post)) (ho : kC o = 5) (hK15 : ∀ (x2 : Int32) (x4 : Int32) (x5 : Int32) (M : xMem), K15 x2 x4 x5 M → xW (WC g) x 8 15 [(0, .ref (ga g o)), (2, .int x2), (3, .ref (ga g 77)), (4, .int x4), (5, .int x5)] [] M) (x2 : Int32) (x4 : Int32) (x5 : Int32) (x6 : Int32) (x7 : Int32) (M : xMem)  (h : wX5_reckon_95 o K15 post x2 x4 x5 x6 x7 M) : xW (WC g) x 8 95 [(0, .ref (ga g o)), (2, .int x2), (3, .ref (ga g 77)), (4, .int x4), (5, .int x5), (6, .int x6), (7, .int x7)] [.ref (ga g o)] M := by
  unfold wX5_reckon_95 at h
  refine x_iconst C (v1 := 0) dX5_reckon_95 (by decide) ?_
  exact tX5_reckon_96 hg  C ho hK15 _ _ _ _ _ _ _  h
set_option maxHeartbeats 4000000 in
set_option maxRecDepth 100000 in
theorem tX5_reckon_70 {g : xG} (hg : x_inj (WC g))  {x : xCx} {o : Nat} {K15 : Int32 → Int32 → Int32 → xMem → Prop} {post : Int32 → xMem → Prop} (C : xOk (WC g) x cX5_reckon RX5 8 (some .int) (rm_X5_reckon) (pI post)) (ho : kC o = 5) (hK15 : ∀ (x2 : Int32) (x4 : Int32) (x5 : Int32) (M : xMem), K15 x2 x4 x5 M → xW (WC g) x 8 15 [(0, .ref (ga g o)), (2, .int x2), (3, .ref (ga g 77)), (4, .int x4), (5, .int x5)] [] M) (x2 : Int32) (x4 : Int32) (x5 : Int32) (x6 : Int32) (x7 : Int32) (M : xMem)  (h : wX5_reckon_70 o K15 post x2 x4 x5 x6 x7 M) : xW (WC g) x 8 70 [(0, .ref (ga g o)), (2, .int x2), (3, .ref (ga g 77)), (4, .int x4), (5, .int x5), (6, .int x6), (7, .int x7)] [] M := by
  unfold wX5_reckon_70 at h
  refine x_aload_n C 0 rfl rfl dX5_reckon_70 ?_
  refine x_iload C 3 rfl dX5_reckon_71 ?_
  refine x_bipush C (v1 := 64) dX5_reckon_73 (by decide) ?_
  refine x_icmp_ge C (tgt := 91) dX5_reckon_75 (by decide) (fun hq1 => ?_) (fun hq1 => ?_)
  · replace h := x_ift hq1 h
    exact tX5_reckon_91 hg  C ho hK15 _ _ _ _ _ _  h
  · replace h := x_iff hq1 h
    refine x_iload C 5 rfl dX5_reckon_78 ?_
    refine x_iconst C (v1 := 1) dX5_reckon_80 (by decide) ?_
    refine x_icmp_ne C (tgt := 95) dX5_reckon_81 (by decide) (fun hq2 => ?_) (fun hq2 => ?_)
    · replace h := x_iff hq2 h
      exact tX5_reckon_95 hg  C ho hK15 _ _ _ _ _ _  h
    · replace h := x_ift hq2 h
      refine x_iload C 6 rfl dX5_reckon_84 ?_
      refine x_aload_n C 2 rfl rfl dX5_reckon_86 ?_
      refine x_aleni C (c := 77) (v1 := 12) (enC_20n (c := 77) (n := 12) rfl rfl) (Nat.le_of_ble_eq_true rfl) rfl rfl dX5_reckon_87 ?_
      refine x_icmp_lt C (tgt := 95) dX5_reckon_88 (by decide) (fun hq3 => ?_) (fun hq3 => ?_)
      · replace h := x_ift hq3 h
        exact tX5_reckon_95 hg  C ho hK15 _ _ _ _ _ _  h
      · replace h := x_iff hq3 h
        exact tX5_reckon_91 hg  C ho hK15 _ _ _ _ _ _  h
set_option maxHeartbeats 4000000 in
set_option maxRecDepth 100000 in
theorem tX5_reckon_151 {g : xG} (hg : x_inj (WC g))  {x : xCx} {o : Nat} {K15 : Int32 → Int32 → Int32 → xMem → Prop} {post : Int32 → xMem → Prop} (C : xOk (WC g) x cX5_reckon RX5 8 (some .int) (rm_X5_reckon) (pI post)) (ho : kC o = 5) (hK15 : ∀ (x2 : Int32) (x4 : Int32) (x5 : Int32) (M : xMem), K15 x2 x4 x5 M → xW (WC g) x 8 15 [(0, .ref (ga g o)), (2, .int x2), (3, .ref (ga g 77)), (4, .int x4), (5, .int x5)] [] M) (x2 : Int32) (x4 : Int32) (x5 : Int32) (M : xMem)  (h : wX5_reckon_151 o K15 post x2 x4 x5 M) : xW (WC g) x 8 151 [(0, .ref (ga g o)), (2, .int x2), (3, .ref (ga g 77)), (4, .int x4), (5, .int x5)] [] M := by
  unfold wX5_reckon_151 at h
  refine x_aload_n C 0 rfl rfl dX5_reckon_151 ?_
  refine x_iconst C (v1 := 1) dX5_reckon_152 (by decide) ?_
  refine x_put C (c := o) (ci := 5) (k1 := 8) (u1 := 1) (v1 := .int 1) (ty := .boolean) (enC_5 (c := o) ho) (kC_lt ho (by decide)) rfl inX5 (by decide) (stX5_8 _ _ _) tyX5 tyX5_ok nmX5 wf_X5_37 rfl rfl rfl rfl (Nat.le_of_ble_eq_true rfl) dX5_reckon_153 ?_
  refine x_nmM (fun M1 eM1 => ?_)
  replace h := h M1 eM1
  refine x_goto C (tgt := 271) dX5_reckon_156 (by decide) ?_
  exact tX5_reckon_271 hg  C ho hK15 _ _ _ _  h
set_option maxHeartbeats 4000000 in
set_option maxRecDepth 100000 in
theorem tX5_reckon_251 {g : xG} (hg : x_inj (WC g))  {x : xCx} {o : Nat} {K15 : Int32 → Int32 → Int32 → xMem → Prop} {post : Int32 → xMem → Prop} (C : xOk (WC g) x cX5_reckon RX5 8 (some .int) (rm_X5_reckon) (pI post)) (ho : kC o = 5) (hK15 : ∀ (x2 : Int32) (x4 : Int32) (x5 : Int32) (M : xMem), K15 x2 x4 x5 M → xW (WC g) x 8 15 [(0, .ref (ga g o)), (2, .int x2), (3, .ref (ga g 77)), (4, .int x4), (5, .int x5)] [] M) (x2 : Int32) (x4 : Int32) (x5 : Int32) (x7 : Int32) (s0 : Int32) (s1 : Int32) (M : xMem)  (h : wX5_reckon_251 o K15 post x2 x4 x5 x7 s0 s1 M) : xW (WC g) x 8 251 [(0, .ref (ga g o)), (2, .int x2), (3, .ref (ga g 77)), (4, .int x4), (5, .int x5), (7, .int x7)] [.int s0, .int s1] M := by
  unfold wX5_reckon_251 at h
  refine x_icmp_ne C (tgt := 268) dX5_reckon_251 (by decide) (fun hq1 => ?_) (fun hq1 => ?_)
  · replace h := x_iff hq1 h
    obtain ⟨v2, ev2⟩ : ∃ z : Int32, z = x4 + (-1) := ⟨_, rfl⟩
    replace h := h v2 ev2
    refine x_iinc C 3 (v1 := v2) (L' := [(4, .int v2), (0, .ref (ga g o)), (2, .int x2), (3, .ref (ga g 77)), (5, .int x5), (7, .int x7)]) rfl (by rw [ev2]; rfl) rfl (Nat.le_of_ble_eq_true rfl) dX5_reckon_268 ?_
    refine x_loc (L' := [(0, .ref (ga g o)), (2, .int x2), (3, .ref (ga g 77)), (4, .int v2), (5, .int x5)]) [1, 2, 3, 0, 4] rfl ?_
    exact tX5_reckon_271 hg  C ho hK15 _ _ _ _  h
  · replace h := x_ift hq1 h
    refine x_iload C 4 rfl dX5_reckon_254 ?_
    refine x_iload C 5 rfl dX5_reckon_256 ?_
    refine x_iconst C (v1 := 1) dX5_reckon_258 (by decide) ?_
    refine x_isub C dX5_reckon_259 ?_
    refine x_callS C (st := []) (As := [.int x5, .int (x7 - 1)]) (tJ9_max_7cf53 hg _ _ _ _ _  h) wm_X5_60 wsm_J9_max_7cf53 wz_J9 wc_J9_max_7cf53 yd_J9_max_7cf53 rfl ⟨rfl, rfl⟩ ⟨Nat.le_of_ble_eq_true rfl, Nat.le_of_ble_eq_true rfl⟩ (Nat.le_of_ble_eq_true rfl) rfl dX5_reckon_260 (x_ki (fun r4 M3 h => ?_))
    refine x_istore C (L' := [(5, .int r4), (0, .ref (ga g o)), (2, .int x2), (3, .ref (ga g 77)), (4, .int x4), (7, .int x7)]) rfl (Nat.le_of_ble_eq_true rfl) dX5_reckon_263 ?_
    refine x_goto C (tgt := 271) dX5_reckon_265 (by decide) ?_
    refine x_loc (L' := [(0, .ref (ga g o)), (2, .int x2), (3, .ref (ga g 77)), (4, .int x4), (5, .int r4)]) [1, 2, 3, 4, 0] rfl ?_
    exact tX5_reckon_271 hg  C ho hK15 _ _ _ _  h
set_option maxHeartbeats 4000000 in
set_option maxRecDepth 100000 in
theorem tX5_reckon_159 {g : xG} (hg : x_inj (WC g))  {x : xCx} {o : Nat} {K15 : Int32 → Int32 → Int32 → xMem → Prop} {post : Int32 → xMem → Prop} (C : xOk (WC g) x cX5_reckon RX5 8 (some .int) (rm_X5_reckon) (pI post)) (ho : kC o = 5) (hK15 : ∀ (x2 : Int32) (x4 : Int32) (x5 : Int32) (M : xMem), K15 x2 x4 x5 M → xW (WC g) x 8 15 [(0, .ref (ga g o)), (2, .int x2), (3, .ref (ga g 77)), (4, .int x4), (5, .int x5)] [] M) (x2 : Int32) (x4 : Int32) (x5 : Int32) (x6 : Int32) (x7 : Int32) (M : xMem)  (h : wX5_reckon_159 o K15 post x2 x4 x5 x6 x7 M) : xW (WC g) x 8 159 [(0, .ref (ga g o)), (2, .int x2), (3, .ref (ga g 77)), (4, .int x4), (5, .int x5), (6, .int x6), (7, .int x7)] [] M := by
  unfold wX5_reckon_159 at h
  refine x_iload C 5 rfl dX5_reckon_159 ?_
  refine x_iconst C (v1 := 2) dX5_reckon_161 (by decide) ?_
  refine x_icmp_ne C (tgt := 188) dX5_reckon_162 (by decide) (fun hq1 => ?_) (fun hq1 => ?_)
  · replace h := x_iff hq1 h
    refine x_iload C 5 rfl dX5_reckon_188 ?_
    refine x_iconst C (v1 := 5) dX5_reckon_190 (by decide) ?_
    refine x_icmp_lt C (tgt := 231) dX5_reckon_191 (by decide) (fun hq2 => ?_) (fun hq2 => ?_)
    · replace h := x_ift hq2 h
      refine x_aload_n C 0 rfl rfl dX5_reckon_231 ?_
      refine x_get C (c := o) (ci := 5) (k1 := 7) (v1 := .ref (ga g ((o + 6)))) (enC_5 (c := o) ho) (kC_lt ho (by decide)) rfl inX5 (by decide) wf_X5_34 rfl dX5_reckon_232 ?_
      refine x_iload C 3 rfl dX5_reckon_235 ?_
      refine x_iconst C (v1 := 1) dX5_reckon_237 (by decide) ?_
      refine x_isub C dX5_reckon_238 ?_
      obtain ⟨hi3, h⟩ := h
      refine x_iald C 0 (c := (o + 6)) (enC_20n (c := (o + 6)) (n := 64) (krX5_6 ho) (lrX5_6 ho)) (kC_lt (krX5_6 ho) (by decide)) rfl hi3 dX5_reckon_239 ?_
      refine x_iload C 5 rfl dX5_reckon_240 ?_
      refine x_iconst C (v1 := 4) dX5_reckon_242 (by decide) ?_
      refine x_icmp_ne C (tgt := 250) dX5_reckon_243 (by decide) (fun hq4 => ?_) (fun hq4 => ?_)
      · replace h := x_iff hq4 h
        refine x_iconst C (v1 := 0) dX5_reckon_250 (by decide) ?_
        refine x_loc (L' := [(0, .ref (ga g o)), (2, .int x2), (3, .ref (ga g 77)), (4, .int x4), (5, .int x5), (7, .int x7)]) [0, 1, 2, 3, 4, 6] rfl ?_
        exact tX5_reckon_251 hg  C ho hK15 _ _ _ _ _ _ _  h
      · replace h := x_ift hq4 h
        refine x_iconst C (v1 := 1) dX5_reckon_246 (by decide) ?_
        refine x_goto C (tgt := 251) dX5_reckon_247 (by decide) ?_
        refine x_loc (L' := [(0, .ref (ga g o)), (2, .int x2), (3, .ref (ga g 77)), (4, .int x4), (5, .int x5), (7, .int x7)]) [0, 1, 2, 3, 4, 6] rfl ?_
        exact tX5_reckon_251 hg  C ho hK15 _ _ _ _ _ _ _  h
    · replace h := x_iff hq2 h
      obtain ⟨v5, ev5⟩ : ∃ z : Int32, z = x4 + (-1) := ⟨_, rfl⟩
      replace h := h v5 ev5
      refine x_iinc C 3 (v1 := v5) (L' := [(4, .int v5), (0, .ref (ga g o)), (2, .int x2), (3, .ref (ga g 77)), (5, .int x5), (6, .int x6), (7, .int x7)]) rfl (by rw [ev5]; rfl) rfl (Nat.le_of_ble_eq_true rfl) dX5_reckon_194 ?_
      refine x_aload_n C 1 rfl rfl dX5_reckon_197 ?_
      refine x_get C (c := o) (ci := 5) (k1 := 7) (v1 := .ref (ga g ((o + 6)))) (enC_5 (c := o) ho) (kC_lt ho (by decide)) rfl inX5 (by decide) wf_X5_34 rfl dX5_reckon_198 ?_
      refine x_iload C 0 rfl dX5_reckon_201 ?_
      refine x_iconst C (v1 := 1) dX5_reckon_203 (by decide) ?_
      refine x_isub C dX5_reckon_204 ?_
      refine x_aload_n C 1 rfl rfl dX5_reckon_205 ?_
      refine x_iload C 5 rfl dX5_reckon_206 ?_
      refine x_aload_n C 1 rfl rfl dX5_reckon_208 ?_
      refine x_get C (c := o) (ci := 5) (k1 := 7) (v1 := .ref (ga g ((o + 6)))) (enC_5 (c := o) ho) (kC_lt ho (by decide)) rfl inX5 (by decide) wf_X5_34 rfl dX5_reckon_209 ?_
      refine x_iload C 0 rfl dX5_reckon_212 ?_
      refine x_iconst C (v1 := 1) dX5_reckon_214 (by decide) ?_
      refine x_isub C dX5_reckon_215 ?_
      obtain ⟨hi6, h⟩ := h
      refine x_iald C 0 (c := (o + 6)) (enC_20n (c := (o + 6)) (n := 64) (krX5_6 ho) (lrX5_6 ho)) (kC_lt (krX5_6 ho) (by decide)) rfl hi6 dX5_reckon_216 ?_
      refine x_aload_n C 1 rfl rfl dX5_reckon_217 ?_
      refine x_get C (c := o) (ci := 5) (k1 := 7) (v1 := .ref (ga g ((o + 6)))) (enC_5 (c := o) ho) (kC_lt ho (by decide)) rfl inX5 (by decide) wf_X5_34 rfl dX5_reckon_218 ?_
      refine x_iload C 0 rfl dX5_reckon_221 ?_
      obtain ⟨hi7, h⟩ := h
      refine x_iald C 0 (c := (o + 6)) (enC_20n (c := (o + 6)) (n := 64) (krX5_6 ho) (lrX5_6 ho)) (kC_lt (krX5_6 ho) (by decide)) rfl hi7 dX5_reckon_223 ?_
      refine x_callV C (st := [.int (v5 - 1), .ref (ga g ((o + 6)))]) (As := [.int x6, .int (gi M ((o + 6)) (v5 - 1).toNatClampNeg), .int (gi M ((o + 6)) v5.toNatClampNeg)]) (c := o) (ci := 5) (enC_5 (c := o) ho) (kC_lt ho (by decide)) rfl (tX5_joined hg _ _ _ _ _ _ _ ho h) wm_X5_63 wi_X5_joined wv_X5_joined wz_X5 wc_X5_joined rfl yd_X5_joined rfl ⟨rfl, rfl⟩ ⟨Nat.le_of_ble_eq_true rfl, Nat.le_of_ble_eq_true rfl⟩ (Nat.le_of_ble_eq_true rfl) rfl dX5_reckon_224 (x_ki (fun r9 M8 h => ?_))
      obtain ⟨hi10, h⟩ := h
      refine x_iast C 0 (c := (o + 6)) (enC_20n (c := (o + 6)) (n := 64) (krX5_6 ho) (lrX5_6 ho)) (kC_lt (krX5_6 ho) (by decide)) rfl hi10 dX5_reckon_227 ?_
      refine x_nmM (fun M11 eM11 => ?_)
      replace h := h M11 eM11
      refine x_goto C (tgt := 271) dX5_reckon_228 (by decide) ?_
      refine x_loc (L' := [(0, .ref (ga g o)), (2, .int x2), (3, .ref (ga g 77)), (4, .int v5), (5, .int x5)]) [1, 2, 3, 0, 4] rfl ?_
      exact tX5_reckon_271 hg  C ho hK15 _ _ _ _  h
  · replace h := x_ift hq1 h
    refine x_aload_n C 0 rfl rfl dX5_reckon_165 ?_
    refine x_get C (c := o) (ci := 5) (k1 := 7) (v1 := .ref (ga g ((o + 6)))) (enC_5 (c := o) ho) (kC_lt ho (by decide)) rfl inX5 (by decide) wf_X5_34 rfl dX5_reckon_166 ?_
    refine x_iload C 3 rfl dX5_reckon_169 ?_
    refine x_iconst C (v1 := 1) dX5_reckon_171 (by decide) ?_
    refine x_isub C dX5_reckon_172 ?_
    refine x_iconst C (v1 := 1) dX5_reckon_173 (by decide) ?_
    refine x_aload_n C 0 rfl rfl dX5_reckon_174 ?_
    refine x_get C (c := o) (ci := 5) (k1 := 7) (v1 := .ref (ga g ((o + 6)))) (enC_5 (c := o) ho) (kC_lt ho (by decide)) rfl inX5 (by decide) wf_X5_34 rfl dX5_reckon_175 ?_
    refine x_iload C 3 rfl dX5_reckon_178 ?_
    refine x_iconst C (v1 := 1) dX5_reckon_180 (by decide) ?_
    refine x_isub C dX5_reckon_181 ?_
    obtain ⟨hi12, h⟩ := h
    refine x_iald C 0 (c := (o + 6)) (enC_20n (c := (o + 6)) (n := 64) (krX5_6 ho) (lrX5_6 ho)) (kC_lt (krX5_6 ho) (by decide)) rfl hi12 dX5_reckon_182 ?_
    refine x_isub C dX5_reckon_183 ?_
    obtain ⟨hi13, h⟩ := h
    refine x_iast C 0 (c := (o + 6)) (enC_20n (c := (o + 6)) (n := 64) (krX5_6 ho) (lrX5_6 ho)) (kC_lt (krX5_6 ho) (by decide)) rfl hi13 dX5_reckon_184 ?_
    refine x_nmM (fun M14 eM14 => ?_)
    replace h := h M14 eM14
    refine x_goto C (tgt := 271) dX5_reckon_185 (by decide) ?_
    refine x_loc (L' := [(0, .ref (ga g o)), (2, .int x2), (3, .ref (ga g 77)), (4, .int x4), (5, .int x5)]) [0, 1, 2, 3, 4] rfl ?_
    exact tX5_reckon_271 hg  C ho hK15 _ _ _ _  h
set_option maxHeartbeats 4000000 in
set_option maxRecDepth 100000 in
theorem tX5_reckon_15 {g : xG} (hg : x_inj (WC g))  {x : xCx} {o : Nat}  {post : Int32 → xMem → Prop} (C : xOk (WC g) x cX5_reckon RX5 8 (some .int) (rm_X5_reckon) (pI post)) (ho : kC o = 5)  : ∀ (n : Nat) (x2 : Int32) (x4 : Int32) (x5 : Int32) (M : xMem), wX5_reckon_15 o post n x2 x4 x5 M → xW (WC g) x 8 15 [(0, .ref (ga g o)), (2, .int x2), (3, .ref (ga g 77)), (4, .int x4), (5, .int x5)] [] M := by
  intro n
  induction n with
  | zero =>
    intro x2 x4 x5 M  h
    exact h.elim
  | succ n ih =>
    intro x2 x4 x5 M  h
    rw [wX5_reckon_15] at h
    refine x_iload C 4 rfl dX5_reckon_15 ?_
    refine x_iload_n C 1 rfl rfl dX5_reckon_17 ?_
    refine x_icmp_ge C (tgt := 277) dX5_reckon_18 (by decide) (fun hq1 => ?_) (fun hq1 => ?_)
    · replace h := x_ift hq1 h
      refine x_loc (L' := [(0, .ref (ga g o)), (4, .int x4)]) [0, 3] rfl ?_
      exact tX5_reckon_277 hg  C ho  _ _  h
    · replace h := x_iff hq1 h
      refine x_iload C 4 rfl dX5_reckon_21 ?_
      refine x_sipush C (v1 := 240) dX5_reckon_23 (by decide) ?_
      refine x_icmp_ge C (tgt := 277) dX5_reckon_26 (by decide) (fun hq2 => ?_) (fun hq2 => ?_)
      · replace h := x_ift hq2 h
        refine x_loc (L' := [(0, .ref (ga g o)), (4, .int x4)]) [0, 3] rfl ?_
        exact tX5_reckon_277 hg  C ho  _ _  h
      · replace h := x_iff hq2 h
        refine x_aload_n C 0 rfl rfl dX5_reckon_29 ?_
        refine x_get C (c := o) (ci := 5) (k1 := 8) (v1 := .int (gi M o 8)) (enC_5 (c := o) ho) (kC_lt ho (by decide)) rfl inX5 (by decide) wf_X5_37 rfl dX5_reckon_30 ?_
        refine x_if_ne C (tgt := 277) dX5_reckon_33 (by decide) (fun hq3 => ?_) (fun hq3 => ?_)
        · replace h := x_iff hq3 h
          refine x_loc (L' := [(0, .ref (ga g o)), (4, .int x4)]) [0, 3] rfl ?_
          exact tX5_reckon_277 hg  C ho  _ _  h
        · replace h := x_ift hq3 h
          refine x_aload_n C 0 rfl rfl dX5_reckon_36 ?_
          refine x_get C (c := o) (ci := 5) (k1 := 6) (v1 := .ref (ga g ((o + 5)))) (enC_5 (c := o) ho) (kC_lt ho (by decide)) rfl inX5 (by decide) wf_X5_31 rfl dX5_reckon_37 ?_
          refine x_iload C 4 rfl dX5_reckon_40 ?_
          obtain ⟨hi4, h⟩ := h
          refine x_iald C 0 (c := (o + 5)) (enC_20n (c := (o + 5)) (n := 240) (krX5_5 ho) (lrX5_5 ho)) (kC_lt (krX5_5 ho) (by decide)) rfl hi4 dX5_reckon_42 ?_
          refine x_bipush C (v1 := 15) dX5_reckon_43 (by decide) ?_
          refine x_iand C dX5_reckon_45 ?_
          refine x_nm (fun v5 ev5 => ?_)
          replace h := h v5 ev5
          refine x_istore C (L' := [(6, .int v5), (0, .ref (ga g o)), (2, .int x2), (3, .ref (ga g 77)), (4, .int x4), (5, .int x5)]) rfl (Nat.le_of_ble_eq_true rfl) dX5_reckon_46 ?_
          refine x_aload_n C 1 rfl rfl dX5_reckon_48 ?_
          refine x_get C (c := o) (ci := 5) (k1 := 6) (v1 := .ref (ga g ((o + 5)))) (enC_5 (c := o) ho) (kC_lt ho (by decide)) rfl inX5 (by decide) wf_X5_31 rfl dX5_reckon_49 ?_
          refine x_iload C 5 rfl dX5_reckon_52 ?_
          obtain ⟨hi6, h⟩ := h
          refine x_iald C 0 (c := (o + 5)) (enC_20n (c := (o + 5)) (n := 240) (krX5_5 ho) (lrX5_5 ho)) (kC_lt (krX5_5 ho) (by decide)) rfl hi6 dX5_reckon_54 ?_
          refine x_iconst C (v1 := 4) dX5_reckon_55 (by decide) ?_
          refine x_ishr C dX5_reckon_56 ?_
          refine x_nm (fun v7 ev7 => ?_)
          replace h := h v7 ev7
          refine x_istore C (L' := [(7, .int v7), (6, .int v5), (0, .ref (ga g o)), (2, .int x2), (3, .ref (ga g 77)), (4, .int x4), (5, .int x5)]) rfl (Nat.le_of_ble_eq_true rfl) dX5_reckon_57 ?_
          refine x_iload C 1 rfl dX5_reckon_59 ?_
          refine x_if_eq C (tgt := 70) dX5_reckon_61 (by decide) (fun hq8 => ?_) (fun hq8 => ?_)
          · replace h := x_ift hq8 h
            refine x_loc (L' := [(0, .ref (ga g o)), (2, .int x2), (3, .ref (ga g 77)), (4, .int x4), (5, .int x5), (6, .int v5), (7, .int v7)]) [2, 3, 4, 5, 6, 1, 0] rfl ?_
            exact tX5_reckon_70 hg  C ho ih _ _ _ _ _ _  h
          · replace h := x_iff hq8 h
            refine x_iload C 1 rfl dX5_reckon_64 ?_
            refine x_iconst C (v1 := 1) dX5_reckon_66 (by decide) ?_
            refine x_icmp_ne C (tgt := 133) dX5_reckon_67 (by decide) (fun hq9 => ?_) (fun hq9 => ?_)
            · replace h := x_iff hq9 h
              refine x_iload C 5 rfl dX5_reckon_133 ?_
              refine x_iconst C (v1 := 1) dX5_reckon_135 (by decide) ?_
              refine x_icmp_lt C (tgt := 151) dX5_reckon_136 (by decide) (fun hq10 => ?_) (fun hq10 => ?_)
              · replace h := x_ift hq10 h
                refine x_loc (L' := [(0, .ref (ga g o)), (2, .int x2), (3, .ref (ga g 77)), (4, .int x4), (5, .int x5)]) [2, 3, 4, 5, 6] rfl ?_
                exact tX5_reckon_151 hg  C ho ih _ _ _ _  h
              · replace h := x_iff hq10 h
                refine x_iload C 1 rfl dX5_reckon_139 ?_
                refine x_iconst C (v1 := 5) dX5_reckon_141 (by decide) ?_
                refine x_icmp_lt C (tgt := 159) dX5_reckon_142 (by decide) (fun hq11 => ?_) (fun hq11 => ?_)
                · replace h := x_ift hq11 h
                  refine x_loc (L' := [(0, .ref (ga g o)), (2, .int x2), (3, .ref (ga g 77)), (4, .int x4), (5, .int x5), (6, .int v5), (7, .int v7)]) [2, 3, 4, 5, 6, 1, 0] rfl ?_
                  exact tX5_reckon_159 hg  C ho ih _ _ _ _ _ _  h
                · replace h := x_iff hq11 h
                  refine x_iload C 5 rfl dX5_reckon_145 ?_
                  refine x_iconst C (v1 := 2) dX5_reckon_147 (by decide) ?_
                  refine x_icmp_ge C (tgt := 159) dX5_reckon_148 (by decide) (fun hq12 => ?_) (fun hq12 => ?_)
                  · replace h := x_ift hq12 h
                    refine x_loc (L' := [(0, .ref (ga g o)), (2, .int x2), (3, .ref (ga g 77)), (4, .int x4), (5, .int x5), (6, .int v5), (7, .int v7)]) [2, 3, 4, 5, 6, 1, 0] rfl ?_
                    exact tX5_reckon_159 hg  C ho ih _ _ _ _ _ _  h
                  · replace h := x_iff hq12 h
                    refine x_loc (L' := [(0, .ref (ga g o)), (2, .int x2), (3, .ref (ga g 77)), (4, .int x4), (5, .int x5)]) [2, 3, 4, 5, 6] rfl ?_
                    exact tX5_reckon_151 hg  C ho ih _ _ _ _  h
            · replace h := x_ift hq9 h
              refine x_loc (L' := [(0, .ref (ga g o)), (2, .int x2), (3, .ref (ga g 77)), (4, .int x4), (5, .int x5), (6, .int v5), (7, .int v7)]) [2, 3, 4, 5, 6, 1, 0] rfl ?_
              exact tX5_reckon_70 hg  C ho ih _ _ _ _ _ _  h
set_option maxHeartbeats 4000000 in
set_option maxRecDepth 100000 in
theorem tX5_reckon {g : xG} (hg : x_inj (WC g))  (l : Launch) (o : Nat) (a0 : Int32) (a1 : Int32) (M : xMem) (post : Int32 → xMem → Prop) (ho : kC o = 5) (h : wX5_reckon o a0 a1 M post) : xMet (WC g) l yX5_reckon cX5_reckon 8 (some .int) (rm_X5_reckon) [.ref (ga g o), .int a0, .int a1, .ref (ga g 77)] M (pI post) := by
  refine x_enter (own := RX5) (L0 := [(0, .ref (ga g o)), (1, .int a0), (2, .int a1), (3, .ref (ga g 77))]) (by decide +kernel) rfl hg (x_stC g) (Nat.le_of_ble_eq_true rfl) rfl (fun x hl C => ?_)
  unfold wX5_reckon at h
  refine x_iconst C (v1 := 0) dX5_reckon_0 (by decide) ?_
  refine x_istore C (L' := [(4, .int 0), (0, .ref (ga g o)), (1, .int a0), (2, .int a1), (3, .ref (ga g 77))]) rfl (Nat.le_of_ble_eq_true rfl) dX5_reckon_1 ?_
  refine x_aload_n C 1 rfl rfl dX5_reckon_3 ?_
  refine x_iconst C (v1 := 0) dX5_reckon_4 (by decide) ?_
  refine x_put C (c := o) (ci := 5) (k1 := 8) (u1 := 0) (v1 := .int 0) (ty := .boolean) (enC_5 (c := o) ho) (kC_lt ho (by decide)) rfl inX5 (by decide) (stX5_8 _ _ _) tyX5 tyX5_ok nmX5 wf_X5_37 rfl rfl rfl rfl (Nat.le_of_ble_eq_true rfl) dX5_reckon_5 ?_
  refine x_nmM (fun M1 eM1 => ?_)
  replace h := h M1 eM1
  refine x_iconst C (v1 := 0) dX5_reckon_8 (by decide) ?_
  refine x_iload_n C 2 rfl rfl dX5_reckon_9 ?_
  refine x_callS C (st := []) (As := [.int 0, .int a0]) (tJ9_max_7cf53 hg _ _ _ _ _  h) wm_X5_60 wsm_J9_max_7cf53 wz_J9 wc_J9_max_7cf53 yd_J9_max_7cf53 rfl ⟨rfl, rfl⟩ ⟨Nat.le_of_ble_eq_true rfl, Nat.le_of_ble_eq_true rfl⟩ (Nat.le_of_ble_eq_true rfl) rfl dX5_reckon_10 (x_ki (fun r3 M2 h => ?_))
  refine x_istore C (L' := [(5, .int r3), (4, .int 0), (0, .ref (ga g o)), (1, .int a0), (2, .int a1), (3, .ref (ga g 77))]) rfl (Nat.le_of_ble_eq_true rfl) dX5_reckon_13 ?_
  refine x_loc (L' := [(0, .ref (ga g o)), (2, .int a1), (3, .ref (ga g 77)), (4, .int 0), (5, .int r3)]) [2, 4, 5, 1, 0] rfl ?_
  obtain ⟨n15, h⟩ := h
  exact tX5_reckon_15 hg  C ho  _ _ _ _ _  h
