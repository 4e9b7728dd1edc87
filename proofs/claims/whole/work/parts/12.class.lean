abbrev rm_X11_tried : Room := { frames := 7, cells := 0, slots := 0, locals := 180 }
theorem yd_X11_tried : yX11_tried.cls ≠ "java/lang/invoke/MethodHandle" ∧ yX11_tried.cls ≠ "java/lang/invoke/VarHandle" ∧ (parseMethodDescriptor yX11_tried.desc).map (fun d => d.parameters.length) = some 2 := by decide +kernel
def wX11_tried  (a0 : Int32) (a1 : Int32) (M : xMem) (post : Int32 → xMem → Prop) : Prop :=
    wX11_isWithin a0 1 60 M (fun r2 M1 =>
      if r2 = 0 then (
        post (-1) M1)
      else (
        wX11_canBeTried a1 M1 (fun r5 M4 =>
          if r5 = 0 then (
            post (-1) M4)
          else (
            wX4_takeFrom 67 49 M4 (fun M7 =>
              wX1_run 67 18 a0 M7 (fun M8 =>
                wX1_result a1 M8 (fun r10 M9 =>
                  post r10 M9)))))))
abbrev rm_X11_other : Room := { frames := 7, cells := 0, slots := 0, locals := 180 }
theorem yd_X11_other : yX11_other.cls ≠ "java/lang/invoke/MethodHandle" ∧ yX11_other.cls ≠ "java/lang/invoke/VarHandle" ∧ (parseMethodDescriptor yX11_other.desc).map (fun d => d.parameters.length) = some 2 := by decide +kernel
def wX11_other  (a0 : Int32) (a1 : Int32) (M : xMem) (post : Int32 → xMem → Prop) : Prop :=
    wX11_isWithin a0 1 60 M (fun r2 M1 =>
      if r2 = 0 then (
        post (-1) M1)
      else (
        wX11_canBeTried a1 M1 (fun r5 M4 =>
          if r5 = 0 then (
            post (-1) M4)
          else (
            wX4_takeFrom 67 49 M4 (fun M7 =>
              wX1_run 67 25 a0 M7 (fun M8 =>
                wX1_result a1 M8 (fun r10 M9 =>
                  post r10 M9)))))))
abbrev rm_X11_copy : Room := { frames := 2, cells := 0, slots := 0, locals := 81 }
theorem yd_X11_copy : yX11_copy.cls ≠ "java/lang/invoke/MethodHandle" ∧ yX11_copy.cls ≠ "java/lang/invoke/VarHandle" ∧ (parseMethodDescriptor yX11_copy.desc).map (fun d => d.parameters.length) = some 0 := by decide +kernel
def wX11_copy   (M : xMem) (post : Int32 → xMem → Prop) : Prop :=
    wX5_takeFrom 25 18 M (fun M1 =>
      post (gi M1 25 0) M1)
abbrev rm_X11_first : Room := { frames := 7, cells := 0, slots := 0, locals := 180 }
theorem yd_X11_first : yX11_first.cls ≠ "java/lang/invoke/MethodHandle" ∧ yX11_first.cls ≠ "java/lang/invoke/VarHandle" ∧ (parseMethodDescriptor yX11_first.desc).map (fun d => d.parameters.length) = some 2 := by decide +kernel
def wX11_first  (a0 : Int32) (a1 : Int32) (M : xMem) (post : Int32 → xMem → Prop) : Prop :=
    wX11_isWithin a0 1 60 M (fun r2 M1 =>
      if r2 = 0 then (
        post (-1) M1)
      else (
        wX11_isWithin a1 0 1 M1 (fun r5 M4 =>
          if r5 = 0 then (
            post (-1) M4)
          else (
            wX4_takeFrom 67 49 M4 (fun M7 =>
              wX1_run 67 18 a0 M7 (fun M8 =>
                if a1 = 0 then (
                  post (gi M8 78 13) M8)
                else (
                  post (gi M8 78 14) M8)))))))
abbrev rm_X11_threadsOf : Room := { frames := 3, cells := 0, slots := 0, locals := 65 }
theorem yd_X11_threadsOf : yX11_threadsOf.cls ≠ "java/lang/invoke/MethodHandle" ∧ yX11_threadsOf.cls ≠ "java/lang/invoke/VarHandle" ∧ (parseMethodDescriptor yX11_threadsOf.desc).map (fun d => d.parameters.length) = some 1 := by decide +kernel
def wX11_threadsOf_38   (K4 : Int32 → Int32 → Int32 → xMem → Prop) (post : Int32 → xMem → Prop) (x1 : Int32) (x2 : Int32) (x3 : Int32) (M : xMem) : Prop :=
    ∀ v1 : Int32, v1 = x3 + 1 →
    K4 x1 x2 v1 M
def wX11_threadsOf_4    (post : Int32 → xMem → Prop) : Nat → Int32 → Int32 → Int32 → xMem → Prop
  | 0 => fun _ _ _ _ => False
  | n + 1 => fun x1 x2 x3 M =>
      if 6 ≤ x3 then (
        post x2 M)
      else (
        wX11_toldStory x3 M (fun q3 M2 =>
          if q3 = 0 then (
            wX11_threadsOf_38 (wX11_threadsOf_4 post n) post x1 x2 x3 M2)
          else (
            wX11_has x1 x3 M2 (fun r5 M4 =>
              if r5 = 0 then (
                wX11_threadsOf_38 (wX11_threadsOf_4 post n) post x1 x2 x3 M4)
              else (
                ∀ v7 : Int32, v7 = x2 ||| (gi M4 q3 4) →
                wX11_threadsOf_38 (wX11_threadsOf_4 post n) post x1 v7 x3 M4)))))
def wX11_threadsOf  (a0 : Int32) (M : xMem) (post : Int32 → xMem → Prop) : Prop :=
    ∃ n4 : Nat, wX11_threadsOf_4 post n4 a0 0 0 M
abbrev rm_X11_knotOf : Room := { frames := 4, cells := 0, slots := 0, locals := 89 }
theorem yd_X11_knotOf : yX11_knotOf.cls ≠ "java/lang/invoke/MethodHandle" ∧ yX11_knotOf.cls ≠ "java/lang/invoke/VarHandle" ∧ (parseMethodDescriptor yX11_knotOf.desc).map (fun d => d.parameters.length) = some 1 := by decide +kernel
def wX11_knotOf_60   (K6 : Int32 → Int32 → xMem → Prop) (K22 : Int32 → Int32 → Int32 → Int32 → xMem → Prop) (post : Int32 → xMem → Prop) (x2 : Int32) (x3 : Int32) (x4 : Int32) (x5 : Int32) (M : xMem) : Prop :=
    ∀ v1 : Int32, v1 = x5 + 1 →
    K22 x2 x3 x4 v1 M
def wX11_knotOf_22   (K6 : Int32 → Int32 → xMem → Prop) (post : Int32 → xMem → Prop) : Nat → Int32 → Int32 → Int32 → Int32 → xMem → Prop
  | 0 => fun _ _ _ _ _ => False
  | n + 1 => fun x2 x3 x4 x5 M =>
      if 6 ≤ x5 then (
        ∀ v2 : Int32, v2 = x3 + 1 →
        K6 x2 v2 M)
      else (
        wX11_toldStory x5 M (fun q4 M3 =>
          if q4 = 0 then (
            wX11_knotOf_60 K6 (wX11_knotOf_22 K6 post n) post x2 x3 x4 x5 M3)
          else (
            if ((gi M3 q4 4) &&& x4) = 0 then (
              wX11_knotOf_60 K6 (wX11_knotOf_22 K6 post n) post x2 x3 x4 x5 M3)
            else (
              ∀ v6 : Int32, v6 = x2 ||| (1 <<< (x5 &&& 31)) →
              wX11_knotOf_60 K6 (wX11_knotOf_22 K6 post n) post v6 x3 x4 x5 M3))))
def wX11_knotOf_6    (post : Int32 → xMem → Prop) : Nat → Int32 → Int32 → xMem → Prop
  | 0 => fun _ _ _ => False
  | n + 1 => fun x2 x3 M =>
      if 6 ≤ x3 then (
        post x2 M)
      else (
        wX11_threadsOf x2 M (fun r3 M2 =>
          ∃ n22 : Nat, wX11_knotOf_22 (wX11_knotOf_6 post n) post n22 x2 x3 r3 0 M2))
def wX11_knotOf  (a0 : Int32) (M : xMem) (post : Int32 → xMem → Prop) : Prop :=
    ∀ v1 : Int32, v1 = 1 <<< (a0 &&& 31) →
    ∃ n6 : Nat, wX11_knotOf_6 post n6 v1 0 M
abbrev rm_X11_storyIs : Room := { frames := 5, cells := 0, slots := 0, locals := 115 }
theorem yd_X11_storyIs : yX11_storyIs.cls ≠ "java/lang/invoke/MethodHandle" ∧ yX11_storyIs.cls ≠ "java/lang/invoke/VarHandle" ∧ (parseMethodDescriptor yX11_storyIs.desc).map (fun d => d.parameters.length) = some 2 := by decide +kernel
def wX11_storyIs  (a0 : Int32) (a1 : Int32) (M : xMem) (post : Int32 → xMem → Prop) : Prop :=
    wX11_toldStory a0 M (fun q2 M1 =>
      if q2 = 0 then (
        post (-1) M1)
      else (
        if a1 = 0 then (
          post (gi M1 q2 1) M1)
        else
        if a1 = 1 then (
          post (gi M1 q2 2) M1)
        else
        if a1 = 2 then (
          post (gi M1 q2 3) M1)
        else
        if a1 = 3 then (
          post (gi M1 q2 4) M1)
        else
        if a1 = 4 then (
          wX11_knotOf a0 M1 (fun r9 M8 =>
            post r9 M8))
        else (
          post (-1) M1)))
abbrev rm_X11_open : Room := { frames := 4, cells := 0, slots := 0, locals := 87 }
theorem yd_X11_open : yX11_open.cls ≠ "java/lang/invoke/MethodHandle" ∧ yX11_open.cls ≠ "java/lang/invoke/VarHandle" ∧ (parseMethodDescriptor yX11_open.desc).map (fun d => d.parameters.length) = some 3 := by decide +kernel
def wX11_open  (a0 : Int32) (a1 : Int32) (a2 : Int32) (M : xMem) (post : Int32 → xMem → Prop) : Prop :=
    wX11_toldStory a0 M (fun q2 M1 =>
      if q2 = 0 then (
        post (-1) M1)
      else (
        wX11_isWithin a1 0 (gi M1 q2 1) M1 (fun r4 M3 =>
          if r4 = 0 then (
            post (-1) M3)
          else (
            wX11_isWithin a2 0 1023 M3 (fun r7 M6 =>
              if r7 = 0 then (
                post (-1) M6)
              else (
                wX9_openBehind q2 0 a1 a2 M6 (fun r10 M9 =>
                  post r10 M9)))))))
abbrev rm_X2_isTold : Room := { frames := 1, cells := 0, slots := 0, locals := 22 }
theorem yd_X2_isTold : yX2_isTold.cls ≠ "java/lang/invoke/MethodHandle" ∧ yX2_isTold.cls ≠ "java/lang/invoke/VarHandle" ∧ (parseMethodDescriptor yX2_isTold.desc).map (fun d => d.parameters.length) = some 1 := by decide +kernel
def wX2_isTold  (a0 : Int32) (M : xMem) (post : Int32 → xMem → Prop) : Prop :=
    wX11_isWithin a0 0 9 M (fun r2 M1 =>
      if r2 = 0 then (
        post 0 M1)
      else (
        wX11_has (gi M1 41 0) a0 M1 (fun r5 M4 =>
          if r5 = 0 then (
            post 0 M4)
          else (
            post 1 M4))))
abbrev rm_X11_endIs : Room := { frames := 4, cells := 0, slots := 0, locals := 100 }
theorem yd_X11_endIs : yX11_endIs.cls ≠ "java/lang/invoke/MethodHandle" ∧ yX11_endIs.cls ≠ "java/lang/invoke/VarHandle" ∧ (parseMethodDescriptor yX11_endIs.desc).map (fun d => d.parameters.length) = some 2 := by decide +kernel
def wX11_endIs  (a0 : Int32) (a1 : Int32) (M : xMem) (post : Int32 → xMem → Prop) : Prop :=
    wX2_isTold a0 M (fun r2 M1 =>
      if r2 = 0 then (
        post (-1) M1)
      else (
        if a1 = 0 then (
          vp_in a0 10 ∧
          post (gi M1 42 a0.toNatClampNeg) M1)
        else
        if a1 = 1 then (
          vp_in a0 10 ∧
          post (gi M1 43 a0.toNatClampNeg) M1)
        else
        if a1 = 2 then (
          vp_in a0 10 ∧
          post (gi M1 57 a0.toNatClampNeg) M1)
        else
        if a1 = 3 then (
          vp_in a0 10 ∧
          post (gi M1 44 a0.toNatClampNeg) M1)
        else
        if a1 = 4 then (
          wX0_ofEnd 49 18 1 a0 M1 (fun r14 M13 =>
            post r14 M13))
        else
        if a1 = 5 then (
          wX0_ofEnd 49 18 5 a0 M1 (fun r17 M16 =>
            post r17 M16))
        else (
          post (-1) M1)))
abbrev rm_X4_boundTo : Room := { frames := 2, cells := 0, slots := 0, locals := 43 }
theorem yd_X4_boundTo : yX4_boundTo.cls ≠ "java/lang/invoke/MethodHandle" ∧ yX4_boundTo.cls ≠ "java/lang/invoke/VarHandle" ∧ (parseMethodDescriptor yX4_boundTo.desc).map (fun d => d.parameters.length) = some 1 := by decide +kernel
def wX4_boundTo_25  (o : Nat) (K4 : Int32 → Int32 → Int32 → xMem → Prop) (post : Int32 → xMem → Prop) (x1 : Int32) (x2 : Int32) (x3 : Int32) (M : xMem) : Prop :=
    ∀ v1 : Int32, v1 = x3 + 1 →
    K4 x1 x2 v1 M
def wX4_boundTo_4  (o : Nat)  (post : Int32 → xMem → Prop) : Nat → Int32 → Int32 → Int32 → xMem → Prop
  | 0 => fun _ _ _ _ => False
  | n + 1 => fun x1 x2 x3 M =>
      if 10 ≤ x3 then (
        post x2 M)
      else (
        wX4_isBound o x3 x1 M (fun r3 M2 =>
          if r3 = 0 then (
            wX4_boundTo_25 o (wX4_boundTo_4 o post n) post x1 x2 x3 M2)
          else (
            ∀ v5 : Int32, v5 = x2 ||| (1 <<< (x3 &&& 31)) →
            wX4_boundTo_25 o (wX4_boundTo_4 o post n) post x1 v5 x3 M2)))
def wX4_boundTo  (o : Nat) (a0 : Int32) (M : xMem) (post : Int32 → xMem → Prop) : Prop :=
    ∃ n4 : Nat, wX4_boundTo_4 o post n4 a0 0 0 M
abbrev rm_X11_tellerIs : Room := { frames := 4, cells := 0, slots := 0, locals := 100 }
theorem yd_X11_tellerIs : yX11_tellerIs.cls ≠ "java/lang/invoke/MethodHandle" ∧ yX11_tellerIs.cls ≠ "java/lang/invoke/VarHandle" ∧ (parseMethodDescriptor yX11_tellerIs.desc).map (fun d => d.parameters.length) = some 2 := by decide +kernel
def wX11_tellerIs  (a0 : Int32) (a1 : Int32) (M : xMem) (post : Int32 → xMem → Prop) : Prop :=
    wX11_isWithin a0 0 3 M (fun r2 M1 =>
      if r2 = 0 then (
        post (-1) M1)
      else (
        wX11_has (gi M1 49 0) a0 M1 (fun r5 M4 =>
          if r5 = 0 then (
            post (-1) M4)
          else (
            if a1 = 0 then (
              vp_in a0 4 ∧
              post (gi M4 50 a0.toNatClampNeg) M4)
            else
            if a1 = 1 then (
              vp_in a0 4 ∧
              post (gi M4 51 a0.toNatClampNeg) M4)
            else
            if a1 = 2 then (
              vp_in a0 4 ∧
              post (gi M4 52 a0.toNatClampNeg) M4)
            else
            if a1 = 3 then (
              vp_in a0 4 ∧
              post (gi M4 53 a0.toNatClampNeg) M4)
            else
            if a1 = 4 then (
              wX4_boundTo 49 a0 M4 (fun r17 M16 =>
                post r17 M16))
            else
            if a1 = 5 then (
              wX0_ofTeller 49 18 0 a0 M4 (fun r20 M19 =>
                post r20 M19))
            else (
              post (-1) M4)))))
abbrev rm_X11_listenerIs : Room := { frames := 1, cells := 0, slots := 0, locals := 22 }
theorem yd_X11_listenerIs : yX11_listenerIs.cls ≠ "java/lang/invoke/MethodHandle" ∧ yX11_listenerIs.cls ≠ "java/lang/invoke/VarHandle" ∧ (parseMethodDescriptor yX11_listenerIs.desc).map (fun d => d.parameters.length) = some 2 := by decide +kernel
def wX11_listenerIs  (a0 : Int32) (a1 : Int32) (M : xMem) (post : Int32 → xMem → Prop) : Prop :=
    wX11_isWithin a0 0 9 M (fun r2 M1 =>
      if r2 = 0 then (
        post (-1) M1)
      else (
        wX11_has (gi M1 49 5) a0 M1 (fun r5 M4 =>
          if r5 = 0 then (
            post (-1) M4)
          else (
            if a1 = 0 then (
              vp_in a0 10 ∧
              post (gi M4 54 a0.toNatClampNeg) M4)
            else
            if a1 = 1 then (
              vp_in a0 10 ∧
              post (gi M4 55 a0.toNatClampNeg) M4)
            else
            if a1 = 2 then (
              vp_in a0 10 ∧
              post (gi M4 56 a0.toNatClampNeg) M4)
            else (
              post (-1) M4)))))
abbrev rm_X11_cheapest : Room := { frames := 5, cells := 0, slots := 0, locals := 130 }
theorem yd_X11_cheapest : yX11_cheapest.cls ≠ "java/lang/invoke/MethodHandle" ∧ yX11_cheapest.cls ≠ "java/lang/invoke/VarHandle" ∧ (parseMethodDescriptor yX11_cheapest.desc).map (fun d => d.parameters.length) = some 2 := by decide +kernel
def wX11_cheapest  (a0 : Int32) (a1 : Int32) (M : xMem) (post : Int32 → xMem → Prop) : Prop :=
    wX11_isWithin a0 1 1023 M (fun r2 M1 =>
      if r2 = 0 then (
        post (-1) M1)
      else (
        wX11_isWithin a1 0 1 M1 (fun r5 M4 =>
          if r5 = 0 then (
            post (-1) M4)
          else (
            wX2_chooseFor a0 49 18 M4 (fun r8 M7 =>
              if r8 = 0 then (
                post (-2) M7)
              else (
                if a1 = 0 then (
                  post (gi M7 41 9) M7)
                else (
                  post (gi M7 41 8) M7)))))))
abbrev rm_X11_buys : Room := { frames := 5, cells := 0, slots := 0, locals := 126 }
theorem yd_X11_buys : yX11_buys.cls ≠ "java/lang/invoke/MethodHandle" ∧ yX11_buys.cls ≠ "java/lang/invoke/VarHandle" ∧ (parseMethodDescriptor yX11_buys.desc).map (fun d => d.parameters.length) = some 2 := by decide +kernel
def wX11_buys  (a0 : Int32) (a1 : Int32) (M : xMem) (post : Int32 → xMem → Prop) : Prop :=
    wX11_isWithin a0 0 3 M (fun r2 M1 =>
      if r2 = 0 then (
        post (-1) M1)
      else (
        wX11_has (gi M1 49 0) a0 M1 (fun r5 M4 =>
          if r5 = 0 then (
            post (-1) M4)
          else (
            wX2_isTold a1 M4 (fun r8 M7 =>
              if r8 = 0 then (
                post (-1) M7)
              else (
                vp_in a1 10 ∧
                if 0 < (gi M7 57 a1.toNatClampNeg) then (
                  wX0_ofEnd 49 18 1 a1 M7 (fun r13 M12 =>
                    vp_in a0 4 ∧
                    if r13 ≤ (gi M12 51 a0.toNatClampNeg) then (
                      wX1_beginIn 49 18 M12 (fun M16 =>
                        wX1_buyOne a0 a1 r13 M16 (fun r18 M17 =>
                          post r18 M17)))
                    else (
                      post (-1) M12)))
                else (
                  post (-1) M7)))))))
abbrev rm_X3_markLeftOut : Room := { frames := 0, cells := 0, slots := 0, locals := 0 }
theorem yd_X3_markLeftOut : yX3_markLeftOut.cls ≠ "java/lang/invoke/MethodHandle" ∧ yX3_markLeftOut.cls ≠ "java/lang/invoke/VarHandle" ∧ (parseMethodDescriptor yX3_markLeftOut.desc).map (fun d => d.parameters.length) = some 2 := by decide +kernel
def wX3_markLeftOut  (a0 : Int32) (a1 : Int32) (M : xMem) (post : xMem → Prop) : Prop :=
    if 64 ≤ a0 then (
      vp_in a1 1024 ∧
      vp_in a1 1024 ∧
      ∀ M4 : xMem, M4 = sl M 84 a1.toNatClampNeg ((gl M 84 a1.toNatClampNeg) ||| (1 <<< ((a0 - 64).toInt64 &&& 63))) →
      post M4)
    else (
      vp_in a1 1024 ∧
      vp_in a1 1024 ∧
      ∀ M7 : xMem, M7 = sl M 83 a1.toNatClampNeg ((gl M 83 a1.toNatClampNeg) ||| (1 <<< (a0.toInt64 &&& 63))) →
      post M7)
abbrev rm_X3_goBack : Room := { frames := 3, cells := 0, slots := 0, locals := 62 }
theorem yd_X3_goBack : yX3_goBack.cls ≠ "java/lang/invoke/MethodHandle" ∧ yX3_goBack.cls ≠ "java/lang/invoke/VarHandle" ∧ (parseMethodDescriptor yX3_goBack.desc).map (fun d => d.parameters.length) = some 2 := by decide +kernel
def wX3_goBack_85   (K21 : Int32 → Int32 → Nat → Int32 → xMem → Prop) (post : xMem → Prop) (x1 : Int32) (x2 : Int32) (c3 : Nat) (x4 : Int32) (M : xMem) : Prop :=
    ∀ v1 : Int32, v1 = x4 + 1 →
    K21 x1 x2 c3 v1 M
def wX3_goBack_21    (post : xMem → Prop) : Nat → Int32 → Int32 → Nat → Int32 → xMem → Prop
  | 0 => fun _ _ _ _ _ => False
  | n + 1 => fun x1 x2 c3 x4 M =>
      if (gi M 79 1) ≤ x4 then (
        post M)
      else (
        vp_in x4 1024 ∧
        ∀ v3 : Int32, v3 = gi M 80 x4.toNatClampNeg →
        wX9_behindTurn x1 v3 M (fun r5 M4 =>
          vp_in r5 (lC c3) ∧
          ∀ v7 : Int32, v7 = gi M4 c3 r5.toNatClampNeg →
          vp_in v3 (lC c3) ∧
          ∀ v9 : Int32, v9 = (gi M4 c3 v3.toNatClampNeg) + 1 →
          kC ((gi M4 79 2).toNatClampNeg) = 20 ∧
          wJ9_min_7cf53 v7 v9 M4 (fun r12 M11 =>
            vp_in v3 (lC (((gi M4 79 2).toNatClampNeg))) ∧
            ∀ M14 : xMem, M14 = si M11 (((gi M4 79 2).toNatClampNeg)) v3.toNatClampNeg r12 →
            if v7 < v9 then (
              wX3_goBack_85 (wX3_goBack_21 post n) post x1 x2 c3 x4 M14)
            else (
              wX3_markLeftOut x2 v3 M14 (fun M16 =>
                wX3_goBack_85 (wX3_goBack_21 post n) post x1 x2 c3 x4 M16)))))
def wX3_goBack  (a0 : Int32) (a1 : Int32) (M : xMem) (post : xMem → Prop) : Prop :=
    kC ((gi M 79 2).toNatClampNeg) = 20 ∧
    kC ((gi M 79 3).toNatClampNeg) = 20 ∧
    ∀ M3 : xMem, M3 = si M 79 2 ((gi M 79 3)) →
    ∀ M4 : xMem, M4 = si M3 79 3 ((gi M 79 2)) →
    ∃ n21 : Nat, wX3_goBack_21 post n21 a0 a1 (((gi M 79 2).toNatClampNeg)) 0 M4
abbrev rm_X3_isLeftOut : Room := { frames := 0, cells := 0, slots := 0, locals := 0 }
theorem yd_X3_isLeftOut : yX3_isLeftOut.cls ≠ "java/lang/invoke/MethodHandle" ∧ yX3_isLeftOut.cls ≠ "java/lang/invoke/VarHandle" ∧ (parseMethodDescriptor yX3_isLeftOut.desc).map (fun d => d.parameters.length) = some 2 := by decide +kernel
def wX3_isLeftOut_28    (post : Int32 → xMem → Prop) (s0 : Int64) (M : xMem) : Prop :=
    if (lg_cmp (s0 &&& 1) 1) = 0 then (
      post 1 M)
    else (
      post 0 M)
def wX3_isLeftOut  (a0 : Int32) (a1 : Int32) (M : xMem) (post : Int32 → xMem → Prop) : Prop :=
    if 64 ≤ a0 then (
      vp_in a1 1024 ∧
      wX3_isLeftOut_28 post ((gl M 84 a1.toNatClampNeg) >>> ((a0 - 64).toInt64 &&& 63)) M)
    else (
      vp_in a1 1024 ∧
      wX3_isLeftOut_28 post ((gl M 83 a1.toNatClampNeg) >>> (a0.toInt64 &&& 63)) M)
abbrev rm_X3_listSets : Room := { frames := 0, cells := 0, slots := 0, locals := 0 }
theorem yd_X3_listSets : yX3_listSets.cls ≠ "java/lang/invoke/MethodHandle" ∧ yX3_listSets.cls ≠ "java/lang/invoke/VarHandle" ∧ (parseMethodDescriptor yX3_listSets.desc).map (fun d => d.parameters.length) = some 1 := by decide +kernel
def wX3_listSets_42   (K7 : Int32 → Int32 → xMem → Prop) (post : xMem → Prop) (x1 : Int32) (x2 : Int32) (M : xMem) : Prop :=
    ∀ v1 : Int32, v1 = x2 + 1 →
    K7 x1 v1 M
def wX3_listSets_7    (post : xMem → Prop) : Nat → Int32 → Int32 → xMem → Prop
  | 0 => fun _ _ _ => False
  | n + 1 => fun x1 x2 M =>
      if 1024 ≤ x2 then (
        post M)
      else (
        if (x2 &&& (x1 ^^^ (-1))) = 0 then (
          vp_in (gi M 79 1) 1024 ∧
          ∀ M4 : xMem, M4 = si M 80 (gi M 79 1).toNatClampNeg x2 →
          ∀ M5 : xMem, M5 = si M4 79 1 ((gi M4 79 1) + 1) →
          wX3_listSets_42 (wX3_listSets_7 post n) post x1 x2 M5)
        else (
          wX3_listSets_42 (wX3_listSets_7 post n) post x1 x2 M))
def wX3_listSets  (a0 : Int32) (M : xMem) (post : xMem → Prop) : Prop :=
    ∀ M1 : xMem, M1 = si M 79 1 0 →
    ∃ n7 : Nat, wX3_listSets_7 post n7 a0 0 M1
abbrev rm_X3_threadsEver : Room := { frames := 3, cells := 0, slots := 0, locals := 62 }
theorem yd_X3_threadsEver : yX3_threadsEver.cls ≠ "java/lang/invoke/MethodHandle" ∧ yX3_threadsEver.cls ≠ "java/lang/invoke/VarHandle" ∧ (parseMethodDescriptor yX3_threadsEver.desc).map (fun d => d.parameters.length) = some 1 := by decide +kernel
def wX3_threadsEver_70  (o0 : Nat) (K44 : Int32 → Int32 → xMem → Prop) (post : Int32 → xMem → Prop) (x1 : Int32) (x2 : Int32) (M : xMem) : Prop :=
    ∀ v1 : Int32, v1 = x2 + 1 →
    K44 x1 v1 M
def wX3_threadsEver_44  (o0 : Nat)  (post : Int32 → xMem → Prop) : Nat → Int32 → Int32 → xMem → Prop
  | 0 => fun _ _ _ => False
  | n + 1 => fun x1 x2 M =>
      if (gi M o0 1) ≤ x2 then (
        post x1 M)
      else (
        vp_in x2 72 ∧
        if (gi M ((o0 + 1)) x2.toNatClampNeg) = 20 then (
          wX9_behindTurn 20 x1 M (fun r5 M4 =>
            wX3_threadsEver_70 o0 (wX3_threadsEver_44 o0 post n) post r5 x2 M4))
        else (
          wX3_threadsEver_70 o0 (wX3_threadsEver_44 o0 post n) post x1 x2 M))
def wX3_threadsEver_36  (o0 : Nat) (K4 : Int32 → Int32 → xMem → Prop) (post : Int32 → xMem → Prop) (x1 : Int32) (x2 : Int32) (M : xMem) : Prop :=
    ∀ v1 : Int32, v1 = x2 + 1 →
    K4 x1 v1 M
def wX3_threadsEver_4  (o0 : Nat)  (post : Int32 → xMem → Prop) : Nat → Int32 → Int32 → xMem → Prop
  | 0 => fun _ _ _ => False
  | n + 1 => fun x1 x2 M =>
      if (gi M o0 1) ≤ x2 then (
        ∃ n44 : Nat, wX3_threadsEver_44 o0 post n44 x1 0 M)
      else (
        vp_in x2 72 ∧
        wX9_isClosing (gi M ((o0 + 1)) x2.toNatClampNeg) M (fun r4 M3 =>
          if r4 = 0 then (
            vp_in x2 72 ∧
            wX9_namedBy (gi M3 ((o0 + 1)) x2.toNatClampNeg) M3 (fun r8 M7 =>
              ∀ v9 : Int32, v9 = x1 ||| r8 →
              wX3_threadsEver_36 o0 (wX3_threadsEver_4 o0 post n) post v9 x2 M7))
          else (
            wX3_threadsEver_36 o0 (wX3_threadsEver_4 o0 post n) post x1 x2 M3)))
def wX3_threadsEver  (o0 : Nat) (M : xMem) (post : Int32 → xMem → Prop) : Prop :=
    ∃ n4 : Nat, wX3_threadsEver_4 o0 post n4 0 0 M
abbrev rm_X3_solve : Room := { frames := 4, cells := 0, slots := 0, locals := 89 }
theorem yd_X3_solve : yX3_solve.cls ≠ "java/lang/invoke/MethodHandle" ∧ yX3_solve.cls ≠ "java/lang/invoke/VarHandle" ∧ (parseMethodDescriptor yX3_solve.desc).map (fun d => d.parameters.length) = some 2 := by decide +kernel
def wX3_solve_192  (o0 : Nat) (K137 : Int32 → Int32 → xMem → Prop) (post : xMem → Prop) (x3 : Int32) (x4 : Int32) (M : xMem) : Prop :=
    ∀ v1 : Int32, v1 = x4 + 1 →
    K137 x3 v1 M
def wX3_solve_137  (o0 : Nat)  (post : xMem → Prop) : Nat → Int32 → Int32 → xMem → Prop
  | 0 => fun _ _ _ => False
  | n + 1 => fun x3 x4 M =>
      if (gi M o0 1) ≤ x4 then (
        post M)
      else (
        wX3_isLeftOut x4 x3 M (fun r3 M2 =>
          if r3 = 0 then (
            vp_in x4 72 ∧
            wX9_behindTurn (gi M2 ((o0 + 1)) x4.toNatClampNeg) x3 M2 (fun r7 M6 =>
              wX3_solve_192 o0 (wX3_solve_137 o0 post n) post r7 x4 M6))
          else (
            vp_in (gi M2 79 7) 72 ∧
            ∀ M9 : xMem, M9 = si M2 85 (gi M2 79 7).toNatClampNeg x4 →
            ∀ M10 : xMem, M10 = si M9 79 7 ((gi M9 79 7) + 1) →
            wX3_solve_192 o0 (wX3_solve_137 o0 post n) post x3 x4 M10)))
def wX3_solve_106  (o0 : Nat)  (post : xMem → Prop) : Nat → Int32 → xMem → Prop
  | 0 => fun _ _ => False
  | n + 1 => fun x3 M =>
      if x3 < 0 then (
        ∀ M2 : xMem, M2 = si M 79 7 0 →
        ∃ n137 : Nat, wX3_solve_137 o0 post n137 0 0 M2)
      else (
        vp_in x3 72 ∧
        wX3_goBack (gi M ((o0 + 1)) x3.toNatClampNeg) x3 M (fun M4 =>
          ∀ v5 : Int32, v5 = x3 + (-1) →
          wX3_solve_106 o0 post n v5 M4))
def wX3_solve_68  (o0 : Nat) (K30 : Int32 → Int32 → xMem → Prop) (post : xMem → Prop) (x2 : Int32) (x3 : Int32) (s0 : Int32) (s1 : Int32) (s2 : Nat) (M : xMem) : Prop :=
    vp_in s1 (lC s2) ∧
    ∀ M2 : xMem, M2 = si M s2 s1.toNatClampNeg s0 →
    vp_in x3 1024 ∧
    vp_in (gi M2 80 x3.toNatClampNeg) 1024 ∧
    ∀ M5 : xMem, M5 = sl M2 83 (gi M2 80 x3.toNatClampNeg).toNatClampNeg 0 →
    vp_in x3 1024 ∧
    vp_in (gi M5 80 x3.toNatClampNeg) 1024 ∧
    ∀ M8 : xMem, M8 = sl M5 84 (gi M5 80 x3.toNatClampNeg).toNatClampNeg 0 →
    ∀ v9 : Int32, v9 = x3 + 1 →
    K30 x2 v9 M8
def wX3_solve_30  (o0 : Nat)  (post : xMem → Prop) : Nat → Int32 → Int32 → xMem → Prop
  | 0 => fun _ _ _ => False
  | n + 1 => fun x2 x3 M =>
      if (gi M 79 1) ≤ x3 then (
        ∀ v2 : Int32, v2 = (gi M o0 1) - 1 →
        ∃ n106 : Nat, wX3_solve_106 o0 post n106 v2 M)
      else (
        kC ((gi M 79 2).toNatClampNeg) = 20 ∧
        vp_in x3 1024 ∧
        vp_in x3 1024 ∧
        if ((gi M 80 x3.toNatClampNeg) &&& (x2 ^^^ (-1))) = 0 then (
          wX3_solve_68 o0 (wX3_solve_30 o0 post n) post x2 x3 0 (gi M 80 x3.toNatClampNeg) (((gi M 79 2).toNatClampNeg)) M)
        else (
          wX3_solve_68 o0 (wX3_solve_30 o0 post n) post x2 x3 1000 (gi M 80 x3.toNatClampNeg) (((gi M 79 2).toNatClampNeg)) M))
def wX3_solve  (o0 : Nat) (a1 : Int32) (M : xMem) (post : xMem → Prop) : Prop :=
    wX3_threadsEver o0 M (fun r2 M1 =>
      wX3_listSets r2 M1 (fun M3 =>
        kC ((gi M3 79 2).toNatClampNeg) = 20 ∧
        wJ7_fill_53178 (((gi M3 79 2).toNatClampNeg)) 1000 M3 (fun M5 =>
          kC ((gi M5 79 3).toNatClampNeg) = 20 ∧
          wJ7_fill_53178 (((gi M5 79 3).toNatClampNeg)) 1000 M5 (fun M7 =>
            ∃ n30 : Nat, wX3_solve_30 o0 post n30 a1 0 M7))))
abbrev rm_X11_fitting : Room := { frames := 5, cells := 0, slots := 0, locals := 113 }
theorem yd_X11_fitting : yX11_fitting.cls ≠ "java/lang/invoke/MethodHandle" ∧ yX11_fitting.cls ≠ "java/lang/invoke/VarHandle" ∧ (parseMethodDescriptor yX11_fitting.desc).map (fun d => d.parameters.length) = some 3 := by decide +kernel
def wX11_fitting  (a0 : Int32) (a1 : Int32) (a2 : Int32) (M : xMem) (post : Int32 → xMem → Prop) : Prop :=
    wX11_toldStory a0 M (fun q2 M1 =>
      if q2 = 0 then (
        post (-1) M1)
      else (
        wX11_isWithin a1 0 1023 M1 (fun r4 M3 =>
          if r4 = 0 then (
            post (-1) M3)
          else (
            wX3_solve q2 a1 M3 (fun M6 =>
              if a2 = 100 then (
                post (gi M6 79 7) M6)
              else (
                wX11_isWithin a2 0 ((gi M6 79 7) - 1) M6 (fun r9 M8 =>
                  if r9 = 0 then (
                    post (-4) M8)
                  else (
                    if 72 ≤ a2 then (
                      post (-4) M8)
                    else (
                      vp_in a2 72 ∧
                      post (gi M8 85 a2.toNatClampNeg) M8)))))))))
abbrev rm_X11_wouldDo : Room := { frames := 4, cells := 0, slots := 0, locals := 87 }
theorem yd_X11_wouldDo : yX11_wouldDo.cls ≠ "java/lang/invoke/MethodHandle" ∧ yX11_wouldDo.cls ≠ "java/lang/invoke/VarHandle" ∧ (parseMethodDescriptor yX11_wouldDo.desc).map (fun d => d.parameters.length) = some 3 := by decide +kernel
def wX11_wouldDo_120   (K51 : Int32 → Int32 → Nat → Int32 → Int32 → Int32 → Int32 → Int32 → xMem → Prop) (post : Int32 → xMem → Prop) (x2 : Int32) (x3 : Int32) (c4 : Nat) (x5 : Int32) (x6 : Int32) (x7 : Int32) (x8 : Int32) (x9 : Int32) (M : xMem) : Prop :=
    ∀ v1 : Int32, v1 = x9 + 1 →
    K51 x2 x3 c4 x5 x6 x7 x8 v1 M
def wX11_wouldDo_114   (K51 : Int32 → Int32 → Nat → Int32 → Int32 → Int32 → Int32 → Int32 → xMem → Prop) (post : Int32 → xMem → Prop) (x2 : Int32) (x3 : Int32) (c4 : Nat) (x5 : Int32) (x8 : Int32) (x9 : Int32) (s0 : Int32) (M : xMem) : Prop :=
    wX11_wouldDo_120 K51 post x2 x3 c4 x5 s0 x9 x8 x9 M
def wX11_wouldDo_51    (post : Int32 → xMem → Prop) : Nat → Int32 → Int32 → Nat → Int32 → Int32 → Int32 → Int32 → Int32 → xMem → Prop
  | 0 => fun _ _ _ _ _ _ _ _ _ => False
  | n + 1 => fun x2 x3 c4 x5 x6 x7 x8 x9 M =>
      if (gi M c4 1) < x9 then (
        if x3 = 0 then (
          post x5 M)
        else (
          if x3 = 1 then (
            post x6 M)
          else (
            post x7 M)))
      else (
        wX9_openBehind c4 (x9 - 1) x9 x8 M (fun r5 M4 =>
          if r5 = 0 then (
            wX11_wouldDo_120 (wX11_wouldDo_51 post n) post x2 x3 c4 x5 x6 x7 r5 x9 M4)
          else (
            vp_in x2 10 ∧
            if (r5 &&& ((gi M4 42 x2.toNatClampNeg) ^^^ (-1))) = 0 then (
              ∀ v9 : Int32, v9 = x5 + 1 →
              if v9 = 1 then (
                wX11_wouldDo_114 (wX11_wouldDo_51 post n) post x2 x3 c4 v9 r5 x9 x9 M4)
              else (
                wX11_wouldDo_114 (wX11_wouldDo_51 post n) post x2 x3 c4 v9 r5 x9 x6 M4))
            else (
              wX11_wouldDo_120 (wX11_wouldDo_51 post n) post x2 x3 c4 x5 x6 x7 r5 x9 M4))))
def wX11_wouldDo  (a0 : Int32) (a1 : Int32) (a2 : Int32) (M : xMem) (post : Int32 → xMem → Prop) : Prop :=
    wX11_toldStory a0 M (fun q2 M1 =>
      if q2 = 0 then (
        post (-1) M1)
      else (
        wX2_isTold a1 M1 (fun r4 M3 =>
          if r4 = 0 then (
            post (-1) M3)
          else (
            wX11_isWithin a2 0 2 M3 (fun r7 M6 =>
              if r7 = 0 then (
                post (-1) M6)
              else (
                ∃ n51 : Nat, wX11_wouldDo_51 post n51 a1 a2 q2 0 (-2) (-2) 0 1 M6))))))
abbrev rm_X11_toldStories : Room := { frames := 3, cells := 0, slots := 0, locals := 65 }
theorem yd_X11_toldStories : yX11_toldStories.cls ≠ "java/lang/invoke/MethodHandle" ∧ yX11_toldStories.cls ≠ "java/lang/invoke/VarHandle" ∧ (parseMethodDescriptor yX11_toldStories.desc).map (fun d => d.parameters.length) = some 0 := by decide +kernel
def wX11_toldStories_24   (K4 : Int32 → Int32 → xMem → Prop) (post : Int32 → xMem → Prop) (x1 : Int32) (x2 : Int32) (M : xMem) : Prop :=
    ∀ v1 : Int32, v1 = x2 + 1 →
    K4 x1 v1 M
def wX11_toldStories_4    (post : Int32 → xMem → Prop) : Nat → Int32 → Int32 → xMem → Prop
  | 0 => fun _ _ _ => False
  | n + 1 => fun x1 x2 M =>
      if 6 ≤ x2 then (
        post x1 M)
      else (
        wX11_toldStory x2 M (fun q3 M2 =>
          if q3 = 0 then (
            wX11_toldStories_24 (wX11_toldStories_4 post n) post x1 x2 M2)
          else (
            ∀ v4 : Int32, v4 = x1 ||| (1 <<< (x2 &&& 31)) →
            wX11_toldStories_24 (wX11_toldStories_4 post n) post v4 x2 M2)))
def wX11_toldStories   (M : xMem) (post : Int32 → xMem → Prop) : Prop :=
    ∃ n4 : Nat, wX11_toldStories_4 post n4 0 0 M
abbrev rm_X11_areTold : Room := { frames := 4, cells := 0, slots := 0, locals := 87 }
theorem yd_X11_areTold : yX11_areTold.cls ≠ "java/lang/invoke/MethodHandle" ∧ yX11_areTold.cls ≠ "java/lang/invoke/VarHandle" ∧ (parseMethodDescriptor yX11_areTold.desc).map (fun d => d.parameters.length) = some 1 := by decide +kernel
def wX11_areTold  (a0 : Int32) (M : xMem) (post : Int32 → xMem → Prop) : Prop :=
    wX11_toldStories  M (fun r2 M1 =>
      if (a0 &&& (r2 ^^^ (-1))) = 0 then (
        post 1 M1)
      else (
        post 0 M1))
abbrev rm_X8_rate : Room := { frames := 1, cells := 0, slots := 0, locals := 60 }
theorem yd_X8_rate : yX8_rate.cls ≠ "java/lang/invoke/MethodHandle" ∧ yX8_rate.cls ≠ "java/lang/invoke/VarHandle" ∧ (parseMethodDescriptor yX8_rate.desc).map (fun d => d.parameters.length) = some 2 := by decide +kernel
def wX8_rate_29    (post : xMem → Prop) (x2 : Int32) (x3 : Int32) (M : xMem) : Prop :=
    ∀ M1 : xMem, M1 = si M 86 2 x2 →
    ∀ M2 : xMem, M2 = si M1 86 3 x3 →
    cpyok 0 0 5 5 5 ∧
    ∀ M4 : xMem, M4 = cpy M2 87 88 0 0 5 →
    post M4
def wX8_rate  (a0 : Int32) (a1 : Int32) (M : xMem) (post : xMem → Prop) : Prop :=
    wJ6_bitCount_0f7a4 a0 M (fun r2 M1 =>
      if a1 < (gi M1 86 2) then (
        wX8_rate_29 post a1 r2 M1)
      else (
        if a1 = (gi M1 86 2) then (
          if (gi M1 86 3) ≤ r2 then (
            post M1)
          else (
            wX8_rate_29 post a1 r2 M1))
        else (
          post M1)))
abbrev rm_X8_place (d : Nat) : Room := { frames := 30 * d + 30, cells := 0, slots := 0, locals := 1500 * d + 1500 }
theorem yd_X8_place : yX8_place.cls ≠ "java/lang/invoke/MethodHandle" ∧ yX8_place.cls ≠ "java/lang/invoke/VarHandle" ∧ (parseMethodDescriptor yX8_place.desc).map (fun d => d.parameters.length) = some 5 := by decide +kernel
def wX8_place_at_147 (rec : Int32 → Int32 → Int32 → Int32 → xMem → (xMem → Prop) → Prop)  (K15 : Int32 → Int32 → Int32 → Int32 → Int32 → xMem → Prop) (post : xMem → Prop) (x2 : Int32) (x3 : Int32) (x4 : Int32) (x5 : Int32) (x6 : Int32) (M : xMem) : Prop :=
    ∀ v1 : Int32, v1 = x6 + 1 →
    K15 x2 x3 x4 x5 v1 M
def wX8_place_at_110 (rec : Int32 → Int32 → Int32 → Int32 → xMem → (xMem → Prop) → Prop)  (K15 : Int32 → Int32 → Int32 → Int32 → Int32 → xMem → Prop) (post : xMem → Prop) (x2 : Int32) (x3 : Int32) (x4 : Int32) (x5 : Int32) (x6 : Int32) (x8 : Int32) (x9 : Int32) (M : xMem) : Prop :=
    vp_in x2 5 ∧
    ∀ M2 : xMem, M2 = si M 87 x2.toNatClampNeg x6 →
    if (gi M2 86 2) < x8 then (
      wX8_place_at_147 rec K15 post x2 x3 x4 x5 x6 M2)
    else (
      rec (x2 + 1) (x3 &&& ((1 <<< (x6 &&& 31)) ^^^ (-1))) x9 x8 M2 (fun M4 =>
        wX8_place_at_147 rec K15 post x2 x3 x4 x5 x6 M4))
def wX8_place_at_58 (rec : Int32 → Int32 → Int32 → Int32 → xMem → (xMem → Prop) → Prop)  (K15 : Int32 → Int32 → Int32 → Int32 → Int32 → xMem → Prop) (post : xMem → Prop) : Nat → Int32 → Int32 → Int32 → Int32 → Int32 → Nat → Int32 → Int32 → Int32 → xMem → Prop
  | 0 => fun _ _ _ _ _ _ _ _ _ _ => False
  | n + 1 => fun x2 x3 x4 x5 x6 c7 x8 x9 x10 M =>
      if (gi M c7 1) ≤ x10 then (
        wX8_place_at_110 rec K15 post x2 x3 x4 x5 x6 x8 x9 M)
      else (
        if (gi M 86 2) < x8 then (
          wX8_place_at_110 rec K15 post x2 x3 x4 x5 x6 x8 x9 M)
        else (
          vp_in x10 72 ∧
          wX9_behindTurn (gi M ((c7 + 1)) x10.toNatClampNeg) x9 M (fun r5 M4 =>
            wJ6_bitCount_0f7a4 r5 M4 (fun r7 M6 =>
              wJ9_max_7cf53 x8 r7 M6 (fun r9 M8 =>
                ∀ v10 : Int32, v10 = x10 + 1 →
                wX8_place_at_58 rec K15 post n x2 x3 x4 x5 x6 c7 r9 r5 v10 M8)))))
def wX8_place_at_15 (rec : Int32 → Int32 → Int32 → Int32 → xMem → (xMem → Prop) → Prop)   (post : xMem → Prop) : Nat → Int32 → Int32 → Int32 → Int32 → Int32 → xMem → Prop
  | 0 => fun _ _ _ _ _ _ => False
  | n + 1 => fun x2 x3 x4 x5 x6 M =>
      if 6 ≤ x6 then (
        post M)
      else (
        if 5 ≤ x2 then (
          post M)
        else (
          vp_in x6 6 ∧
          wX11_has x3 x6 M (fun r5 M4 =>
            if r5 = 0 then (
              wX8_place_at_147 rec (wX8_place_at_15 rec post n) post x2 x3 x4 x5 x6 M4)
            else (
              ∃ n58 : Nat, wX8_place_at_58 rec (wX8_place_at_15 rec post n) post n58 x2 x3 x4 x5 x6 ((3 + 2 * x6.toNatClampNeg)) x5 x4 0 M4))))
def wX8_place_at_12 (rec : Int32 → Int32 → Int32 → Int32 → xMem → (xMem → Prop) → Prop)   (post : xMem → Prop) (x2 : Int32) (x3 : Int32) (x4 : Int32) (x5 : Int32) (M : xMem) : Prop :=
    ∃ n15 : Nat, wX8_place_at_15 rec post n15 x2 x3 x4 x5 0 M
def wX8_place_at (rec : Int32 → Int32 → Int32 → Int32 → xMem → (xMem → Prop) → Prop) (a1 : Int32) (a2 : Int32) (a3 : Int32) (a4 : Int32) (M : xMem) (post : xMem → Prop) : Prop :=
    if a2 = 0 then (
      wX8_rate a3 a4 M (fun M2 =>
        wX8_place_at_12 rec post a1 a2 a3 a4 M2))
    else (
      wX8_place_at_12 rec post a1 a2 a3 a4 M)
def wX8_place : Nat → Int32 → Int32 → Int32 → Int32 → xMem → (xMem → Prop) → Prop
  | 0 => fun _ _ _ _ _ _ => False
  | d + 1 => wX8_place_at (wX8_place d)
abbrev rm_X8_solve : Room := { frames := 271, cells := 0, slots := 0, locals := 13530 }
theorem yd_X8_solve : yX8_solve.cls ≠ "java/lang/invoke/MethodHandle" ∧ yX8_solve.cls ≠ "java/lang/invoke/VarHandle" ∧ (parseMethodDescriptor yX8_solve.desc).map (fun d => d.parameters.length) = some 2 := by decide +kernel
def wX8_solve  (a1 : Int32) (M : xMem) (post : xMem → Prop) : Prop :=
    ∀ M1 : xMem, M1 = si M 86 2 11 →
    ∀ M2 : xMem, M2 = si M1 86 3 11 →
    wX8_place 8 0 a1 0 0 M2 (fun M3 =>
      post M3)
abbrev rm_X11_series : Room := { frames := 272, cells := 0, slots := 0, locals := 13552 }
theorem yd_X11_series : yX11_series.cls ≠ "java/lang/invoke/MethodHandle" ∧ yX11_series.cls ≠ "java/lang/invoke/VarHandle" ∧ (parseMethodDescriptor yX11_series.desc).map (fun d => d.parameters.length) = some 2 := by decide +kernel
def wX11_series_64    (post : Int32 → xMem → Prop) (x1 : Int32) (x2 : Int32) (x4 : Int32) (M : xMem) : Prop :=
    wX8_solve x1 M (fun M1 =>
      if x4 = 0 then (
        if x2 = 20 then (
          post (gi M1 86 2) M1)
        else (
          post (gi M1 86 3) M1))
      else (
        vp_in x2 5 ∧
        post (gi M1 88 x2.toNatClampNeg) M1))
def wX11_series_26    (post : Int32 → xMem → Prop) (x1 : Int32) (x2 : Int32) (x3 : Int32) (s0 : Int32) (M : xMem) : Prop :=
    wX11_areTold x1 M (fun r2 M1 =>
      if r2 = 0 then (
        post (-1) M1)
      else (
        wX11_isWithin x3 2 5 M1 (fun r5 M4 =>
          if r5 = 0 then (
            post (-1) M4)
          else (
            if s0 = 0 then (
              if x2 = 20 then (
                wX11_series_64 post x1 x2 s0 M4)
              else (
                if x2 = 21 then (
                  wX11_series_64 post x1 x2 s0 M4)
                else (
                  post (-1) M4)))
            else (
              wX11_series_64 post x1 x2 s0 M4)))))
def wX11_series_25    (post : Int32 → xMem → Prop) (x1 : Int32) (x2 : Int32) (x3 : Int32) (M : xMem) : Prop :=
    wX11_series_26 post x1 x2 x3 0 M
def wX11_series  (a0 : Int32) (a1 : Int32) (M : xMem) (post : Int32 → xMem → Prop) : Prop :=
    wJ6_bitCount_0f7a4 a0 M (fun r2 M1 =>
      wX11_isWithin a1 0 (r2 - 1) M1 (fun r4 M3 =>
        if r4 = 0 then (
          wX11_series_25 post a0 a1 r2 M3)
        else (
          if 5 ≤ a1 then (
            wX11_series_25 post a0 a1 r2 M3)
          else (
            wX11_series_26 post a0 a1 r2 1 M3))))
set_option maxHeartbeats 4000000 in
set_option maxRecDepth 100000 in
theorem tX11_tried {g : xG} (hg : x_inj (WC g))  (l : Launch) (a0 : Int32) (a1 : Int32) (M : xMem) (post : Int32 → xMem → Prop)  (h : wX11_tried a0 a1 M post) : xMet (WC g) l yX11_tried cX11_tried 3 (some .int) (rm_X11_tried) [.ref (ga g 0), .int a0, .int a1] M (pI post) := by
  refine x_enter (own := RX11) (L0 := [(0, .ref (ga g 0)), (1, .int a0), (2, .int a1)]) (by decide +kernel) rfl hg (x_stC g) (Nat.le_of_ble_eq_true rfl) rfl (fun x hl C => ?_)
  unfold wX11_tried at h
  refine x_iload_n C 1 rfl rfl dX11_tried_0 ?_
  refine x_iconst C (v1 := 1) dX11_tried_1 (by decide) ?_
  refine x_bipush C (v1 := 60) dX11_tried_2 (by decide) ?_
  refine x_callS C (st := []) (As := [.int a0, .int 1, .int 60]) (tX11_isWithin hg _ _ _ _ _ _  h) wm_X11_145 wsm_X11_isWithin wz_X11 wc_X11_isWithin yd_X11_isWithin rfl ⟨rfl, rfl⟩ ⟨Nat.le_of_ble_eq_true rfl, Nat.le_of_ble_eq_true rfl⟩ (Nat.le_of_ble_eq_true rfl) rfl dX11_tried_4 (x_ki (fun r2 M1 h => ?_))
  refine x_if_eq C (tgt := 18) dX11_tried_7 (by decide) (fun hq3 => ?_) (fun hq3 => ?_)
  · replace h := x_ift hq3 h
    refine x_iconst C (v1 := (-1)) dX11_tried_18 (by decide) ?_
    exact x_iret C dX11_tried_19 ⟨_, rfl, h⟩
  · replace h := x_iff hq3 h
    refine x_aload_n C 0 rfl rfl dX11_tried_10 ?_
    refine x_iload_n C 2 rfl rfl dX11_tried_11 ?_
    refine x_callV C (st := []) (As := [.int a1]) (c := 0) (ci := 11) (enC_11 (c := 0) rfl) (Nat.le_of_ble_eq_true rfl) rfl (tX11_canBeTried hg _ _ _ _  h) wm_X11_178 wi_X11_canBeTried wv_X11_canBeTried wz_X11 wc_X11_canBeTried rfl yd_X11_canBeTried rfl ⟨rfl, rfl⟩ ⟨Nat.le_of_ble_eq_true rfl, Nat.le_of_ble_eq_true rfl⟩ (Nat.le_of_ble_eq_true rfl) rfl dX11_tried_12 (x_ki (fun r5 M4 h => ?_))
    refine x_if_ne C (tgt := 20) dX11_tried_15 (by decide) (fun hq6 => ?_) (fun hq6 => ?_)
    · replace h := x_iff hq6 h
      refine x_aload_n C 0 rfl rfl dX11_tried_20 ?_
      refine x_get C (c := 0) (ci := 11) (k1 := 10) (v1 := .ref (ga g 67)) (enC_11 (c := 0) rfl) (Nat.le_of_ble_eq_true rfl) rfl inX11 (by decide) wf_X11_64 rfl dX11_tried_21 ?_
      refine x_aload_n C 0 rfl rfl dX11_tried_24 ?_
      refine x_get C (c := 0) (ci := 11) (k1 := 8) (v1 := .ref (ga g 49)) (enC_11 (c := 0) rfl) (Nat.le_of_ble_eq_true rfl) rfl inX11 (by decide) wf_X11_57 rfl dX11_tried_25 ?_
      refine x_callVN C (st := []) (As := [.ref (ga g 49)]) (c := 67) (ci := 4) (enC_4 (c := 67) rfl) (Nat.le_of_ble_eq_true rfl) rfl (tX4_takeFrom hg _ _ _ _ _ rfl rfl h) wmn_X11_182 wi_X4_takeFrom wv_X4_takeFrom wz_X4 wc_X4_takeFrom yd_X4_takeFrom rfl ⟨rfl, rfl⟩ ⟨Nat.le_of_ble_eq_true rfl, Nat.le_of_ble_eq_true rfl⟩ (Nat.le_of_ble_eq_true rfl) rfl dX11_tried_28 (x_kv (fun M7 h => ?_))
      refine x_aload_n C 0 rfl rfl dX11_tried_31 ?_
      refine x_get C (c := 0) (ci := 11) (k1 := 13) (v1 := .ref (ga g 78)) (enC_11 (c := 0) rfl) (Nat.le_of_ble_eq_true rfl) rfl inX11 (by decide) wf_X11_85 rfl dX11_tried_32 ?_
      refine x_aload_n C 0 rfl rfl dX11_tried_35 ?_
      refine x_get C (c := 0) (ci := 11) (k1 := 10) (v1 := .ref (ga g 67)) (enC_11 (c := 0) rfl) (Nat.le_of_ble_eq_true rfl) rfl inX11 (by decide) wf_X11_64 rfl dX11_tried_36 ?_
      refine x_aload_n C 0 rfl rfl dX11_tried_39 ?_
      refine x_get C (c := 0) (ci := 11) (k1 := 4) (v1 := .ref (ga g 18)) (enC_11 (c := 0) rfl) (Nat.le_of_ble_eq_true rfl) rfl inX11 (by decide) wf_X11_33 rfl dX11_tried_40 ?_
      refine x_iload_n C 1 rfl rfl dX11_tried_43 ?_
      refine x_callVN C (st := []) (As := [.ref (ga g 67), .ref (ga g 18), .int a0]) (c := 78) (ci := 1) (enC_1 (c := 78) rfl) (Nat.le_of_ble_eq_true rfl) rfl (tX1_run hg _ _ _ _ _ _ rfl rfl h) wmn_X11_171 wi_X1_run wv_X1_run wz_X1 wc_X1_run yd_X1_run rfl ⟨rfl, rfl⟩ ⟨Nat.le_of_ble_eq_true rfl, Nat.le_of_ble_eq_true rfl⟩ (Nat.le_of_ble_eq_true rfl) rfl dX11_tried_44 (x_kv (fun M8 h => ?_))
      refine x_aload_n C 0 rfl rfl dX11_tried_47 ?_
      refine x_get C (c := 0) (ci := 11) (k1 := 13) (v1 := .ref (ga g 78)) (enC_11 (c := 0) rfl) (Nat.le_of_ble_eq_true rfl) rfl inX11 (by decide) wf_X11_85 rfl dX11_tried_48 ?_
      refine x_iload_n C 2 rfl rfl dX11_tried_51 ?_
      refine x_callVN C (st := []) (As := [.int a1]) (c := 78) (ci := 1) (enC_1 (c := 78) rfl) (Nat.le_of_ble_eq_true rfl) rfl (tX1_result hg _ _ _ _  h) wmn_X11_185 wi_X1_result wv_X1_result wz_X1 wc_X1_result yd_X1_result rfl ⟨rfl, rfl⟩ ⟨Nat.le_of_ble_eq_true rfl, Nat.le_of_ble_eq_true rfl⟩ (Nat.le_of_ble_eq_true rfl) rfl dX11_tried_52 (x_ki (fun r10 M9 h => ?_))
      exact x_iret C dX11_tried_55 ⟨_, rfl, h⟩
    · replace h := x_ift hq6 h
      refine x_iconst C (v1 := (-1)) dX11_tried_18 (by decide) ?_
      exact x_iret C dX11_tried_19 ⟨_, rfl, h⟩
set_option maxHeartbeats 4000000 in
set_option maxRecDepth 100000 in
theorem tX11_other {g : xG} (hg : x_inj (WC g))  (l : Launch) (a0 : Int32) (a1 : Int32) (M : xMem) (post : Int32 → xMem → Prop)  (h : wX11_other a0 a1 M post) : xMet (WC g) l yX11_other cX11_other 3 (some .int) (rm_X11_other) [.ref (ga g 0), .int a0, .int a1] M (pI post) := by
  refine x_enter (own := RX11) (L0 := [(0, .ref (ga g 0)), (1, .int a0), (2, .int a1)]) (by decide +kernel) rfl hg (x_stC g) (Nat.le_of_ble_eq_true rfl) rfl (fun x hl C => ?_)
  unfold wX11_other at h
  refine x_iload_n C 1 rfl rfl dX11_other_0 ?_
  refine x_iconst C (v1 := 1) dX11_other_1 (by decide) ?_
  refine x_bipush C (v1 := 60) dX11_other_2 (by decide) ?_
  refine x_callS C (st := []) (As := [.int a0, .int 1, .int 60]) (tX11_isWithin hg _ _ _ _ _ _  h) wm_X11_145 wsm_X11_isWithin wz_X11 wc_X11_isWithin yd_X11_isWithin rfl ⟨rfl, rfl⟩ ⟨Nat.le_of_ble_eq_true rfl, Nat.le_of_ble_eq_true rfl⟩ (Nat.le_of_ble_eq_true rfl) rfl dX11_other_4 (x_ki (fun r2 M1 h => ?_))
  refine x_if_eq C (tgt := 18) dX11_other_7 (by decide) (fun hq3 => ?_) (fun hq3 => ?_)
  · replace h := x_ift hq3 h
    refine x_iconst C (v1 := (-1)) dX11_other_18 (by decide) ?_
    exact x_iret C dX11_other_19 ⟨_, rfl, h⟩
  · replace h := x_iff hq3 h
    refine x_aload_n C 0 rfl rfl dX11_other_10 ?_
    refine x_iload_n C 2 rfl rfl dX11_other_11 ?_
    refine x_callV C (st := []) (As := [.int a1]) (c := 0) (ci := 11) (enC_11 (c := 0) rfl) (Nat.le_of_ble_eq_true rfl) rfl (tX11_canBeTried hg _ _ _ _  h) wm_X11_178 wi_X11_canBeTried wv_X11_canBeTried wz_X11 wc_X11_canBeTried rfl yd_X11_canBeTried rfl ⟨rfl, rfl⟩ ⟨Nat.le_of_ble_eq_true rfl, Nat.le_of_ble_eq_true rfl⟩ (Nat.le_of_ble_eq_true rfl) rfl dX11_other_12 (x_ki (fun r5 M4 h => ?_))
    refine x_if_ne C (tgt := 20) dX11_other_15 (by decide) (fun hq6 => ?_) (fun hq6 => ?_)
    · replace h := x_iff hq6 h
      refine x_aload_n C 0 rfl rfl dX11_other_20 ?_
      refine x_get C (c := 0) (ci := 11) (k1 := 10) (v1 := .ref (ga g 67)) (enC_11 (c := 0) rfl) (Nat.le_of_ble_eq_true rfl) rfl inX11 (by decide) wf_X11_64 rfl dX11_other_21 ?_
      refine x_aload_n C 0 rfl rfl dX11_other_24 ?_
      refine x_get C (c := 0) (ci := 11) (k1 := 8) (v1 := .ref (ga g 49)) (enC_11 (c := 0) rfl) (Nat.le_of_ble_eq_true rfl) rfl inX11 (by decide) wf_X11_57 rfl dX11_other_25 ?_
      refine x_callVN C (st := []) (As := [.ref (ga g 49)]) (c := 67) (ci := 4) (enC_4 (c := 67) rfl) (Nat.le_of_ble_eq_true rfl) rfl (tX4_takeFrom hg _ _ _ _ _ rfl rfl h) wmn_X11_182 wi_X4_takeFrom wv_X4_takeFrom wz_X4 wc_X4_takeFrom yd_X4_takeFrom rfl ⟨rfl, rfl⟩ ⟨Nat.le_of_ble_eq_true rfl, Nat.le_of_ble_eq_true rfl⟩ (Nat.le_of_ble_eq_true rfl) rfl dX11_other_28 (x_kv (fun M7 h => ?_))
      refine x_aload_n C 0 rfl rfl dX11_other_31 ?_
      refine x_get C (c := 0) (ci := 11) (k1 := 13) (v1 := .ref (ga g 78)) (enC_11 (c := 0) rfl) (Nat.le_of_ble_eq_true rfl) rfl inX11 (by decide) wf_X11_85 rfl dX11_other_32 ?_
      refine x_aload_n C 0 rfl rfl dX11_other_35 ?_
      refine x_get C (c := 0) (ci := 11) (k1 := 10) (v1 := .ref (ga g 67)) (enC_11 (c := 0) rfl) (Nat.le_of_ble_eq_true rfl) rfl inX11 (by decide) wf_X11_64 rfl dX11_other_36 ?_
      refine x_aload_n C 0 rfl rfl dX11_other_39 ?_
      refine x_get C (c := 0) (ci := 11) (k1 := 5) (v1 := .ref (ga g 25)) (enC_11 (c := 0) rfl) (Nat.le_of_ble_eq_true rfl) rfl inX11 (by decide) wf_X11_37 rfl dX11_other_40 ?_
      refine x_iload_n C 1 rfl rfl dX11_other_43 ?_
      refine x_callVN C (st := []) (As := [.ref (ga g 67), .ref (ga g 25), .int a0]) (c := 78) (ci := 1) (enC_1 (c := 78) rfl) (Nat.le_of_ble_eq_true rfl) rfl (tX1_run hg _ _ _ _ _ _ rfl rfl h) wmn_X11_171 wi_X1_run wv_X1_run wz_X1 wc_X1_run yd_X1_run rfl ⟨rfl, rfl⟩ ⟨Nat.le_of_ble_eq_true rfl, Nat.le_of_ble_eq_true rfl⟩ (Nat.le_of_ble_eq_true rfl) rfl dX11_other_44 (x_kv (fun M8 h => ?_))
      refine x_aload_n C 0 rfl rfl dX11_other_47 ?_
      refine x_get C (c := 0) (ci := 11) (k1 := 13) (v1 := .ref (ga g 78)) (enC_11 (c := 0) rfl) (Nat.le_of_ble_eq_true rfl) rfl inX11 (by decide) wf_X11_85 rfl dX11_other_48 ?_
      refine x_iload_n C 2 rfl rfl dX11_other_51 ?_
      refine x_callVN C (st := []) (As := [.int a1]) (c := 78) (ci := 1) (enC_1 (c := 78) rfl) (Nat.le_of_ble_eq_true rfl) rfl (tX1_result hg _ _ _ _  h) wmn_X11_185 wi_X1_result wv_X1_result wz_X1 wc_X1_result yd_X1_result rfl ⟨rfl, rfl⟩ ⟨Nat.le_of_ble_eq_true rfl, Nat.le_of_ble_eq_true rfl⟩ (Nat.le_of_ble_eq_true rfl) rfl dX11_other_52 (x_ki (fun r10 M9 h => ?_))
      exact x_iret C dX11_other_55 ⟨_, rfl, h⟩
    · replace h := x_ift hq6 h
      refine x_iconst C (v1 := (-1)) dX11_other_18 (by decide) ?_
      exact x_iret C dX11_other_19 ⟨_, rfl, h⟩
set_option maxHeartbeats 4000000 in
set_option maxRecDepth 100000 in
theorem tX11_copy {g : xG} (hg : x_inj (WC g))  (l : Launch)  (M : xMem) (post : Int32 → xMem → Prop)  (h : wX11_copy  M post) : xMet (WC g) l yX11_copy cX11_copy 1 (some .int) (rm_X11_copy) [.ref (ga g 0)] M (pI post) := by
  refine x_enter (own := RX11) (L0 := [(0, .ref (ga g 0))]) (by decide +kernel) rfl hg (x_stC g) (Nat.le_of_ble_eq_true rfl) rfl (fun x hl C => ?_)
  unfold wX11_copy at h
  refine x_aload_n C 0 rfl rfl dX11_copy_0 ?_
  refine x_get C (c := 0) (ci := 11) (k1 := 5) (v1 := .ref (ga g 25)) (enC_11 (c := 0) rfl) (Nat.le_of_ble_eq_true rfl) rfl inX11 (by decide) wf_X11_37 rfl dX11_copy_1 ?_
  refine x_aload_n C 0 rfl rfl dX11_copy_4 ?_
  refine x_get C (c := 0) (ci := 11) (k1 := 4) (v1 := .ref (ga g 18)) (enC_11 (c := 0) rfl) (Nat.le_of_ble_eq_true rfl) rfl inX11 (by decide) wf_X11_33 rfl dX11_copy_5 ?_
  refine x_callVN C (st := []) (As := [.ref (ga g 18)]) (c := 25) (ci := 5) (enC_5 (c := 25) rfl) (Nat.le_of_ble_eq_true rfl) rfl (tX5_takeFrom hg _ _ _ _ _ rfl rfl h) wmn_X11_141 wi_X5_takeFrom wv_X5_takeFrom wz_X5 wc_X5_takeFrom yd_X5_takeFrom rfl ⟨rfl, rfl⟩ ⟨Nat.le_of_ble_eq_true rfl, Nat.le_of_ble_eq_true rfl⟩ (Nat.le_of_ble_eq_true rfl) rfl dX11_copy_8 (x_kv (fun M1 h => ?_))
  refine x_aload_n C 0 rfl rfl dX11_copy_11 ?_
  refine x_get C (c := 0) (ci := 11) (k1 := 5) (v1 := .ref (ga g 25)) (enC_11 (c := 0) rfl) (Nat.le_of_ble_eq_true rfl) rfl inX11 (by decide) wf_X11_37 rfl dX11_copy_12 ?_
  refine x_getN C (c := 25) (ci := 5) (k1 := 0) (v1 := .int (gi M1 25 0)) (enC_5 (c := 25) rfl) (Nat.le_of_ble_eq_true rfl) rfl inX5 (by decide) wfn_X11_189 rfl dX11_copy_15 ?_
  exact x_iret C dX11_copy_18 ⟨_, rfl, h⟩
set_option maxHeartbeats 4000000 in
set_option maxRecDepth 100000 in
theorem tX11_first {g : xG} (hg : x_inj (WC g))  (l : Launch) (a0 : Int32) (a1 : Int32) (M : xMem) (post : Int32 → xMem → Prop)  (h : wX11_first a0 a1 M post) : xMet (WC g) l yX11_first cX11_first 3 (some .int) (rm_X11_first) [.ref (ga g 0), .int a0, .int a1] M (pI post) := by
  refine x_enter (own := RX11) (L0 := [(0, .ref (ga g 0)), (1, .int a0), (2, .int a1)]) (by decide +kernel) rfl hg (x_stC g) (Nat.le_of_ble_eq_true rfl) rfl (fun x hl C => ?_)
  unfold wX11_first at h
  refine x_iload_n C 1 rfl rfl dX11_first_0 ?_
  refine x_iconst C (v1 := 1) dX11_first_1 (by decide) ?_
  refine x_bipush C (v1 := 60) dX11_first_2 (by decide) ?_
  refine x_callS C (st := []) (As := [.int a0, .int 1, .int 60]) (tX11_isWithin hg _ _ _ _ _ _  h) wm_X11_145 wsm_X11_isWithin wz_X11 wc_X11_isWithin yd_X11_isWithin rfl ⟨rfl, rfl⟩ ⟨Nat.le_of_ble_eq_true rfl, Nat.le_of_ble_eq_true rfl⟩ (Nat.le_of_ble_eq_true rfl) rfl dX11_first_4 (x_ki (fun r2 M1 h => ?_))
  refine x_if_eq C (tgt := 19) dX11_first_7 (by decide) (fun hq3 => ?_) (fun hq3 => ?_)
  · replace h := x_ift hq3 h
    refine x_iconst C (v1 := (-1)) dX11_first_19 (by decide) ?_
    exact x_iret C dX11_first_20 ⟨_, rfl, h⟩
  · replace h := x_iff hq3 h
    refine x_iload_n C 2 rfl rfl dX11_first_10 ?_
    refine x_iconst C (v1 := 0) dX11_first_11 (by decide) ?_
    refine x_iconst C (v1 := 1) dX11_first_12 (by decide) ?_
    refine x_callS C (st := []) (As := [.int a1, .int 0, .int 1]) (tX11_isWithin hg _ _ _ _ _ _  h) wm_X11_145 wsm_X11_isWithin wz_X11 wc_X11_isWithin yd_X11_isWithin rfl ⟨rfl, rfl⟩ ⟨Nat.le_of_ble_eq_true rfl, Nat.le_of_ble_eq_true rfl⟩ (Nat.le_of_ble_eq_true rfl) rfl dX11_first_13 (x_ki (fun r5 M4 h => ?_))
    refine x_if_ne C (tgt := 21) dX11_first_16 (by decide) (fun hq6 => ?_) (fun hq6 => ?_)
    · replace h := x_iff hq6 h
      refine x_aload_n C 0 rfl rfl dX11_first_21 ?_
      refine x_get C (c := 0) (ci := 11) (k1 := 10) (v1 := .ref (ga g 67)) (enC_11 (c := 0) rfl) (Nat.le_of_ble_eq_true rfl) rfl inX11 (by decide) wf_X11_64 rfl dX11_first_22 ?_
      refine x_aload_n C 0 rfl rfl dX11_first_25 ?_
      refine x_get C (c := 0) (ci := 11) (k1 := 8) (v1 := .ref (ga g 49)) (enC_11 (c := 0) rfl) (Nat.le_of_ble_eq_true rfl) rfl inX11 (by decide) wf_X11_57 rfl dX11_first_26 ?_
      refine x_callVN C (st := []) (As := [.ref (ga g 49)]) (c := 67) (ci := 4) (enC_4 (c := 67) rfl) (Nat.le_of_ble_eq_true rfl) rfl (tX4_takeFrom hg _ _ _ _ _ rfl rfl h) wmn_X11_182 wi_X4_takeFrom wv_X4_takeFrom wz_X4 wc_X4_takeFrom yd_X4_takeFrom rfl ⟨rfl, rfl⟩ ⟨Nat.le_of_ble_eq_true rfl, Nat.le_of_ble_eq_true rfl⟩ (Nat.le_of_ble_eq_true rfl) rfl dX11_first_29 (x_kv (fun M7 h => ?_))
      refine x_aload_n C 0 rfl rfl dX11_first_32 ?_
      refine x_get C (c := 0) (ci := 11) (k1 := 13) (v1 := .ref (ga g 78)) (enC_11 (c := 0) rfl) (Nat.le_of_ble_eq_true rfl) rfl inX11 (by decide) wf_X11_85 rfl dX11_first_33 ?_
      refine x_aload_n C 0 rfl rfl dX11_first_36 ?_
      refine x_get C (c := 0) (ci := 11) (k1 := 10) (v1 := .ref (ga g 67)) (enC_11 (c := 0) rfl) (Nat.le_of_ble_eq_true rfl) rfl inX11 (by decide) wf_X11_64 rfl dX11_first_37 ?_
      refine x_aload_n C 0 rfl rfl dX11_first_40 ?_
      refine x_get C (c := 0) (ci := 11) (k1 := 4) (v1 := .ref (ga g 18)) (enC_11 (c := 0) rfl) (Nat.le_of_ble_eq_true rfl) rfl inX11 (by decide) wf_X11_33 rfl dX11_first_41 ?_
      refine x_iload_n C 1 rfl rfl dX11_first_44 ?_
      refine x_callVN C (st := []) (As := [.ref (ga g 67), .ref (ga g 18), .int a0]) (c := 78) (ci := 1) (enC_1 (c := 78) rfl) (Nat.le_of_ble_eq_true rfl) rfl (tX1_run hg _ _ _ _ _ _ rfl rfl h) wmn_X11_171 wi_X1_run wv_X1_run wz_X1 wc_X1_run yd_X1_run rfl ⟨rfl, rfl⟩ ⟨Nat.le_of_ble_eq_true rfl, Nat.le_of_ble_eq_true rfl⟩ (Nat.le_of_ble_eq_true rfl) rfl dX11_first_45 (x_kv (fun M8 h => ?_))
      refine x_iload_n C 2 rfl rfl dX11_first_48 ?_
      refine x_if_ne C (tgt := 62) dX11_first_49 (by decide) (fun hq9 => ?_) (fun hq9 => ?_)
      · replace h := x_iff hq9 h
        refine x_aload_n C 0 rfl rfl dX11_first_62 ?_
        refine x_get C (c := 0) (ci := 11) (k1 := 13) (v1 := .ref (ga g 78)) (enC_11 (c := 0) rfl) (Nat.le_of_ble_eq_true rfl) rfl inX11 (by decide) wf_X11_85 rfl dX11_first_63 ?_
        refine x_getN C (c := 78) (ci := 1) (k1 := 14) (v1 := .int (gi M8 78 14)) (enC_1 (c := 78) rfl) (Nat.le_of_ble_eq_true rfl) rfl inX1 (by decide) wfn_X11_195 rfl dX11_first_66 ?_
        exact x_iret C dX11_first_69 ⟨_, rfl, h⟩
      · replace h := x_ift hq9 h
        refine x_aload_n C 0 rfl rfl dX11_first_52 ?_
        refine x_get C (c := 0) (ci := 11) (k1 := 13) (v1 := .ref (ga g 78)) (enC_11 (c := 0) rfl) (Nat.le_of_ble_eq_true rfl) rfl inX11 (by decide) wf_X11_85 rfl dX11_first_53 ?_
        refine x_getN C (c := 78) (ci := 1) (k1 := 13) (v1 := .int (gi M8 78 13)) (enC_1 (c := 78) rfl) (Nat.le_of_ble_eq_true rfl) rfl inX1 (by decide) wfn_X11_192 rfl dX11_first_56 ?_
        refine x_goto C (tgt := 69) dX11_first_59 (by decide) ?_
        exact x_iret C dX11_first_69 ⟨_, rfl, h⟩
    · replace h := x_ift hq6 h
      refine x_iconst C (v1 := (-1)) dX11_first_19 (by decide) ?_
      exact x_iret C dX11_first_20 ⟨_, rfl, h⟩
set_option maxHeartbeats 4000000 in
set_option maxRecDepth 100000 in
theorem tX11_threadsOf_38 {g : xG} (hg : x_inj (WC g))  {x : xCx}  {K4 : Int32 → Int32 → Int32 → xMem → Prop} {post : Int32 → xMem → Prop} (C : xOk (WC g) x cX11_threadsOf RX11 5 (some .int) (rm_X11_threadsOf) (pI post))  (hK4 : ∀ (x1 : Int32) (x2 : Int32) (x3 : Int32) (M : xMem), K4 x1 x2 x3 M → xW (WC g) x 5 4 [(0, .ref (ga g 0)), (1, .int x1), (2, .int x2), (3, .int x3)] [] M) (x1 : Int32) (x2 : Int32) (x3 : Int32) (M : xMem)  (h : wX11_threadsOf_38 K4 post x1 x2 x3 M) : xW (WC g) x 5 38 [(0, .ref (ga g 0)), (1, .int x1), (2, .int x2), (3, .int x3)] [] M := by
  unfold wX11_threadsOf_38 at h
  obtain ⟨v1, ev1⟩ : ∃ z : Int32, z = x3 + 1 := ⟨_, rfl⟩
  replace h := h v1 ev1
  refine x_iinc C 3 (v1 := v1) (L' := [(3, .int v1), (0, .ref (ga g 0)), (1, .int x1), (2, .int x2)]) rfl (by rw [ev1]; rfl) rfl (Nat.le_of_ble_eq_true rfl) dX11_threadsOf_38 ?_
  refine x_goto C (tgt := 4) dX11_threadsOf_41 (by decide) ?_
  refine x_loc (L' := [(0, .ref (ga g 0)), (1, .int x1), (2, .int x2), (3, .int v1)]) [1, 2, 3, 0] rfl ?_
  exact hK4 _ _ _ _  h
set_option maxHeartbeats 4000000 in
set_option maxRecDepth 100000 in
theorem tX11_threadsOf_4 {g : xG} (hg : x_inj (WC g))  {x : xCx}   {post : Int32 → xMem → Prop} (C : xOk (WC g) x cX11_threadsOf RX11 5 (some .int) (rm_X11_threadsOf) (pI post))   : ∀ (n : Nat) (x1 : Int32) (x2 : Int32) (x3 : Int32) (M : xMem), wX11_threadsOf_4 post n x1 x2 x3 M → xW (WC g) x 5 4 [(0, .ref (ga g 0)), (1, .int x1), (2, .int x2), (3, .int x3)] [] M := by
  intro n
  induction n with
  | zero =>
    intro x1 x2 x3 M  h
    exact h.elim
  | succ n ih =>
    intro x1 x2 x3 M  h
    rw [wX11_threadsOf_4] at h
    refine x_iload_n C 3 rfl rfl dX11_threadsOf_4 ?_
    refine x_bipush C (v1 := 6) dX11_threadsOf_5 (by decide) ?_
    refine x_icmp_ge C (tgt := 44) dX11_threadsOf_7 (by decide) (fun hq1 => ?_) (fun hq1 => ?_)
    · replace h := x_ift hq1 h
      refine x_iload_n C 2 rfl rfl dX11_threadsOf_44 ?_
      exact x_iret C dX11_threadsOf_45 ⟨_, rfl, h⟩
    · replace h := x_iff hq1 h
      refine x_aload_n C 0 rfl rfl dX11_threadsOf_10 ?_
      refine x_iload_n C 3 rfl rfl dX11_threadsOf_11 ?_
      refine x_callV C (st := []) (As := [.int x3]) (c := 0) (ci := 11) (enC_11 (c := 0) rfl) (Nat.le_of_ble_eq_true rfl) rfl (tX11_toldStory hg _ _ _ _  h) wm_X11_154 wi_X11_toldStory wv_X11_toldStory wz_X11 wc_X11_toldStory rfl yd_X11_toldStory rfl ⟨rfl, rfl⟩ ⟨Nat.le_of_ble_eq_true rfl, Nat.le_of_ble_eq_true rfl⟩ (Nat.le_of_ble_eq_true rfl) rfl dX11_threadsOf_12 (x_kr (fun M2 h => ?_) (fun q3 M2 h0 hkq3 h => ?_))
      · replace h := x_ift rfl h
        refine x_astoreN C (L' := [(4, .null), (0, .ref (ga g 0)), (1, .int x1), (2, .int x2), (3, .int x3)]) rfl (Nat.le_of_ble_eq_true rfl) dX11_threadsOf_15 ?_
        refine x_aloadN C 0 rfl dX11_threadsOf_17 ?_
        refine x_ifnullN C (tgt := 38) dX11_threadsOf_19 (by decide) ?_
        refine x_loc (L' := [(0, .ref (ga g 0)), (1, .int x1), (2, .int x2), (3, .int x3)]) [1, 2, 3, 4] rfl ?_
        exact tX11_threadsOf_38 hg  C  ih _ _ _ _  h
      · replace h := x_iff h0 h
        refine x_astore C (L' := [(4, .ref (ga g q3)), (0, .ref (ga g 0)), (1, .int x1), (2, .int x2), (3, .int x3)]) rfl (Nat.le_of_ble_eq_true rfl) dX11_threadsOf_15 ?_
        refine x_aload C 0 rfl dX11_threadsOf_17 ?_
        refine x_ifnull_r C dX11_threadsOf_19 ?_
        refine x_iload_n C 2 rfl rfl dX11_threadsOf_22 ?_
        refine x_iload_n C 4 rfl rfl dX11_threadsOf_23 ?_
        refine x_callS C (st := []) (As := [.int x1, .int x3]) (tX11_has hg _ _ _ _ _  h) wm_X11_164 wsm_X11_has wz_X11 wc_X11_has yd_X11_has rfl ⟨rfl, rfl⟩ ⟨Nat.le_of_ble_eq_true rfl, Nat.le_of_ble_eq_true rfl⟩ (Nat.le_of_ble_eq_true rfl) rfl dX11_threadsOf_24 (x_ki (fun r5 M4 h => ?_))
        refine x_if_eq C (tgt := 38) dX11_threadsOf_27 (by decide) (fun hq6 => ?_) (fun hq6 => ?_)
        · replace h := x_ift hq6 h
          refine x_loc (L' := [(0, .ref (ga g 0)), (1, .int x1), (2, .int x2), (3, .int x3)]) [1, 2, 3, 4] rfl ?_
          exact tX11_threadsOf_38 hg  C  ih _ _ _ _  h
        · replace h := x_iff hq6 h
          refine x_iload_n C 3 rfl rfl dX11_threadsOf_30 ?_
          refine x_aload C 0 rfl dX11_threadsOf_31 ?_
          refine x_getN C (c := q3) (ci := 9) (k1 := 4) (v1 := .int (gi M4 q3 4)) (enC_9 (c := q3) hkq3) (kC_lt hkq3 (by decide)) rfl inX9 (by decide) wfn_X11_207 rfl dX11_threadsOf_33 ?_
          refine x_ior C dX11_threadsOf_36 ?_
          refine x_nm (fun v7 ev7 => ?_)
          replace h := h v7 ev7
          refine x_istore_n C (L' := [(2, .int v7), (4, .ref (ga g q3)), (0, .ref (ga g 0)), (1, .int x1), (3, .int x3)]) rfl rfl (Nat.le_of_ble_eq_true rfl) dX11_threadsOf_37 ?_
          refine x_loc (L' := [(0, .ref (ga g 0)), (1, .int x1), (2, .int v7), (3, .int x3)]) [2, 3, 0, 4] rfl ?_
          exact tX11_threadsOf_38 hg  C  ih _ _ _ _  h
set_option maxHeartbeats 4000000 in
set_option maxRecDepth 100000 in
theorem tX11_threadsOf {g : xG} (hg : x_inj (WC g))  (l : Launch) (a0 : Int32) (M : xMem) (post : Int32 → xMem → Prop)  (h : wX11_threadsOf a0 M post) : xMet (WC g) l yX11_threadsOf cX11_threadsOf 5 (some .int) (rm_X11_threadsOf) [.ref (ga g 0), .int a0] M (pI post) := by
  refine x_enter (own := RX11) (L0 := [(0, .ref (ga g 0)), (1, .int a0)]) (by decide +kernel) rfl hg (x_stC g) (Nat.le_of_ble_eq_true rfl) rfl (fun x hl C => ?_)
  unfold wX11_threadsOf at h
  refine x_iconst C (v1 := 0) dX11_threadsOf_0 (by decide) ?_
  refine x_istore_n C (L' := [(2, .int 0), (0, .ref (ga g 0)), (1, .int a0)]) rfl rfl (Nat.le_of_ble_eq_true rfl) dX11_threadsOf_1 ?_
  refine x_iconst C (v1 := 0) dX11_threadsOf_2 (by decide) ?_
  refine x_istore_n C (L' := [(3, .int 0), (2, .int 0), (0, .ref (ga g 0)), (1, .int a0)]) rfl rfl (Nat.le_of_ble_eq_true rfl) dX11_threadsOf_3 ?_
  refine x_loc (L' := [(0, .ref (ga g 0)), (1, .int a0), (2, .int 0), (3, .int 0)]) [2, 3, 1, 0] rfl ?_
  obtain ⟨n4, h⟩ := h
  exact tX11_threadsOf_4 hg  C   _ _ _ _ _  h
set_option maxHeartbeats 4000000 in
set_option maxRecDepth 100000 in
theorem tX11_knotOf_60 {g : xG} (hg : x_inj (WC g))  {x : xCx}  {K6 : Int32 → Int32 → xMem → Prop} {K22 : Int32 → Int32 → Int32 → Int32 → xMem → Prop} {post : Int32 → xMem → Prop} (C : xOk (WC g) x cX11_knotOf RX11 7 (some .int) (rm_X11_knotOf) (pI post))  (hK6 : ∀ (x2 : Int32) (x3 : Int32) (M : xMem), K6 x2 x3 M → xW (WC g) x 7 6 [(0, .ref (ga g 0)), (2, .int x2), (3, .int x3)] [] M) (hK22 : ∀ (x2 : Int32) (x3 : Int32) (x4 : Int32) (x5 : Int32) (M : xMem), K22 x2 x3 x4 x5 M → xW (WC g) x 7 22 [(0, .ref (ga g 0)), (2, .int x2), (3, .int x3), (4, .int x4), (5, .int x5)] [] M) (x2 : Int32) (x3 : Int32) (x4 : Int32) (x5 : Int32) (M : xMem)  (h : wX11_knotOf_60 K6 K22 post x2 x3 x4 x5 M) : xW (WC g) x 7 60 [(0, .ref (ga g 0)), (2, .int x2), (3, .int x3), (4, .int x4), (5, .int x5)] [] M := by
  unfold wX11_knotOf_60 at h
  obtain ⟨v1, ev1⟩ : ∃ z : Int32, z = x5 + 1 := ⟨_, rfl⟩
  replace h := h v1 ev1
  refine x_iinc C 4 (v1 := v1) (L' := [(5, .int v1), (0, .ref (ga g 0)), (2, .int x2), (3, .int x3), (4, .int x4)]) rfl (by rw [ev1]; rfl) rfl (Nat.le_of_ble_eq_true rfl) dX11_knotOf_60 ?_
  refine x_goto C (tgt := 22) dX11_knotOf_63 (by decide) ?_
  refine x_loc (L' := [(0, .ref (ga g 0)), (2, .int x2), (3, .int x3), (4, .int x4), (5, .int v1)]) [1, 2, 3, 4, 0] rfl ?_
  exact hK22 _ _ _ _ _  h
set_option maxHeartbeats 4000000 in
set_option maxRecDepth 100000 in
theorem tX11_knotOf_22 {g : xG} (hg : x_inj (WC g))  {x : xCx}  {K6 : Int32 → Int32 → xMem → Prop} {post : Int32 → xMem → Prop} (C : xOk (WC g) x cX11_knotOf RX11 7 (some .int) (rm_X11_knotOf) (pI post))  (hK6 : ∀ (x2 : Int32) (x3 : Int32) (M : xMem), K6 x2 x3 M → xW (WC g) x 7 6 [(0, .ref (ga g 0)), (2, .int x2), (3, .int x3)] [] M) : ∀ (n : Nat) (x2 : Int32) (x3 : Int32) (x4 : Int32) (x5 : Int32) (M : xMem), wX11_knotOf_22 K6 post n x2 x3 x4 x5 M → xW (WC g) x 7 22 [(0, .ref (ga g 0)), (2, .int x2), (3, .int x3), (4, .int x4), (5, .int x5)] [] M := by
  intro n
  induction n with
  | zero =>
    intro x2 x3 x4 x5 M  h
    exact h.elim
  | succ n ih =>
    intro x2 x3 x4 x5 M  h
    rw [wX11_knotOf_22] at h
    refine x_iload C 4 rfl dX11_knotOf_22 ?_
    refine x_bipush C (v1 := 6) dX11_knotOf_24 (by decide) ?_
    refine x_icmp_ge C (tgt := 66) dX11_knotOf_26 (by decide) (fun hq1 => ?_) (fun hq1 => ?_)
    · replace h := x_ift hq1 h
      obtain ⟨v2, ev2⟩ : ∃ z : Int32, z = x3 + 1 := ⟨_, rfl⟩
      replace h := h v2 ev2
      refine x_iinc C 2 (v1 := v2) (L' := [(3, .int v2), (0, .ref (ga g 0)), (2, .int x2), (4, .int x4), (5, .int x5)]) rfl (by rw [ev2]; rfl) rfl (Nat.le_of_ble_eq_true rfl) dX11_knotOf_66 ?_
      refine x_goto C (tgt := 6) dX11_knotOf_69 (by decide) ?_
      refine x_loc (L' := [(0, .ref (ga g 0)), (2, .int x2), (3, .int v2)]) [1, 2, 0] rfl ?_
      exact hK6 _ _ _  h
    · replace h := x_iff hq1 h
      refine x_aload_n C 0 rfl rfl dX11_knotOf_29 ?_
      refine x_iload C 4 rfl dX11_knotOf_30 ?_
      refine x_callV C (st := []) (As := [.int x5]) (c := 0) (ci := 11) (enC_11 (c := 0) rfl) (Nat.le_of_ble_eq_true rfl) rfl (tX11_toldStory hg _ _ _ _  h) wm_X11_154 wi_X11_toldStory wv_X11_toldStory wz_X11 wc_X11_toldStory rfl yd_X11_toldStory rfl ⟨rfl, rfl⟩ ⟨Nat.le_of_ble_eq_true rfl, Nat.le_of_ble_eq_true rfl⟩ (Nat.le_of_ble_eq_true rfl) rfl dX11_knotOf_32 (x_kr (fun M3 h => ?_) (fun q4 M3 h0 hkq4 h => ?_))
      · replace h := x_ift rfl h
        refine x_astoreN C (L' := [(6, .null), (0, .ref (ga g 0)), (2, .int x2), (3, .int x3), (4, .int x4), (5, .int x5)]) rfl (Nat.le_of_ble_eq_true rfl) dX11_knotOf_35 ?_
        refine x_aloadN C 0 rfl dX11_knotOf_37 ?_
        refine x_ifnullN C (tgt := 60) dX11_knotOf_39 (by decide) ?_
        refine x_loc (L' := [(0, .ref (ga g 0)), (2, .int x2), (3, .int x3), (4, .int x4), (5, .int x5)]) [1, 2, 3, 4, 5] rfl ?_
        exact tX11_knotOf_60 hg  C  hK6 ih _ _ _ _ _  h
      · replace h := x_iff h0 h
        refine x_astore C (L' := [(6, .ref (ga g q4)), (0, .ref (ga g 0)), (2, .int x2), (3, .int x3), (4, .int x4), (5, .int x5)]) rfl (Nat.le_of_ble_eq_true rfl) dX11_knotOf_35 ?_
        refine x_aload C 0 rfl dX11_knotOf_37 ?_
        refine x_ifnull_r C dX11_knotOf_39 ?_
        refine x_aload C 0 rfl dX11_knotOf_42 ?_
        refine x_getN C (c := q4) (ci := 9) (k1 := 4) (v1 := .int (gi M3 q4 4)) (enC_9 (c := q4) hkq4) (kC_lt hkq4 (by decide)) rfl inX9 (by decide) wfn_X11_207 rfl dX11_knotOf_44 ?_
        refine x_iload C 4 rfl dX11_knotOf_47 ?_
        refine x_iand C dX11_knotOf_49 ?_
        refine x_if_eq C (tgt := 60) dX11_knotOf_50 (by decide) (fun hq5 => ?_) (fun hq5 => ?_)
        · replace h := x_ift hq5 h
          refine x_loc (L' := [(0, .ref (ga g 0)), (2, .int x2), (3, .int x3), (4, .int x4), (5, .int x5)]) [1, 2, 3, 4, 5] rfl ?_
          exact tX11_knotOf_60 hg  C  hK6 ih _ _ _ _ _  h
        · replace h := x_iff hq5 h
          refine x_iload_n C 2 rfl rfl dX11_knotOf_53 ?_
          refine x_iconst C (v1 := 1) dX11_knotOf_54 (by decide) ?_
          refine x_iload C 5 rfl dX11_knotOf_55 ?_
          refine x_ishl C dX11_knotOf_57 ?_
          refine x_ior C dX11_knotOf_58 ?_
          refine x_nm (fun v6 ev6 => ?_)
          replace h := h v6 ev6
          refine x_istore_n C (L' := [(2, .int v6), (6, .ref (ga g q4)), (0, .ref (ga g 0)), (3, .int x3), (4, .int x4), (5, .int x5)]) rfl rfl (Nat.le_of_ble_eq_true rfl) dX11_knotOf_59 ?_
          refine x_loc (L' := [(0, .ref (ga g 0)), (2, .int v6), (3, .int x3), (4, .int x4), (5, .int x5)]) [2, 0, 3, 4, 5] rfl ?_
          exact tX11_knotOf_60 hg  C  hK6 ih _ _ _ _ _  h
set_option maxHeartbeats 4000000 in
set_option maxRecDepth 100000 in
theorem tX11_knotOf_6 {g : xG} (hg : x_inj (WC g))  {x : xCx}   {post : Int32 → xMem → Prop} (C : xOk (WC g) x cX11_knotOf RX11 7 (some .int) (rm_X11_knotOf) (pI post))   : ∀ (n : Nat) (x2 : Int32) (x3 : Int32) (M : xMem), wX11_knotOf_6 post n x2 x3 M → xW (WC g) x 7 6 [(0, .ref (ga g 0)), (2, .int x2), (3, .int x3)] [] M := by
  intro n
  induction n with
  | zero =>
    intro x2 x3 M  h
    exact h.elim
  | succ n ih =>
    intro x2 x3 M  h
    rw [wX11_knotOf_6] at h
    refine x_iload_n C 2 rfl rfl dX11_knotOf_6 ?_
    refine x_bipush C (v1 := 6) dX11_knotOf_7 (by decide) ?_
    refine x_icmp_ge C (tgt := 72) dX11_knotOf_9 (by decide) (fun hq1 => ?_) (fun hq1 => ?_)
    · replace h := x_ift hq1 h
      refine x_iload_n C 1 rfl rfl dX11_knotOf_72 ?_
      exact x_iret C dX11_knotOf_73 ⟨_, rfl, h⟩
    · replace h := x_iff hq1 h
      refine x_aload_n C 0 rfl rfl dX11_knotOf_12 ?_
      refine x_iload_n C 1 rfl rfl dX11_knotOf_13 ?_
      refine x_callV C (st := []) (As := [.int x2]) (c := 0) (ci := 11) (enC_11 (c := 0) rfl) (Nat.le_of_ble_eq_true rfl) rfl (tX11_threadsOf hg _ _ _ _  h) wm_X11_377 wi_X11_threadsOf wv_X11_threadsOf wz_X11 wc_X11_threadsOf rfl yd_X11_threadsOf rfl ⟨rfl, rfl⟩ ⟨Nat.le_of_ble_eq_true rfl, Nat.le_of_ble_eq_true rfl⟩ (Nat.le_of_ble_eq_true rfl) rfl dX11_knotOf_14 (x_ki (fun r3 M2 h => ?_))
      refine x_istore C (L' := [(4, .int r3), (0, .ref (ga g 0)), (2, .int x2), (3, .int x3)]) rfl (Nat.le_of_ble_eq_true rfl) dX11_knotOf_17 ?_
      refine x_iconst C (v1 := 0) dX11_knotOf_19 (by decide) ?_
      refine x_istore C (L' := [(5, .int 0), (4, .int r3), (0, .ref (ga g 0)), (2, .int x2), (3, .int x3)]) rfl (Nat.le_of_ble_eq_true rfl) dX11_knotOf_20 ?_
      refine x_loc (L' := [(0, .ref (ga g 0)), (2, .int x2), (3, .int x3), (4, .int r3), (5, .int 0)]) [2, 3, 4, 1, 0] rfl ?_
      obtain ⟨n22, h⟩ := h
      exact tX11_knotOf_22 hg  C  ih _ _ _ _ _ _  h
set_option maxHeartbeats 4000000 in
set_option maxRecDepth 100000 in
theorem tX11_knotOf {g : xG} (hg : x_inj (WC g))  (l : Launch) (a0 : Int32) (M : xMem) (post : Int32 → xMem → Prop)  (h : wX11_knotOf a0 M post) : xMet (WC g) l yX11_knotOf cX11_knotOf 7 (some .int) (rm_X11_knotOf) [.ref (ga g 0), .int a0] M (pI post) := by
  refine x_enter (own := RX11) (L0 := [(0, .ref (ga g 0)), (1, .int a0)]) (by decide +kernel) rfl hg (x_stC g) (Nat.le_of_ble_eq_true rfl) rfl (fun x hl C => ?_)
  unfold wX11_knotOf at h
  refine x_iconst C (v1 := 1) dX11_knotOf_0 (by decide) ?_
  refine x_iload_n C 1 rfl rfl dX11_knotOf_1 ?_
  refine x_ishl C dX11_knotOf_2 ?_
  refine x_nm (fun v1 ev1 => ?_)
  replace h := h v1 ev1
  refine x_istore_n C (L' := [(2, .int v1), (0, .ref (ga g 0)), (1, .int a0)]) rfl rfl (Nat.le_of_ble_eq_true rfl) dX11_knotOf_3 ?_
  refine x_iconst C (v1 := 0) dX11_knotOf_4 (by decide) ?_
  refine x_istore_n C (L' := [(3, .int 0), (2, .int v1), (0, .ref (ga g 0)), (1, .int a0)]) rfl rfl (Nat.le_of_ble_eq_true rfl) dX11_knotOf_5 ?_
  refine x_loc (L' := [(0, .ref (ga g 0)), (2, .int v1), (3, .int 0)]) [2, 1, 0] rfl ?_
  obtain ⟨n6, h⟩ := h
  exact tX11_knotOf_6 hg  C   _ _ _ _  h
set_option maxHeartbeats 4000000 in
set_option maxRecDepth 100000 in
theorem tX11_storyIs {g : xG} (hg : x_inj (WC g))  (l : Launch) (a0 : Int32) (a1 : Int32) (M : xMem) (post : Int32 → xMem → Prop)  (h : wX11_storyIs a0 a1 M post) : xMet (WC g) l yX11_storyIs cX11_storyIs 4 (some .int) (rm_X11_storyIs) [.ref (ga g 0), .int a0, .int a1] M (pI post) := by
  refine x_enter (own := RX11) (L0 := [(0, .ref (ga g 0)), (1, .int a0), (2, .int a1)]) (by decide +kernel) rfl hg (x_stC g) (Nat.le_of_ble_eq_true rfl) rfl (fun x hl C => ?_)
  unfold wX11_storyIs at h
  refine x_aload_n C 0 rfl rfl dX11_storyIs_0 ?_
  refine x_iload_n C 1 rfl rfl dX11_storyIs_1 ?_
  refine x_callV C (st := []) (As := [.int a0]) (c := 0) (ci := 11) (enC_11 (c := 0) rfl) (Nat.le_of_ble_eq_true rfl) rfl (tX11_toldStory hg _ _ _ _  h) wm_X11_154 wi_X11_toldStory wv_X11_toldStory wz_X11 wc_X11_toldStory rfl yd_X11_toldStory rfl ⟨rfl, rfl⟩ ⟨Nat.le_of_ble_eq_true rfl, Nat.le_of_ble_eq_true rfl⟩ (Nat.le_of_ble_eq_true rfl) rfl dX11_storyIs_2 (x_kr (fun M1 h => ?_) (fun q2 M1 h0 hkq2 h => ?_))
  · replace h := x_ift rfl h
    refine x_astore_nN C (L' := [(3, .null), (0, .ref (ga g 0)), (1, .int a0), (2, .int a1)]) rfl rfl (Nat.le_of_ble_eq_true rfl) dX11_storyIs_5 ?_
    refine x_aload_nN C 0 rfl rfl dX11_storyIs_6 ?_
    refine x_ifnonnullN C dX11_storyIs_7 ?_
    refine x_iconst C (v1 := (-1)) dX11_storyIs_10 (by decide) ?_
    exact x_iret C dX11_storyIs_11 ⟨_, rfl, h⟩
  · replace h := x_iff h0 h
    refine x_astore_n C (L' := [(3, .ref (ga g q2)), (0, .ref (ga g 0)), (1, .int a0), (2, .int a1)]) rfl rfl (Nat.le_of_ble_eq_true rfl) dX11_storyIs_5 ?_
    refine x_aload_n C 0 rfl rfl dX11_storyIs_6 ?_
    refine x_ifnonnull_r C (tgt := 12) dX11_storyIs_7 (by decide) ?_
    refine x_iload_n C 3 rfl rfl dX11_storyIs_12 ?_
    by_cases hq3 : a1 = 0
    · replace h := x_ift hq3 h
      refine x_tabIn C hq3 (tgt := 48) dX11_storyIs_13 (by decide) (by decide) rfl (by decide) ?_
      refine x_aload_n C 0 rfl rfl dX11_storyIs_48 ?_
      refine x_getN C (c := q2) (ci := 9) (k1 := 1) (v1 := .int (gi M1 q2 1)) (enC_9 (c := q2) hkq2) (kC_lt hkq2 (by decide)) rfl inX9 (by decide) wfn_X11_198 rfl dX11_storyIs_49 ?_
      exact x_iret C dX11_storyIs_52 ⟨_, rfl, h⟩
    · replace h := x_iff hq3 h
      by_cases hq4 : a1 = 1
      · replace h := x_ift hq4 h
        refine x_tabIn C hq4 (tgt := 53) dX11_storyIs_13 (by decide) (by decide) rfl (by decide) ?_
        refine x_aload_n C 0 rfl rfl dX11_storyIs_53 ?_
        refine x_getN C (c := q2) (ci := 9) (k1 := 2) (v1 := .int (gi M1 q2 2)) (enC_9 (c := q2) hkq2) (kC_lt hkq2 (by decide)) rfl inX9 (by decide) wfn_X11_201 rfl dX11_storyIs_54 ?_
        exact x_iret C dX11_storyIs_57 ⟨_, rfl, h⟩
      · replace h := x_iff hq4 h
        by_cases hq5 : a1 = 2
        · replace h := x_ift hq5 h
          refine x_tabIn C hq5 (tgt := 58) dX11_storyIs_13 (by decide) (by decide) rfl (by decide) ?_
          refine x_aload_n C 0 rfl rfl dX11_storyIs_58 ?_
          refine x_getN C (c := q2) (ci := 9) (k1 := 3) (v1 := .int (gi M1 q2 3)) (enC_9 (c := q2) hkq2) (kC_lt hkq2 (by decide)) rfl inX9 (by decide) wfn_X11_204 rfl dX11_storyIs_59 ?_
          exact x_iret C dX11_storyIs_62 ⟨_, rfl, h⟩
        · replace h := x_iff hq5 h
          by_cases hq6 : a1 = 3
          · replace h := x_ift hq6 h
            refine x_tabIn C hq6 (tgt := 63) dX11_storyIs_13 (by decide) (by decide) rfl (by decide) ?_
            refine x_aload_n C 0 rfl rfl dX11_storyIs_63 ?_
            refine x_getN C (c := q2) (ci := 9) (k1 := 4) (v1 := .int (gi M1 q2 4)) (enC_9 (c := q2) hkq2) (kC_lt hkq2 (by decide)) rfl inX9 (by decide) wfn_X11_207 rfl dX11_storyIs_64 ?_
            exact x_iret C dX11_storyIs_67 ⟨_, rfl, h⟩
          · replace h := x_iff hq6 h
            by_cases hq7 : a1 = 4
            · replace h := x_ift hq7 h
              refine x_tabIn C hq7 (tgt := 68) dX11_storyIs_13 (by decide) (by decide) rfl (by decide) ?_
              refine x_aload_n C 1 rfl rfl dX11_storyIs_68 ?_
              refine x_iload_n C 2 rfl rfl dX11_storyIs_69 ?_
              refine x_callV C (st := []) (As := [.int a0]) (c := 0) (ci := 11) (enC_11 (c := 0) rfl) (Nat.le_of_ble_eq_true rfl) rfl (tX11_knotOf hg _ _ _ _  h) wm_X11_210 wi_X11_knotOf wv_X11_knotOf wz_X11 wc_X11_knotOf rfl yd_X11_knotOf rfl ⟨rfl, rfl⟩ ⟨Nat.le_of_ble_eq_true rfl, Nat.le_of_ble_eq_true rfl⟩ (Nat.le_of_ble_eq_true rfl) rfl dX11_storyIs_70 (x_ki (fun r9 M8 h => ?_))
              exact x_iret C dX11_storyIs_73 ⟨_, rfl, h⟩
            · replace h := x_iff hq7 h
              refine x_tabOut C (tgt := 74) dX11_storyIs_13 (by have t0 := x_i32ne hq3; have u0 : (0 : Int32).toInt = 0 := (by decide); have t1 := x_i32ne hq4; have u1 : (1 : Int32).toInt = 1 := (by decide); have t2 := x_i32ne hq5; have u2 : (2 : Int32).toInt = 2 := (by decide); have t3 := x_i32ne hq6; have u3 : (3 : Int32).toInt = 3 := (by decide); have t4 := x_i32ne hq7; have u4 : (4 : Int32).toInt = 4 := (by decide); omega) (by decide) ?_
              refine x_iconst C (v1 := (-1)) dX11_storyIs_74 (by decide) ?_
              exact x_iret C dX11_storyIs_75 ⟨_, rfl, h⟩
set_option maxHeartbeats 4000000 in
set_option maxRecDepth 100000 in
theorem tX11_open {g : xG} (hg : x_inj (WC g))  (l : Launch) (a0 : Int32) (a1 : Int32) (a2 : Int32) (M : xMem) (post : Int32 → xMem → Prop)  (h : wX11_open a0 a1 a2 M post) : xMet (WC g) l yX11_open cX11_open 5 (some .int) (rm_X11_open) [.ref (ga g 0), .int a0, .int a1, .int a2] M (pI post) := by
  refine x_enter (own := RX11) (L0 := [(0, .ref (ga g 0)), (1, .int a0), (2, .int a1), (3, .int a2)]) (by decide +kernel) rfl hg (x_stC g) (Nat.le_of_ble_eq_true rfl) rfl (fun x hl C => ?_)
  unfold wX11_open at h
  refine x_aload_n C 0 rfl rfl dX11_open_0 ?_
  refine x_iload_n C 1 rfl rfl dX11_open_1 ?_
  refine x_callV C (st := []) (As := [.int a0]) (c := 0) (ci := 11) (enC_11 (c := 0) rfl) (Nat.le_of_ble_eq_true rfl) rfl (tX11_toldStory hg _ _ _ _  h) wm_X11_154 wi_X11_toldStory wv_X11_toldStory wz_X11 wc_X11_toldStory rfl yd_X11_toldStory rfl ⟨rfl, rfl⟩ ⟨Nat.le_of_ble_eq_true rfl, Nat.le_of_ble_eq_true rfl⟩ (Nat.le_of_ble_eq_true rfl) rfl dX11_open_2 (x_kr (fun M1 h => ?_) (fun q2 M1 h0 hkq2 h => ?_))
  · replace h := x_ift rfl h
    refine x_astoreN C (L' := [(4, .null), (0, .ref (ga g 0)), (1, .int a0), (2, .int a1), (3, .int a2)]) rfl (Nat.le_of_ble_eq_true rfl) dX11_open_5 ?_
    refine x_aloadN C 0 rfl dX11_open_7 ?_
    refine x_ifnullN C (tgt := 36) dX11_open_9 (by decide) ?_
    refine x_iconst C (v1 := (-1)) dX11_open_36 (by decide) ?_
    exact x_iret C dX11_open_37 ⟨_, rfl, h⟩
  · replace h := x_iff h0 h
    refine x_astore C (L' := [(4, .ref (ga g q2)), (0, .ref (ga g 0)), (1, .int a0), (2, .int a1), (3, .int a2)]) rfl (Nat.le_of_ble_eq_true rfl) dX11_open_5 ?_
    refine x_aload C 0 rfl dX11_open_7 ?_
    refine x_ifnull_r C dX11_open_9 ?_
    refine x_iload_n C 3 rfl rfl dX11_open_12 ?_
    refine x_iconst C (v1 := 0) dX11_open_13 (by decide) ?_
    refine x_aload C 0 rfl dX11_open_14 ?_
    refine x_getN C (c := q2) (ci := 9) (k1 := 1) (v1 := .int (gi M1 q2 1)) (enC_9 (c := q2) hkq2) (kC_lt hkq2 (by decide)) rfl inX9 (by decide) wfn_X11_198 rfl dX11_open_16 ?_
    refine x_callS C (st := []) (As := [.int a1, .int 0, .int (gi M1 q2 1)]) (tX11_isWithin hg _ _ _ _ _ _  h) wm_X11_145 wsm_X11_isWithin wz_X11 wc_X11_isWithin yd_X11_isWithin rfl ⟨rfl, rfl⟩ ⟨Nat.le_of_ble_eq_true rfl, Nat.le_of_ble_eq_true rfl⟩ (Nat.le_of_ble_eq_true rfl) rfl dX11_open_19 (x_ki (fun r4 M3 h => ?_))
    refine x_if_eq C (tgt := 36) dX11_open_22 (by decide) (fun hq5 => ?_) (fun hq5 => ?_)
    · replace h := x_ift hq5 h
      refine x_iconst C (v1 := (-1)) dX11_open_36 (by decide) ?_
      exact x_iret C dX11_open_37 ⟨_, rfl, h⟩
    · replace h := x_iff hq5 h
      refine x_iload_n C 4 rfl rfl dX11_open_25 ?_
      refine x_iconst C (v1 := 0) dX11_open_26 (by decide) ?_
      refine x_sipush C (v1 := 1023) dX11_open_27 (by decide) ?_
      refine x_callS C (st := []) (As := [.int a2, .int 0, .int 1023]) (tX11_isWithin hg _ _ _ _ _ _  h) wm_X11_145 wsm_X11_isWithin wz_X11 wc_X11_isWithin yd_X11_isWithin rfl ⟨rfl, rfl⟩ ⟨Nat.le_of_ble_eq_true rfl, Nat.le_of_ble_eq_true rfl⟩ (Nat.le_of_ble_eq_true rfl) rfl dX11_open_30 (x_ki (fun r7 M6 h => ?_))
      refine x_if_ne C (tgt := 38) dX11_open_33 (by decide) (fun hq8 => ?_) (fun hq8 => ?_)
      · replace h := x_iff hq8 h
        refine x_aload C 0 rfl dX11_open_38 ?_
        refine x_iconst C (v1 := 0) dX11_open_40 (by decide) ?_
        refine x_iload_n C 3 rfl rfl dX11_open_41 ?_
        refine x_iload_n C 4 rfl rfl dX11_open_42 ?_
        refine x_callVN C (st := []) (As := [.int 0, .int a1, .int a2]) (c := q2) (ci := 9) (enC_9 (c := q2) hkq2) (kC_lt hkq2 (by decide)) rfl (tX9_openBehind hg _ _ _ _ _ _ _ hkq2 h) wmn_X11_213 wi_X9_openBehind wv_X9_openBehind wz_X9 wc_X9_openBehind yd_X9_openBehind rfl ⟨rfl, rfl⟩ ⟨Nat.le_of_ble_eq_true rfl, Nat.le_of_ble_eq_true rfl⟩ (Nat.le_of_ble_eq_true rfl) rfl dX11_open_43 (x_ki (fun r10 M9 h => ?_))
        exact x_iret C dX11_open_46 ⟨_, rfl, h⟩
      · replace h := x_ift hq8 h
        refine x_iconst C (v1 := (-1)) dX11_open_36 (by decide) ?_
        exact x_iret C dX11_open_37 ⟨_, rfl, h⟩
set_option maxHeartbeats 4000000 in
set_option maxRecDepth 100000 in
theorem tX2_isTold {g : xG} (hg : x_inj (WC g))  (l : Launch) (a0 : Int32) (M : xMem) (post : Int32 → xMem → Prop)  (h : wX2_isTold a0 M post) : xMet (WC g) l yX2_isTold cX2_isTold 2 (some .boolean) (rm_X2_isTold) [.ref (ga g 41), .int a0] M (pI post) := by
  refine x_enter (own := RX2) (L0 := [(0, .ref (ga g 41)), (1, .int a0)]) (by decide +kernel) rfl hg (x_stC g) (Nat.le_of_ble_eq_true rfl) rfl (fun x hl C => ?_)
  unfold wX2_isTold at h
  refine x_iload_n C 1 rfl rfl dX2_isTold_0 ?_
  refine x_iconst C (v1 := 0) dX2_isTold_1 (by decide) ?_
  refine x_bipush C (v1 := 9) dX2_isTold_2 (by decide) ?_
  refine x_callSN C (st := []) (As := [.int a0, .int 0, .int 9]) (tX11_isWithin hg _ _ _ _ _ _  h) wmn_X2_52 wsm_X11_isWithin wz_X11 wc_X11_isWithin yd_X11_isWithin rfl ⟨rfl, rfl⟩ ⟨Nat.le_of_ble_eq_true rfl, Nat.le_of_ble_eq_true rfl⟩ (Nat.le_of_ble_eq_true rfl) rfl dX2_isTold_4 (x_ki (fun r2 M1 h => ?_))
  refine x_if_eq C (tgt := 25) dX2_isTold_7 (by decide) (fun hq3 => ?_) (fun hq3 => ?_)
  · replace h := x_ift hq3 h
    refine x_iconst C (v1 := 0) dX2_isTold_25 (by decide) ?_
    exact x_zret C rfl dX2_isTold_26 ⟨_, rfl, h⟩
  · replace h := x_iff hq3 h
    refine x_aload_n C 0 rfl rfl dX2_isTold_10 ?_
    refine x_get C (c := 41) (ci := 2) (k1 := 0) (v1 := .int (gi M1 41 0)) (enC_2 (c := 41) rfl) (Nat.le_of_ble_eq_true rfl) rfl inX2 (by decide) wf_X2_9 rfl dX2_isTold_11 ?_
    refine x_iload_n C 1 rfl rfl dX2_isTold_14 ?_
    refine x_callSN C (st := []) (As := [.int (gi M1 41 0), .int a0]) (tX11_has hg _ _ _ _ _  h) wmn_X2_56 wsm_X11_has wz_X11 wc_X11_has yd_X11_has rfl ⟨rfl, rfl⟩ ⟨Nat.le_of_ble_eq_true rfl, Nat.le_of_ble_eq_true rfl⟩ (Nat.le_of_ble_eq_true rfl) rfl dX2_isTold_15 (x_ki (fun r5 M4 h => ?_))
    refine x_if_eq C (tgt := 25) dX2_isTold_18 (by decide) (fun hq6 => ?_) (fun hq6 => ?_)
    · replace h := x_ift hq6 h
      refine x_iconst C (v1 := 0) dX2_isTold_25 (by decide) ?_
      exact x_zret C rfl dX2_isTold_26 ⟨_, rfl, h⟩
    · replace h := x_iff hq6 h
      refine x_iconst C (v1 := 1) dX2_isTold_21 (by decide) ?_
      refine x_goto C (tgt := 26) dX2_isTold_22 (by decide) ?_
      exact x_zret C rfl dX2_isTold_26 ⟨_, rfl, h⟩
set_option maxHeartbeats 4000000 in
set_option maxRecDepth 100000 in
theorem tX11_endIs {g : xG} (hg : x_inj (WC g))  (l : Launch) (a0 : Int32) (a1 : Int32) (M : xMem) (post : Int32 → xMem → Prop)  (h : wX11_endIs a0 a1 M post) : xMet (WC g) l yX11_endIs cX11_endIs 3 (some .int) (rm_X11_endIs) [.ref (ga g 0), .int a0, .int a1] M (pI post) := by
  refine x_enter (own := RX11) (L0 := [(0, .ref (ga g 0)), (1, .int a0), (2, .int a1)]) (by decide +kernel) rfl hg (x_stC g) (Nat.le_of_ble_eq_true rfl) rfl (fun x hl C => ?_)
  unfold wX11_endIs at h
  refine x_aload_n C 0 rfl rfl dX11_endIs_0 ?_
  refine x_get C (c := 0) (ci := 11) (k1 := 7) (v1 := .ref (ga g 41)) (enC_11 (c := 0) rfl) (Nat.le_of_ble_eq_true rfl) rfl inX11 (by decide) wf_X11_50 rfl dX11_endIs_1 ?_
  refine x_iload_n C 1 rfl rfl dX11_endIs_4 ?_
  refine x_callVN C (st := []) (As := [.int a0]) (c := 41) (ci := 2) (enC_2 (c := 41) rfl) (Nat.le_of_ble_eq_true rfl) rfl (tX2_isTold hg _ _ _ _  h) wmn_X11_217 wi_X2_isTold wv_X2_isTold wz_X2 wc_X2_isTold yd_X2_isTold rfl ⟨rfl, rfl⟩ ⟨Nat.le_of_ble_eq_true rfl, Nat.le_of_ble_eq_true rfl⟩ (Nat.le_of_ble_eq_true rfl) rfl dX11_endIs_5 (x_ki (fun r2 M1 h => ?_))
  refine x_if_ne C (tgt := 13) dX11_endIs_8 (by decide) (fun hq3 => ?_) (fun hq3 => ?_)
  · replace h := x_iff hq3 h
    refine x_iload_n C 2 rfl rfl dX11_endIs_13 ?_
    by_cases hq4 : a1 = 0
    · replace h := x_ift hq4 h
      refine x_tabIn C hq4 (tgt := 52) dX11_endIs_14 (by decide) (by decide) rfl (by decide) ?_
      refine x_aload_n C 0 rfl rfl dX11_endIs_52 ?_
      refine x_get C (c := 0) (ci := 11) (k1 := 7) (v1 := .ref (ga g 41)) (enC_11 (c := 0) rfl) (Nat.le_of_ble_eq_true rfl) rfl inX11 (by decide) wf_X11_50 rfl dX11_endIs_53 ?_
      refine x_getN C (c := 41) (ci := 2) (k1 := 1) (v1 := .ref (ga g 42)) (enC_2 (c := 41) rfl) (Nat.le_of_ble_eq_true rfl) rfl inX2 (by decide) wfn_X11_220 rfl dX11_endIs_56 ?_
      refine x_iload_n C 1 rfl rfl dX11_endIs_59 ?_
      obtain ⟨hi5, h⟩ := h
      refine x_iald C 0 (c := 42) (enC_20n (c := 42) (n := 10) rfl rfl) (Nat.le_of_ble_eq_true rfl) rfl hi5 dX11_endIs_60 ?_
      exact x_iret C dX11_endIs_61 ⟨_, rfl, h⟩
    · replace h := x_iff hq4 h
      by_cases hq6 : a1 = 1
      · replace h := x_ift hq6 h
        refine x_tabIn C hq6 (tgt := 62) dX11_endIs_14 (by decide) (by decide) rfl (by decide) ?_
        refine x_aload_n C 0 rfl rfl dX11_endIs_62 ?_
        refine x_get C (c := 0) (ci := 11) (k1 := 7) (v1 := .ref (ga g 41)) (enC_11 (c := 0) rfl) (Nat.le_of_ble_eq_true rfl) rfl inX11 (by decide) wf_X11_50 rfl dX11_endIs_63 ?_
        refine x_getN C (c := 41) (ci := 2) (k1 := 2) (v1 := .ref (ga g 43)) (enC_2 (c := 41) rfl) (Nat.le_of_ble_eq_true rfl) rfl inX2 (by decide) wfn_X11_223 rfl dX11_endIs_66 ?_
        refine x_iload_n C 1 rfl rfl dX11_endIs_69 ?_
        obtain ⟨hi7, h⟩ := h
        refine x_iald C 0 (c := 43) (enC_20n (c := 43) (n := 10) rfl rfl) (Nat.le_of_ble_eq_true rfl) rfl hi7 dX11_endIs_70 ?_
        exact x_iret C dX11_endIs_71 ⟨_, rfl, h⟩
      · replace h := x_iff hq6 h
        by_cases hq8 : a1 = 2
        · replace h := x_ift hq8 h
          refine x_tabIn C hq8 (tgt := 72) dX11_endIs_14 (by decide) (by decide) rfl (by decide) ?_
          refine x_aload_n C 0 rfl rfl dX11_endIs_72 ?_
          refine x_get C (c := 0) (ci := 11) (k1 := 8) (v1 := .ref (ga g 49)) (enC_11 (c := 0) rfl) (Nat.le_of_ble_eq_true rfl) rfl inX11 (by decide) wf_X11_57 rfl dX11_endIs_73 ?_
          refine x_getN C (c := 49) (ci := 4) (k1 := 9) (v1 := .ref (ga g 57)) (enC_4 (c := 49) rfl) (Nat.le_of_ble_eq_true rfl) rfl inX4 (by decide) wfn_X11_151 rfl dX11_endIs_76 ?_
          refine x_iload_n C 1 rfl rfl dX11_endIs_79 ?_
          obtain ⟨hi9, h⟩ := h
          refine x_iald C 0 (c := 57) (enC_20n (c := 57) (n := 10) rfl rfl) (Nat.le_of_ble_eq_true rfl) rfl hi9 dX11_endIs_80 ?_
          exact x_iret C dX11_endIs_81 ⟨_, rfl, h⟩
        · replace h := x_iff hq8 h
          by_cases hq10 : a1 = 3
          · replace h := x_ift hq10 h
            refine x_tabIn C hq10 (tgt := 82) dX11_endIs_14 (by decide) (by decide) rfl (by decide) ?_
            refine x_aload_n C 0 rfl rfl dX11_endIs_82 ?_
            refine x_get C (c := 0) (ci := 11) (k1 := 7) (v1 := .ref (ga g 41)) (enC_11 (c := 0) rfl) (Nat.le_of_ble_eq_true rfl) rfl inX11 (by decide) wf_X11_50 rfl dX11_endIs_83 ?_
            refine x_getN C (c := 41) (ci := 2) (k1 := 3) (v1 := .ref (ga g 44)) (enC_2 (c := 41) rfl) (Nat.le_of_ble_eq_true rfl) rfl inX2 (by decide) wfn_X11_226 rfl dX11_endIs_86 ?_
            refine x_iload_n C 1 rfl rfl dX11_endIs_89 ?_
            obtain ⟨hi11, h⟩ := h
            refine x_iald C 0 (c := 44) (enC_20n (c := 44) (n := 10) rfl rfl) (Nat.le_of_ble_eq_true rfl) rfl hi11 dX11_endIs_90 ?_
            exact x_iret C dX11_endIs_91 ⟨_, rfl, h⟩
          · replace h := x_iff hq10 h
            by_cases hq12 : a1 = 4
            · replace h := x_ift hq12 h
              refine x_tabIn C hq12 (tgt := 92) dX11_endIs_14 (by decide) (by decide) rfl (by decide) ?_
              refine x_aload_n C 0 rfl rfl dX11_endIs_92 ?_
              refine x_get C (c := 0) (ci := 11) (k1 := 12) (v1 := .ref (ga g 76)) (enC_11 (c := 0) rfl) (Nat.le_of_ble_eq_true rfl) rfl inX11 (by decide) wf_X11_76 rfl dX11_endIs_93 ?_
              refine x_aload_n C 0 rfl rfl dX11_endIs_96 ?_
              refine x_get C (c := 0) (ci := 11) (k1 := 8) (v1 := .ref (ga g 49)) (enC_11 (c := 0) rfl) (Nat.le_of_ble_eq_true rfl) rfl inX11 (by decide) wf_X11_57 rfl dX11_endIs_97 ?_
              refine x_aload_n C 0 rfl rfl dX11_endIs_100 ?_
              refine x_get C (c := 0) (ci := 11) (k1 := 4) (v1 := .ref (ga g 18)) (enC_11 (c := 0) rfl) (Nat.le_of_ble_eq_true rfl) rfl inX11 (by decide) wf_X11_33 rfl dX11_endIs_101 ?_
              refine x_iconst C (v1 := 1) dX11_endIs_104 (by decide) ?_
              refine x_iload_n C 1 rfl rfl dX11_endIs_105 ?_
              refine x_callVN C (st := []) (As := [.ref (ga g 49), .ref (ga g 18), .int 1, .int a0]) (c := 76) (ci := 0) (enC_0 (c := 76) rfl) (Nat.le_of_ble_eq_true rfl) rfl (tX0_ofEnd hg _ _ _ _ _ _ _ rfl rfl h) wmn_X11_229 wi_X0_ofEnd wv_X0_ofEnd wz_X0 wc_X0_ofEnd yd_X0_ofEnd rfl ⟨rfl, rfl⟩ ⟨Nat.le_of_ble_eq_true rfl, Nat.le_of_ble_eq_true rfl⟩ (Nat.le_of_ble_eq_true rfl) rfl dX11_endIs_106 (x_ki (fun r14 M13 h => ?_))
              exact x_iret C dX11_endIs_109 ⟨_, rfl, h⟩
            · replace h := x_iff hq12 h
              by_cases hq15 : a1 = 5
              · replace h := x_ift hq15 h
                refine x_tabIn C hq15 (tgt := 110) dX11_endIs_14 (by decide) (by decide) rfl (by decide) ?_
                refine x_aload_n C 0 rfl rfl dX11_endIs_110 ?_
                refine x_get C (c := 0) (ci := 11) (k1 := 12) (v1 := .ref (ga g 76)) (enC_11 (c := 0) rfl) (Nat.le_of_ble_eq_true rfl) rfl inX11 (by decide) wf_X11_76 rfl dX11_endIs_111 ?_
                refine x_aload_n C 0 rfl rfl dX11_endIs_114 ?_
                refine x_get C (c := 0) (ci := 11) (k1 := 8) (v1 := .ref (ga g 49)) (enC_11 (c := 0) rfl) (Nat.le_of_ble_eq_true rfl) rfl inX11 (by decide) wf_X11_57 rfl dX11_endIs_115 ?_
                refine x_aload_n C 0 rfl rfl dX11_endIs_118 ?_
                refine x_get C (c := 0) (ci := 11) (k1 := 4) (v1 := .ref (ga g 18)) (enC_11 (c := 0) rfl) (Nat.le_of_ble_eq_true rfl) rfl inX11 (by decide) wf_X11_33 rfl dX11_endIs_119 ?_
                refine x_iconst C (v1 := 5) dX11_endIs_122 (by decide) ?_
                refine x_iload_n C 1 rfl rfl dX11_endIs_123 ?_
                refine x_callVN C (st := []) (As := [.ref (ga g 49), .ref (ga g 18), .int 5, .int a0]) (c := 76) (ci := 0) (enC_0 (c := 76) rfl) (Nat.le_of_ble_eq_true rfl) rfl (tX0_ofEnd hg _ _ _ _ _ _ _ rfl rfl h) wmn_X11_229 wi_X0_ofEnd wv_X0_ofEnd wz_X0 wc_X0_ofEnd yd_X0_ofEnd rfl ⟨rfl, rfl⟩ ⟨Nat.le_of_ble_eq_true rfl, Nat.le_of_ble_eq_true rfl⟩ (Nat.le_of_ble_eq_true rfl) rfl dX11_endIs_124 (x_ki (fun r17 M16 h => ?_))
                exact x_iret C dX11_endIs_127 ⟨_, rfl, h⟩
              · replace h := x_iff hq15 h
                refine x_tabOut C (tgt := 128) dX11_endIs_14 (by have t0 := x_i32ne hq4; have u0 : (0 : Int32).toInt = 0 := (by decide); have t1 := x_i32ne hq6; have u1 : (1 : Int32).toInt = 1 := (by decide); have t2 := x_i32ne hq8; have u2 : (2 : Int32).toInt = 2 := (by decide); have t3 := x_i32ne hq10; have u3 : (3 : Int32).toInt = 3 := (by decide); have t4 := x_i32ne hq12; have u4 : (4 : Int32).toInt = 4 := (by decide); have t5 := x_i32ne hq15; have u5 : (5 : Int32).toInt = 5 := (by decide); omega) (by decide) ?_
                refine x_iconst C (v1 := (-1)) dX11_endIs_128 (by decide) ?_
                exact x_iret C dX11_endIs_129 ⟨_, rfl, h⟩
  · replace h := x_ift hq3 h
    refine x_iconst C (v1 := (-1)) dX11_endIs_11 (by decide) ?_
    exact x_iret C dX11_endIs_12 ⟨_, rfl, h⟩
set_option maxHeartbeats 4000000 in
set_option maxRecDepth 100000 in
theorem tX4_boundTo_25 {g : xG} (hg : x_inj (WC g))  {x : xCx} {o : Nat} {K4 : Int32 → Int32 → Int32 → xMem → Prop} {post : Int32 → xMem → Prop} (C : xOk (WC g) x cX4_boundTo RX4 4 (some .int) (rm_X4_boundTo) (pI post)) (ho : kC o = 4) (hK4 : ∀ (x1 : Int32) (x2 : Int32) (x3 : Int32) (M : xMem), K4 x1 x2 x3 M → xW (WC g) x 4 4 [(0, .ref (ga g o)), (1, .int x1), (2, .int x2), (3, .int x3)] [] M) (x1 : Int32) (x2 : Int32) (x3 : Int32) (M : xMem)  (h : wX4_boundTo_25 o K4 post x1 x2 x3 M) : xW (WC g) x 4 25 [(0, .ref (ga g o)), (1, .int x1), (2, .int x2), (3, .int x3)] [] M := by
  unfold wX4_boundTo_25 at h
  obtain ⟨v1, ev1⟩ : ∃ z : Int32, z = x3 + 1 := ⟨_, rfl⟩
  replace h := h v1 ev1
  refine x_iinc C 3 (v1 := v1) (L' := [(3, .int v1), (0, .ref (ga g o)), (1, .int x1), (2, .int x2)]) rfl (by rw [ev1]; rfl) rfl (Nat.le_of_ble_eq_true rfl) dX4_boundTo_25 ?_
  refine x_goto C (tgt := 4) dX4_boundTo_28 (by decide) ?_
  refine x_loc (L' := [(0, .ref (ga g o)), (1, .int x1), (2, .int x2), (3, .int v1)]) [1, 2, 3, 0] rfl ?_
  exact hK4 _ _ _ _  h
set_option maxHeartbeats 4000000 in
set_option maxRecDepth 100000 in
theorem tX4_boundTo_4 {g : xG} (hg : x_inj (WC g))  {x : xCx} {o : Nat}  {post : Int32 → xMem → Prop} (C : xOk (WC g) x cX4_boundTo RX4 4 (some .int) (rm_X4_boundTo) (pI post)) (ho : kC o = 4)  : ∀ (n : Nat) (x1 : Int32) (x2 : Int32) (x3 : Int32) (M : xMem), wX4_boundTo_4 o post n x1 x2 x3 M → xW (WC g) x 4 4 [(0, .ref (ga g o)), (1, .int x1), (2, .int x2), (3, .int x3)] [] M := by
  intro n
  induction n with
  | zero =>
    intro x1 x2 x3 M  h
    exact h.elim
  | succ n ih =>
    intro x1 x2 x3 M  h
    rw [wX4_boundTo_4] at h
    refine x_iload_n C 3 rfl rfl dX4_boundTo_4 ?_
    refine x_bipush C (v1 := 10) dX4_boundTo_5 (by decide) ?_
    refine x_icmp_ge C (tgt := 31) dX4_boundTo_7 (by decide) (fun hq1 => ?_) (fun hq1 => ?_)
    · replace h := x_ift hq1 h
      refine x_iload_n C 2 rfl rfl dX4_boundTo_31 ?_
      exact x_iret C dX4_boundTo_32 ⟨_, rfl, h⟩
    · replace h := x_iff hq1 h
      refine x_aload_n C 0 rfl rfl dX4_boundTo_10 ?_
      refine x_iload_n C 3 rfl rfl dX4_boundTo_11 ?_
      refine x_iload_n C 1 rfl rfl dX4_boundTo_12 ?_
      refine x_callV C (st := []) (As := [.int x3, .int x1]) (c := o) (ci := 4) (enC_4 (c := o) ho) (kC_lt ho (by decide)) rfl (tX4_isBound hg _ _ _ _ _ _ ho h) wm_X4_65 wi_X4_isBound wv_X4_isBound wz_X4 wc_X4_isBound rfl yd_X4_isBound rfl ⟨rfl, rfl⟩ ⟨Nat.le_of_ble_eq_true rfl, Nat.le_of_ble_eq_true rfl⟩ (Nat.le_of_ble_eq_true rfl) rfl dX4_boundTo_13 (x_ki (fun r3 M2 h => ?_))
      refine x_if_eq C (tgt := 25) dX4_boundTo_16 (by decide) (fun hq4 => ?_) (fun hq4 => ?_)
      · replace h := x_ift hq4 h
        exact tX4_boundTo_25 hg  C ho ih _ _ _ _  h
      · replace h := x_iff hq4 h
        refine x_iload_n C 2 rfl rfl dX4_boundTo_19 ?_
        refine x_iconst C (v1 := 1) dX4_boundTo_20 (by decide) ?_
        refine x_iload_n C 3 rfl rfl dX4_boundTo_21 ?_
        refine x_ishl C dX4_boundTo_22 ?_
        refine x_ior C dX4_boundTo_23 ?_
        refine x_nm (fun v5 ev5 => ?_)
        replace h := h v5 ev5
        refine x_istore_n C (L' := [(2, .int v5), (0, .ref (ga g o)), (1, .int x1), (3, .int x3)]) rfl rfl (Nat.le_of_ble_eq_true rfl) dX4_boundTo_24 ?_
        refine x_loc (L' := [(0, .ref (ga g o)), (1, .int x1), (2, .int v5), (3, .int x3)]) [1, 2, 0, 3] rfl ?_
        exact tX4_boundTo_25 hg  C ho ih _ _ _ _  h
set_option maxHeartbeats 4000000 in
set_option maxRecDepth 100000 in
theorem tX4_boundTo {g : xG} (hg : x_inj (WC g))  (l : Launch) (o : Nat) (a0 : Int32) (M : xMem) (post : Int32 → xMem → Prop) (ho : kC o = 4) (h : wX4_boundTo o a0 M post) : xMet (WC g) l yX4_boundTo cX4_boundTo 4 (some .int) (rm_X4_boundTo) [.ref (ga g o), .int a0] M (pI post) := by
  refine x_enter (own := RX4) (L0 := [(0, .ref (ga g o)), (1, .int a0)]) (by decide +kernel) rfl hg (x_stC g) (Nat.le_of_ble_eq_true rfl) rfl (fun x hl C => ?_)
  unfold wX4_boundTo at h
  refine x_iconst C (v1 := 0) dX4_boundTo_0 (by decide) ?_
  refine x_istore_n C (L' := [(2, .int 0), (0, .ref (ga g o)), (1, .int a0)]) rfl rfl (Nat.le_of_ble_eq_true rfl) dX4_boundTo_1 ?_
  refine x_iconst C (v1 := 0) dX4_boundTo_2 (by decide) ?_
  refine x_istore_n C (L' := [(3, .int 0), (2, .int 0), (0, .ref (ga g o)), (1, .int a0)]) rfl rfl (Nat.le_of_ble_eq_true rfl) dX4_boundTo_3 ?_
  refine x_loc (L' := [(0, .ref (ga g o)), (1, .int a0), (2, .int 0), (3, .int 0)]) [2, 3, 1, 0] rfl ?_
  obtain ⟨n4, h⟩ := h
  exact tX4_boundTo_4 hg  C ho  _ _ _ _ _  h
set_option maxHeartbeats 4000000 in
set_option maxRecDepth 100000 in
theorem tX11_tellerIs {g : xG} (hg : x_inj (WC g))  (l : Launch) (a0 : Int32) (a1 : Int32) (M : xMem) (post : Int32 → xMem → Prop)  (h : wX11_tellerIs a0 a1 M post) : xMet (WC g) l yX11_tellerIs cX11_tellerIs 3 (some .int) (rm_X11_tellerIs) [.ref (ga g 0), .int a0, .int a1] M (pI post) := by
  refine x_enter (own := RX11) (L0 := [(0, .ref (ga g 0)), (1, .int a0), (2, .int a1)]) (by decide +kernel) rfl hg (x_stC g) (Nat.le_of_ble_eq_true rfl) rfl (fun x hl C => ?_)
  unfold wX11_tellerIs at h
  refine x_iload_n C 1 rfl rfl dX11_tellerIs_0 ?_
  refine x_iconst C (v1 := 0) dX11_tellerIs_1 (by decide) ?_
  refine x_iconst C (v1 := 3) dX11_tellerIs_2 (by decide) ?_
  refine x_callS C (st := []) (As := [.int a0, .int 0, .int 3]) (tX11_isWithin hg _ _ _ _ _ _  h) wm_X11_145 wsm_X11_isWithin wz_X11 wc_X11_isWithin yd_X11_isWithin rfl ⟨rfl, rfl⟩ ⟨Nat.le_of_ble_eq_true rfl, Nat.le_of_ble_eq_true rfl⟩ (Nat.le_of_ble_eq_true rfl) rfl dX11_tellerIs_3 (x_ki (fun r2 M1 h => ?_))
  refine x_if_eq C (tgt := 23) dX11_tellerIs_6 (by decide) (fun hq3 => ?_) (fun hq3 => ?_)
  · replace h := x_ift hq3 h
    refine x_iconst C (v1 := (-1)) dX11_tellerIs_23 (by decide) ?_
    exact x_iret C dX11_tellerIs_24 ⟨_, rfl, h⟩
  · replace h := x_iff hq3 h
    refine x_aload_n C 0 rfl rfl dX11_tellerIs_9 ?_
    refine x_get C (c := 0) (ci := 11) (k1 := 8) (v1 := .ref (ga g 49)) (enC_11 (c := 0) rfl) (Nat.le_of_ble_eq_true rfl) rfl inX11 (by decide) wf_X11_57 rfl dX11_tellerIs_10 ?_
    refine x_getN C (c := 49) (ci := 4) (k1 := 0) (v1 := .int (gi M1 49 0)) (enC_4 (c := 49) rfl) (Nat.le_of_ble_eq_true rfl) rfl inX4 (by decide) wfn_X11_161 rfl dX11_tellerIs_13 ?_
    refine x_iload_n C 1 rfl rfl dX11_tellerIs_16 ?_
    refine x_callS C (st := []) (As := [.int (gi M1 49 0), .int a0]) (tX11_has hg _ _ _ _ _  h) wm_X11_164 wsm_X11_has wz_X11 wc_X11_has yd_X11_has rfl ⟨rfl, rfl⟩ ⟨Nat.le_of_ble_eq_true rfl, Nat.le_of_ble_eq_true rfl⟩ (Nat.le_of_ble_eq_true rfl) rfl dX11_tellerIs_17 (x_ki (fun r5 M4 h => ?_))
    refine x_if_ne C (tgt := 25) dX11_tellerIs_20 (by decide) (fun hq6 => ?_) (fun hq6 => ?_)
    · replace h := x_iff hq6 h
      refine x_iload_n C 2 rfl rfl dX11_tellerIs_25 ?_
      by_cases hq7 : a1 = 0
      · replace h := x_ift hq7 h
        refine x_tabIn C hq7 (tgt := 64) dX11_tellerIs_26 (by decide) (by decide) rfl (by decide) ?_
        refine x_aload_n C 0 rfl rfl dX11_tellerIs_64 ?_
        refine x_get C (c := 0) (ci := 11) (k1 := 8) (v1 := .ref (ga g 49)) (enC_11 (c := 0) rfl) (Nat.le_of_ble_eq_true rfl) rfl inX11 (by decide) wf_X11_57 rfl dX11_tellerIs_65 ?_
        refine x_getN C (c := 49) (ci := 4) (k1 := 1) (v1 := .ref (ga g 50)) (enC_4 (c := 49) rfl) (Nat.le_of_ble_eq_true rfl) rfl inX4 (by decide) wfn_X11_233 rfl dX11_tellerIs_68 ?_
        refine x_iload_n C 1 rfl rfl dX11_tellerIs_71 ?_
        obtain ⟨hi8, h⟩ := h
        refine x_iald C 0 (c := 50) (enC_20n (c := 50) (n := 4) rfl rfl) (Nat.le_of_ble_eq_true rfl) rfl hi8 dX11_tellerIs_72 ?_
        exact x_iret C dX11_tellerIs_73 ⟨_, rfl, h⟩
      · replace h := x_iff hq7 h
        by_cases hq9 : a1 = 1
        · replace h := x_ift hq9 h
          refine x_tabIn C hq9 (tgt := 74) dX11_tellerIs_26 (by decide) (by decide) rfl (by decide) ?_
          refine x_aload_n C 0 rfl rfl dX11_tellerIs_74 ?_
          refine x_get C (c := 0) (ci := 11) (k1 := 8) (v1 := .ref (ga g 49)) (enC_11 (c := 0) rfl) (Nat.le_of_ble_eq_true rfl) rfl inX11 (by decide) wf_X11_57 rfl dX11_tellerIs_75 ?_
          refine x_getN C (c := 49) (ci := 4) (k1 := 2) (v1 := .ref (ga g 51)) (enC_4 (c := 49) rfl) (Nat.le_of_ble_eq_true rfl) rfl inX4 (by decide) wfn_X11_236 rfl dX11_tellerIs_78 ?_
          refine x_iload_n C 1 rfl rfl dX11_tellerIs_81 ?_
          obtain ⟨hi10, h⟩ := h
          refine x_iald C 0 (c := 51) (enC_20n (c := 51) (n := 4) rfl rfl) (Nat.le_of_ble_eq_true rfl) rfl hi10 dX11_tellerIs_82 ?_
          exact x_iret C dX11_tellerIs_83 ⟨_, rfl, h⟩
        · replace h := x_iff hq9 h
          by_cases hq11 : a1 = 2
          · replace h := x_ift hq11 h
            refine x_tabIn C hq11 (tgt := 84) dX11_tellerIs_26 (by decide) (by decide) rfl (by decide) ?_
            refine x_aload_n C 0 rfl rfl dX11_tellerIs_84 ?_
            refine x_get C (c := 0) (ci := 11) (k1 := 8) (v1 := .ref (ga g 49)) (enC_11 (c := 0) rfl) (Nat.le_of_ble_eq_true rfl) rfl inX11 (by decide) wf_X11_57 rfl dX11_tellerIs_85 ?_
            refine x_getN C (c := 49) (ci := 4) (k1 := 3) (v1 := .ref (ga g 52)) (enC_4 (c := 49) rfl) (Nat.le_of_ble_eq_true rfl) rfl inX4 (by decide) wfn_X11_239 rfl dX11_tellerIs_88 ?_
            refine x_iload_n C 1 rfl rfl dX11_tellerIs_91 ?_
            obtain ⟨hi12, h⟩ := h
            refine x_iald C 0 (c := 52) (enC_20n (c := 52) (n := 4) rfl rfl) (Nat.le_of_ble_eq_true rfl) rfl hi12 dX11_tellerIs_92 ?_
            exact x_iret C dX11_tellerIs_93 ⟨_, rfl, h⟩
          · replace h := x_iff hq11 h
            by_cases hq13 : a1 = 3
            · replace h := x_ift hq13 h
              refine x_tabIn C hq13 (tgt := 94) dX11_tellerIs_26 (by decide) (by decide) rfl (by decide) ?_
              refine x_aload_n C 0 rfl rfl dX11_tellerIs_94 ?_
              refine x_get C (c := 0) (ci := 11) (k1 := 8) (v1 := .ref (ga g 49)) (enC_11 (c := 0) rfl) (Nat.le_of_ble_eq_true rfl) rfl inX11 (by decide) wf_X11_57 rfl dX11_tellerIs_95 ?_
              refine x_getN C (c := 49) (ci := 4) (k1 := 4) (v1 := .ref (ga g 53)) (enC_4 (c := 49) rfl) (Nat.le_of_ble_eq_true rfl) rfl inX4 (by decide) wfn_X11_242 rfl dX11_tellerIs_98 ?_
              refine x_iload_n C 1 rfl rfl dX11_tellerIs_101 ?_
              obtain ⟨hi14, h⟩ := h
              refine x_iald C 0 (c := 53) (enC_20n (c := 53) (n := 4) rfl rfl) (Nat.le_of_ble_eq_true rfl) rfl hi14 dX11_tellerIs_102 ?_
              exact x_iret C dX11_tellerIs_103 ⟨_, rfl, h⟩
            · replace h := x_iff hq13 h
              by_cases hq15 : a1 = 4
              · replace h := x_ift hq15 h
                refine x_tabIn C hq15 (tgt := 104) dX11_tellerIs_26 (by decide) (by decide) rfl (by decide) ?_
                refine x_aload_n C 0 rfl rfl dX11_tellerIs_104 ?_
                refine x_get C (c := 0) (ci := 11) (k1 := 8) (v1 := .ref (ga g 49)) (enC_11 (c := 0) rfl) (Nat.le_of_ble_eq_true rfl) rfl inX11 (by decide) wf_X11_57 rfl dX11_tellerIs_105 ?_
                refine x_iload_n C 1 rfl rfl dX11_tellerIs_108 ?_
                refine x_callVN C (st := []) (As := [.int a0]) (c := 49) (ci := 4) (enC_4 (c := 49) rfl) (Nat.le_of_ble_eq_true rfl) rfl (tX4_boundTo hg _ _ _ _ _ rfl h) wmn_X11_245 wi_X4_boundTo wv_X4_boundTo wz_X4 wc_X4_boundTo yd_X4_boundTo rfl ⟨rfl, rfl⟩ ⟨Nat.le_of_ble_eq_true rfl, Nat.le_of_ble_eq_true rfl⟩ (Nat.le_of_ble_eq_true rfl) rfl dX11_tellerIs_109 (x_ki (fun r17 M16 h => ?_))
                exact x_iret C dX11_tellerIs_112 ⟨_, rfl, h⟩
              · replace h := x_iff hq15 h
                by_cases hq18 : a1 = 5
                · replace h := x_ift hq18 h
                  refine x_tabIn C hq18 (tgt := 113) dX11_tellerIs_26 (by decide) (by decide) rfl (by decide) ?_
                  refine x_aload_n C 0 rfl rfl dX11_tellerIs_113 ?_
                  refine x_get C (c := 0) (ci := 11) (k1 := 12) (v1 := .ref (ga g 76)) (enC_11 (c := 0) rfl) (Nat.le_of_ble_eq_true rfl) rfl inX11 (by decide) wf_X11_76 rfl dX11_tellerIs_114 ?_
                  refine x_aload_n C 0 rfl rfl dX11_tellerIs_117 ?_
                  refine x_get C (c := 0) (ci := 11) (k1 := 8) (v1 := .ref (ga g 49)) (enC_11 (c := 0) rfl) (Nat.le_of_ble_eq_true rfl) rfl inX11 (by decide) wf_X11_57 rfl dX11_tellerIs_118 ?_
                  refine x_aload_n C 0 rfl rfl dX11_tellerIs_121 ?_
                  refine x_get C (c := 0) (ci := 11) (k1 := 4) (v1 := .ref (ga g 18)) (enC_11 (c := 0) rfl) (Nat.le_of_ble_eq_true rfl) rfl inX11 (by decide) wf_X11_33 rfl dX11_tellerIs_122 ?_
                  refine x_iconst C (v1 := 0) dX11_tellerIs_125 (by decide) ?_
                  refine x_iload_n C 1 rfl rfl dX11_tellerIs_126 ?_
                  refine x_callVN C (st := []) (As := [.ref (ga g 49), .ref (ga g 18), .int 0, .int a0]) (c := 76) (ci := 0) (enC_0 (c := 76) rfl) (Nat.le_of_ble_eq_true rfl) rfl (tX0_ofTeller hg _ _ _ _ _ _ _ rfl rfl h) wmn_X11_248 wi_X0_ofTeller wv_X0_ofTeller wz_X0 wc_X0_ofTeller yd_X0_ofTeller rfl ⟨rfl, rfl⟩ ⟨Nat.le_of_ble_eq_true rfl, Nat.le_of_ble_eq_true rfl⟩ (Nat.le_of_ble_eq_true rfl) rfl dX11_tellerIs_127 (x_ki (fun r20 M19 h => ?_))
                  exact x_iret C dX11_tellerIs_130 ⟨_, rfl, h⟩
                · replace h := x_iff hq18 h
                  refine x_tabOut C (tgt := 131) dX11_tellerIs_26 (by have t0 := x_i32ne hq7; have u0 : (0 : Int32).toInt = 0 := (by decide); have t1 := x_i32ne hq9; have u1 : (1 : Int32).toInt = 1 := (by decide); have t2 := x_i32ne hq11; have u2 : (2 : Int32).toInt = 2 := (by decide); have t3 := x_i32ne hq13; have u3 : (3 : Int32).toInt = 3 := (by decide); have t4 := x_i32ne hq15; have u4 : (4 : Int32).toInt = 4 := (by decide); have t5 := x_i32ne hq18; have u5 : (5 : Int32).toInt = 5 := (by decide); omega) (by decide) ?_
                  refine x_iconst C (v1 := (-1)) dX11_tellerIs_131 (by decide) ?_
                  exact x_iret C dX11_tellerIs_132 ⟨_, rfl, h⟩
    · replace h := x_ift hq6 h
      refine x_iconst C (v1 := (-1)) dX11_tellerIs_23 (by decide) ?_
      exact x_iret C dX11_tellerIs_24 ⟨_, rfl, h⟩
set_option maxHeartbeats 4000000 in
set_option maxRecDepth 100000 in
theorem tX11_listenerIs {g : xG} (hg : x_inj (WC g))  (l : Launch) (a0 : Int32) (a1 : Int32) (M : xMem) (post : Int32 → xMem → Prop)  (h : wX11_listenerIs a0 a1 M post) : xMet (WC g) l yX11_listenerIs cX11_listenerIs 3 (some .int) (rm_X11_listenerIs) [.ref (ga g 0), .int a0, .int a1] M (pI post) := by
  refine x_enter (own := RX11) (L0 := [(0, .ref (ga g 0)), (1, .int a0), (2, .int a1)]) (by decide +kernel) rfl hg (x_stC g) (Nat.le_of_ble_eq_true rfl) rfl (fun x hl C => ?_)
  unfold wX11_listenerIs at h
  refine x_iload_n C 1 rfl rfl dX11_listenerIs_0 ?_
  refine x_iconst C (v1 := 0) dX11_listenerIs_1 (by decide) ?_
  refine x_bipush C (v1 := 9) dX11_listenerIs_2 (by decide) ?_
  refine x_callS C (st := []) (As := [.int a0, .int 0, .int 9]) (tX11_isWithin hg _ _ _ _ _ _  h) wm_X11_145 wsm_X11_isWithin wz_X11 wc_X11_isWithin yd_X11_isWithin rfl ⟨rfl, rfl⟩ ⟨Nat.le_of_ble_eq_true rfl, Nat.le_of_ble_eq_true rfl⟩ (Nat.le_of_ble_eq_true rfl) rfl dX11_listenerIs_4 (x_ki (fun r2 M1 h => ?_))
  refine x_if_eq C (tgt := 24) dX11_listenerIs_7 (by decide) (fun hq3 => ?_) (fun hq3 => ?_)
  · replace h := x_ift hq3 h
    refine x_iconst C (v1 := (-1)) dX11_listenerIs_24 (by decide) ?_
    exact x_iret C dX11_listenerIs_25 ⟨_, rfl, h⟩
  · replace h := x_iff hq3 h
    refine x_aload_n C 0 rfl rfl dX11_listenerIs_10 ?_
    refine x_get C (c := 0) (ci := 11) (k1 := 8) (v1 := .ref (ga g 49)) (enC_11 (c := 0) rfl) (Nat.le_of_ble_eq_true rfl) rfl inX11 (by decide) wf_X11_57 rfl dX11_listenerIs_11 ?_
    refine x_getN C (c := 49) (ci := 4) (k1 := 5) (v1 := .int (gi M1 49 5)) (enC_4 (c := 49) rfl) (Nat.le_of_ble_eq_true rfl) rfl inX4 (by decide) wfn_X11_251 rfl dX11_listenerIs_14 ?_
    refine x_iload_n C 1 rfl rfl dX11_listenerIs_17 ?_
    refine x_callS C (st := []) (As := [.int (gi M1 49 5), .int a0]) (tX11_has hg _ _ _ _ _  h) wm_X11_164 wsm_X11_has wz_X11 wc_X11_has yd_X11_has rfl ⟨rfl, rfl⟩ ⟨Nat.le_of_ble_eq_true rfl, Nat.le_of_ble_eq_true rfl⟩ (Nat.le_of_ble_eq_true rfl) rfl dX11_listenerIs_18 (x_ki (fun r5 M4 h => ?_))
    refine x_if_ne C (tgt := 26) dX11_listenerIs_21 (by decide) (fun hq6 => ?_) (fun hq6 => ?_)
    · replace h := x_iff hq6 h
      refine x_iload_n C 2 rfl rfl dX11_listenerIs_26 ?_
      by_cases hq7 : a1 = 0
      · replace h := x_ift hq7 h
        refine x_tabIn C hq7 (tgt := 52) dX11_listenerIs_27 (by decide) (by decide) rfl (by decide) ?_
        refine x_aload_n C 0 rfl rfl dX11_listenerIs_52 ?_
        refine x_get C (c := 0) (ci := 11) (k1 := 8) (v1 := .ref (ga g 49)) (enC_11 (c := 0) rfl) (Nat.le_of_ble_eq_true rfl) rfl inX11 (by decide) wf_X11_57 rfl dX11_listenerIs_53 ?_
        refine x_getN C (c := 49) (ci := 4) (k1 := 6) (v1 := .ref (ga g 54)) (enC_4 (c := 49) rfl) (Nat.le_of_ble_eq_true rfl) rfl inX4 (by decide) wfn_X11_254 rfl dX11_listenerIs_56 ?_
        refine x_iload_n C 1 rfl rfl dX11_listenerIs_59 ?_
        obtain ⟨hi8, h⟩ := h
        refine x_iald C 0 (c := 54) (enC_20n (c := 54) (n := 10) rfl rfl) (Nat.le_of_ble_eq_true rfl) rfl hi8 dX11_listenerIs_60 ?_
        exact x_iret C dX11_listenerIs_61 ⟨_, rfl, h⟩
      · replace h := x_iff hq7 h
        by_cases hq9 : a1 = 1
        · replace h := x_ift hq9 h
          refine x_tabIn C hq9 (tgt := 62) dX11_listenerIs_27 (by decide) (by decide) rfl (by decide) ?_
          refine x_aload_n C 0 rfl rfl dX11_listenerIs_62 ?_
          refine x_get C (c := 0) (ci := 11) (k1 := 8) (v1 := .ref (ga g 49)) (enC_11 (c := 0) rfl) (Nat.le_of_ble_eq_true rfl) rfl inX11 (by decide) wf_X11_57 rfl dX11_listenerIs_63 ?_
          refine x_getN C (c := 49) (ci := 4) (k1 := 7) (v1 := .ref (ga g 55)) (enC_4 (c := 49) rfl) (Nat.le_of_ble_eq_true rfl) rfl inX4 (by decide) wfn_X11_257 rfl dX11_listenerIs_66 ?_
          refine x_iload_n C 1 rfl rfl dX11_listenerIs_69 ?_
          obtain ⟨hi10, h⟩ := h
          refine x_iald C 0 (c := 55) (enC_20n (c := 55) (n := 10) rfl rfl) (Nat.le_of_ble_eq_true rfl) rfl hi10 dX11_listenerIs_70 ?_
          exact x_iret C dX11_listenerIs_71 ⟨_, rfl, h⟩
        · replace h := x_iff hq9 h
          by_cases hq11 : a1 = 2
          · replace h := x_ift hq11 h
            refine x_tabIn C hq11 (tgt := 72) dX11_listenerIs_27 (by decide) (by decide) rfl (by decide) ?_
            refine x_aload_n C 0 rfl rfl dX11_listenerIs_72 ?_
            refine x_get C (c := 0) (ci := 11) (k1 := 8) (v1 := .ref (ga g 49)) (enC_11 (c := 0) rfl) (Nat.le_of_ble_eq_true rfl) rfl inX11 (by decide) wf_X11_57 rfl dX11_listenerIs_73 ?_
            refine x_getN C (c := 49) (ci := 4) (k1 := 8) (v1 := .ref (ga g 56)) (enC_4 (c := 49) rfl) (Nat.le_of_ble_eq_true rfl) rfl inX4 (by decide) wfn_X11_260 rfl dX11_listenerIs_76 ?_
            refine x_iload_n C 1 rfl rfl dX11_listenerIs_79 ?_
            obtain ⟨hi12, h⟩ := h
            refine x_iald C 0 (c := 56) (enC_20n (c := 56) (n := 10) rfl rfl) (Nat.le_of_ble_eq_true rfl) rfl hi12 dX11_listenerIs_80 ?_
            exact x_iret C dX11_listenerIs_81 ⟨_, rfl, h⟩
          · replace h := x_iff hq11 h
            refine x_tabOut C (tgt := 82) dX11_listenerIs_27 (by have t0 := x_i32ne hq7; have u0 : (0 : Int32).toInt = 0 := (by decide); have t1 := x_i32ne hq9; have u1 : (1 : Int32).toInt = 1 := (by decide); have t2 := x_i32ne hq11; have u2 : (2 : Int32).toInt = 2 := (by decide); omega) (by decide) ?_
            refine x_iconst C (v1 := (-1)) dX11_listenerIs_82 (by decide) ?_
            exact x_iret C dX11_listenerIs_83 ⟨_, rfl, h⟩
    · replace h := x_ift hq6 h
      refine x_iconst C (v1 := (-1)) dX11_listenerIs_24 (by decide) ?_
      exact x_iret C dX11_listenerIs_25 ⟨_, rfl, h⟩
set_option maxHeartbeats 4000000 in
set_option maxRecDepth 100000 in
theorem tX11_cheapest {g : xG} (hg : x_inj (WC g))  (l : Launch) (a0 : Int32) (a1 : Int32) (M : xMem) (post : Int32 → xMem → Prop)  (h : wX11_cheapest a0 a1 M post) : xMet (WC g) l yX11_cheapest cX11_cheapest 3 (some .int) (rm_X11_cheapest) [.ref (ga g 0), .int a0, .int a1] M (pI post) := by
  refine x_enter (own := RX11) (L0 := [(0, .ref (ga g 0)), (1, .int a0), (2, .int a1)]) (by decide +kernel) rfl hg (x_stC g) (Nat.le_of_ble_eq_true rfl) rfl (fun x hl C => ?_)
  unfold wX11_cheapest at h
  refine x_iload_n C 1 rfl rfl dX11_cheapest_0 ?_
  refine x_iconst C (v1 := 1) dX11_cheapest_1 (by decide) ?_
  refine x_sipush C (v1 := 1023) dX11_cheapest_2 (by decide) ?_
  refine x_callS C (st := []) (As := [.int a0, .int 1, .int 1023]) (tX11_isWithin hg _ _ _ _ _ _  h) wm_X11_145 wsm_X11_isWithin wz_X11 wc_X11_isWithin yd_X11_isWithin rfl ⟨rfl, rfl⟩ ⟨Nat.le_of_ble_eq_true rfl, Nat.le_of_ble_eq_true rfl⟩ (Nat.le_of_ble_eq_true rfl) rfl dX11_cheapest_5 (x_ki (fun r2 M1 h => ?_))
  refine x_if_eq C (tgt := 20) dX11_cheapest_8 (by decide) (fun hq3 => ?_) (fun hq3 => ?_)
  · replace h := x_ift hq3 h
    refine x_iconst C (v1 := (-1)) dX11_cheapest_20 (by decide) ?_
    exact x_iret C dX11_cheapest_21 ⟨_, rfl, h⟩
  · replace h := x_iff hq3 h
    refine x_iload_n C 2 rfl rfl dX11_cheapest_11 ?_
    refine x_iconst C (v1 := 0) dX11_cheapest_12 (by decide) ?_
    refine x_iconst C (v1 := 1) dX11_cheapest_13 (by decide) ?_
    refine x_callS C (st := []) (As := [.int a1, .int 0, .int 1]) (tX11_isWithin hg _ _ _ _ _ _  h) wm_X11_145 wsm_X11_isWithin wz_X11 wc_X11_isWithin yd_X11_isWithin rfl ⟨rfl, rfl⟩ ⟨Nat.le_of_ble_eq_true rfl, Nat.le_of_ble_eq_true rfl⟩ (Nat.le_of_ble_eq_true rfl) rfl dX11_cheapest_14 (x_ki (fun r5 M4 h => ?_))
    refine x_if_ne C (tgt := 22) dX11_cheapest_17 (by decide) (fun hq6 => ?_) (fun hq6 => ?_)
    · replace h := x_iff hq6 h
      refine x_aload_n C 0 rfl rfl dX11_cheapest_22 ?_
      refine x_get C (c := 0) (ci := 11) (k1 := 7) (v1 := .ref (ga g 41)) (enC_11 (c := 0) rfl) (Nat.le_of_ble_eq_true rfl) rfl inX11 (by decide) wf_X11_50 rfl dX11_cheapest_23 ?_
      refine x_iload_n C 1 rfl rfl dX11_cheapest_26 ?_
      refine x_aload_n C 0 rfl rfl dX11_cheapest_27 ?_
      refine x_get C (c := 0) (ci := 11) (k1 := 8) (v1 := .ref (ga g 49)) (enC_11 (c := 0) rfl) (Nat.le_of_ble_eq_true rfl) rfl inX11 (by decide) wf_X11_57 rfl dX11_cheapest_28 ?_
      refine x_aload_n C 0 rfl rfl dX11_cheapest_31 ?_
      refine x_get C (c := 0) (ci := 11) (k1 := 4) (v1 := .ref (ga g 18)) (enC_11 (c := 0) rfl) (Nat.le_of_ble_eq_true rfl) rfl inX11 (by decide) wf_X11_33 rfl dX11_cheapest_32 ?_
      refine x_aload_n C 0 rfl rfl dX11_cheapest_35 ?_
      refine x_get C (c := 0) (ci := 11) (k1 := 12) (v1 := .ref (ga g 76)) (enC_11 (c := 0) rfl) (Nat.le_of_ble_eq_true rfl) rfl inX11 (by decide) wf_X11_76 rfl dX11_cheapest_36 ?_
      refine x_callVN C (st := []) (As := [.int a0, .ref (ga g 49), .ref (ga g 18), .ref (ga g 76)]) (c := 41) (ci := 2) (enC_2 (c := 41) rfl) (Nat.le_of_ble_eq_true rfl) rfl (tX2_chooseFor hg _ _ _ _ _ _ rfl rfl h) wmn_X11_263 wi_X2_chooseFor wv_X2_chooseFor wz_X2 wc_X2_chooseFor yd_X2_chooseFor rfl ⟨rfl, rfl⟩ ⟨Nat.le_of_ble_eq_true rfl, Nat.le_of_ble_eq_true rfl⟩ (Nat.le_of_ble_eq_true rfl) rfl dX11_cheapest_39 (x_ki (fun r8 M7 h => ?_))
      refine x_if_ne C (tgt := 48) dX11_cheapest_42 (by decide) (fun hq9 => ?_) (fun hq9 => ?_)
      · replace h := x_iff hq9 h
        refine x_iload_n C 2 rfl rfl dX11_cheapest_48 ?_
        refine x_if_ne C (tgt := 62) dX11_cheapest_49 (by decide) (fun hq10 => ?_) (fun hq10 => ?_)
        · replace h := x_iff hq10 h
          refine x_aload_n C 0 rfl rfl dX11_cheapest_62 ?_
          refine x_get C (c := 0) (ci := 11) (k1 := 7) (v1 := .ref (ga g 41)) (enC_11 (c := 0) rfl) (Nat.le_of_ble_eq_true rfl) rfl inX11 (by decide) wf_X11_50 rfl dX11_cheapest_63 ?_
          refine x_getN C (c := 41) (ci := 2) (k1 := 8) (v1 := .int (gi M7 41 8)) (enC_2 (c := 41) rfl) (Nat.le_of_ble_eq_true rfl) rfl inX2 (by decide) wfn_X11_270 rfl dX11_cheapest_66 ?_
          exact x_iret C dX11_cheapest_69 ⟨_, rfl, h⟩
        · replace h := x_ift hq10 h
          refine x_aload_n C 0 rfl rfl dX11_cheapest_52 ?_
          refine x_get C (c := 0) (ci := 11) (k1 := 7) (v1 := .ref (ga g 41)) (enC_11 (c := 0) rfl) (Nat.le_of_ble_eq_true rfl) rfl inX11 (by decide) wf_X11_50 rfl dX11_cheapest_53 ?_
          refine x_getN C (c := 41) (ci := 2) (k1 := 9) (v1 := .int (gi M7 41 9)) (enC_2 (c := 41) rfl) (Nat.le_of_ble_eq_true rfl) rfl inX2 (by decide) wfn_X11_267 rfl dX11_cheapest_56 ?_
          refine x_goto C (tgt := 69) dX11_cheapest_59 (by decide) ?_
          exact x_iret C dX11_cheapest_69 ⟨_, rfl, h⟩
      · replace h := x_ift hq9 h
        refine x_bipush C (v1 := (-2)) dX11_cheapest_45 (by decide) ?_
        exact x_iret C dX11_cheapest_47 ⟨_, rfl, h⟩
    · replace h := x_ift hq6 h
      refine x_iconst C (v1 := (-1)) dX11_cheapest_20 (by decide) ?_
      exact x_iret C dX11_cheapest_21 ⟨_, rfl, h⟩
set_option maxHeartbeats 4000000 in
set_option maxRecDepth 100000 in
theorem tX11_buys {g : xG} (hg : x_inj (WC g))  (l : Launch) (a0 : Int32) (a1 : Int32) (M : xMem) (post : Int32 → xMem → Prop)  (h : wX11_buys a0 a1 M post) : xMet (WC g) l yX11_buys cX11_buys 4 (some .int) (rm_X11_buys) [.ref (ga g 0), .int a0, .int a1] M (pI post) := by
  refine x_enter (own := RX11) (L0 := [(0, .ref (ga g 0)), (1, .int a0), (2, .int a1)]) (by decide +kernel) rfl hg (x_stC g) (Nat.le_of_ble_eq_true rfl) rfl (fun x hl C => ?_)
  unfold wX11_buys at h
  refine x_iload_n C 1 rfl rfl dX11_buys_0 ?_
  refine x_iconst C (v1 := 0) dX11_buys_1 (by decide) ?_
  refine x_iconst C (v1 := 3) dX11_buys_2 (by decide) ?_
  refine x_callS C (st := []) (As := [.int a0, .int 0, .int 3]) (tX11_isWithin hg _ _ _ _ _ _  h) wm_X11_145 wsm_X11_isWithin wz_X11 wc_X11_isWithin yd_X11_isWithin rfl ⟨rfl, rfl⟩ ⟨Nat.le_of_ble_eq_true rfl, Nat.le_of_ble_eq_true rfl⟩ (Nat.le_of_ble_eq_true rfl) rfl dX11_buys_3 (x_ki (fun r2 M1 h => ?_))
  refine x_if_eq C (tgt := 46) dX11_buys_6 (by decide) (fun hq3 => ?_) (fun hq3 => ?_)
  · replace h := x_ift hq3 h
    refine x_iconst C (v1 := (-1)) dX11_buys_46 (by decide) ?_
    exact x_iret C dX11_buys_47 ⟨_, rfl, h⟩
  · replace h := x_iff hq3 h
    refine x_aload_n C 0 rfl rfl dX11_buys_9 ?_
    refine x_get C (c := 0) (ci := 11) (k1 := 8) (v1 := .ref (ga g 49)) (enC_11 (c := 0) rfl) (Nat.le_of_ble_eq_true rfl) rfl inX11 (by decide) wf_X11_57 rfl dX11_buys_10 ?_
    refine x_getN C (c := 49) (ci := 4) (k1 := 0) (v1 := .int (gi M1 49 0)) (enC_4 (c := 49) rfl) (Nat.le_of_ble_eq_true rfl) rfl inX4 (by decide) wfn_X11_161 rfl dX11_buys_13 ?_
    refine x_iload_n C 1 rfl rfl dX11_buys_16 ?_
    refine x_callS C (st := []) (As := [.int (gi M1 49 0), .int a0]) (tX11_has hg _ _ _ _ _  h) wm_X11_164 wsm_X11_has wz_X11 wc_X11_has yd_X11_has rfl ⟨rfl, rfl⟩ ⟨Nat.le_of_ble_eq_true rfl, Nat.le_of_ble_eq_true rfl⟩ (Nat.le_of_ble_eq_true rfl) rfl dX11_buys_17 (x_ki (fun r5 M4 h => ?_))
    refine x_if_eq C (tgt := 46) dX11_buys_20 (by decide) (fun hq6 => ?_) (fun hq6 => ?_)
    · replace h := x_ift hq6 h
      refine x_iconst C (v1 := (-1)) dX11_buys_46 (by decide) ?_
      exact x_iret C dX11_buys_47 ⟨_, rfl, h⟩
    · replace h := x_iff hq6 h
      refine x_aload_n C 0 rfl rfl dX11_buys_23 ?_
      refine x_get C (c := 0) (ci := 11) (k1 := 7) (v1 := .ref (ga g 41)) (enC_11 (c := 0) rfl) (Nat.le_of_ble_eq_true rfl) rfl inX11 (by decide) wf_X11_50 rfl dX11_buys_24 ?_
      refine x_iload_n C 2 rfl rfl dX11_buys_27 ?_
      refine x_callVN C (st := []) (As := [.int a1]) (c := 41) (ci := 2) (enC_2 (c := 41) rfl) (Nat.le_of_ble_eq_true rfl) rfl (tX2_isTold hg _ _ _ _  h) wmn_X11_217 wi_X2_isTold wv_X2_isTold wz_X2 wc_X2_isTold yd_X2_isTold rfl ⟨rfl, rfl⟩ ⟨Nat.le_of_ble_eq_true rfl, Nat.le_of_ble_eq_true rfl⟩ (Nat.le_of_ble_eq_true rfl) rfl dX11_buys_28 (x_ki (fun r8 M7 h => ?_))
      refine x_if_eq C (tgt := 46) dX11_buys_31 (by decide) (fun hq9 => ?_) (fun hq9 => ?_)
      · replace h := x_ift hq9 h
        refine x_iconst C (v1 := (-1)) dX11_buys_46 (by decide) ?_
        exact x_iret C dX11_buys_47 ⟨_, rfl, h⟩
      · replace h := x_iff hq9 h
        refine x_aload_n C 0 rfl rfl dX11_buys_34 ?_
        refine x_get C (c := 0) (ci := 11) (k1 := 8) (v1 := .ref (ga g 49)) (enC_11 (c := 0) rfl) (Nat.le_of_ble_eq_true rfl) rfl inX11 (by decide) wf_X11_57 rfl dX11_buys_35 ?_
        refine x_getN C (c := 49) (ci := 4) (k1 := 9) (v1 := .ref (ga g 57)) (enC_4 (c := 49) rfl) (Nat.le_of_ble_eq_true rfl) rfl inX4 (by decide) wfn_X11_151 rfl dX11_buys_38 ?_
        refine x_iload_n C 2 rfl rfl dX11_buys_41 ?_
        obtain ⟨hi10, h⟩ := h
        refine x_iald C 0 (c := 57) (enC_20n (c := 57) (n := 10) rfl rfl) (Nat.le_of_ble_eq_true rfl) rfl hi10 dX11_buys_42 ?_
        refine x_if_gt C (tgt := 48) dX11_buys_43 (by decide) (fun hq11 => ?_) (fun hq11 => ?_)
        · replace h := x_ift hq11 h
          refine x_aload_n C 0 rfl rfl dX11_buys_48 ?_
          refine x_get C (c := 0) (ci := 11) (k1 := 12) (v1 := .ref (ga g 76)) (enC_11 (c := 0) rfl) (Nat.le_of_ble_eq_true rfl) rfl inX11 (by decide) wf_X11_76 rfl dX11_buys_49 ?_
          refine x_aload_n C 0 rfl rfl dX11_buys_52 ?_
          refine x_get C (c := 0) (ci := 11) (k1 := 8) (v1 := .ref (ga g 49)) (enC_11 (c := 0) rfl) (Nat.le_of_ble_eq_true rfl) rfl inX11 (by decide) wf_X11_57 rfl dX11_buys_53 ?_
          refine x_aload_n C 0 rfl rfl dX11_buys_56 ?_
          refine x_get C (c := 0) (ci := 11) (k1 := 4) (v1 := .ref (ga g 18)) (enC_11 (c := 0) rfl) (Nat.le_of_ble_eq_true rfl) rfl inX11 (by decide) wf_X11_33 rfl dX11_buys_57 ?_
          refine x_iconst C (v1 := 1) dX11_buys_60 (by decide) ?_
          refine x_iload_n C 2 rfl rfl dX11_buys_61 ?_
          refine x_callVN C (st := []) (As := [.ref (ga g 49), .ref (ga g 18), .int 1, .int a1]) (c := 76) (ci := 0) (enC_0 (c := 76) rfl) (Nat.le_of_ble_eq_true rfl) rfl (tX0_ofEnd hg _ _ _ _ _ _ _ rfl rfl h) wmn_X11_229 wi_X0_ofEnd wv_X0_ofEnd wz_X0 wc_X0_ofEnd yd_X0_ofEnd rfl ⟨rfl, rfl⟩ ⟨Nat.le_of_ble_eq_true rfl, Nat.le_of_ble_eq_true rfl⟩ (Nat.le_of_ble_eq_true rfl) rfl dX11_buys_62 (x_ki (fun r13 M12 h => ?_))
          refine x_istore_n C (L' := [(3, .int r13), (0, .ref (ga g 0)), (1, .int a0), (2, .int a1)]) rfl rfl (Nat.le_of_ble_eq_true rfl) dX11_buys_65 ?_
          refine x_aload_n C 1 rfl rfl dX11_buys_66 ?_
          refine x_get C (c := 0) (ci := 11) (k1 := 8) (v1 := .ref (ga g 49)) (enC_11 (c := 0) rfl) (Nat.le_of_ble_eq_true rfl) rfl inX11 (by decide) wf_X11_57 rfl dX11_buys_67 ?_
          refine x_getN C (c := 49) (ci := 4) (k1 := 2) (v1 := .ref (ga g 51)) (enC_4 (c := 49) rfl) (Nat.le_of_ble_eq_true rfl) rfl inX4 (by decide) wfn_X11_236 rfl dX11_buys_70 ?_
          refine x_iload_n C 2 rfl rfl dX11_buys_73 ?_
          obtain ⟨hi14, h⟩ := h
          refine x_iald C 0 (c := 51) (enC_20n (c := 51) (n := 4) rfl rfl) (Nat.le_of_ble_eq_true rfl) rfl hi14 dX11_buys_74 ?_
          refine x_iload_n C 0 rfl rfl dX11_buys_75 ?_
          refine x_icmp_ge C (tgt := 81) dX11_buys_76 (by decide) (fun hq15 => ?_) (fun hq15 => ?_)
          · replace h := x_ift hq15 h
            refine x_aload_n C 1 rfl rfl dX11_buys_81 ?_
            refine x_get C (c := 0) (ci := 11) (k1 := 13) (v1 := .ref (ga g 78)) (enC_11 (c := 0) rfl) (Nat.le_of_ble_eq_true rfl) rfl inX11 (by decide) wf_X11_85 rfl dX11_buys_82 ?_
            refine x_aload_n C 1 rfl rfl dX11_buys_85 ?_
            refine x_get C (c := 0) (ci := 11) (k1 := 8) (v1 := .ref (ga g 49)) (enC_11 (c := 0) rfl) (Nat.le_of_ble_eq_true rfl) rfl inX11 (by decide) wf_X11_57 rfl dX11_buys_86 ?_
            refine x_aload_n C 1 rfl rfl dX11_buys_89 ?_
            refine x_get C (c := 0) (ci := 11) (k1 := 4) (v1 := .ref (ga g 18)) (enC_11 (c := 0) rfl) (Nat.le_of_ble_eq_true rfl) rfl inX11 (by decide) wf_X11_33 rfl dX11_buys_90 ?_
            refine x_callVN C (st := []) (As := [.ref (ga g 49), .ref (ga g 18)]) (c := 78) (ci := 1) (enC_1 (c := 78) rfl) (Nat.le_of_ble_eq_true rfl) rfl (tX1_beginIn hg _ _ _ _ _ rfl rfl h) wmn_X11_273 wi_X1_beginIn wv_X1_beginIn wz_X1 wc_X1_beginIn yd_X1_beginIn rfl ⟨rfl, rfl⟩ ⟨Nat.le_of_ble_eq_true rfl, Nat.le_of_ble_eq_true rfl⟩ (Nat.le_of_ble_eq_true rfl) rfl dX11_buys_93 (x_kv (fun M16 h => ?_))
            refine x_aload_n C 1 rfl rfl dX11_buys_96 ?_
            refine x_get C (c := 0) (ci := 11) (k1 := 13) (v1 := .ref (ga g 78)) (enC_11 (c := 0) rfl) (Nat.le_of_ble_eq_true rfl) rfl inX11 (by decide) wf_X11_85 rfl dX11_buys_97 ?_
            refine x_iload_n C 2 rfl rfl dX11_buys_100 ?_
            refine x_iload_n C 3 rfl rfl dX11_buys_101 ?_
            refine x_iload_n C 0 rfl rfl dX11_buys_102 ?_
            refine x_callVN C (st := []) (As := [.int a0, .int a1, .int r13]) (c := 78) (ci := 1) (enC_1 (c := 78) rfl) (Nat.le_of_ble_eq_true rfl) rfl (tX1_buyOne hg _ _ _ _ _ _  h) wmn_X11_277 wi_X1_buyOne wv_X1_buyOne wz_X1 wc_X1_buyOne yd_X1_buyOne rfl ⟨rfl, rfl⟩ ⟨Nat.le_of_ble_eq_true rfl, Nat.le_of_ble_eq_true rfl⟩ (Nat.le_of_ble_eq_true rfl) rfl dX11_buys_103 (x_ki (fun r18 M17 h => ?_))
            exact x_iret C dX11_buys_106 ⟨_, rfl, h⟩
          · replace h := x_iff hq15 h
            refine x_iconst C (v1 := (-1)) dX11_buys_79 (by decide) ?_
            exact x_iret C dX11_buys_80 ⟨_, rfl, h⟩
        · replace h := x_iff hq11 h
          refine x_iconst C (v1 := (-1)) dX11_buys_46 (by decide) ?_
          exact x_iret C dX11_buys_47 ⟨_, rfl, h⟩
set_option maxHeartbeats 4000000 in
set_option maxRecDepth 100000 in
theorem tX3_markLeftOut {g : xG} (hg : x_inj (WC g))  (l : Launch) (a0 : Int32) (a1 : Int32) (M : xMem) (post : xMem → Prop)  (h : wX3_markLeftOut a0 a1 M post) : xMet (WC g) l yX3_markLeftOut cX3_markLeftOut 3 none (rm_X3_markLeftOut) [.ref (ga g 79), .int a0, .int a1] M (pV post) := by
  refine x_enter (own := RX3) (L0 := [(0, .ref (ga g 79)), (1, .int a0), (2, .int a1)]) (by decide +kernel) rfl hg (x_stC g) (Nat.le_of_ble_eq_true rfl) rfl (fun x hl C => ?_)
  unfold wX3_markLeftOut at h
  refine x_iload_n C 1 rfl rfl dX3_markLeftOut_0 ?_
  refine x_bipush C (v1 := 64) dX3_markLeftOut_1 (by decide) ?_
  refine x_icmp_ge C (tgt := 21) dX3_markLeftOut_3 (by decide) (fun hq1 => ?_) (fun hq1 => ?_)
  · replace h := x_ift hq1 h
    refine x_aload_n C 0 rfl rfl dX3_markLeftOut_21 ?_
    refine x_get C (c := 79) (ci := 3) (k1 := 5) (v1 := .ref (ga g 84)) (enC_3 (c := 79) rfl) (Nat.le_of_ble_eq_true rfl) rfl inX3 (by decide) wf_X3_29 rfl dX3_markLeftOut_22 ?_
    refine x_iload_n C 2 rfl rfl dX3_markLeftOut_25 ?_
    refine x_dup2 C rfl rfl dX3_markLeftOut_26 ?_
    obtain ⟨hi2, h⟩ := h
    refine x_lald C 1 (c := 84) (enC_21n (c := 84) (n := 1024) rfl rfl) (Nat.le_of_ble_eq_true rfl) rfl hi2 dX3_markLeftOut_27 ?_
    refine x_lconst C (v1 := 1) dX3_markLeftOut_28 (by decide) ?_
    refine x_iload_n C 1 rfl rfl dX3_markLeftOut_29 ?_
    refine x_bipush C (v1 := 64) dX3_markLeftOut_30 (by decide) ?_
    refine x_isub C dX3_markLeftOut_32 ?_
    refine x_lshl C dX3_markLeftOut_33 ?_
    refine x_lor C dX3_markLeftOut_34 ?_
    obtain ⟨hi3, h⟩ := h
    refine x_last C 1 (c := 84) (enC_21n (c := 84) (n := 1024) rfl rfl) (Nat.le_of_ble_eq_true rfl) rfl hi3 dX3_markLeftOut_35 ?_
    refine x_nmM (fun M4 eM4 => ?_)
    replace h := h M4 eM4
    exact x_vret C dX3_markLeftOut_36 ⟨rfl, h⟩
  · replace h := x_iff hq1 h
    refine x_aload_n C 0 rfl rfl dX3_markLeftOut_6 ?_
    refine x_get C (c := 79) (ci := 3) (k1 := 4) (v1 := .ref (ga g 83)) (enC_3 (c := 79) rfl) (Nat.le_of_ble_eq_true rfl) rfl inX3 (by decide) wf_X3_25 rfl dX3_markLeftOut_7 ?_
    refine x_iload_n C 2 rfl rfl dX3_markLeftOut_10 ?_
    refine x_dup2 C rfl rfl dX3_markLeftOut_11 ?_
    obtain ⟨hi5, h⟩ := h
    refine x_lald C 1 (c := 83) (enC_21n (c := 83) (n := 1024) rfl rfl) (Nat.le_of_ble_eq_true rfl) rfl hi5 dX3_markLeftOut_12 ?_
    refine x_lconst C (v1 := 1) dX3_markLeftOut_13 (by decide) ?_
    refine x_iload_n C 1 rfl rfl dX3_markLeftOut_14 ?_
    refine x_lshl C dX3_markLeftOut_15 ?_
    refine x_lor C dX3_markLeftOut_16 ?_
    obtain ⟨hi6, h⟩ := h
    refine x_last C 1 (c := 83) (enC_21n (c := 83) (n := 1024) rfl rfl) (Nat.le_of_ble_eq_true rfl) rfl hi6 dX3_markLeftOut_17 ?_
    refine x_nmM (fun M7 eM7 => ?_)
    replace h := h M7 eM7
    refine x_goto C (tgt := 36) dX3_markLeftOut_18 (by decide) ?_
    exact x_vret C dX3_markLeftOut_36 ⟨rfl, h⟩
set_option maxHeartbeats 4000000 in
set_option maxRecDepth 100000 in
theorem tX3_goBack_85 {g : xG} (hg : x_inj (WC g))  {x : xCx}  {K21 : Int32 → Int32 → Nat → Int32 → xMem → Prop} {post : xMem → Prop} (C : xOk (WC g) x cX3_goBack RX3 8 none (rm_X3_goBack) (pV post))  (hK21 : ∀ (x1 : Int32) (x2 : Int32) (c3 : Nat) (x4 : Int32) (M : xMem), kC c3 = 20 → K21 x1 x2 c3 x4 M → xW (WC g) x 8 21 [(0, .ref (ga g 79)), (1, .int x1), (2, .int x2), (3, .ref (ga g c3)), (4, .int x4)] [] M) (x1 : Int32) (x2 : Int32) (c3 : Nat) (x4 : Int32) (M : xMem) (hc3 : kC c3 = 20) (h : wX3_goBack_85 K21 post x1 x2 c3 x4 M) : xW (WC g) x 8 85 [(0, .ref (ga g 79)), (1, .int x1), (2, .int x2), (3, .ref (ga g c3)), (4, .int x4)] [] M := by
  unfold wX3_goBack_85 at h
  obtain ⟨v1, ev1⟩ : ∃ z : Int32, z = x4 + 1 := ⟨_, rfl⟩
  replace h := h v1 ev1
  refine x_iinc C 4 (v1 := v1) (L' := [(4, .int v1), (0, .ref (ga g 79)), (1, .int x1), (2, .int x2), (3, .ref (ga g c3))]) rfl (by rw [ev1]; rfl) rfl (Nat.le_of_ble_eq_true rfl) dX3_goBack_85 ?_
  refine x_goto C (tgt := 21) dX3_goBack_88 (by decide) ?_
  refine x_loc (L' := [(0, .ref (ga g 79)), (1, .int x1), (2, .int x2), (3, .ref (ga g c3)), (4, .int v1)]) [1, 2, 3, 4, 0] rfl ?_
  exact hK21 _ _ _ _ _ hc3 h
set_option maxHeartbeats 4000000 in
set_option maxRecDepth 100000 in
theorem tX3_goBack_21 {g : xG} (hg : x_inj (WC g))  {x : xCx}   {post : xMem → Prop} (C : xOk (WC g) x cX3_goBack RX3 8 none (rm_X3_goBack) (pV post))   : ∀ (n : Nat) (x1 : Int32) (x2 : Int32) (c3 : Nat) (x4 : Int32) (M : xMem), kC c3 = 20 → wX3_goBack_21 post n x1 x2 c3 x4 M → xW (WC g) x 8 21 [(0, .ref (ga g 79)), (1, .int x1), (2, .int x2), (3, .ref (ga g c3)), (4, .int x4)] [] M := by
  intro n
  induction n with
  | zero =>
    intro x1 x2 c3 x4 M hc3 h
    exact h.elim
  | succ n ih =>
    intro x1 x2 c3 x4 M hc3 h
    rw [wX3_goBack_21] at h
    refine x_iload C 4 rfl dX3_goBack_21 ?_
    refine x_aload_n C 0 rfl rfl dX3_goBack_23 ?_
    refine x_get C (c := 79) (ci := 3) (k1 := 1) (v1 := .int (gi M 79 1)) (enC_3 (c := 79) rfl) (Nat.le_of_ble_eq_true rfl) rfl inX3 (by decide) wf_X3_15 rfl dX3_goBack_24 ?_
    refine x_icmp_ge C (tgt := 91) dX3_goBack_27 (by decide) (fun hq1 => ?_) (fun hq1 => ?_)
    · replace h := x_ift hq1 h
      exact x_vret C dX3_goBack_91 ⟨rfl, h⟩
    · replace h := x_iff hq1 h
      refine x_aload_n C 0 rfl rfl dX3_goBack_30 ?_
      refine x_get C (c := 79) (ci := 3) (k1 := 0) (v1 := .ref (ga g 80)) (enC_3 (c := 79) rfl) (Nat.le_of_ble_eq_true rfl) rfl inX3 (by decide) wf_X3_9 rfl dX3_goBack_31 ?_
      refine x_iload C 4 rfl dX3_goBack_34 ?_
      obtain ⟨hi2, h⟩ := h
      refine x_iald C 0 (c := 80) (enC_20n (c := 80) (n := 1024) rfl rfl) (Nat.le_of_ble_eq_true rfl) rfl hi2 dX3_goBack_36 ?_
      refine x_nm (fun v3 ev3 => ?_)
      replace h := h v3 ev3
      refine x_istore C (L' := [(5, .int v3), (0, .ref (ga g 79)), (1, .int x1), (2, .int x2), (3, .ref (ga g c3)), (4, .int x4)]) rfl (Nat.le_of_ble_eq_true rfl) dX3_goBack_37 ?_
      refine x_aload_n C 4 rfl rfl dX3_goBack_39 ?_
      refine x_iload_n C 2 rfl rfl dX3_goBack_40 ?_
      refine x_iload C 0 rfl dX3_goBack_41 ?_
      refine x_callSN C (st := [.ref (ga g c3)]) (As := [.int x1, .int v3]) (tX9_behindTurn hg _ _ _ _ _  h) wmn_X3_68 wsm_X9_behindTurn wz_X9 wc_X9_behindTurn yd_X9_behindTurn rfl ⟨rfl, rfl⟩ ⟨Nat.le_of_ble_eq_true rfl, Nat.le_of_ble_eq_true rfl⟩ (Nat.le_of_ble_eq_true rfl) rfl dX3_goBack_43 (x_ki (fun r5 M4 h => ?_))
      obtain ⟨hi6, h⟩ := h
      refine x_iald C 0 (c := c3) (enC_20n (c := c3) (n := (lC c3)) hc3 rfl) (kC_lt hc3 (by decide)) rfl hi6 dX3_goBack_46 ?_
      refine x_nm (fun v7 ev7 => ?_)
      replace h := h v7 ev7
      refine x_istore C (L' := [(6, .int v7), (5, .int v3), (0, .ref (ga g 79)), (1, .int x1), (2, .int x2), (3, .ref (ga g c3)), (4, .int x4)]) rfl (Nat.le_of_ble_eq_true rfl) dX3_goBack_47 ?_
      refine x_aload_n C 5 rfl rfl dX3_goBack_49 ?_
      refine x_iload C 1 rfl dX3_goBack_50 ?_
      obtain ⟨hi8, h⟩ := h
      refine x_iald C 0 (c := c3) (enC_20n (c := c3) (n := (lC c3)) hc3 rfl) (kC_lt hc3 (by decide)) rfl hi8 dX3_goBack_52 ?_
      refine x_iconst C (v1 := 1) dX3_goBack_53 (by decide) ?_
      refine x_iadd C dX3_goBack_54 ?_
      refine x_nm (fun v9 ev9 => ?_)
      replace h := h v9 ev9
      refine x_istore C (L' := [(7, .int v9), (6, .int v7), (5, .int v3), (0, .ref (ga g 79)), (1, .int x1), (2, .int x2), (3, .ref (ga g c3)), (4, .int x4)]) rfl (Nat.le_of_ble_eq_true rfl) dX3_goBack_55 ?_
      refine x_aload_n C 3 rfl rfl dX3_goBack_57 ?_
      obtain ⟨hd10, h⟩ := h
      refine x_get C (c := 79) (ci := 3) (k1 := 2) (v1 := .ref (ga g (((gi M4 79 2).toNatClampNeg)))) (enC_3 (c := 79) rfl) (Nat.le_of_ble_eq_true rfl) rfl inX3 (by decide) wf_X3_19 rfl dX3_goBack_58 ?_
      refine x_iload C 2 rfl dX3_goBack_61 ?_
      refine x_iload C 1 rfl dX3_goBack_63 ?_
      refine x_iload C 0 rfl dX3_goBack_65 ?_
      refine x_callS C (st := [.int v3, .ref (ga g (((gi M4 79 2).toNatClampNeg)))]) (As := [.int v7, .int v9]) (tJ9_min_7cf53 hg _ _ _ _ _  h) wm_X3_80 wsm_J9_min_7cf53 wz_J9 wc_J9_min_7cf53 yd_J9_min_7cf53 rfl ⟨rfl, rfl⟩ ⟨Nat.le_of_ble_eq_true rfl, Nat.le_of_ble_eq_true rfl⟩ (Nat.le_of_ble_eq_true rfl) rfl dX3_goBack_67 (x_ki (fun r12 M11 h => ?_))
      obtain ⟨hi13, h⟩ := h
      refine x_iast C 0 (c := ((gi M4 79 2).toNatClampNeg)) (enC_20n (c := ((gi M4 79 2).toNatClampNeg)) (n := (lC (((gi M4 79 2).toNatClampNeg)))) hd10 rfl) (kC_lt hd10 (by decide)) rfl hi13 dX3_goBack_70 ?_
      refine x_nmM (fun M14 eM14 => ?_)
      replace h := h M14 eM14
      refine x_iload C 0 rfl dX3_goBack_71 ?_
      refine x_iload C 1 rfl dX3_goBack_73 ?_
      refine x_icmp_gt C (tgt := 85) dX3_goBack_75 (by decide) (fun hq15 => ?_) (fun hq15 => ?_)
      · replace h := x_ift hq15 h
        refine x_loc (L' := [(0, .ref (ga g 79)), (1, .int x1), (2, .int x2), (3, .ref (ga g c3)), (4, .int x4)]) [3, 4, 5, 6, 7] rfl ?_
        exact tX3_goBack_85 hg  C  ih _ _ _ _ _ hc3 h
      · replace h := x_iff hq15 h
        refine x_aload_n C 3 rfl rfl dX3_goBack_78 ?_
        refine x_iload_n C 5 rfl rfl dX3_goBack_79 ?_
        refine x_iload C 2 rfl dX3_goBack_80 ?_
        refine x_callV C (st := []) (As := [.int x2, .int v3]) (c := 79) (ci := 3) (enC_3 (c := 79) rfl) (Nat.le_of_ble_eq_true rfl) rfl (tX3_markLeftOut hg _ _ _ _ _  h) wm_X3_85 wi_X3_markLeftOut wv_X3_markLeftOut wz_X3 wc_X3_markLeftOut rfl yd_X3_markLeftOut rfl ⟨rfl, rfl⟩ ⟨Nat.le_of_ble_eq_true rfl, Nat.le_of_ble_eq_true rfl⟩ (Nat.le_of_ble_eq_true rfl) rfl dX3_goBack_82 (x_kv (fun M16 h => ?_))
        refine x_loc (L' := [(0, .ref (ga g 79)), (1, .int x1), (2, .int x2), (3, .ref (ga g c3)), (4, .int x4)]) [3, 4, 5, 6, 7] rfl ?_
        exact tX3_goBack_85 hg  C  ih _ _ _ _ _ hc3 h
set_option maxHeartbeats 4000000 in
set_option maxRecDepth 100000 in
theorem tX3_goBack {g : xG} (hg : x_inj (WC g))  (l : Launch) (a0 : Int32) (a1 : Int32) (M : xMem) (post : xMem → Prop)  (h : wX3_goBack a0 a1 M post) : xMet (WC g) l yX3_goBack cX3_goBack 8 none (rm_X3_goBack) [.ref (ga g 79), .int a0, .int a1] M (pV post) := by
  refine x_enter (own := RX3) (L0 := [(0, .ref (ga g 79)), (1, .int a0), (2, .int a1)]) (by decide +kernel) rfl hg (x_stC g) (Nat.le_of_ble_eq_true rfl) rfl (fun x hl C => ?_)
  unfold wX3_goBack at h
  refine x_aload_n C 0 rfl rfl dX3_goBack_0 ?_
  obtain ⟨hd1, h⟩ := h
  refine x_get C (c := 79) (ci := 3) (k1 := 2) (v1 := .ref (ga g (((gi M 79 2).toNatClampNeg)))) (enC_3 (c := 79) rfl) (Nat.le_of_ble_eq_true rfl) rfl inX3 (by decide) wf_X3_19 rfl dX3_goBack_1 ?_
  refine x_astore_n C (L' := [(3, .ref (ga g (((gi M 79 2).toNatClampNeg)))), (0, .ref (ga g 79)), (1, .int a0), (2, .int a1)]) rfl rfl (Nat.le_of_ble_eq_true rfl) dX3_goBack_4 ?_
  refine x_aload_n C 1 rfl rfl dX3_goBack_5 ?_
  refine x_aload_n C 1 rfl rfl dX3_goBack_6 ?_
  obtain ⟨hd2, h⟩ := h
  refine x_get C (c := 79) (ci := 3) (k1 := 3) (v1 := .ref (ga g (((gi M 79 3).toNatClampNeg)))) (enC_3 (c := 79) rfl) (Nat.le_of_ble_eq_true rfl) rfl inX3 (by decide) wf_X3_22 rfl dX3_goBack_7 ?_
  refine x_put C (c := 79) (ci := 3) (k1 := 2) (u1 := ((gi M 79 3))) (v1 := .ref (ga g (((gi M 79 3).toNatClampNeg)))) (ty := (.array .int)) (enC_3 (c := 79) rfl) (Nat.le_of_ble_eq_true rfl) rfl inX3 (by decide) (stX3_2 _ _ _ _ rfl) tyX3 tyX3_ok nmX3 wf_X3_19 rfl rfl rfl rfl (Nat.le_of_ble_eq_true rfl) dX3_goBack_10 ?_
  refine x_nmM (fun M3 eM3 => ?_)
  replace h := h M3 eM3
  refine x_aload_n C 1 rfl rfl dX3_goBack_13 ?_
  refine x_aload_n C 0 rfl rfl dX3_goBack_14 ?_
  refine x_put C (c := 79) (ci := 3) (k1 := 3) (u1 := ((gi M 79 2))) (v1 := .ref (ga g (((gi M 79 2).toNatClampNeg)))) (ty := (.array .int)) (enC_3 (c := 79) rfl) (Nat.le_of_ble_eq_true rfl) rfl inX3 (by decide) (stX3_3 _ _ _ _ rfl) tyX3 tyX3_ok nmX3 wf_X3_22 rfl rfl rfl rfl (Nat.le_of_ble_eq_true rfl) dX3_goBack_15 ?_
  refine x_nmM (fun M4 eM4 => ?_)
  replace h := h M4 eM4
  refine x_iconst C (v1 := 0) dX3_goBack_18 (by decide) ?_
  refine x_istore C (L' := [(4, .int 0), (3, .ref (ga g (((gi M 79 2).toNatClampNeg)))), (0, .ref (ga g 79)), (1, .int a0), (2, .int a1)]) rfl (Nat.le_of_ble_eq_true rfl) dX3_goBack_19 ?_
  refine x_loc (L' := [(0, .ref (ga g 79)), (1, .int a0), (2, .int a1), (3, .ref (ga g (((gi M 79 2).toNatClampNeg)))), (4, .int 0)]) [2, 3, 4, 1, 0] rfl ?_
  obtain ⟨n21, h⟩ := h
  exact tX3_goBack_21 hg  C   _ _ _ _ _ _ hd1 h
set_option maxHeartbeats 4000000 in
set_option maxRecDepth 100000 in
theorem tX3_isLeftOut_28 {g : xG} (hg : x_inj (WC g))  {x : xCx}   {post : Int32 → xMem → Prop} (C : xOk (WC g) x cX3_isLeftOut RX3 5 (some .boolean) (rm_X3_isLeftOut) (pI post))   (s0 : Int64) (M : xMem)  (h : wX3_isLeftOut_28 post s0 M) : xW (WC g) x 5 28 [] [.long s0] M := by
  unfold wX3_isLeftOut_28 at h
  refine x_lstore_n C (L' := [(3, .long s0)]) rfl rfl (Nat.le_of_ble_eq_true rfl) dX3_isLeftOut_28 ?_
  refine x_lload_n C 0 rfl rfl dX3_isLeftOut_29 ?_
  refine x_lconst C (v1 := 1) dX3_isLeftOut_30 (by decide) ?_
  refine x_land C dX3_isLeftOut_31 ?_
  refine x_lconst C (v1 := 1) dX3_isLeftOut_32 (by decide) ?_
  refine x_lcmp C dX3_isLeftOut_33 ?_
  refine x_if_ne C (tgt := 41) dX3_isLeftOut_34 (by decide) (fun hq1 => ?_) (fun hq1 => ?_)
  · replace h := x_iff hq1 h
    refine x_iconst C (v1 := 0) dX3_isLeftOut_41 (by decide) ?_
    exact x_zret C rfl dX3_isLeftOut_42 ⟨_, rfl, h⟩
  · replace h := x_ift hq1 h
    refine x_iconst C (v1 := 1) dX3_isLeftOut_37 (by decide) ?_
    refine x_goto C (tgt := 42) dX3_isLeftOut_38 (by decide) ?_
    exact x_zret C rfl dX3_isLeftOut_42 ⟨_, rfl, h⟩
set_option maxHeartbeats 4000000 in
set_option maxRecDepth 100000 in
theorem tX3_isLeftOut {g : xG} (hg : x_inj (WC g))  (l : Launch) (a0 : Int32) (a1 : Int32) (M : xMem) (post : Int32 → xMem → Prop)  (h : wX3_isLeftOut a0 a1 M post) : xMet (WC g) l yX3_isLeftOut cX3_isLeftOut 5 (some .boolean) (rm_X3_isLeftOut) [.ref (ga g 79), .int a0, .int a1] M (pI post) := by
  refine x_enter (own := RX3) (L0 := [(0, .ref (ga g 79)), (1, .int a0), (2, .int a1)]) (by decide +kernel) rfl hg (x_stC g) (Nat.le_of_ble_eq_true rfl) rfl (fun x hl C => ?_)
  unfold wX3_isLeftOut at h
  refine x_iload_n C 1 rfl rfl dX3_isLeftOut_0 ?_
  refine x_bipush C (v1 := 64) dX3_isLeftOut_1 (by decide) ?_
  refine x_icmp_ge C (tgt := 17) dX3_isLeftOut_3 (by decide) (fun hq1 => ?_) (fun hq1 => ?_)
  · replace h := x_ift hq1 h
    refine x_aload_n C 0 rfl rfl dX3_isLeftOut_17 ?_
    refine x_get C (c := 79) (ci := 3) (k1 := 5) (v1 := .ref (ga g 84)) (enC_3 (c := 79) rfl) (Nat.le_of_ble_eq_true rfl) rfl inX3 (by decide) wf_X3_29 rfl dX3_isLeftOut_18 ?_
    refine x_iload_n C 2 rfl rfl dX3_isLeftOut_21 ?_
    obtain ⟨hi2, h⟩ := h
    refine x_lald C 1 (c := 84) (enC_21n (c := 84) (n := 1024) rfl rfl) (Nat.le_of_ble_eq_true rfl) rfl hi2 dX3_isLeftOut_22 ?_
    refine x_iload_n C 1 rfl rfl dX3_isLeftOut_23 ?_
    refine x_bipush C (v1 := 64) dX3_isLeftOut_24 (by decide) ?_
    refine x_isub C dX3_isLeftOut_26 ?_
    refine x_lshr C dX3_isLeftOut_27 ?_
    refine x_loc (L' := []) [] rfl ?_
    exact tX3_isLeftOut_28 hg  C   _ _  h
  · replace h := x_iff hq1 h
    refine x_aload_n C 0 rfl rfl dX3_isLeftOut_6 ?_
    refine x_get C (c := 79) (ci := 3) (k1 := 4) (v1 := .ref (ga g 83)) (enC_3 (c := 79) rfl) (Nat.le_of_ble_eq_true rfl) rfl inX3 (by decide) wf_X3_25 rfl dX3_isLeftOut_7 ?_
    refine x_iload_n C 2 rfl rfl dX3_isLeftOut_10 ?_
    obtain ⟨hi3, h⟩ := h
    refine x_lald C 1 (c := 83) (enC_21n (c := 83) (n := 1024) rfl rfl) (Nat.le_of_ble_eq_true rfl) rfl hi3 dX3_isLeftOut_11 ?_
    refine x_iload_n C 1 rfl rfl dX3_isLeftOut_12 ?_
    refine x_lshr C dX3_isLeftOut_13 ?_
    refine x_goto C (tgt := 28) dX3_isLeftOut_14 (by decide) ?_
    refine x_loc (L' := []) [] rfl ?_
    exact tX3_isLeftOut_28 hg  C   _ _  h
set_option maxHeartbeats 4000000 in
set_option maxRecDepth 100000 in
theorem tX3_listSets_42 {g : xG} (hg : x_inj (WC g))  {x : xCx}  {K7 : Int32 → Int32 → xMem → Prop} {post : xMem → Prop} (C : xOk (WC g) x cX3_listSets RX3 3 none (rm_X3_listSets) (pV post))  (hK7 : ∀ (x1 : Int32) (x2 : Int32) (M : xMem), K7 x1 x2 M → xW (WC g) x 3 7 [(0, .ref (ga g 79)), (1, .int x1), (2, .int x2)] [] M) (x1 : Int32) (x2 : Int32) (M : xMem)  (h : wX3_listSets_42 K7 post x1 x2 M) : xW (WC g) x 3 42 [(0, .ref (ga g 79)), (1, .int x1), (2, .int x2)] [] M := by
  unfold wX3_listSets_42 at h
  obtain ⟨v1, ev1⟩ : ∃ z : Int32, z = x2 + 1 := ⟨_, rfl⟩
  replace h := h v1 ev1
  refine x_iinc C 2 (v1 := v1) (L' := [(2, .int v1), (0, .ref (ga g 79)), (1, .int x1)]) rfl (by rw [ev1]; rfl) rfl (Nat.le_of_ble_eq_true rfl) dX3_listSets_42 ?_
  refine x_goto C (tgt := 7) dX3_listSets_45 (by decide) ?_
  refine x_loc (L' := [(0, .ref (ga g 79)), (1, .int x1), (2, .int v1)]) [1, 2, 0] rfl ?_
  exact hK7 _ _ _  h
set_option maxHeartbeats 4000000 in
set_option maxRecDepth 100000 in
theorem tX3_listSets_7 {g : xG} (hg : x_inj (WC g))  {x : xCx}   {post : xMem → Prop} (C : xOk (WC g) x cX3_listSets RX3 3 none (rm_X3_listSets) (pV post))   : ∀ (n : Nat) (x1 : Int32) (x2 : Int32) (M : xMem), wX3_listSets_7 post n x1 x2 M → xW (WC g) x 3 7 [(0, .ref (ga g 79)), (1, .int x1), (2, .int x2)] [] M := by
  intro n
  induction n with
  | zero =>
    intro x1 x2 M  h
    exact h.elim
  | succ n ih =>
    intro x1 x2 M  h
    rw [wX3_listSets_7] at h
    refine x_iload_n C 2 rfl rfl dX3_listSets_7 ?_
    refine x_sipush C (v1 := 1024) dX3_listSets_8 (by decide) ?_
    refine x_icmp_ge C (tgt := 48) dX3_listSets_11 (by decide) (fun hq1 => ?_) (fun hq1 => ?_)
    · replace h := x_ift hq1 h
      exact x_vret C dX3_listSets_48 ⟨rfl, h⟩
    · replace h := x_iff hq1 h
      refine x_iload_n C 2 rfl rfl dX3_listSets_14 ?_
      refine x_iload_n C 1 rfl rfl dX3_listSets_15 ?_
      refine x_iconst C (v1 := (-1)) dX3_listSets_16 (by decide) ?_
      refine x_ixor C dX3_listSets_17 ?_
      refine x_iand C dX3_listSets_18 ?_
      refine x_if_ne C (tgt := 42) dX3_listSets_19 (by decide) (fun hq2 => ?_) (fun hq2 => ?_)
      · replace h := x_iff hq2 h
        exact tX3_listSets_42 hg  C  ih _ _ _  h
      · replace h := x_ift hq2 h
        refine x_aload_n C 0 rfl rfl dX3_listSets_22 ?_
        refine x_get C (c := 79) (ci := 3) (k1 := 0) (v1 := .ref (ga g 80)) (enC_3 (c := 79) rfl) (Nat.le_of_ble_eq_true rfl) rfl inX3 (by decide) wf_X3_9 rfl dX3_listSets_23 ?_
        refine x_aload_n C 0 rfl rfl dX3_listSets_26 ?_
        refine x_get C (c := 79) (ci := 3) (k1 := 1) (v1 := .int (gi M 79 1)) (enC_3 (c := 79) rfl) (Nat.le_of_ble_eq_true rfl) rfl inX3 (by decide) wf_X3_15 rfl dX3_listSets_27 ?_
        refine x_iload_n C 2 rfl rfl dX3_listSets_30 ?_
        obtain ⟨hi3, h⟩ := h
        refine x_iast C 0 (c := 80) (enC_20n (c := 80) (n := 1024) rfl rfl) (Nat.le_of_ble_eq_true rfl) rfl hi3 dX3_listSets_31 ?_
        refine x_nmM (fun M4 eM4 => ?_)
        replace h := h M4 eM4
        refine x_aload_n C 0 rfl rfl dX3_listSets_32 ?_
        refine x_dup C rfl dX3_listSets_33 ?_
        refine x_get C (c := 79) (ci := 3) (k1 := 1) (v1 := .int (gi M4 79 1)) (enC_3 (c := 79) rfl) (Nat.le_of_ble_eq_true rfl) rfl inX3 (by decide) wf_X3_15 rfl dX3_listSets_34 ?_
        refine x_iconst C (v1 := 1) dX3_listSets_37 (by decide) ?_
        refine x_iadd C dX3_listSets_38 ?_
        refine x_put C (c := 79) (ci := 3) (k1 := 1) (u1 := ((gi M4 79 1) + 1)) (v1 := .int ((gi M4 79 1) + 1)) (ty := .int) (enC_3 (c := 79) rfl) (Nat.le_of_ble_eq_true rfl) rfl inX3 (by decide) (stX3_1 _ _ _) tyX3 tyX3_ok nmX3 wf_X3_15 rfl rfl rfl rfl (Nat.le_of_ble_eq_true rfl) dX3_listSets_39 ?_
        refine x_nmM (fun M5 eM5 => ?_)
        replace h := h M5 eM5
        exact tX3_listSets_42 hg  C  ih _ _ _  h
set_option maxHeartbeats 4000000 in
set_option maxRecDepth 100000 in
theorem tX3_listSets {g : xG} (hg : x_inj (WC g))  (l : Launch) (a0 : Int32) (M : xMem) (post : xMem → Prop)  (h : wX3_listSets a0 M post) : xMet (WC g) l yX3_listSets cX3_listSets 3 none (rm_X3_listSets) [.ref (ga g 79), .int a0] M (pV post) := by
  refine x_enter (own := RX3) (L0 := [(0, .ref (ga g 79)), (1, .int a0)]) (by decide +kernel) rfl hg (x_stC g) (Nat.le_of_ble_eq_true rfl) rfl (fun x hl C => ?_)
  unfold wX3_listSets at h
  refine x_aload_n C 0 rfl rfl dX3_listSets_0 ?_
  refine x_iconst C (v1 := 0) dX3_listSets_1 (by decide) ?_
  refine x_put C (c := 79) (ci := 3) (k1 := 1) (u1 := 0) (v1 := .int 0) (ty := .int) (enC_3 (c := 79) rfl) (Nat.le_of_ble_eq_true rfl) rfl inX3 (by decide) (stX3_1 _ _ _) tyX3 tyX3_ok nmX3 wf_X3_15 rfl rfl rfl rfl (Nat.le_of_ble_eq_true rfl) dX3_listSets_2 ?_
  refine x_nmM (fun M1 eM1 => ?_)
  replace h := h M1 eM1
  refine x_iconst C (v1 := 0) dX3_listSets_5 (by decide) ?_
  refine x_istore_n C (L' := [(2, .int 0), (0, .ref (ga g 79)), (1, .int a0)]) rfl rfl (Nat.le_of_ble_eq_true rfl) dX3_listSets_6 ?_
  refine x_loc (L' := [(0, .ref (ga g 79)), (1, .int a0), (2, .int 0)]) [1, 2, 0] rfl ?_
  obtain ⟨n7, h⟩ := h
  exact tX3_listSets_7 hg  C   _ _ _ _  h
set_option maxHeartbeats 4000000 in
set_option maxRecDepth 100000 in
theorem tX3_threadsEver_70 {g : xG} (hg : x_inj (WC g))  {x : xCx} {o0 : Nat} {K44 : Int32 → Int32 → xMem → Prop} {post : Int32 → xMem → Prop} (C : xOk (WC g) x cX3_threadsEver RX3 3 (some .int) (rm_X3_threadsEver) (pI post)) (ho0 : kC o0 = 9) (hK44 : ∀ (x1 : Int32) (x2 : Int32) (M : xMem), K44 x1 x2 M → xW (WC g) x 3 44 [(0, .ref (ga g o0)), (1, .int x1), (2, .int x2)] [] M) (x1 : Int32) (x2 : Int32) (M : xMem)  (h : wX3_threadsEver_70 o0 K44 post x1 x2 M) : xW (WC g) x 3 70 [(0, .ref (ga g o0)), (1, .int x1), (2, .int x2)] [] M := by
  unfold wX3_threadsEver_70 at h
  obtain ⟨v1, ev1⟩ : ∃ z : Int32, z = x2 + 1 := ⟨_, rfl⟩
  replace h := h v1 ev1
  refine x_iinc C 2 (v1 := v1) (L' := [(2, .int v1), (0, .ref (ga g o0)), (1, .int x1)]) rfl (by rw [ev1]; rfl) rfl (Nat.le_of_ble_eq_true rfl) dX3_threadsEver_70 ?_
  refine x_goto C (tgt := 44) dX3_threadsEver_73 (by decide) ?_
  refine x_loc (L' := [(0, .ref (ga g o0)), (1, .int x1), (2, .int v1)]) [1, 2, 0] rfl ?_
  exact hK44 _ _ _  h
set_option maxHeartbeats 4000000 in
set_option maxRecDepth 100000 in
theorem tX3_threadsEver_44 {g : xG} (hg : x_inj (WC g))  {x : xCx} {o0 : Nat}  {post : Int32 → xMem → Prop} (C : xOk (WC g) x cX3_threadsEver RX3 3 (some .int) (rm_X3_threadsEver) (pI post)) (ho0 : kC o0 = 9)  : ∀ (n : Nat) (x1 : Int32) (x2 : Int32) (M : xMem), wX3_threadsEver_44 o0 post n x1 x2 M → xW (WC g) x 3 44 [(0, .ref (ga g o0)), (1, .int x1), (2, .int x2)] [] M := by
  intro n
  induction n with
  | zero =>
    intro x1 x2 M  h
    exact h.elim
  | succ n ih =>
    intro x1 x2 M  h
    rw [wX3_threadsEver_44] at h
    refine x_iload_n C 2 rfl rfl dX3_threadsEver_44 ?_
    refine x_aload_n C 0 rfl rfl dX3_threadsEver_45 ?_
    refine x_getN C (c := o0) (ci := 9) (k1 := 1) (v1 := .int (gi M o0 1)) (enC_9 (c := o0) ho0) (kC_lt ho0 (by decide)) rfl inX9 (by decide) wfn_X3_52 rfl dX3_threadsEver_46 ?_
    refine x_icmp_ge C (tgt := 76) dX3_threadsEver_49 (by decide) (fun hq1 => ?_) (fun hq1 => ?_)
    · replace h := x_ift hq1 h
      refine x_iload_n C 1 rfl rfl dX3_threadsEver_76 ?_
      exact x_iret C dX3_threadsEver_77 ⟨_, rfl, h⟩
    · replace h := x_iff hq1 h
      refine x_aload_n C 0 rfl rfl dX3_threadsEver_52 ?_
      refine x_getN C (c := o0) (ci := 9) (k1 := 0) (v1 := .ref (ga g ((o0 + 1)))) (enC_9 (c := o0) ho0) (kC_lt ho0 (by decide)) rfl inX9 (by decide) wfn_X3_57 rfl dX3_threadsEver_53 ?_
      refine x_iload_n C 2 rfl rfl dX3_threadsEver_56 ?_
      obtain ⟨hi2, h⟩ := h
      refine x_iald C 0 (c := (o0 + 1)) (enC_20n (c := (o0 + 1)) (n := 72) (krX9_1 ho0) (lrX9_1 ho0)) (kC_lt (krX9_1 ho0) (by decide)) rfl hi2 dX3_threadsEver_57 ?_
      refine x_bipush C (v1 := 20) dX3_threadsEver_58 (by decide) ?_
      refine x_icmp_ne C (tgt := 70) dX3_threadsEver_60 (by decide) (fun hq3 => ?_) (fun hq3 => ?_)
      · replace h := x_iff hq3 h
        exact tX3_threadsEver_70 hg  C ho0 ih _ _ _  h
      · replace h := x_ift hq3 h
        refine x_bipush C (v1 := 20) dX3_threadsEver_63 (by decide) ?_
        refine x_iload_n C 1 rfl rfl dX3_threadsEver_65 ?_
        refine x_callSN C (st := []) (As := [.int 20, .int x1]) (tX9_behindTurn hg _ _ _ _ _  h) wmn_X3_68 wsm_X9_behindTurn wz_X9 wc_X9_behindTurn yd_X9_behindTurn rfl ⟨rfl, rfl⟩ ⟨Nat.le_of_ble_eq_true rfl, Nat.le_of_ble_eq_true rfl⟩ (Nat.le_of_ble_eq_true rfl) rfl dX3_threadsEver_66 (x_ki (fun r5 M4 h => ?_))
        refine x_istore_n C (L' := [(1, .int r5), (0, .ref (ga g o0)), (2, .int x2)]) rfl rfl (Nat.le_of_ble_eq_true rfl) dX3_threadsEver_69 ?_
        refine x_loc (L' := [(0, .ref (ga g o0)), (1, .int r5), (2, .int x2)]) [1, 0, 2] rfl ?_
        exact tX3_threadsEver_70 hg  C ho0 ih _ _ _  h
set_option maxHeartbeats 4000000 in
set_option maxRecDepth 100000 in
theorem tX3_threadsEver_36 {g : xG} (hg : x_inj (WC g))  {x : xCx} {o0 : Nat} {K4 : Int32 → Int32 → xMem → Prop} {post : Int32 → xMem → Prop} (C : xOk (WC g) x cX3_threadsEver RX3 3 (some .int) (rm_X3_threadsEver) (pI post)) (ho0 : kC o0 = 9) (hK4 : ∀ (x1 : Int32) (x2 : Int32) (M : xMem), K4 x1 x2 M → xW (WC g) x 3 4 [(0, .ref (ga g o0)), (1, .int x1), (2, .int x2)] [] M) (x1 : Int32) (x2 : Int32) (M : xMem)  (h : wX3_threadsEver_36 o0 K4 post x1 x2 M) : xW (WC g) x 3 36 [(0, .ref (ga g o0)), (1, .int x1), (2, .int x2)] [] M := by
  unfold wX3_threadsEver_36 at h
  obtain ⟨v1, ev1⟩ : ∃ z : Int32, z = x2 + 1 := ⟨_, rfl⟩
  replace h := h v1 ev1
  refine x_iinc C 2 (v1 := v1) (L' := [(2, .int v1), (0, .ref (ga g o0)), (1, .int x1)]) rfl (by rw [ev1]; rfl) rfl (Nat.le_of_ble_eq_true rfl) dX3_threadsEver_36 ?_
  refine x_goto C (tgt := 4) dX3_threadsEver_39 (by decide) ?_
  refine x_loc (L' := [(0, .ref (ga g o0)), (1, .int x1), (2, .int v1)]) [1, 2, 0] rfl ?_
  exact hK4 _ _ _  h
set_option maxHeartbeats 4000000 in
set_option maxRecDepth 100000 in
theorem tX3_threadsEver_4 {g : xG} (hg : x_inj (WC g))  {x : xCx} {o0 : Nat}  {post : Int32 → xMem → Prop} (C : xOk (WC g) x cX3_threadsEver RX3 3 (some .int) (rm_X3_threadsEver) (pI post)) (ho0 : kC o0 = 9)  : ∀ (n : Nat) (x1 : Int32) (x2 : Int32) (M : xMem), wX3_threadsEver_4 o0 post n x1 x2 M → xW (WC g) x 3 4 [(0, .ref (ga g o0)), (1, .int x1), (2, .int x2)] [] M := by
  intro n
  induction n with
  | zero =>
    intro x1 x2 M  h
    exact h.elim
  | succ n ih =>
    intro x1 x2 M  h
    rw [wX3_threadsEver_4] at h
    refine x_iload_n C 2 rfl rfl dX3_threadsEver_4 ?_
    refine x_aload_n C 0 rfl rfl dX3_threadsEver_5 ?_
    refine x_getN C (c := o0) (ci := 9) (k1 := 1) (v1 := .int (gi M o0 1)) (enC_9 (c := o0) ho0) (kC_lt ho0 (by decide)) rfl inX9 (by decide) wfn_X3_52 rfl dX3_threadsEver_6 ?_
    refine x_icmp_ge C (tgt := 42) dX3_threadsEver_9 (by decide) (fun hq1 => ?_) (fun hq1 => ?_)
    · replace h := x_ift hq1 h
      refine x_iconst C (v1 := 0) dX3_threadsEver_42 (by decide) ?_
      refine x_istore_n C (L' := [(2, .int 0), (0, .ref (ga g o0)), (1, .int x1)]) rfl rfl (Nat.le_of_ble_eq_true rfl) dX3_threadsEver_43 ?_
      refine x_loc (L' := [(0, .ref (ga g o0)), (1, .int x1), (2, .int 0)]) [1, 2, 0] rfl ?_
      obtain ⟨n44, h⟩ := h
      exact tX3_threadsEver_44 hg  C ho0  _ _ _ _  h
    · replace h := x_iff hq1 h
      refine x_aload_n C 0 rfl rfl dX3_threadsEver_12 ?_
      refine x_getN C (c := o0) (ci := 9) (k1 := 0) (v1 := .ref (ga g ((o0 + 1)))) (enC_9 (c := o0) ho0) (kC_lt ho0 (by decide)) rfl inX9 (by decide) wfn_X3_57 rfl dX3_threadsEver_13 ?_
      refine x_iload_n C 2 rfl rfl dX3_threadsEver_16 ?_
      obtain ⟨hi2, h⟩ := h
      refine x_iald C 0 (c := (o0 + 1)) (enC_20n (c := (o0 + 1)) (n := 72) (krX9_1 ho0) (lrX9_1 ho0)) (kC_lt (krX9_1 ho0) (by decide)) rfl hi2 dX3_threadsEver_17 ?_
      refine x_callSN C (st := []) (As := [.int (gi M ((o0 + 1)) x2.toNatClampNeg)]) (tX9_isClosing hg _ _ _ _  h) wmn_X3_72 wsm_X9_isClosing wz_X9 wc_X9_isClosing yd_X9_isClosing rfl ⟨rfl, rfl⟩ ⟨Nat.le_of_ble_eq_true rfl, Nat.le_of_ble_eq_true rfl⟩ (Nat.le_of_ble_eq_true rfl) rfl dX3_threadsEver_18 (x_ki (fun r4 M3 h => ?_))
      refine x_if_ne C (tgt := 36) dX3_threadsEver_21 (by decide) (fun hq5 => ?_) (fun hq5 => ?_)
      · replace h := x_iff hq5 h
        exact tX3_threadsEver_36 hg  C ho0 ih _ _ _  h
      · replace h := x_ift hq5 h
        refine x_iload_n C 1 rfl rfl dX3_threadsEver_24 ?_
        refine x_aload_n C 0 rfl rfl dX3_threadsEver_25 ?_
        refine x_getN C (c := o0) (ci := 9) (k1 := 0) (v1 := .ref (ga g ((o0 + 1)))) (enC_9 (c := o0) ho0) (kC_lt ho0 (by decide)) rfl inX9 (by decide) wfn_X3_57 rfl dX3_threadsEver_26 ?_
        refine x_iload_n C 2 rfl rfl dX3_threadsEver_29 ?_
        obtain ⟨hi6, h⟩ := h
        refine x_iald C 0 (c := (o0 + 1)) (enC_20n (c := (o0 + 1)) (n := 72) (krX9_1 ho0) (lrX9_1 ho0)) (kC_lt (krX9_1 ho0) (by decide)) rfl hi6 dX3_threadsEver_30 ?_
        refine x_callSN C (st := [.int x1]) (As := [.int (gi M3 ((o0 + 1)) x2.toNatClampNeg)]) (tX9_namedBy hg _ _ _ _  h) wmn_X3_76 wsm_X9_namedBy wz_X9 wc_X9_namedBy yd_X9_namedBy rfl ⟨rfl, rfl⟩ ⟨Nat.le_of_ble_eq_true rfl, Nat.le_of_ble_eq_true rfl⟩ (Nat.le_of_ble_eq_true rfl) rfl dX3_threadsEver_31 (x_ki (fun r8 M7 h => ?_))
        refine x_ior C dX3_threadsEver_34 ?_
        refine x_nm (fun v9 ev9 => ?_)
        replace h := h v9 ev9
        refine x_istore_n C (L' := [(1, .int v9), (0, .ref (ga g o0)), (2, .int x2)]) rfl rfl (Nat.le_of_ble_eq_true rfl) dX3_threadsEver_35 ?_
        refine x_loc (L' := [(0, .ref (ga g o0)), (1, .int v9), (2, .int x2)]) [1, 0, 2] rfl ?_
        exact tX3_threadsEver_36 hg  C ho0 ih _ _ _  h
set_option maxHeartbeats 4000000 in
set_option maxRecDepth 100000 in
theorem tX3_threadsEver {g : xG} (hg : x_inj (WC g))  (l : Launch) (o0 : Nat) (M : xMem) (post : Int32 → xMem → Prop) (ho0 : kC o0 = 9) (h : wX3_threadsEver o0 M post) : xMet (WC g) l yX3_threadsEver cX3_threadsEver 3 (some .int) (rm_X3_threadsEver) [.ref (ga g o0)] M (pI post) := by
  refine x_enter (own := RX3) (L0 := [(0, .ref (ga g o0))]) (by decide +kernel) rfl hg (x_stC g) (Nat.le_of_ble_eq_true rfl) rfl (fun x hl C => ?_)
  unfold wX3_threadsEver at h
  refine x_iconst C (v1 := 0) dX3_threadsEver_0 (by decide) ?_
  refine x_istore_n C (L' := [(1, .int 0), (0, .ref (ga g o0))]) rfl rfl (Nat.le_of_ble_eq_true rfl) dX3_threadsEver_1 ?_
  refine x_iconst C (v1 := 0) dX3_threadsEver_2 (by decide) ?_
  refine x_istore_n C (L' := [(2, .int 0), (1, .int 0), (0, .ref (ga g o0))]) rfl rfl (Nat.le_of_ble_eq_true rfl) dX3_threadsEver_3 ?_
  refine x_loc (L' := [(0, .ref (ga g o0)), (1, .int 0), (2, .int 0)]) [2, 1, 0] rfl ?_
  obtain ⟨n4, h⟩ := h
  exact tX3_threadsEver_4 hg  C ho0  _ _ _ _  h
set_option maxHeartbeats 4000000 in
set_option maxRecDepth 100000 in
theorem tX3_solve_192 {g : xG} (hg : x_inj (WC g))  {x : xCx} {o0 : Nat} {K137 : Int32 → Int32 → xMem → Prop} {post : xMem → Prop} (C : xOk (WC g) x cX3_solve RX3 5 none (rm_X3_solve) (pV post)) (ho0 : kC o0 = 9) (hK137 : ∀ (x3 : Int32) (x4 : Int32) (M : xMem), K137 x3 x4 M → xW (WC g) x 5 137 [(0, .ref (ga g 79)), (1, .ref (ga g o0)), (3, .int x3), (4, .int x4)] [] M) (x3 : Int32) (x4 : Int32) (M : xMem)  (h : wX3_solve_192 o0 K137 post x3 x4 M) : xW (WC g) x 5 192 [(0, .ref (ga g 79)), (1, .ref (ga g o0)), (3, .int x3), (4, .int x4)] [] M := by
  unfold wX3_solve_192 at h
  obtain ⟨v1, ev1⟩ : ∃ z : Int32, z = x4 + 1 := ⟨_, rfl⟩
  replace h := h v1 ev1
  refine x_iinc C 3 (v1 := v1) (L' := [(4, .int v1), (0, .ref (ga g 79)), (1, .ref (ga g o0)), (3, .int x3)]) rfl (by rw [ev1]; rfl) rfl (Nat.le_of_ble_eq_true rfl) dX3_solve_192 ?_
  refine x_goto C (tgt := 137) dX3_solve_195 (by decide) ?_
  refine x_loc (L' := [(0, .ref (ga g 79)), (1, .ref (ga g o0)), (3, .int x3), (4, .int v1)]) [1, 2, 3, 0] rfl ?_
  exact hK137 _ _ _  h
set_option maxHeartbeats 4000000 in
set_option maxRecDepth 100000 in
theorem tX3_solve_137 {g : xG} (hg : x_inj (WC g))  {x : xCx} {o0 : Nat}  {post : xMem → Prop} (C : xOk (WC g) x cX3_solve RX3 5 none (rm_X3_solve) (pV post)) (ho0 : kC o0 = 9)  : ∀ (n : Nat) (x3 : Int32) (x4 : Int32) (M : xMem), wX3_solve_137 o0 post n x3 x4 M → xW (WC g) x 5 137 [(0, .ref (ga g 79)), (1, .ref (ga g o0)), (3, .int x3), (4, .int x4)] [] M := by
  intro n
  induction n with
  | zero =>
    intro x3 x4 M  h
    exact h.elim
  | succ n ih =>
    intro x3 x4 M  h
    rw [wX3_solve_137] at h
    refine x_iload C 3 rfl dX3_solve_137 ?_
    refine x_aload_n C 1 rfl rfl dX3_solve_139 ?_
    refine x_getN C (c := o0) (ci := 9) (k1 := 1) (v1 := .int (gi M o0 1)) (enC_9 (c := o0) ho0) (kC_lt ho0 (by decide)) rfl inX9 (by decide) wfn_X3_52 rfl dX3_solve_140 ?_
    refine x_icmp_ge C (tgt := 198) dX3_solve_143 (by decide) (fun hq1 => ?_) (fun hq1 => ?_)
    · replace h := x_ift hq1 h
      exact x_vret C dX3_solve_198 ⟨rfl, h⟩
    · replace h := x_iff hq1 h
      refine x_aload_n C 0 rfl rfl dX3_solve_146 ?_
      refine x_iload C 3 rfl dX3_solve_147 ?_
      refine x_iload_n C 2 rfl rfl dX3_solve_149 ?_
      refine x_callV C (st := []) (As := [.int x4, .int x3]) (c := 79) (ci := 3) (enC_3 (c := 79) rfl) (Nat.le_of_ble_eq_true rfl) rfl (tX3_isLeftOut hg _ _ _ _ _  h) wm_X3_64 wi_X3_isLeftOut wv_X3_isLeftOut wz_X3 wc_X3_isLeftOut rfl yd_X3_isLeftOut rfl ⟨rfl, rfl⟩ ⟨Nat.le_of_ble_eq_true rfl, Nat.le_of_ble_eq_true rfl⟩ (Nat.le_of_ble_eq_true rfl) rfl dX3_solve_150 (x_ki (fun r3 M2 h => ?_))
      refine x_if_eq C (tgt := 180) dX3_solve_153 (by decide) (fun hq4 => ?_) (fun hq4 => ?_)
      · replace h := x_ift hq4 h
        refine x_aload_n C 1 rfl rfl dX3_solve_180 ?_
        refine x_getN C (c := o0) (ci := 9) (k1 := 0) (v1 := .ref (ga g ((o0 + 1)))) (enC_9 (c := o0) ho0) (kC_lt ho0 (by decide)) rfl inX9 (by decide) wfn_X3_57 rfl dX3_solve_181 ?_
        refine x_iload C 3 rfl dX3_solve_184 ?_
        obtain ⟨hi5, h⟩ := h
        refine x_iald C 0 (c := (o0 + 1)) (enC_20n (c := (o0 + 1)) (n := 72) (krX9_1 ho0) (lrX9_1 ho0)) (kC_lt (krX9_1 ho0) (by decide)) rfl hi5 dX3_solve_186 ?_
        refine x_iload_n C 2 rfl rfl dX3_solve_187 ?_
        refine x_callSN C (st := []) (As := [.int (gi M2 ((o0 + 1)) x4.toNatClampNeg), .int x3]) (tX9_behindTurn hg _ _ _ _ _  h) wmn_X3_68 wsm_X9_behindTurn wz_X9 wc_X9_behindTurn yd_X9_behindTurn rfl ⟨rfl, rfl⟩ ⟨Nat.le_of_ble_eq_true rfl, Nat.le_of_ble_eq_true rfl⟩ (Nat.le_of_ble_eq_true rfl) rfl dX3_solve_188 (x_ki (fun r7 M6 h => ?_))
        refine x_istore_n C (L' := [(3, .int r7), (0, .ref (ga g 79)), (1, .ref (ga g o0)), (4, .int x4)]) rfl rfl (Nat.le_of_ble_eq_true rfl) dX3_solve_191 ?_
        refine x_loc (L' := [(0, .ref (ga g 79)), (1, .ref (ga g o0)), (3, .int r7), (4, .int x4)]) [1, 2, 0, 3] rfl ?_
        exact tX3_solve_192 hg  C ho0 ih _ _ _  h
      · replace h := x_iff hq4 h
        refine x_aload_n C 0 rfl rfl dX3_solve_156 ?_
        refine x_get C (c := 79) (ci := 3) (k1 := 6) (v1 := .ref (ga g 85)) (enC_3 (c := 79) rfl) (Nat.le_of_ble_eq_true rfl) rfl inX3 (by decide) wf_X3_32 rfl dX3_solve_157 ?_
        refine x_aload_n C 0 rfl rfl dX3_solve_160 ?_
        refine x_get C (c := 79) (ci := 3) (k1 := 7) (v1 := .int (gi M2 79 7)) (enC_3 (c := 79) rfl) (Nat.le_of_ble_eq_true rfl) rfl inX3 (by decide) wf_X3_35 rfl dX3_solve_161 ?_
        refine x_iload C 3 rfl dX3_solve_164 ?_
        obtain ⟨hi8, h⟩ := h
        refine x_iast C 0 (c := 85) (enC_20n (c := 85) (n := 72) rfl rfl) (Nat.le_of_ble_eq_true rfl) rfl hi8 dX3_solve_166 ?_
        refine x_nmM (fun M9 eM9 => ?_)
        replace h := h M9 eM9
        refine x_aload_n C 0 rfl rfl dX3_solve_167 ?_
        refine x_dup C rfl dX3_solve_168 ?_
        refine x_get C (c := 79) (ci := 3) (k1 := 7) (v1 := .int (gi M9 79 7)) (enC_3 (c := 79) rfl) (Nat.le_of_ble_eq_true rfl) rfl inX3 (by decide) wf_X3_35 rfl dX3_solve_169 ?_
        refine x_iconst C (v1 := 1) dX3_solve_172 (by decide) ?_
        refine x_iadd C dX3_solve_173 ?_
        refine x_put C (c := 79) (ci := 3) (k1 := 7) (u1 := ((gi M9 79 7) + 1)) (v1 := .int ((gi M9 79 7) + 1)) (ty := .int) (enC_3 (c := 79) rfl) (Nat.le_of_ble_eq_true rfl) rfl inX3 (by decide) (stX3_7 _ _ _) tyX3 tyX3_ok nmX3 wf_X3_35 rfl rfl rfl rfl (Nat.le_of_ble_eq_true rfl) dX3_solve_174 ?_
        refine x_nmM (fun M10 eM10 => ?_)
        replace h := h M10 eM10
        refine x_goto C (tgt := 192) dX3_solve_177 (by decide) ?_
        exact tX3_solve_192 hg  C ho0 ih _ _ _  h
set_option maxHeartbeats 4000000 in
set_option maxRecDepth 100000 in
theorem tX3_solve_106 {g : xG} (hg : x_inj (WC g))  {x : xCx} {o0 : Nat}  {post : xMem → Prop} (C : xOk (WC g) x cX3_solve RX3 5 none (rm_X3_solve) (pV post)) (ho0 : kC o0 = 9)  : ∀ (n : Nat) (x3 : Int32) (M : xMem), wX3_solve_106 o0 post n x3 M → xW (WC g) x 5 106 [(0, .ref (ga g 79)), (1, .ref (ga g o0)), (3, .int x3)] [] M := by
  intro n
  induction n with
  | zero =>
    intro x3 M  h
    exact h.elim
  | succ n ih =>
    intro x3 M  h
    rw [wX3_solve_106] at h
    refine x_iload_n C 2 rfl rfl dX3_solve_106 ?_
    refine x_if_lt C (tgt := 127) dX3_solve_107 (by decide) (fun hq1 => ?_) (fun hq1 => ?_)
    · replace h := x_ift hq1 h
      refine x_aload_n C 0 rfl rfl dX3_solve_127 ?_
      refine x_iconst C (v1 := 0) dX3_solve_128 (by decide) ?_
      refine x_put C (c := 79) (ci := 3) (k1 := 7) (u1 := 0) (v1 := .int 0) (ty := .int) (enC_3 (c := 79) rfl) (Nat.le_of_ble_eq_true rfl) rfl inX3 (by decide) (stX3_7 _ _ _) tyX3 tyX3_ok nmX3 wf_X3_35 rfl rfl rfl rfl (Nat.le_of_ble_eq_true rfl) dX3_solve_129 ?_
      refine x_nmM (fun M2 eM2 => ?_)
      replace h := h M2 eM2
      refine x_iconst C (v1 := 0) dX3_solve_132 (by decide) ?_
      refine x_istore_n C (L' := [(3, .int 0), (0, .ref (ga g 79)), (1, .ref (ga g o0))]) rfl rfl (Nat.le_of_ble_eq_true rfl) dX3_solve_133 ?_
      refine x_iconst C (v1 := 0) dX3_solve_134 (by decide) ?_
      refine x_istore C (L' := [(4, .int 0), (3, .int 0), (0, .ref (ga g 79)), (1, .ref (ga g o0))]) rfl (Nat.le_of_ble_eq_true rfl) dX3_solve_135 ?_
      refine x_loc (L' := [(0, .ref (ga g 79)), (1, .ref (ga g o0)), (3, .int 0), (4, .int 0)]) [2, 3, 1, 0] rfl ?_
      obtain ⟨n137, h⟩ := h
      exact tX3_solve_137 hg  C ho0  _ _ _ _  h
    · replace h := x_iff hq1 h
      refine x_aload_n C 0 rfl rfl dX3_solve_110 ?_
      refine x_aload_n C 1 rfl rfl dX3_solve_111 ?_
      refine x_getN C (c := o0) (ci := 9) (k1 := 0) (v1 := .ref (ga g ((o0 + 1)))) (enC_9 (c := o0) ho0) (kC_lt ho0 (by decide)) rfl inX9 (by decide) wfn_X3_57 rfl dX3_solve_112 ?_
      refine x_iload_n C 2 rfl rfl dX3_solve_115 ?_
      obtain ⟨hi3, h⟩ := h
      refine x_iald C 0 (c := (o0 + 1)) (enC_20n (c := (o0 + 1)) (n := 72) (krX9_1 ho0) (lrX9_1 ho0)) (kC_lt (krX9_1 ho0) (by decide)) rfl hi3 dX3_solve_116 ?_
      refine x_iload_n C 2 rfl rfl dX3_solve_117 ?_
      refine x_callV C (st := []) (As := [.int (gi M ((o0 + 1)) x3.toNatClampNeg), .int x3]) (c := 79) (ci := 3) (enC_3 (c := 79) rfl) (Nat.le_of_ble_eq_true rfl) rfl (tX3_goBack hg _ _ _ _ _  h) wm_X3_60 wi_X3_goBack wv_X3_goBack wz_X3 wc_X3_goBack rfl yd_X3_goBack rfl ⟨rfl, rfl⟩ ⟨Nat.le_of_ble_eq_true rfl, Nat.le_of_ble_eq_true rfl⟩ (Nat.le_of_ble_eq_true rfl) rfl dX3_solve_118 (x_kv (fun M4 h => ?_))
      obtain ⟨v5, ev5⟩ : ∃ z : Int32, z = x3 + (-1) := ⟨_, rfl⟩
      replace h := h v5 ev5
      refine x_iinc C 2 (v1 := v5) (L' := [(3, .int v5), (0, .ref (ga g 79)), (1, .ref (ga g o0))]) rfl (by rw [ev5]; rfl) rfl (Nat.le_of_ble_eq_true rfl) dX3_solve_121 ?_
      refine x_goto C (tgt := 106) dX3_solve_124 (by decide) ?_
      refine x_loc (L' := [(0, .ref (ga g 79)), (1, .ref (ga g o0)), (3, .int v5)]) [1, 2, 0] rfl ?_
      exact ih _ _  h
set_option maxHeartbeats 4000000 in
set_option maxRecDepth 100000 in
theorem tX3_solve_68 {g : xG} (hg : x_inj (WC g))  {x : xCx} {o0 : Nat} {K30 : Int32 → Int32 → xMem → Prop} {post : xMem → Prop} (C : xOk (WC g) x cX3_solve RX3 5 none (rm_X3_solve) (pV post)) (ho0 : kC o0 = 9) (hK30 : ∀ (x2 : Int32) (x3 : Int32) (M : xMem), K30 x2 x3 M → xW (WC g) x 5 30 [(0, .ref (ga g 79)), (1, .ref (ga g o0)), (2, .int x2), (3, .int x3)] [] M) (x2 : Int32) (x3 : Int32) (s0 : Int32) (s1 : Int32) (s2 : Nat) (M : xMem) (hs2 : kC s2 = 20) (h : wX3_solve_68 o0 K30 post x2 x3 s0 s1 s2 M) : xW (WC g) x 5 68 [(0, .ref (ga g 79)), (1, .ref (ga g o0)), (2, .int x2), (3, .int x3)] [.int s0, .int s1, .ref (ga g s2)] M := by
  unfold wX3_solve_68 at h
  obtain ⟨hi1, h⟩ := h
  refine x_iast C 0 (c := s2) (enC_20n (c := s2) (n := (lC s2)) hs2 rfl) (kC_lt hs2 (by decide)) rfl hi1 dX3_solve_68 ?_
  refine x_nmM (fun M2 eM2 => ?_)
  replace h := h M2 eM2
  refine x_aload_n C 0 rfl rfl dX3_solve_69 ?_
  refine x_get C (c := 79) (ci := 3) (k1 := 4) (v1 := .ref (ga g 83)) (enC_3 (c := 79) rfl) (Nat.le_of_ble_eq_true rfl) rfl inX3 (by decide) wf_X3_25 rfl dX3_solve_70 ?_
  refine x_aload_n C 0 rfl rfl dX3_solve_73 ?_
  refine x_get C (c := 79) (ci := 3) (k1 := 0) (v1 := .ref (ga g 80)) (enC_3 (c := 79) rfl) (Nat.le_of_ble_eq_true rfl) rfl inX3 (by decide) wf_X3_9 rfl dX3_solve_74 ?_
  refine x_iload_n C 3 rfl rfl dX3_solve_77 ?_
  obtain ⟨hi3, h⟩ := h
  refine x_iald C 0 (c := 80) (enC_20n (c := 80) (n := 1024) rfl rfl) (Nat.le_of_ble_eq_true rfl) rfl hi3 dX3_solve_78 ?_
  refine x_lconst C (v1 := 0) dX3_solve_79 (by decide) ?_
  obtain ⟨hi4, h⟩ := h
  refine x_last C 1 (c := 83) (enC_21n (c := 83) (n := 1024) rfl rfl) (Nat.le_of_ble_eq_true rfl) rfl hi4 dX3_solve_80 ?_
  refine x_nmM (fun M5 eM5 => ?_)
  replace h := h M5 eM5
  refine x_aload_n C 0 rfl rfl dX3_solve_81 ?_
  refine x_get C (c := 79) (ci := 3) (k1 := 5) (v1 := .ref (ga g 84)) (enC_3 (c := 79) rfl) (Nat.le_of_ble_eq_true rfl) rfl inX3 (by decide) wf_X3_29 rfl dX3_solve_82 ?_
  refine x_aload_n C 0 rfl rfl dX3_solve_85 ?_
  refine x_get C (c := 79) (ci := 3) (k1 := 0) (v1 := .ref (ga g 80)) (enC_3 (c := 79) rfl) (Nat.le_of_ble_eq_true rfl) rfl inX3 (by decide) wf_X3_9 rfl dX3_solve_86 ?_
  refine x_iload_n C 3 rfl rfl dX3_solve_89 ?_
  obtain ⟨hi6, h⟩ := h
  refine x_iald C 0 (c := 80) (enC_20n (c := 80) (n := 1024) rfl rfl) (Nat.le_of_ble_eq_true rfl) rfl hi6 dX3_solve_90 ?_
  refine x_lconst C (v1 := 0) dX3_solve_91 (by decide) ?_
  obtain ⟨hi7, h⟩ := h
  refine x_last C 1 (c := 84) (enC_21n (c := 84) (n := 1024) rfl rfl) (Nat.le_of_ble_eq_true rfl) rfl hi7 dX3_solve_92 ?_
  refine x_nmM (fun M8 eM8 => ?_)
  replace h := h M8 eM8
  obtain ⟨v9, ev9⟩ : ∃ z : Int32, z = x3 + 1 := ⟨_, rfl⟩
  replace h := h v9 ev9
  refine x_iinc C 3 (v1 := v9) (L' := [(3, .int v9), (0, .ref (ga g 79)), (1, .ref (ga g o0)), (2, .int x2)]) rfl (by rw [ev9]; rfl) rfl (Nat.le_of_ble_eq_true rfl) dX3_solve_93 ?_
  refine x_goto C (tgt := 30) dX3_solve_96 (by decide) ?_
  refine x_loc (L' := [(0, .ref (ga g 79)), (1, .ref (ga g o0)), (2, .int x2), (3, .int v9)]) [1, 2, 3, 0] rfl ?_
  exact hK30 _ _ _  h
set_option maxHeartbeats 4000000 in
set_option maxRecDepth 100000 in
theorem tX3_solve_30 {g : xG} (hg : x_inj (WC g))  {x : xCx} {o0 : Nat}  {post : xMem → Prop} (C : xOk (WC g) x cX3_solve RX3 5 none (rm_X3_solve) (pV post)) (ho0 : kC o0 = 9)  : ∀ (n : Nat) (x2 : Int32) (x3 : Int32) (M : xMem), wX3_solve_30 o0 post n x2 x3 M → xW (WC g) x 5 30 [(0, .ref (ga g 79)), (1, .ref (ga g o0)), (2, .int x2), (3, .int x3)] [] M := by
  intro n
  induction n with
  | zero =>
    intro x2 x3 M  h
    exact h.elim
  | succ n ih =>
    intro x2 x3 M  h
    rw [wX3_solve_30] at h
    refine x_iload_n C 3 rfl rfl dX3_solve_30 ?_
    refine x_aload_n C 0 rfl rfl dX3_solve_31 ?_
    refine x_get C (c := 79) (ci := 3) (k1 := 1) (v1 := .int (gi M 79 1)) (enC_3 (c := 79) rfl) (Nat.le_of_ble_eq_true rfl) rfl inX3 (by decide) wf_X3_15 rfl dX3_solve_32 ?_
    refine x_icmp_ge C (tgt := 99) dX3_solve_35 (by decide) (fun hq1 => ?_) (fun hq1 => ?_)
    · replace h := x_ift hq1 h
      refine x_aload_n C 1 rfl rfl dX3_solve_99 ?_
      refine x_getN C (c := o0) (ci := 9) (k1 := 1) (v1 := .int (gi M o0 1)) (enC_9 (c := o0) ho0) (kC_lt ho0 (by decide)) rfl inX9 (by decide) wfn_X3_52 rfl dX3_solve_100 ?_
      refine x_iconst C (v1 := 1) dX3_solve_103 (by decide) ?_
      refine x_isub C dX3_solve_104 ?_
      refine x_nm (fun v2 ev2 => ?_)
      replace h := h v2 ev2
      refine x_istore_n C (L' := [(3, .int v2), (0, .ref (ga g 79)), (1, .ref (ga g o0)), (2, .int x2)]) rfl rfl (Nat.le_of_ble_eq_true rfl) dX3_solve_105 ?_
      refine x_loc (L' := [(0, .ref (ga g 79)), (1, .ref (ga g o0)), (3, .int v2)]) [1, 2, 0] rfl ?_
      obtain ⟨n106, h⟩ := h
      exact tX3_solve_106 hg  C ho0  _ _ _  h
    · replace h := x_iff hq1 h
      refine x_aload_n C 0 rfl rfl dX3_solve_38 ?_
      obtain ⟨hd3, h⟩ := h
      refine x_get C (c := 79) (ci := 3) (k1 := 2) (v1 := .ref (ga g (((gi M 79 2).toNatClampNeg)))) (enC_3 (c := 79) rfl) (Nat.le_of_ble_eq_true rfl) rfl inX3 (by decide) wf_X3_19 rfl dX3_solve_39 ?_
      refine x_aload_n C 0 rfl rfl dX3_solve_42 ?_
      refine x_get C (c := 79) (ci := 3) (k1 := 0) (v1 := .ref (ga g 80)) (enC_3 (c := 79) rfl) (Nat.le_of_ble_eq_true rfl) rfl inX3 (by decide) wf_X3_9 rfl dX3_solve_43 ?_
      refine x_iload_n C 3 rfl rfl dX3_solve_46 ?_
      obtain ⟨hi4, h⟩ := h
      refine x_iald C 0 (c := 80) (enC_20n (c := 80) (n := 1024) rfl rfl) (Nat.le_of_ble_eq_true rfl) rfl hi4 dX3_solve_47 ?_
      refine x_aload_n C 0 rfl rfl dX3_solve_48 ?_
      refine x_get C (c := 79) (ci := 3) (k1 := 0) (v1 := .ref (ga g 80)) (enC_3 (c := 79) rfl) (Nat.le_of_ble_eq_true rfl) rfl inX3 (by decide) wf_X3_9 rfl dX3_solve_49 ?_
      refine x_iload_n C 3 rfl rfl dX3_solve_52 ?_
      obtain ⟨hi5, h⟩ := h
      refine x_iald C 0 (c := 80) (enC_20n (c := 80) (n := 1024) rfl rfl) (Nat.le_of_ble_eq_true rfl) rfl hi5 dX3_solve_53 ?_
      refine x_iload_n C 2 rfl rfl dX3_solve_54 ?_
      refine x_iconst C (v1 := (-1)) dX3_solve_55 (by decide) ?_
      refine x_ixor C dX3_solve_56 ?_
      refine x_iand C dX3_solve_57 ?_
      refine x_if_ne C (tgt := 65) dX3_solve_58 (by decide) (fun hq6 => ?_) (fun hq6 => ?_)
      · replace h := x_iff hq6 h
        refine x_sipush C (v1 := 1000) dX3_solve_65 (by decide) ?_
        exact tX3_solve_68 hg  C ho0 ih _ _ _ _ _ _ hd3 h
      · replace h := x_ift hq6 h
        refine x_iconst C (v1 := 0) dX3_solve_61 (by decide) ?_
        refine x_goto C (tgt := 68) dX3_solve_62 (by decide) ?_
        exact tX3_solve_68 hg  C ho0 ih _ _ _ _ _ _ hd3 h
set_option maxHeartbeats 4000000 in
set_option maxRecDepth 100000 in
theorem tX3_solve {g : xG} (hg : x_inj (WC g))  (l : Launch) (o0 : Nat) (a1 : Int32) (M : xMem) (post : xMem → Prop) (ho0 : kC o0 = 9) (h : wX3_solve o0 a1 M post) : xMet (WC g) l yX3_solve cX3_solve 5 none (rm_X3_solve) [.ref (ga g 79), .ref (ga g o0), .int a1] M (pV post) := by
  refine x_enter (own := RX3) (L0 := [(0, .ref (ga g 79)), (1, .ref (ga g o0)), (2, .int a1)]) (by decide +kernel) rfl hg (x_stC g) (Nat.le_of_ble_eq_true rfl) rfl (fun x hl C => ?_)
  unfold wX3_solve at h
  refine x_aload_n C 0 rfl rfl dX3_solve_0 ?_
  refine x_aload_n C 1 rfl rfl dX3_solve_1 ?_
  refine x_callS C (st := [.ref (ga g 79)]) (As := [.ref (ga g o0)]) (tX3_threadsEver hg _ _ _ _ ho0 h) wm_X3_38 wsm_X3_threadsEver wz_X3 wc_X3_threadsEver yd_X3_threadsEver rfl ⟨rfl, rfl⟩ ⟨Nat.le_of_ble_eq_true rfl, Nat.le_of_ble_eq_true rfl⟩ (Nat.le_of_ble_eq_true rfl) rfl dX3_solve_2 (x_ki (fun r2 M1 h => ?_))
  refine x_callV C (st := []) (As := [.int r2]) (c := 79) (ci := 3) (enC_3 (c := 79) rfl) (Nat.le_of_ble_eq_true rfl) rfl (tX3_listSets hg _ _ _ _  h) wm_X3_42 wi_X3_listSets wv_X3_listSets wz_X3 wc_X3_listSets rfl yd_X3_listSets rfl ⟨rfl, rfl⟩ ⟨Nat.le_of_ble_eq_true rfl, Nat.le_of_ble_eq_true rfl⟩ (Nat.le_of_ble_eq_true rfl) rfl dX3_solve_5 (x_kv (fun M3 h => ?_))
  refine x_aload_n C 0 rfl rfl dX3_solve_8 ?_
  obtain ⟨hd4, h⟩ := h
  refine x_get C (c := 79) (ci := 3) (k1 := 2) (v1 := .ref (ga g (((gi M3 79 2).toNatClampNeg)))) (enC_3 (c := 79) rfl) (Nat.le_of_ble_eq_true rfl) rfl inX3 (by decide) wf_X3_19 rfl dX3_solve_9 ?_
  refine x_sipush C (v1 := 1000) dX3_solve_12 (by decide) ?_
  refine x_callS C (st := []) (As := [.ref (ga g (((gi M3 79 2).toNatClampNeg))), .int 1000]) (tJ7_fill_53178 hg _ _ _ _ _ hd4 h) wm_X3_46 wsm_J7_fill_53178 wz_J7 wc_J7_fill_53178 yd_J7_fill_53178 rfl ⟨rfl, rfl⟩ ⟨Nat.le_of_ble_eq_true rfl, Nat.le_of_ble_eq_true rfl⟩ (Nat.le_of_ble_eq_true rfl) rfl dX3_solve_15 (x_kv (fun M5 h => ?_))
  refine x_aload_n C 0 rfl rfl dX3_solve_18 ?_
  obtain ⟨hd6, h⟩ := h
  refine x_get C (c := 79) (ci := 3) (k1 := 3) (v1 := .ref (ga g (((gi M5 79 3).toNatClampNeg)))) (enC_3 (c := 79) rfl) (Nat.le_of_ble_eq_true rfl) rfl inX3 (by decide) wf_X3_22 rfl dX3_solve_19 ?_
  refine x_sipush C (v1 := 1000) dX3_solve_22 (by decide) ?_
  refine x_callS C (st := []) (As := [.ref (ga g (((gi M5 79 3).toNatClampNeg))), .int 1000]) (tJ7_fill_53178 hg _ _ _ _ _ hd6 h) wm_X3_46 wsm_J7_fill_53178 wz_J7 wc_J7_fill_53178 yd_J7_fill_53178 rfl ⟨rfl, rfl⟩ ⟨Nat.le_of_ble_eq_true rfl, Nat.le_of_ble_eq_true rfl⟩ (Nat.le_of_ble_eq_true rfl) rfl dX3_solve_25 (x_kv (fun M7 h => ?_))
  refine x_iconst C (v1 := 0) dX3_solve_28 (by decide) ?_
  refine x_istore_n C (L' := [(3, .int 0), (0, .ref (ga g 79)), (1, .ref (ga g o0)), (2, .int a1)]) rfl rfl (Nat.le_of_ble_eq_true rfl) dX3_solve_29 ?_
  refine x_loc (L' := [(0, .ref (ga g 79)), (1, .ref (ga g o0)), (2, .int a1), (3, .int 0)]) [1, 2, 3, 0] rfl ?_
  obtain ⟨n30, h⟩ := h
  exact tX3_solve_30 hg  C ho0  _ _ _ _  h
set_option maxHeartbeats 4000000 in
set_option maxRecDepth 100000 in
theorem tX11_fitting {g : xG} (hg : x_inj (WC g))  (l : Launch) (a0 : Int32) (a1 : Int32) (a2 : Int32) (M : xMem) (post : Int32 → xMem → Prop)  (h : wX11_fitting a0 a1 a2 M post) : xMet (WC g) l yX11_fitting cX11_fitting 5 (some .int) (rm_X11_fitting) [.ref (ga g 0), .int a0, .int a1, .int a2] M (pI post) := by
  refine x_enter (own := RX11) (L0 := [(0, .ref (ga g 0)), (1, .int a0), (2, .int a1), (3, .int a2)]) (by decide +kernel) rfl hg (x_stC g) (Nat.le_of_ble_eq_true rfl) rfl (fun x hl C => ?_)
  unfold wX11_fitting at h
  refine x_aload_n C 0 rfl rfl dX11_fitting_0 ?_
  refine x_iload_n C 1 rfl rfl dX11_fitting_1 ?_
  refine x_callV C (st := []) (As := [.int a0]) (c := 0) (ci := 11) (enC_11 (c := 0) rfl) (Nat.le_of_ble_eq_true rfl) rfl (tX11_toldStory hg _ _ _ _  h) wm_X11_154 wi_X11_toldStory wv_X11_toldStory wz_X11 wc_X11_toldStory rfl yd_X11_toldStory rfl ⟨rfl, rfl⟩ ⟨Nat.le_of_ble_eq_true rfl, Nat.le_of_ble_eq_true rfl⟩ (Nat.le_of_ble_eq_true rfl) rfl dX11_fitting_2 (x_kr (fun M1 h => ?_) (fun q2 M1 h0 hkq2 h => ?_))
  · replace h := x_ift rfl h
    refine x_astoreN C (L' := [(4, .null), (0, .ref (ga g 0)), (1, .int a0), (2, .int a1), (3, .int a2)]) rfl (Nat.le_of_ble_eq_true rfl) dX11_fitting_5 ?_
    refine x_aloadN C 0 rfl dX11_fitting_7 ?_
    refine x_ifnullN C (tgt := 23) dX11_fitting_9 (by decide) ?_
    refine x_iconst C (v1 := (-1)) dX11_fitting_23 (by decide) ?_
    exact x_iret C dX11_fitting_24 ⟨_, rfl, h⟩
  · replace h := x_iff h0 h
    refine x_astore C (L' := [(4, .ref (ga g q2)), (0, .ref (ga g 0)), (1, .int a0), (2, .int a1), (3, .int a2)]) rfl (Nat.le_of_ble_eq_true rfl) dX11_fitting_5 ?_
    refine x_aload C 0 rfl dX11_fitting_7 ?_
    refine x_ifnull_r C dX11_fitting_9 ?_
    refine x_iload_n C 3 rfl rfl dX11_fitting_12 ?_
    refine x_iconst C (v1 := 0) dX11_fitting_13 (by decide) ?_
    refine x_sipush C (v1 := 1023) dX11_fitting_14 (by decide) ?_
    refine x_callS C (st := []) (As := [.int a1, .int 0, .int 1023]) (tX11_isWithin hg _ _ _ _ _ _  h) wm_X11_145 wsm_X11_isWithin wz_X11 wc_X11_isWithin yd_X11_isWithin rfl ⟨rfl, rfl⟩ ⟨Nat.le_of_ble_eq_true rfl, Nat.le_of_ble_eq_true rfl⟩ (Nat.le_of_ble_eq_true rfl) rfl dX11_fitting_17 (x_ki (fun r4 M3 h => ?_))
    refine x_if_ne C (tgt := 25) dX11_fitting_20 (by decide) (fun hq5 => ?_) (fun hq5 => ?_)
    · replace h := x_iff hq5 h
      refine x_aload_n C 1 rfl rfl dX11_fitting_25 ?_
      refine x_get C (c := 0) (ci := 11) (k1 := 14) (v1 := .ref (ga g 79)) (enC_11 (c := 0) rfl) (Nat.le_of_ble_eq_true rfl) rfl inX11 (by decide) wf_X11_92 rfl dX11_fitting_26 ?_
      refine x_aload C 0 rfl dX11_fitting_29 ?_
      refine x_iload_n C 3 rfl rfl dX11_fitting_31 ?_
      refine x_callVN C (st := []) (As := [.ref (ga g q2), .int a1]) (c := 79) (ci := 3) (enC_3 (c := 79) rfl) (Nat.le_of_ble_eq_true rfl) rfl (tX3_solve hg _ _ _ _ _ hkq2 h) wmn_X11_280 wi_X3_solve wv_X3_solve wz_X3 wc_X3_solve yd_X3_solve rfl ⟨rfl, rfl⟩ ⟨Nat.le_of_ble_eq_true rfl, Nat.le_of_ble_eq_true rfl⟩ (Nat.le_of_ble_eq_true rfl) rfl dX11_fitting_32 (x_kv (fun M6 h => ?_))
      refine x_iload_n C 4 rfl rfl dX11_fitting_35 ?_
      refine x_bipush C (v1 := 100) dX11_fitting_36 (by decide) ?_
      refine x_icmp_ne C (tgt := 49) dX11_fitting_38 (by decide) (fun hq7 => ?_) (fun hq7 => ?_)
      · replace h := x_iff hq7 h
        refine x_iload_n C 4 rfl rfl dX11_fitting_49 ?_
        refine x_iconst C (v1 := 0) dX11_fitting_50 (by decide) ?_
        refine x_aload_n C 1 rfl rfl dX11_fitting_51 ?_
        refine x_get C (c := 0) (ci := 11) (k1 := 14) (v1 := .ref (ga g 79)) (enC_11 (c := 0) rfl) (Nat.le_of_ble_eq_true rfl) rfl inX11 (by decide) wf_X11_92 rfl dX11_fitting_52 ?_
        refine x_getN C (c := 79) (ci := 3) (k1 := 7) (v1 := .int (gi M6 79 7)) (enC_3 (c := 79) rfl) (Nat.le_of_ble_eq_true rfl) rfl inX3 (by decide) wfn_X11_284 rfl dX11_fitting_55 ?_
        refine x_iconst C (v1 := 1) dX11_fitting_58 (by decide) ?_
        refine x_isub C dX11_fitting_59 ?_
        refine x_callS C (st := []) (As := [.int a2, .int 0, .int ((gi M6 79 7) - 1)]) (tX11_isWithin hg _ _ _ _ _ _  h) wm_X11_145 wsm_X11_isWithin wz_X11 wc_X11_isWithin yd_X11_isWithin rfl ⟨rfl, rfl⟩ ⟨Nat.le_of_ble_eq_true rfl, Nat.le_of_ble_eq_true rfl⟩ (Nat.le_of_ble_eq_true rfl) rfl dX11_fitting_60 (x_ki (fun r9 M8 h => ?_))
        refine x_if_eq C (tgt := 84) dX11_fitting_63 (by decide) (fun hq10 => ?_) (fun hq10 => ?_)
        · replace h := x_ift hq10 h
          refine x_bipush C (v1 := (-4)) dX11_fitting_84 (by decide) ?_
          exact x_iret C dX11_fitting_86 ⟨_, rfl, h⟩
        · replace h := x_iff hq10 h
          refine x_iload_n C 4 rfl rfl dX11_fitting_66 ?_
          refine x_bipush C (v1 := 72) dX11_fitting_67 (by decide) ?_
          refine x_icmp_ge C (tgt := 84) dX11_fitting_69 (by decide) (fun hq11 => ?_) (fun hq11 => ?_)
          · replace h := x_ift hq11 h
            refine x_bipush C (v1 := (-4)) dX11_fitting_84 (by decide) ?_
            exact x_iret C dX11_fitting_86 ⟨_, rfl, h⟩
          · replace h := x_iff hq11 h
            refine x_aload_n C 1 rfl rfl dX11_fitting_72 ?_
            refine x_get C (c := 0) (ci := 11) (k1 := 14) (v1 := .ref (ga g 79)) (enC_11 (c := 0) rfl) (Nat.le_of_ble_eq_true rfl) rfl inX11 (by decide) wf_X11_92 rfl dX11_fitting_73 ?_
            refine x_getN C (c := 79) (ci := 3) (k1 := 6) (v1 := .ref (ga g 85)) (enC_3 (c := 79) rfl) (Nat.le_of_ble_eq_true rfl) rfl inX3 (by decide) wfn_X11_287 rfl dX11_fitting_76 ?_
            refine x_iload_n C 4 rfl rfl dX11_fitting_79 ?_
            obtain ⟨hi12, h⟩ := h
            refine x_iald C 0 (c := 85) (enC_20n (c := 85) (n := 72) rfl rfl) (Nat.le_of_ble_eq_true rfl) rfl hi12 dX11_fitting_80 ?_
            refine x_goto C (tgt := 86) dX11_fitting_81 (by decide) ?_
            exact x_iret C dX11_fitting_86 ⟨_, rfl, h⟩
      · replace h := x_ift hq7 h
        refine x_aload_n C 1 rfl rfl dX11_fitting_41 ?_
        refine x_get C (c := 0) (ci := 11) (k1 := 14) (v1 := .ref (ga g 79)) (enC_11 (c := 0) rfl) (Nat.le_of_ble_eq_true rfl) rfl inX11 (by decide) wf_X11_92 rfl dX11_fitting_42 ?_
        refine x_getN C (c := 79) (ci := 3) (k1 := 7) (v1 := .int (gi M6 79 7)) (enC_3 (c := 79) rfl) (Nat.le_of_ble_eq_true rfl) rfl inX3 (by decide) wfn_X11_284 rfl dX11_fitting_45 ?_
        exact x_iret C dX11_fitting_48 ⟨_, rfl, h⟩
    · replace h := x_ift hq5 h
      refine x_iconst C (v1 := (-1)) dX11_fitting_23 (by decide) ?_
      exact x_iret C dX11_fitting_24 ⟨_, rfl, h⟩
set_option maxHeartbeats 4000000 in
set_option maxRecDepth 100000 in
theorem tX11_wouldDo_120 {g : xG} (hg : x_inj (WC g))  {x : xCx}  {K51 : Int32 → Int32 → Nat → Int32 → Int32 → Int32 → Int32 → Int32 → xMem → Prop} {post : Int32 → xMem → Prop} (C : xOk (WC g) x cX11_wouldDo RX11 10 (some .int) (rm_X11_wouldDo) (pI post))  (hK51 : ∀ (x2 : Int32) (x3 : Int32) (c4 : Nat) (x5 : Int32) (x6 : Int32) (x7 : Int32) (x8 : Int32) (x9 : Int32) (M : xMem), kC c4 = 9 → K51 x2 x3 c4 x5 x6 x7 x8 x9 M → xW (WC g) x 10 51 [(0, .ref (ga g 0)), (2, .int x2), (3, .int x3), (4, .ref (ga g c4)), (5, .int x5), (6, .int x6), (7, .int x7), (8, .int x8), (9, .int x9)] [] M) (x2 : Int32) (x3 : Int32) (c4 : Nat) (x5 : Int32) (x6 : Int32) (x7 : Int32) (x8 : Int32) (x9 : Int32) (M : xMem) (hc4 : kC c4 = 9) (h : wX11_wouldDo_120 K51 post x2 x3 c4 x5 x6 x7 x8 x9 M) : xW (WC g) x 10 120 [(0, .ref (ga g 0)), (2, .int x2), (3, .int x3), (4, .ref (ga g c4)), (5, .int x5), (6, .int x6), (7, .int x7), (8, .int x8), (9, .int x9)] [] M := by
  unfold wX11_wouldDo_120 at h
  obtain ⟨v1, ev1⟩ : ∃ z : Int32, z = x9 + 1 := ⟨_, rfl⟩
  replace h := h v1 ev1
  refine x_iinc C 8 (v1 := v1) (L' := [(9, .int v1), (0, .ref (ga g 0)), (2, .int x2), (3, .int x3), (4, .ref (ga g c4)), (5, .int x5), (6, .int x6), (7, .int x7), (8, .int x8)]) rfl (by rw [ev1]; rfl) rfl (Nat.le_of_ble_eq_true rfl) dX11_wouldDo_120 ?_
  refine x_goto C (tgt := 51) dX11_wouldDo_123 (by decide) ?_
  refine x_loc (L' := [(0, .ref (ga g 0)), (2, .int x2), (3, .int x3), (4, .ref (ga g c4)), (5, .int x5), (6, .int x6), (7, .int x7), (8, .int x8), (9, .int v1)]) [1, 2, 3, 4, 5, 6, 7, 8, 0] rfl ?_
  exact hK51 _ _ _ _ _ _ _ _ _ hc4 h
set_option maxHeartbeats 4000000 in
set_option maxRecDepth 100000 in
theorem tX11_wouldDo_114 {g : xG} (hg : x_inj (WC g))  {x : xCx}  {K51 : Int32 → Int32 → Nat → Int32 → Int32 → Int32 → Int32 → Int32 → xMem → Prop} {post : Int32 → xMem → Prop} (C : xOk (WC g) x cX11_wouldDo RX11 10 (some .int) (rm_X11_wouldDo) (pI post))  (hK51 : ∀ (x2 : Int32) (x3 : Int32) (c4 : Nat) (x5 : Int32) (x6 : Int32) (x7 : Int32) (x8 : Int32) (x9 : Int32) (M : xMem), kC c4 = 9 → K51 x2 x3 c4 x5 x6 x7 x8 x9 M → xW (WC g) x 10 51 [(0, .ref (ga g 0)), (2, .int x2), (3, .int x3), (4, .ref (ga g c4)), (5, .int x5), (6, .int x6), (7, .int x7), (8, .int x8), (9, .int x9)] [] M) (x2 : Int32) (x3 : Int32) (c4 : Nat) (x5 : Int32) (x8 : Int32) (x9 : Int32) (s0 : Int32) (M : xMem) (hc4 : kC c4 = 9) (h : wX11_wouldDo_114 K51 post x2 x3 c4 x5 x8 x9 s0 M) : xW (WC g) x 10 114 [(0, .ref (ga g 0)), (2, .int x2), (3, .int x3), (4, .ref (ga g c4)), (5, .int x5), (8, .int x8), (9, .int x9)] [.int s0] M := by
  unfold wX11_wouldDo_114 at h
  refine x_istore C (L' := [(6, .int s0), (0, .ref (ga g 0)), (2, .int x2), (3, .int x3), (4, .ref (ga g c4)), (5, .int x5), (8, .int x8), (9, .int x9)]) rfl (Nat.le_of_ble_eq_true rfl) dX11_wouldDo_114 ?_
  refine x_iload C 7 rfl dX11_wouldDo_116 ?_
  refine x_istore C (L' := [(7, .int x9), (6, .int s0), (0, .ref (ga g 0)), (2, .int x2), (3, .int x3), (4, .ref (ga g c4)), (5, .int x5), (8, .int x8), (9, .int x9)]) rfl (Nat.le_of_ble_eq_true rfl) dX11_wouldDo_118 ?_
  refine x_loc (L' := [(0, .ref (ga g 0)), (2, .int x2), (3, .int x3), (4, .ref (ga g c4)), (5, .int x5), (6, .int s0), (7, .int x9), (8, .int x8), (9, .int x9)]) [2, 3, 4, 5, 6, 1, 0, 7, 8] rfl ?_
  exact tX11_wouldDo_120 hg  C  hK51 _ _ _ _ _ _ _ _ _ hc4 h
set_option maxHeartbeats 4000000 in
set_option maxRecDepth 100000 in
theorem tX11_wouldDo_51 {g : xG} (hg : x_inj (WC g))  {x : xCx}   {post : Int32 → xMem → Prop} (C : xOk (WC g) x cX11_wouldDo RX11 10 (some .int) (rm_X11_wouldDo) (pI post))   : ∀ (n : Nat) (x2 : Int32) (x3 : Int32) (c4 : Nat) (x5 : Int32) (x6 : Int32) (x7 : Int32) (x8 : Int32) (x9 : Int32) (M : xMem), kC c4 = 9 → wX11_wouldDo_51 post n x2 x3 c4 x5 x6 x7 x8 x9 M → xW (WC g) x 10 51 [(0, .ref (ga g 0)), (2, .int x2), (3, .int x3), (4, .ref (ga g c4)), (5, .int x5), (6, .int x6), (7, .int x7), (8, .int x8), (9, .int x9)] [] M := by
  intro n
  induction n with
  | zero =>
    intro x2 x3 c4 x5 x6 x7 x8 x9 M hc4 h
    exact h.elim
  | succ n ih =>
    intro x2 x3 c4 x5 x6 x7 x8 x9 M hc4 h
    rw [wX11_wouldDo_51] at h
    refine x_iload C 8 rfl dX11_wouldDo_51 ?_
    refine x_aload C 3 rfl dX11_wouldDo_53 ?_
    refine x_getN C (c := c4) (ci := 9) (k1 := 1) (v1 := .int (gi M c4 1)) (enC_9 (c := c4) hc4) (kC_lt hc4 (by decide)) rfl inX9 (by decide) wfn_X11_198 rfl dX11_wouldDo_55 ?_
    refine x_icmp_gt C (tgt := 126) dX11_wouldDo_58 (by decide) (fun hq1 => ?_) (fun hq1 => ?_)
    · replace h := x_ift hq1 h
      refine x_iload_n C 2 rfl rfl dX11_wouldDo_126 ?_
      refine x_if_ne C (tgt := 133) dX11_wouldDo_127 (by decide) (fun hq2 => ?_) (fun hq2 => ?_)
      · replace h := x_iff hq2 h
        refine x_iload_n C 2 rfl rfl dX11_wouldDo_133 ?_
        refine x_iconst C (v1 := 1) dX11_wouldDo_134 (by decide) ?_
        refine x_icmp_ne C (tgt := 143) dX11_wouldDo_135 (by decide) (fun hq3 => ?_) (fun hq3 => ?_)
        · replace h := x_iff hq3 h
          refine x_iload C 6 rfl dX11_wouldDo_143 ?_
          exact x_iret C dX11_wouldDo_145 ⟨_, rfl, h⟩
        · replace h := x_ift hq3 h
          refine x_iload C 5 rfl dX11_wouldDo_138 ?_
          refine x_goto C (tgt := 145) dX11_wouldDo_140 (by decide) ?_
          exact x_iret C dX11_wouldDo_145 ⟨_, rfl, h⟩
      · replace h := x_ift hq2 h
        refine x_iload C 4 rfl dX11_wouldDo_130 ?_
        exact x_iret C dX11_wouldDo_132 ⟨_, rfl, h⟩
    · replace h := x_iff hq1 h
      refine x_aload C 3 rfl dX11_wouldDo_61 ?_
      refine x_iload C 8 rfl dX11_wouldDo_63 ?_
      refine x_iconst C (v1 := 1) dX11_wouldDo_65 (by decide) ?_
      refine x_isub C dX11_wouldDo_66 ?_
      refine x_iload C 8 rfl dX11_wouldDo_67 ?_
      refine x_iload C 7 rfl dX11_wouldDo_69 ?_
      refine x_callVN C (st := []) (As := [.int (x9 - 1), .int x9, .int x8]) (c := c4) (ci := 9) (enC_9 (c := c4) hc4) (kC_lt hc4 (by decide)) rfl (tX9_openBehind hg _ _ _ _ _ _ _ hc4 h) wmn_X11_213 wi_X9_openBehind wv_X9_openBehind wz_X9 wc_X9_openBehind yd_X9_openBehind rfl ⟨rfl, rfl⟩ ⟨Nat.le_of_ble_eq_true rfl, Nat.le_of_ble_eq_true rfl⟩ (Nat.le_of_ble_eq_true rfl) rfl dX11_wouldDo_71 (x_ki (fun r5 M4 h => ?_))
      refine x_istore C (L' := [(8, .int r5), (0, .ref (ga g 0)), (2, .int x2), (3, .int x3), (4, .ref (ga g c4)), (5, .int x5), (6, .int x6), (7, .int x7), (9, .int x9)]) rfl (Nat.le_of_ble_eq_true rfl) dX11_wouldDo_74 ?_
      refine x_iload C 0 rfl dX11_wouldDo_76 ?_
      refine x_if_eq C (tgt := 120) dX11_wouldDo_78 (by decide) (fun hq6 => ?_) (fun hq6 => ?_)
      · replace h := x_ift hq6 h
        refine x_loc (L' := [(0, .ref (ga g 0)), (2, .int x2), (3, .int x3), (4, .ref (ga g c4)), (5, .int x5), (6, .int x6), (7, .int x7), (8, .int r5), (9, .int x9)]) [1, 2, 3, 4, 5, 6, 7, 0, 8] rfl ?_
        exact tX11_wouldDo_120 hg  C  ih _ _ _ _ _ _ _ _ _ hc4 h
      · replace h := x_iff hq6 h
        refine x_iload C 0 rfl dX11_wouldDo_81 ?_
        refine x_aload_n C 1 rfl rfl dX11_wouldDo_83 ?_
        refine x_get C (c := 0) (ci := 11) (k1 := 7) (v1 := .ref (ga g 41)) (enC_11 (c := 0) rfl) (Nat.le_of_ble_eq_true rfl) rfl inX11 (by decide) wf_X11_50 rfl dX11_wouldDo_84 ?_
        refine x_getN C (c := 41) (ci := 2) (k1 := 1) (v1 := .ref (ga g 42)) (enC_2 (c := 41) rfl) (Nat.le_of_ble_eq_true rfl) rfl inX2 (by decide) wfn_X11_220 rfl dX11_wouldDo_87 ?_
        refine x_iload_n C 2 rfl rfl dX11_wouldDo_90 ?_
        obtain ⟨hi7, h⟩ := h
        refine x_iald C 0 (c := 42) (enC_20n (c := 42) (n := 10) rfl rfl) (Nat.le_of_ble_eq_true rfl) rfl hi7 dX11_wouldDo_91 ?_
        refine x_iconst C (v1 := (-1)) dX11_wouldDo_92 (by decide) ?_
        refine x_ixor C dX11_wouldDo_93 ?_
        refine x_iand C dX11_wouldDo_94 ?_
        refine x_if_ne C (tgt := 120) dX11_wouldDo_95 (by decide) (fun hq8 => ?_) (fun hq8 => ?_)
        · replace h := x_iff hq8 h
          refine x_loc (L' := [(0, .ref (ga g 0)), (2, .int x2), (3, .int x3), (4, .ref (ga g c4)), (5, .int x5), (6, .int x6), (7, .int x7), (8, .int r5), (9, .int x9)]) [1, 2, 3, 4, 5, 6, 7, 0, 8] rfl ?_
          exact tX11_wouldDo_120 hg  C  ih _ _ _ _ _ _ _ _ _ hc4 h
        · replace h := x_ift hq8 h
          obtain ⟨v9, ev9⟩ : ∃ z : Int32, z = x5 + 1 := ⟨_, rfl⟩
          replace h := h v9 ev9
          refine x_iinc C 5 (v1 := v9) (L' := [(5, .int v9), (8, .int r5), (0, .ref (ga g 0)), (2, .int x2), (3, .int x3), (4, .ref (ga g c4)), (6, .int x6), (7, .int x7), (9, .int x9)]) rfl (by rw [ev9]; rfl) rfl (Nat.le_of_ble_eq_true rfl) dX11_wouldDo_98 ?_
          refine x_iload C 0 rfl dX11_wouldDo_101 ?_
          refine x_iconst C (v1 := 1) dX11_wouldDo_103 (by decide) ?_
          refine x_icmp_ne C (tgt := 112) dX11_wouldDo_104 (by decide) (fun hq10 => ?_) (fun hq10 => ?_)
          · replace h := x_iff hq10 h
            refine x_iload C 6 rfl dX11_wouldDo_112 ?_
            refine x_loc (L' := [(0, .ref (ga g 0)), (2, .int x2), (3, .int x3), (4, .ref (ga g c4)), (5, .int v9), (8, .int r5), (9, .int x9)]) [2, 3, 4, 5, 0, 1, 8] rfl ?_
            exact tX11_wouldDo_114 hg  C  ih _ _ _ _ _ _ _ _ hc4 h
          · replace h := x_ift hq10 h
            refine x_iload C 8 rfl dX11_wouldDo_107 ?_
            refine x_goto C (tgt := 114) dX11_wouldDo_109 (by decide) ?_
            refine x_loc (L' := [(0, .ref (ga g 0)), (2, .int x2), (3, .int x3), (4, .ref (ga g c4)), (5, .int v9), (8, .int r5), (9, .int x9)]) [2, 3, 4, 5, 0, 1, 8] rfl ?_
            exact tX11_wouldDo_114 hg  C  ih _ _ _ _ _ _ _ _ hc4 h
set_option maxHeartbeats 4000000 in
set_option maxRecDepth 100000 in
theorem tX11_wouldDo {g : xG} (hg : x_inj (WC g))  (l : Launch) (a0 : Int32) (a1 : Int32) (a2 : Int32) (M : xMem) (post : Int32 → xMem → Prop)  (h : wX11_wouldDo a0 a1 a2 M post) : xMet (WC g) l yX11_wouldDo cX11_wouldDo 10 (some .int) (rm_X11_wouldDo) [.ref (ga g 0), .int a0, .int a1, .int a2] M (pI post) := by
  refine x_enter (own := RX11) (L0 := [(0, .ref (ga g 0)), (1, .int a0), (2, .int a1), (3, .int a2)]) (by decide +kernel) rfl hg (x_stC g) (Nat.le_of_ble_eq_true rfl) rfl (fun x hl C => ?_)
  unfold wX11_wouldDo at h
  refine x_aload_n C 0 rfl rfl dX11_wouldDo_0 ?_
  refine x_iload_n C 1 rfl rfl dX11_wouldDo_1 ?_
  refine x_callV C (st := []) (As := [.int a0]) (c := 0) (ci := 11) (enC_11 (c := 0) rfl) (Nat.le_of_ble_eq_true rfl) rfl (tX11_toldStory hg _ _ _ _  h) wm_X11_154 wi_X11_toldStory wv_X11_toldStory wz_X11 wc_X11_toldStory rfl yd_X11_toldStory rfl ⟨rfl, rfl⟩ ⟨Nat.le_of_ble_eq_true rfl, Nat.le_of_ble_eq_true rfl⟩ (Nat.le_of_ble_eq_true rfl) rfl dX11_wouldDo_2 (x_kr (fun M1 h => ?_) (fun q2 M1 h0 hkq2 h => ?_))
  · replace h := x_ift rfl h
    refine x_astoreN C (L' := [(4, .null), (0, .ref (ga g 0)), (1, .int a0), (2, .int a1), (3, .int a2)]) rfl (Nat.le_of_ble_eq_true rfl) dX11_wouldDo_5 ?_
    refine x_aloadN C 0 rfl dX11_wouldDo_7 ?_
    refine x_ifnullN C (tgt := 32) dX11_wouldDo_9 (by decide) ?_
    refine x_iconst C (v1 := (-1)) dX11_wouldDo_32 (by decide) ?_
    exact x_iret C dX11_wouldDo_33 ⟨_, rfl, h⟩
  · replace h := x_iff h0 h
    refine x_astore C (L' := [(4, .ref (ga g q2)), (0, .ref (ga g 0)), (1, .int a0), (2, .int a1), (3, .int a2)]) rfl (Nat.le_of_ble_eq_true rfl) dX11_wouldDo_5 ?_
    refine x_aload C 0 rfl dX11_wouldDo_7 ?_
    refine x_ifnull_r C dX11_wouldDo_9 ?_
    refine x_aload_n C 1 rfl rfl dX11_wouldDo_12 ?_
    refine x_get C (c := 0) (ci := 11) (k1 := 7) (v1 := .ref (ga g 41)) (enC_11 (c := 0) rfl) (Nat.le_of_ble_eq_true rfl) rfl inX11 (by decide) wf_X11_50 rfl dX11_wouldDo_13 ?_
    refine x_iload_n C 3 rfl rfl dX11_wouldDo_16 ?_
    refine x_callVN C (st := []) (As := [.int a1]) (c := 41) (ci := 2) (enC_2 (c := 41) rfl) (Nat.le_of_ble_eq_true rfl) rfl (tX2_isTold hg _ _ _ _  h) wmn_X11_217 wi_X2_isTold wv_X2_isTold wz_X2 wc_X2_isTold yd_X2_isTold rfl ⟨rfl, rfl⟩ ⟨Nat.le_of_ble_eq_true rfl, Nat.le_of_ble_eq_true rfl⟩ (Nat.le_of_ble_eq_true rfl) rfl dX11_wouldDo_17 (x_ki (fun r4 M3 h => ?_))
    refine x_if_eq C (tgt := 32) dX11_wouldDo_20 (by decide) (fun hq5 => ?_) (fun hq5 => ?_)
    · replace h := x_ift hq5 h
      refine x_iconst C (v1 := (-1)) dX11_wouldDo_32 (by decide) ?_
      exact x_iret C dX11_wouldDo_33 ⟨_, rfl, h⟩
    · replace h := x_iff hq5 h
      refine x_iload_n C 4 rfl rfl dX11_wouldDo_23 ?_
      refine x_iconst C (v1 := 0) dX11_wouldDo_24 (by decide) ?_
      refine x_iconst C (v1 := 2) dX11_wouldDo_25 (by decide) ?_
      refine x_callS C (st := []) (As := [.int a2, .int 0, .int 2]) (tX11_isWithin hg _ _ _ _ _ _  h) wm_X11_145 wsm_X11_isWithin wz_X11 wc_X11_isWithin yd_X11_isWithin rfl ⟨rfl, rfl⟩ ⟨Nat.le_of_ble_eq_true rfl, Nat.le_of_ble_eq_true rfl⟩ (Nat.le_of_ble_eq_true rfl) rfl dX11_wouldDo_26 (x_ki (fun r7 M6 h => ?_))
      refine x_if_ne C (tgt := 34) dX11_wouldDo_29 (by decide) (fun hq8 => ?_) (fun hq8 => ?_)
      · replace h := x_iff hq8 h
        refine x_iconst C (v1 := 0) dX11_wouldDo_34 (by decide) ?_
        refine x_istore C (L' := [(5, .int 0), (4, .ref (ga g q2)), (0, .ref (ga g 0)), (1, .int a0), (2, .int a1), (3, .int a2)]) rfl (Nat.le_of_ble_eq_true rfl) dX11_wouldDo_35 ?_
        refine x_bipush C (v1 := (-2)) dX11_wouldDo_37 (by decide) ?_
        refine x_istore C (L' := [(6, .int (-2)), (5, .int 0), (4, .ref (ga g q2)), (0, .ref (ga g 0)), (1, .int a0), (2, .int a1), (3, .int a2)]) rfl (Nat.le_of_ble_eq_true rfl) dX11_wouldDo_39 ?_
        refine x_bipush C (v1 := (-2)) dX11_wouldDo_41 (by decide) ?_
        refine x_istore C (L' := [(7, .int (-2)), (6, .int (-2)), (5, .int 0), (4, .ref (ga g q2)), (0, .ref (ga g 0)), (1, .int a0), (2, .int a1), (3, .int a2)]) rfl (Nat.le_of_ble_eq_true rfl) dX11_wouldDo_43 ?_
        refine x_iconst C (v1 := 0) dX11_wouldDo_45 (by decide) ?_
        refine x_istore C (L' := [(8, .int 0), (7, .int (-2)), (6, .int (-2)), (5, .int 0), (4, .ref (ga g q2)), (0, .ref (ga g 0)), (1, .int a0), (2, .int a1), (3, .int a2)]) rfl (Nat.le_of_ble_eq_true rfl) dX11_wouldDo_46 ?_
        refine x_iconst C (v1 := 1) dX11_wouldDo_48 (by decide) ?_
        refine x_istore C (L' := [(9, .int 1), (8, .int 0), (7, .int (-2)), (6, .int (-2)), (5, .int 0), (4, .ref (ga g q2)), (0, .ref (ga g 0)), (1, .int a0), (2, .int a1), (3, .int a2)]) rfl (Nat.le_of_ble_eq_true rfl) dX11_wouldDo_49 ?_
        refine x_loc (L' := [(0, .ref (ga g 0)), (2, .int a1), (3, .int a2), (4, .ref (ga g q2)), (5, .int 0), (6, .int (-2)), (7, .int (-2)), (8, .int 0), (9, .int 1)]) [6, 8, 9, 5, 4, 3, 2, 1, 0] rfl ?_
        obtain ⟨n51, h⟩ := h
        exact tX11_wouldDo_51 hg  C   _ _ _ _ _ _ _ _ _ _ hkq2 h
      · replace h := x_ift hq8 h
        refine x_iconst C (v1 := (-1)) dX11_wouldDo_32 (by decide) ?_
        exact x_iret C dX11_wouldDo_33 ⟨_, rfl, h⟩
set_option maxHeartbeats 4000000 in
set_option maxRecDepth 100000 in
theorem tX11_toldStories_24 {g : xG} (hg : x_inj (WC g))  {x : xCx}  {K4 : Int32 → Int32 → xMem → Prop} {post : Int32 → xMem → Prop} (C : xOk (WC g) x cX11_toldStories RX11 3 (some .int) (rm_X11_toldStories) (pI post))  (hK4 : ∀ (x1 : Int32) (x2 : Int32) (M : xMem), K4 x1 x2 M → xW (WC g) x 3 4 [(0, .ref (ga g 0)), (1, .int x1), (2, .int x2)] [] M) (x1 : Int32) (x2 : Int32) (M : xMem)  (h : wX11_toldStories_24 K4 post x1 x2 M) : xW (WC g) x 3 24 [(0, .ref (ga g 0)), (1, .int x1), (2, .int x2)] [] M := by
  unfold wX11_toldStories_24 at h
  obtain ⟨v1, ev1⟩ : ∃ z : Int32, z = x2 + 1 := ⟨_, rfl⟩
  replace h := h v1 ev1
  refine x_iinc C 2 (v1 := v1) (L' := [(2, .int v1), (0, .ref (ga g 0)), (1, .int x1)]) rfl (by rw [ev1]; rfl) rfl (Nat.le_of_ble_eq_true rfl) dX11_toldStories_24 ?_
  refine x_goto C (tgt := 4) dX11_toldStories_27 (by decide) ?_
  refine x_loc (L' := [(0, .ref (ga g 0)), (1, .int x1), (2, .int v1)]) [1, 2, 0] rfl ?_
  exact hK4 _ _ _  h
set_option maxHeartbeats 4000000 in
set_option maxRecDepth 100000 in
theorem tX11_toldStories_4 {g : xG} (hg : x_inj (WC g))  {x : xCx}   {post : Int32 → xMem → Prop} (C : xOk (WC g) x cX11_toldStories RX11 3 (some .int) (rm_X11_toldStories) (pI post))   : ∀ (n : Nat) (x1 : Int32) (x2 : Int32) (M : xMem), wX11_toldStories_4 post n x1 x2 M → xW (WC g) x 3 4 [(0, .ref (ga g 0)), (1, .int x1), (2, .int x2)] [] M := by
  intro n
  induction n with
  | zero =>
    intro x1 x2 M  h
    exact h.elim
  | succ n ih =>
    intro x1 x2 M  h
    rw [wX11_toldStories_4] at h
    refine x_iload_n C 2 rfl rfl dX11_toldStories_4 ?_
    refine x_bipush C (v1 := 6) dX11_toldStories_5 (by decide) ?_
    refine x_icmp_ge C (tgt := 30) dX11_toldStories_7 (by decide) (fun hq1 => ?_) (fun hq1 => ?_)
    · replace h := x_ift hq1 h
      refine x_iload_n C 1 rfl rfl dX11_toldStories_30 ?_
      exact x_iret C dX11_toldStories_31 ⟨_, rfl, h⟩
    · replace h := x_iff hq1 h
      refine x_aload_n C 0 rfl rfl dX11_toldStories_10 ?_
      refine x_iload_n C 2 rfl rfl dX11_toldStories_11 ?_
      refine x_callV C (st := []) (As := [.int x2]) (c := 0) (ci := 11) (enC_11 (c := 0) rfl) (Nat.le_of_ble_eq_true rfl) rfl (tX11_toldStory hg _ _ _ _  h) wm_X11_154 wi_X11_toldStory wv_X11_toldStory wz_X11 wc_X11_toldStory rfl yd_X11_toldStory rfl ⟨rfl, rfl⟩ ⟨Nat.le_of_ble_eq_true rfl, Nat.le_of_ble_eq_true rfl⟩ (Nat.le_of_ble_eq_true rfl) rfl dX11_toldStories_12 (x_kr (fun M2 h => ?_) (fun q3 M2 h0 hkq3 h => ?_))
      · replace h := x_ift rfl h
        refine x_ifnullN C (tgt := 24) dX11_toldStories_15 (by decide) ?_
        exact tX11_toldStories_24 hg  C  ih _ _ _  h
      · replace h := x_iff h0 h
        refine x_ifnull_r C dX11_toldStories_15 ?_
        refine x_iload_n C 1 rfl rfl dX11_toldStories_18 ?_
        refine x_iconst C (v1 := 1) dX11_toldStories_19 (by decide) ?_
        refine x_iload_n C 2 rfl rfl dX11_toldStories_20 ?_
        refine x_ishl C dX11_toldStories_21 ?_
        refine x_ior C dX11_toldStories_22 ?_
        refine x_nm (fun v4 ev4 => ?_)
        replace h := h v4 ev4
        refine x_istore_n C (L' := [(1, .int v4), (0, .ref (ga g 0)), (2, .int x2)]) rfl rfl (Nat.le_of_ble_eq_true rfl) dX11_toldStories_23 ?_
        refine x_loc (L' := [(0, .ref (ga g 0)), (1, .int v4), (2, .int x2)]) [1, 0, 2] rfl ?_
        exact tX11_toldStories_24 hg  C  ih _ _ _  h
set_option maxHeartbeats 4000000 in
set_option maxRecDepth 100000 in
theorem tX11_toldStories {g : xG} (hg : x_inj (WC g))  (l : Launch)  (M : xMem) (post : Int32 → xMem → Prop)  (h : wX11_toldStories  M post) : xMet (WC g) l yX11_toldStories cX11_toldStories 3 (some .int) (rm_X11_toldStories) [.ref (ga g 0)] M (pI post) := by
  refine x_enter (own := RX11) (L0 := [(0, .ref (ga g 0))]) (by decide +kernel) rfl hg (x_stC g) (Nat.le_of_ble_eq_true rfl) rfl (fun x hl C => ?_)
  unfold wX11_toldStories at h
  refine x_iconst C (v1 := 0) dX11_toldStories_0 (by decide) ?_
  refine x_istore_n C (L' := [(1, .int 0), (0, .ref (ga g 0))]) rfl rfl (Nat.le_of_ble_eq_true rfl) dX11_toldStories_1 ?_
  refine x_iconst C (v1 := 0) dX11_toldStories_2 (by decide) ?_
  refine x_istore_n C (L' := [(2, .int 0), (1, .int 0), (0, .ref (ga g 0))]) rfl rfl (Nat.le_of_ble_eq_true rfl) dX11_toldStories_3 ?_
  refine x_loc (L' := [(0, .ref (ga g 0)), (1, .int 0), (2, .int 0)]) [2, 1, 0] rfl ?_
  obtain ⟨n4, h⟩ := h
  exact tX11_toldStories_4 hg  C   _ _ _ _  h
set_option maxHeartbeats 4000000 in
set_option maxRecDepth 100000 in
theorem tX11_areTold {g : xG} (hg : x_inj (WC g))  (l : Launch) (a0 : Int32) (M : xMem) (post : Int32 → xMem → Prop)  (h : wX11_areTold a0 M post) : xMet (WC g) l yX11_areTold cX11_areTold 2 (some .boolean) (rm_X11_areTold) [.ref (ga g 0), .int a0] M (pI post) := by
  refine x_enter (own := RX11) (L0 := [(0, .ref (ga g 0)), (1, .int a0)]) (by decide +kernel) rfl hg (x_stC g) (Nat.le_of_ble_eq_true rfl) rfl (fun x hl C => ?_)
  unfold wX11_areTold at h
  refine x_iload_n C 1 rfl rfl dX11_areTold_0 ?_
  refine x_aload_n C 0 rfl rfl dX11_areTold_1 ?_
  refine x_callV C (st := [.int a0]) (As := []) (c := 0) (ci := 11) (enC_11 (c := 0) rfl) (Nat.le_of_ble_eq_true rfl) rfl (tX11_toldStories hg _  _ _  h) wm_X11_310 wi_X11_toldStories wv_X11_toldStories wz_X11 wc_X11_toldStories rfl yd_X11_toldStories rfl ⟨rfl, rfl⟩ ⟨Nat.le_of_ble_eq_true rfl, Nat.le_of_ble_eq_true rfl⟩ (Nat.le_of_ble_eq_true rfl) rfl dX11_areTold_2 (x_ki (fun r2 M1 h => ?_))
  refine x_iconst C (v1 := (-1)) dX11_areTold_5 (by decide) ?_
  refine x_ixor C dX11_areTold_6 ?_
  refine x_iand C dX11_areTold_7 ?_
  refine x_if_ne C (tgt := 15) dX11_areTold_8 (by decide) (fun hq3 => ?_) (fun hq3 => ?_)
  · replace h := x_iff hq3 h
    refine x_iconst C (v1 := 0) dX11_areTold_15 (by decide) ?_
    exact x_zret C rfl dX11_areTold_16 ⟨_, rfl, h⟩
  · replace h := x_ift hq3 h
    refine x_iconst C (v1 := 1) dX11_areTold_11 (by decide) ?_
    refine x_goto C (tgt := 16) dX11_areTold_12 (by decide) ?_
    exact x_zret C rfl dX11_areTold_16 ⟨_, rfl, h⟩
set_option maxHeartbeats 4000000 in
set_option maxRecDepth 100000 in
theorem tX8_rate_29 {g : xG} (hg : x_inj (WC g))  {x : xCx}   {post : xMem → Prop} (C : xOk (WC g) x cX8_rate RX8 4 none (rm_X8_rate) (pV post))   (x2 : Int32) (x3 : Int32) (M : xMem)  (h : wX8_rate_29 post x2 x3 M) : xW (WC g) x 4 29 [(0, .ref (ga g 86)), (2, .int x2), (3, .int x3)] [] M := by
  unfold wX8_rate_29 at h
  refine x_aload_n C 0 rfl rfl dX8_rate_29 ?_
  refine x_iload_n C 1 rfl rfl dX8_rate_30 ?_
  refine x_put C (c := 86) (ci := 8) (k1 := 2) (u1 := x2) (v1 := .int x2) (ty := .int) (enC_8 (c := 86) rfl) (Nat.le_of_ble_eq_true rfl) rfl inX8 (by decide) (stX8_2 _ _ _) tyX8 tyX8_ok nmX8 wf_X8_18 rfl rfl rfl rfl (Nat.le_of_ble_eq_true rfl) dX8_rate_31 ?_
  refine x_nmM (fun M1 eM1 => ?_)
  replace h := h M1 eM1
  refine x_aload_n C 0 rfl rfl dX8_rate_34 ?_
  refine x_iload_n C 2 rfl rfl dX8_rate_35 ?_
  refine x_put C (c := 86) (ci := 8) (k1 := 3) (u1 := x3) (v1 := .int x3) (ty := .int) (enC_8 (c := 86) rfl) (Nat.le_of_ble_eq_true rfl) rfl inX8 (by decide) (stX8_3 _ _ _) tyX8 tyX8_ok nmX8 wf_X8_22 rfl rfl rfl rfl (Nat.le_of_ble_eq_true rfl) dX8_rate_36 ?_
  refine x_nmM (fun M2 eM2 => ?_)
  replace h := h M2 eM2
  refine x_aload_n C 0 rfl rfl dX8_rate_39 ?_
  refine x_get C (c := 86) (ci := 8) (k1 := 0) (v1 := .ref (ga g 87)) (enC_8 (c := 86) rfl) (Nat.le_of_ble_eq_true rfl) rfl inX8 (by decide) wf_X8_9 rfl dX8_rate_40 ?_
  refine x_iconst C (v1 := 0) dX8_rate_43 (by decide) ?_
  refine x_aload_n C 0 rfl rfl dX8_rate_44 ?_
  refine x_get C (c := 86) (ci := 8) (k1 := 1) (v1 := .ref (ga g 88)) (enC_8 (c := 86) rfl) (Nat.le_of_ble_eq_true rfl) rfl inX8 (by decide) wf_X8_15 rfl dX8_rate_45 ?_
  refine x_iconst C (v1 := 0) dX8_rate_48 (by decide) ?_
  refine x_iconst C (v1 := 5) dX8_rate_49 (by decide) ?_
  obtain ⟨hk3, h⟩ := h
  refine x_acopy C 0 (c := 87) (d := 88) (sp := 0) (dp := 0) (n := 5) (enC_20n (c := 87) (n := 5) rfl rfl) (enC_20n (c := 88) (n := 5) rfl rfl) (Nat.le_of_ble_eq_true rfl) (Nat.le_of_ble_eq_true rfl) rfl wm_X8_60 (by first | exact wna_arraycopy) (wsm_arraycopy) wz_system hk3 (Nat.le_of_ble_eq_true rfl) (Nat.le_of_ble_eq_true rfl) dX8_rate_50 ?_
  refine x_nmM (fun M4 eM4 => ?_)
  replace h := h M4 eM4
  exact x_vret C dX8_rate_53 ⟨rfl, h⟩
set_option maxHeartbeats 4000000 in
set_option maxRecDepth 100000 in
theorem tX8_rate {g : xG} (hg : x_inj (WC g))  (l : Launch) (a0 : Int32) (a1 : Int32) (M : xMem) (post : xMem → Prop)  (h : wX8_rate a0 a1 M post) : xMet (WC g) l yX8_rate cX8_rate 4 none (rm_X8_rate) [.ref (ga g 86), .int a0, .int a1] M (pV post) := by
  refine x_enter (own := RX8) (L0 := [(0, .ref (ga g 86)), (1, .int a0), (2, .int a1)]) (by decide +kernel) rfl hg (x_stC g) (Nat.le_of_ble_eq_true rfl) rfl (fun x hl C => ?_)
  unfold wX8_rate at h
  refine x_iload_n C 1 rfl rfl dX8_rate_0 ?_
  refine x_callS C (st := []) (As := [.int a0]) (tJ6_bitCount_0f7a4 hg _ _ _ _  h) wm_X8_49 wsm_J6_bitCount_0f7a4 wz_J6 wc_J6_bitCount_0f7a4 yd_J6_bitCount_0f7a4 rfl ⟨rfl, rfl⟩ ⟨Nat.le_of_ble_eq_true rfl, Nat.le_of_ble_eq_true rfl⟩ (Nat.le_of_ble_eq_true rfl) rfl dX8_rate_1 (x_ki (fun r2 M1 h => ?_))
  refine x_istore_n C (L' := [(3, .int r2), (0, .ref (ga g 86)), (1, .int a0), (2, .int a1)]) rfl rfl (Nat.le_of_ble_eq_true rfl) dX8_rate_4 ?_
  refine x_iload_n C 3 rfl rfl dX8_rate_5 ?_
  refine x_aload_n C 1 rfl rfl dX8_rate_6 ?_
  refine x_get C (c := 86) (ci := 8) (k1 := 2) (v1 := .int (gi M1 86 2)) (enC_8 (c := 86) rfl) (Nat.le_of_ble_eq_true rfl) rfl inX8 (by decide) wf_X8_18 rfl dX8_rate_7 ?_
  refine x_icmp_lt C (tgt := 29) dX8_rate_10 (by decide) (fun hq3 => ?_) (fun hq3 => ?_)
  · replace h := x_ift hq3 h
    refine x_loc (L' := [(0, .ref (ga g 86)), (2, .int a1), (3, .int r2)]) [1, 3, 0] rfl ?_
    exact tX8_rate_29 hg  C   _ _ _  h
  · replace h := x_iff hq3 h
    refine x_iload_n C 3 rfl rfl dX8_rate_13 ?_
    refine x_aload_n C 1 rfl rfl dX8_rate_14 ?_
    refine x_get C (c := 86) (ci := 8) (k1 := 2) (v1 := .int (gi M1 86 2)) (enC_8 (c := 86) rfl) (Nat.le_of_ble_eq_true rfl) rfl inX8 (by decide) wf_X8_18 rfl dX8_rate_15 ?_
    refine x_icmp_ne C (tgt := 53) dX8_rate_18 (by decide) (fun hq4 => ?_) (fun hq4 => ?_)
    · replace h := x_iff hq4 h
      exact x_vret C dX8_rate_53 ⟨rfl, h⟩
    · replace h := x_ift hq4 h
      refine x_iload_n C 0 rfl rfl dX8_rate_21 ?_
      refine x_aload_n C 1 rfl rfl dX8_rate_22 ?_
      refine x_get C (c := 86) (ci := 8) (k1 := 3) (v1 := .int (gi M1 86 3)) (enC_8 (c := 86) rfl) (Nat.le_of_ble_eq_true rfl) rfl inX8 (by decide) wf_X8_22 rfl dX8_rate_23 ?_
      refine x_icmp_ge C (tgt := 53) dX8_rate_26 (by decide) (fun hq5 => ?_) (fun hq5 => ?_)
      · replace h := x_ift hq5 h
        exact x_vret C dX8_rate_53 ⟨rfl, h⟩
      · replace h := x_iff hq5 h
        refine x_loc (L' := [(0, .ref (ga g 86)), (2, .int a1), (3, .int r2)]) [1, 3, 0] rfl ?_
        exact tX8_rate_29 hg  C   _ _ _  h
set_option maxHeartbeats 4000000 in
set_option maxRecDepth 100000 in
theorem tX8_place_147 {g : xG} (hg : x_inj (WC g)) (d : Nat) {rec : Int32 → Int32 → Int32 → Int32 → xMem → (xMem → Prop) → Prop} (hrec : ∀ (l : Launch) (a1 : Int32) (a2 : Int32) (a3 : Int32) (a4 : Int32) (M : xMem) (post : xMem → Prop), rec a1 a2 a3 a4 M post → xMet (WC g) l yX8_place cX8_place 11 none (rm_X8_place d) [.ref (ga g 86), .ref (ga g 2), .int a1, .int a2, .int a3, .int a4] M (pV post)) {x : xCx}  {K15 : Int32 → Int32 → Int32 → Int32 → Int32 → xMem → Prop} {post : xMem → Prop} (C : xOk (WC g) x cX8_place RX8 11 none (rm_X8_place (d + 1)) (pV post))  (hK15 : ∀ (x2 : Int32) (x3 : Int32) (x4 : Int32) (x5 : Int32) (x6 : Int32) (M : xMem), K15 x2 x3 x4 x5 x6 M → xW (WC g) x 11 15 [(0, .ref (ga g 86)), (1, .ref (ga g 2)), (2, .int x2), (3, .int x3), (4, .int x4), (5, .int x5), (6, .int x6)] [] M) (x2 : Int32) (x3 : Int32) (x4 : Int32) (x5 : Int32) (x6 : Int32) (M : xMem)  (h : wX8_place_at_147 rec K15 post x2 x3 x4 x5 x6 M) : xW (WC g) x 11 147 [(0, .ref (ga g 86)), (1, .ref (ga g 2)), (2, .int x2), (3, .int x3), (4, .int x4), (5, .int x5), (6, .int x6)] [] M := by
  unfold wX8_place_at_147 at h
  obtain ⟨v1, ev1⟩ : ∃ z : Int32, z = x6 + 1 := ⟨_, rfl⟩
  replace h := h v1 ev1
  refine x_iinc C 6 (v1 := v1) (L' := [(6, .int v1), (0, .ref (ga g 86)), (1, .ref (ga g 2)), (2, .int x2), (3, .int x3), (4, .int x4), (5, .int x5)]) rfl (by rw [ev1]; rfl) rfl (Nat.le_of_ble_eq_true rfl) dX8_place_147 ?_
  refine x_goto C (tgt := 15) dX8_place_150 (by decide) ?_
  refine x_loc (L' := [(0, .ref (ga g 86)), (1, .ref (ga g 2)), (2, .int x2), (3, .int x3), (4, .int x4), (5, .int x5), (6, .int v1)]) [1, 2, 3, 4, 5, 6, 0] rfl ?_
  exact hK15 _ _ _ _ _ _  h
set_option maxHeartbeats 4000000 in
set_option maxRecDepth 100000 in
theorem tX8_place_110 {g : xG} (hg : x_inj (WC g)) (d : Nat) {rec : Int32 → Int32 → Int32 → Int32 → xMem → (xMem → Prop) → Prop} (hrec : ∀ (l : Launch) (a1 : Int32) (a2 : Int32) (a3 : Int32) (a4 : Int32) (M : xMem) (post : xMem → Prop), rec a1 a2 a3 a4 M post → xMet (WC g) l yX8_place cX8_place 11 none (rm_X8_place d) [.ref (ga g 86), .ref (ga g 2), .int a1, .int a2, .int a3, .int a4] M (pV post)) {x : xCx}  {K15 : Int32 → Int32 → Int32 → Int32 → Int32 → xMem → Prop} {post : xMem → Prop} (C : xOk (WC g) x cX8_place RX8 11 none (rm_X8_place (d + 1)) (pV post))  (hK15 : ∀ (x2 : Int32) (x3 : Int32) (x4 : Int32) (x5 : Int32) (x6 : Int32) (M : xMem), K15 x2 x3 x4 x5 x6 M → xW (WC g) x 11 15 [(0, .ref (ga g 86)), (1, .ref (ga g 2)), (2, .int x2), (3, .int x3), (4, .int x4), (5, .int x5), (6, .int x6)] [] M) (x2 : Int32) (x3 : Int32) (x4 : Int32) (x5 : Int32) (x6 : Int32) (x8 : Int32) (x9 : Int32) (M : xMem)  (h : wX8_place_at_110 rec K15 post x2 x3 x4 x5 x6 x8 x9 M) : xW (WC g) x 11 110 [(0, .ref (ga g 86)), (1, .ref (ga g 2)), (2, .int x2), (3, .int x3), (4, .int x4), (5, .int x5), (6, .int x6), (8, .int x8), (9, .int x9)] [] M := by
  unfold wX8_place_at_110 at h
  refine x_aload_n C 0 rfl rfl dX8_place_110 ?_
  refine x_get C (c := 86) (ci := 8) (k1 := 0) (v1 := .ref (ga g 87)) (enC_8 (c := 86) rfl) (Nat.le_of_ble_eq_true rfl) rfl inX8 (by decide) wf_X8_9 rfl dX8_place_111 ?_
  refine x_iload_n C 2 rfl rfl dX8_place_114 ?_
  refine x_iload C 6 rfl dX8_place_115 ?_
  obtain ⟨hi1, h⟩ := h
  refine x_iast C 0 (c := 87) (enC_20n (c := 87) (n := 5) rfl rfl) (Nat.le_of_ble_eq_true rfl) rfl hi1 dX8_place_117 ?_
  refine x_nmM (fun M2 eM2 => ?_)
  replace h := h M2 eM2
  refine x_iload C 7 rfl dX8_place_118 ?_
  refine x_aload_n C 0 rfl rfl dX8_place_120 ?_
  refine x_get C (c := 86) (ci := 8) (k1 := 2) (v1 := .int (gi M2 86 2)) (enC_8 (c := 86) rfl) (Nat.le_of_ble_eq_true rfl) rfl inX8 (by decide) wf_X8_18 rfl dX8_place_121 ?_
  refine x_icmp_gt C (tgt := 147) dX8_place_124 (by decide) (fun hq3 => ?_) (fun hq3 => ?_)
  · replace h := x_ift hq3 h
    refine x_loc (L' := [(0, .ref (ga g 86)), (1, .ref (ga g 2)), (2, .int x2), (3, .int x3), (4, .int x4), (5, .int x5), (6, .int x6)]) [0, 1, 2, 3, 4, 5, 6] rfl ?_
    exact tX8_place_147 hg d hrec C  hK15 _ _ _ _ _ _  h
  · replace h := x_iff hq3 h
    refine x_aload_n C 0 rfl rfl dX8_place_127 ?_
    refine x_aload_n C 1 rfl rfl dX8_place_128 ?_
    refine x_iload_n C 2 rfl rfl dX8_place_129 ?_
    refine x_iconst C (v1 := 1) dX8_place_130 (by decide) ?_
    refine x_iadd C dX8_place_131 ?_
    refine x_iload_n C 3 rfl rfl dX8_place_132 ?_
    refine x_iconst C (v1 := 1) dX8_place_133 (by decide) ?_
    refine x_iload C 6 rfl dX8_place_134 ?_
    refine x_ishl C dX8_place_136 ?_
    refine x_iconst C (v1 := (-1)) dX8_place_137 (by decide) ?_
    refine x_ixor C dX8_place_138 ?_
    refine x_iand C dX8_place_139 ?_
    refine x_iload C 8 rfl dX8_place_140 ?_
    refine x_iload C 7 rfl dX8_place_142 ?_
    refine x_callV C (st := []) (As := [.ref (ga g 2), .int (x2 + 1), .int (x3 &&& ((1 <<< (x6 &&& 31)) ^^^ (-1))), .int x9, .int x8]) (c := 86) (ci := 8) (enC_8 (c := 86) rfl) (Nat.le_of_ble_eq_true rfl) rfl (hrec _ _ _ _ _ _ _  h) wm_X8_25 wi_X8_place wv_X8_place wz_X8 wc_X8_place rfl yd_X8_place rfl ⟨rfl, rfl⟩ (by simp only [rm_X8_place, rm_X8_place]; omega) (Nat.le_of_ble_eq_true rfl) rfl dX8_place_144 (x_kv (fun M4 h => ?_))
    refine x_loc (L' := [(0, .ref (ga g 86)), (1, .ref (ga g 2)), (2, .int x2), (3, .int x3), (4, .int x4), (5, .int x5), (6, .int x6)]) [0, 1, 2, 3, 4, 5, 6] rfl ?_
    exact tX8_place_147 hg d hrec C  hK15 _ _ _ _ _ _  h
set_option maxHeartbeats 4000000 in
set_option maxRecDepth 100000 in
theorem tX8_place_58 {g : xG} (hg : x_inj (WC g)) (d : Nat) {rec : Int32 → Int32 → Int32 → Int32 → xMem → (xMem → Prop) → Prop} (hrec : ∀ (l : Launch) (a1 : Int32) (a2 : Int32) (a3 : Int32) (a4 : Int32) (M : xMem) (post : xMem → Prop), rec a1 a2 a3 a4 M post → xMet (WC g) l yX8_place cX8_place 11 none (rm_X8_place d) [.ref (ga g 86), .ref (ga g 2), .int a1, .int a2, .int a3, .int a4] M (pV post)) {x : xCx}  {K15 : Int32 → Int32 → Int32 → Int32 → Int32 → xMem → Prop} {post : xMem → Prop} (C : xOk (WC g) x cX8_place RX8 11 none (rm_X8_place (d + 1)) (pV post))  (hK15 : ∀ (x2 : Int32) (x3 : Int32) (x4 : Int32) (x5 : Int32) (x6 : Int32) (M : xMem), K15 x2 x3 x4 x5 x6 M → xW (WC g) x 11 15 [(0, .ref (ga g 86)), (1, .ref (ga g 2)), (2, .int x2), (3, .int x3), (4, .int x4), (5, .int x5), (6, .int x6)] [] M) : ∀ (n : Nat) (x2 : Int32) (x3 : Int32) (x4 : Int32) (x5 : Int32) (x6 : Int32) (c7 : Nat) (x8 : Int32) (x9 : Int32) (x10 : Int32) (M : xMem), kC c7 = 9 → wX8_place_at_58 rec K15 post n x2 x3 x4 x5 x6 c7 x8 x9 x10 M → xW (WC g) x 11 58 [(0, .ref (ga g 86)), (1, .ref (ga g 2)), (2, .int x2), (3, .int x3), (4, .int x4), (5, .int x5), (6, .int x6), (7, .ref (ga g c7)), (8, .int x8), (9, .int x9), (10, .int x10)] [] M := by
  intro n
  induction n with
  | zero =>
    intro x2 x3 x4 x5 x6 c7 x8 x9 x10 M hc7 h
    exact h.elim
  | succ n ih =>
    intro x2 x3 x4 x5 x6 c7 x8 x9 x10 M hc7 h
    rw [wX8_place_at_58] at h
    refine x_iload C 10 rfl dX8_place_58 ?_
    refine x_aload C 7 rfl dX8_place_60 ?_
    refine x_getN C (c := c7) (ci := 9) (k1 := 1) (v1 := .int (gi M c7 1)) (enC_9 (c := c7) hc7) (kC_lt hc7 (by decide)) rfl inX9 (by decide) wfn_X8_37 rfl dX8_place_62 ?_
    refine x_icmp_ge C (tgt := 110) dX8_place_65 (by decide) (fun hq1 => ?_) (fun hq1 => ?_)
    · replace h := x_ift hq1 h
      refine x_loc (L' := [(0, .ref (ga g 86)), (1, .ref (ga g 2)), (2, .int x2), (3, .int x3), (4, .int x4), (5, .int x5), (6, .int x6), (8, .int x8), (9, .int x9)]) [0, 1, 2, 3, 4, 5, 6, 8, 9] rfl ?_
      exact tX8_place_110 hg d hrec C  hK15 _ _ _ _ _ _ _ _  h
    · replace h := x_iff hq1 h
      refine x_iload C 8 rfl dX8_place_68 ?_
      refine x_aload_n C 0 rfl rfl dX8_place_70 ?_
      refine x_get C (c := 86) (ci := 8) (k1 := 2) (v1 := .int (gi M 86 2)) (enC_8 (c := 86) rfl) (Nat.le_of_ble_eq_true rfl) rfl inX8 (by decide) wf_X8_18 rfl dX8_place_71 ?_
      refine x_icmp_gt C (tgt := 110) dX8_place_74 (by decide) (fun hq2 => ?_) (fun hq2 => ?_)
      · replace h := x_ift hq2 h
        refine x_loc (L' := [(0, .ref (ga g 86)), (1, .ref (ga g 2)), (2, .int x2), (3, .int x3), (4, .int x4), (5, .int x5), (6, .int x6), (8, .int x8), (9, .int x9)]) [0, 1, 2, 3, 4, 5, 6, 8, 9] rfl ?_
        exact tX8_place_110 hg d hrec C  hK15 _ _ _ _ _ _ _ _  h
      · replace h := x_iff hq2 h
        refine x_aload C 7 rfl dX8_place_77 ?_
        refine x_getN C (c := c7) (ci := 9) (k1 := 0) (v1 := .ref (ga g ((c7 + 1)))) (enC_9 (c := c7) hc7) (kC_lt hc7 (by decide)) rfl inX9 (by decide) wfn_X8_42 rfl dX8_place_79 ?_
        refine x_iload C 10 rfl dX8_place_82 ?_
        obtain ⟨hi3, h⟩ := h
        refine x_iald C 0 (c := (c7 + 1)) (enC_20n (c := (c7 + 1)) (n := 72) (krX9_1 hc7) (lrX9_1 hc7)) (kC_lt (krX9_1 hc7) (by decide)) rfl hi3 dX8_place_84 ?_
        refine x_iload C 9 rfl dX8_place_85 ?_
        refine x_callSN C (st := []) (As := [.int (gi M ((c7 + 1)) x10.toNatClampNeg), .int x9]) (tX9_behindTurn hg _ _ _ _ _  h) wmn_X8_45 wsm_X9_behindTurn wz_X9 wc_X9_behindTurn yd_X9_behindTurn rfl ⟨rfl, rfl⟩ ⟨Nat.le_of_ble_eq_true rfl, Nat.le_of_ble_eq_true rfl⟩ (Nat.le_of_ble_eq_true rfl) rfl dX8_place_87 (x_ki (fun r5 M4 h => ?_))
        refine x_istore C (L' := [(9, .int r5), (0, .ref (ga g 86)), (1, .ref (ga g 2)), (2, .int x2), (3, .int x3), (4, .int x4), (5, .int x5), (6, .int x6), (7, .ref (ga g c7)), (8, .int x8), (10, .int x10)]) rfl (Nat.le_of_ble_eq_true rfl) dX8_place_90 ?_
        refine x_iload C 9 rfl dX8_place_92 ?_
        refine x_iload C 0 rfl dX8_place_94 ?_
        refine x_callS C (st := [.int x8]) (As := [.int r5]) (tJ6_bitCount_0f7a4 hg _ _ _ _  h) wm_X8_49 wsm_J6_bitCount_0f7a4 wz_J6 wc_J6_bitCount_0f7a4 yd_J6_bitCount_0f7a4 rfl ⟨rfl, rfl⟩ ⟨Nat.le_of_ble_eq_true rfl, Nat.le_of_ble_eq_true rfl⟩ (Nat.le_of_ble_eq_true rfl) rfl dX8_place_96 (x_ki (fun r7 M6 h => ?_))
        refine x_callS C (st := []) (As := [.int x8, .int r7]) (tJ9_max_7cf53 hg _ _ _ _ _  h) wm_X8_55 wsm_J9_max_7cf53 wz_J9 wc_J9_max_7cf53 yd_J9_max_7cf53 rfl ⟨rfl, rfl⟩ ⟨Nat.le_of_ble_eq_true rfl, Nat.le_of_ble_eq_true rfl⟩ (Nat.le_of_ble_eq_true rfl) rfl dX8_place_99 (x_ki (fun r9 M8 h => ?_))
        refine x_istore C (L' := [(8, .int r9), (9, .int r5), (0, .ref (ga g 86)), (1, .ref (ga g 2)), (2, .int x2), (3, .int x3), (4, .int x4), (5, .int x5), (6, .int x6), (7, .ref (ga g c7)), (10, .int x10)]) rfl (Nat.le_of_ble_eq_true rfl) dX8_place_102 ?_
        obtain ⟨v10, ev10⟩ : ∃ z : Int32, z = x10 + 1 := ⟨_, rfl⟩
        replace h := h v10 ev10
        refine x_iinc C 10 (v1 := v10) (L' := [(10, .int v10), (8, .int r9), (9, .int r5), (0, .ref (ga g 86)), (1, .ref (ga g 2)), (2, .int x2), (3, .int x3), (4, .int x4), (5, .int x5), (6, .int x6), (7, .ref (ga g c7))]) rfl (by rw [ev10]; rfl) rfl (Nat.le_of_ble_eq_true rfl) dX8_place_104 ?_
        refine x_goto C (tgt := 58) dX8_place_107 (by decide) ?_
        refine x_loc (L' := [(0, .ref (ga g 86)), (1, .ref (ga g 2)), (2, .int x2), (3, .int x3), (4, .int x4), (5, .int x5), (6, .int x6), (7, .ref (ga g c7)), (8, .int r9), (9, .int r5), (10, .int v10)]) [3, 4, 5, 6, 7, 8, 9, 10, 1, 2, 0] rfl ?_
        exact ih _ _ _ _ _ _ _ _ _ _ hc7 h
set_option maxHeartbeats 4000000 in
set_option maxRecDepth 100000 in
theorem tX8_place_15 {g : xG} (hg : x_inj (WC g)) (d : Nat) {rec : Int32 → Int32 → Int32 → Int32 → xMem → (xMem → Prop) → Prop} (hrec : ∀ (l : Launch) (a1 : Int32) (a2 : Int32) (a3 : Int32) (a4 : Int32) (M : xMem) (post : xMem → Prop), rec a1 a2 a3 a4 M post → xMet (WC g) l yX8_place cX8_place 11 none (rm_X8_place d) [.ref (ga g 86), .ref (ga g 2), .int a1, .int a2, .int a3, .int a4] M (pV post)) {x : xCx}   {post : xMem → Prop} (C : xOk (WC g) x cX8_place RX8 11 none (rm_X8_place (d + 1)) (pV post))   : ∀ (n : Nat) (x2 : Int32) (x3 : Int32) (x4 : Int32) (x5 : Int32) (x6 : Int32) (M : xMem), wX8_place_at_15 rec post n x2 x3 x4 x5 x6 M → xW (WC g) x 11 15 [(0, .ref (ga g 86)), (1, .ref (ga g 2)), (2, .int x2), (3, .int x3), (4, .int x4), (5, .int x5), (6, .int x6)] [] M := by
  intro n
  induction n with
  | zero =>
    intro x2 x3 x4 x5 x6 M  h
    exact h.elim
  | succ n ih =>
    intro x2 x3 x4 x5 x6 M  h
    rw [wX8_place_at_15] at h
    refine x_iload C 6 rfl dX8_place_15 ?_
    refine x_aload_n C 1 rfl rfl dX8_place_17 ?_
    refine x_alens C (c := 2) (v1 := 6) (enC_22 (c := 2) rfl) (Nat.le_of_ble_eq_true rfl) rfl rfl dX8_place_18 ?_
    refine x_icmp_ge C (tgt := 153) dX8_place_19 (by decide) (fun hq1 => ?_) (fun hq1 => ?_)
    · replace h := x_ift hq1 h
      exact x_vret C dX8_place_153 ⟨rfl, h⟩
    · replace h := x_iff hq1 h
      refine x_iload_n C 2 rfl rfl dX8_place_22 ?_
      refine x_iconst C (v1 := 5) dX8_place_23 (by decide) ?_
      refine x_icmp_ge C (tgt := 153) dX8_place_24 (by decide) (fun hq2 => ?_) (fun hq2 => ?_)
      · replace h := x_ift hq2 h
        exact x_vret C dX8_place_153 ⟨rfl, h⟩
      · replace h := x_iff hq2 h
        refine x_aload_n C 1 rfl rfl dX8_place_27 ?_
        refine x_iload C 6 rfl dX8_place_28 ?_
        obtain ⟨hi3, h⟩ := h
        refine x_sald C hi3 dX8_place_30 ?_
        refine x_astore C (L' := [(7, .ref (ga g ((3 + 2 * x6.toNatClampNeg)))), (0, .ref (ga g 86)), (1, .ref (ga g 2)), (2, .int x2), (3, .int x3), (4, .int x4), (5, .int x5), (6, .int x6)]) rfl (Nat.le_of_ble_eq_true rfl) dX8_place_31 ?_
        refine x_iload_n C 4 rfl rfl dX8_place_33 ?_
        refine x_iload C 7 rfl dX8_place_34 ?_
        refine x_callSN C (st := []) (As := [.int x3, .int x6]) (tX11_has hg _ _ _ _ _  h) wmn_X8_33 wsm_X11_has wz_X11 wc_X11_has yd_X11_has rfl ⟨rfl, rfl⟩ ⟨Nat.le_of_ble_eq_true rfl, Nat.le_of_ble_eq_true rfl⟩ (Nat.le_of_ble_eq_true rfl) rfl dX8_place_36 (x_ki (fun r5 M4 h => ?_))
        refine x_if_eq C (tgt := 147) dX8_place_39 (by decide) (fun hq6 => ?_) (fun hq6 => ?_)
        · replace h := x_ift hq6 h
          refine x_loc (L' := [(0, .ref (ga g 86)), (1, .ref (ga g 2)), (2, .int x2), (3, .int x3), (4, .int x4), (5, .int x5), (6, .int x6)]) [1, 2, 3, 4, 5, 6, 7] rfl ?_
          exact tX8_place_147 hg d hrec C  ih _ _ _ _ _ _  h
        · replace h := x_iff hq6 h
          refine x_aload C 0 rfl dX8_place_42 ?_
          refine x_ifnull_r C dX8_place_44 ?_
          refine x_iload C 6 rfl dX8_place_47 ?_
          refine x_istore C (L' := [(8, .int x5), (7, .ref (ga g ((3 + 2 * x6.toNatClampNeg)))), (0, .ref (ga g 86)), (1, .ref (ga g 2)), (2, .int x2), (3, .int x3), (4, .int x4), (5, .int x5), (6, .int x6)]) rfl (Nat.le_of_ble_eq_true rfl) dX8_place_49 ?_
          refine x_iload C 6 rfl dX8_place_51 ?_
          refine x_istore C (L' := [(9, .int x4), (8, .int x5), (7, .ref (ga g ((3 + 2 * x6.toNatClampNeg)))), (0, .ref (ga g 86)), (1, .ref (ga g 2)), (2, .int x2), (3, .int x3), (4, .int x4), (5, .int x5), (6, .int x6)]) rfl (Nat.le_of_ble_eq_true rfl) dX8_place_53 ?_
          refine x_iconst C (v1 := 0) dX8_place_55 (by decide) ?_
          refine x_istore C (L' := [(10, .int 0), (9, .int x4), (8, .int x5), (7, .ref (ga g ((3 + 2 * x6.toNatClampNeg)))), (0, .ref (ga g 86)), (1, .ref (ga g 2)), (2, .int x2), (3, .int x3), (4, .int x4), (5, .int x5), (6, .int x6)]) rfl (Nat.le_of_ble_eq_true rfl) dX8_place_56 ?_
          refine x_loc (L' := [(0, .ref (ga g 86)), (1, .ref (ga g 2)), (2, .int x2), (3, .int x3), (4, .int x4), (5, .int x5), (6, .int x6), (7, .ref (ga g ((3 + 2 * x6.toNatClampNeg)))), (8, .int x5), (9, .int x4), (10, .int 0)]) [4, 5, 6, 7, 8, 9, 10, 3, 2, 1, 0] rfl ?_
          obtain ⟨n58, h⟩ := h
          exact tX8_place_58 hg d hrec C  ih _ _ _ _ _ _ _ _ _ _ _ (kst hi3) h
set_option maxHeartbeats 4000000 in
set_option maxRecDepth 100000 in
theorem tX8_place_12 {g : xG} (hg : x_inj (WC g)) (d : Nat) {rec : Int32 → Int32 → Int32 → Int32 → xMem → (xMem → Prop) → Prop} (hrec : ∀ (l : Launch) (a1 : Int32) (a2 : Int32) (a3 : Int32) (a4 : Int32) (M : xMem) (post : xMem → Prop), rec a1 a2 a3 a4 M post → xMet (WC g) l yX8_place cX8_place 11 none (rm_X8_place d) [.ref (ga g 86), .ref (ga g 2), .int a1, .int a2, .int a3, .int a4] M (pV post)) {x : xCx}   {post : xMem → Prop} (C : xOk (WC g) x cX8_place RX8 11 none (rm_X8_place (d + 1)) (pV post))   (x2 : Int32) (x3 : Int32) (x4 : Int32) (x5 : Int32) (M : xMem)  (h : wX8_place_at_12 rec post x2 x3 x4 x5 M) : xW (WC g) x 11 12 [(0, .ref (ga g 86)), (1, .ref (ga g 2)), (2, .int x2), (3, .int x3), (4, .int x4), (5, .int x5)] [] M := by
  unfold wX8_place_at_12 at h
  refine x_iconst C (v1 := 0) dX8_place_12 (by decide) ?_
  refine x_istore C (L' := [(6, .int 0), (0, .ref (ga g 86)), (1, .ref (ga g 2)), (2, .int x2), (3, .int x3), (4, .int x4), (5, .int x5)]) rfl (Nat.le_of_ble_eq_true rfl) dX8_place_13 ?_
  refine x_loc (L' := [(0, .ref (ga g 86)), (1, .ref (ga g 2)), (2, .int x2), (3, .int x3), (4, .int x4), (5, .int x5), (6, .int 0)]) [1, 2, 3, 4, 5, 6, 0] rfl ?_
  obtain ⟨n15, h⟩ := h
  exact tX8_place_15 hg d hrec C   _ _ _ _ _ _ _  h
set_option maxHeartbeats 4000000 in
set_option maxRecDepth 100000 in
theorem tX8_place_at {g : xG} (hg : x_inj (WC g)) (d : Nat) {rec : Int32 → Int32 → Int32 → Int32 → xMem → (xMem → Prop) → Prop} (hrec : ∀ (l : Launch) (a1 : Int32) (a2 : Int32) (a3 : Int32) (a4 : Int32) (M : xMem) (post : xMem → Prop), rec a1 a2 a3 a4 M post → xMet (WC g) l yX8_place cX8_place 11 none (rm_X8_place d) [.ref (ga g 86), .ref (ga g 2), .int a1, .int a2, .int a3, .int a4] M (pV post)) (l : Launch) (a1 : Int32) (a2 : Int32) (a3 : Int32) (a4 : Int32) (M : xMem) (post : xMem → Prop)  (h : wX8_place_at rec a1 a2 a3 a4 M post) : xMet (WC g) l yX8_place cX8_place 11 none (rm_X8_place (d + 1)) [.ref (ga g 86), .ref (ga g 2), .int a1, .int a2, .int a3, .int a4] M (pV post) := by
  refine x_enter (own := RX8) (L0 := [(0, .ref (ga g 86)), (1, .ref (ga g 2)), (2, .int a1), (3, .int a2), (4, .int a3), (5, .int a4)]) (by decide +kernel) rfl hg (x_stC g) (Nat.le_of_ble_eq_true rfl) rfl (fun x hl C => ?_)
  unfold wX8_place_at at h
  refine x_iload_n C 3 rfl rfl dX8_place_0 ?_
  refine x_if_ne C (tgt := 12) dX8_place_1 (by decide) (fun hq1 => ?_) (fun hq1 => ?_)
  · replace h := x_iff hq1 h
    exact tX8_place_12 hg d hrec C   _ _ _ _ _  h
  · replace h := x_ift hq1 h
    refine x_aload_n C 0 rfl rfl dX8_place_4 ?_
    refine x_iload C 4 rfl dX8_place_5 ?_
    refine x_iload C 5 rfl dX8_place_7 ?_
    refine x_callV C (st := []) (As := [.int a3, .int a4]) (c := 86) (ci := 8) (enC_8 (c := 86) rfl) (Nat.le_of_ble_eq_true rfl) rfl (tX8_rate hg _ _ _ _ _  h) wm_X8_29 wi_X8_rate wv_X8_rate wz_X8 wc_X8_rate rfl yd_X8_rate rfl ⟨rfl, rfl⟩ ⟨Nat.le_of_ble_eq_true rfl, Nat.le_of_ble_eq_true rfl⟩ (Nat.le_of_ble_eq_true rfl) rfl dX8_place_9 (x_kv (fun M2 h => ?_))
    exact tX8_place_12 hg d hrec C   _ _ _ _ _  h
theorem tX8_place {g : xG} (hg : x_inj (WC g)) : ∀ (d : Nat) (l : Launch) (a1 : Int32) (a2 : Int32) (a3 : Int32) (a4 : Int32) (M : xMem) (post : xMem → Prop), wX8_place d a1 a2 a3 a4 M post → xMet (WC g) l yX8_place cX8_place 11 none (rm_X8_place d) [.ref (ga g 86), .ref (ga g 2), .int a1, .int a2, .int a3, .int a4] M (pV post) := by
  intro d
  induction d with
  | zero =>
    intro l a1 a2 a3 a4 M post  h
    exact h.elim
  | succ d ih =>
    intro l a1 a2 a3 a4 M post  h
    exact tX8_place_at hg d ih l a1 a2 a3 a4 M post  h
set_option maxHeartbeats 4000000 in
set_option maxRecDepth 100000 in
theorem tX8_solve {g : xG} (hg : x_inj (WC g))  (l : Launch) (a1 : Int32) (M : xMem) (post : xMem → Prop)  (h : wX8_solve a1 M post) : xMet (WC g) l yX8_solve cX8_solve 3 none (rm_X8_solve) [.ref (ga g 86), .ref (ga g 2), .int a1] M (pV post) := by
  refine x_enter (own := RX8) (L0 := [(0, .ref (ga g 86)), (1, .ref (ga g 2)), (2, .int a1)]) (by decide +kernel) rfl hg (x_stC g) (Nat.le_of_ble_eq_true rfl) rfl (fun x hl C => ?_)
  unfold wX8_solve at h
  refine x_aload_n C 0 rfl rfl dX8_solve_0 ?_
  refine x_bipush C (v1 := 11) dX8_solve_1 (by decide) ?_
  refine x_put C (c := 86) (ci := 8) (k1 := 2) (u1 := 11) (v1 := .int 11) (ty := .int) (enC_8 (c := 86) rfl) (Nat.le_of_ble_eq_true rfl) rfl inX8 (by decide) (stX8_2 _ _ _) tyX8 tyX8_ok nmX8 wf_X8_18 rfl rfl rfl rfl (Nat.le_of_ble_eq_true rfl) dX8_solve_3 ?_
  refine x_nmM (fun M1 eM1 => ?_)
  replace h := h M1 eM1
  refine x_aload_n C 0 rfl rfl dX8_solve_6 ?_
  refine x_bipush C (v1 := 11) dX8_solve_7 (by decide) ?_
  refine x_put C (c := 86) (ci := 8) (k1 := 3) (u1 := 11) (v1 := .int 11) (ty := .int) (enC_8 (c := 86) rfl) (Nat.le_of_ble_eq_true rfl) rfl inX8 (by decide) (stX8_3 _ _ _) tyX8 tyX8_ok nmX8 wf_X8_22 rfl rfl rfl rfl (Nat.le_of_ble_eq_true rfl) dX8_solve_9 ?_
  refine x_nmM (fun M2 eM2 => ?_)
  replace h := h M2 eM2
  refine x_aload_n C 0 rfl rfl dX8_solve_12 ?_
  refine x_aload_n C 1 rfl rfl dX8_solve_13 ?_
  refine x_iconst C (v1 := 0) dX8_solve_14 (by decide) ?_
  refine x_iload_n C 2 rfl rfl dX8_solve_15 ?_
  refine x_iconst C (v1 := 0) dX8_solve_16 (by decide) ?_
  refine x_iconst C (v1 := 0) dX8_solve_17 (by decide) ?_
  refine x_callV C (st := []) (As := [.ref (ga g 2), .int 0, .int a1, .int 0, .int 0]) (c := 86) (ci := 8) (enC_8 (c := 86) rfl) (Nat.le_of_ble_eq_true rfl) rfl (tX8_place hg 8 _ _ _ _ _ _ _  h) wm_X8_25 wi_X8_place wv_X8_place wz_X8 wc_X8_place rfl yd_X8_place rfl ⟨rfl, rfl⟩ ⟨Nat.le_of_ble_eq_true rfl, Nat.le_of_ble_eq_true rfl⟩ (Nat.le_of_ble_eq_true rfl) rfl dX8_solve_18 (x_kv (fun M3 h => ?_))
  exact x_vret C dX8_solve_21 ⟨rfl, h⟩
set_option maxHeartbeats 4000000 in
set_option maxRecDepth 100000 in
theorem tX11_series_64 {g : xG} (hg : x_inj (WC g))  {x : xCx}   {post : Int32 → xMem → Prop} (C : xOk (WC g) x cX11_series RX11 5 (some .int) (rm_X11_series) (pI post))   (x1 : Int32) (x2 : Int32) (x4 : Int32) (M : xMem)  (h : wX11_series_64 post x1 x2 x4 M) : xW (WC g) x 5 64 [(0, .ref (ga g 0)), (1, .int x1), (2, .int x2), (4, .int x4)] [] M := by
  unfold wX11_series_64 at h
  refine x_aload_n C 0 rfl rfl dX11_series_64 ?_
  refine x_get C (c := 0) (ci := 11) (k1 := 15) (v1 := .ref (ga g 86)) (enC_11 (c := 0) rfl) (Nat.le_of_ble_eq_true rfl) rfl inX11 (by decide) wf_X11_99 rfl dX11_series_65 ?_
  refine x_aload_n C 0 rfl rfl dX11_series_68 ?_
  refine x_get C (c := 0) (ci := 11) (k1 := 2) (v1 := .ref (ga g 2)) (enC_11 (c := 0) rfl) (Nat.le_of_ble_eq_true rfl) rfl inX11 (by decide) wf_X11_19 rfl dX11_series_69 ?_
  refine x_iload_n C 1 rfl rfl dX11_series_72 ?_
  refine x_callVN C (st := []) (As := [.ref (ga g 2), .int x1]) (c := 86) (ci := 8) (enC_8 (c := 86) rfl) (Nat.le_of_ble_eq_true rfl) rfl (tX8_solve hg _ _ _ _  h) wmn_X11_298 wi_X8_solve wv_X8_solve wz_X8 wc_X8_solve yd_X8_solve rfl ⟨rfl, rfl⟩ ⟨Nat.le_of_ble_eq_true rfl, Nat.le_of_ble_eq_true rfl⟩ (Nat.le_of_ble_eq_true rfl) rfl dX11_series_73 (x_kv (fun M1 h => ?_))
  refine x_iload C 3 rfl dX11_series_76 ?_
  refine x_if_eq C (tgt := 91) dX11_series_78 (by decide) (fun hq2 => ?_) (fun hq2 => ?_)
  · replace h := x_ift hq2 h
    refine x_iload_n C 2 rfl rfl dX11_series_91 ?_
    refine x_bipush C (v1 := 20) dX11_series_92 (by decide) ?_
    refine x_icmp_ne C (tgt := 107) dX11_series_94 (by decide) (fun hq3 => ?_) (fun hq3 => ?_)
    · replace h := x_iff hq3 h
      refine x_aload_n C 0 rfl rfl dX11_series_107 ?_
      refine x_get C (c := 0) (ci := 11) (k1 := 15) (v1 := .ref (ga g 86)) (enC_11 (c := 0) rfl) (Nat.le_of_ble_eq_true rfl) rfl inX11 (by decide) wf_X11_99 rfl dX11_series_108 ?_
      refine x_getN C (c := 86) (ci := 8) (k1 := 3) (v1 := .int (gi M1 86 3)) (enC_8 (c := 86) rfl) (Nat.le_of_ble_eq_true rfl) rfl inX8 (by decide) wfn_X11_307 rfl dX11_series_111 ?_
      exact x_iret C dX11_series_114 ⟨_, rfl, h⟩
    · replace h := x_ift hq3 h
      refine x_aload_n C 0 rfl rfl dX11_series_97 ?_
      refine x_get C (c := 0) (ci := 11) (k1 := 15) (v1 := .ref (ga g 86)) (enC_11 (c := 0) rfl) (Nat.le_of_ble_eq_true rfl) rfl inX11 (by decide) wf_X11_99 rfl dX11_series_98 ?_
      refine x_getN C (c := 86) (ci := 8) (k1 := 2) (v1 := .int (gi M1 86 2)) (enC_8 (c := 86) rfl) (Nat.le_of_ble_eq_true rfl) rfl inX8 (by decide) wfn_X11_304 rfl dX11_series_101 ?_
      refine x_goto C (tgt := 114) dX11_series_104 (by decide) ?_
      exact x_iret C dX11_series_114 ⟨_, rfl, h⟩
  · replace h := x_iff hq2 h
    refine x_aload_n C 0 rfl rfl dX11_series_81 ?_
    refine x_get C (c := 0) (ci := 11) (k1 := 15) (v1 := .ref (ga g 86)) (enC_11 (c := 0) rfl) (Nat.le_of_ble_eq_true rfl) rfl inX11 (by decide) wf_X11_99 rfl dX11_series_82 ?_
    refine x_getN C (c := 86) (ci := 8) (k1 := 1) (v1 := .ref (ga g 88)) (enC_8 (c := 86) rfl) (Nat.le_of_ble_eq_true rfl) rfl inX8 (by decide) wfn_X11_301 rfl dX11_series_85 ?_
    refine x_iload_n C 2 rfl rfl dX11_series_88 ?_
    obtain ⟨hi4, h⟩ := h
    refine x_iald C 0 (c := 88) (enC_20n (c := 88) (n := 5) rfl rfl) (Nat.le_of_ble_eq_true rfl) rfl hi4 dX11_series_89 ?_
    exact x_iret C dX11_series_90 ⟨_, rfl, h⟩
set_option maxHeartbeats 4000000 in
set_option maxRecDepth 100000 in
theorem tX11_series_26 {g : xG} (hg : x_inj (WC g))  {x : xCx}   {post : Int32 → xMem → Prop} (C : xOk (WC g) x cX11_series RX11 5 (some .int) (rm_X11_series) (pI post))   (x1 : Int32) (x2 : Int32) (x3 : Int32) (s0 : Int32) (M : xMem)  (h : wX11_series_26 post x1 x2 x3 s0 M) : xW (WC g) x 5 26 [(0, .ref (ga g 0)), (1, .int x1), (2, .int x2), (3, .int x3)] [.int s0] M := by
  unfold wX11_series_26 at h
  refine x_istore C (L' := [(4, .int s0), (0, .ref (ga g 0)), (1, .int x1), (2, .int x2), (3, .int x3)]) rfl (Nat.le_of_ble_eq_true rfl) dX11_series_26 ?_
  refine x_aload_n C 1 rfl rfl dX11_series_28 ?_
  refine x_iload_n C 2 rfl rfl dX11_series_29 ?_
  refine x_callV C (st := []) (As := [.int x1]) (c := 0) (ci := 11) (enC_11 (c := 0) rfl) (Nat.le_of_ble_eq_true rfl) rfl (tX11_areTold hg _ _ _ _  h) wm_X11_295 wi_X11_areTold wv_X11_areTold wz_X11 wc_X11_areTold rfl yd_X11_areTold rfl ⟨rfl, rfl⟩ ⟨Nat.le_of_ble_eq_true rfl, Nat.le_of_ble_eq_true rfl⟩ (Nat.le_of_ble_eq_true rfl) rfl dX11_series_30 (x_ki (fun r2 M1 h => ?_))
  refine x_if_eq C (tgt := 62) dX11_series_33 (by decide) (fun hq3 => ?_) (fun hq3 => ?_)
  · replace h := x_ift hq3 h
    refine x_iconst C (v1 := (-1)) dX11_series_62 (by decide) ?_
    exact x_iret C dX11_series_63 ⟨_, rfl, h⟩
  · replace h := x_iff hq3 h
    refine x_iload_n C 4 rfl rfl dX11_series_36 ?_
    refine x_iconst C (v1 := 2) dX11_series_37 (by decide) ?_
    refine x_iconst C (v1 := 5) dX11_series_38 (by decide) ?_
    refine x_callS C (st := []) (As := [.int x3, .int 2, .int 5]) (tX11_isWithin hg _ _ _ _ _ _  h) wm_X11_145 wsm_X11_isWithin wz_X11 wc_X11_isWithin yd_X11_isWithin rfl ⟨rfl, rfl⟩ ⟨Nat.le_of_ble_eq_true rfl, Nat.le_of_ble_eq_true rfl⟩ (Nat.le_of_ble_eq_true rfl) rfl dX11_series_39 (x_ki (fun r5 M4 h => ?_))
    refine x_if_eq C (tgt := 62) dX11_series_42 (by decide) (fun hq6 => ?_) (fun hq6 => ?_)
    · replace h := x_ift hq6 h
      refine x_iconst C (v1 := (-1)) dX11_series_62 (by decide) ?_
      exact x_iret C dX11_series_63 ⟨_, rfl, h⟩
    · replace h := x_iff hq6 h
      refine x_iload C 0 rfl dX11_series_45 ?_
      refine x_if_ne C (tgt := 64) dX11_series_47 (by decide) (fun hq7 => ?_) (fun hq7 => ?_)
      · replace h := x_iff hq7 h
        refine x_loc (L' := [(0, .ref (ga g 0)), (1, .int x1), (2, .int x2), (4, .int s0)]) [1, 2, 3, 0] rfl ?_
        exact tX11_series_64 hg  C   _ _ _ _  h
      · replace h := x_ift hq7 h
        refine x_iload_n C 3 rfl rfl dX11_series_50 ?_
        refine x_bipush C (v1 := 20) dX11_series_51 (by decide) ?_
        refine x_icmp_eq C (tgt := 64) dX11_series_53 (by decide) (fun hq8 => ?_) (fun hq8 => ?_)
        · replace h := x_ift hq8 h
          refine x_loc (L' := [(0, .ref (ga g 0)), (1, .int x1), (2, .int x2), (4, .int s0)]) [1, 2, 3, 0] rfl ?_
          exact tX11_series_64 hg  C   _ _ _ _  h
        · replace h := x_iff hq8 h
          refine x_iload_n C 3 rfl rfl dX11_series_56 ?_
          refine x_bipush C (v1 := 21) dX11_series_57 (by decide) ?_
          refine x_icmp_eq C (tgt := 64) dX11_series_59 (by decide) (fun hq9 => ?_) (fun hq9 => ?_)
          · replace h := x_ift hq9 h
            refine x_loc (L' := [(0, .ref (ga g 0)), (1, .int x1), (2, .int x2), (4, .int s0)]) [1, 2, 3, 0] rfl ?_
            exact tX11_series_64 hg  C   _ _ _ _  h
          · replace h := x_iff hq9 h
            refine x_iconst C (v1 := (-1)) dX11_series_62 (by decide) ?_
            exact x_iret C dX11_series_63 ⟨_, rfl, h⟩
set_option maxHeartbeats 4000000 in
set_option maxRecDepth 100000 in
theorem tX11_series_25 {g : xG} (hg : x_inj (WC g))  {x : xCx}   {post : Int32 → xMem → Prop} (C : xOk (WC g) x cX11_series RX11 5 (some .int) (rm_X11_series) (pI post))   (x1 : Int32) (x2 : Int32) (x3 : Int32) (M : xMem)  (h : wX11_series_25 post x1 x2 x3 M) : xW (WC g) x 5 25 [(0, .ref (ga g 0)), (1, .int x1), (2, .int x2), (3, .int x3)] [] M := by
  unfold wX11_series_25 at h
  refine x_iconst C (v1 := 0) dX11_series_25 (by decide) ?_
  exact tX11_series_26 hg  C   _ _ _ _ _  h
set_option maxHeartbeats 4000000 in
set_option maxRecDepth 100000 in
theorem tX11_series {g : xG} (hg : x_inj (WC g))  (l : Launch) (a0 : Int32) (a1 : Int32) (M : xMem) (post : Int32 → xMem → Prop)  (h : wX11_series a0 a1 M post) : xMet (WC g) l yX11_series cX11_series 5 (some .int) (rm_X11_series) [.ref (ga g 0), .int a0, .int a1] M (pI post) := by
  refine x_enter (own := RX11) (L0 := [(0, .ref (ga g 0)), (1, .int a0), (2, .int a1)]) (by decide +kernel) rfl hg (x_stC g) (Nat.le_of_ble_eq_true rfl) rfl (fun x hl C => ?_)
  unfold wX11_series at h
  refine x_iload_n C 1 rfl rfl dX11_series_0 ?_
  refine x_callS C (st := []) (As := [.int a0]) (tJ6_bitCount_0f7a4 hg _ _ _ _  h) wm_X11_290 wsm_J6_bitCount_0f7a4 wz_J6 wc_J6_bitCount_0f7a4 yd_J6_bitCount_0f7a4 rfl ⟨rfl, rfl⟩ ⟨Nat.le_of_ble_eq_true rfl, Nat.le_of_ble_eq_true rfl⟩ (Nat.le_of_ble_eq_true rfl) rfl dX11_series_1 (x_ki (fun r2 M1 h => ?_))
  refine x_istore_n C (L' := [(3, .int r2), (0, .ref (ga g 0)), (1, .int a0), (2, .int a1)]) rfl rfl (Nat.le_of_ble_eq_true rfl) dX11_series_4 ?_
  refine x_iload_n C 3 rfl rfl dX11_series_5 ?_
  refine x_iconst C (v1 := 0) dX11_series_6 (by decide) ?_
  refine x_iload_n C 0 rfl rfl dX11_series_7 ?_
  refine x_iconst C (v1 := 1) dX11_series_8 (by decide) ?_
  refine x_isub C dX11_series_9 ?_
  refine x_callS C (st := []) (As := [.int a1, .int 0, .int (r2 - 1)]) (tX11_isWithin hg _ _ _ _ _ _  h) wm_X11_145 wsm_X11_isWithin wz_X11 wc_X11_isWithin yd_X11_isWithin rfl ⟨rfl, rfl⟩ ⟨Nat.le_of_ble_eq_true rfl, Nat.le_of_ble_eq_true rfl⟩ (Nat.le_of_ble_eq_true rfl) rfl dX11_series_10 (x_ki (fun r4 M3 h => ?_))
  refine x_if_eq C (tgt := 25) dX11_series_13 (by decide) (fun hq5 => ?_) (fun hq5 => ?_)
  · replace h := x_ift hq5 h
    refine x_loc (L' := [(0, .ref (ga g 0)), (1, .int a0), (2, .int a1), (3, .int r2)]) [1, 2, 3, 0] rfl ?_
    exact tX11_series_25 hg  C   _ _ _ _  h
  · replace h := x_iff hq5 h
    refine x_iload_n C 3 rfl rfl dX11_series_16 ?_
    refine x_iconst C (v1 := 5) dX11_series_17 (by decide) ?_
    refine x_icmp_ge C (tgt := 25) dX11_series_18 (by decide) (fun hq6 => ?_) (fun hq6 => ?_)
    · replace h := x_ift hq6 h
      refine x_loc (L' := [(0, .ref (ga g 0)), (1, .int a0), (2, .int a1), (3, .int r2)]) [1, 2, 3, 0] rfl ?_
      exact tX11_series_25 hg  C   _ _ _ _  h
    · replace h := x_iff hq6 h
      refine x_iconst C (v1 := 1) dX11_series_21 (by decide) ?_
      refine x_goto C (tgt := 26) dX11_series_22 (by decide) ?_
      refine x_loc (L' := [(0, .ref (ga g 0)), (1, .int a0), (2, .int a1), (3, .int r2)]) [1, 2, 3, 0] rfl ?_
      exact tX11_series_26 hg  C   _ _ _ _ _  h
