abbrev rm_X12_buys : Room := { frames := 7, cells := 0, slots := 0, locals := 161 }
theorem yd_X12_buys : yX12_buys.cls ≠ "java/lang/invoke/MethodHandle" ∧ yX12_buys.cls ≠ "java/lang/invoke/VarHandle" ∧ (parseMethodDescriptor yX12_buys.desc).map (fun d => d.parameters.length) = some 2 := by decide +kernel
def wX12_buys  (a0 : Int32) (a1 : Int32) (M : xMem) (post : Int32 → xMem → Prop) : Prop :=
    wX12_isTelling a0 M (fun r2 M1 =>
      if r2 = 0 then (
        post (-1) M1)
      else (
        wX12_isThere a1 M1 (fun r5 M4 =>
          if r5 = 0 then (
            post (-1) M4)
          else (
            vp_in a1 10 ∧
            if (gi M4 28 a1.toNatClampNeg) = 0 then (
              post (-1) M4)
            else (
              wX12_costOf a1 M4 (fun r10 M9 =>
                vp_in a0 4 ∧
                if r10 ≤ (gi M9 32 a0.toNatClampNeg) then (
                  wX12_buying a0 a1 r10 M9 (fun r14 M13 =>
                    post r14 M13))
                else (
                  post (-1) M9)))))))
abbrev rm_X12_isAtEnd : Room := { frames := 0, cells := 0, slots := 0, locals := 0 }
theorem yd_X12_isAtEnd : yX12_isAtEnd.cls ≠ "java/lang/invoke/MethodHandle" ∧ yX12_isAtEnd.cls ≠ "java/lang/invoke/VarHandle" ∧ (parseMethodDescriptor yX12_isAtEnd.desc).map (fun d => d.parameters.length) = some 1 := by decide +kernel
def wX12_isAtEnd  (a0 : Int32) (M : xMem) (post : Int32 → xMem → Prop) : Prop :=
    vp_in a0 4 ∧
    vp_in a0 4 ∧
    vp_in (gi M 31 a0.toNatClampNeg) 6 ∧
    if (gi M 33 a0.toNatClampNeg) = (gi M 3 (gi M 31 a0.toNatClampNeg).toNatClampNeg) then (
      post 1 M)
    else (
      post 0 M)
abbrev rm_X12_goesOn : Room := { frames := 6, cells := 0, slots := 0, locals := 135 }
theorem yd_X12_goesOn : yX12_goesOn.cls ≠ "java/lang/invoke/MethodHandle" ∧ yX12_goesOn.cls ≠ "java/lang/invoke/VarHandle" ∧ (parseMethodDescriptor yX12_goesOn.desc).map (fun d => d.parameters.length) = some 1 := by decide +kernel
def wX12_goesOn_6    (post : xMem → Prop) : Nat → Int32 → Int32 → xMem → Prop
  | 0 => fun _ _ _ => False
  | n + 1 => fun x1 x2 M =>
      if x2 ≤ 0 then (
        post M)
      else (
        wX12_isAtEnd x1 M (fun r3 M2 =>
          if r3 = 0 then (
            vp_in x1 4 ∧
            vp_in x1 4 ∧
            vp_in x1 4 ∧
            vp_in ((72 * (gi M2 31 x1.toNatClampNeg)) + (gi M2 33 x1.toNatClampNeg)) 432 ∧
            wX12_turned (gi M2 34 x1.toNatClampNeg) (gi M2 4 ((72 * (gi M2 31 x1.toNatClampNeg)) + (gi M2 33 x1.toNatClampNeg)).toNatClampNeg) M2 (fun r10 M9 =>
              vp_in x1 4 ∧
              ∀ M12 : xMem, M12 = si M9 34 x1.toNatClampNeg r10 →
              vp_in x1 4 ∧
              vp_in x1 4 ∧
              ∀ M15 : xMem, M15 = si M12 33 x1.toNatClampNeg ((gi M12 33 x1.toNatClampNeg) + 1) →
              ∀ v16 : Int32, v16 = x2 + (-1) →
              wX12_goesOn_6 post n x1 v16 M15))
          else (
            post M2)))
def wX12_goesOn  (a0 : Int32) (M : xMem) (post : xMem → Prop) : Prop :=
    wX12_speedOf a0 M (fun r2 M1 =>
      ∃ n6 : Nat, wX12_goesOn_6 post n6 a0 r2 M1)
abbrev rm_X12_buysAll : Room := { frames := 7, cells := 0, slots := 0, locals := 161 }
theorem yd_X12_buysAll : yX12_buysAll.cls ≠ "java/lang/invoke/MethodHandle" ∧ yX12_buysAll.cls ≠ "java/lang/invoke/VarHandle" ∧ (parseMethodDescriptor yX12_buysAll.desc).map (fun d => d.parameters.length) = some 1 := by decide +kernel
def wX12_buysAll_108   (K77 : Int32 → Int32 → Int32 → xMem → Prop) (post : xMem → Prop) (x1 : Int32) (x2 : Int32) (x3 : Int32) (M : xMem) : Prop :=
    ∀ v1 : Int32, v1 = x3 + 1 →
    K77 x1 x2 v1 M
def wX12_buysAll_77    (post : xMem → Prop) : Nat → Int32 → Int32 → Int32 → xMem → Prop
  | 0 => fun _ _ _ _ => False
  | n + 1 => fun x1 x2 x3 M =>
      if 10 ≤ x3 then (
        post M)
      else (
        wX12_has x2 x3 M (fun r3 M2 =>
          if r3 = 0 then (
            wX12_buysAll_108 (wX12_buysAll_77 post n) post x1 x2 x3 M2)
          else (
            vp_in x3 10 ∧
            wX12_buying x1 x3 (gi M2 40 x3.toNatClampNeg) M2 (fun r7 M6 =>
              wX12_buysAll_108 (wX12_buysAll_77 post n) post x1 x2 x3 M6))))
def wX12_buysAll_46    (post : xMem → Prop) : Nat → Int32 → Int32 → xMem → Prop
  | 0 => fun _ _ _ => False
  | n + 1 => fun x1 x2 M =>
      if 10 ≤ x2 then (
        ∀ v2 : Int32, v2 = gi M 0 69 →
        ∃ n77 : Nat, wX12_buysAll_77 post n77 x1 v2 0 M)
      else (
        vp_in x2 10 ∧
        vp_in x2 10 ∧
        ∀ M5 : xMem, M5 = si M 40 x2.toNatClampNeg (gi M 39 x2.toNatClampNeg) →
        ∀ v6 : Int32, v6 = x2 + 1 →
        wX12_buysAll_46 post n x1 v6 M5)
def wX12_buysAll  (a0 : Int32) (M : xMem) (post : xMem → Prop) : Prop :=
    wX12_isAtEnd a0 M (fun r2 M1 =>
      if r2 = 0 then (
        post M1)
      else (
        vp_in a0 4 ∧
        if (gi M1 34 a0.toNatClampNeg) = 0 then (
          post M1)
        else (
          vp_in a0 4 ∧
          wX12_laysCheapest (gi M1 34 a0.toNatClampNeg) M1 (fun r8 M7 =>
            if r8 = 0 then (
              post M7)
            else (
              vp_in a0 4 ∧
              if (gi M7 0 70) ≤ (gi M7 32 a0.toNatClampNeg) then (
                ∃ n46 : Nat, wX12_buysAll_46 post n46 a0 0 M7)
              else (
                post M7))))))
abbrev rm_X12_listens : Room := { frames := 5, cells := 0, slots := 0, locals := 114 }
theorem yd_X12_listens : yX12_listens.cls ≠ "java/lang/invoke/MethodHandle" ∧ yX12_listens.cls ≠ "java/lang/invoke/VarHandle" ∧ (parseMethodDescriptor yX12_listens.desc).map (fun d => d.parameters.length) = some 2 := by decide +kernel
def wX12_listens_120    (post : xMem → Prop) (x1 : Int32) (M : xMem) : Prop :=
    wX12_listenerStands x1 M (fun M1 =>
      wX12_goesAway  M1 (fun r3 M2 =>
        if r3 = 0 then (
          post M2)
        else (
          vp_in x1 10 ∧
          ∀ M6 : xMem, M6 = si M2 36 x1.toNatClampNeg (-1) →
          ∀ M7 : xMem, M7 = si M6 0 75 ((gi M6 0 75) + 1) →
          post M7)))
def wX12_listens_64    (post : xMem → Prop) (x1 : Int32) (x2 : Int32) (x3 : Int32) (M : xMem) : Prop :=
    if 9 ≤ x3 then (
      wX12_listens_120 post x1 M)
    else (
      vp_in x1 10 ∧
      if (gi M 38 x1.toNatClampNeg) = 9 then (
        ∀ M4 : xMem, M4 = si M 0 66 ((gi M 0 66) + 1) →
        ∀ M5 : xMem, M5 = si M4 0 74 ((gi M4 0 74) + 1) →
        if (gi M5 0 78) = (-2) then (
          ∀ M7 : xMem, M7 = si M5 0 78 x1 →
          ∀ M8 : xMem, M8 = si M7 0 79 x2 →
          wX12_listens_120 post x1 M8)
        else (
          wX12_listens_120 post x1 M5))
      else (
        wX12_listens_120 post x1 M))
def wX12_listens  (a0 : Int32) (a1 : Int32) (M : xMem) (post : xMem → Prop) : Prop :=
    wX12_listenerStands a0 M (fun M1 =>
      vp_in a0 10 ∧
      ∀ v3 : Int32, v3 = gi M1 38 a0.toNatClampNeg →
      if (gi M1 0 41) ≤ 0 then (
        wX12_tells 115 9 M1 (fun r6 M5 =>
          wX12_held (v3 - r6) 9 M5 (fun r8 M7 =>
            vp_in a0 10 ∧
            ∀ M10 : xMem, M10 = si M7 38 a0.toNatClampNeg r8 →
            wX12_listens_64 post a0 a1 v3 M10)))
      else (
        wX12_tells 116 9 M1 (fun r12 M11 =>
          wX12_held (v3 + r12) 9 M11 (fun r14 M13 =>
            vp_in a0 10 ∧
            ∀ M16 : xMem, M16 = si M13 38 a0.toNatClampNeg r14 →
            wX12_listens_64 post a0 a1 v3 M16))))
abbrev rm_X12_isBound : Room := { frames := 0, cells := 0, slots := 0, locals := 0 }
theorem yd_X12_isBound : yX12_isBound.cls ≠ "java/lang/invoke/MethodHandle" ∧ yX12_isBound.cls ≠ "java/lang/invoke/VarHandle" ∧ (parseMethodDescriptor yX12_isBound.desc).map (fun d => d.parameters.length) = some 2 := by decide +kernel
def wX12_isBound  (a0 : Int32) (a1 : Int32) (M : xMem) (post : Int32 → xMem → Prop) : Prop :=
    vp_in a0 10 ∧
    if (gi M 35 a0.toNatClampNeg) = 0 then (
      post 0 M)
    else (
      vp_in a0 10 ∧
      if (gi M 36 a0.toNatClampNeg) = a1 then (
        post 1 M)
      else (
        post 0 M))
abbrev rm_X12_closesStory : Room := { frames := 5, cells := 0, slots := 0, locals := 114 }
theorem yd_X12_closesStory : yX12_closesStory.cls ≠ "java/lang/invoke/MethodHandle" ∧ yX12_closesStory.cls ≠ "java/lang/invoke/VarHandle" ∧ (parseMethodDescriptor yX12_closesStory.desc).map (fun d => d.parameters.length) = some 1 := by decide +kernel
def wX12_closesStory_89   (K20 : Int32 → Int32 → xMem → Prop) (post : xMem → Prop) (x1 : Int32) (x2 : Int32) (M : xMem) : Prop :=
    ∀ v1 : Int32, v1 = x2 + 1 →
    K20 x1 v1 M
def wX12_closesStory_20    (post : xMem → Prop) : Nat → Int32 → Int32 → xMem → Prop
  | 0 => fun _ _ _ => False
  | n + 1 => fun x1 x2 M =>
      if 10 ≤ x2 then (
        ∀ M2 : xMem, M2 = si M 0 67 ((gi M 0 67) + 1) →
        ∀ M3 : xMem, M3 = si M2 0 76 ((gi M2 0 76) + 1) →
        vp_in x1 4 ∧
        ∀ M5 : xMem, M5 = si M3 33 x1.toNatClampNeg 0 →
        post M5)
      else (
        wX12_isBound x2 x1 M (fun r7 M6 =>
          if r7 = 0 then (
            wX12_closesStory_89 (wX12_closesStory_20 post n) post x1 x2 M6)
          else (
            wX12_listenerStands x2 M6 (fun M9 =>
              vp_in x1 4 ∧
              ∀ v11 : Int32, v11 = gi M9 32 x1.toNatClampNeg →
              wX12_tells 102 99 M9 (fun r13 M12 =>
                wX12_held (v11 + r13) 9999 M12 (fun r15 M14 =>
                  vp_in x1 4 ∧
                  ∀ M17 : xMem, M17 = si M14 32 x1.toNatClampNeg r15 →
                  vp_in x1 4 ∧
                  ∀ M19 : xMem, M19 = si M17 0 77 ((gi M17 0 77) + ((gi M17 32 x1.toNatClampNeg) - v11)) →
                  wX12_closesStory_89 (wX12_closesStory_20 post n) post x1 x2 M19))))))
def wX12_closesStory  (a0 : Int32) (M : xMem) (post : xMem → Prop) : Prop :=
    wX12_isAtEnd a0 M (fun r2 M1 =>
      if r2 = 0 then (
        post M1)
      else (
        vp_in a0 4 ∧
        if (gi M1 34 a0.toNatClampNeg) = 0 then (
          ∃ n20 : Nat, wX12_closesStory_20 post n20 a0 0 M1)
        else (
          post M1)))
abbrev rm_X12_go : Room := { frames := 8, cells := 0, slots := 0, locals := 185 }
theorem yd_X12_go : yX12_go.cls ≠ "java/lang/invoke/MethodHandle" ∧ yX12_go.cls ≠ "java/lang/invoke/VarHandle" ∧ (parseMethodDescriptor yX12_go.desc).map (fun d => d.parameters.length) = some 1 := by decide +kernel
def wX12_go_131   (K49 : Int32 → Int32 → xMem → Prop) (K66 : Int32 → Int32 → Int32 → xMem → Prop) (post : xMem → Prop) (x1 : Int32) (x2 : Int32) (x3 : Int32) (M : xMem) : Prop :=
    ∀ v1 : Int32, v1 = x3 + 1 →
    K66 x1 x2 v1 M
def wX12_go_120   (K49 : Int32 → Int32 → xMem → Prop) (K66 : Int32 → Int32 → Int32 → xMem → Prop) (K96 : Int32 → Int32 → Int32 → Int32 → xMem → Prop) (post : xMem → Prop) (x1 : Int32) (x2 : Int32) (x3 : Int32) (x4 : Int32) (M : xMem) : Prop :=
    ∀ v1 : Int32, v1 = x4 + 1 →
    K96 x1 x2 x3 v1 M
def wX12_go_96   (K49 : Int32 → Int32 → xMem → Prop) (K66 : Int32 → Int32 → Int32 → xMem → Prop) (post : xMem → Prop) : Nat → Int32 → Int32 → Int32 → Int32 → xMem → Prop
  | 0 => fun _ _ _ _ _ => False
  | n + 1 => fun x1 x2 x3 x4 M =>
      if 10 ≤ x4 then (
        wX12_closesStory x3 M (fun M2 =>
          wX12_go_131 K49 K66 post x1 x2 x3 M2))
      else (
        wX12_isBound x4 x3 M (fun r4 M3 =>
          if r4 = 0 then (
            wX12_go_120 K49 K66 (wX12_go_96 K49 K66 post n) post x1 x2 x3 x4 M3)
          else (
            wX12_listens x4 x2 M3 (fun M6 =>
              wX12_go_120 K49 K66 (wX12_go_96 K49 K66 post n) post x1 x2 x3 x4 M6))))
def wX12_go_66   (K49 : Int32 → Int32 → xMem → Prop) (post : xMem → Prop) : Nat → Int32 → Int32 → Int32 → xMem → Prop
  | 0 => fun _ _ _ _ => False
  | n + 1 => fun x1 x2 x3 M =>
      if 4 ≤ x3 then (
        ∀ M2 : xMem, M2 = si M 0 65 ((gi M 0 65) + 1) →
        ∀ v3 : Int32, v3 = x2 + 1 →
        K49 x1 v3 M2)
      else (
        vp_in x3 4 ∧
        if (gi M 30 x3.toNatClampNeg) = 0 then (
          wX12_go_131 K49 (wX12_go_66 K49 post n) post x1 x2 x3 M)
        else (
          wX12_goesOn x3 M (fun M6 =>
            wX12_buysAll x3 M6 (fun M7 =>
              ∃ n96 : Nat, wX12_go_96 K49 (wX12_go_66 K49 post n) post n96 x1 x2 x3 0 M7))))
def wX12_go_49    (post : xMem → Prop) : Nat → Int32 → Int32 → xMem → Prop
  | 0 => fun _ _ _ => False
  | n + 1 => fun x1 x2 M =>
      if x1 < x2 then (
        post M)
      else (
        if 9999 ≤ (gi M 0 65) then (
          post M)
        else (
          ∃ n66 : Nat, wX12_go_66 (wX12_go_49 post n) post n66 x1 x2 0 M))
def wX12_go  (a0 : Int32) (M : xMem) (post : xMem → Prop) : Prop :=
    ∀ M1 : xMem, M1 = si M 0 71 0 →
    ∀ M2 : xMem, M2 = si M1 0 72 0 →
    ∀ M3 : xMem, M3 = si M2 0 73 0 →
    ∀ M4 : xMem, M4 = si M3 0 74 0 →
    ∀ M5 : xMem, M5 = si M4 0 75 0 →
    ∀ M6 : xMem, M6 = si M5 0 76 0 →
    ∀ M7 : xMem, M7 = si M6 0 77 0 →
    ∀ M8 : xMem, M8 = si M7 0 78 (-2) →
    ∀ M9 : xMem, M9 = si M8 0 79 (-2) →
    ∃ n49 : Nat, wX12_go_49 post n49 a0 1 M9
abbrev rm_X12_evenings : Room := { frames := 9, cells := 0, slots := 0, locals := 209 }
theorem yd_X12_evenings : yX12_evenings.cls ≠ "java/lang/invoke/MethodHandle" ∧ yX12_evenings.cls ≠ "java/lang/invoke/VarHandle" ∧ (parseMethodDescriptor yX12_evenings.desc).map (fun d => d.parameters.length) = some 1 := by decide +kernel
def wX12_evenings  (a0 : Int32) (M : xMem) (post : Int32 → xMem → Prop) : Prop :=
    wX12_lies ((a0 : Int32).toInt64) 1 60 M (fun r2 M1 =>
      if r2 = 0 then (
        post (-1) M1)
      else (
        wX12_go a0 M1 (fun M4 =>
          post (gi M4 0 71) M4)))
abbrev rm_X12_laysAside : Room := { frames := 0, cells := 0, slots := 0, locals := 0 }
theorem yd_X12_laysAside : yX12_laysAside.cls ≠ "java/lang/invoke/MethodHandle" ∧ yX12_laysAside.cls ≠ "java/lang/invoke/VarHandle" ∧ (parseMethodDescriptor yX12_laysAside.desc).map (fun d => d.parameters.length) = some 1 := by decide +kernel
def wX12_laysAside_81    (post : xMem → Prop) : Nat → Int32 → Int32 → xMem → Prop
  | 0 => fun _ _ _ => False
  | n + 1 => fun x1 x2 M =>
      if 10 ≤ x2 then (
        vp_in x1 2 ∧
        ∀ M3 : xMem, M3 = si M 51 x1.toNatClampNeg (gi M 0 65) →
        vp_in x1 2 ∧
        ∀ M5 : xMem, M5 = si M3 52 x1.toNatClampNeg (gi M3 0 66) →
        vp_in x1 2 ∧
        ∀ M7 : xMem, M7 = si M5 53 x1.toNatClampNeg (gi M5 0 67) →
        vp_in x1 2 ∧
        ∀ M9 : xMem, M9 = si M7 54 x1.toNatClampNeg (gi M7 0 2) →
        post M9)
      else (
        ∀ v10 : Int32, v10 = (10 * x1) + x2 →
        vp_in x2 10 ∧
        vp_in v10 20 ∧
        ∀ M13 : xMem, M13 = si M 46 v10.toNatClampNeg (vp_nar .boolean (gi M 35 x2.toNatClampNeg)) →
        vp_in x2 10 ∧
        vp_in v10 20 ∧
        ∀ M16 : xMem, M16 = si M13 47 v10.toNatClampNeg (gi M13 36 x2.toNatClampNeg) →
        vp_in x2 10 ∧
        vp_in v10 20 ∧
        ∀ M19 : xMem, M19 = si M16 48 v10.toNatClampNeg (gi M16 37 x2.toNatClampNeg) →
        vp_in x2 10 ∧
        vp_in v10 20 ∧
        ∀ M22 : xMem, M22 = si M19 49 v10.toNatClampNeg (gi M19 38 x2.toNatClampNeg) →
        vp_in x2 10 ∧
        vp_in v10 20 ∧
        ∀ M25 : xMem, M25 = si M22 50 v10.toNatClampNeg (gi M22 28 x2.toNatClampNeg) →
        ∀ v26 : Int32, v26 = x2 + 1 →
        wX12_laysAside_81 post n x1 v26 M25)
def wX12_laysAside_2    (post : xMem → Prop) : Nat → Int32 → Int32 → xMem → Prop
  | 0 => fun _ _ _ => False
  | n + 1 => fun x1 x2 M =>
      if 4 ≤ x2 then (
        ∃ n81 : Nat, wX12_laysAside_81 post n81 x1 0 M)
      else (
        ∀ v2 : Int32, v2 = (4 * x1) + x2 →
        vp_in x2 4 ∧
        vp_in v2 8 ∧
        ∀ M5 : xMem, M5 = si M 41 v2.toNatClampNeg (vp_nar .boolean (gi M 30 x2.toNatClampNeg)) →
        vp_in x2 4 ∧
        vp_in v2 8 ∧
        ∀ M8 : xMem, M8 = si M5 42 v2.toNatClampNeg (gi M5 31 x2.toNatClampNeg) →
        vp_in x2 4 ∧
        vp_in v2 8 ∧
        ∀ M11 : xMem, M11 = si M8 43 v2.toNatClampNeg (gi M8 32 x2.toNatClampNeg) →
        vp_in x2 4 ∧
        vp_in v2 8 ∧
        ∀ M14 : xMem, M14 = si M11 44 v2.toNatClampNeg (gi M11 33 x2.toNatClampNeg) →
        vp_in x2 4 ∧
        vp_in v2 8 ∧
        ∀ M17 : xMem, M17 = si M14 45 v2.toNatClampNeg (gi M14 34 x2.toNatClampNeg) →
        ∀ v18 : Int32, v18 = x2 + 1 →
        wX12_laysAside_2 post n x1 v18 M17)
def wX12_laysAside  (a0 : Int32) (M : xMem) (post : xMem → Prop) : Prop :=
    ∃ n2 : Nat, wX12_laysAside_2 post n2 a0 0 M
abbrev rm_X12_bringsBack : Room := { frames := 0, cells := 0, slots := 0, locals := 0 }
theorem yd_X12_bringsBack : yX12_bringsBack.cls ≠ "java/lang/invoke/MethodHandle" ∧ yX12_bringsBack.cls ≠ "java/lang/invoke/VarHandle" ∧ (parseMethodDescriptor yX12_bringsBack.desc).map (fun d => d.parameters.length) = some 1 := by decide +kernel
def wX12_bringsBack_115    (post : xMem → Prop) : Nat → Int32 → Int32 → xMem → Prop
  | 0 => fun _ _ _ => False
  | n + 1 => fun x1 x2 M =>
      if 10 ≤ x2 then (
        vp_in x1 2 ∧
        ∀ M3 : xMem, M3 = si M 0 65 (gi M 51 x1.toNatClampNeg) →
        vp_in x1 2 ∧
        ∀ M5 : xMem, M5 = si M3 0 66 (gi M3 52 x1.toNatClampNeg) →
        vp_in x1 2 ∧
        ∀ M7 : xMem, M7 = si M5 0 67 (gi M5 53 x1.toNatClampNeg) →
        vp_in x1 2 ∧
        ∀ M9 : xMem, M9 = si M7 0 2 (gi M7 54 x1.toNatClampNeg) →
        post M9)
      else (
        ∀ v10 : Int32, v10 = (10 * x1) + x2 →
        vp_in v10 20 ∧
        vp_in x2 10 ∧
        ∀ M13 : xMem, M13 = si M 35 x2.toNatClampNeg (vp_nar .boolean (gi M 46 v10.toNatClampNeg)) →
        vp_in v10 20 ∧
        vp_in x2 10 ∧
        ∀ M16 : xMem, M16 = si M13 36 x2.toNatClampNeg (gi M13 47 v10.toNatClampNeg) →
        vp_in v10 20 ∧
        vp_in x2 10 ∧
        ∀ M19 : xMem, M19 = si M16 37 x2.toNatClampNeg (gi M16 48 v10.toNatClampNeg) →
        vp_in v10 20 ∧
        vp_in x2 10 ∧
        ∀ M22 : xMem, M22 = si M19 38 x2.toNatClampNeg (gi M19 49 v10.toNatClampNeg) →
        vp_in v10 20 ∧
        vp_in x2 10 ∧
        ∀ M25 : xMem, M25 = si M22 28 x2.toNatClampNeg (gi M22 50 v10.toNatClampNeg) →
        ∀ v26 : Int32, v26 = x2 + 1 →
        wX12_bringsBack_115 post n x1 v26 M25)
def wX12_bringsBack_94   (K2 : Int32 → Int32 → xMem → Prop) (post : xMem → Prop) (x1 : Int32) (x2 : Int32) (x3 : Int32) (s0 : Int32) (s1 : Int32) (M : xMem) : Prop :=
    vp_in s1 4 ∧
    ∀ M2 : xMem, M2 = si M 33 s1.toNatClampNeg s0 →
    vp_in x3 8 ∧
    vp_in x2 4 ∧
    ∀ M5 : xMem, M5 = si M2 34 x2.toNatClampNeg (gi M2 45 x3.toNatClampNeg) →
    ∀ v6 : Int32, v6 = x2 + 1 →
    K2 x1 v6 M5
def wX12_bringsBack_2    (post : xMem → Prop) : Nat → Int32 → Int32 → xMem → Prop
  | 0 => fun _ _ _ => False
  | n + 1 => fun x1 x2 M =>
      if 4 ≤ x2 then (
        ∃ n115 : Nat, wX12_bringsBack_115 post n115 x1 0 M)
      else (
        ∀ v2 : Int32, v2 = (4 * x1) + x2 →
        vp_in v2 8 ∧
        vp_in x2 4 ∧
        ∀ M5 : xMem, M5 = si M 30 x2.toNatClampNeg (vp_nar .boolean (gi M 41 v2.toNatClampNeg)) →
        vp_in v2 8 ∧
        vp_in x2 4 ∧
        ∀ M8 : xMem, M8 = si M5 31 x2.toNatClampNeg (gi M5 42 v2.toNatClampNeg) →
        vp_in v2 8 ∧
        vp_in x2 4 ∧
        ∀ M11 : xMem, M11 = si M8 32 x2.toNatClampNeg (gi M8 43 v2.toNatClampNeg) →
        vp_in v2 8 ∧
        vp_in x2 4 ∧
        vp_in (gi M11 31 x2.toNatClampNeg) 6 ∧
        if (gi M11 3 (gi M11 31 x2.toNatClampNeg).toNatClampNeg) ≤ (gi M11 44 v2.toNatClampNeg) then (
          vp_in x2 4 ∧
          vp_in (gi M11 31 x2.toNatClampNeg) 6 ∧
          wX12_bringsBack_94 (wX12_bringsBack_2 post n) post x1 x2 v2 (gi M11 3 (gi M11 31 x2.toNatClampNeg).toNatClampNeg) x2 M11)
        else (
          vp_in v2 8 ∧
          wX12_bringsBack_94 (wX12_bringsBack_2 post n) post x1 x2 v2 (gi M11 44 v2.toNatClampNeg) x2 M11))
def wX12_bringsBack  (a0 : Int32) (M : xMem) (post : xMem → Prop) : Prop :=
    ∃ n2 : Nat, wX12_bringsBack_2 post n2 a0 0 M
abbrev rm_X12_triedBy : Room := { frames := 9, cells := 0, slots := 0, locals := 209 }
theorem yd_X12_triedBy : yX12_triedBy.cls ≠ "java/lang/invoke/MethodHandle" ∧ yX12_triedBy.cls ≠ "java/lang/invoke/VarHandle" ∧ (parseMethodDescriptor yX12_triedBy.desc).map (fun d => d.parameters.length) = some 3 := by decide +kernel
def wX12_triedBy_234    (post : Int32 → xMem → Prop) (x4 : Int32) (M : xMem) : Prop :=
    wX12_bringsBack 0 M (fun M1 =>
      post x4 M1)
def wX12_triedBy_232    (post : Int32 → xMem → Prop) (s0 : Int32) (M : xMem) : Prop :=
    wX12_triedBy_234 post s0 M
def wX12_triedBy_59    (post : Int32 → xMem → Prop) (x1 : Int32) (x2 : Int32) (x3 : Int32) (M : xMem) : Prop :=
    wX12_laysAside 0 M (fun M1 =>
      ∀ M2 : xMem, M2 = si M1 0 27 x1 →
      wX12_go x2 M2 (fun M3 =>
        ∀ M4 : xMem, M4 = si M3 0 27 0 →
        if x3 = 0 then (
          ∀ v6 : Int32, v6 = gi M4 0 71 →
          wX12_triedBy_234 post v6 M4)
        else
        if x3 = 1 then (
          ∀ v8 : Int32, v8 = gi M4 0 72 →
          wX12_triedBy_234 post v8 M4)
        else
        if x3 = 2 then (
          ∀ v10 : Int32, v10 = gi M4 0 73 →
          wX12_triedBy_234 post v10 M4)
        else
        if x3 = 3 then (
          ∀ v12 : Int32, v12 = gi M4 0 74 →
          wX12_triedBy_234 post v12 M4)
        else
        if x3 = 4 then (
          ∀ v14 : Int32, v14 = gi M4 0 75 →
          wX12_triedBy_234 post v14 M4)
        else
        if x3 = 5 then (
          ∀ v16 : Int32, v16 = gi M4 0 76 →
          wX12_triedBy_234 post v16 M4)
        else
        if x3 = 6 then (
          ∀ v18 : Int32, v18 = gi M4 0 77 →
          wX12_triedBy_234 post v18 M4)
        else (
          if 20 ≤ x3 then (
            if 30 ≤ x3 then (
              vp_in (x3 - 30) 10 ∧
              wX12_triedBy_232 post (gi M4 38 (x3 - 30).toNatClampNeg) M4)
            else (
              vp_in (x3 - 20) 4 ∧
              wX12_triedBy_232 post (gi M4 34 (x3 - 20).toNatClampNeg) M4))
          else (
            vp_in (x3 - 10) 4 ∧
            wX12_triedBy_232 post (gi M4 32 (x3 - 10).toNatClampNeg) M4))))
def wX12_triedBy  (a0 : Int32) (a1 : Int32) (a2 : Int32) (M : xMem) (post : Int32 → xMem → Prop) : Prop :=
    wX12_lies ((a1 : Int32).toInt64) 1 60 M (fun r2 M1 =>
      if r2 = 0 then (
        post (-1) M1)
      else (
        wX12_lies ((a2 : Int32).toInt64) 0 6 M1 (fun r5 M4 =>
          if r5 = 0 then (
            wX12_isTelling (a2 - 10) M4 (fun r8 M7 =>
              if r8 = 0 then (
                wX12_isTelling (a2 - 20) M7 (fun r11 M10 =>
                  if r11 = 0 then (
                    wX12_isListening (a2 - 30) M10 (fun r14 M13 =>
                      if r14 = 0 then (
                        post (-1) M13)
                      else (
                        wX12_triedBy_59 post a0 a1 a2 M13)))
                  else (
                    wX12_triedBy_59 post a0 a1 a2 M10)))
              else (
                wX12_triedBy_59 post a0 a1 a2 M7)))
          else (
            wX12_triedBy_59 post a0 a1 a2 M4))))
abbrev rm_X12_tried : Room := { frames := 10, cells := 0, slots := 0, locals := 233 }
theorem yd_X12_tried : yX12_tried.cls ≠ "java/lang/invoke/MethodHandle" ∧ yX12_tried.cls ≠ "java/lang/invoke/VarHandle" ∧ (parseMethodDescriptor yX12_tried.desc).map (fun d => d.parameters.length) = some 2 := by decide +kernel
def wX12_tried  (a0 : Int32) (a1 : Int32) (M : xMem) (post : Int32 → xMem → Prop) : Prop :=
    wX12_triedBy 0 a0 a1 M (fun r2 M1 =>
      post r2 M1)
abbrev rm_X12_other : Room := { frames := 10, cells := 0, slots := 0, locals := 233 }
theorem yd_X12_other : yX12_other.cls ≠ "java/lang/invoke/MethodHandle" ∧ yX12_other.cls ≠ "java/lang/invoke/VarHandle" ∧ (parseMethodDescriptor yX12_other.desc).map (fun d => d.parameters.length) = some 2 := by decide +kernel
def wX12_other  (a0 : Int32) (a1 : Int32) (M : xMem) (post : Int32 → xMem → Prop) : Prop :=
    wX12_triedBy 1 a0 a1 M (fun r2 M1 =>
      post r2 M1)
abbrev rm_X12_first : Room := { frames := 9, cells := 0, slots := 0, locals := 209 }
theorem yd_X12_first : yX12_first.cls ≠ "java/lang/invoke/MethodHandle" ∧ yX12_first.cls ≠ "java/lang/invoke/VarHandle" ∧ (parseMethodDescriptor yX12_first.desc).map (fun d => d.parameters.length) = some 2 := by decide +kernel
def wX12_first  (a0 : Int32) (a1 : Int32) (M : xMem) (post : Int32 → xMem → Prop) : Prop :=
    wX12_lies ((a0 : Int32).toInt64) 1 60 M (fun r2 M1 =>
      if r2 = 0 then (
        post (-1) M1)
      else (
        wX12_lies ((a1 : Int32).toInt64) 0 1 M1 (fun r5 M4 =>
          if r5 = 0 then (
            post (-1) M4)
          else (
            wX12_laysAside 0 M4 (fun M7 =>
              wX12_go a0 M7 (fun M8 =>
                wX12_bringsBack 0 M8 (fun M9 =>
                  if a1 = 0 then (
                    post (gi M9 0 78) M9)
                  else (
                    post (gi M9 0 79) M9))))))))
abbrev rm_X12_endIs : Room := { frames := 6, cells := 0, slots := 0, locals := 135 }
theorem yd_X12_endIs : yX12_endIs.cls ≠ "java/lang/invoke/MethodHandle" ∧ yX12_endIs.cls ≠ "java/lang/invoke/VarHandle" ∧ (parseMethodDescriptor yX12_endIs.desc).map (fun d => d.parameters.length) = some 2 := by decide +kernel
def wX12_endIs  (a0 : Int32) (a1 : Int32) (M : xMem) (post : Int32 → xMem → Prop) : Prop :=
    wX12_isThere a0 M (fun r2 M1 =>
      if r2 = 0 then (
        post (-1) M1)
      else (
        if a1 = 0 then (
          vp_in a0 10 ∧
          post (gi M1 26 a0.toNatClampNeg) M1)
        else
        if a1 = 1 then (
          vp_in a0 10 ∧
          post (gi M1 27 a0.toNatClampNeg) M1)
        else
        if a1 = 2 then (
          vp_in a0 10 ∧
          post (gi M1 28 a0.toNatClampNeg) M1)
        else
        if a1 = 3 then (
          vp_in a0 10 ∧
          post (gi M1 29 a0.toNatClampNeg) M1)
        else
        if a1 = 4 then (
          wX12_costOf a0 M1 (fun r14 M13 =>
            post r14 M13))
        else
        if a1 = 5 then (
          wX12_forgingOf a0 M1 (fun r17 M16 =>
            post r17 M16))
        else (
          post (-1) M1)))
abbrev rm_X12_boundSet : Room := { frames := 1, cells := 0, slots := 0, locals := 22 }
theorem yd_X12_boundSet : yX12_boundSet.cls ≠ "java/lang/invoke/MethodHandle" ∧ yX12_boundSet.cls ≠ "java/lang/invoke/VarHandle" ∧ (parseMethodDescriptor yX12_boundSet.desc).map (fun d => d.parameters.length) = some 1 := by decide +kernel
def wX12_boundSet_27   (K4 : Int32 → Int32 → Int32 → xMem → Prop) (post : Int32 → xMem → Prop) (x1 : Int32) (x3 : Int32) (s0 : Int32) (s1 : Int32) (M : xMem) : Prop :=
    ∀ v1 : Int32, v1 = s1 ||| s0 →
    ∀ v2 : Int32, v2 = x3 + 1 →
    K4 x1 v1 v2 M
def wX12_boundSet_4    (post : Int32 → xMem → Prop) : Nat → Int32 → Int32 → Int32 → xMem → Prop
  | 0 => fun _ _ _ _ => False
  | n + 1 => fun x1 x2 x3 M =>
      if 10 ≤ x3 then (
        post x2 M)
      else (
        wX12_isBound x3 x1 M (fun r3 M2 =>
          if r3 = 0 then (
            wX12_boundSet_27 (wX12_boundSet_4 post n) post x1 x3 0 x2 M2)
          else (
            wX12_boundSet_27 (wX12_boundSet_4 post n) post x1 x3 (1 <<< (x3 &&& 31)) x2 M2)))
def wX12_boundSet  (a0 : Int32) (M : xMem) (post : Int32 → xMem → Prop) : Prop :=
    ∃ n4 : Nat, wX12_boundSet_4 post n4 a0 0 0 M
abbrev rm_X12_tellerIs : Room := { frames := 6, cells := 0, slots := 0, locals := 135 }
theorem yd_X12_tellerIs : yX12_tellerIs.cls ≠ "java/lang/invoke/MethodHandle" ∧ yX12_tellerIs.cls ≠ "java/lang/invoke/VarHandle" ∧ (parseMethodDescriptor yX12_tellerIs.desc).map (fun d => d.parameters.length) = some 2 := by decide +kernel
def wX12_tellerIs  (a0 : Int32) (a1 : Int32) (M : xMem) (post : Int32 → xMem → Prop) : Prop :=
    wX12_isTelling a0 M (fun r2 M1 =>
      if r2 = 0 then (
        post (-1) M1)
      else (
        if a1 = 0 then (
          vp_in a0 4 ∧
          post (gi M1 31 a0.toNatClampNeg) M1)
        else
        if a1 = 1 then (
          vp_in a0 4 ∧
          post (gi M1 32 a0.toNatClampNeg) M1)
        else
        if a1 = 2 then (
          vp_in a0 4 ∧
          post (gi M1 33 a0.toNatClampNeg) M1)
        else
        if a1 = 3 then (
          vp_in a0 4 ∧
          post (gi M1 34 a0.toNatClampNeg) M1)
        else
        if a1 = 4 then (
          wX12_boundSet a0 M1 (fun r14 M13 =>
            post r14 M13))
        else
        if a1 = 5 then (
          wX12_speedOf a0 M1 (fun r17 M16 =>
            post r17 M16))
        else (
          post (-1) M1)))
abbrev rm_X12_listenerIs : Room := { frames := 2, cells := 0, slots := 0, locals := 46 }
theorem yd_X12_listenerIs : yX12_listenerIs.cls ≠ "java/lang/invoke/MethodHandle" ∧ yX12_listenerIs.cls ≠ "java/lang/invoke/VarHandle" ∧ (parseMethodDescriptor yX12_listenerIs.desc).map (fun d => d.parameters.length) = some 2 := by decide +kernel
def wX12_listenerIs  (a0 : Int32) (a1 : Int32) (M : xMem) (post : Int32 → xMem → Prop) : Prop :=
    wX12_isListening a0 M (fun r2 M1 =>
      if r2 = 0 then (
        post (-1) M1)
      else (
        wX12_lies ((a1 : Int32).toInt64) 0 2 M1 (fun r5 M4 =>
          if r5 = 0 then (
            post (-1) M4)
          else (
            if a1 = 0 then (
              vp_in a0 10 ∧
              if (gi M4 36 a0.toNatClampNeg) = (-1) then (
                post (-2) M4)
              else (
                vp_in a0 10 ∧
                post (gi M4 36 a0.toNatClampNeg) M4))
            else (
              if a1 = 1 then (
                vp_in a0 10 ∧
                post (gi M4 37 a0.toNatClampNeg) M4)
              else (
                vp_in a0 10 ∧
                post (gi M4 38 a0.toNatClampNeg) M4))))))
abbrev rm_X12_laysLeftOut : Room := { frames := 1, cells := 0, slots := 0, locals := 21 }
theorem yd_X12_laysLeftOut : yX12_laysLeftOut.cls ≠ "java/lang/invoke/MethodHandle" ∧ yX12_laysLeftOut.cls ≠ "java/lang/invoke/VarHandle" ∧ (parseMethodDescriptor yX12_laysLeftOut.desc).map (fun d => d.parameters.length) = some 2 := by decide +kernel
def wX12_laysLeftOut_154   (K58 : Int32 → Int32 → xMem → Prop) (K66 : Int32 → Int32 → Int32 → xMem → Prop) (post : xMem → Prop) (x1 : Int32) (x4 : Int32) (x5 : Int32) (s0 : Int32) (s1 : Int32) (M : xMem) : Prop :=
    vp_in s1 74752 ∧
    ∀ M2 : xMem, M2 = si M 55 s1.toNatClampNeg s0 →
    ∀ v3 : Int32, v3 = x5 + 1 →
    K66 x1 x4 v3 M2
def wX12_laysLeftOut_66   (K58 : Int32 → Int32 → xMem → Prop) (post : xMem → Prop) : Nat → Int32 → Int32 → Int32 → xMem → Prop
  | 0 => fun _ _ _ _ => False
  | n + 1 => fun x1 x4 x5 M =>
      if 1023 < x5 then (
        ∀ v2 : Int32, v2 = x4 + (-1) →
        K58 x1 v2 M)
      else (
        vp_in ((72 * x1) + x4) 432 ∧
        wX12_turned x5 (gi M 4 ((72 * x1) + x4).toNatClampNeg) M (fun r5 M4 =>
          vp_in ((1024 * (x4 + 1)) + r5) 74752 ∧
          ∀ v7 : Int32, v7 = gi M4 55 ((1024 * (x4 + 1)) + r5).toNatClampNeg →
          vp_in ((1024 * (x4 + 1)) + x5) 74752 ∧
          ∀ v9 : Int32, v9 = (gi M4 55 ((1024 * (x4 + 1)) + x5).toNatClampNeg) + 1 →
          if v9 ≤ v7 then (
            wX12_laysLeftOut_154 K58 (wX12_laysLeftOut_66 K58 post n) post x1 x4 x5 v9 ((1024 * x4) + x5) M4)
          else (
            wX12_laysLeftOut_154 K58 (wX12_laysLeftOut_66 K58 post n) post x1 x4 x5 v7 ((1024 * x4) + x5) M4)))
def wX12_laysLeftOut_58    (post : xMem → Prop) : Nat → Int32 → Int32 → xMem → Prop
  | 0 => fun _ _ _ => False
  | n + 1 => fun x1 x4 M =>
      if x4 < 0 then (
        post M)
      else (
        ∃ n66 : Nat, wX12_laysLeftOut_66 (wX12_laysLeftOut_58 post n) post n66 x1 x4 0 M)
def wX12_laysLeftOut_46   (K10 : Int32 → Int32 → Int32 → Int32 → xMem → Prop) (post : xMem → Prop) (x1 : Int32) (x2 : Int32) (x3 : Int32) (x4 : Int32) (s0 : Int32) (s1 : Int32) (M : xMem) : Prop :=
    vp_in s1 74752 ∧
    ∀ M2 : xMem, M2 = si M 55 s1.toNatClampNeg s0 →
    ∀ v3 : Int32, v3 = x4 + 1 →
    K10 x1 x2 x3 v3 M2
def wX12_laysLeftOut_10    (post : xMem → Prop) : Nat → Int32 → Int32 → Int32 → Int32 → xMem → Prop
  | 0 => fun _ _ _ _ _ => False
  | n + 1 => fun x1 x2 x3 x4 M =>
      if 1023 < x4 then (
        ∀ v2 : Int32, v2 = x3 - 1 →
        ∃ n58 : Nat, wX12_laysLeftOut_58 post n58 x1 v2 M)
      else (
        if (x4 &&& (x2 ^^^ (-1))) = 0 then (
          wX12_laysLeftOut_46 (wX12_laysLeftOut_10 post n) post x1 x2 x3 x4 0 ((1024 * x3) + x4) M)
        else (
          wX12_laysLeftOut_46 (wX12_laysLeftOut_10 post n) post x1 x2 x3 x4 1000000000 ((1024 * x3) + x4) M))
def wX12_laysLeftOut  (a0 : Int32) (a1 : Int32) (M : xMem) (post : xMem → Prop) : Prop :=
    vp_in a0 6 ∧
    ∀ v2 : Int32, v2 = gi M 3 a0.toNatClampNeg →
    ∃ n10 : Nat, wX12_laysLeftOut_10 post n10 a0 a1 v2 0 M
abbrev rm_X12_fitting : Room := { frames := 2, cells := 0, slots := 0, locals := 48 }
theorem yd_X12_fitting : yX12_fitting.cls ≠ "java/lang/invoke/MethodHandle" ∧ yX12_fitting.cls ≠ "java/lang/invoke/VarHandle" ∧ (parseMethodDescriptor yX12_fitting.desc).map (fun d => d.parameters.length) = some 3 := by decide +kernel
def wX12_fitting_151   (K71 : Int32 → Int32 → Int32 → Int32 → Int32 → xMem → Prop) (post : Int32 → xMem → Prop) (x1 : Int32) (x3 : Int32) (x4 : Int32) (x5 : Int32) (x6 : Int32) (M : xMem) : Prop :=
    ∀ v1 : Int32, v1 = x6 + 1 →
    K71 x1 x3 x4 x5 v1 M
def wX12_fitting_71    (post : Int32 → xMem → Prop) : Nat → Int32 → Int32 → Int32 → Int32 → Int32 → xMem → Prop
  | 0 => fun _ _ _ _ _ _ => False
  | n + 1 => fun x1 x3 x4 x5 x6 M =>
      vp_in x1 6 ∧
      if (gi M 3 x1.toNatClampNeg) ≤ x6 then (
        post (-4) M)
      else (
        vp_in ((1024 * (x6 + 1)) + x4) 74752 ∧
        vp_in ((1024 * x6) + x4) 74752 ∧
        if ((gi M 55 ((1024 * (x6 + 1)) + x4).toNatClampNeg) + 1) = (gi M 55 ((1024 * x6) + x4).toNatClampNeg) then (
          if x5 = x3 then (
            post x6 M)
          else (
            ∀ v10 : Int32, v10 = x5 + 1 →
            wX12_fitting_151 (wX12_fitting_71 post n) post x1 x3 x4 v10 x6 M))
        else (
          vp_in ((72 * x1) + x6) 432 ∧
          wX12_turned x4 (gi M 4 ((72 * x1) + x6).toNatClampNeg) M (fun r8 M7 =>
            wX12_fitting_151 (wX12_fitting_71 post n) post x1 x3 r8 x5 x6 M7)))
def wX12_fitting  (a0 : Int32) (a1 : Int32) (a2 : Int32) (M : xMem) (post : Int32 → xMem → Prop) : Prop :=
    wX12_isTold a0 M (fun r2 M1 =>
      if r2 = 0 then (
        post (-1) M1)
      else (
        wX12_lies ((a1 : Int32).toInt64) 0 1023 M1 (fun r5 M4 =>
          if r5 = 0 then (
            post (-1) M4)
          else (
            wX12_laysLeftOut a0 a1 M4 (fun M7 =>
              if a2 = 100 then (
                vp_in 0 74752 ∧
                post (gi M7 55 0) M7)
              else (
                vp_in 0 74752 ∧
                wX12_lies ((a2 : Int32).toInt64) 0 (((gi M7 55 0) - 1 : Int32).toInt64) M7 (fun r11 M10 =>
                  if r11 = 0 then (
                    post (-4) M10)
                  else (
                    ∃ n71 : Nat, wX12_fitting_71 post n71 a0 a2 0 0 0 M10))))))))
abbrev rm_X12_wouldDo : Room := { frames := 2, cells := 0, slots := 0, locals := 46 }
theorem yd_X12_wouldDo : yX12_wouldDo.cls ≠ "java/lang/invoke/MethodHandle" ∧ yX12_wouldDo.cls ≠ "java/lang/invoke/VarHandle" ∧ (parseMethodDescriptor yX12_wouldDo.desc).map (fun d => d.parameters.length) = some 3 := by decide +kernel
def wX12_wouldDo_110   (K44 : Int32 → Int32 → Int32 → Int32 → Int32 → Int32 → Int32 → xMem → Prop) (post : Int32 → xMem → Prop) (x1 : Int32) (x2 : Int32) (x3 : Int32) (x4 : Int32) (x5 : Int32) (x6 : Int32) (x7 : Int32) (M : xMem) : Prop :=
    ∀ v1 : Int32, v1 = x7 + 1 →
    K44 x1 x2 x3 x4 x5 x6 v1 M
def wX12_wouldDo_104   (K44 : Int32 → Int32 → Int32 → Int32 → Int32 → Int32 → Int32 → xMem → Prop) (post : Int32 → xMem → Prop) (x1 : Int32) (x2 : Int32) (x3 : Int32) (x4 : Int32) (x7 : Int32) (s0 : Int32) (M : xMem) : Prop :=
    wX12_wouldDo_110 K44 post x1 x2 x3 x4 s0 x7 x7 M
def wX12_wouldDo_44    (post : Int32 → xMem → Prop) : Nat → Int32 → Int32 → Int32 → Int32 → Int32 → Int32 → Int32 → xMem → Prop
  | 0 => fun _ _ _ _ _ _ _ _ => False
  | n + 1 => fun x1 x2 x3 x4 x5 x6 x7 M =>
      vp_in x1 6 ∧
      if (gi M 3 x1.toNatClampNeg) < x7 then (
        if x3 = 0 then (
          post x4 M)
        else (
          if x3 = 1 then (
            post x5 M)
          else (
            post x6 M)))
      else (
        wX12_openBehind x1 x7 0 M (fun r6 M5 =>
          if r6 = 0 then (
            wX12_wouldDo_110 (wX12_wouldDo_44 post n) post x1 x2 x3 x4 x5 x6 x7 M5)
          else (
            vp_in x2 10 ∧
            if (r6 &&& ((gi M5 26 x2.toNatClampNeg) ^^^ (-1))) = 0 then (
              ∀ v10 : Int32, v10 = x4 + 1 →
              if x5 = (-2) then (
                wX12_wouldDo_104 (wX12_wouldDo_44 post n) post x1 x2 x3 v10 x7 x7 M5)
              else (
                wX12_wouldDo_104 (wX12_wouldDo_44 post n) post x1 x2 x3 v10 x7 x5 M5))
            else (
              wX12_wouldDo_110 (wX12_wouldDo_44 post n) post x1 x2 x3 x4 x5 x6 x7 M5))))
def wX12_wouldDo  (a0 : Int32) (a1 : Int32) (a2 : Int32) (M : xMem) (post : Int32 → xMem → Prop) : Prop :=
    wX12_isTold a0 M (fun r2 M1 =>
      if r2 = 0 then (
        post (-1) M1)
      else (
        wX12_isThere a1 M1 (fun r5 M4 =>
          if r5 = 0 then (
            post (-1) M4)
          else (
            wX12_lies ((a2 : Int32).toInt64) 0 2 M4 (fun r8 M7 =>
              if r8 = 0 then (
                post (-1) M7)
              else (
                ∃ n44 : Nat, wX12_wouldDo_44 post n44 a0 a1 a2 0 (-2) (-2) 0 M7))))))
set_option maxHeartbeats 4000000 in
set_option maxRecDepth 100000 in
theorem tX12_buys {g : xG} (hg : x_inj (WM g))  (l : Launch) (a0 : Int32) (a1 : Int32) (M : xMem) (post : Int32 → xMem → Prop)  (h : wX12_buys a0 a1 M post) : xMet (WM g) l yX12_buys cX12_buys 4 (some .int) (rm_X12_buys) [.ref (ga g 0), .int a0, .int a1] M (pI post) := by
  refine x_enter (own := RX12) (L0 := [(0, .ref (ga g 0)), (1, .int a0), (2, .int a1)]) (by decide +kernel) rfl hg (x_stM g) (Nat.le_of_ble_eq_true rfl) rfl (fun x hl C => ?_)
  unfold wX12_buys at h
  refine x_aload_n C 0 rfl rfl dX12_buys_0 ?_
  refine x_iload_n C 1 rfl rfl dX12_buys_1 ?_
  refine x_callV C (st := []) (As := [.int a0]) (c := 0) (ci := 12) (enM_12 (c := 0) rfl) (Nat.le_of_ble_eq_true rfl) rfl (tX12_isTelling hg _ _ _ _  h) wm_X12_467 wi_X12_isTelling wv_X12_isTelling wz_X12 wc_X12_isTelling rfl yd_X12_isTelling rfl ⟨rfl, rfl⟩ ⟨Nat.le_of_ble_eq_true rfl, Nat.le_of_ble_eq_true rfl⟩ (Nat.le_of_ble_eq_true rfl) rfl dX12_buys_2 (x_ki (fun r2 M1 h => ?_))
  refine x_if_eq C (tgt := 25) dX12_buys_5 (by decide) (fun hq3 => ?_) (fun hq3 => ?_)
  · replace h := x_ift hq3 h
    refine x_iconst C (v1 := (-1)) dX12_buys_25 (by decide) ?_
    exact x_iret C dX12_buys_26 ⟨_, rfl, h⟩
  · replace h := x_iff hq3 h
    refine x_aload_n C 0 rfl rfl dX12_buys_8 ?_
    refine x_iload_n C 2 rfl rfl dX12_buys_9 ?_
    refine x_callV C (st := []) (As := [.int a1]) (c := 0) (ci := 12) (enM_12 (c := 0) rfl) (Nat.le_of_ble_eq_true rfl) rfl (tX12_isThere hg _ _ _ _  h) wm_X12_499 wi_X12_isThere wv_X12_isThere wz_X12 wc_X12_isThere rfl yd_X12_isThere rfl ⟨rfl, rfl⟩ ⟨Nat.le_of_ble_eq_true rfl, Nat.le_of_ble_eq_true rfl⟩ (Nat.le_of_ble_eq_true rfl) rfl dX12_buys_10 (x_ki (fun r5 M4 h => ?_))
    refine x_if_eq C (tgt := 25) dX12_buys_13 (by decide) (fun hq6 => ?_) (fun hq6 => ?_)
    · replace h := x_ift hq6 h
      refine x_iconst C (v1 := (-1)) dX12_buys_25 (by decide) ?_
      exact x_iret C dX12_buys_26 ⟨_, rfl, h⟩
    · replace h := x_iff hq6 h
      refine x_aload_n C 0 rfl rfl dX12_buys_16 ?_
      refine x_get C (c := 0) (ci := 12) (k1 := 54) (v1 := .ref (ga g 28)) (enM_12 (c := 0) rfl) (Nat.le_of_ble_eq_true rfl) rfl inX12 (by decide) wf_X12_97 rfl dX12_buys_17 ?_
      refine x_iload_n C 2 rfl rfl dX12_buys_20 ?_
      obtain ⟨hi7, h⟩ := h
      refine x_iald C 0 (c := 28) (enM_20n (c := 28) (n := 10) rfl rfl) (Nat.le_of_ble_eq_true rfl) rfl hi7 dX12_buys_21 ?_
      refine x_if_ne C (tgt := 27) dX12_buys_22 (by decide) (fun hq8 => ?_) (fun hq8 => ?_)
      · replace h := x_iff hq8 h
        refine x_aload_n C 0 rfl rfl dX12_buys_27 ?_
        refine x_iload_n C 2 rfl rfl dX12_buys_28 ?_
        refine x_callV C (st := []) (As := [.int a1]) (c := 0) (ci := 12) (enM_12 (c := 0) rfl) (Nat.le_of_ble_eq_true rfl) rfl (tX12_costOf hg _ _ _ _  h) wm_X12_470 wi_X12_costOf wv_X12_costOf wz_X12 wc_X12_costOf rfl yd_X12_costOf rfl ⟨rfl, rfl⟩ ⟨Nat.le_of_ble_eq_true rfl, Nat.le_of_ble_eq_true rfl⟩ (Nat.le_of_ble_eq_true rfl) rfl dX12_buys_29 (x_ki (fun r10 M9 h => ?_))
        refine x_istore_n C (L' := [(3, .int r10), (0, .ref (ga g 0)), (1, .int a0), (2, .int a1)]) rfl rfl (Nat.le_of_ble_eq_true rfl) dX12_buys_32 ?_
        refine x_iload_n C 0 rfl rfl dX12_buys_33 ?_
        refine x_aload_n C 1 rfl rfl dX12_buys_34 ?_
        refine x_get C (c := 0) (ci := 12) (k1 := 58) (v1 := .ref (ga g 32)) (enM_12 (c := 0) rfl) (Nat.le_of_ble_eq_true rfl) rfl inX12 (by decide) wf_X12_109 rfl dX12_buys_35 ?_
        refine x_iload_n C 2 rfl rfl dX12_buys_38 ?_
        obtain ⟨hi11, h⟩ := h
        refine x_iald C 0 (c := 32) (enM_20n (c := 32) (n := 4) rfl rfl) (Nat.le_of_ble_eq_true rfl) rfl hi11 dX12_buys_39 ?_
        refine x_icmp_le C (tgt := 47) dX12_buys_40 (by decide) (fun hq12 => ?_) (fun hq12 => ?_)
        · replace h := x_ift hq12 h
          refine x_aload_n C 1 rfl rfl dX12_buys_47 ?_
          refine x_iload_n C 2 rfl rfl dX12_buys_48 ?_
          refine x_iload_n C 3 rfl rfl dX12_buys_49 ?_
          refine x_iload_n C 0 rfl rfl dX12_buys_50 ?_
          refine x_callV C (st := []) (As := [.int a0, .int a1, .int r10]) (c := 0) (ci := 12) (enM_12 (c := 0) rfl) (Nat.le_of_ble_eq_true rfl) rfl (tX12_buying hg _ _ _ _ _ _  h) wm_X12_502 wi_X12_buying wv_X12_buying wz_X12 wc_X12_buying rfl yd_X12_buying rfl ⟨rfl, rfl⟩ ⟨Nat.le_of_ble_eq_true rfl, Nat.le_of_ble_eq_true rfl⟩ (Nat.le_of_ble_eq_true rfl) rfl dX12_buys_51 (x_ki (fun r14 M13 h => ?_))
          exact x_iret C dX12_buys_54 ⟨_, rfl, h⟩
        · replace h := x_iff hq12 h
          refine x_iconst C (v1 := (-1)) dX12_buys_43 (by decide) ?_
          refine x_goto C (tgt := 54) dX12_buys_44 (by decide) ?_
          exact x_iret C dX12_buys_54 ⟨_, rfl, h⟩
      · replace h := x_ift hq8 h
        refine x_iconst C (v1 := (-1)) dX12_buys_25 (by decide) ?_
        exact x_iret C dX12_buys_26 ⟨_, rfl, h⟩
set_option maxHeartbeats 4000000 in
set_option maxRecDepth 100000 in
theorem tX12_isAtEnd {g : xG} (hg : x_inj (WM g))  (l : Launch) (a0 : Int32) (M : xMem) (post : Int32 → xMem → Prop)  (h : wX12_isAtEnd a0 M post) : xMet (WM g) l yX12_isAtEnd cX12_isAtEnd 2 (some .boolean) (rm_X12_isAtEnd) [.ref (ga g 0), .int a0] M (pI post) := by
  refine x_enter (own := RX12) (L0 := [(0, .ref (ga g 0)), (1, .int a0)]) (by decide +kernel) rfl hg (x_stM g) (Nat.le_of_ble_eq_true rfl) rfl (fun x hl C => ?_)
  unfold wX12_isAtEnd at h
  refine x_aload_n C 0 rfl rfl dX12_isAtEnd_0 ?_
  refine x_get C (c := 0) (ci := 12) (k1 := 59) (v1 := .ref (ga g 33)) (enM_12 (c := 0) rfl) (Nat.le_of_ble_eq_true rfl) rfl inX12 (by decide) wf_X12_112 rfl dX12_isAtEnd_1 ?_
  refine x_iload_n C 1 rfl rfl dX12_isAtEnd_4 ?_
  obtain ⟨hi1, h⟩ := h
  refine x_iald C 0 (c := 33) (enM_20n (c := 33) (n := 4) rfl rfl) (Nat.le_of_ble_eq_true rfl) rfl hi1 dX12_isAtEnd_5 ?_
  refine x_aload_n C 0 rfl rfl dX12_isAtEnd_6 ?_
  refine x_get C (c := 0) (ci := 12) (k1 := 11) (v1 := .ref (ga g 3)) (enM_12 (c := 0) rfl) (Nat.le_of_ble_eq_true rfl) rfl inX12 (by decide) wf_X12_21 rfl dX12_isAtEnd_7 ?_
  refine x_aload_n C 0 rfl rfl dX12_isAtEnd_10 ?_
  refine x_get C (c := 0) (ci := 12) (k1 := 57) (v1 := .ref (ga g 31)) (enM_12 (c := 0) rfl) (Nat.le_of_ble_eq_true rfl) rfl inX12 (by decide) wf_X12_106 rfl dX12_isAtEnd_11 ?_
  refine x_iload_n C 1 rfl rfl dX12_isAtEnd_14 ?_
  obtain ⟨hi2, h⟩ := h
  refine x_iald C 0 (c := 31) (enM_20n (c := 31) (n := 4) rfl rfl) (Nat.le_of_ble_eq_true rfl) rfl hi2 dX12_isAtEnd_15 ?_
  obtain ⟨hi3, h⟩ := h
  refine x_iald C 0 (c := 3) (enM_20n (c := 3) (n := 6) rfl rfl) (Nat.le_of_ble_eq_true rfl) rfl hi3 dX12_isAtEnd_16 ?_
  refine x_icmp_ne C (tgt := 24) dX12_isAtEnd_17 (by decide) (fun hq4 => ?_) (fun hq4 => ?_)
  · replace h := x_iff hq4 h
    refine x_iconst C (v1 := 0) dX12_isAtEnd_24 (by decide) ?_
    exact x_zret C rfl dX12_isAtEnd_25 ⟨_, rfl, h⟩
  · replace h := x_ift hq4 h
    refine x_iconst C (v1 := 1) dX12_isAtEnd_20 (by decide) ?_
    refine x_goto C (tgt := 25) dX12_isAtEnd_21 (by decide) ?_
    exact x_zret C rfl dX12_isAtEnd_25 ⟨_, rfl, h⟩
set_option maxHeartbeats 4000000 in
set_option maxRecDepth 100000 in
theorem tX12_goesOn_6 {g : xG} (hg : x_inj (WM g))  {x : xCx}   {post : xMem → Prop} (C : xOk (WM g) x cX12_goesOn RX12 3 none (rm_X12_goesOn) (pV post))   : ∀ (n : Nat) (x1 : Int32) (x2 : Int32) (M : xMem), wX12_goesOn_6 post n x1 x2 M → xW (WM g) x 3 6 [(0, .ref (ga g 0)), (1, .int x1), (2, .int x2)] [] M := by
  intro n
  induction n with
  | zero =>
    intro x1 x2 M  h
    exact h.elim
  | succ n ih =>
    intro x1 x2 M  h
    rw [wX12_goesOn_6] at h
    refine x_iload_n C 2 rfl rfl dX12_goesOn_6 ?_
    refine x_if_le C (tgt := 70) dX12_goesOn_7 (by decide) (fun hq1 => ?_) (fun hq1 => ?_)
    · replace h := x_ift hq1 h
      exact x_vret C dX12_goesOn_70 ⟨rfl, h⟩
    · replace h := x_iff hq1 h
      refine x_aload_n C 0 rfl rfl dX12_goesOn_10 ?_
      refine x_iload_n C 1 rfl rfl dX12_goesOn_11 ?_
      refine x_callV C (st := []) (As := [.int x1]) (c := 0) (ci := 12) (enM_12 (c := 0) rfl) (Nat.le_of_ble_eq_true rfl) rfl (tX12_isAtEnd hg _ _ _ _  h) wm_X12_508 wi_X12_isAtEnd wv_X12_isAtEnd wz_X12 wc_X12_isAtEnd rfl yd_X12_isAtEnd rfl ⟨rfl, rfl⟩ ⟨Nat.le_of_ble_eq_true rfl, Nat.le_of_ble_eq_true rfl⟩ (Nat.le_of_ble_eq_true rfl) rfl dX12_goesOn_12 (x_ki (fun r3 M2 h => ?_))
      refine x_if_ne C (tgt := 70) dX12_goesOn_15 (by decide) (fun hq4 => ?_) (fun hq4 => ?_)
      · replace h := x_iff hq4 h
        exact x_vret C dX12_goesOn_70 ⟨rfl, h⟩
      · replace h := x_ift hq4 h
        refine x_aload_n C 0 rfl rfl dX12_goesOn_18 ?_
        refine x_get C (c := 0) (ci := 12) (k1 := 60) (v1 := .ref (ga g 34)) (enM_12 (c := 0) rfl) (Nat.le_of_ble_eq_true rfl) rfl inX12 (by decide) wf_X12_115 rfl dX12_goesOn_19 ?_
        refine x_iload_n C 1 rfl rfl dX12_goesOn_22 ?_
        refine x_aload_n C 0 rfl rfl dX12_goesOn_23 ?_
        refine x_get C (c := 0) (ci := 12) (k1 := 60) (v1 := .ref (ga g 34)) (enM_12 (c := 0) rfl) (Nat.le_of_ble_eq_true rfl) rfl inX12 (by decide) wf_X12_115 rfl dX12_goesOn_24 ?_
        refine x_iload_n C 1 rfl rfl dX12_goesOn_27 ?_
        obtain ⟨hi5, h⟩ := h
        refine x_iald C 0 (c := 34) (enM_20n (c := 34) (n := 4) rfl rfl) (Nat.le_of_ble_eq_true rfl) rfl hi5 dX12_goesOn_28 ?_
        refine x_aload_n C 0 rfl rfl dX12_goesOn_29 ?_
        refine x_get C (c := 0) (ci := 12) (k1 := 12) (v1 := .ref (ga g 4)) (enM_12 (c := 0) rfl) (Nat.le_of_ble_eq_true rfl) rfl inX12 (by decide) wf_X12_25 rfl dX12_goesOn_30 ?_
        refine x_bipush C (v1 := 72) dX12_goesOn_33 (by decide) ?_
        refine x_aload_n C 0 rfl rfl dX12_goesOn_35 ?_
        refine x_get C (c := 0) (ci := 12) (k1 := 57) (v1 := .ref (ga g 31)) (enM_12 (c := 0) rfl) (Nat.le_of_ble_eq_true rfl) rfl inX12 (by decide) wf_X12_106 rfl dX12_goesOn_36 ?_
        refine x_iload_n C 1 rfl rfl dX12_goesOn_39 ?_
        obtain ⟨hi6, h⟩ := h
        refine x_iald C 0 (c := 31) (enM_20n (c := 31) (n := 4) rfl rfl) (Nat.le_of_ble_eq_true rfl) rfl hi6 dX12_goesOn_40 ?_
        refine x_imul C dX12_goesOn_41 ?_
        refine x_aload_n C 0 rfl rfl dX12_goesOn_42 ?_
        refine x_get C (c := 0) (ci := 12) (k1 := 59) (v1 := .ref (ga g 33)) (enM_12 (c := 0) rfl) (Nat.le_of_ble_eq_true rfl) rfl inX12 (by decide) wf_X12_112 rfl dX12_goesOn_43 ?_
        refine x_iload_n C 1 rfl rfl dX12_goesOn_46 ?_
        obtain ⟨hi7, h⟩ := h
        refine x_iald C 0 (c := 33) (enM_20n (c := 33) (n := 4) rfl rfl) (Nat.le_of_ble_eq_true rfl) rfl hi7 dX12_goesOn_47 ?_
        refine x_iadd C dX12_goesOn_48 ?_
        obtain ⟨hi8, h⟩ := h
        refine x_iald C 0 (c := 4) (enM_20n (c := 4) (n := 432) rfl rfl) (Nat.le_of_ble_eq_true rfl) rfl hi8 dX12_goesOn_49 ?_
        refine x_callS C (st := [.int x1, .ref (ga g 34)]) (As := [.int (gi M2 34 x1.toNatClampNeg), .int (gi M2 4 ((72 * (gi M2 31 x1.toNatClampNeg)) + (gi M2 33 x1.toNatClampNeg)).toNatClampNeg)]) (tX12_turned hg _ _ _ _ _  h) wm_X12_275 wsm_X12_turned wz_X12 wc_X12_turned yd_X12_turned rfl ⟨rfl, rfl⟩ ⟨Nat.le_of_ble_eq_true rfl, Nat.le_of_ble_eq_true rfl⟩ (Nat.le_of_ble_eq_true rfl) rfl dX12_goesOn_50 (x_ki (fun r10 M9 h => ?_))
        obtain ⟨hi11, h⟩ := h
        refine x_iast C 0 (c := 34) (enM_20n (c := 34) (n := 4) rfl rfl) (Nat.le_of_ble_eq_true rfl) rfl hi11 dX12_goesOn_53 ?_
        refine x_nmM (fun M12 eM12 => ?_)
        replace h := h M12 eM12
        refine x_aload_n C 0 rfl rfl dX12_goesOn_54 ?_
        refine x_get C (c := 0) (ci := 12) (k1 := 59) (v1 := .ref (ga g 33)) (enM_12 (c := 0) rfl) (Nat.le_of_ble_eq_true rfl) rfl inX12 (by decide) wf_X12_112 rfl dX12_goesOn_55 ?_
        refine x_iload_n C 1 rfl rfl dX12_goesOn_58 ?_
        refine x_dup2 C rfl rfl dX12_goesOn_59 ?_
        obtain ⟨hi13, h⟩ := h
        refine x_iald C 0 (c := 33) (enM_20n (c := 33) (n := 4) rfl rfl) (Nat.le_of_ble_eq_true rfl) rfl hi13 dX12_goesOn_60 ?_
        refine x_iconst C (v1 := 1) dX12_goesOn_61 (by decide) ?_
        refine x_iadd C dX12_goesOn_62 ?_
        obtain ⟨hi14, h⟩ := h
        refine x_iast C 0 (c := 33) (enM_20n (c := 33) (n := 4) rfl rfl) (Nat.le_of_ble_eq_true rfl) rfl hi14 dX12_goesOn_63 ?_
        refine x_nmM (fun M15 eM15 => ?_)
        replace h := h M15 eM15
        obtain ⟨v16, ev16⟩ : ∃ z : Int32, z = x2 + (-1) := ⟨_, rfl⟩
        replace h := h v16 ev16
        refine x_iinc C 2 (v1 := v16) (L' := [(2, .int v16), (0, .ref (ga g 0)), (1, .int x1)]) rfl (by rw [ev16]; rfl) rfl (Nat.le_of_ble_eq_true rfl) dX12_goesOn_64 ?_
        refine x_goto C (tgt := 6) dX12_goesOn_67 (by decide) ?_
        refine x_loc (L' := [(0, .ref (ga g 0)), (1, .int x1), (2, .int v16)]) [1, 2, 0] rfl ?_
        exact ih _ _ _  h
set_option maxHeartbeats 4000000 in
set_option maxRecDepth 100000 in
theorem tX12_goesOn {g : xG} (hg : x_inj (WM g))  (l : Launch) (a0 : Int32) (M : xMem) (post : xMem → Prop)  (h : wX12_goesOn a0 M post) : xMet (WM g) l yX12_goesOn cX12_goesOn 3 none (rm_X12_goesOn) [.ref (ga g 0), .int a0] M (pV post) := by
  refine x_enter (own := RX12) (L0 := [(0, .ref (ga g 0)), (1, .int a0)]) (by decide +kernel) rfl hg (x_stM g) (Nat.le_of_ble_eq_true rfl) rfl (fun x hl C => ?_)
  unfold wX12_goesOn at h
  refine x_aload_n C 0 rfl rfl dX12_goesOn_0 ?_
  refine x_iload_n C 1 rfl rfl dX12_goesOn_1 ?_
  refine x_callV C (st := []) (As := [.int a0]) (c := 0) (ci := 12) (enM_12 (c := 0) rfl) (Nat.le_of_ble_eq_true rfl) rfl (tX12_speedOf hg _ _ _ _  h) wm_X12_505 wi_X12_speedOf wv_X12_speedOf wz_X12 wc_X12_speedOf rfl yd_X12_speedOf rfl ⟨rfl, rfl⟩ ⟨Nat.le_of_ble_eq_true rfl, Nat.le_of_ble_eq_true rfl⟩ (Nat.le_of_ble_eq_true rfl) rfl dX12_goesOn_2 (x_ki (fun r2 M1 h => ?_))
  refine x_istore_n C (L' := [(2, .int r2), (0, .ref (ga g 0)), (1, .int a0)]) rfl rfl (Nat.le_of_ble_eq_true rfl) dX12_goesOn_5 ?_
  refine x_loc (L' := [(0, .ref (ga g 0)), (1, .int a0), (2, .int r2)]) [1, 2, 0] rfl ?_
  obtain ⟨n6, h⟩ := h
  exact tX12_goesOn_6 hg  C   _ _ _ _  h
set_option maxHeartbeats 4000000 in
set_option maxRecDepth 100000 in
theorem tX12_buysAll_108 {g : xG} (hg : x_inj (WM g))  {x : xCx}  {K77 : Int32 → Int32 → Int32 → xMem → Prop} {post : xMem → Prop} (C : xOk (WM g) x cX12_buysAll RX12 5 none (rm_X12_buysAll) (pV post))  (hK77 : ∀ (x1 : Int32) (x2 : Int32) (x3 : Int32) (M : xMem), K77 x1 x2 x3 M → xW (WM g) x 5 77 [(0, .ref (ga g 0)), (1, .int x1), (2, .int x2), (3, .int x3)] [] M) (x1 : Int32) (x2 : Int32) (x3 : Int32) (M : xMem)  (h : wX12_buysAll_108 K77 post x1 x2 x3 M) : xW (WM g) x 5 108 [(0, .ref (ga g 0)), (1, .int x1), (2, .int x2), (3, .int x3)] [] M := by
  unfold wX12_buysAll_108 at h
  obtain ⟨v1, ev1⟩ : ∃ z : Int32, z = x3 + 1 := ⟨_, rfl⟩
  replace h := h v1 ev1
  refine x_iinc C 3 (v1 := v1) (L' := [(3, .int v1), (0, .ref (ga g 0)), (1, .int x1), (2, .int x2)]) rfl (by rw [ev1]; rfl) rfl (Nat.le_of_ble_eq_true rfl) dX12_buysAll_108 ?_
  refine x_goto C (tgt := 77) dX12_buysAll_111 (by decide) ?_
  refine x_loc (L' := [(0, .ref (ga g 0)), (1, .int x1), (2, .int x2), (3, .int v1)]) [1, 2, 3, 0] rfl ?_
  exact hK77 _ _ _ _  h
set_option maxHeartbeats 4000000 in
set_option maxRecDepth 100000 in
theorem tX12_buysAll_77 {g : xG} (hg : x_inj (WM g))  {x : xCx}   {post : xMem → Prop} (C : xOk (WM g) x cX12_buysAll RX12 5 none (rm_X12_buysAll) (pV post))   : ∀ (n : Nat) (x1 : Int32) (x2 : Int32) (x3 : Int32) (M : xMem), wX12_buysAll_77 post n x1 x2 x3 M → xW (WM g) x 5 77 [(0, .ref (ga g 0)), (1, .int x1), (2, .int x2), (3, .int x3)] [] M := by
  intro n
  induction n with
  | zero =>
    intro x1 x2 x3 M  h
    exact h.elim
  | succ n ih =>
    intro x1 x2 x3 M  h
    rw [wX12_buysAll_77] at h
    refine x_iload_n C 3 rfl rfl dX12_buysAll_77 ?_
    refine x_bipush C (v1 := 10) dX12_buysAll_78 (by decide) ?_
    refine x_icmp_ge C (tgt := 114) dX12_buysAll_80 (by decide) (fun hq1 => ?_) (fun hq1 => ?_)
    · replace h := x_ift hq1 h
      exact x_vret C dX12_buysAll_114 ⟨rfl, h⟩
    · replace h := x_iff hq1 h
      refine x_iload_n C 2 rfl rfl dX12_buysAll_83 ?_
      refine x_iload_n C 3 rfl rfl dX12_buysAll_84 ?_
      refine x_callS C (st := []) (As := [.int x2, .int x3]) (tX12_has hg _ _ _ _ _  h) wm_X12_194 wsm_X12_has wz_X12 wc_X12_has yd_X12_has rfl ⟨rfl, rfl⟩ ⟨Nat.le_of_ble_eq_true rfl, Nat.le_of_ble_eq_true rfl⟩ (Nat.le_of_ble_eq_true rfl) rfl dX12_buysAll_85 (x_ki (fun r3 M2 h => ?_))
      refine x_if_ne C (tgt := 94) dX12_buysAll_88 (by decide) (fun hq4 => ?_) (fun hq4 => ?_)
      · replace h := x_iff hq4 h
        refine x_aload_n C 0 rfl rfl dX12_buysAll_94 ?_
        refine x_iload_n C 1 rfl rfl dX12_buysAll_95 ?_
        refine x_iload_n C 3 rfl rfl dX12_buysAll_96 ?_
        refine x_aload_n C 0 rfl rfl dX12_buysAll_97 ?_
        refine x_get C (c := 0) (ci := 12) (k1 := 80) (v1 := .ref (ga g 40)) (enM_12 (c := 0) rfl) (Nat.le_of_ble_eq_true rfl) rfl inX12 (by decide) wf_X12_133 rfl dX12_buysAll_98 ?_
        refine x_iload_n C 3 rfl rfl dX12_buysAll_101 ?_
        obtain ⟨hi5, h⟩ := h
        refine x_iald C 0 (c := 40) (enM_20n (c := 40) (n := 10) rfl rfl) (Nat.le_of_ble_eq_true rfl) rfl hi5 dX12_buysAll_102 ?_
        refine x_callV C (st := []) (As := [.int x1, .int x3, .int (gi M2 40 x3.toNatClampNeg)]) (c := 0) (ci := 12) (enM_12 (c := 0) rfl) (Nat.le_of_ble_eq_true rfl) rfl (tX12_buying hg _ _ _ _ _ _  h) wm_X12_502 wi_X12_buying wv_X12_buying wz_X12 wc_X12_buying rfl yd_X12_buying rfl ⟨rfl, rfl⟩ ⟨Nat.le_of_ble_eq_true rfl, Nat.le_of_ble_eq_true rfl⟩ (Nat.le_of_ble_eq_true rfl) rfl dX12_buysAll_103 (x_ki (fun r7 M6 h => ?_))
        refine x_istore C (L' := [(4, .int r7), (0, .ref (ga g 0)), (1, .int x1), (2, .int x2), (3, .int x3)]) rfl (Nat.le_of_ble_eq_true rfl) dX12_buysAll_106 ?_
        refine x_loc (L' := [(0, .ref (ga g 0)), (1, .int x1), (2, .int x2), (3, .int x3)]) [1, 2, 3, 4] rfl ?_
        exact tX12_buysAll_108 hg  C  ih _ _ _ _  h
      · replace h := x_ift hq4 h
        refine x_goto C (tgt := 108) dX12_buysAll_91 (by decide) ?_
        exact tX12_buysAll_108 hg  C  ih _ _ _ _  h
set_option maxHeartbeats 4000000 in
set_option maxRecDepth 100000 in
theorem tX12_buysAll_46 {g : xG} (hg : x_inj (WM g))  {x : xCx}   {post : xMem → Prop} (C : xOk (WM g) x cX12_buysAll RX12 5 none (rm_X12_buysAll) (pV post))   : ∀ (n : Nat) (x1 : Int32) (x2 : Int32) (M : xMem), wX12_buysAll_46 post n x1 x2 M → xW (WM g) x 5 46 [(0, .ref (ga g 0)), (1, .int x1), (2, .int x2)] [] M := by
  intro n
  induction n with
  | zero =>
    intro x1 x2 M  h
    exact h.elim
  | succ n ih =>
    intro x1 x2 M  h
    rw [wX12_buysAll_46] at h
    refine x_iload_n C 2 rfl rfl dX12_buysAll_46 ?_
    refine x_bipush C (v1 := 10) dX12_buysAll_47 (by decide) ?_
    refine x_icmp_ge C (tgt := 70) dX12_buysAll_49 (by decide) (fun hq1 => ?_) (fun hq1 => ?_)
    · replace h := x_ift hq1 h
      refine x_aload_n C 0 rfl rfl dX12_buysAll_70 ?_
      refine x_get C (c := 0) (ci := 12) (k1 := 69) (v1 := .int (gi M 0 69)) (enM_12 (c := 0) rfl) (Nat.le_of_ble_eq_true rfl) rfl inX12 (by decide) wf_X12_473 rfl dX12_buysAll_71 ?_
      refine x_nm (fun v2 ev2 => ?_)
      replace h := h v2 ev2
      refine x_istore_n C (L' := [(2, .int v2), (0, .ref (ga g 0)), (1, .int x1)]) rfl rfl (Nat.le_of_ble_eq_true rfl) dX12_buysAll_74 ?_
      refine x_iconst C (v1 := 0) dX12_buysAll_75 (by decide) ?_
      refine x_istore_n C (L' := [(3, .int 0), (2, .int v2), (0, .ref (ga g 0)), (1, .int x1)]) rfl rfl (Nat.le_of_ble_eq_true rfl) dX12_buysAll_76 ?_
      refine x_loc (L' := [(0, .ref (ga g 0)), (1, .int x1), (2, .int v2), (3, .int 0)]) [2, 3, 1, 0] rfl ?_
      obtain ⟨n77, h⟩ := h
      exact tX12_buysAll_77 hg  C   _ _ _ _ _  h
    · replace h := x_iff hq1 h
      refine x_aload_n C 0 rfl rfl dX12_buysAll_52 ?_
      refine x_get C (c := 0) (ci := 12) (k1 := 80) (v1 := .ref (ga g 40)) (enM_12 (c := 0) rfl) (Nat.le_of_ble_eq_true rfl) rfl inX12 (by decide) wf_X12_133 rfl dX12_buysAll_53 ?_
      refine x_iload_n C 2 rfl rfl dX12_buysAll_56 ?_
      refine x_aload_n C 0 rfl rfl dX12_buysAll_57 ?_
      refine x_get C (c := 0) (ci := 12) (k1 := 68) (v1 := .ref (ga g 39)) (enM_12 (c := 0) rfl) (Nat.le_of_ble_eq_true rfl) rfl inX12 (by decide) wf_X12_130 rfl dX12_buysAll_58 ?_
      refine x_iload_n C 2 rfl rfl dX12_buysAll_61 ?_
      obtain ⟨hi3, h⟩ := h
      refine x_iald C 0 (c := 39) (enM_20n (c := 39) (n := 10) rfl rfl) (Nat.le_of_ble_eq_true rfl) rfl hi3 dX12_buysAll_62 ?_
      obtain ⟨hi4, h⟩ := h
      refine x_iast C 0 (c := 40) (enM_20n (c := 40) (n := 10) rfl rfl) (Nat.le_of_ble_eq_true rfl) rfl hi4 dX12_buysAll_63 ?_
      refine x_nmM (fun M5 eM5 => ?_)
      replace h := h M5 eM5
      obtain ⟨v6, ev6⟩ : ∃ z : Int32, z = x2 + 1 := ⟨_, rfl⟩
      replace h := h v6 ev6
      refine x_iinc C 2 (v1 := v6) (L' := [(2, .int v6), (0, .ref (ga g 0)), (1, .int x1)]) rfl (by rw [ev6]; rfl) rfl (Nat.le_of_ble_eq_true rfl) dX12_buysAll_64 ?_
      refine x_goto C (tgt := 46) dX12_buysAll_67 (by decide) ?_
      refine x_loc (L' := [(0, .ref (ga g 0)), (1, .int x1), (2, .int v6)]) [1, 2, 0] rfl ?_
      exact ih _ _ _  h
set_option maxHeartbeats 4000000 in
set_option maxRecDepth 100000 in
theorem tX12_buysAll {g : xG} (hg : x_inj (WM g))  (l : Launch) (a0 : Int32) (M : xMem) (post : xMem → Prop)  (h : wX12_buysAll a0 M post) : xMet (WM g) l yX12_buysAll cX12_buysAll 5 none (rm_X12_buysAll) [.ref (ga g 0), .int a0] M (pV post) := by
  refine x_enter (own := RX12) (L0 := [(0, .ref (ga g 0)), (1, .int a0)]) (by decide +kernel) rfl hg (x_stM g) (Nat.le_of_ble_eq_true rfl) rfl (fun x hl C => ?_)
  unfold wX12_buysAll at h
  refine x_aload_n C 0 rfl rfl dX12_buysAll_0 ?_
  refine x_iload_n C 1 rfl rfl dX12_buysAll_1 ?_
  refine x_callV C (st := []) (As := [.int a0]) (c := 0) (ci := 12) (enM_12 (c := 0) rfl) (Nat.le_of_ble_eq_true rfl) rfl (tX12_isAtEnd hg _ _ _ _  h) wm_X12_508 wi_X12_isAtEnd wv_X12_isAtEnd wz_X12 wc_X12_isAtEnd rfl yd_X12_isAtEnd rfl ⟨rfl, rfl⟩ ⟨Nat.le_of_ble_eq_true rfl, Nat.le_of_ble_eq_true rfl⟩ (Nat.le_of_ble_eq_true rfl) rfl dX12_buysAll_2 (x_ki (fun r2 M1 h => ?_))
  refine x_if_eq C (tgt := 43) dX12_buysAll_5 (by decide) (fun hq3 => ?_) (fun hq3 => ?_)
  · replace h := x_ift hq3 h
    exact x_vret C dX12_buysAll_43 ⟨rfl, h⟩
  · replace h := x_iff hq3 h
    refine x_aload_n C 0 rfl rfl dX12_buysAll_8 ?_
    refine x_get C (c := 0) (ci := 12) (k1 := 60) (v1 := .ref (ga g 34)) (enM_12 (c := 0) rfl) (Nat.le_of_ble_eq_true rfl) rfl inX12 (by decide) wf_X12_115 rfl dX12_buysAll_9 ?_
    refine x_iload_n C 1 rfl rfl dX12_buysAll_12 ?_
    obtain ⟨hi4, h⟩ := h
    refine x_iald C 0 (c := 34) (enM_20n (c := 34) (n := 4) rfl rfl) (Nat.le_of_ble_eq_true rfl) rfl hi4 dX12_buysAll_13 ?_
    refine x_if_eq C (tgt := 43) dX12_buysAll_14 (by decide) (fun hq5 => ?_) (fun hq5 => ?_)
    · replace h := x_ift hq5 h
      exact x_vret C dX12_buysAll_43 ⟨rfl, h⟩
    · replace h := x_iff hq5 h
      refine x_aload_n C 0 rfl rfl dX12_buysAll_17 ?_
      refine x_aload_n C 0 rfl rfl dX12_buysAll_18 ?_
      refine x_get C (c := 0) (ci := 12) (k1 := 60) (v1 := .ref (ga g 34)) (enM_12 (c := 0) rfl) (Nat.le_of_ble_eq_true rfl) rfl inX12 (by decide) wf_X12_115 rfl dX12_buysAll_19 ?_
      refine x_iload_n C 1 rfl rfl dX12_buysAll_22 ?_
      obtain ⟨hi6, h⟩ := h
      refine x_iald C 0 (c := 34) (enM_20n (c := 34) (n := 4) rfl rfl) (Nat.le_of_ble_eq_true rfl) rfl hi6 dX12_buysAll_23 ?_
      refine x_callV C (st := []) (As := [.int (gi M1 34 a0.toNatClampNeg)]) (c := 0) (ci := 12) (enM_12 (c := 0) rfl) (Nat.le_of_ble_eq_true rfl) rfl (tX12_laysCheapest hg _ _ _ _  h) wm_X12_480 wi_X12_laysCheapest wv_X12_laysCheapest wz_X12 wc_X12_laysCheapest rfl yd_X12_laysCheapest rfl ⟨rfl, rfl⟩ ⟨Nat.le_of_ble_eq_true rfl, Nat.le_of_ble_eq_true rfl⟩ (Nat.le_of_ble_eq_true rfl) rfl dX12_buysAll_24 (x_ki (fun r8 M7 h => ?_))
      refine x_if_eq C (tgt := 43) dX12_buysAll_27 (by decide) (fun hq9 => ?_) (fun hq9 => ?_)
      · replace h := x_ift hq9 h
        exact x_vret C dX12_buysAll_43 ⟨rfl, h⟩
      · replace h := x_iff hq9 h
        refine x_aload_n C 0 rfl rfl dX12_buysAll_30 ?_
        refine x_get C (c := 0) (ci := 12) (k1 := 70) (v1 := .int (gi M7 0 70)) (enM_12 (c := 0) rfl) (Nat.le_of_ble_eq_true rfl) rfl inX12 (by decide) wf_X12_477 rfl dX12_buysAll_31 ?_
        refine x_aload_n C 0 rfl rfl dX12_buysAll_34 ?_
        refine x_get C (c := 0) (ci := 12) (k1 := 58) (v1 := .ref (ga g 32)) (enM_12 (c := 0) rfl) (Nat.le_of_ble_eq_true rfl) rfl inX12 (by decide) wf_X12_109 rfl dX12_buysAll_35 ?_
        refine x_iload_n C 1 rfl rfl dX12_buysAll_38 ?_
        obtain ⟨hi10, h⟩ := h
        refine x_iald C 0 (c := 32) (enM_20n (c := 32) (n := 4) rfl rfl) (Nat.le_of_ble_eq_true rfl) rfl hi10 dX12_buysAll_39 ?_
        refine x_icmp_le C (tgt := 44) dX12_buysAll_40 (by decide) (fun hq11 => ?_) (fun hq11 => ?_)
        · replace h := x_ift hq11 h
          refine x_iconst C (v1 := 0) dX12_buysAll_44 (by decide) ?_
          refine x_istore_n C (L' := [(2, .int 0), (0, .ref (ga g 0)), (1, .int a0)]) rfl rfl (Nat.le_of_ble_eq_true rfl) dX12_buysAll_45 ?_
          refine x_loc (L' := [(0, .ref (ga g 0)), (1, .int a0), (2, .int 0)]) [1, 2, 0] rfl ?_
          obtain ⟨n46, h⟩ := h
          exact tX12_buysAll_46 hg  C   _ _ _ _  h
        · replace h := x_iff hq11 h
          exact x_vret C dX12_buysAll_43 ⟨rfl, h⟩
set_option maxHeartbeats 4000000 in
set_option maxRecDepth 100000 in
theorem tX12_listens_120 {g : xG} (hg : x_inj (WM g))  {x : xCx}   {post : xMem → Prop} (C : xOk (WM g) x cX12_listens RX12 4 none (rm_X12_listens) (pV post))   (x1 : Int32) (M : xMem)  (h : wX12_listens_120 post x1 M) : xW (WM g) x 4 120 [(0, .ref (ga g 0)), (1, .int x1)] [] M := by
  unfold wX12_listens_120 at h
  refine x_aload_n C 0 rfl rfl dX12_listens_120 ?_
  refine x_iload_n C 1 rfl rfl dX12_listens_121 ?_
  refine x_callV C (st := []) (As := [.int x1]) (c := 0) (ci := 12) (enM_12 (c := 0) rfl) (Nat.le_of_ble_eq_true rfl) rfl (tX12_listenerStands hg _ _ _ _  h) wm_X12_511 wi_X12_listenerStands wv_X12_listenerStands wz_X12 wc_X12_listenerStands rfl yd_X12_listenerStands rfl ⟨rfl, rfl⟩ ⟨Nat.le_of_ble_eq_true rfl, Nat.le_of_ble_eq_true rfl⟩ (Nat.le_of_ble_eq_true rfl) rfl dX12_listens_122 (x_kv (fun M1 h => ?_))
  refine x_aload_n C 0 rfl rfl dX12_listens_125 ?_
  refine x_callV C (st := []) (As := []) (c := 0) (ci := 12) (enM_12 (c := 0) rfl) (Nat.le_of_ble_eq_true rfl) rfl (tX12_goesAway hg _  _ _  h) wm_X12_526 wi_X12_goesAway wv_X12_goesAway wz_X12 wc_X12_goesAway rfl yd_X12_goesAway rfl ⟨rfl, rfl⟩ ⟨Nat.le_of_ble_eq_true rfl, Nat.le_of_ble_eq_true rfl⟩ (Nat.le_of_ble_eq_true rfl) rfl dX12_listens_126 (x_ki (fun r3 M2 h => ?_))
  refine x_if_ne C (tgt := 133) dX12_listens_129 (by decide) (fun hq4 => ?_) (fun hq4 => ?_)
  · replace h := x_iff hq4 h
    refine x_aload_n C 0 rfl rfl dX12_listens_133 ?_
    refine x_get C (c := 0) (ci := 12) (k1 := 62) (v1 := .ref (ga g 36)) (enM_12 (c := 0) rfl) (Nat.le_of_ble_eq_true rfl) rfl inX12 (by decide) wf_X12_121 rfl dX12_listens_134 ?_
    refine x_iload_n C 1 rfl rfl dX12_listens_137 ?_
    refine x_iconst C (v1 := (-1)) dX12_listens_138 (by decide) ?_
    obtain ⟨hi5, h⟩ := h
    refine x_iast C 0 (c := 36) (enM_20n (c := 36) (n := 10) rfl rfl) (Nat.le_of_ble_eq_true rfl) rfl hi5 dX12_listens_139 ?_
    refine x_nmM (fun M6 eM6 => ?_)
    replace h := h M6 eM6
    refine x_aload_n C 0 rfl rfl dX12_listens_140 ?_
    refine x_dup C rfl dX12_listens_141 ?_
    refine x_get C (c := 0) (ci := 12) (k1 := 75) (v1 := .int (gi M6 0 75)) (enM_12 (c := 0) rfl) (Nat.le_of_ble_eq_true rfl) rfl inX12 (by decide) wf_X12_529 rfl dX12_listens_142 ?_
    refine x_iconst C (v1 := 1) dX12_listens_145 (by decide) ?_
    refine x_iadd C dX12_listens_146 ?_
    refine x_put C (c := 0) (ci := 12) (k1 := 75) (u1 := ((gi M6 0 75) + 1)) (v1 := .int ((gi M6 0 75) + 1)) (ty := .int) (enM_12 (c := 0) rfl) (Nat.le_of_ble_eq_true rfl) rfl inX12 (by decide) (stX12_75 _ _ _) tyX12 tyX12_ok nmX12 wf_X12_529 rfl rfl rfl rfl (Nat.le_of_ble_eq_true rfl) dX12_listens_147 ?_
    refine x_nmM (fun M7 eM7 => ?_)
    replace h := h M7 eM7
    exact x_vret C dX12_listens_150 ⟨rfl, h⟩
  · replace h := x_ift hq4 h
    exact x_vret C dX12_listens_132 ⟨rfl, h⟩
set_option maxHeartbeats 4000000 in
set_option maxRecDepth 100000 in
theorem tX12_listens_64 {g : xG} (hg : x_inj (WM g))  {x : xCx}   {post : xMem → Prop} (C : xOk (WM g) x cX12_listens RX12 4 none (rm_X12_listens) (pV post))   (x1 : Int32) (x2 : Int32) (x3 : Int32) (M : xMem)  (h : wX12_listens_64 post x1 x2 x3 M) : xW (WM g) x 4 64 [(0, .ref (ga g 0)), (1, .int x1), (2, .int x2), (3, .int x3)] [] M := by
  unfold wX12_listens_64 at h
  refine x_iload_n C 3 rfl rfl dX12_listens_64 ?_
  refine x_bipush C (v1 := 9) dX12_listens_65 (by decide) ?_
  refine x_icmp_ge C (tgt := 120) dX12_listens_67 (by decide) (fun hq1 => ?_) (fun hq1 => ?_)
  · replace h := x_ift hq1 h
    refine x_loc (L' := [(0, .ref (ga g 0)), (1, .int x1)]) [0, 1] rfl ?_
    exact tX12_listens_120 hg  C   _ _  h
  · replace h := x_iff hq1 h
    refine x_aload_n C 0 rfl rfl dX12_listens_70 ?_
    refine x_get C (c := 0) (ci := 12) (k1 := 64) (v1 := .ref (ga g 38)) (enM_12 (c := 0) rfl) (Nat.le_of_ble_eq_true rfl) rfl inX12 (by decide) wf_X12_127 rfl dX12_listens_71 ?_
    refine x_iload_n C 1 rfl rfl dX12_listens_74 ?_
    obtain ⟨hi2, h⟩ := h
    refine x_iald C 0 (c := 38) (enM_20n (c := 38) (n := 10) rfl rfl) (Nat.le_of_ble_eq_true rfl) rfl hi2 dX12_listens_75 ?_
    refine x_bipush C (v1 := 9) dX12_listens_76 (by decide) ?_
    refine x_icmp_ne C (tgt := 120) dX12_listens_78 (by decide) (fun hq3 => ?_) (fun hq3 => ?_)
    · replace h := x_iff hq3 h
      refine x_loc (L' := [(0, .ref (ga g 0)), (1, .int x1)]) [0, 1] rfl ?_
      exact tX12_listens_120 hg  C   _ _  h
    · replace h := x_ift hq3 h
      refine x_aload_n C 0 rfl rfl dX12_listens_81 ?_
      refine x_dup C rfl dX12_listens_82 ?_
      refine x_get C (c := 0) (ci := 12) (k1 := 66) (v1 := .int (gi M 0 66)) (enM_12 (c := 0) rfl) (Nat.le_of_ble_eq_true rfl) rfl inX12 (by decide) wf_X12_514 rfl dX12_listens_83 ?_
      refine x_iconst C (v1 := 1) dX12_listens_86 (by decide) ?_
      refine x_iadd C dX12_listens_87 ?_
      refine x_put C (c := 0) (ci := 12) (k1 := 66) (u1 := ((gi M 0 66) + 1)) (v1 := .int ((gi M 0 66) + 1)) (ty := .int) (enM_12 (c := 0) rfl) (Nat.le_of_ble_eq_true rfl) rfl inX12 (by decide) (stX12_66 _ _ _) tyX12 tyX12_ok nmX12 wf_X12_514 rfl rfl rfl rfl (Nat.le_of_ble_eq_true rfl) dX12_listens_88 ?_
      refine x_nmM (fun M4 eM4 => ?_)
      replace h := h M4 eM4
      refine x_aload_n C 0 rfl rfl dX12_listens_91 ?_
      refine x_dup C rfl dX12_listens_92 ?_
      refine x_get C (c := 0) (ci := 12) (k1 := 74) (v1 := .int (gi M4 0 74)) (enM_12 (c := 0) rfl) (Nat.le_of_ble_eq_true rfl) rfl inX12 (by decide) wf_X12_517 rfl dX12_listens_93 ?_
      refine x_iconst C (v1 := 1) dX12_listens_96 (by decide) ?_
      refine x_iadd C dX12_listens_97 ?_
      refine x_put C (c := 0) (ci := 12) (k1 := 74) (u1 := ((gi M4 0 74) + 1)) (v1 := .int ((gi M4 0 74) + 1)) (ty := .int) (enM_12 (c := 0) rfl) (Nat.le_of_ble_eq_true rfl) rfl inX12 (by decide) (stX12_74 _ _ _) tyX12 tyX12_ok nmX12 wf_X12_517 rfl rfl rfl rfl (Nat.le_of_ble_eq_true rfl) dX12_listens_98 ?_
      refine x_nmM (fun M5 eM5 => ?_)
      replace h := h M5 eM5
      refine x_aload_n C 0 rfl rfl dX12_listens_101 ?_
      refine x_get C (c := 0) (ci := 12) (k1 := 78) (v1 := .int (gi M5 0 78)) (enM_12 (c := 0) rfl) (Nat.le_of_ble_eq_true rfl) rfl inX12 (by decide) wf_X12_520 rfl dX12_listens_102 ?_
      refine x_bipush C (v1 := (-2)) dX12_listens_105 (by decide) ?_
      refine x_icmp_ne C (tgt := 120) dX12_listens_107 (by decide) (fun hq6 => ?_) (fun hq6 => ?_)
      · replace h := x_iff hq6 h
        refine x_loc (L' := [(0, .ref (ga g 0)), (1, .int x1)]) [0, 1] rfl ?_
        exact tX12_listens_120 hg  C   _ _  h
      · replace h := x_ift hq6 h
        refine x_aload_n C 0 rfl rfl dX12_listens_110 ?_
        refine x_iload_n C 1 rfl rfl dX12_listens_111 ?_
        refine x_put C (c := 0) (ci := 12) (k1 := 78) (u1 := x1) (v1 := .int x1) (ty := .int) (enM_12 (c := 0) rfl) (Nat.le_of_ble_eq_true rfl) rfl inX12 (by decide) (stX12_78 _ _ _) tyX12 tyX12_ok nmX12 wf_X12_520 rfl rfl rfl rfl (Nat.le_of_ble_eq_true rfl) dX12_listens_112 ?_
        refine x_nmM (fun M7 eM7 => ?_)
        replace h := h M7 eM7
        refine x_aload_n C 0 rfl rfl dX12_listens_115 ?_
        refine x_iload_n C 2 rfl rfl dX12_listens_116 ?_
        refine x_put C (c := 0) (ci := 12) (k1 := 79) (u1 := x2) (v1 := .int x2) (ty := .int) (enM_12 (c := 0) rfl) (Nat.le_of_ble_eq_true rfl) rfl inX12 (by decide) (stX12_79 _ _ _) tyX12 tyX12_ok nmX12 wf_X12_523 rfl rfl rfl rfl (Nat.le_of_ble_eq_true rfl) dX12_listens_117 ?_
        refine x_nmM (fun M8 eM8 => ?_)
        replace h := h M8 eM8
        refine x_loc (L' := [(0, .ref (ga g 0)), (1, .int x1)]) [0, 1] rfl ?_
        exact tX12_listens_120 hg  C   _ _  h
set_option maxHeartbeats 4000000 in
set_option maxRecDepth 100000 in
theorem tX12_listens {g : xG} (hg : x_inj (WM g))  (l : Launch) (a0 : Int32) (a1 : Int32) (M : xMem) (post : xMem → Prop)  (h : wX12_listens a0 a1 M post) : xMet (WM g) l yX12_listens cX12_listens 4 none (rm_X12_listens) [.ref (ga g 0), .int a0, .int a1] M (pV post) := by
  refine x_enter (own := RX12) (L0 := [(0, .ref (ga g 0)), (1, .int a0), (2, .int a1)]) (by decide +kernel) rfl hg (x_stM g) (Nat.le_of_ble_eq_true rfl) rfl (fun x hl C => ?_)
  unfold wX12_listens at h
  refine x_aload_n C 0 rfl rfl dX12_listens_0 ?_
  refine x_iload_n C 1 rfl rfl dX12_listens_1 ?_
  refine x_callV C (st := []) (As := [.int a0]) (c := 0) (ci := 12) (enM_12 (c := 0) rfl) (Nat.le_of_ble_eq_true rfl) rfl (tX12_listenerStands hg _ _ _ _  h) wm_X12_511 wi_X12_listenerStands wv_X12_listenerStands wz_X12 wc_X12_listenerStands rfl yd_X12_listenerStands rfl ⟨rfl, rfl⟩ ⟨Nat.le_of_ble_eq_true rfl, Nat.le_of_ble_eq_true rfl⟩ (Nat.le_of_ble_eq_true rfl) rfl dX12_listens_2 (x_kv (fun M1 h => ?_))
  refine x_aload_n C 0 rfl rfl dX12_listens_5 ?_
  refine x_get C (c := 0) (ci := 12) (k1 := 64) (v1 := .ref (ga g 38)) (enM_12 (c := 0) rfl) (Nat.le_of_ble_eq_true rfl) rfl inX12 (by decide) wf_X12_127 rfl dX12_listens_6 ?_
  refine x_iload_n C 1 rfl rfl dX12_listens_9 ?_
  obtain ⟨hi2, h⟩ := h
  refine x_iald C 0 (c := 38) (enM_20n (c := 38) (n := 10) rfl rfl) (Nat.le_of_ble_eq_true rfl) rfl hi2 dX12_listens_10 ?_
  refine x_nm (fun v3 ev3 => ?_)
  replace h := h v3 ev3
  refine x_istore_n C (L' := [(3, .int v3), (0, .ref (ga g 0)), (1, .int a0), (2, .int a1)]) rfl rfl (Nat.le_of_ble_eq_true rfl) dX12_listens_11 ?_
  refine x_aload_n C 1 rfl rfl dX12_listens_12 ?_
  refine x_get C (c := 0) (ci := 12) (k1 := 41) (v1 := .int (gi M1 0 41)) (enM_12 (c := 0) rfl) (Nat.le_of_ble_eq_true rfl) rfl inX12 (by decide) wf_X12_400 rfl dX12_listens_13 ?_
  refine x_if_le C (tgt := 43) dX12_listens_16 (by decide) (fun hq4 => ?_) (fun hq4 => ?_)
  · replace h := x_ift hq4 h
    refine x_aload_n C 1 rfl rfl dX12_listens_43 ?_
    refine x_get C (c := 0) (ci := 12) (k1 := 64) (v1 := .ref (ga g 38)) (enM_12 (c := 0) rfl) (Nat.le_of_ble_eq_true rfl) rfl inX12 (by decide) wf_X12_127 rfl dX12_listens_44 ?_
    refine x_iload_n C 2 rfl rfl dX12_listens_47 ?_
    refine x_iload_n C 0 rfl rfl dX12_listens_48 ?_
    refine x_aload_n C 1 rfl rfl dX12_listens_49 ?_
    refine x_bipush C (v1 := 115) dX12_listens_50 (by decide) ?_
    refine x_bipush C (v1 := 9) dX12_listens_52 (by decide) ?_
    refine x_callV C (st := [.int v3, .int a0, .ref (ga g 38)]) (As := [.int 115, .int 9]) (c := 0) (ci := 12) (enM_12 (c := 0) rfl) (Nat.le_of_ble_eq_true rfl) rfl (tX12_tells hg _ _ _ _ _  h) wm_X12_451 wi_X12_tells wv_X12_tells wz_X12 wc_X12_tells rfl yd_X12_tells rfl ⟨rfl, rfl⟩ ⟨Nat.le_of_ble_eq_true rfl, Nat.le_of_ble_eq_true rfl⟩ (Nat.le_of_ble_eq_true rfl) rfl dX12_listens_54 (x_ki (fun r6 M5 h => ?_))
    refine x_isub C dX12_listens_57 ?_
    refine x_bipush C (v1 := 9) dX12_listens_58 (by decide) ?_
    refine x_callS C (st := [.int a0, .ref (ga g 38)]) (As := [.int (v3 - r6), .int 9]) (tX12_held hg _ _ _ _ _  h) wm_X12_445 wsm_X12_held wz_X12 wc_X12_held yd_X12_held rfl ⟨rfl, rfl⟩ ⟨Nat.le_of_ble_eq_true rfl, Nat.le_of_ble_eq_true rfl⟩ (Nat.le_of_ble_eq_true rfl) rfl dX12_listens_60 (x_ki (fun r8 M7 h => ?_))
    obtain ⟨hi9, h⟩ := h
    refine x_iast C 0 (c := 38) (enM_20n (c := 38) (n := 10) rfl rfl) (Nat.le_of_ble_eq_true rfl) rfl hi9 dX12_listens_63 ?_
    refine x_nmM (fun M10 eM10 => ?_)
    replace h := h M10 eM10
    refine x_loc (L' := [(0, .ref (ga g 0)), (1, .int a0), (2, .int a1), (3, .int v3)]) [1, 2, 3, 0] rfl ?_
    exact tX12_listens_64 hg  C   _ _ _ _  h
  · replace h := x_iff hq4 h
    refine x_aload_n C 1 rfl rfl dX12_listens_19 ?_
    refine x_get C (c := 0) (ci := 12) (k1 := 64) (v1 := .ref (ga g 38)) (enM_12 (c := 0) rfl) (Nat.le_of_ble_eq_true rfl) rfl inX12 (by decide) wf_X12_127 rfl dX12_listens_20 ?_
    refine x_iload_n C 2 rfl rfl dX12_listens_23 ?_
    refine x_iload_n C 0 rfl rfl dX12_listens_24 ?_
    refine x_aload_n C 1 rfl rfl dX12_listens_25 ?_
    refine x_bipush C (v1 := 116) dX12_listens_26 (by decide) ?_
    refine x_bipush C (v1 := 9) dX12_listens_28 (by decide) ?_
    refine x_callV C (st := [.int v3, .int a0, .ref (ga g 38)]) (As := [.int 116, .int 9]) (c := 0) (ci := 12) (enM_12 (c := 0) rfl) (Nat.le_of_ble_eq_true rfl) rfl (tX12_tells hg _ _ _ _ _  h) wm_X12_451 wi_X12_tells wv_X12_tells wz_X12 wc_X12_tells rfl yd_X12_tells rfl ⟨rfl, rfl⟩ ⟨Nat.le_of_ble_eq_true rfl, Nat.le_of_ble_eq_true rfl⟩ (Nat.le_of_ble_eq_true rfl) rfl dX12_listens_30 (x_ki (fun r12 M11 h => ?_))
    refine x_iadd C dX12_listens_33 ?_
    refine x_bipush C (v1 := 9) dX12_listens_34 (by decide) ?_
    refine x_callS C (st := [.int a0, .ref (ga g 38)]) (As := [.int (v3 + r12), .int 9]) (tX12_held hg _ _ _ _ _  h) wm_X12_445 wsm_X12_held wz_X12 wc_X12_held yd_X12_held rfl ⟨rfl, rfl⟩ ⟨Nat.le_of_ble_eq_true rfl, Nat.le_of_ble_eq_true rfl⟩ (Nat.le_of_ble_eq_true rfl) rfl dX12_listens_36 (x_ki (fun r14 M13 h => ?_))
    obtain ⟨hi15, h⟩ := h
    refine x_iast C 0 (c := 38) (enM_20n (c := 38) (n := 10) rfl rfl) (Nat.le_of_ble_eq_true rfl) rfl hi15 dX12_listens_39 ?_
    refine x_nmM (fun M16 eM16 => ?_)
    replace h := h M16 eM16
    refine x_goto C (tgt := 64) dX12_listens_40 (by decide) ?_
    refine x_loc (L' := [(0, .ref (ga g 0)), (1, .int a0), (2, .int a1), (3, .int v3)]) [1, 2, 3, 0] rfl ?_
    exact tX12_listens_64 hg  C   _ _ _ _  h
set_option maxHeartbeats 4000000 in
set_option maxRecDepth 100000 in
theorem tX12_isBound {g : xG} (hg : x_inj (WM g))  (l : Launch) (a0 : Int32) (a1 : Int32) (M : xMem) (post : Int32 → xMem → Prop)  (h : wX12_isBound a0 a1 M post) : xMet (WM g) l yX12_isBound cX12_isBound 3 (some .boolean) (rm_X12_isBound) [.ref (ga g 0), .int a0, .int a1] M (pI post) := by
  refine x_enter (own := RX12) (L0 := [(0, .ref (ga g 0)), (1, .int a0), (2, .int a1)]) (by decide +kernel) rfl hg (x_stM g) (Nat.le_of_ble_eq_true rfl) rfl (fun x hl C => ?_)
  unfold wX12_isBound at h
  refine x_aload_n C 0 rfl rfl dX12_isBound_0 ?_
  refine x_get C (c := 0) (ci := 12) (k1 := 61) (v1 := .ref (ga g 35)) (enM_12 (c := 0) rfl) (Nat.le_of_ble_eq_true rfl) rfl inX12 (by decide) wf_X12_118 rfl dX12_isBound_1 ?_
  refine x_iload_n C 1 rfl rfl dX12_isBound_4 ?_
  obtain ⟨hi1, h⟩ := h
  refine x_zald C 2 (c := 35) (enM_24n (c := 35) (n := 10) rfl rfl) (Nat.le_of_ble_eq_true rfl) rfl hi1 dX12_isBound_5 ?_
  refine x_if_eq C (tgt := 23) dX12_isBound_6 (by decide) (fun hq2 => ?_) (fun hq2 => ?_)
  · replace h := x_ift hq2 h
    refine x_iconst C (v1 := 0) dX12_isBound_23 (by decide) ?_
    exact x_zret C rfl dX12_isBound_24 ⟨_, rfl, h⟩
  · replace h := x_iff hq2 h
    refine x_aload_n C 0 rfl rfl dX12_isBound_9 ?_
    refine x_get C (c := 0) (ci := 12) (k1 := 62) (v1 := .ref (ga g 36)) (enM_12 (c := 0) rfl) (Nat.le_of_ble_eq_true rfl) rfl inX12 (by decide) wf_X12_121 rfl dX12_isBound_10 ?_
    refine x_iload_n C 1 rfl rfl dX12_isBound_13 ?_
    obtain ⟨hi3, h⟩ := h
    refine x_iald C 0 (c := 36) (enM_20n (c := 36) (n := 10) rfl rfl) (Nat.le_of_ble_eq_true rfl) rfl hi3 dX12_isBound_14 ?_
    refine x_iload_n C 2 rfl rfl dX12_isBound_15 ?_
    refine x_icmp_ne C (tgt := 23) dX12_isBound_16 (by decide) (fun hq4 => ?_) (fun hq4 => ?_)
    · replace h := x_iff hq4 h
      refine x_iconst C (v1 := 0) dX12_isBound_23 (by decide) ?_
      exact x_zret C rfl dX12_isBound_24 ⟨_, rfl, h⟩
    · replace h := x_ift hq4 h
      refine x_iconst C (v1 := 1) dX12_isBound_19 (by decide) ?_
      refine x_goto C (tgt := 24) dX12_isBound_20 (by decide) ?_
      exact x_zret C rfl dX12_isBound_24 ⟨_, rfl, h⟩
set_option maxHeartbeats 4000000 in
set_option maxRecDepth 100000 in
theorem tX12_closesStory_89 {g : xG} (hg : x_inj (WM g))  {x : xCx}  {K20 : Int32 → Int32 → xMem → Prop} {post : xMem → Prop} (C : xOk (WM g) x cX12_closesStory RX12 4 none (rm_X12_closesStory) (pV post))  (hK20 : ∀ (x1 : Int32) (x2 : Int32) (M : xMem), K20 x1 x2 M → xW (WM g) x 4 20 [(0, .ref (ga g 0)), (1, .int x1), (2, .int x2)] [] M) (x1 : Int32) (x2 : Int32) (M : xMem)  (h : wX12_closesStory_89 K20 post x1 x2 M) : xW (WM g) x 4 89 [(0, .ref (ga g 0)), (1, .int x1), (2, .int x2)] [] M := by
  unfold wX12_closesStory_89 at h
  obtain ⟨v1, ev1⟩ : ∃ z : Int32, z = x2 + 1 := ⟨_, rfl⟩
  replace h := h v1 ev1
  refine x_iinc C 2 (v1 := v1) (L' := [(2, .int v1), (0, .ref (ga g 0)), (1, .int x1)]) rfl (by rw [ev1]; rfl) rfl (Nat.le_of_ble_eq_true rfl) dX12_closesStory_89 ?_
  refine x_goto C (tgt := 20) dX12_closesStory_92 (by decide) ?_
  refine x_loc (L' := [(0, .ref (ga g 0)), (1, .int x1), (2, .int v1)]) [1, 2, 0] rfl ?_
  exact hK20 _ _ _  h
set_option maxHeartbeats 4000000 in
set_option maxRecDepth 100000 in
theorem tX12_closesStory_20 {g : xG} (hg : x_inj (WM g))  {x : xCx}   {post : xMem → Prop} (C : xOk (WM g) x cX12_closesStory RX12 4 none (rm_X12_closesStory) (pV post))   : ∀ (n : Nat) (x1 : Int32) (x2 : Int32) (M : xMem), wX12_closesStory_20 post n x1 x2 M → xW (WM g) x 4 20 [(0, .ref (ga g 0)), (1, .int x1), (2, .int x2)] [] M := by
  intro n
  induction n with
  | zero =>
    intro x1 x2 M  h
    exact h.elim
  | succ n ih =>
    intro x1 x2 M  h
    rw [wX12_closesStory_20] at h
    refine x_iload_n C 2 rfl rfl dX12_closesStory_20 ?_
    refine x_bipush C (v1 := 10) dX12_closesStory_21 (by decide) ?_
    refine x_icmp_ge C (tgt := 95) dX12_closesStory_23 (by decide) (fun hq1 => ?_) (fun hq1 => ?_)
    · replace h := x_ift hq1 h
      refine x_aload_n C 0 rfl rfl dX12_closesStory_95 ?_
      refine x_dup C rfl dX12_closesStory_96 ?_
      refine x_get C (c := 0) (ci := 12) (k1 := 67) (v1 := .int (gi M 0 67)) (enM_12 (c := 0) rfl) (Nat.le_of_ble_eq_true rfl) rfl inX12 (by decide) wf_X12_538 rfl dX12_closesStory_97 ?_
      refine x_iconst C (v1 := 1) dX12_closesStory_100 (by decide) ?_
      refine x_iadd C dX12_closesStory_101 ?_
      refine x_put C (c := 0) (ci := 12) (k1 := 67) (u1 := ((gi M 0 67) + 1)) (v1 := .int ((gi M 0 67) + 1)) (ty := .int) (enM_12 (c := 0) rfl) (Nat.le_of_ble_eq_true rfl) rfl inX12 (by decide) (stX12_67 _ _ _) tyX12 tyX12_ok nmX12 wf_X12_538 rfl rfl rfl rfl (Nat.le_of_ble_eq_true rfl) dX12_closesStory_102 ?_
      refine x_nmM (fun M2 eM2 => ?_)
      replace h := h M2 eM2
      refine x_aload_n C 0 rfl rfl dX12_closesStory_105 ?_
      refine x_dup C rfl dX12_closesStory_106 ?_
      refine x_get C (c := 0) (ci := 12) (k1 := 76) (v1 := .int (gi M2 0 76)) (enM_12 (c := 0) rfl) (Nat.le_of_ble_eq_true rfl) rfl inX12 (by decide) wf_X12_541 rfl dX12_closesStory_107 ?_
      refine x_iconst C (v1 := 1) dX12_closesStory_110 (by decide) ?_
      refine x_iadd C dX12_closesStory_111 ?_
      refine x_put C (c := 0) (ci := 12) (k1 := 76) (u1 := ((gi M2 0 76) + 1)) (v1 := .int ((gi M2 0 76) + 1)) (ty := .int) (enM_12 (c := 0) rfl) (Nat.le_of_ble_eq_true rfl) rfl inX12 (by decide) (stX12_76 _ _ _) tyX12 tyX12_ok nmX12 wf_X12_541 rfl rfl rfl rfl (Nat.le_of_ble_eq_true rfl) dX12_closesStory_112 ?_
      refine x_nmM (fun M3 eM3 => ?_)
      replace h := h M3 eM3
      refine x_aload_n C 0 rfl rfl dX12_closesStory_115 ?_
      refine x_get C (c := 0) (ci := 12) (k1 := 59) (v1 := .ref (ga g 33)) (enM_12 (c := 0) rfl) (Nat.le_of_ble_eq_true rfl) rfl inX12 (by decide) wf_X12_112 rfl dX12_closesStory_116 ?_
      refine x_iload_n C 1 rfl rfl dX12_closesStory_119 ?_
      refine x_iconst C (v1 := 0) dX12_closesStory_120 (by decide) ?_
      obtain ⟨hi4, h⟩ := h
      refine x_iast C 0 (c := 33) (enM_20n (c := 33) (n := 4) rfl rfl) (Nat.le_of_ble_eq_true rfl) rfl hi4 dX12_closesStory_121 ?_
      refine x_nmM (fun M5 eM5 => ?_)
      replace h := h M5 eM5
      exact x_vret C dX12_closesStory_122 ⟨rfl, h⟩
    · replace h := x_iff hq1 h
      refine x_aload_n C 0 rfl rfl dX12_closesStory_26 ?_
      refine x_iload_n C 2 rfl rfl dX12_closesStory_27 ?_
      refine x_iload_n C 1 rfl rfl dX12_closesStory_28 ?_
      refine x_callV C (st := []) (As := [.int x2, .int x1]) (c := 0) (ci := 12) (enM_12 (c := 0) rfl) (Nat.le_of_ble_eq_true rfl) rfl (tX12_isBound hg _ _ _ _ _  h) wm_X12_532 wi_X12_isBound wv_X12_isBound wz_X12 wc_X12_isBound rfl yd_X12_isBound rfl ⟨rfl, rfl⟩ ⟨Nat.le_of_ble_eq_true rfl, Nat.le_of_ble_eq_true rfl⟩ (Nat.le_of_ble_eq_true rfl) rfl dX12_closesStory_29 (x_ki (fun r7 M6 h => ?_))
      refine x_if_ne C (tgt := 38) dX12_closesStory_32 (by decide) (fun hq8 => ?_) (fun hq8 => ?_)
      · replace h := x_iff hq8 h
        refine x_aload_n C 0 rfl rfl dX12_closesStory_38 ?_
        refine x_iload_n C 2 rfl rfl dX12_closesStory_39 ?_
        refine x_callV C (st := []) (As := [.int x2]) (c := 0) (ci := 12) (enM_12 (c := 0) rfl) (Nat.le_of_ble_eq_true rfl) rfl (tX12_listenerStands hg _ _ _ _  h) wm_X12_511 wi_X12_listenerStands wv_X12_listenerStands wz_X12 wc_X12_listenerStands rfl yd_X12_listenerStands rfl ⟨rfl, rfl⟩ ⟨Nat.le_of_ble_eq_true rfl, Nat.le_of_ble_eq_true rfl⟩ (Nat.le_of_ble_eq_true rfl) rfl dX12_closesStory_40 (x_kv (fun M9 h => ?_))
        refine x_aload_n C 0 rfl rfl dX12_closesStory_43 ?_
        refine x_get C (c := 0) (ci := 12) (k1 := 58) (v1 := .ref (ga g 32)) (enM_12 (c := 0) rfl) (Nat.le_of_ble_eq_true rfl) rfl inX12 (by decide) wf_X12_109 rfl dX12_closesStory_44 ?_
        refine x_iload_n C 1 rfl rfl dX12_closesStory_47 ?_
        obtain ⟨hi10, h⟩ := h
        refine x_iald C 0 (c := 32) (enM_20n (c := 32) (n := 4) rfl rfl) (Nat.le_of_ble_eq_true rfl) rfl hi10 dX12_closesStory_48 ?_
        refine x_nm (fun v11 ev11 => ?_)
        replace h := h v11 ev11
        refine x_istore_n C (L' := [(3, .int v11), (0, .ref (ga g 0)), (1, .int x1), (2, .int x2)]) rfl rfl (Nat.le_of_ble_eq_true rfl) dX12_closesStory_49 ?_
        refine x_aload_n C 1 rfl rfl dX12_closesStory_50 ?_
        refine x_get C (c := 0) (ci := 12) (k1 := 58) (v1 := .ref (ga g 32)) (enM_12 (c := 0) rfl) (Nat.le_of_ble_eq_true rfl) rfl inX12 (by decide) wf_X12_109 rfl dX12_closesStory_51 ?_
        refine x_iload_n C 2 rfl rfl dX12_closesStory_54 ?_
        refine x_iload_n C 0 rfl rfl dX12_closesStory_55 ?_
        refine x_aload_n C 1 rfl rfl dX12_closesStory_56 ?_
        refine x_bipush C (v1 := 102) dX12_closesStory_57 (by decide) ?_
        refine x_bipush C (v1 := 99) dX12_closesStory_59 (by decide) ?_
        refine x_callV C (st := [.int v11, .int x1, .ref (ga g 32)]) (As := [.int 102, .int 99]) (c := 0) (ci := 12) (enM_12 (c := 0) rfl) (Nat.le_of_ble_eq_true rfl) rfl (tX12_tells hg _ _ _ _ _  h) wm_X12_451 wi_X12_tells wv_X12_tells wz_X12 wc_X12_tells rfl yd_X12_tells rfl ⟨rfl, rfl⟩ ⟨Nat.le_of_ble_eq_true rfl, Nat.le_of_ble_eq_true rfl⟩ (Nat.le_of_ble_eq_true rfl) rfl dX12_closesStory_61 (x_ki (fun r13 M12 h => ?_))
        refine x_iadd C dX12_closesStory_64 ?_
        refine x_sipush C (v1 := 9999) dX12_closesStory_65 (by decide) ?_
        refine x_callS C (st := [.int x1, .ref (ga g 32)]) (As := [.int (v11 + r13), .int 9999]) (tX12_held hg _ _ _ _ _  h) wm_X12_445 wsm_X12_held wz_X12 wc_X12_held yd_X12_held rfl ⟨rfl, rfl⟩ ⟨Nat.le_of_ble_eq_true rfl, Nat.le_of_ble_eq_true rfl⟩ (Nat.le_of_ble_eq_true rfl) rfl dX12_closesStory_68 (x_ki (fun r15 M14 h => ?_))
        obtain ⟨hi16, h⟩ := h
        refine x_iast C 0 (c := 32) (enM_20n (c := 32) (n := 4) rfl rfl) (Nat.le_of_ble_eq_true rfl) rfl hi16 dX12_closesStory_71 ?_
        refine x_nmM (fun M17 eM17 => ?_)
        replace h := h M17 eM17
        refine x_aload_n C 1 rfl rfl dX12_closesStory_72 ?_
        refine x_dup C rfl dX12_closesStory_73 ?_
        refine x_get C (c := 0) (ci := 12) (k1 := 77) (v1 := .int (gi M17 0 77)) (enM_12 (c := 0) rfl) (Nat.le_of_ble_eq_true rfl) rfl inX12 (by decide) wf_X12_535 rfl dX12_closesStory_74 ?_
        refine x_aload_n C 1 rfl rfl dX12_closesStory_77 ?_
        refine x_get C (c := 0) (ci := 12) (k1 := 58) (v1 := .ref (ga g 32)) (enM_12 (c := 0) rfl) (Nat.le_of_ble_eq_true rfl) rfl inX12 (by decide) wf_X12_109 rfl dX12_closesStory_78 ?_
        refine x_iload_n C 2 rfl rfl dX12_closesStory_81 ?_
        obtain ⟨hi18, h⟩ := h
        refine x_iald C 0 (c := 32) (enM_20n (c := 32) (n := 4) rfl rfl) (Nat.le_of_ble_eq_true rfl) rfl hi18 dX12_closesStory_82 ?_
        refine x_iload_n C 0 rfl rfl dX12_closesStory_83 ?_
        refine x_isub C dX12_closesStory_84 ?_
        refine x_iadd C dX12_closesStory_85 ?_
        refine x_put C (c := 0) (ci := 12) (k1 := 77) (u1 := ((gi M17 0 77) + ((gi M17 32 x1.toNatClampNeg) - v11))) (v1 := .int ((gi M17 0 77) + ((gi M17 32 x1.toNatClampNeg) - v11))) (ty := .int) (enM_12 (c := 0) rfl) (Nat.le_of_ble_eq_true rfl) rfl inX12 (by decide) (stX12_77 _ _ _) tyX12 tyX12_ok nmX12 wf_X12_535 rfl rfl rfl rfl (Nat.le_of_ble_eq_true rfl) dX12_closesStory_86 ?_
        refine x_nmM (fun M19 eM19 => ?_)
        replace h := h M19 eM19
        refine x_loc (L' := [(0, .ref (ga g 0)), (1, .int x1), (2, .int x2)]) [1, 2, 3] rfl ?_
        exact tX12_closesStory_89 hg  C  ih _ _ _  h
      · replace h := x_ift hq8 h
        refine x_goto C (tgt := 89) dX12_closesStory_35 (by decide) ?_
        exact tX12_closesStory_89 hg  C  ih _ _ _  h
set_option maxHeartbeats 4000000 in
set_option maxRecDepth 100000 in
theorem tX12_closesStory {g : xG} (hg : x_inj (WM g))  (l : Launch) (a0 : Int32) (M : xMem) (post : xMem → Prop)  (h : wX12_closesStory a0 M post) : xMet (WM g) l yX12_closesStory cX12_closesStory 4 none (rm_X12_closesStory) [.ref (ga g 0), .int a0] M (pV post) := by
  refine x_enter (own := RX12) (L0 := [(0, .ref (ga g 0)), (1, .int a0)]) (by decide +kernel) rfl hg (x_stM g) (Nat.le_of_ble_eq_true rfl) rfl (fun x hl C => ?_)
  unfold wX12_closesStory at h
  refine x_aload_n C 0 rfl rfl dX12_closesStory_0 ?_
  refine x_iload_n C 1 rfl rfl dX12_closesStory_1 ?_
  refine x_callV C (st := []) (As := [.int a0]) (c := 0) (ci := 12) (enM_12 (c := 0) rfl) (Nat.le_of_ble_eq_true rfl) rfl (tX12_isAtEnd hg _ _ _ _  h) wm_X12_508 wi_X12_isAtEnd wv_X12_isAtEnd wz_X12 wc_X12_isAtEnd rfl yd_X12_isAtEnd rfl ⟨rfl, rfl⟩ ⟨Nat.le_of_ble_eq_true rfl, Nat.le_of_ble_eq_true rfl⟩ (Nat.le_of_ble_eq_true rfl) rfl dX12_closesStory_2 (x_ki (fun r2 M1 h => ?_))
  refine x_if_eq C (tgt := 17) dX12_closesStory_5 (by decide) (fun hq3 => ?_) (fun hq3 => ?_)
  · replace h := x_ift hq3 h
    exact x_vret C dX12_closesStory_17 ⟨rfl, h⟩
  · replace h := x_iff hq3 h
    refine x_aload_n C 0 rfl rfl dX12_closesStory_8 ?_
    refine x_get C (c := 0) (ci := 12) (k1 := 60) (v1 := .ref (ga g 34)) (enM_12 (c := 0) rfl) (Nat.le_of_ble_eq_true rfl) rfl inX12 (by decide) wf_X12_115 rfl dX12_closesStory_9 ?_
    refine x_iload_n C 1 rfl rfl dX12_closesStory_12 ?_
    obtain ⟨hi4, h⟩ := h
    refine x_iald C 0 (c := 34) (enM_20n (c := 34) (n := 4) rfl rfl) (Nat.le_of_ble_eq_true rfl) rfl hi4 dX12_closesStory_13 ?_
    refine x_if_eq C (tgt := 18) dX12_closesStory_14 (by decide) (fun hq5 => ?_) (fun hq5 => ?_)
    · replace h := x_ift hq5 h
      refine x_iconst C (v1 := 0) dX12_closesStory_18 (by decide) ?_
      refine x_istore_n C (L' := [(2, .int 0), (0, .ref (ga g 0)), (1, .int a0)]) rfl rfl (Nat.le_of_ble_eq_true rfl) dX12_closesStory_19 ?_
      refine x_loc (L' := [(0, .ref (ga g 0)), (1, .int a0), (2, .int 0)]) [1, 2, 0] rfl ?_
      obtain ⟨n20, h⟩ := h
      exact tX12_closesStory_20 hg  C   _ _ _ _  h
    · replace h := x_iff hq5 h
      exact x_vret C dX12_closesStory_17 ⟨rfl, h⟩
set_option maxHeartbeats 4000000 in
set_option maxRecDepth 100000 in
theorem tX12_go_131 {g : xG} (hg : x_inj (WM g))  {x : xCx}  {K49 : Int32 → Int32 → xMem → Prop} {K66 : Int32 → Int32 → Int32 → xMem → Prop} {post : xMem → Prop} (C : xOk (WM g) x cX12_go RX12 5 none (rm_X12_go) (pV post))  (hK49 : ∀ (x1 : Int32) (x2 : Int32) (M : xMem), K49 x1 x2 M → xW (WM g) x 5 49 [(0, .ref (ga g 0)), (1, .int x1), (2, .int x2)] [] M) (hK66 : ∀ (x1 : Int32) (x2 : Int32) (x3 : Int32) (M : xMem), K66 x1 x2 x3 M → xW (WM g) x 5 66 [(0, .ref (ga g 0)), (1, .int x1), (2, .int x2), (3, .int x3)] [] M) (x1 : Int32) (x2 : Int32) (x3 : Int32) (M : xMem)  (h : wX12_go_131 K49 K66 post x1 x2 x3 M) : xW (WM g) x 5 131 [(0, .ref (ga g 0)), (1, .int x1), (2, .int x2), (3, .int x3)] [] M := by
  unfold wX12_go_131 at h
  obtain ⟨v1, ev1⟩ : ∃ z : Int32, z = x3 + 1 := ⟨_, rfl⟩
  replace h := h v1 ev1
  refine x_iinc C 3 (v1 := v1) (L' := [(3, .int v1), (0, .ref (ga g 0)), (1, .int x1), (2, .int x2)]) rfl (by rw [ev1]; rfl) rfl (Nat.le_of_ble_eq_true rfl) dX12_go_131 ?_
  refine x_goto C (tgt := 66) dX12_go_134 (by decide) ?_
  refine x_loc (L' := [(0, .ref (ga g 0)), (1, .int x1), (2, .int x2), (3, .int v1)]) [1, 2, 3, 0] rfl ?_
  exact hK66 _ _ _ _  h
set_option maxHeartbeats 4000000 in
set_option maxRecDepth 100000 in
theorem tX12_go_120 {g : xG} (hg : x_inj (WM g))  {x : xCx}  {K49 : Int32 → Int32 → xMem → Prop} {K66 : Int32 → Int32 → Int32 → xMem → Prop} {K96 : Int32 → Int32 → Int32 → Int32 → xMem → Prop} {post : xMem → Prop} (C : xOk (WM g) x cX12_go RX12 5 none (rm_X12_go) (pV post))  (hK49 : ∀ (x1 : Int32) (x2 : Int32) (M : xMem), K49 x1 x2 M → xW (WM g) x 5 49 [(0, .ref (ga g 0)), (1, .int x1), (2, .int x2)] [] M) (hK66 : ∀ (x1 : Int32) (x2 : Int32) (x3 : Int32) (M : xMem), K66 x1 x2 x3 M → xW (WM g) x 5 66 [(0, .ref (ga g 0)), (1, .int x1), (2, .int x2), (3, .int x3)] [] M) (hK96 : ∀ (x1 : Int32) (x2 : Int32) (x3 : Int32) (x4 : Int32) (M : xMem), K96 x1 x2 x3 x4 M → xW (WM g) x 5 96 [(0, .ref (ga g 0)), (1, .int x1), (2, .int x2), (3, .int x3), (4, .int x4)] [] M) (x1 : Int32) (x2 : Int32) (x3 : Int32) (x4 : Int32) (M : xMem)  (h : wX12_go_120 K49 K66 K96 post x1 x2 x3 x4 M) : xW (WM g) x 5 120 [(0, .ref (ga g 0)), (1, .int x1), (2, .int x2), (3, .int x3), (4, .int x4)] [] M := by
  unfold wX12_go_120 at h
  obtain ⟨v1, ev1⟩ : ∃ z : Int32, z = x4 + 1 := ⟨_, rfl⟩
  replace h := h v1 ev1
  refine x_iinc C 4 (v1 := v1) (L' := [(4, .int v1), (0, .ref (ga g 0)), (1, .int x1), (2, .int x2), (3, .int x3)]) rfl (by rw [ev1]; rfl) rfl (Nat.le_of_ble_eq_true rfl) dX12_go_120 ?_
  refine x_goto C (tgt := 96) dX12_go_123 (by decide) ?_
  refine x_loc (L' := [(0, .ref (ga g 0)), (1, .int x1), (2, .int x2), (3, .int x3), (4, .int v1)]) [1, 2, 3, 4, 0] rfl ?_
  exact hK96 _ _ _ _ _  h
set_option maxHeartbeats 4000000 in
set_option maxRecDepth 100000 in
theorem tX12_go_96 {g : xG} (hg : x_inj (WM g))  {x : xCx}  {K49 : Int32 → Int32 → xMem → Prop} {K66 : Int32 → Int32 → Int32 → xMem → Prop} {post : xMem → Prop} (C : xOk (WM g) x cX12_go RX12 5 none (rm_X12_go) (pV post))  (hK49 : ∀ (x1 : Int32) (x2 : Int32) (M : xMem), K49 x1 x2 M → xW (WM g) x 5 49 [(0, .ref (ga g 0)), (1, .int x1), (2, .int x2)] [] M) (hK66 : ∀ (x1 : Int32) (x2 : Int32) (x3 : Int32) (M : xMem), K66 x1 x2 x3 M → xW (WM g) x 5 66 [(0, .ref (ga g 0)), (1, .int x1), (2, .int x2), (3, .int x3)] [] M) : ∀ (n : Nat) (x1 : Int32) (x2 : Int32) (x3 : Int32) (x4 : Int32) (M : xMem), wX12_go_96 K49 K66 post n x1 x2 x3 x4 M → xW (WM g) x 5 96 [(0, .ref (ga g 0)), (1, .int x1), (2, .int x2), (3, .int x3), (4, .int x4)] [] M := by
  intro n
  induction n with
  | zero =>
    intro x1 x2 x3 x4 M  h
    exact h.elim
  | succ n ih =>
    intro x1 x2 x3 x4 M  h
    rw [wX12_go_96] at h
    refine x_iload C 4 rfl dX12_go_96 ?_
    refine x_bipush C (v1 := 10) dX12_go_98 (by decide) ?_
    refine x_icmp_ge C (tgt := 126) dX12_go_100 (by decide) (fun hq1 => ?_) (fun hq1 => ?_)
    · replace h := x_ift hq1 h
      refine x_aload_n C 0 rfl rfl dX12_go_126 ?_
      refine x_iload_n C 3 rfl rfl dX12_go_127 ?_
      refine x_callV C (st := []) (As := [.int x3]) (c := 0) (ci := 12) (enM_12 (c := 0) rfl) (Nat.le_of_ble_eq_true rfl) rfl (tX12_closesStory hg _ _ _ _  h) wm_X12_553 wi_X12_closesStory wv_X12_closesStory wz_X12 wc_X12_closesStory rfl yd_X12_closesStory rfl ⟨rfl, rfl⟩ ⟨Nat.le_of_ble_eq_true rfl, Nat.le_of_ble_eq_true rfl⟩ (Nat.le_of_ble_eq_true rfl) rfl dX12_go_128 (x_kv (fun M2 h => ?_))
      refine x_loc (L' := [(0, .ref (ga g 0)), (1, .int x1), (2, .int x2), (3, .int x3)]) [0, 1, 2, 3] rfl ?_
      exact tX12_go_131 hg  C  hK49 hK66 _ _ _ _  h
    · replace h := x_iff hq1 h
      refine x_aload_n C 0 rfl rfl dX12_go_103 ?_
      refine x_iload C 4 rfl dX12_go_104 ?_
      refine x_iload_n C 3 rfl rfl dX12_go_106 ?_
      refine x_callV C (st := []) (As := [.int x4, .int x3]) (c := 0) (ci := 12) (enM_12 (c := 0) rfl) (Nat.le_of_ble_eq_true rfl) rfl (tX12_isBound hg _ _ _ _ _  h) wm_X12_532 wi_X12_isBound wv_X12_isBound wz_X12 wc_X12_isBound rfl yd_X12_isBound rfl ⟨rfl, rfl⟩ ⟨Nat.le_of_ble_eq_true rfl, Nat.le_of_ble_eq_true rfl⟩ (Nat.le_of_ble_eq_true rfl) rfl dX12_go_107 (x_ki (fun r4 M3 h => ?_))
      refine x_if_eq C (tgt := 120) dX12_go_110 (by decide) (fun hq5 => ?_) (fun hq5 => ?_)
      · replace h := x_ift hq5 h
        exact tX12_go_120 hg  C  hK49 hK66 ih _ _ _ _ _  h
      · replace h := x_iff hq5 h
        refine x_aload_n C 0 rfl rfl dX12_go_113 ?_
        refine x_iload C 4 rfl dX12_go_114 ?_
        refine x_iload_n C 2 rfl rfl dX12_go_116 ?_
        refine x_callV C (st := []) (As := [.int x4, .int x2]) (c := 0) (ci := 12) (enM_12 (c := 0) rfl) (Nat.le_of_ble_eq_true rfl) rfl (tX12_listens hg _ _ _ _ _  h) wm_X12_550 wi_X12_listens wv_X12_listens wz_X12 wc_X12_listens rfl yd_X12_listens rfl ⟨rfl, rfl⟩ ⟨Nat.le_of_ble_eq_true rfl, Nat.le_of_ble_eq_true rfl⟩ (Nat.le_of_ble_eq_true rfl) rfl dX12_go_117 (x_kv (fun M6 h => ?_))
        exact tX12_go_120 hg  C  hK49 hK66 ih _ _ _ _ _  h
set_option maxHeartbeats 4000000 in
set_option maxRecDepth 100000 in
theorem tX12_go_66 {g : xG} (hg : x_inj (WM g))  {x : xCx}  {K49 : Int32 → Int32 → xMem → Prop} {post : xMem → Prop} (C : xOk (WM g) x cX12_go RX12 5 none (rm_X12_go) (pV post))  (hK49 : ∀ (x1 : Int32) (x2 : Int32) (M : xMem), K49 x1 x2 M → xW (WM g) x 5 49 [(0, .ref (ga g 0)), (1, .int x1), (2, .int x2)] [] M) : ∀ (n : Nat) (x1 : Int32) (x2 : Int32) (x3 : Int32) (M : xMem), wX12_go_66 K49 post n x1 x2 x3 M → xW (WM g) x 5 66 [(0, .ref (ga g 0)), (1, .int x1), (2, .int x2), (3, .int x3)] [] M := by
  intro n
  induction n with
  | zero =>
    intro x1 x2 x3 M  h
    exact h.elim
  | succ n ih =>
    intro x1 x2 x3 M  h
    rw [wX12_go_66] at h
    refine x_iload_n C 3 rfl rfl dX12_go_66 ?_
    refine x_iconst C (v1 := 4) dX12_go_67 (by decide) ?_
    refine x_icmp_ge C (tgt := 137) dX12_go_68 (by decide) (fun hq1 => ?_) (fun hq1 => ?_)
    · replace h := x_ift hq1 h
      refine x_aload_n C 0 rfl rfl dX12_go_137 ?_
      refine x_dup C rfl dX12_go_138 ?_
      refine x_get C (c := 0) (ci := 12) (k1 := 65) (v1 := .int (gi M 0 65)) (enM_12 (c := 0) rfl) (Nat.le_of_ble_eq_true rfl) rfl inX12 (by decide) wf_X12_424 rfl dX12_go_139 ?_
      refine x_iconst C (v1 := 1) dX12_go_142 (by decide) ?_
      refine x_iadd C dX12_go_143 ?_
      refine x_put C (c := 0) (ci := 12) (k1 := 65) (u1 := ((gi M 0 65) + 1)) (v1 := .int ((gi M 0 65) + 1)) (ty := .int) (enM_12 (c := 0) rfl) (Nat.le_of_ble_eq_true rfl) rfl inX12 (by decide) (stX12_65 _ _ _) tyX12 tyX12_ok nmX12 wf_X12_424 rfl rfl rfl rfl (Nat.le_of_ble_eq_true rfl) dX12_go_144 ?_
      refine x_nmM (fun M2 eM2 => ?_)
      replace h := h M2 eM2
      obtain ⟨v3, ev3⟩ : ∃ z : Int32, z = x2 + 1 := ⟨_, rfl⟩
      replace h := h v3 ev3
      refine x_iinc C 2 (v1 := v3) (L' := [(2, .int v3), (0, .ref (ga g 0)), (1, .int x1), (3, .int x3)]) rfl (by rw [ev3]; rfl) rfl (Nat.le_of_ble_eq_true rfl) dX12_go_147 ?_
      refine x_goto C (tgt := 49) dX12_go_150 (by decide) ?_
      refine x_loc (L' := [(0, .ref (ga g 0)), (1, .int x1), (2, .int v3)]) [1, 2, 0] rfl ?_
      exact hK49 _ _ _  h
    · replace h := x_iff hq1 h
      refine x_aload_n C 0 rfl rfl dX12_go_71 ?_
      refine x_get C (c := 0) (ci := 12) (k1 := 56) (v1 := .ref (ga g 30)) (enM_12 (c := 0) rfl) (Nat.le_of_ble_eq_true rfl) rfl inX12 (by decide) wf_X12_103 rfl dX12_go_72 ?_
      refine x_iload_n C 3 rfl rfl dX12_go_75 ?_
      obtain ⟨hi4, h⟩ := h
      refine x_zald C 2 (c := 30) (enM_24n (c := 30) (n := 4) rfl rfl) (Nat.le_of_ble_eq_true rfl) rfl hi4 dX12_go_76 ?_
      refine x_if_ne C (tgt := 83) dX12_go_77 (by decide) (fun hq5 => ?_) (fun hq5 => ?_)
      · replace h := x_iff hq5 h
        refine x_aload_n C 0 rfl rfl dX12_go_83 ?_
        refine x_iload_n C 3 rfl rfl dX12_go_84 ?_
        refine x_callV C (st := []) (As := [.int x3]) (c := 0) (ci := 12) (enM_12 (c := 0) rfl) (Nat.le_of_ble_eq_true rfl) rfl (tX12_goesOn hg _ _ _ _  h) wm_X12_544 wi_X12_goesOn wv_X12_goesOn wz_X12 wc_X12_goesOn rfl yd_X12_goesOn rfl ⟨rfl, rfl⟩ ⟨Nat.le_of_ble_eq_true rfl, Nat.le_of_ble_eq_true rfl⟩ (Nat.le_of_ble_eq_true rfl) rfl dX12_go_85 (x_kv (fun M6 h => ?_))
        refine x_aload_n C 0 rfl rfl dX12_go_88 ?_
        refine x_iload_n C 3 rfl rfl dX12_go_89 ?_
        refine x_callV C (st := []) (As := [.int x3]) (c := 0) (ci := 12) (enM_12 (c := 0) rfl) (Nat.le_of_ble_eq_true rfl) rfl (tX12_buysAll hg _ _ _ _  h) wm_X12_547 wi_X12_buysAll wv_X12_buysAll wz_X12 wc_X12_buysAll rfl yd_X12_buysAll rfl ⟨rfl, rfl⟩ ⟨Nat.le_of_ble_eq_true rfl, Nat.le_of_ble_eq_true rfl⟩ (Nat.le_of_ble_eq_true rfl) rfl dX12_go_90 (x_kv (fun M7 h => ?_))
        refine x_iconst C (v1 := 0) dX12_go_93 (by decide) ?_
        refine x_istore C (L' := [(4, .int 0), (0, .ref (ga g 0)), (1, .int x1), (2, .int x2), (3, .int x3)]) rfl (Nat.le_of_ble_eq_true rfl) dX12_go_94 ?_
        refine x_loc (L' := [(0, .ref (ga g 0)), (1, .int x1), (2, .int x2), (3, .int x3), (4, .int 0)]) [1, 2, 3, 4, 0] rfl ?_
        obtain ⟨n96, h⟩ := h
        exact tX12_go_96 hg  C  hK49 ih _ _ _ _ _ _  h
      · replace h := x_ift hq5 h
        refine x_goto C (tgt := 131) dX12_go_80 (by decide) ?_
        exact tX12_go_131 hg  C  hK49 ih _ _ _ _  h
set_option maxHeartbeats 4000000 in
set_option maxRecDepth 100000 in
theorem tX12_go_49 {g : xG} (hg : x_inj (WM g))  {x : xCx}   {post : xMem → Prop} (C : xOk (WM g) x cX12_go RX12 5 none (rm_X12_go) (pV post))   : ∀ (n : Nat) (x1 : Int32) (x2 : Int32) (M : xMem), wX12_go_49 post n x1 x2 M → xW (WM g) x 5 49 [(0, .ref (ga g 0)), (1, .int x1), (2, .int x2)] [] M := by
  intro n
  induction n with
  | zero =>
    intro x1 x2 M  h
    exact h.elim
  | succ n ih =>
    intro x1 x2 M  h
    rw [wX12_go_49] at h
    refine x_iload_n C 2 rfl rfl dX12_go_49 ?_
    refine x_iload_n C 1 rfl rfl dX12_go_50 ?_
    refine x_icmp_gt C (tgt := 153) dX12_go_51 (by decide) (fun hq1 => ?_) (fun hq1 => ?_)
    · replace h := x_ift hq1 h
      exact x_vret C dX12_go_153 ⟨rfl, h⟩
    · replace h := x_iff hq1 h
      refine x_aload_n C 0 rfl rfl dX12_go_54 ?_
      refine x_get C (c := 0) (ci := 12) (k1 := 65) (v1 := .int (gi M 0 65)) (enM_12 (c := 0) rfl) (Nat.le_of_ble_eq_true rfl) rfl inX12 (by decide) wf_X12_424 rfl dX12_go_55 ?_
      refine x_sipush C (v1 := 9999) dX12_go_58 (by decide) ?_
      refine x_icmp_ge C (tgt := 153) dX12_go_61 (by decide) (fun hq2 => ?_) (fun hq2 => ?_)
      · replace h := x_ift hq2 h
        exact x_vret C dX12_go_153 ⟨rfl, h⟩
      · replace h := x_iff hq2 h
        refine x_iconst C (v1 := 0) dX12_go_64 (by decide) ?_
        refine x_istore_n C (L' := [(3, .int 0), (0, .ref (ga g 0)), (1, .int x1), (2, .int x2)]) rfl rfl (Nat.le_of_ble_eq_true rfl) dX12_go_65 ?_
        refine x_loc (L' := [(0, .ref (ga g 0)), (1, .int x1), (2, .int x2), (3, .int 0)]) [1, 2, 3, 0] rfl ?_
        obtain ⟨n66, h⟩ := h
        exact tX12_go_66 hg  C  ih _ _ _ _ _  h
set_option maxHeartbeats 4000000 in
set_option maxRecDepth 100000 in
theorem tX12_go {g : xG} (hg : x_inj (WM g))  (l : Launch) (a0 : Int32) (M : xMem) (post : xMem → Prop)  (h : wX12_go a0 M post) : xMet (WM g) l yX12_go cX12_go 5 none (rm_X12_go) [.ref (ga g 0), .int a0] M (pV post) := by
  refine x_enter (own := RX12) (L0 := [(0, .ref (ga g 0)), (1, .int a0)]) (by decide +kernel) rfl hg (x_stM g) (Nat.le_of_ble_eq_true rfl) rfl (fun x hl C => ?_)
  unfold wX12_go at h
  refine x_aload_n C 0 rfl rfl dX12_go_0 ?_
  refine x_iconst C (v1 := 0) dX12_go_1 (by decide) ?_
  refine x_put C (c := 0) (ci := 12) (k1 := 71) (u1 := 0) (v1 := .int 0) (ty := .int) (enM_12 (c := 0) rfl) (Nat.le_of_ble_eq_true rfl) rfl inX12 (by decide) (stX12_71 _ _ _) tyX12 tyX12_ok nmX12 wf_X12_487 rfl rfl rfl rfl (Nat.le_of_ble_eq_true rfl) dX12_go_2 ?_
  refine x_nmM (fun M1 eM1 => ?_)
  replace h := h M1 eM1
  refine x_aload_n C 0 rfl rfl dX12_go_5 ?_
  refine x_iconst C (v1 := 0) dX12_go_6 (by decide) ?_
  refine x_put C (c := 0) (ci := 12) (k1 := 72) (u1 := 0) (v1 := .int 0) (ty := .int) (enM_12 (c := 0) rfl) (Nat.le_of_ble_eq_true rfl) rfl inX12 (by decide) (stX12_72 _ _ _) tyX12 tyX12_ok nmX12 wf_X12_490 rfl rfl rfl rfl (Nat.le_of_ble_eq_true rfl) dX12_go_7 ?_
  refine x_nmM (fun M2 eM2 => ?_)
  replace h := h M2 eM2
  refine x_aload_n C 0 rfl rfl dX12_go_10 ?_
  refine x_iconst C (v1 := 0) dX12_go_11 (by decide) ?_
  refine x_put C (c := 0) (ci := 12) (k1 := 73) (u1 := 0) (v1 := .int 0) (ty := .int) (enM_12 (c := 0) rfl) (Nat.le_of_ble_eq_true rfl) rfl inX12 (by decide) (stX12_73 _ _ _) tyX12 tyX12_ok nmX12 wf_X12_496 rfl rfl rfl rfl (Nat.le_of_ble_eq_true rfl) dX12_go_12 ?_
  refine x_nmM (fun M3 eM3 => ?_)
  replace h := h M3 eM3
  refine x_aload_n C 0 rfl rfl dX12_go_15 ?_
  refine x_iconst C (v1 := 0) dX12_go_16 (by decide) ?_
  refine x_put C (c := 0) (ci := 12) (k1 := 74) (u1 := 0) (v1 := .int 0) (ty := .int) (enM_12 (c := 0) rfl) (Nat.le_of_ble_eq_true rfl) rfl inX12 (by decide) (stX12_74 _ _ _) tyX12 tyX12_ok nmX12 wf_X12_517 rfl rfl rfl rfl (Nat.le_of_ble_eq_true rfl) dX12_go_17 ?_
  refine x_nmM (fun M4 eM4 => ?_)
  replace h := h M4 eM4
  refine x_aload_n C 0 rfl rfl dX12_go_20 ?_
  refine x_iconst C (v1 := 0) dX12_go_21 (by decide) ?_
  refine x_put C (c := 0) (ci := 12) (k1 := 75) (u1 := 0) (v1 := .int 0) (ty := .int) (enM_12 (c := 0) rfl) (Nat.le_of_ble_eq_true rfl) rfl inX12 (by decide) (stX12_75 _ _ _) tyX12 tyX12_ok nmX12 wf_X12_529 rfl rfl rfl rfl (Nat.le_of_ble_eq_true rfl) dX12_go_22 ?_
  refine x_nmM (fun M5 eM5 => ?_)
  replace h := h M5 eM5
  refine x_aload_n C 0 rfl rfl dX12_go_25 ?_
  refine x_iconst C (v1 := 0) dX12_go_26 (by decide) ?_
  refine x_put C (c := 0) (ci := 12) (k1 := 76) (u1 := 0) (v1 := .int 0) (ty := .int) (enM_12 (c := 0) rfl) (Nat.le_of_ble_eq_true rfl) rfl inX12 (by decide) (stX12_76 _ _ _) tyX12 tyX12_ok nmX12 wf_X12_541 rfl rfl rfl rfl (Nat.le_of_ble_eq_true rfl) dX12_go_27 ?_
  refine x_nmM (fun M6 eM6 => ?_)
  replace h := h M6 eM6
  refine x_aload_n C 0 rfl rfl dX12_go_30 ?_
  refine x_iconst C (v1 := 0) dX12_go_31 (by decide) ?_
  refine x_put C (c := 0) (ci := 12) (k1 := 77) (u1 := 0) (v1 := .int 0) (ty := .int) (enM_12 (c := 0) rfl) (Nat.le_of_ble_eq_true rfl) rfl inX12 (by decide) (stX12_77 _ _ _) tyX12 tyX12_ok nmX12 wf_X12_535 rfl rfl rfl rfl (Nat.le_of_ble_eq_true rfl) dX12_go_32 ?_
  refine x_nmM (fun M7 eM7 => ?_)
  replace h := h M7 eM7
  refine x_aload_n C 0 rfl rfl dX12_go_35 ?_
  refine x_bipush C (v1 := (-2)) dX12_go_36 (by decide) ?_
  refine x_put C (c := 0) (ci := 12) (k1 := 78) (u1 := (-2)) (v1 := .int (-2)) (ty := .int) (enM_12 (c := 0) rfl) (Nat.le_of_ble_eq_true rfl) rfl inX12 (by decide) (stX12_78 _ _ _) tyX12 tyX12_ok nmX12 wf_X12_520 rfl rfl rfl rfl (Nat.le_of_ble_eq_true rfl) dX12_go_38 ?_
  refine x_nmM (fun M8 eM8 => ?_)
  replace h := h M8 eM8
  refine x_aload_n C 0 rfl rfl dX12_go_41 ?_
  refine x_bipush C (v1 := (-2)) dX12_go_42 (by decide) ?_
  refine x_put C (c := 0) (ci := 12) (k1 := 79) (u1 := (-2)) (v1 := .int (-2)) (ty := .int) (enM_12 (c := 0) rfl) (Nat.le_of_ble_eq_true rfl) rfl inX12 (by decide) (stX12_79 _ _ _) tyX12 tyX12_ok nmX12 wf_X12_523 rfl rfl rfl rfl (Nat.le_of_ble_eq_true rfl) dX12_go_44 ?_
  refine x_nmM (fun M9 eM9 => ?_)
  replace h := h M9 eM9
  refine x_iconst C (v1 := 1) dX12_go_47 (by decide) ?_
  refine x_istore_n C (L' := [(2, .int 1), (0, .ref (ga g 0)), (1, .int a0)]) rfl rfl (Nat.le_of_ble_eq_true rfl) dX12_go_48 ?_
  refine x_loc (L' := [(0, .ref (ga g 0)), (1, .int a0), (2, .int 1)]) [1, 2, 0] rfl ?_
  obtain ⟨n49, h⟩ := h
  exact tX12_go_49 hg  C   _ _ _ _  h
set_option maxHeartbeats 4000000 in
set_option maxRecDepth 100000 in
theorem tX12_evenings {g : xG} (hg : x_inj (WM g))  (l : Launch) (a0 : Int32) (M : xMem) (post : Int32 → xMem → Prop)  (h : wX12_evenings a0 M post) : xMet (WM g) l yX12_evenings cX12_evenings 2 (some .int) (rm_X12_evenings) [.ref (ga g 0), .int a0] M (pI post) := by
  refine x_enter (own := RX12) (L0 := [(0, .ref (ga g 0)), (1, .int a0)]) (by decide +kernel) rfl hg (x_stM g) (Nat.le_of_ble_eq_true rfl) rfl (fun x hl C => ?_)
  unfold wX12_evenings at h
  refine x_iload_n C 1 rfl rfl dX12_evenings_0 ?_
  refine x_i2l C dX12_evenings_1 ?_
  refine x_lconst C (v1 := 1) dX12_evenings_2 (by decide) ?_
  refine x_ldc2 C (v1 := 60) (wcl_X12_556) dX12_evenings_3 ?_
  refine x_callS C (st := []) (As := [.long ((a0 : Int32).toInt64), .long 1, .long 60]) (tX12_lies hg _ _ _ _ _ _  h) wm_X12_222 wsm_X12_lies wz_X12 wc_X12_lies yd_X12_lies rfl ⟨rfl, rfl⟩ ⟨Nat.le_of_ble_eq_true rfl, Nat.le_of_ble_eq_true rfl⟩ (Nat.le_of_ble_eq_true rfl) rfl dX12_evenings_6 (x_ki (fun r2 M1 h => ?_))
  refine x_if_ne C (tgt := 14) dX12_evenings_9 (by decide) (fun hq3 => ?_) (fun hq3 => ?_)
  · replace h := x_iff hq3 h
    refine x_aload_n C 0 rfl rfl dX12_evenings_14 ?_
    refine x_iload_n C 1 rfl rfl dX12_evenings_15 ?_
    refine x_callV C (st := []) (As := [.int a0]) (c := 0) (ci := 12) (enM_12 (c := 0) rfl) (Nat.le_of_ble_eq_true rfl) rfl (tX12_go hg _ _ _ _  h) wm_X12_558 wi_X12_go wv_X12_go wz_X12 wc_X12_go rfl yd_X12_go rfl ⟨rfl, rfl⟩ ⟨Nat.le_of_ble_eq_true rfl, Nat.le_of_ble_eq_true rfl⟩ (Nat.le_of_ble_eq_true rfl) rfl dX12_evenings_16 (x_kv (fun M4 h => ?_))
    refine x_aload_n C 0 rfl rfl dX12_evenings_19 ?_
    refine x_get C (c := 0) (ci := 12) (k1 := 71) (v1 := .int (gi M4 0 71)) (enM_12 (c := 0) rfl) (Nat.le_of_ble_eq_true rfl) rfl inX12 (by decide) wf_X12_487 rfl dX12_evenings_20 ?_
    exact x_iret C dX12_evenings_23 ⟨_, rfl, h⟩
  · replace h := x_ift hq3 h
    refine x_iconst C (v1 := (-1)) dX12_evenings_12 (by decide) ?_
    exact x_iret C dX12_evenings_13 ⟨_, rfl, h⟩
set_option maxHeartbeats 4000000 in
set_option maxRecDepth 100000 in
theorem tX12_laysAside_81 {g : xG} (hg : x_inj (WM g))  {x : xCx}   {post : xMem → Prop} (C : xOk (WM g) x cX12_laysAside RX12 4 none (rm_X12_laysAside) (pV post))   : ∀ (n : Nat) (x1 : Int32) (x2 : Int32) (M : xMem), wX12_laysAside_81 post n x1 x2 M → xW (WM g) x 4 81 [(0, .ref (ga g 0)), (1, .int x1), (2, .int x2)] [] M := by
  intro n
  induction n with
  | zero =>
    intro x1 x2 M  h
    exact h.elim
  | succ n ih =>
    intro x1 x2 M  h
    rw [wX12_laysAside_81] at h
    refine x_iload_n C 2 rfl rfl dX12_laysAside_81 ?_
    refine x_bipush C (v1 := 10) dX12_laysAside_82 (by decide) ?_
    refine x_icmp_ge C (tgt := 160) dX12_laysAside_84 (by decide) (fun hq1 => ?_) (fun hq1 => ?_)
    · replace h := x_ift hq1 h
      refine x_aload_n C 0 rfl rfl dX12_laysAside_160 ?_
      refine x_get C (c := 0) (ci := 12) (k1 := 91) (v1 := .ref (ga g 51)) (enM_12 (c := 0) rfl) (Nat.le_of_ble_eq_true rfl) rfl inX12 (by decide) wf_X12_166 rfl dX12_laysAside_161 ?_
      refine x_iload_n C 1 rfl rfl dX12_laysAside_164 ?_
      refine x_aload_n C 0 rfl rfl dX12_laysAside_165 ?_
      refine x_get C (c := 0) (ci := 12) (k1 := 65) (v1 := .int (gi M 0 65)) (enM_12 (c := 0) rfl) (Nat.le_of_ble_eq_true rfl) rfl inX12 (by decide) wf_X12_424 rfl dX12_laysAside_166 ?_
      obtain ⟨hi2, h⟩ := h
      refine x_iast C 0 (c := 51) (enM_20n (c := 51) (n := 2) rfl rfl) (Nat.le_of_ble_eq_true rfl) rfl hi2 dX12_laysAside_169 ?_
      refine x_nmM (fun M3 eM3 => ?_)
      replace h := h M3 eM3
      refine x_aload_n C 0 rfl rfl dX12_laysAside_170 ?_
      refine x_get C (c := 0) (ci := 12) (k1 := 92) (v1 := .ref (ga g 52)) (enM_12 (c := 0) rfl) (Nat.le_of_ble_eq_true rfl) rfl inX12 (by decide) wf_X12_169 rfl dX12_laysAside_171 ?_
      refine x_iload_n C 1 rfl rfl dX12_laysAside_174 ?_
      refine x_aload_n C 0 rfl rfl dX12_laysAside_175 ?_
      refine x_get C (c := 0) (ci := 12) (k1 := 66) (v1 := .int (gi M3 0 66)) (enM_12 (c := 0) rfl) (Nat.le_of_ble_eq_true rfl) rfl inX12 (by decide) wf_X12_514 rfl dX12_laysAside_176 ?_
      obtain ⟨hi4, h⟩ := h
      refine x_iast C 0 (c := 52) (enM_20n (c := 52) (n := 2) rfl rfl) (Nat.le_of_ble_eq_true rfl) rfl hi4 dX12_laysAside_179 ?_
      refine x_nmM (fun M5 eM5 => ?_)
      replace h := h M5 eM5
      refine x_aload_n C 0 rfl rfl dX12_laysAside_180 ?_
      refine x_get C (c := 0) (ci := 12) (k1 := 93) (v1 := .ref (ga g 53)) (enM_12 (c := 0) rfl) (Nat.le_of_ble_eq_true rfl) rfl inX12 (by decide) wf_X12_172 rfl dX12_laysAside_181 ?_
      refine x_iload_n C 1 rfl rfl dX12_laysAside_184 ?_
      refine x_aload_n C 0 rfl rfl dX12_laysAside_185 ?_
      refine x_get C (c := 0) (ci := 12) (k1 := 67) (v1 := .int (gi M5 0 67)) (enM_12 (c := 0) rfl) (Nat.le_of_ble_eq_true rfl) rfl inX12 (by decide) wf_X12_538 rfl dX12_laysAside_186 ?_
      obtain ⟨hi6, h⟩ := h
      refine x_iast C 0 (c := 53) (enM_20n (c := 53) (n := 2) rfl rfl) (Nat.le_of_ble_eq_true rfl) rfl hi6 dX12_laysAside_189 ?_
      refine x_nmM (fun M7 eM7 => ?_)
      replace h := h M7 eM7
      refine x_aload_n C 0 rfl rfl dX12_laysAside_190 ?_
      refine x_get C (c := 0) (ci := 12) (k1 := 94) (v1 := .ref (ga g 54)) (enM_12 (c := 0) rfl) (Nat.le_of_ble_eq_true rfl) rfl inX12 (by decide) wf_X12_175 rfl dX12_laysAside_191 ?_
      refine x_iload_n C 1 rfl rfl dX12_laysAside_194 ?_
      refine x_aload_n C 0 rfl rfl dX12_laysAside_195 ?_
      refine x_get C (c := 0) (ci := 12) (k1 := 2) (v1 := .int (gi M7 0 2)) (enM_12 (c := 0) rfl) (Nat.le_of_ble_eq_true rfl) rfl inX12 (by decide) wf_X12_13 rfl dX12_laysAside_196 ?_
      obtain ⟨hi8, h⟩ := h
      refine x_iast C 0 (c := 54) (enM_20n (c := 54) (n := 2) rfl rfl) (Nat.le_of_ble_eq_true rfl) rfl hi8 dX12_laysAside_199 ?_
      refine x_nmM (fun M9 eM9 => ?_)
      replace h := h M9 eM9
      exact x_vret C dX12_laysAside_200 ⟨rfl, h⟩
    · replace h := x_iff hq1 h
      refine x_bipush C (v1 := 10) dX12_laysAside_87 (by decide) ?_
      refine x_iload_n C 1 rfl rfl dX12_laysAside_89 ?_
      refine x_imul C dX12_laysAside_90 ?_
      refine x_iload_n C 2 rfl rfl dX12_laysAside_91 ?_
      refine x_iadd C dX12_laysAside_92 ?_
      refine x_nm (fun v10 ev10 => ?_)
      replace h := h v10 ev10
      refine x_istore_n C (L' := [(3, .int v10), (0, .ref (ga g 0)), (1, .int x1), (2, .int x2)]) rfl rfl (Nat.le_of_ble_eq_true rfl) dX12_laysAside_93 ?_
      refine x_aload_n C 1 rfl rfl dX12_laysAside_94 ?_
      refine x_get C (c := 0) (ci := 12) (k1 := 86) (v1 := .ref (ga g 46)) (enM_12 (c := 0) rfl) (Nat.le_of_ble_eq_true rfl) rfl inX12 (by decide) wf_X12_151 rfl dX12_laysAside_95 ?_
      refine x_iload_n C 0 rfl rfl dX12_laysAside_98 ?_
      refine x_aload_n C 1 rfl rfl dX12_laysAside_99 ?_
      refine x_get C (c := 0) (ci := 12) (k1 := 61) (v1 := .ref (ga g 35)) (enM_12 (c := 0) rfl) (Nat.le_of_ble_eq_true rfl) rfl inX12 (by decide) wf_X12_118 rfl dX12_laysAside_100 ?_
      refine x_iload_n C 3 rfl rfl dX12_laysAside_103 ?_
      obtain ⟨hi11, h⟩ := h
      refine x_zald C 2 (c := 35) (enM_24n (c := 35) (n := 10) rfl rfl) (Nat.le_of_ble_eq_true rfl) rfl hi11 dX12_laysAside_104 ?_
      obtain ⟨hi12, h⟩ := h
      refine x_zast C 2 (c := 46) (enM_24n (c := 46) (n := 20) rfl rfl) (Nat.le_of_ble_eq_true rfl) rfl hi12 dX12_laysAside_105 ?_
      refine x_nmM (fun M13 eM13 => ?_)
      replace h := h M13 eM13
      refine x_aload_n C 1 rfl rfl dX12_laysAside_106 ?_
      refine x_get C (c := 0) (ci := 12) (k1 := 87) (v1 := .ref (ga g 47)) (enM_12 (c := 0) rfl) (Nat.le_of_ble_eq_true rfl) rfl inX12 (by decide) wf_X12_154 rfl dX12_laysAside_107 ?_
      refine x_iload_n C 0 rfl rfl dX12_laysAside_110 ?_
      refine x_aload_n C 1 rfl rfl dX12_laysAside_111 ?_
      refine x_get C (c := 0) (ci := 12) (k1 := 62) (v1 := .ref (ga g 36)) (enM_12 (c := 0) rfl) (Nat.le_of_ble_eq_true rfl) rfl inX12 (by decide) wf_X12_121 rfl dX12_laysAside_112 ?_
      refine x_iload_n C 3 rfl rfl dX12_laysAside_115 ?_
      obtain ⟨hi14, h⟩ := h
      refine x_iald C 0 (c := 36) (enM_20n (c := 36) (n := 10) rfl rfl) (Nat.le_of_ble_eq_true rfl) rfl hi14 dX12_laysAside_116 ?_
      obtain ⟨hi15, h⟩ := h
      refine x_iast C 0 (c := 47) (enM_20n (c := 47) (n := 20) rfl rfl) (Nat.le_of_ble_eq_true rfl) rfl hi15 dX12_laysAside_117 ?_
      refine x_nmM (fun M16 eM16 => ?_)
      replace h := h M16 eM16
      refine x_aload_n C 1 rfl rfl dX12_laysAside_118 ?_
      refine x_get C (c := 0) (ci := 12) (k1 := 88) (v1 := .ref (ga g 48)) (enM_12 (c := 0) rfl) (Nat.le_of_ble_eq_true rfl) rfl inX12 (by decide) wf_X12_157 rfl dX12_laysAside_119 ?_
      refine x_iload_n C 0 rfl rfl dX12_laysAside_122 ?_
      refine x_aload_n C 1 rfl rfl dX12_laysAside_123 ?_
      refine x_get C (c := 0) (ci := 12) (k1 := 63) (v1 := .ref (ga g 37)) (enM_12 (c := 0) rfl) (Nat.le_of_ble_eq_true rfl) rfl inX12 (by decide) wf_X12_124 rfl dX12_laysAside_124 ?_
      refine x_iload_n C 3 rfl rfl dX12_laysAside_127 ?_
      obtain ⟨hi17, h⟩ := h
      refine x_iald C 0 (c := 37) (enM_20n (c := 37) (n := 10) rfl rfl) (Nat.le_of_ble_eq_true rfl) rfl hi17 dX12_laysAside_128 ?_
      obtain ⟨hi18, h⟩ := h
      refine x_iast C 0 (c := 48) (enM_20n (c := 48) (n := 20) rfl rfl) (Nat.le_of_ble_eq_true rfl) rfl hi18 dX12_laysAside_129 ?_
      refine x_nmM (fun M19 eM19 => ?_)
      replace h := h M19 eM19
      refine x_aload_n C 1 rfl rfl dX12_laysAside_130 ?_
      refine x_get C (c := 0) (ci := 12) (k1 := 89) (v1 := .ref (ga g 49)) (enM_12 (c := 0) rfl) (Nat.le_of_ble_eq_true rfl) rfl inX12 (by decide) wf_X12_160 rfl dX12_laysAside_131 ?_
      refine x_iload_n C 0 rfl rfl dX12_laysAside_134 ?_
      refine x_aload_n C 1 rfl rfl dX12_laysAside_135 ?_
      refine x_get C (c := 0) (ci := 12) (k1 := 64) (v1 := .ref (ga g 38)) (enM_12 (c := 0) rfl) (Nat.le_of_ble_eq_true rfl) rfl inX12 (by decide) wf_X12_127 rfl dX12_laysAside_136 ?_
      refine x_iload_n C 3 rfl rfl dX12_laysAside_139 ?_
      obtain ⟨hi20, h⟩ := h
      refine x_iald C 0 (c := 38) (enM_20n (c := 38) (n := 10) rfl rfl) (Nat.le_of_ble_eq_true rfl) rfl hi20 dX12_laysAside_140 ?_
      obtain ⟨hi21, h⟩ := h
      refine x_iast C 0 (c := 49) (enM_20n (c := 49) (n := 20) rfl rfl) (Nat.le_of_ble_eq_true rfl) rfl hi21 dX12_laysAside_141 ?_
      refine x_nmM (fun M22 eM22 => ?_)
      replace h := h M22 eM22
      refine x_aload_n C 1 rfl rfl dX12_laysAside_142 ?_
      refine x_get C (c := 0) (ci := 12) (k1 := 90) (v1 := .ref (ga g 50)) (enM_12 (c := 0) rfl) (Nat.le_of_ble_eq_true rfl) rfl inX12 (by decide) wf_X12_163 rfl dX12_laysAside_143 ?_
      refine x_iload_n C 0 rfl rfl dX12_laysAside_146 ?_
      refine x_aload_n C 1 rfl rfl dX12_laysAside_147 ?_
      refine x_get C (c := 0) (ci := 12) (k1 := 54) (v1 := .ref (ga g 28)) (enM_12 (c := 0) rfl) (Nat.le_of_ble_eq_true rfl) rfl inX12 (by decide) wf_X12_97 rfl dX12_laysAside_148 ?_
      refine x_iload_n C 3 rfl rfl dX12_laysAside_151 ?_
      obtain ⟨hi23, h⟩ := h
      refine x_iald C 0 (c := 28) (enM_20n (c := 28) (n := 10) rfl rfl) (Nat.le_of_ble_eq_true rfl) rfl hi23 dX12_laysAside_152 ?_
      obtain ⟨hi24, h⟩ := h
      refine x_iast C 0 (c := 50) (enM_20n (c := 50) (n := 20) rfl rfl) (Nat.le_of_ble_eq_true rfl) rfl hi24 dX12_laysAside_153 ?_
      refine x_nmM (fun M25 eM25 => ?_)
      replace h := h M25 eM25
      obtain ⟨v26, ev26⟩ : ∃ z : Int32, z = x2 + 1 := ⟨_, rfl⟩
      replace h := h v26 ev26
      refine x_iinc C 3 (v1 := v26) (L' := [(2, .int v26), (3, .int v10), (0, .ref (ga g 0)), (1, .int x1)]) rfl (by rw [ev26]; rfl) rfl (Nat.le_of_ble_eq_true rfl) dX12_laysAside_154 ?_
      refine x_goto C (tgt := 81) dX12_laysAside_157 (by decide) ?_
      refine x_loc (L' := [(0, .ref (ga g 0)), (1, .int x1), (2, .int v26)]) [2, 3, 0] rfl ?_
      exact ih _ _ _  h
set_option maxHeartbeats 4000000 in
set_option maxRecDepth 100000 in
theorem tX12_laysAside_2 {g : xG} (hg : x_inj (WM g))  {x : xCx}   {post : xMem → Prop} (C : xOk (WM g) x cX12_laysAside RX12 4 none (rm_X12_laysAside) (pV post))   : ∀ (n : Nat) (x1 : Int32) (x2 : Int32) (M : xMem), wX12_laysAside_2 post n x1 x2 M → xW (WM g) x 4 2 [(0, .ref (ga g 0)), (1, .int x1), (2, .int x2)] [] M := by
  intro n
  induction n with
  | zero =>
    intro x1 x2 M  h
    exact h.elim
  | succ n ih =>
    intro x1 x2 M  h
    rw [wX12_laysAside_2] at h
    refine x_iload_n C 2 rfl rfl dX12_laysAside_2 ?_
    refine x_iconst C (v1 := 4) dX12_laysAside_3 (by decide) ?_
    refine x_icmp_ge C (tgt := 79) dX12_laysAside_4 (by decide) (fun hq1 => ?_) (fun hq1 => ?_)
    · replace h := x_ift hq1 h
      refine x_iconst C (v1 := 0) dX12_laysAside_79 (by decide) ?_
      refine x_istore_n C (L' := [(2, .int 0), (0, .ref (ga g 0)), (1, .int x1)]) rfl rfl (Nat.le_of_ble_eq_true rfl) dX12_laysAside_80 ?_
      refine x_loc (L' := [(0, .ref (ga g 0)), (1, .int x1), (2, .int 0)]) [1, 2, 0] rfl ?_
      obtain ⟨n81, h⟩ := h
      exact tX12_laysAside_81 hg  C   _ _ _ _  h
    · replace h := x_iff hq1 h
      refine x_iconst C (v1 := 4) dX12_laysAside_7 (by decide) ?_
      refine x_iload_n C 1 rfl rfl dX12_laysAside_8 ?_
      refine x_imul C dX12_laysAside_9 ?_
      refine x_iload_n C 2 rfl rfl dX12_laysAside_10 ?_
      refine x_iadd C dX12_laysAside_11 ?_
      refine x_nm (fun v2 ev2 => ?_)
      replace h := h v2 ev2
      refine x_istore_n C (L' := [(3, .int v2), (0, .ref (ga g 0)), (1, .int x1), (2, .int x2)]) rfl rfl (Nat.le_of_ble_eq_true rfl) dX12_laysAside_12 ?_
      refine x_aload_n C 1 rfl rfl dX12_laysAside_13 ?_
      refine x_get C (c := 0) (ci := 12) (k1 := 81) (v1 := .ref (ga g 41)) (enM_12 (c := 0) rfl) (Nat.le_of_ble_eq_true rfl) rfl inX12 (by decide) wf_X12_136 rfl dX12_laysAside_14 ?_
      refine x_iload_n C 0 rfl rfl dX12_laysAside_17 ?_
      refine x_aload_n C 1 rfl rfl dX12_laysAside_18 ?_
      refine x_get C (c := 0) (ci := 12) (k1 := 56) (v1 := .ref (ga g 30)) (enM_12 (c := 0) rfl) (Nat.le_of_ble_eq_true rfl) rfl inX12 (by decide) wf_X12_103 rfl dX12_laysAside_19 ?_
      refine x_iload_n C 3 rfl rfl dX12_laysAside_22 ?_
      obtain ⟨hi3, h⟩ := h
      refine x_zald C 2 (c := 30) (enM_24n (c := 30) (n := 4) rfl rfl) (Nat.le_of_ble_eq_true rfl) rfl hi3 dX12_laysAside_23 ?_
      obtain ⟨hi4, h⟩ := h
      refine x_zast C 2 (c := 41) (enM_24n (c := 41) (n := 8) rfl rfl) (Nat.le_of_ble_eq_true rfl) rfl hi4 dX12_laysAside_24 ?_
      refine x_nmM (fun M5 eM5 => ?_)
      replace h := h M5 eM5
      refine x_aload_n C 1 rfl rfl dX12_laysAside_25 ?_
      refine x_get C (c := 0) (ci := 12) (k1 := 82) (v1 := .ref (ga g 42)) (enM_12 (c := 0) rfl) (Nat.le_of_ble_eq_true rfl) rfl inX12 (by decide) wf_X12_139 rfl dX12_laysAside_26 ?_
      refine x_iload_n C 0 rfl rfl dX12_laysAside_29 ?_
      refine x_aload_n C 1 rfl rfl dX12_laysAside_30 ?_
      refine x_get C (c := 0) (ci := 12) (k1 := 57) (v1 := .ref (ga g 31)) (enM_12 (c := 0) rfl) (Nat.le_of_ble_eq_true rfl) rfl inX12 (by decide) wf_X12_106 rfl dX12_laysAside_31 ?_
      refine x_iload_n C 3 rfl rfl dX12_laysAside_34 ?_
      obtain ⟨hi6, h⟩ := h
      refine x_iald C 0 (c := 31) (enM_20n (c := 31) (n := 4) rfl rfl) (Nat.le_of_ble_eq_true rfl) rfl hi6 dX12_laysAside_35 ?_
      obtain ⟨hi7, h⟩ := h
      refine x_iast C 0 (c := 42) (enM_20n (c := 42) (n := 8) rfl rfl) (Nat.le_of_ble_eq_true rfl) rfl hi7 dX12_laysAside_36 ?_
      refine x_nmM (fun M8 eM8 => ?_)
      replace h := h M8 eM8
      refine x_aload_n C 1 rfl rfl dX12_laysAside_37 ?_
      refine x_get C (c := 0) (ci := 12) (k1 := 83) (v1 := .ref (ga g 43)) (enM_12 (c := 0) rfl) (Nat.le_of_ble_eq_true rfl) rfl inX12 (by decide) wf_X12_142 rfl dX12_laysAside_38 ?_
      refine x_iload_n C 0 rfl rfl dX12_laysAside_41 ?_
      refine x_aload_n C 1 rfl rfl dX12_laysAside_42 ?_
      refine x_get C (c := 0) (ci := 12) (k1 := 58) (v1 := .ref (ga g 32)) (enM_12 (c := 0) rfl) (Nat.le_of_ble_eq_true rfl) rfl inX12 (by decide) wf_X12_109 rfl dX12_laysAside_43 ?_
      refine x_iload_n C 3 rfl rfl dX12_laysAside_46 ?_
      obtain ⟨hi9, h⟩ := h
      refine x_iald C 0 (c := 32) (enM_20n (c := 32) (n := 4) rfl rfl) (Nat.le_of_ble_eq_true rfl) rfl hi9 dX12_laysAside_47 ?_
      obtain ⟨hi10, h⟩ := h
      refine x_iast C 0 (c := 43) (enM_20n (c := 43) (n := 8) rfl rfl) (Nat.le_of_ble_eq_true rfl) rfl hi10 dX12_laysAside_48 ?_
      refine x_nmM (fun M11 eM11 => ?_)
      replace h := h M11 eM11
      refine x_aload_n C 1 rfl rfl dX12_laysAside_49 ?_
      refine x_get C (c := 0) (ci := 12) (k1 := 84) (v1 := .ref (ga g 44)) (enM_12 (c := 0) rfl) (Nat.le_of_ble_eq_true rfl) rfl inX12 (by decide) wf_X12_145 rfl dX12_laysAside_50 ?_
      refine x_iload_n C 0 rfl rfl dX12_laysAside_53 ?_
      refine x_aload_n C 1 rfl rfl dX12_laysAside_54 ?_
      refine x_get C (c := 0) (ci := 12) (k1 := 59) (v1 := .ref (ga g 33)) (enM_12 (c := 0) rfl) (Nat.le_of_ble_eq_true rfl) rfl inX12 (by decide) wf_X12_112 rfl dX12_laysAside_55 ?_
      refine x_iload_n C 3 rfl rfl dX12_laysAside_58 ?_
      obtain ⟨hi12, h⟩ := h
      refine x_iald C 0 (c := 33) (enM_20n (c := 33) (n := 4) rfl rfl) (Nat.le_of_ble_eq_true rfl) rfl hi12 dX12_laysAside_59 ?_
      obtain ⟨hi13, h⟩ := h
      refine x_iast C 0 (c := 44) (enM_20n (c := 44) (n := 8) rfl rfl) (Nat.le_of_ble_eq_true rfl) rfl hi13 dX12_laysAside_60 ?_
      refine x_nmM (fun M14 eM14 => ?_)
      replace h := h M14 eM14
      refine x_aload_n C 1 rfl rfl dX12_laysAside_61 ?_
      refine x_get C (c := 0) (ci := 12) (k1 := 85) (v1 := .ref (ga g 45)) (enM_12 (c := 0) rfl) (Nat.le_of_ble_eq_true rfl) rfl inX12 (by decide) wf_X12_148 rfl dX12_laysAside_62 ?_
      refine x_iload_n C 0 rfl rfl dX12_laysAside_65 ?_
      refine x_aload_n C 1 rfl rfl dX12_laysAside_66 ?_
      refine x_get C (c := 0) (ci := 12) (k1 := 60) (v1 := .ref (ga g 34)) (enM_12 (c := 0) rfl) (Nat.le_of_ble_eq_true rfl) rfl inX12 (by decide) wf_X12_115 rfl dX12_laysAside_67 ?_
      refine x_iload_n C 3 rfl rfl dX12_laysAside_70 ?_
      obtain ⟨hi15, h⟩ := h
      refine x_iald C 0 (c := 34) (enM_20n (c := 34) (n := 4) rfl rfl) (Nat.le_of_ble_eq_true rfl) rfl hi15 dX12_laysAside_71 ?_
      obtain ⟨hi16, h⟩ := h
      refine x_iast C 0 (c := 45) (enM_20n (c := 45) (n := 8) rfl rfl) (Nat.le_of_ble_eq_true rfl) rfl hi16 dX12_laysAside_72 ?_
      refine x_nmM (fun M17 eM17 => ?_)
      replace h := h M17 eM17
      obtain ⟨v18, ev18⟩ : ∃ z : Int32, z = x2 + 1 := ⟨_, rfl⟩
      replace h := h v18 ev18
      refine x_iinc C 3 (v1 := v18) (L' := [(2, .int v18), (3, .int v2), (0, .ref (ga g 0)), (1, .int x1)]) rfl (by rw [ev18]; rfl) rfl (Nat.le_of_ble_eq_true rfl) dX12_laysAside_73 ?_
      refine x_goto C (tgt := 2) dX12_laysAside_76 (by decide) ?_
      refine x_loc (L' := [(0, .ref (ga g 0)), (1, .int x1), (2, .int v18)]) [2, 3, 0] rfl ?_
      exact ih _ _ _  h
set_option maxHeartbeats 4000000 in
set_option maxRecDepth 100000 in
theorem tX12_laysAside {g : xG} (hg : x_inj (WM g))  (l : Launch) (a0 : Int32) (M : xMem) (post : xMem → Prop)  (h : wX12_laysAside a0 M post) : xMet (WM g) l yX12_laysAside cX12_laysAside 4 none (rm_X12_laysAside) [.ref (ga g 0), .int a0] M (pV post) := by
  refine x_enter (own := RX12) (L0 := [(0, .ref (ga g 0)), (1, .int a0)]) (by decide +kernel) rfl hg (x_stM g) (Nat.le_of_ble_eq_true rfl) rfl (fun x hl C => ?_)
  unfold wX12_laysAside at h
  refine x_iconst C (v1 := 0) dX12_laysAside_0 (by decide) ?_
  refine x_istore_n C (L' := [(2, .int 0), (0, .ref (ga g 0)), (1, .int a0)]) rfl rfl (Nat.le_of_ble_eq_true rfl) dX12_laysAside_1 ?_
  refine x_loc (L' := [(0, .ref (ga g 0)), (1, .int a0), (2, .int 0)]) [1, 2, 0] rfl ?_
  obtain ⟨n2, h⟩ := h
  exact tX12_laysAside_2 hg  C   _ _ _ _  h
set_option maxHeartbeats 4000000 in
set_option maxRecDepth 100000 in
theorem tX12_bringsBack_115 {g : xG} (hg : x_inj (WM g))  {x : xCx}   {post : xMem → Prop} (C : xOk (WM g) x cX12_bringsBack RX12 4 none (rm_X12_bringsBack) (pV post))   : ∀ (n : Nat) (x1 : Int32) (x2 : Int32) (M : xMem), wX12_bringsBack_115 post n x1 x2 M → xW (WM g) x 4 115 [(0, .ref (ga g 0)), (1, .int x1), (2, .int x2)] [] M := by
  intro n
  induction n with
  | zero =>
    intro x1 x2 M  h
    exact h.elim
  | succ n ih =>
    intro x1 x2 M  h
    rw [wX12_bringsBack_115] at h
    refine x_iload_n C 2 rfl rfl dX12_bringsBack_115 ?_
    refine x_bipush C (v1 := 10) dX12_bringsBack_116 (by decide) ?_
    refine x_icmp_ge C (tgt := 194) dX12_bringsBack_118 (by decide) (fun hq1 => ?_) (fun hq1 => ?_)
    · replace h := x_ift hq1 h
      refine x_aload_n C 0 rfl rfl dX12_bringsBack_194 ?_
      refine x_aload_n C 0 rfl rfl dX12_bringsBack_195 ?_
      refine x_get C (c := 0) (ci := 12) (k1 := 91) (v1 := .ref (ga g 51)) (enM_12 (c := 0) rfl) (Nat.le_of_ble_eq_true rfl) rfl inX12 (by decide) wf_X12_166 rfl dX12_bringsBack_196 ?_
      refine x_iload_n C 1 rfl rfl dX12_bringsBack_199 ?_
      obtain ⟨hi2, h⟩ := h
      refine x_iald C 0 (c := 51) (enM_20n (c := 51) (n := 2) rfl rfl) (Nat.le_of_ble_eq_true rfl) rfl hi2 dX12_bringsBack_200 ?_
      refine x_put C (c := 0) (ci := 12) (k1 := 65) (u1 := (gi M 51 x1.toNatClampNeg)) (v1 := .int (gi M 51 x1.toNatClampNeg)) (ty := .int) (enM_12 (c := 0) rfl) (Nat.le_of_ble_eq_true rfl) rfl inX12 (by decide) (stX12_65 _ _ _) tyX12 tyX12_ok nmX12 wf_X12_424 rfl rfl rfl rfl (Nat.le_of_ble_eq_true rfl) dX12_bringsBack_201 ?_
      refine x_nmM (fun M3 eM3 => ?_)
      replace h := h M3 eM3
      refine x_aload_n C 0 rfl rfl dX12_bringsBack_204 ?_
      refine x_aload_n C 0 rfl rfl dX12_bringsBack_205 ?_
      refine x_get C (c := 0) (ci := 12) (k1 := 92) (v1 := .ref (ga g 52)) (enM_12 (c := 0) rfl) (Nat.le_of_ble_eq_true rfl) rfl inX12 (by decide) wf_X12_169 rfl dX12_bringsBack_206 ?_
      refine x_iload_n C 1 rfl rfl dX12_bringsBack_209 ?_
      obtain ⟨hi4, h⟩ := h
      refine x_iald C 0 (c := 52) (enM_20n (c := 52) (n := 2) rfl rfl) (Nat.le_of_ble_eq_true rfl) rfl hi4 dX12_bringsBack_210 ?_
      refine x_put C (c := 0) (ci := 12) (k1 := 66) (u1 := (gi M3 52 x1.toNatClampNeg)) (v1 := .int (gi M3 52 x1.toNatClampNeg)) (ty := .int) (enM_12 (c := 0) rfl) (Nat.le_of_ble_eq_true rfl) rfl inX12 (by decide) (stX12_66 _ _ _) tyX12 tyX12_ok nmX12 wf_X12_514 rfl rfl rfl rfl (Nat.le_of_ble_eq_true rfl) dX12_bringsBack_211 ?_
      refine x_nmM (fun M5 eM5 => ?_)
      replace h := h M5 eM5
      refine x_aload_n C 0 rfl rfl dX12_bringsBack_214 ?_
      refine x_aload_n C 0 rfl rfl dX12_bringsBack_215 ?_
      refine x_get C (c := 0) (ci := 12) (k1 := 93) (v1 := .ref (ga g 53)) (enM_12 (c := 0) rfl) (Nat.le_of_ble_eq_true rfl) rfl inX12 (by decide) wf_X12_172 rfl dX12_bringsBack_216 ?_
      refine x_iload_n C 1 rfl rfl dX12_bringsBack_219 ?_
      obtain ⟨hi6, h⟩ := h
      refine x_iald C 0 (c := 53) (enM_20n (c := 53) (n := 2) rfl rfl) (Nat.le_of_ble_eq_true rfl) rfl hi6 dX12_bringsBack_220 ?_
      refine x_put C (c := 0) (ci := 12) (k1 := 67) (u1 := (gi M5 53 x1.toNatClampNeg)) (v1 := .int (gi M5 53 x1.toNatClampNeg)) (ty := .int) (enM_12 (c := 0) rfl) (Nat.le_of_ble_eq_true rfl) rfl inX12 (by decide) (stX12_67 _ _ _) tyX12 tyX12_ok nmX12 wf_X12_538 rfl rfl rfl rfl (Nat.le_of_ble_eq_true rfl) dX12_bringsBack_221 ?_
      refine x_nmM (fun M7 eM7 => ?_)
      replace h := h M7 eM7
      refine x_aload_n C 0 rfl rfl dX12_bringsBack_224 ?_
      refine x_aload_n C 0 rfl rfl dX12_bringsBack_225 ?_
      refine x_get C (c := 0) (ci := 12) (k1 := 94) (v1 := .ref (ga g 54)) (enM_12 (c := 0) rfl) (Nat.le_of_ble_eq_true rfl) rfl inX12 (by decide) wf_X12_175 rfl dX12_bringsBack_226 ?_
      refine x_iload_n C 1 rfl rfl dX12_bringsBack_229 ?_
      obtain ⟨hi8, h⟩ := h
      refine x_iald C 0 (c := 54) (enM_20n (c := 54) (n := 2) rfl rfl) (Nat.le_of_ble_eq_true rfl) rfl hi8 dX12_bringsBack_230 ?_
      refine x_put C (c := 0) (ci := 12) (k1 := 2) (u1 := (gi M7 54 x1.toNatClampNeg)) (v1 := .int (gi M7 54 x1.toNatClampNeg)) (ty := .int) (enM_12 (c := 0) rfl) (Nat.le_of_ble_eq_true rfl) rfl inX12 (by decide) (stX12_2 _ _ _) tyX12 tyX12_ok nmX12 wf_X12_13 rfl rfl rfl rfl (Nat.le_of_ble_eq_true rfl) dX12_bringsBack_231 ?_
      refine x_nmM (fun M9 eM9 => ?_)
      replace h := h M9 eM9
      exact x_vret C dX12_bringsBack_234 ⟨rfl, h⟩
    · replace h := x_iff hq1 h
      refine x_bipush C (v1 := 10) dX12_bringsBack_121 (by decide) ?_
      refine x_iload_n C 1 rfl rfl dX12_bringsBack_123 ?_
      refine x_imul C dX12_bringsBack_124 ?_
      refine x_iload_n C 2 rfl rfl dX12_bringsBack_125 ?_
      refine x_iadd C dX12_bringsBack_126 ?_
      refine x_nm (fun v10 ev10 => ?_)
      replace h := h v10 ev10
      refine x_istore_n C (L' := [(3, .int v10), (0, .ref (ga g 0)), (1, .int x1), (2, .int x2)]) rfl rfl (Nat.le_of_ble_eq_true rfl) dX12_bringsBack_127 ?_
      refine x_aload_n C 1 rfl rfl dX12_bringsBack_128 ?_
      refine x_get C (c := 0) (ci := 12) (k1 := 61) (v1 := .ref (ga g 35)) (enM_12 (c := 0) rfl) (Nat.le_of_ble_eq_true rfl) rfl inX12 (by decide) wf_X12_118 rfl dX12_bringsBack_129 ?_
      refine x_iload_n C 3 rfl rfl dX12_bringsBack_132 ?_
      refine x_aload_n C 1 rfl rfl dX12_bringsBack_133 ?_
      refine x_get C (c := 0) (ci := 12) (k1 := 86) (v1 := .ref (ga g 46)) (enM_12 (c := 0) rfl) (Nat.le_of_ble_eq_true rfl) rfl inX12 (by decide) wf_X12_151 rfl dX12_bringsBack_134 ?_
      refine x_iload_n C 0 rfl rfl dX12_bringsBack_137 ?_
      obtain ⟨hi11, h⟩ := h
      refine x_zald C 2 (c := 46) (enM_24n (c := 46) (n := 20) rfl rfl) (Nat.le_of_ble_eq_true rfl) rfl hi11 dX12_bringsBack_138 ?_
      obtain ⟨hi12, h⟩ := h
      refine x_zast C 2 (c := 35) (enM_24n (c := 35) (n := 10) rfl rfl) (Nat.le_of_ble_eq_true rfl) rfl hi12 dX12_bringsBack_139 ?_
      refine x_nmM (fun M13 eM13 => ?_)
      replace h := h M13 eM13
      refine x_aload_n C 1 rfl rfl dX12_bringsBack_140 ?_
      refine x_get C (c := 0) (ci := 12) (k1 := 62) (v1 := .ref (ga g 36)) (enM_12 (c := 0) rfl) (Nat.le_of_ble_eq_true rfl) rfl inX12 (by decide) wf_X12_121 rfl dX12_bringsBack_141 ?_
      refine x_iload_n C 3 rfl rfl dX12_bringsBack_144 ?_
      refine x_aload_n C 1 rfl rfl dX12_bringsBack_145 ?_
      refine x_get C (c := 0) (ci := 12) (k1 := 87) (v1 := .ref (ga g 47)) (enM_12 (c := 0) rfl) (Nat.le_of_ble_eq_true rfl) rfl inX12 (by decide) wf_X12_154 rfl dX12_bringsBack_146 ?_
      refine x_iload_n C 0 rfl rfl dX12_bringsBack_149 ?_
      obtain ⟨hi14, h⟩ := h
      refine x_iald C 0 (c := 47) (enM_20n (c := 47) (n := 20) rfl rfl) (Nat.le_of_ble_eq_true rfl) rfl hi14 dX12_bringsBack_150 ?_
      obtain ⟨hi15, h⟩ := h
      refine x_iast C 0 (c := 36) (enM_20n (c := 36) (n := 10) rfl rfl) (Nat.le_of_ble_eq_true rfl) rfl hi15 dX12_bringsBack_151 ?_
      refine x_nmM (fun M16 eM16 => ?_)
      replace h := h M16 eM16
      refine x_aload_n C 1 rfl rfl dX12_bringsBack_152 ?_
      refine x_get C (c := 0) (ci := 12) (k1 := 63) (v1 := .ref (ga g 37)) (enM_12 (c := 0) rfl) (Nat.le_of_ble_eq_true rfl) rfl inX12 (by decide) wf_X12_124 rfl dX12_bringsBack_153 ?_
      refine x_iload_n C 3 rfl rfl dX12_bringsBack_156 ?_
      refine x_aload_n C 1 rfl rfl dX12_bringsBack_157 ?_
      refine x_get C (c := 0) (ci := 12) (k1 := 88) (v1 := .ref (ga g 48)) (enM_12 (c := 0) rfl) (Nat.le_of_ble_eq_true rfl) rfl inX12 (by decide) wf_X12_157 rfl dX12_bringsBack_158 ?_
      refine x_iload_n C 0 rfl rfl dX12_bringsBack_161 ?_
      obtain ⟨hi17, h⟩ := h
      refine x_iald C 0 (c := 48) (enM_20n (c := 48) (n := 20) rfl rfl) (Nat.le_of_ble_eq_true rfl) rfl hi17 dX12_bringsBack_162 ?_
      obtain ⟨hi18, h⟩ := h
      refine x_iast C 0 (c := 37) (enM_20n (c := 37) (n := 10) rfl rfl) (Nat.le_of_ble_eq_true rfl) rfl hi18 dX12_bringsBack_163 ?_
      refine x_nmM (fun M19 eM19 => ?_)
      replace h := h M19 eM19
      refine x_aload_n C 1 rfl rfl dX12_bringsBack_164 ?_
      refine x_get C (c := 0) (ci := 12) (k1 := 64) (v1 := .ref (ga g 38)) (enM_12 (c := 0) rfl) (Nat.le_of_ble_eq_true rfl) rfl inX12 (by decide) wf_X12_127 rfl dX12_bringsBack_165 ?_
      refine x_iload_n C 3 rfl rfl dX12_bringsBack_168 ?_
      refine x_aload_n C 1 rfl rfl dX12_bringsBack_169 ?_
      refine x_get C (c := 0) (ci := 12) (k1 := 89) (v1 := .ref (ga g 49)) (enM_12 (c := 0) rfl) (Nat.le_of_ble_eq_true rfl) rfl inX12 (by decide) wf_X12_160 rfl dX12_bringsBack_170 ?_
      refine x_iload_n C 0 rfl rfl dX12_bringsBack_173 ?_
      obtain ⟨hi20, h⟩ := h
      refine x_iald C 0 (c := 49) (enM_20n (c := 49) (n := 20) rfl rfl) (Nat.le_of_ble_eq_true rfl) rfl hi20 dX12_bringsBack_174 ?_
      obtain ⟨hi21, h⟩ := h
      refine x_iast C 0 (c := 38) (enM_20n (c := 38) (n := 10) rfl rfl) (Nat.le_of_ble_eq_true rfl) rfl hi21 dX12_bringsBack_175 ?_
      refine x_nmM (fun M22 eM22 => ?_)
      replace h := h M22 eM22
      refine x_aload_n C 1 rfl rfl dX12_bringsBack_176 ?_
      refine x_get C (c := 0) (ci := 12) (k1 := 54) (v1 := .ref (ga g 28)) (enM_12 (c := 0) rfl) (Nat.le_of_ble_eq_true rfl) rfl inX12 (by decide) wf_X12_97 rfl dX12_bringsBack_177 ?_
      refine x_iload_n C 3 rfl rfl dX12_bringsBack_180 ?_
      refine x_aload_n C 1 rfl rfl dX12_bringsBack_181 ?_
      refine x_get C (c := 0) (ci := 12) (k1 := 90) (v1 := .ref (ga g 50)) (enM_12 (c := 0) rfl) (Nat.le_of_ble_eq_true rfl) rfl inX12 (by decide) wf_X12_163 rfl dX12_bringsBack_182 ?_
      refine x_iload_n C 0 rfl rfl dX12_bringsBack_185 ?_
      obtain ⟨hi23, h⟩ := h
      refine x_iald C 0 (c := 50) (enM_20n (c := 50) (n := 20) rfl rfl) (Nat.le_of_ble_eq_true rfl) rfl hi23 dX12_bringsBack_186 ?_
      obtain ⟨hi24, h⟩ := h
      refine x_iast C 0 (c := 28) (enM_20n (c := 28) (n := 10) rfl rfl) (Nat.le_of_ble_eq_true rfl) rfl hi24 dX12_bringsBack_187 ?_
      refine x_nmM (fun M25 eM25 => ?_)
      replace h := h M25 eM25
      obtain ⟨v26, ev26⟩ : ∃ z : Int32, z = x2 + 1 := ⟨_, rfl⟩
      replace h := h v26 ev26
      refine x_iinc C 3 (v1 := v26) (L' := [(2, .int v26), (3, .int v10), (0, .ref (ga g 0)), (1, .int x1)]) rfl (by rw [ev26]; rfl) rfl (Nat.le_of_ble_eq_true rfl) dX12_bringsBack_188 ?_
      refine x_goto C (tgt := 115) dX12_bringsBack_191 (by decide) ?_
      refine x_loc (L' := [(0, .ref (ga g 0)), (1, .int x1), (2, .int v26)]) [2, 3, 0] rfl ?_
      exact ih _ _ _  h
set_option maxHeartbeats 4000000 in
set_option maxRecDepth 100000 in
theorem tX12_bringsBack_94 {g : xG} (hg : x_inj (WM g))  {x : xCx}  {K2 : Int32 → Int32 → xMem → Prop} {post : xMem → Prop} (C : xOk (WM g) x cX12_bringsBack RX12 4 none (rm_X12_bringsBack) (pV post))  (hK2 : ∀ (x1 : Int32) (x2 : Int32) (M : xMem), K2 x1 x2 M → xW (WM g) x 4 2 [(0, .ref (ga g 0)), (1, .int x1), (2, .int x2)] [] M) (x1 : Int32) (x2 : Int32) (x3 : Int32) (s0 : Int32) (s1 : Int32) (M : xMem)  (h : wX12_bringsBack_94 K2 post x1 x2 x3 s0 s1 M) : xW (WM g) x 4 94 [(0, .ref (ga g 0)), (1, .int x1), (2, .int x2), (3, .int x3)] [.int s0, .int s1, .ref (ga g 33)] M := by
  unfold wX12_bringsBack_94 at h
  obtain ⟨hi1, h⟩ := h
  refine x_iast C 0 (c := 33) (enM_20n (c := 33) (n := 4) rfl rfl) (Nat.le_of_ble_eq_true rfl) rfl hi1 dX12_bringsBack_94 ?_
  refine x_nmM (fun M2 eM2 => ?_)
  replace h := h M2 eM2
  refine x_aload_n C 0 rfl rfl dX12_bringsBack_95 ?_
  refine x_get C (c := 0) (ci := 12) (k1 := 60) (v1 := .ref (ga g 34)) (enM_12 (c := 0) rfl) (Nat.le_of_ble_eq_true rfl) rfl inX12 (by decide) wf_X12_115 rfl dX12_bringsBack_96 ?_
  refine x_iload_n C 2 rfl rfl dX12_bringsBack_99 ?_
  refine x_aload_n C 0 rfl rfl dX12_bringsBack_100 ?_
  refine x_get C (c := 0) (ci := 12) (k1 := 85) (v1 := .ref (ga g 45)) (enM_12 (c := 0) rfl) (Nat.le_of_ble_eq_true rfl) rfl inX12 (by decide) wf_X12_148 rfl dX12_bringsBack_101 ?_
  refine x_iload_n C 3 rfl rfl dX12_bringsBack_104 ?_
  obtain ⟨hi3, h⟩ := h
  refine x_iald C 0 (c := 45) (enM_20n (c := 45) (n := 8) rfl rfl) (Nat.le_of_ble_eq_true rfl) rfl hi3 dX12_bringsBack_105 ?_
  obtain ⟨hi4, h⟩ := h
  refine x_iast C 0 (c := 34) (enM_20n (c := 34) (n := 4) rfl rfl) (Nat.le_of_ble_eq_true rfl) rfl hi4 dX12_bringsBack_106 ?_
  refine x_nmM (fun M5 eM5 => ?_)
  replace h := h M5 eM5
  obtain ⟨v6, ev6⟩ : ∃ z : Int32, z = x2 + 1 := ⟨_, rfl⟩
  replace h := h v6 ev6
  refine x_iinc C 2 (v1 := v6) (L' := [(2, .int v6), (0, .ref (ga g 0)), (1, .int x1), (3, .int x3)]) rfl (by rw [ev6]; rfl) rfl (Nat.le_of_ble_eq_true rfl) dX12_bringsBack_107 ?_
  refine x_goto C (tgt := 2) dX12_bringsBack_110 (by decide) ?_
  refine x_loc (L' := [(0, .ref (ga g 0)), (1, .int x1), (2, .int v6)]) [1, 2, 0] rfl ?_
  exact hK2 _ _ _  h
set_option maxHeartbeats 4000000 in
set_option maxRecDepth 100000 in
theorem tX12_bringsBack_2 {g : xG} (hg : x_inj (WM g))  {x : xCx}   {post : xMem → Prop} (C : xOk (WM g) x cX12_bringsBack RX12 4 none (rm_X12_bringsBack) (pV post))   : ∀ (n : Nat) (x1 : Int32) (x2 : Int32) (M : xMem), wX12_bringsBack_2 post n x1 x2 M → xW (WM g) x 4 2 [(0, .ref (ga g 0)), (1, .int x1), (2, .int x2)] [] M := by
  intro n
  induction n with
  | zero =>
    intro x1 x2 M  h
    exact h.elim
  | succ n ih =>
    intro x1 x2 M  h
    rw [wX12_bringsBack_2] at h
    refine x_iload_n C 2 rfl rfl dX12_bringsBack_2 ?_
    refine x_iconst C (v1 := 4) dX12_bringsBack_3 (by decide) ?_
    refine x_icmp_ge C (tgt := 113) dX12_bringsBack_4 (by decide) (fun hq1 => ?_) (fun hq1 => ?_)
    · replace h := x_ift hq1 h
      refine x_iconst C (v1 := 0) dX12_bringsBack_113 (by decide) ?_
      refine x_istore_n C (L' := [(2, .int 0), (0, .ref (ga g 0)), (1, .int x1)]) rfl rfl (Nat.le_of_ble_eq_true rfl) dX12_bringsBack_114 ?_
      refine x_loc (L' := [(0, .ref (ga g 0)), (1, .int x1), (2, .int 0)]) [1, 2, 0] rfl ?_
      obtain ⟨n115, h⟩ := h
      exact tX12_bringsBack_115 hg  C   _ _ _ _  h
    · replace h := x_iff hq1 h
      refine x_iconst C (v1 := 4) dX12_bringsBack_7 (by decide) ?_
      refine x_iload_n C 1 rfl rfl dX12_bringsBack_8 ?_
      refine x_imul C dX12_bringsBack_9 ?_
      refine x_iload_n C 2 rfl rfl dX12_bringsBack_10 ?_
      refine x_iadd C dX12_bringsBack_11 ?_
      refine x_nm (fun v2 ev2 => ?_)
      replace h := h v2 ev2
      refine x_istore_n C (L' := [(3, .int v2), (0, .ref (ga g 0)), (1, .int x1), (2, .int x2)]) rfl rfl (Nat.le_of_ble_eq_true rfl) dX12_bringsBack_12 ?_
      refine x_aload_n C 1 rfl rfl dX12_bringsBack_13 ?_
      refine x_get C (c := 0) (ci := 12) (k1 := 56) (v1 := .ref (ga g 30)) (enM_12 (c := 0) rfl) (Nat.le_of_ble_eq_true rfl) rfl inX12 (by decide) wf_X12_103 rfl dX12_bringsBack_14 ?_
      refine x_iload_n C 3 rfl rfl dX12_bringsBack_17 ?_
      refine x_aload_n C 1 rfl rfl dX12_bringsBack_18 ?_
      refine x_get C (c := 0) (ci := 12) (k1 := 81) (v1 := .ref (ga g 41)) (enM_12 (c := 0) rfl) (Nat.le_of_ble_eq_true rfl) rfl inX12 (by decide) wf_X12_136 rfl dX12_bringsBack_19 ?_
      refine x_iload_n C 0 rfl rfl dX12_bringsBack_22 ?_
      obtain ⟨hi3, h⟩ := h
      refine x_zald C 2 (c := 41) (enM_24n (c := 41) (n := 8) rfl rfl) (Nat.le_of_ble_eq_true rfl) rfl hi3 dX12_bringsBack_23 ?_
      obtain ⟨hi4, h⟩ := h
      refine x_zast C 2 (c := 30) (enM_24n (c := 30) (n := 4) rfl rfl) (Nat.le_of_ble_eq_true rfl) rfl hi4 dX12_bringsBack_24 ?_
      refine x_nmM (fun M5 eM5 => ?_)
      replace h := h M5 eM5
      refine x_aload_n C 1 rfl rfl dX12_bringsBack_25 ?_
      refine x_get C (c := 0) (ci := 12) (k1 := 57) (v1 := .ref (ga g 31)) (enM_12 (c := 0) rfl) (Nat.le_of_ble_eq_true rfl) rfl inX12 (by decide) wf_X12_106 rfl dX12_bringsBack_26 ?_
      refine x_iload_n C 3 rfl rfl dX12_bringsBack_29 ?_
      refine x_aload_n C 1 rfl rfl dX12_bringsBack_30 ?_
      refine x_get C (c := 0) (ci := 12) (k1 := 82) (v1 := .ref (ga g 42)) (enM_12 (c := 0) rfl) (Nat.le_of_ble_eq_true rfl) rfl inX12 (by decide) wf_X12_139 rfl dX12_bringsBack_31 ?_
      refine x_iload_n C 0 rfl rfl dX12_bringsBack_34 ?_
      obtain ⟨hi6, h⟩ := h
      refine x_iald C 0 (c := 42) (enM_20n (c := 42) (n := 8) rfl rfl) (Nat.le_of_ble_eq_true rfl) rfl hi6 dX12_bringsBack_35 ?_
      obtain ⟨hi7, h⟩ := h
      refine x_iast C 0 (c := 31) (enM_20n (c := 31) (n := 4) rfl rfl) (Nat.le_of_ble_eq_true rfl) rfl hi7 dX12_bringsBack_36 ?_
      refine x_nmM (fun M8 eM8 => ?_)
      replace h := h M8 eM8
      refine x_aload_n C 1 rfl rfl dX12_bringsBack_37 ?_
      refine x_get C (c := 0) (ci := 12) (k1 := 58) (v1 := .ref (ga g 32)) (enM_12 (c := 0) rfl) (Nat.le_of_ble_eq_true rfl) rfl inX12 (by decide) wf_X12_109 rfl dX12_bringsBack_38 ?_
      refine x_iload_n C 3 rfl rfl dX12_bringsBack_41 ?_
      refine x_aload_n C 1 rfl rfl dX12_bringsBack_42 ?_
      refine x_get C (c := 0) (ci := 12) (k1 := 83) (v1 := .ref (ga g 43)) (enM_12 (c := 0) rfl) (Nat.le_of_ble_eq_true rfl) rfl inX12 (by decide) wf_X12_142 rfl dX12_bringsBack_43 ?_
      refine x_iload_n C 0 rfl rfl dX12_bringsBack_46 ?_
      obtain ⟨hi9, h⟩ := h
      refine x_iald C 0 (c := 43) (enM_20n (c := 43) (n := 8) rfl rfl) (Nat.le_of_ble_eq_true rfl) rfl hi9 dX12_bringsBack_47 ?_
      obtain ⟨hi10, h⟩ := h
      refine x_iast C 0 (c := 32) (enM_20n (c := 32) (n := 4) rfl rfl) (Nat.le_of_ble_eq_true rfl) rfl hi10 dX12_bringsBack_48 ?_
      refine x_nmM (fun M11 eM11 => ?_)
      replace h := h M11 eM11
      refine x_aload_n C 1 rfl rfl dX12_bringsBack_49 ?_
      refine x_get C (c := 0) (ci := 12) (k1 := 59) (v1 := .ref (ga g 33)) (enM_12 (c := 0) rfl) (Nat.le_of_ble_eq_true rfl) rfl inX12 (by decide) wf_X12_112 rfl dX12_bringsBack_50 ?_
      refine x_iload_n C 3 rfl rfl dX12_bringsBack_53 ?_
      refine x_aload_n C 1 rfl rfl dX12_bringsBack_54 ?_
      refine x_get C (c := 0) (ci := 12) (k1 := 84) (v1 := .ref (ga g 44)) (enM_12 (c := 0) rfl) (Nat.le_of_ble_eq_true rfl) rfl inX12 (by decide) wf_X12_145 rfl dX12_bringsBack_55 ?_
      refine x_iload_n C 0 rfl rfl dX12_bringsBack_58 ?_
      obtain ⟨hi12, h⟩ := h
      refine x_iald C 0 (c := 44) (enM_20n (c := 44) (n := 8) rfl rfl) (Nat.le_of_ble_eq_true rfl) rfl hi12 dX12_bringsBack_59 ?_
      refine x_aload_n C 1 rfl rfl dX12_bringsBack_60 ?_
      refine x_get C (c := 0) (ci := 12) (k1 := 11) (v1 := .ref (ga g 3)) (enM_12 (c := 0) rfl) (Nat.le_of_ble_eq_true rfl) rfl inX12 (by decide) wf_X12_21 rfl dX12_bringsBack_61 ?_
      refine x_aload_n C 1 rfl rfl dX12_bringsBack_64 ?_
      refine x_get C (c := 0) (ci := 12) (k1 := 57) (v1 := .ref (ga g 31)) (enM_12 (c := 0) rfl) (Nat.le_of_ble_eq_true rfl) rfl inX12 (by decide) wf_X12_106 rfl dX12_bringsBack_65 ?_
      refine x_iload_n C 3 rfl rfl dX12_bringsBack_68 ?_
      obtain ⟨hi13, h⟩ := h
      refine x_iald C 0 (c := 31) (enM_20n (c := 31) (n := 4) rfl rfl) (Nat.le_of_ble_eq_true rfl) rfl hi13 dX12_bringsBack_69 ?_
      obtain ⟨hi14, h⟩ := h
      refine x_iald C 0 (c := 3) (enM_20n (c := 3) (n := 6) rfl rfl) (Nat.le_of_ble_eq_true rfl) rfl hi14 dX12_bringsBack_70 ?_
      refine x_icmp_ge C (tgt := 83) dX12_bringsBack_71 (by decide) (fun hq15 => ?_) (fun hq15 => ?_)
      · replace h := x_ift hq15 h
        refine x_aload_n C 1 rfl rfl dX12_bringsBack_83 ?_
        refine x_get C (c := 0) (ci := 12) (k1 := 11) (v1 := .ref (ga g 3)) (enM_12 (c := 0) rfl) (Nat.le_of_ble_eq_true rfl) rfl inX12 (by decide) wf_X12_21 rfl dX12_bringsBack_84 ?_
        refine x_aload_n C 1 rfl rfl dX12_bringsBack_87 ?_
        refine x_get C (c := 0) (ci := 12) (k1 := 57) (v1 := .ref (ga g 31)) (enM_12 (c := 0) rfl) (Nat.le_of_ble_eq_true rfl) rfl inX12 (by decide) wf_X12_106 rfl dX12_bringsBack_88 ?_
        refine x_iload_n C 3 rfl rfl dX12_bringsBack_91 ?_
        obtain ⟨hi16, h⟩ := h
        refine x_iald C 0 (c := 31) (enM_20n (c := 31) (n := 4) rfl rfl) (Nat.le_of_ble_eq_true rfl) rfl hi16 dX12_bringsBack_92 ?_
        obtain ⟨hi17, h⟩ := h
        refine x_iald C 0 (c := 3) (enM_20n (c := 3) (n := 6) rfl rfl) (Nat.le_of_ble_eq_true rfl) rfl hi17 dX12_bringsBack_93 ?_
        refine x_loc (L' := [(0, .ref (ga g 0)), (1, .int x1), (2, .int x2), (3, .int v2)]) [1, 2, 3, 0] rfl ?_
        exact tX12_bringsBack_94 hg  C  ih _ _ _ _ _ _  h
      · replace h := x_iff hq15 h
        refine x_aload_n C 1 rfl rfl dX12_bringsBack_74 ?_
        refine x_get C (c := 0) (ci := 12) (k1 := 84) (v1 := .ref (ga g 44)) (enM_12 (c := 0) rfl) (Nat.le_of_ble_eq_true rfl) rfl inX12 (by decide) wf_X12_145 rfl dX12_bringsBack_75 ?_
        refine x_iload_n C 0 rfl rfl dX12_bringsBack_78 ?_
        obtain ⟨hi18, h⟩ := h
        refine x_iald C 0 (c := 44) (enM_20n (c := 44) (n := 8) rfl rfl) (Nat.le_of_ble_eq_true rfl) rfl hi18 dX12_bringsBack_79 ?_
        refine x_goto C (tgt := 94) dX12_bringsBack_80 (by decide) ?_
        refine x_loc (L' := [(0, .ref (ga g 0)), (1, .int x1), (2, .int x2), (3, .int v2)]) [1, 2, 3, 0] rfl ?_
        exact tX12_bringsBack_94 hg  C  ih _ _ _ _ _ _  h
set_option maxHeartbeats 4000000 in
set_option maxRecDepth 100000 in
theorem tX12_bringsBack {g : xG} (hg : x_inj (WM g))  (l : Launch) (a0 : Int32) (M : xMem) (post : xMem → Prop)  (h : wX12_bringsBack a0 M post) : xMet (WM g) l yX12_bringsBack cX12_bringsBack 4 none (rm_X12_bringsBack) [.ref (ga g 0), .int a0] M (pV post) := by
  refine x_enter (own := RX12) (L0 := [(0, .ref (ga g 0)), (1, .int a0)]) (by decide +kernel) rfl hg (x_stM g) (Nat.le_of_ble_eq_true rfl) rfl (fun x hl C => ?_)
  unfold wX12_bringsBack at h
  refine x_iconst C (v1 := 0) dX12_bringsBack_0 (by decide) ?_
  refine x_istore_n C (L' := [(2, .int 0), (0, .ref (ga g 0)), (1, .int a0)]) rfl rfl (Nat.le_of_ble_eq_true rfl) dX12_bringsBack_1 ?_
  refine x_loc (L' := [(0, .ref (ga g 0)), (1, .int a0), (2, .int 0)]) [1, 2, 0] rfl ?_
  obtain ⟨n2, h⟩ := h
  exact tX12_bringsBack_2 hg  C   _ _ _ _  h
set_option maxHeartbeats 4000000 in
set_option maxRecDepth 100000 in
theorem tX12_triedBy_234 {g : xG} (hg : x_inj (WM g))  {x : xCx}   {post : Int32 → xMem → Prop} (C : xOk (WM g) x cX12_triedBy RX12 5 (some .int) (rm_X12_triedBy) (pI post))   (x4 : Int32) (M : xMem)  (h : wX12_triedBy_234 post x4 M) : xW (WM g) x 5 234 [(0, .ref (ga g 0)), (4, .int x4)] [] M := by
  unfold wX12_triedBy_234 at h
  refine x_aload_n C 0 rfl rfl dX12_triedBy_234 ?_
  refine x_iconst C (v1 := 0) dX12_triedBy_235 (by decide) ?_
  refine x_callV C (st := []) (As := [.int 0]) (c := 0) (ci := 12) (enM_12 (c := 0) rfl) (Nat.le_of_ble_eq_true rfl) rfl (tX12_bringsBack hg _ _ _ _  h) wm_X12_569 wi_X12_bringsBack wv_X12_bringsBack wz_X12 wc_X12_bringsBack rfl yd_X12_bringsBack rfl ⟨rfl, rfl⟩ ⟨Nat.le_of_ble_eq_true rfl, Nat.le_of_ble_eq_true rfl⟩ (Nat.le_of_ble_eq_true rfl) rfl dX12_triedBy_236 (x_kv (fun M1 h => ?_))
  refine x_iload C 1 rfl dX12_triedBy_239 ?_
  exact x_iret C dX12_triedBy_241 ⟨_, rfl, h⟩
set_option maxHeartbeats 4000000 in
set_option maxRecDepth 100000 in
theorem tX12_triedBy_232 {g : xG} (hg : x_inj (WM g))  {x : xCx}   {post : Int32 → xMem → Prop} (C : xOk (WM g) x cX12_triedBy RX12 5 (some .int) (rm_X12_triedBy) (pI post))   (s0 : Int32) (M : xMem)  (h : wX12_triedBy_232 post s0 M) : xW (WM g) x 5 232 [(0, .ref (ga g 0))] [.int s0] M := by
  unfold wX12_triedBy_232 at h
  refine x_istore C (L' := [(4, .int s0), (0, .ref (ga g 0))]) rfl (Nat.le_of_ble_eq_true rfl) dX12_triedBy_232 ?_
  refine x_loc (L' := [(0, .ref (ga g 0)), (4, .int s0)]) [1, 0] rfl ?_
  exact tX12_triedBy_234 hg  C   _ _  h
set_option maxHeartbeats 4000000 in
set_option maxRecDepth 100000 in
theorem tX12_triedBy_59 {g : xG} (hg : x_inj (WM g))  {x : xCx}   {post : Int32 → xMem → Prop} (C : xOk (WM g) x cX12_triedBy RX12 5 (some .int) (rm_X12_triedBy) (pI post))   (x1 : Int32) (x2 : Int32) (x3 : Int32) (M : xMem)  (h : wX12_triedBy_59 post x1 x2 x3 M) : xW (WM g) x 5 59 [(0, .ref (ga g 0)), (1, .int x1), (2, .int x2), (3, .int x3)] [] M := by
  unfold wX12_triedBy_59 at h
  refine x_aload_n C 0 rfl rfl dX12_triedBy_59 ?_
  refine x_iconst C (v1 := 0) dX12_triedBy_60 (by decide) ?_
  refine x_callV C (st := []) (As := [.int 0]) (c := 0) (ci := 12) (enM_12 (c := 0) rfl) (Nat.le_of_ble_eq_true rfl) rfl (tX12_laysAside hg _ _ _ _  h) wm_X12_566 wi_X12_laysAside wv_X12_laysAside wz_X12 wc_X12_laysAside rfl yd_X12_laysAside rfl ⟨rfl, rfl⟩ ⟨Nat.le_of_ble_eq_true rfl, Nat.le_of_ble_eq_true rfl⟩ (Nat.le_of_ble_eq_true rfl) rfl dX12_triedBy_61 (x_kv (fun M1 h => ?_))
  refine x_aload_n C 0 rfl rfl dX12_triedBy_64 ?_
  refine x_iload_n C 1 rfl rfl dX12_triedBy_65 ?_
  refine x_put C (c := 0) (ci := 12) (k1 := 27) (u1 := x1) (v1 := .int x1) (ty := .int) (enM_12 (c := 0) rfl) (Nat.le_of_ble_eq_true rfl) rfl inX12 (by decide) (stX12_27 _ _ _) tyX12 tyX12_ok nmX12 wf_X12_439 rfl rfl rfl rfl (Nat.le_of_ble_eq_true rfl) dX12_triedBy_66 ?_
  refine x_nmM (fun M2 eM2 => ?_)
  replace h := h M2 eM2
  refine x_aload_n C 0 rfl rfl dX12_triedBy_69 ?_
  refine x_iload_n C 2 rfl rfl dX12_triedBy_70 ?_
  refine x_callV C (st := []) (As := [.int x2]) (c := 0) (ci := 12) (enM_12 (c := 0) rfl) (Nat.le_of_ble_eq_true rfl) rfl (tX12_go hg _ _ _ _  h) wm_X12_558 wi_X12_go wv_X12_go wz_X12 wc_X12_go rfl yd_X12_go rfl ⟨rfl, rfl⟩ ⟨Nat.le_of_ble_eq_true rfl, Nat.le_of_ble_eq_true rfl⟩ (Nat.le_of_ble_eq_true rfl) rfl dX12_triedBy_71 (x_kv (fun M3 h => ?_))
  refine x_aload_n C 0 rfl rfl dX12_triedBy_74 ?_
  refine x_iconst C (v1 := 0) dX12_triedBy_75 (by decide) ?_
  refine x_put C (c := 0) (ci := 12) (k1 := 27) (u1 := 0) (v1 := .int 0) (ty := .int) (enM_12 (c := 0) rfl) (Nat.le_of_ble_eq_true rfl) rfl inX12 (by decide) (stX12_27 _ _ _) tyX12 tyX12_ok nmX12 wf_X12_439 rfl rfl rfl rfl (Nat.le_of_ble_eq_true rfl) dX12_triedBy_76 ?_
  refine x_nmM (fun M4 eM4 => ?_)
  replace h := h M4 eM4
  refine x_iload_n C 3 rfl rfl dX12_triedBy_79 ?_
  by_cases hq5 : x3 = 0
  · replace h := x_ift hq5 h
    refine x_tabIn C hq5 (tgt := 124) dX12_triedBy_80 (by decide) (by decide) rfl (by decide) ?_
    refine x_aload_n C 0 rfl rfl dX12_triedBy_124 ?_
    refine x_get C (c := 0) (ci := 12) (k1 := 71) (v1 := .int (gi M4 0 71)) (enM_12 (c := 0) rfl) (Nat.le_of_ble_eq_true rfl) rfl inX12 (by decide) wf_X12_487 rfl dX12_triedBy_125 ?_
    refine x_nm (fun v6 ev6 => ?_)
    replace h := h v6 ev6
    refine x_istore C (L' := [(4, .int v6), (0, .ref (ga g 0)), (1, .int x1), (2, .int x2), (3, .int x3)]) rfl (Nat.le_of_ble_eq_true rfl) dX12_triedBy_128 ?_
    refine x_goto C (tgt := 234) dX12_triedBy_130 (by decide) ?_
    refine x_loc (L' := [(0, .ref (ga g 0)), (4, .int v6)]) [1, 0] rfl ?_
    exact tX12_triedBy_234 hg  C   _ _  h
  · replace h := x_iff hq5 h
    by_cases hq7 : x3 = 1
    · replace h := x_ift hq7 h
      refine x_tabIn C hq7 (tgt := 133) dX12_triedBy_80 (by decide) (by decide) rfl (by decide) ?_
      refine x_aload_n C 0 rfl rfl dX12_triedBy_133 ?_
      refine x_get C (c := 0) (ci := 12) (k1 := 72) (v1 := .int (gi M4 0 72)) (enM_12 (c := 0) rfl) (Nat.le_of_ble_eq_true rfl) rfl inX12 (by decide) wf_X12_490 rfl dX12_triedBy_134 ?_
      refine x_nm (fun v8 ev8 => ?_)
      replace h := h v8 ev8
      refine x_istore C (L' := [(4, .int v8), (0, .ref (ga g 0)), (1, .int x1), (2, .int x2), (3, .int x3)]) rfl (Nat.le_of_ble_eq_true rfl) dX12_triedBy_137 ?_
      refine x_goto C (tgt := 234) dX12_triedBy_139 (by decide) ?_
      refine x_loc (L' := [(0, .ref (ga g 0)), (4, .int v8)]) [1, 0] rfl ?_
      exact tX12_triedBy_234 hg  C   _ _  h
    · replace h := x_iff hq7 h
      by_cases hq9 : x3 = 2
      · replace h := x_ift hq9 h
        refine x_tabIn C hq9 (tgt := 142) dX12_triedBy_80 (by decide) (by decide) rfl (by decide) ?_
        refine x_aload_n C 0 rfl rfl dX12_triedBy_142 ?_
        refine x_get C (c := 0) (ci := 12) (k1 := 73) (v1 := .int (gi M4 0 73)) (enM_12 (c := 0) rfl) (Nat.le_of_ble_eq_true rfl) rfl inX12 (by decide) wf_X12_496 rfl dX12_triedBy_143 ?_
        refine x_nm (fun v10 ev10 => ?_)
        replace h := h v10 ev10
        refine x_istore C (L' := [(4, .int v10), (0, .ref (ga g 0)), (1, .int x1), (2, .int x2), (3, .int x3)]) rfl (Nat.le_of_ble_eq_true rfl) dX12_triedBy_146 ?_
        refine x_goto C (tgt := 234) dX12_triedBy_148 (by decide) ?_
        refine x_loc (L' := [(0, .ref (ga g 0)), (4, .int v10)]) [1, 0] rfl ?_
        exact tX12_triedBy_234 hg  C   _ _  h
      · replace h := x_iff hq9 h
        by_cases hq11 : x3 = 3
        · replace h := x_ift hq11 h
          refine x_tabIn C hq11 (tgt := 151) dX12_triedBy_80 (by decide) (by decide) rfl (by decide) ?_
          refine x_aload_n C 0 rfl rfl dX12_triedBy_151 ?_
          refine x_get C (c := 0) (ci := 12) (k1 := 74) (v1 := .int (gi M4 0 74)) (enM_12 (c := 0) rfl) (Nat.le_of_ble_eq_true rfl) rfl inX12 (by decide) wf_X12_517 rfl dX12_triedBy_152 ?_
          refine x_nm (fun v12 ev12 => ?_)
          replace h := h v12 ev12
          refine x_istore C (L' := [(4, .int v12), (0, .ref (ga g 0)), (1, .int x1), (2, .int x2), (3, .int x3)]) rfl (Nat.le_of_ble_eq_true rfl) dX12_triedBy_155 ?_
          refine x_goto C (tgt := 234) dX12_triedBy_157 (by decide) ?_
          refine x_loc (L' := [(0, .ref (ga g 0)), (4, .int v12)]) [1, 0] rfl ?_
          exact tX12_triedBy_234 hg  C   _ _  h
        · replace h := x_iff hq11 h
          by_cases hq13 : x3 = 4
          · replace h := x_ift hq13 h
            refine x_tabIn C hq13 (tgt := 160) dX12_triedBy_80 (by decide) (by decide) rfl (by decide) ?_
            refine x_aload_n C 0 rfl rfl dX12_triedBy_160 ?_
            refine x_get C (c := 0) (ci := 12) (k1 := 75) (v1 := .int (gi M4 0 75)) (enM_12 (c := 0) rfl) (Nat.le_of_ble_eq_true rfl) rfl inX12 (by decide) wf_X12_529 rfl dX12_triedBy_161 ?_
            refine x_nm (fun v14 ev14 => ?_)
            replace h := h v14 ev14
            refine x_istore C (L' := [(4, .int v14), (0, .ref (ga g 0)), (1, .int x1), (2, .int x2), (3, .int x3)]) rfl (Nat.le_of_ble_eq_true rfl) dX12_triedBy_164 ?_
            refine x_goto C (tgt := 234) dX12_triedBy_166 (by decide) ?_
            refine x_loc (L' := [(0, .ref (ga g 0)), (4, .int v14)]) [1, 0] rfl ?_
            exact tX12_triedBy_234 hg  C   _ _  h
          · replace h := x_iff hq13 h
            by_cases hq15 : x3 = 5
            · replace h := x_ift hq15 h
              refine x_tabIn C hq15 (tgt := 169) dX12_triedBy_80 (by decide) (by decide) rfl (by decide) ?_
              refine x_aload_n C 0 rfl rfl dX12_triedBy_169 ?_
              refine x_get C (c := 0) (ci := 12) (k1 := 76) (v1 := .int (gi M4 0 76)) (enM_12 (c := 0) rfl) (Nat.le_of_ble_eq_true rfl) rfl inX12 (by decide) wf_X12_541 rfl dX12_triedBy_170 ?_
              refine x_nm (fun v16 ev16 => ?_)
              replace h := h v16 ev16
              refine x_istore C (L' := [(4, .int v16), (0, .ref (ga g 0)), (1, .int x1), (2, .int x2), (3, .int x3)]) rfl (Nat.le_of_ble_eq_true rfl) dX12_triedBy_173 ?_
              refine x_goto C (tgt := 234) dX12_triedBy_175 (by decide) ?_
              refine x_loc (L' := [(0, .ref (ga g 0)), (4, .int v16)]) [1, 0] rfl ?_
              exact tX12_triedBy_234 hg  C   _ _  h
            · replace h := x_iff hq15 h
              by_cases hq17 : x3 = 6
              · replace h := x_ift hq17 h
                refine x_tabIn C hq17 (tgt := 178) dX12_triedBy_80 (by decide) (by decide) rfl (by decide) ?_
                refine x_aload_n C 0 rfl rfl dX12_triedBy_178 ?_
                refine x_get C (c := 0) (ci := 12) (k1 := 77) (v1 := .int (gi M4 0 77)) (enM_12 (c := 0) rfl) (Nat.le_of_ble_eq_true rfl) rfl inX12 (by decide) wf_X12_535 rfl dX12_triedBy_179 ?_
                refine x_nm (fun v18 ev18 => ?_)
                replace h := h v18 ev18
                refine x_istore C (L' := [(4, .int v18), (0, .ref (ga g 0)), (1, .int x1), (2, .int x2), (3, .int x3)]) rfl (Nat.le_of_ble_eq_true rfl) dX12_triedBy_182 ?_
                refine x_goto C (tgt := 234) dX12_triedBy_184 (by decide) ?_
                refine x_loc (L' := [(0, .ref (ga g 0)), (4, .int v18)]) [1, 0] rfl ?_
                exact tX12_triedBy_234 hg  C   _ _  h
              · replace h := x_iff hq17 h
                refine x_tabOut C (tgt := 187) dX12_triedBy_80 (by have t0 := x_i32ne hq5; have u0 : (0 : Int32).toInt = 0 := (by decide); have t1 := x_i32ne hq7; have u1 : (1 : Int32).toInt = 1 := (by decide); have t2 := x_i32ne hq9; have u2 : (2 : Int32).toInt = 2 := (by decide); have t3 := x_i32ne hq11; have u3 : (3 : Int32).toInt = 3 := (by decide); have t4 := x_i32ne hq13; have u4 : (4 : Int32).toInt = 4 := (by decide); have t5 := x_i32ne hq15; have u5 : (5 : Int32).toInt = 5 := (by decide); have t6 := x_i32ne hq17; have u6 : (6 : Int32).toInt = 6 := (by decide); omega) (by decide) ?_
                refine x_iload_n C 3 rfl rfl dX12_triedBy_187 ?_
                refine x_bipush C (v1 := 20) dX12_triedBy_188 (by decide) ?_
                refine x_icmp_ge C (tgt := 205) dX12_triedBy_190 (by decide) (fun hq19 => ?_) (fun hq19 => ?_)
                · replace h := x_ift hq19 h
                  refine x_iload_n C 3 rfl rfl dX12_triedBy_205 ?_
                  refine x_bipush C (v1 := 30) dX12_triedBy_206 (by decide) ?_
                  refine x_icmp_ge C (tgt := 223) dX12_triedBy_208 (by decide) (fun hq20 => ?_) (fun hq20 => ?_)
                  · replace h := x_ift hq20 h
                    refine x_aload_n C 0 rfl rfl dX12_triedBy_223 ?_
                    refine x_get C (c := 0) (ci := 12) (k1 := 64) (v1 := .ref (ga g 38)) (enM_12 (c := 0) rfl) (Nat.le_of_ble_eq_true rfl) rfl inX12 (by decide) wf_X12_127 rfl dX12_triedBy_224 ?_
                    refine x_iload_n C 3 rfl rfl dX12_triedBy_227 ?_
                    refine x_bipush C (v1 := 30) dX12_triedBy_228 (by decide) ?_
                    refine x_isub C dX12_triedBy_230 ?_
                    obtain ⟨hi21, h⟩ := h
                    refine x_iald C 0 (c := 38) (enM_20n (c := 38) (n := 10) rfl rfl) (Nat.le_of_ble_eq_true rfl) rfl hi21 dX12_triedBy_231 ?_
                    refine x_loc (L' := [(0, .ref (ga g 0))]) [0] rfl ?_
                    exact tX12_triedBy_232 hg  C   _ _  h
                  · replace h := x_iff hq20 h
                    refine x_aload_n C 0 rfl rfl dX12_triedBy_211 ?_
                    refine x_get C (c := 0) (ci := 12) (k1 := 60) (v1 := .ref (ga g 34)) (enM_12 (c := 0) rfl) (Nat.le_of_ble_eq_true rfl) rfl inX12 (by decide) wf_X12_115 rfl dX12_triedBy_212 ?_
                    refine x_iload_n C 3 rfl rfl dX12_triedBy_215 ?_
                    refine x_bipush C (v1 := 20) dX12_triedBy_216 (by decide) ?_
                    refine x_isub C dX12_triedBy_218 ?_
                    obtain ⟨hi22, h⟩ := h
                    refine x_iald C 0 (c := 34) (enM_20n (c := 34) (n := 4) rfl rfl) (Nat.le_of_ble_eq_true rfl) rfl hi22 dX12_triedBy_219 ?_
                    refine x_goto C (tgt := 232) dX12_triedBy_220 (by decide) ?_
                    refine x_loc (L' := [(0, .ref (ga g 0))]) [0] rfl ?_
                    exact tX12_triedBy_232 hg  C   _ _  h
                · replace h := x_iff hq19 h
                  refine x_aload_n C 0 rfl rfl dX12_triedBy_193 ?_
                  refine x_get C (c := 0) (ci := 12) (k1 := 58) (v1 := .ref (ga g 32)) (enM_12 (c := 0) rfl) (Nat.le_of_ble_eq_true rfl) rfl inX12 (by decide) wf_X12_109 rfl dX12_triedBy_194 ?_
                  refine x_iload_n C 3 rfl rfl dX12_triedBy_197 ?_
                  refine x_bipush C (v1 := 10) dX12_triedBy_198 (by decide) ?_
                  refine x_isub C dX12_triedBy_200 ?_
                  obtain ⟨hi23, h⟩ := h
                  refine x_iald C 0 (c := 32) (enM_20n (c := 32) (n := 4) rfl rfl) (Nat.le_of_ble_eq_true rfl) rfl hi23 dX12_triedBy_201 ?_
                  refine x_goto C (tgt := 232) dX12_triedBy_202 (by decide) ?_
                  refine x_loc (L' := [(0, .ref (ga g 0))]) [0] rfl ?_
                  exact tX12_triedBy_232 hg  C   _ _  h
set_option maxHeartbeats 4000000 in
set_option maxRecDepth 100000 in
theorem tX12_triedBy {g : xG} (hg : x_inj (WM g))  (l : Launch) (a0 : Int32) (a1 : Int32) (a2 : Int32) (M : xMem) (post : Int32 → xMem → Prop)  (h : wX12_triedBy a0 a1 a2 M post) : xMet (WM g) l yX12_triedBy cX12_triedBy 5 (some .int) (rm_X12_triedBy) [.ref (ga g 0), .int a0, .int a1, .int a2] M (pI post) := by
  refine x_enter (own := RX12) (L0 := [(0, .ref (ga g 0)), (1, .int a0), (2, .int a1), (3, .int a2)]) (by decide +kernel) rfl hg (x_stM g) (Nat.le_of_ble_eq_true rfl) rfl (fun x hl C => ?_)
  unfold wX12_triedBy at h
  refine x_iload_n C 2 rfl rfl dX12_triedBy_0 ?_
  refine x_i2l C dX12_triedBy_1 ?_
  refine x_lconst C (v1 := 1) dX12_triedBy_2 (by decide) ?_
  refine x_ldc2 C (v1 := 60) (wcl_X12_556) dX12_triedBy_3 ?_
  refine x_callS C (st := []) (As := [.long ((a1 : Int32).toInt64), .long 1, .long 60]) (tX12_lies hg _ _ _ _ _ _  h) wm_X12_222 wsm_X12_lies wz_X12 wc_X12_lies yd_X12_lies rfl ⟨rfl, rfl⟩ ⟨Nat.le_of_ble_eq_true rfl, Nat.le_of_ble_eq_true rfl⟩ (Nat.le_of_ble_eq_true rfl) rfl dX12_triedBy_6 (x_ki (fun r2 M1 h => ?_))
  refine x_if_eq C (tgt := 57) dX12_triedBy_9 (by decide) (fun hq3 => ?_) (fun hq3 => ?_)
  · replace h := x_ift hq3 h
    refine x_iconst C (v1 := (-1)) dX12_triedBy_57 (by decide) ?_
    exact x_iret C dX12_triedBy_58 ⟨_, rfl, h⟩
  · replace h := x_iff hq3 h
    refine x_iload_n C 3 rfl rfl dX12_triedBy_12 ?_
    refine x_i2l C dX12_triedBy_13 ?_
    refine x_lconst C (v1 := 0) dX12_triedBy_14 (by decide) ?_
    refine x_ldc2 C (v1 := 6) (wcl_X12_561) dX12_triedBy_15 ?_
    refine x_callS C (st := []) (As := [.long ((a2 : Int32).toInt64), .long 0, .long 6]) (tX12_lies hg _ _ _ _ _ _  h) wm_X12_222 wsm_X12_lies wz_X12 wc_X12_lies yd_X12_lies rfl ⟨rfl, rfl⟩ ⟨Nat.le_of_ble_eq_true rfl, Nat.le_of_ble_eq_true rfl⟩ (Nat.le_of_ble_eq_true rfl) rfl dX12_triedBy_18 (x_ki (fun r5 M4 h => ?_))
    refine x_if_ne C (tgt := 59) dX12_triedBy_21 (by decide) (fun hq6 => ?_) (fun hq6 => ?_)
    · replace h := x_iff hq6 h
      exact tX12_triedBy_59 hg  C   _ _ _ _  h
    · replace h := x_ift hq6 h
      refine x_aload_n C 0 rfl rfl dX12_triedBy_24 ?_
      refine x_iload_n C 3 rfl rfl dX12_triedBy_25 ?_
      refine x_bipush C (v1 := 10) dX12_triedBy_26 (by decide) ?_
      refine x_isub C dX12_triedBy_28 ?_
      refine x_callV C (st := []) (As := [.int (a2 - 10)]) (c := 0) (ci := 12) (enM_12 (c := 0) rfl) (Nat.le_of_ble_eq_true rfl) rfl (tX12_isTelling hg _ _ _ _  h) wm_X12_467 wi_X12_isTelling wv_X12_isTelling wz_X12 wc_X12_isTelling rfl yd_X12_isTelling rfl ⟨rfl, rfl⟩ ⟨Nat.le_of_ble_eq_true rfl, Nat.le_of_ble_eq_true rfl⟩ (Nat.le_of_ble_eq_true rfl) rfl dX12_triedBy_29 (x_ki (fun r8 M7 h => ?_))
      refine x_if_ne C (tgt := 59) dX12_triedBy_32 (by decide) (fun hq9 => ?_) (fun hq9 => ?_)
      · replace h := x_iff hq9 h
        exact tX12_triedBy_59 hg  C   _ _ _ _  h
      · replace h := x_ift hq9 h
        refine x_aload_n C 0 rfl rfl dX12_triedBy_35 ?_
        refine x_iload_n C 3 rfl rfl dX12_triedBy_36 ?_
        refine x_bipush C (v1 := 20) dX12_triedBy_37 (by decide) ?_
        refine x_isub C dX12_triedBy_39 ?_
        refine x_callV C (st := []) (As := [.int (a2 - 20)]) (c := 0) (ci := 12) (enM_12 (c := 0) rfl) (Nat.le_of_ble_eq_true rfl) rfl (tX12_isTelling hg _ _ _ _  h) wm_X12_467 wi_X12_isTelling wv_X12_isTelling wz_X12 wc_X12_isTelling rfl yd_X12_isTelling rfl ⟨rfl, rfl⟩ ⟨Nat.le_of_ble_eq_true rfl, Nat.le_of_ble_eq_true rfl⟩ (Nat.le_of_ble_eq_true rfl) rfl dX12_triedBy_40 (x_ki (fun r11 M10 h => ?_))
        refine x_if_ne C (tgt := 59) dX12_triedBy_43 (by decide) (fun hq12 => ?_) (fun hq12 => ?_)
        · replace h := x_iff hq12 h
          exact tX12_triedBy_59 hg  C   _ _ _ _  h
        · replace h := x_ift hq12 h
          refine x_aload_n C 0 rfl rfl dX12_triedBy_46 ?_
          refine x_iload_n C 3 rfl rfl dX12_triedBy_47 ?_
          refine x_bipush C (v1 := 30) dX12_triedBy_48 (by decide) ?_
          refine x_isub C dX12_triedBy_50 ?_
          refine x_callV C (st := []) (As := [.int (a2 - 30)]) (c := 0) (ci := 12) (enM_12 (c := 0) rfl) (Nat.le_of_ble_eq_true rfl) rfl (tX12_isListening hg _ _ _ _  h) wm_X12_563 wi_X12_isListening wv_X12_isListening wz_X12 wc_X12_isListening rfl yd_X12_isListening rfl ⟨rfl, rfl⟩ ⟨Nat.le_of_ble_eq_true rfl, Nat.le_of_ble_eq_true rfl⟩ (Nat.le_of_ble_eq_true rfl) rfl dX12_triedBy_51 (x_ki (fun r14 M13 h => ?_))
          refine x_if_ne C (tgt := 59) dX12_triedBy_54 (by decide) (fun hq15 => ?_) (fun hq15 => ?_)
          · replace h := x_iff hq15 h
            exact tX12_triedBy_59 hg  C   _ _ _ _  h
          · replace h := x_ift hq15 h
            refine x_iconst C (v1 := (-1)) dX12_triedBy_57 (by decide) ?_
            exact x_iret C dX12_triedBy_58 ⟨_, rfl, h⟩
set_option maxHeartbeats 4000000 in
set_option maxRecDepth 100000 in
theorem tX12_tried {g : xG} (hg : x_inj (WM g))  (l : Launch) (a0 : Int32) (a1 : Int32) (M : xMem) (post : Int32 → xMem → Prop)  (h : wX12_tried a0 a1 M post) : xMet (WM g) l yX12_tried cX12_tried 3 (some .int) (rm_X12_tried) [.ref (ga g 0), .int a0, .int a1] M (pI post) := by
  refine x_enter (own := RX12) (L0 := [(0, .ref (ga g 0)), (1, .int a0), (2, .int a1)]) (by decide +kernel) rfl hg (x_stM g) (Nat.le_of_ble_eq_true rfl) rfl (fun x hl C => ?_)
  unfold wX12_tried at h
  refine x_aload_n C 0 rfl rfl dX12_tried_0 ?_
  refine x_iconst C (v1 := 0) dX12_tried_1 (by decide) ?_
  refine x_iload_n C 1 rfl rfl dX12_tried_2 ?_
  refine x_iload_n C 2 rfl rfl dX12_tried_3 ?_
  refine x_callV C (st := []) (As := [.int 0, .int a0, .int a1]) (c := 0) (ci := 12) (enM_12 (c := 0) rfl) (Nat.le_of_ble_eq_true rfl) rfl (tX12_triedBy hg _ _ _ _ _ _  h) wm_X12_572 wi_X12_triedBy wv_X12_triedBy wz_X12 wc_X12_triedBy rfl yd_X12_triedBy rfl ⟨rfl, rfl⟩ ⟨Nat.le_of_ble_eq_true rfl, Nat.le_of_ble_eq_true rfl⟩ (Nat.le_of_ble_eq_true rfl) rfl dX12_tried_4 (x_ki (fun r2 M1 h => ?_))
  exact x_iret C dX12_tried_7 ⟨_, rfl, h⟩
set_option maxHeartbeats 4000000 in
set_option maxRecDepth 100000 in
theorem tX12_other {g : xG} (hg : x_inj (WM g))  (l : Launch) (a0 : Int32) (a1 : Int32) (M : xMem) (post : Int32 → xMem → Prop)  (h : wX12_other a0 a1 M post) : xMet (WM g) l yX12_other cX12_other 3 (some .int) (rm_X12_other) [.ref (ga g 0), .int a0, .int a1] M (pI post) := by
  refine x_enter (own := RX12) (L0 := [(0, .ref (ga g 0)), (1, .int a0), (2, .int a1)]) (by decide +kernel) rfl hg (x_stM g) (Nat.le_of_ble_eq_true rfl) rfl (fun x hl C => ?_)
  unfold wX12_other at h
  refine x_aload_n C 0 rfl rfl dX12_other_0 ?_
  refine x_iconst C (v1 := 1) dX12_other_1 (by decide) ?_
  refine x_iload_n C 1 rfl rfl dX12_other_2 ?_
  refine x_iload_n C 2 rfl rfl dX12_other_3 ?_
  refine x_callV C (st := []) (As := [.int 1, .int a0, .int a1]) (c := 0) (ci := 12) (enM_12 (c := 0) rfl) (Nat.le_of_ble_eq_true rfl) rfl (tX12_triedBy hg _ _ _ _ _ _  h) wm_X12_572 wi_X12_triedBy wv_X12_triedBy wz_X12 wc_X12_triedBy rfl yd_X12_triedBy rfl ⟨rfl, rfl⟩ ⟨Nat.le_of_ble_eq_true rfl, Nat.le_of_ble_eq_true rfl⟩ (Nat.le_of_ble_eq_true rfl) rfl dX12_other_4 (x_ki (fun r2 M1 h => ?_))
  exact x_iret C dX12_other_7 ⟨_, rfl, h⟩
set_option maxHeartbeats 4000000 in
set_option maxRecDepth 100000 in
theorem tX12_first {g : xG} (hg : x_inj (WM g))  (l : Launch) (a0 : Int32) (a1 : Int32) (M : xMem) (post : Int32 → xMem → Prop)  (h : wX12_first a0 a1 M post) : xMet (WM g) l yX12_first cX12_first 3 (some .int) (rm_X12_first) [.ref (ga g 0), .int a0, .int a1] M (pI post) := by
  refine x_enter (own := RX12) (L0 := [(0, .ref (ga g 0)), (1, .int a0), (2, .int a1)]) (by decide +kernel) rfl hg (x_stM g) (Nat.le_of_ble_eq_true rfl) rfl (fun x hl C => ?_)
  unfold wX12_first at h
  refine x_iload_n C 1 rfl rfl dX12_first_0 ?_
  refine x_i2l C dX12_first_1 ?_
  refine x_lconst C (v1 := 1) dX12_first_2 (by decide) ?_
  refine x_ldc2 C (v1 := 60) (wcl_X12_556) dX12_first_3 ?_
  refine x_callS C (st := []) (As := [.long ((a0 : Int32).toInt64), .long 1, .long 60]) (tX12_lies hg _ _ _ _ _ _  h) wm_X12_222 wsm_X12_lies wz_X12 wc_X12_lies yd_X12_lies rfl ⟨rfl, rfl⟩ ⟨Nat.le_of_ble_eq_true rfl, Nat.le_of_ble_eq_true rfl⟩ (Nat.le_of_ble_eq_true rfl) rfl dX12_first_6 (x_ki (fun r2 M1 h => ?_))
  refine x_if_eq C (tgt := 22) dX12_first_9 (by decide) (fun hq3 => ?_) (fun hq3 => ?_)
  · replace h := x_ift hq3 h
    refine x_iconst C (v1 := (-1)) dX12_first_22 (by decide) ?_
    exact x_iret C dX12_first_23 ⟨_, rfl, h⟩
  · replace h := x_iff hq3 h
    refine x_iload_n C 2 rfl rfl dX12_first_12 ?_
    refine x_i2l C dX12_first_13 ?_
    refine x_lconst C (v1 := 0) dX12_first_14 (by decide) ?_
    refine x_lconst C (v1 := 1) dX12_first_15 (by decide) ?_
    refine x_callS C (st := []) (As := [.long ((a1 : Int32).toInt64), .long 0, .long 1]) (tX12_lies hg _ _ _ _ _ _  h) wm_X12_222 wsm_X12_lies wz_X12 wc_X12_lies yd_X12_lies rfl ⟨rfl, rfl⟩ ⟨Nat.le_of_ble_eq_true rfl, Nat.le_of_ble_eq_true rfl⟩ (Nat.le_of_ble_eq_true rfl) rfl dX12_first_16 (x_ki (fun r5 M4 h => ?_))
    refine x_if_ne C (tgt := 24) dX12_first_19 (by decide) (fun hq6 => ?_) (fun hq6 => ?_)
    · replace h := x_iff hq6 h
      refine x_aload_n C 0 rfl rfl dX12_first_24 ?_
      refine x_iconst C (v1 := 0) dX12_first_25 (by decide) ?_
      refine x_callV C (st := []) (As := [.int 0]) (c := 0) (ci := 12) (enM_12 (c := 0) rfl) (Nat.le_of_ble_eq_true rfl) rfl (tX12_laysAside hg _ _ _ _  h) wm_X12_566 wi_X12_laysAside wv_X12_laysAside wz_X12 wc_X12_laysAside rfl yd_X12_laysAside rfl ⟨rfl, rfl⟩ ⟨Nat.le_of_ble_eq_true rfl, Nat.le_of_ble_eq_true rfl⟩ (Nat.le_of_ble_eq_true rfl) rfl dX12_first_26 (x_kv (fun M7 h => ?_))
      refine x_aload_n C 0 rfl rfl dX12_first_29 ?_
      refine x_iload_n C 1 rfl rfl dX12_first_30 ?_
      refine x_callV C (st := []) (As := [.int a0]) (c := 0) (ci := 12) (enM_12 (c := 0) rfl) (Nat.le_of_ble_eq_true rfl) rfl (tX12_go hg _ _ _ _  h) wm_X12_558 wi_X12_go wv_X12_go wz_X12 wc_X12_go rfl yd_X12_go rfl ⟨rfl, rfl⟩ ⟨Nat.le_of_ble_eq_true rfl, Nat.le_of_ble_eq_true rfl⟩ (Nat.le_of_ble_eq_true rfl) rfl dX12_first_31 (x_kv (fun M8 h => ?_))
      refine x_aload_n C 0 rfl rfl dX12_first_34 ?_
      refine x_iconst C (v1 := 0) dX12_first_35 (by decide) ?_
      refine x_callV C (st := []) (As := [.int 0]) (c := 0) (ci := 12) (enM_12 (c := 0) rfl) (Nat.le_of_ble_eq_true rfl) rfl (tX12_bringsBack hg _ _ _ _  h) wm_X12_569 wi_X12_bringsBack wv_X12_bringsBack wz_X12 wc_X12_bringsBack rfl yd_X12_bringsBack rfl ⟨rfl, rfl⟩ ⟨Nat.le_of_ble_eq_true rfl, Nat.le_of_ble_eq_true rfl⟩ (Nat.le_of_ble_eq_true rfl) rfl dX12_first_36 (x_kv (fun M9 h => ?_))
      refine x_iload_n C 2 rfl rfl dX12_first_39 ?_
      refine x_if_ne C (tgt := 50) dX12_first_40 (by decide) (fun hq10 => ?_) (fun hq10 => ?_)
      · replace h := x_iff hq10 h
        refine x_aload_n C 0 rfl rfl dX12_first_50 ?_
        refine x_get C (c := 0) (ci := 12) (k1 := 79) (v1 := .int (gi M9 0 79)) (enM_12 (c := 0) rfl) (Nat.le_of_ble_eq_true rfl) rfl inX12 (by decide) wf_X12_523 rfl dX12_first_51 ?_
        exact x_iret C dX12_first_54 ⟨_, rfl, h⟩
      · replace h := x_ift hq10 h
        refine x_aload_n C 0 rfl rfl dX12_first_43 ?_
        refine x_get C (c := 0) (ci := 12) (k1 := 78) (v1 := .int (gi M9 0 78)) (enM_12 (c := 0) rfl) (Nat.le_of_ble_eq_true rfl) rfl inX12 (by decide) wf_X12_520 rfl dX12_first_44 ?_
        refine x_goto C (tgt := 54) dX12_first_47 (by decide) ?_
        exact x_iret C dX12_first_54 ⟨_, rfl, h⟩
    · replace h := x_ift hq6 h
      refine x_iconst C (v1 := (-1)) dX12_first_22 (by decide) ?_
      exact x_iret C dX12_first_23 ⟨_, rfl, h⟩
set_option maxHeartbeats 4000000 in
set_option maxRecDepth 100000 in
theorem tX12_endIs {g : xG} (hg : x_inj (WM g))  (l : Launch) (a0 : Int32) (a1 : Int32) (M : xMem) (post : Int32 → xMem → Prop)  (h : wX12_endIs a0 a1 M post) : xMet (WM g) l yX12_endIs cX12_endIs 3 (some .int) (rm_X12_endIs) [.ref (ga g 0), .int a0, .int a1] M (pI post) := by
  refine x_enter (own := RX12) (L0 := [(0, .ref (ga g 0)), (1, .int a0), (2, .int a1)]) (by decide +kernel) rfl hg (x_stM g) (Nat.le_of_ble_eq_true rfl) rfl (fun x hl C => ?_)
  unfold wX12_endIs at h
  refine x_aload_n C 0 rfl rfl dX12_endIs_0 ?_
  refine x_iload_n C 1 rfl rfl dX12_endIs_1 ?_
  refine x_callV C (st := []) (As := [.int a0]) (c := 0) (ci := 12) (enM_12 (c := 0) rfl) (Nat.le_of_ble_eq_true rfl) rfl (tX12_isThere hg _ _ _ _  h) wm_X12_499 wi_X12_isThere wv_X12_isThere wz_X12 wc_X12_isThere rfl yd_X12_isThere rfl ⟨rfl, rfl⟩ ⟨Nat.le_of_ble_eq_true rfl, Nat.le_of_ble_eq_true rfl⟩ (Nat.le_of_ble_eq_true rfl) rfl dX12_endIs_2 (x_ki (fun r2 M1 h => ?_))
  refine x_if_ne C (tgt := 10) dX12_endIs_5 (by decide) (fun hq3 => ?_) (fun hq3 => ?_)
  · replace h := x_iff hq3 h
    refine x_iload_n C 2 rfl rfl dX12_endIs_10 ?_
    by_cases hq4 : a1 = 0
    · replace h := x_ift hq4 h
      refine x_tabIn C hq4 (tgt := 48) dX12_endIs_11 (by decide) (by decide) rfl (by decide) ?_
      refine x_aload_n C 0 rfl rfl dX12_endIs_48 ?_
      refine x_get C (c := 0) (ci := 12) (k1 := 52) (v1 := .ref (ga g 26)) (enM_12 (c := 0) rfl) (Nat.le_of_ble_eq_true rfl) rfl inX12 (by decide) wf_X12_91 rfl dX12_endIs_49 ?_
      refine x_iload_n C 1 rfl rfl dX12_endIs_52 ?_
      obtain ⟨hi5, h⟩ := h
      refine x_iald C 0 (c := 26) (enM_20n (c := 26) (n := 10) rfl rfl) (Nat.le_of_ble_eq_true rfl) rfl hi5 dX12_endIs_53 ?_
      exact x_iret C dX12_endIs_54 ⟨_, rfl, h⟩
    · replace h := x_iff hq4 h
      by_cases hq6 : a1 = 1
      · replace h := x_ift hq6 h
        refine x_tabIn C hq6 (tgt := 55) dX12_endIs_11 (by decide) (by decide) rfl (by decide) ?_
        refine x_aload_n C 0 rfl rfl dX12_endIs_55 ?_
        refine x_get C (c := 0) (ci := 12) (k1 := 53) (v1 := .ref (ga g 27)) (enM_12 (c := 0) rfl) (Nat.le_of_ble_eq_true rfl) rfl inX12 (by decide) wf_X12_94 rfl dX12_endIs_56 ?_
        refine x_iload_n C 1 rfl rfl dX12_endIs_59 ?_
        obtain ⟨hi7, h⟩ := h
        refine x_iald C 0 (c := 27) (enM_20n (c := 27) (n := 10) rfl rfl) (Nat.le_of_ble_eq_true rfl) rfl hi7 dX12_endIs_60 ?_
        exact x_iret C dX12_endIs_61 ⟨_, rfl, h⟩
      · replace h := x_iff hq6 h
        by_cases hq8 : a1 = 2
        · replace h := x_ift hq8 h
          refine x_tabIn C hq8 (tgt := 62) dX12_endIs_11 (by decide) (by decide) rfl (by decide) ?_
          refine x_aload_n C 0 rfl rfl dX12_endIs_62 ?_
          refine x_get C (c := 0) (ci := 12) (k1 := 54) (v1 := .ref (ga g 28)) (enM_12 (c := 0) rfl) (Nat.le_of_ble_eq_true rfl) rfl inX12 (by decide) wf_X12_97 rfl dX12_endIs_63 ?_
          refine x_iload_n C 1 rfl rfl dX12_endIs_66 ?_
          obtain ⟨hi9, h⟩ := h
          refine x_iald C 0 (c := 28) (enM_20n (c := 28) (n := 10) rfl rfl) (Nat.le_of_ble_eq_true rfl) rfl hi9 dX12_endIs_67 ?_
          exact x_iret C dX12_endIs_68 ⟨_, rfl, h⟩
        · replace h := x_iff hq8 h
          by_cases hq10 : a1 = 3
          · replace h := x_ift hq10 h
            refine x_tabIn C hq10 (tgt := 69) dX12_endIs_11 (by decide) (by decide) rfl (by decide) ?_
            refine x_aload_n C 0 rfl rfl dX12_endIs_69 ?_
            refine x_get C (c := 0) (ci := 12) (k1 := 55) (v1 := .ref (ga g 29)) (enM_12 (c := 0) rfl) (Nat.le_of_ble_eq_true rfl) rfl inX12 (by decide) wf_X12_100 rfl dX12_endIs_70 ?_
            refine x_iload_n C 1 rfl rfl dX12_endIs_73 ?_
            obtain ⟨hi11, h⟩ := h
            refine x_iald C 0 (c := 29) (enM_20n (c := 29) (n := 10) rfl rfl) (Nat.le_of_ble_eq_true rfl) rfl hi11 dX12_endIs_74 ?_
            exact x_iret C dX12_endIs_75 ⟨_, rfl, h⟩
          · replace h := x_iff hq10 h
            by_cases hq12 : a1 = 4
            · replace h := x_ift hq12 h
              refine x_tabIn C hq12 (tgt := 76) dX12_endIs_11 (by decide) (by decide) rfl (by decide) ?_
              refine x_aload_n C 0 rfl rfl dX12_endIs_76 ?_
              refine x_iload_n C 1 rfl rfl dX12_endIs_77 ?_
              refine x_callV C (st := []) (As := [.int a0]) (c := 0) (ci := 12) (enM_12 (c := 0) rfl) (Nat.le_of_ble_eq_true rfl) rfl (tX12_costOf hg _ _ _ _  h) wm_X12_470 wi_X12_costOf wv_X12_costOf wz_X12 wc_X12_costOf rfl yd_X12_costOf rfl ⟨rfl, rfl⟩ ⟨Nat.le_of_ble_eq_true rfl, Nat.le_of_ble_eq_true rfl⟩ (Nat.le_of_ble_eq_true rfl) rfl dX12_endIs_78 (x_ki (fun r14 M13 h => ?_))
              exact x_iret C dX12_endIs_81 ⟨_, rfl, h⟩
            · replace h := x_iff hq12 h
              by_cases hq15 : a1 = 5
              · replace h := x_ift hq15 h
                refine x_tabIn C hq15 (tgt := 82) dX12_endIs_11 (by decide) (by decide) rfl (by decide) ?_
                refine x_aload_n C 0 rfl rfl dX12_endIs_82 ?_
                refine x_iload_n C 1 rfl rfl dX12_endIs_83 ?_
                refine x_callV C (st := []) (As := [.int a0]) (c := 0) (ci := 12) (enM_12 (c := 0) rfl) (Nat.le_of_ble_eq_true rfl) rfl (tX12_forgingOf hg _ _ _ _  h) wm_X12_484 wi_X12_forgingOf wv_X12_forgingOf wz_X12 wc_X12_forgingOf rfl yd_X12_forgingOf rfl ⟨rfl, rfl⟩ ⟨Nat.le_of_ble_eq_true rfl, Nat.le_of_ble_eq_true rfl⟩ (Nat.le_of_ble_eq_true rfl) rfl dX12_endIs_84 (x_ki (fun r17 M16 h => ?_))
                exact x_iret C dX12_endIs_87 ⟨_, rfl, h⟩
              · replace h := x_iff hq15 h
                refine x_tabOut C (tgt := 88) dX12_endIs_11 (by have t0 := x_i32ne hq4; have u0 : (0 : Int32).toInt = 0 := (by decide); have t1 := x_i32ne hq6; have u1 : (1 : Int32).toInt = 1 := (by decide); have t2 := x_i32ne hq8; have u2 : (2 : Int32).toInt = 2 := (by decide); have t3 := x_i32ne hq10; have u3 : (3 : Int32).toInt = 3 := (by decide); have t4 := x_i32ne hq12; have u4 : (4 : Int32).toInt = 4 := (by decide); have t5 := x_i32ne hq15; have u5 : (5 : Int32).toInt = 5 := (by decide); omega) (by decide) ?_
                refine x_iconst C (v1 := (-1)) dX12_endIs_88 (by decide) ?_
                exact x_iret C dX12_endIs_89 ⟨_, rfl, h⟩
  · replace h := x_ift hq3 h
    refine x_iconst C (v1 := (-1)) dX12_endIs_8 (by decide) ?_
    exact x_iret C dX12_endIs_9 ⟨_, rfl, h⟩
set_option maxHeartbeats 4000000 in
set_option maxRecDepth 100000 in
theorem tX12_boundSet_27 {g : xG} (hg : x_inj (WM g))  {x : xCx}  {K4 : Int32 → Int32 → Int32 → xMem → Prop} {post : Int32 → xMem → Prop} (C : xOk (WM g) x cX12_boundSet RX12 4 (some .int) (rm_X12_boundSet) (pI post))  (hK4 : ∀ (x1 : Int32) (x2 : Int32) (x3 : Int32) (M : xMem), K4 x1 x2 x3 M → xW (WM g) x 4 4 [(0, .ref (ga g 0)), (1, .int x1), (2, .int x2), (3, .int x3)] [] M) (x1 : Int32) (x3 : Int32) (s0 : Int32) (s1 : Int32) (M : xMem)  (h : wX12_boundSet_27 K4 post x1 x3 s0 s1 M) : xW (WM g) x 4 27 [(0, .ref (ga g 0)), (1, .int x1), (3, .int x3)] [.int s0, .int s1] M := by
  unfold wX12_boundSet_27 at h
  refine x_ior C dX12_boundSet_27 ?_
  refine x_nm (fun v1 ev1 => ?_)
  replace h := h v1 ev1
  refine x_istore_n C (L' := [(2, .int v1), (0, .ref (ga g 0)), (1, .int x1), (3, .int x3)]) rfl rfl (Nat.le_of_ble_eq_true rfl) dX12_boundSet_28 ?_
  obtain ⟨v2, ev2⟩ : ∃ z : Int32, z = x3 + 1 := ⟨_, rfl⟩
  replace h := h v2 ev2
  refine x_iinc C 3 (v1 := v2) (L' := [(3, .int v2), (2, .int v1), (0, .ref (ga g 0)), (1, .int x1)]) rfl (by rw [ev2]; rfl) rfl (Nat.le_of_ble_eq_true rfl) dX12_boundSet_29 ?_
  refine x_goto C (tgt := 4) dX12_boundSet_32 (by decide) ?_
  refine x_loc (L' := [(0, .ref (ga g 0)), (1, .int x1), (2, .int v1), (3, .int v2)]) [2, 3, 1, 0] rfl ?_
  exact hK4 _ _ _ _  h
set_option maxHeartbeats 4000000 in
set_option maxRecDepth 100000 in
theorem tX12_boundSet_4 {g : xG} (hg : x_inj (WM g))  {x : xCx}   {post : Int32 → xMem → Prop} (C : xOk (WM g) x cX12_boundSet RX12 4 (some .int) (rm_X12_boundSet) (pI post))   : ∀ (n : Nat) (x1 : Int32) (x2 : Int32) (x3 : Int32) (M : xMem), wX12_boundSet_4 post n x1 x2 x3 M → xW (WM g) x 4 4 [(0, .ref (ga g 0)), (1, .int x1), (2, .int x2), (3, .int x3)] [] M := by
  intro n
  induction n with
  | zero =>
    intro x1 x2 x3 M  h
    exact h.elim
  | succ n ih =>
    intro x1 x2 x3 M  h
    rw [wX12_boundSet_4] at h
    refine x_iload_n C 3 rfl rfl dX12_boundSet_4 ?_
    refine x_bipush C (v1 := 10) dX12_boundSet_5 (by decide) ?_
    refine x_icmp_ge C (tgt := 35) dX12_boundSet_7 (by decide) (fun hq1 => ?_) (fun hq1 => ?_)
    · replace h := x_ift hq1 h
      refine x_iload_n C 2 rfl rfl dX12_boundSet_35 ?_
      exact x_iret C dX12_boundSet_36 ⟨_, rfl, h⟩
    · replace h := x_iff hq1 h
      refine x_iload_n C 2 rfl rfl dX12_boundSet_10 ?_
      refine x_aload_n C 0 rfl rfl dX12_boundSet_11 ?_
      refine x_iload_n C 3 rfl rfl dX12_boundSet_12 ?_
      refine x_iload_n C 1 rfl rfl dX12_boundSet_13 ?_
      refine x_callV C (st := [.int x2]) (As := [.int x3, .int x1]) (c := 0) (ci := 12) (enM_12 (c := 0) rfl) (Nat.le_of_ble_eq_true rfl) rfl (tX12_isBound hg _ _ _ _ _  h) wm_X12_532 wi_X12_isBound wv_X12_isBound wz_X12 wc_X12_isBound rfl yd_X12_isBound rfl ⟨rfl, rfl⟩ ⟨Nat.le_of_ble_eq_true rfl, Nat.le_of_ble_eq_true rfl⟩ (Nat.le_of_ble_eq_true rfl) rfl dX12_boundSet_14 (x_ki (fun r3 M2 h => ?_))
      refine x_if_eq C (tgt := 26) dX12_boundSet_17 (by decide) (fun hq4 => ?_) (fun hq4 => ?_)
      · replace h := x_ift hq4 h
        refine x_iconst C (v1 := 0) dX12_boundSet_26 (by decide) ?_
        refine x_loc (L' := [(0, .ref (ga g 0)), (1, .int x1), (3, .int x3)]) [0, 1, 3] rfl ?_
        exact tX12_boundSet_27 hg  C  ih _ _ _ _ _  h
      · replace h := x_iff hq4 h
        refine x_iconst C (v1 := 1) dX12_boundSet_20 (by decide) ?_
        refine x_iload_n C 3 rfl rfl dX12_boundSet_21 ?_
        refine x_ishl C dX12_boundSet_22 ?_
        refine x_goto C (tgt := 27) dX12_boundSet_23 (by decide) ?_
        refine x_loc (L' := [(0, .ref (ga g 0)), (1, .int x1), (3, .int x3)]) [0, 1, 3] rfl ?_
        exact tX12_boundSet_27 hg  C  ih _ _ _ _ _  h
set_option maxHeartbeats 4000000 in
set_option maxRecDepth 100000 in
theorem tX12_boundSet {g : xG} (hg : x_inj (WM g))  (l : Launch) (a0 : Int32) (M : xMem) (post : Int32 → xMem → Prop)  (h : wX12_boundSet a0 M post) : xMet (WM g) l yX12_boundSet cX12_boundSet 4 (some .int) (rm_X12_boundSet) [.ref (ga g 0), .int a0] M (pI post) := by
  refine x_enter (own := RX12) (L0 := [(0, .ref (ga g 0)), (1, .int a0)]) (by decide +kernel) rfl hg (x_stM g) (Nat.le_of_ble_eq_true rfl) rfl (fun x hl C => ?_)
  unfold wX12_boundSet at h
  refine x_iconst C (v1 := 0) dX12_boundSet_0 (by decide) ?_
  refine x_istore_n C (L' := [(2, .int 0), (0, .ref (ga g 0)), (1, .int a0)]) rfl rfl (Nat.le_of_ble_eq_true rfl) dX12_boundSet_1 ?_
  refine x_iconst C (v1 := 0) dX12_boundSet_2 (by decide) ?_
  refine x_istore_n C (L' := [(3, .int 0), (2, .int 0), (0, .ref (ga g 0)), (1, .int a0)]) rfl rfl (Nat.le_of_ble_eq_true rfl) dX12_boundSet_3 ?_
  refine x_loc (L' := [(0, .ref (ga g 0)), (1, .int a0), (2, .int 0), (3, .int 0)]) [2, 3, 1, 0] rfl ?_
  obtain ⟨n4, h⟩ := h
  exact tX12_boundSet_4 hg  C   _ _ _ _ _  h
set_option maxHeartbeats 4000000 in
set_option maxRecDepth 100000 in
theorem tX12_tellerIs {g : xG} (hg : x_inj (WM g))  (l : Launch) (a0 : Int32) (a1 : Int32) (M : xMem) (post : Int32 → xMem → Prop)  (h : wX12_tellerIs a0 a1 M post) : xMet (WM g) l yX12_tellerIs cX12_tellerIs 3 (some .int) (rm_X12_tellerIs) [.ref (ga g 0), .int a0, .int a1] M (pI post) := by
  refine x_enter (own := RX12) (L0 := [(0, .ref (ga g 0)), (1, .int a0), (2, .int a1)]) (by decide +kernel) rfl hg (x_stM g) (Nat.le_of_ble_eq_true rfl) rfl (fun x hl C => ?_)
  unfold wX12_tellerIs at h
  refine x_aload_n C 0 rfl rfl dX12_tellerIs_0 ?_
  refine x_iload_n C 1 rfl rfl dX12_tellerIs_1 ?_
  refine x_callV C (st := []) (As := [.int a0]) (c := 0) (ci := 12) (enM_12 (c := 0) rfl) (Nat.le_of_ble_eq_true rfl) rfl (tX12_isTelling hg _ _ _ _  h) wm_X12_467 wi_X12_isTelling wv_X12_isTelling wz_X12 wc_X12_isTelling rfl yd_X12_isTelling rfl ⟨rfl, rfl⟩ ⟨Nat.le_of_ble_eq_true rfl, Nat.le_of_ble_eq_true rfl⟩ (Nat.le_of_ble_eq_true rfl) rfl dX12_tellerIs_2 (x_ki (fun r2 M1 h => ?_))
  refine x_if_ne C (tgt := 10) dX12_tellerIs_5 (by decide) (fun hq3 => ?_) (fun hq3 => ?_)
  · replace h := x_iff hq3 h
    refine x_iload_n C 2 rfl rfl dX12_tellerIs_10 ?_
    by_cases hq4 : a1 = 0
    · replace h := x_ift hq4 h
      refine x_tabIn C hq4 (tgt := 48) dX12_tellerIs_11 (by decide) (by decide) rfl (by decide) ?_
      refine x_aload_n C 0 rfl rfl dX12_tellerIs_48 ?_
      refine x_get C (c := 0) (ci := 12) (k1 := 57) (v1 := .ref (ga g 31)) (enM_12 (c := 0) rfl) (Nat.le_of_ble_eq_true rfl) rfl inX12 (by decide) wf_X12_106 rfl dX12_tellerIs_49 ?_
      refine x_iload_n C 1 rfl rfl dX12_tellerIs_52 ?_
      obtain ⟨hi5, h⟩ := h
      refine x_iald C 0 (c := 31) (enM_20n (c := 31) (n := 4) rfl rfl) (Nat.le_of_ble_eq_true rfl) rfl hi5 dX12_tellerIs_53 ?_
      exact x_iret C dX12_tellerIs_54 ⟨_, rfl, h⟩
    · replace h := x_iff hq4 h
      by_cases hq6 : a1 = 1
      · replace h := x_ift hq6 h
        refine x_tabIn C hq6 (tgt := 55) dX12_tellerIs_11 (by decide) (by decide) rfl (by decide) ?_
        refine x_aload_n C 0 rfl rfl dX12_tellerIs_55 ?_
        refine x_get C (c := 0) (ci := 12) (k1 := 58) (v1 := .ref (ga g 32)) (enM_12 (c := 0) rfl) (Nat.le_of_ble_eq_true rfl) rfl inX12 (by decide) wf_X12_109 rfl dX12_tellerIs_56 ?_
        refine x_iload_n C 1 rfl rfl dX12_tellerIs_59 ?_
        obtain ⟨hi7, h⟩ := h
        refine x_iald C 0 (c := 32) (enM_20n (c := 32) (n := 4) rfl rfl) (Nat.le_of_ble_eq_true rfl) rfl hi7 dX12_tellerIs_60 ?_
        exact x_iret C dX12_tellerIs_61 ⟨_, rfl, h⟩
      · replace h := x_iff hq6 h
        by_cases hq8 : a1 = 2
        · replace h := x_ift hq8 h
          refine x_tabIn C hq8 (tgt := 62) dX12_tellerIs_11 (by decide) (by decide) rfl (by decide) ?_
          refine x_aload_n C 0 rfl rfl dX12_tellerIs_62 ?_
          refine x_get C (c := 0) (ci := 12) (k1 := 59) (v1 := .ref (ga g 33)) (enM_12 (c := 0) rfl) (Nat.le_of_ble_eq_true rfl) rfl inX12 (by decide) wf_X12_112 rfl dX12_tellerIs_63 ?_
          refine x_iload_n C 1 rfl rfl dX12_tellerIs_66 ?_
          obtain ⟨hi9, h⟩ := h
          refine x_iald C 0 (c := 33) (enM_20n (c := 33) (n := 4) rfl rfl) (Nat.le_of_ble_eq_true rfl) rfl hi9 dX12_tellerIs_67 ?_
          exact x_iret C dX12_tellerIs_68 ⟨_, rfl, h⟩
        · replace h := x_iff hq8 h
          by_cases hq10 : a1 = 3
          · replace h := x_ift hq10 h
            refine x_tabIn C hq10 (tgt := 69) dX12_tellerIs_11 (by decide) (by decide) rfl (by decide) ?_
            refine x_aload_n C 0 rfl rfl dX12_tellerIs_69 ?_
            refine x_get C (c := 0) (ci := 12) (k1 := 60) (v1 := .ref (ga g 34)) (enM_12 (c := 0) rfl) (Nat.le_of_ble_eq_true rfl) rfl inX12 (by decide) wf_X12_115 rfl dX12_tellerIs_70 ?_
            refine x_iload_n C 1 rfl rfl dX12_tellerIs_73 ?_
            obtain ⟨hi11, h⟩ := h
            refine x_iald C 0 (c := 34) (enM_20n (c := 34) (n := 4) rfl rfl) (Nat.le_of_ble_eq_true rfl) rfl hi11 dX12_tellerIs_74 ?_
            exact x_iret C dX12_tellerIs_75 ⟨_, rfl, h⟩
          · replace h := x_iff hq10 h
            by_cases hq12 : a1 = 4
            · replace h := x_ift hq12 h
              refine x_tabIn C hq12 (tgt := 76) dX12_tellerIs_11 (by decide) (by decide) rfl (by decide) ?_
              refine x_aload_n C 0 rfl rfl dX12_tellerIs_76 ?_
              refine x_iload_n C 1 rfl rfl dX12_tellerIs_77 ?_
              refine x_callV C (st := []) (As := [.int a0]) (c := 0) (ci := 12) (enM_12 (c := 0) rfl) (Nat.le_of_ble_eq_true rfl) rfl (tX12_boundSet hg _ _ _ _  h) wm_X12_575 wi_X12_boundSet wv_X12_boundSet wz_X12 wc_X12_boundSet rfl yd_X12_boundSet rfl ⟨rfl, rfl⟩ ⟨Nat.le_of_ble_eq_true rfl, Nat.le_of_ble_eq_true rfl⟩ (Nat.le_of_ble_eq_true rfl) rfl dX12_tellerIs_78 (x_ki (fun r14 M13 h => ?_))
              exact x_iret C dX12_tellerIs_81 ⟨_, rfl, h⟩
            · replace h := x_iff hq12 h
              by_cases hq15 : a1 = 5
              · replace h := x_ift hq15 h
                refine x_tabIn C hq15 (tgt := 82) dX12_tellerIs_11 (by decide) (by decide) rfl (by decide) ?_
                refine x_aload_n C 0 rfl rfl dX12_tellerIs_82 ?_
                refine x_iload_n C 1 rfl rfl dX12_tellerIs_83 ?_
                refine x_callV C (st := []) (As := [.int a0]) (c := 0) (ci := 12) (enM_12 (c := 0) rfl) (Nat.le_of_ble_eq_true rfl) rfl (tX12_speedOf hg _ _ _ _  h) wm_X12_505 wi_X12_speedOf wv_X12_speedOf wz_X12 wc_X12_speedOf rfl yd_X12_speedOf rfl ⟨rfl, rfl⟩ ⟨Nat.le_of_ble_eq_true rfl, Nat.le_of_ble_eq_true rfl⟩ (Nat.le_of_ble_eq_true rfl) rfl dX12_tellerIs_84 (x_ki (fun r17 M16 h => ?_))
                exact x_iret C dX12_tellerIs_87 ⟨_, rfl, h⟩
              · replace h := x_iff hq15 h
                refine x_tabOut C (tgt := 88) dX12_tellerIs_11 (by have t0 := x_i32ne hq4; have u0 : (0 : Int32).toInt = 0 := (by decide); have t1 := x_i32ne hq6; have u1 : (1 : Int32).toInt = 1 := (by decide); have t2 := x_i32ne hq8; have u2 : (2 : Int32).toInt = 2 := (by decide); have t3 := x_i32ne hq10; have u3 : (3 : Int32).toInt = 3 := (by decide); have t4 := x_i32ne hq12; have u4 : (4 : Int32).toInt = 4 := (by decide); have t5 := x_i32ne hq15; have u5 : (5 : Int32).toInt = 5 := (by decide); omega) (by decide) ?_
                refine x_iconst C (v1 := (-1)) dX12_tellerIs_88 (by decide) ?_
                exact x_iret C dX12_tellerIs_89 ⟨_, rfl, h⟩
  · replace h := x_ift hq3 h
    refine x_iconst C (v1 := (-1)) dX12_tellerIs_8 (by decide) ?_
    exact x_iret C dX12_tellerIs_9 ⟨_, rfl, h⟩
set_option maxHeartbeats 4000000 in
set_option maxRecDepth 100000 in
theorem tX12_listenerIs {g : xG} (hg : x_inj (WM g))  (l : Launch) (a0 : Int32) (a1 : Int32) (M : xMem) (post : Int32 → xMem → Prop)  (h : wX12_listenerIs a0 a1 M post) : xMet (WM g) l yX12_listenerIs cX12_listenerIs 3 (some .int) (rm_X12_listenerIs) [.ref (ga g 0), .int a0, .int a1] M (pI post) := by
  refine x_enter (own := RX12) (L0 := [(0, .ref (ga g 0)), (1, .int a0), (2, .int a1)]) (by decide +kernel) rfl hg (x_stM g) (Nat.le_of_ble_eq_true rfl) rfl (fun x hl C => ?_)
  unfold wX12_listenerIs at h
  refine x_aload_n C 0 rfl rfl dX12_listenerIs_0 ?_
  refine x_iload_n C 1 rfl rfl dX12_listenerIs_1 ?_
  refine x_callV C (st := []) (As := [.int a0]) (c := 0) (ci := 12) (enM_12 (c := 0) rfl) (Nat.le_of_ble_eq_true rfl) rfl (tX12_isListening hg _ _ _ _  h) wm_X12_563 wi_X12_isListening wv_X12_isListening wz_X12 wc_X12_isListening rfl yd_X12_isListening rfl ⟨rfl, rfl⟩ ⟨Nat.le_of_ble_eq_true rfl, Nat.le_of_ble_eq_true rfl⟩ (Nat.le_of_ble_eq_true rfl) rfl dX12_listenerIs_2 (x_ki (fun r2 M1 h => ?_))
  refine x_if_eq C (tgt := 20) dX12_listenerIs_5 (by decide) (fun hq3 => ?_) (fun hq3 => ?_)
  · replace h := x_ift hq3 h
    refine x_iconst C (v1 := (-1)) dX12_listenerIs_20 (by decide) ?_
    exact x_iret C dX12_listenerIs_21 ⟨_, rfl, h⟩
  · replace h := x_iff hq3 h
    refine x_iload_n C 2 rfl rfl dX12_listenerIs_8 ?_
    refine x_i2l C dX12_listenerIs_9 ?_
    refine x_lconst C (v1 := 0) dX12_listenerIs_10 (by decide) ?_
    refine x_ldc2 C (v1 := 2) (wcl_X12_578) dX12_listenerIs_11 ?_
    refine x_callS C (st := []) (As := [.long ((a1 : Int32).toInt64), .long 0, .long 2]) (tX12_lies hg _ _ _ _ _ _  h) wm_X12_222 wsm_X12_lies wz_X12 wc_X12_lies yd_X12_lies rfl ⟨rfl, rfl⟩ ⟨Nat.le_of_ble_eq_true rfl, Nat.le_of_ble_eq_true rfl⟩ (Nat.le_of_ble_eq_true rfl) rfl dX12_listenerIs_14 (x_ki (fun r5 M4 h => ?_))
    refine x_if_ne C (tgt := 22) dX12_listenerIs_17 (by decide) (fun hq6 => ?_) (fun hq6 => ?_)
    · replace h := x_iff hq6 h
      refine x_iload_n C 2 rfl rfl dX12_listenerIs_22 ?_
      refine x_if_ne C (tgt := 50) dX12_listenerIs_23 (by decide) (fun hq7 => ?_) (fun hq7 => ?_)
      · replace h := x_iff hq7 h
        refine x_iload_n C 2 rfl rfl dX12_listenerIs_50 ?_
        refine x_iconst C (v1 := 1) dX12_listenerIs_51 (by decide) ?_
        refine x_icmp_ne C (tgt := 64) dX12_listenerIs_52 (by decide) (fun hq8 => ?_) (fun hq8 => ?_)
        · replace h := x_iff hq8 h
          refine x_aload_n C 0 rfl rfl dX12_listenerIs_64 ?_
          refine x_get C (c := 0) (ci := 12) (k1 := 64) (v1 := .ref (ga g 38)) (enM_12 (c := 0) rfl) (Nat.le_of_ble_eq_true rfl) rfl inX12 (by decide) wf_X12_127 rfl dX12_listenerIs_65 ?_
          refine x_iload_n C 1 rfl rfl dX12_listenerIs_68 ?_
          obtain ⟨hi9, h⟩ := h
          refine x_iald C 0 (c := 38) (enM_20n (c := 38) (n := 10) rfl rfl) (Nat.le_of_ble_eq_true rfl) rfl hi9 dX12_listenerIs_69 ?_
          exact x_iret C dX12_listenerIs_70 ⟨_, rfl, h⟩
        · replace h := x_ift hq8 h
          refine x_aload_n C 0 rfl rfl dX12_listenerIs_55 ?_
          refine x_get C (c := 0) (ci := 12) (k1 := 63) (v1 := .ref (ga g 37)) (enM_12 (c := 0) rfl) (Nat.le_of_ble_eq_true rfl) rfl inX12 (by decide) wf_X12_124 rfl dX12_listenerIs_56 ?_
          refine x_iload_n C 1 rfl rfl dX12_listenerIs_59 ?_
          obtain ⟨hi10, h⟩ := h
          refine x_iald C 0 (c := 37) (enM_20n (c := 37) (n := 10) rfl rfl) (Nat.le_of_ble_eq_true rfl) rfl hi10 dX12_listenerIs_60 ?_
          refine x_goto C (tgt := 70) dX12_listenerIs_61 (by decide) ?_
          exact x_iret C dX12_listenerIs_70 ⟨_, rfl, h⟩
      · replace h := x_ift hq7 h
        refine x_aload_n C 0 rfl rfl dX12_listenerIs_26 ?_
        refine x_get C (c := 0) (ci := 12) (k1 := 62) (v1 := .ref (ga g 36)) (enM_12 (c := 0) rfl) (Nat.le_of_ble_eq_true rfl) rfl inX12 (by decide) wf_X12_121 rfl dX12_listenerIs_27 ?_
        refine x_iload_n C 1 rfl rfl dX12_listenerIs_30 ?_
        obtain ⟨hi11, h⟩ := h
        refine x_iald C 0 (c := 36) (enM_20n (c := 36) (n := 10) rfl rfl) (Nat.le_of_ble_eq_true rfl) rfl hi11 dX12_listenerIs_31 ?_
        refine x_iconst C (v1 := (-1)) dX12_listenerIs_32 (by decide) ?_
        refine x_icmp_ne C (tgt := 41) dX12_listenerIs_33 (by decide) (fun hq12 => ?_) (fun hq12 => ?_)
        · replace h := x_iff hq12 h
          refine x_aload_n C 0 rfl rfl dX12_listenerIs_41 ?_
          refine x_get C (c := 0) (ci := 12) (k1 := 62) (v1 := .ref (ga g 36)) (enM_12 (c := 0) rfl) (Nat.le_of_ble_eq_true rfl) rfl inX12 (by decide) wf_X12_121 rfl dX12_listenerIs_42 ?_
          refine x_iload_n C 1 rfl rfl dX12_listenerIs_45 ?_
          obtain ⟨hi13, h⟩ := h
          refine x_iald C 0 (c := 36) (enM_20n (c := 36) (n := 10) rfl rfl) (Nat.le_of_ble_eq_true rfl) rfl hi13 dX12_listenerIs_46 ?_
          refine x_goto C (tgt := 70) dX12_listenerIs_47 (by decide) ?_
          exact x_iret C dX12_listenerIs_70 ⟨_, rfl, h⟩
        · replace h := x_ift hq12 h
          refine x_bipush C (v1 := (-2)) dX12_listenerIs_36 (by decide) ?_
          refine x_goto C (tgt := 70) dX12_listenerIs_38 (by decide) ?_
          exact x_iret C dX12_listenerIs_70 ⟨_, rfl, h⟩
    · replace h := x_ift hq6 h
      refine x_iconst C (v1 := (-1)) dX12_listenerIs_20 (by decide) ?_
      exact x_iret C dX12_listenerIs_21 ⟨_, rfl, h⟩
set_option maxHeartbeats 4000000 in
set_option maxRecDepth 100000 in
theorem tX12_laysLeftOut_154 {g : xG} (hg : x_inj (WM g))  {x : xCx}  {K58 : Int32 → Int32 → xMem → Prop} {K66 : Int32 → Int32 → Int32 → xMem → Prop} {post : xMem → Prop} (C : xOk (WM g) x cX12_laysLeftOut RX12 8 none (rm_X12_laysLeftOut) (pV post))  (hK58 : ∀ (x1 : Int32) (x4 : Int32) (M : xMem), K58 x1 x4 M → xW (WM g) x 8 58 [(0, .ref (ga g 0)), (1, .int x1), (4, .int x4)] [] M) (hK66 : ∀ (x1 : Int32) (x4 : Int32) (x5 : Int32) (M : xMem), K66 x1 x4 x5 M → xW (WM g) x 8 66 [(0, .ref (ga g 0)), (1, .int x1), (4, .int x4), (5, .int x5)] [] M) (x1 : Int32) (x4 : Int32) (x5 : Int32) (s0 : Int32) (s1 : Int32) (M : xMem)  (h : wX12_laysLeftOut_154 K58 K66 post x1 x4 x5 s0 s1 M) : xW (WM g) x 8 154 [(0, .ref (ga g 0)), (1, .int x1), (4, .int x4), (5, .int x5)] [.int s0, .int s1, .ref (ga g 55)] M := by
  unfold wX12_laysLeftOut_154 at h
  obtain ⟨hi1, h⟩ := h
  refine x_iast C 0 (c := 55) (enM_20n (c := 55) (n := 74752) rfl rfl) (Nat.le_of_ble_eq_true rfl) rfl hi1 dX12_laysLeftOut_154 ?_
  refine x_nmM (fun M2 eM2 => ?_)
  replace h := h M2 eM2
  obtain ⟨v3, ev3⟩ : ∃ z : Int32, z = x5 + 1 := ⟨_, rfl⟩
  replace h := h v3 ev3
  refine x_iinc C 3 (v1 := v3) (L' := [(5, .int v3), (0, .ref (ga g 0)), (1, .int x1), (4, .int x4)]) rfl (by rw [ev3]; rfl) rfl (Nat.le_of_ble_eq_true rfl) dX12_laysLeftOut_155 ?_
  refine x_goto C (tgt := 66) dX12_laysLeftOut_158 (by decide) ?_
  refine x_loc (L' := [(0, .ref (ga g 0)), (1, .int x1), (4, .int x4), (5, .int v3)]) [1, 2, 3, 0] rfl ?_
  exact hK66 _ _ _ _  h
set_option maxHeartbeats 4000000 in
set_option maxRecDepth 100000 in
theorem tX12_laysLeftOut_66 {g : xG} (hg : x_inj (WM g))  {x : xCx}  {K58 : Int32 → Int32 → xMem → Prop} {post : xMem → Prop} (C : xOk (WM g) x cX12_laysLeftOut RX12 8 none (rm_X12_laysLeftOut) (pV post))  (hK58 : ∀ (x1 : Int32) (x4 : Int32) (M : xMem), K58 x1 x4 M → xW (WM g) x 8 58 [(0, .ref (ga g 0)), (1, .int x1), (4, .int x4)] [] M) : ∀ (n : Nat) (x1 : Int32) (x4 : Int32) (x5 : Int32) (M : xMem), wX12_laysLeftOut_66 K58 post n x1 x4 x5 M → xW (WM g) x 8 66 [(0, .ref (ga g 0)), (1, .int x1), (4, .int x4), (5, .int x5)] [] M := by
  intro n
  induction n with
  | zero =>
    intro x1 x4 x5 M  h
    exact h.elim
  | succ n ih =>
    intro x1 x4 x5 M  h
    rw [wX12_laysLeftOut_66] at h
    refine x_iload C 3 rfl dX12_laysLeftOut_66 ?_
    refine x_sipush C (v1 := 1023) dX12_laysLeftOut_68 (by decide) ?_
    refine x_icmp_gt C (tgt := 161) dX12_laysLeftOut_71 (by decide) (fun hq1 => ?_) (fun hq1 => ?_)
    · replace h := x_ift hq1 h
      obtain ⟨v2, ev2⟩ : ∃ z : Int32, z = x4 + (-1) := ⟨_, rfl⟩
      replace h := h v2 ev2
      refine x_iinc C 2 (v1 := v2) (L' := [(4, .int v2), (0, .ref (ga g 0)), (1, .int x1), (5, .int x5)]) rfl (by rw [ev2]; rfl) rfl (Nat.le_of_ble_eq_true rfl) dX12_laysLeftOut_161 ?_
      refine x_goto C (tgt := 58) dX12_laysLeftOut_164 (by decide) ?_
      refine x_loc (L' := [(0, .ref (ga g 0)), (1, .int x1), (4, .int v2)]) [1, 2, 0] rfl ?_
      exact hK58 _ _ _  h
    · replace h := x_iff hq1 h
      refine x_aload_n C 0 rfl rfl dX12_laysLeftOut_74 ?_
      refine x_get C (c := 0) (ci := 12) (k1 := 96) (v1 := .ref (ga g 55)) (enM_12 (c := 0) rfl) (Nat.le_of_ble_eq_true rfl) rfl inX12 (by decide) wf_X12_179 rfl dX12_laysLeftOut_75 ?_
      refine x_sipush C (v1 := 1024) dX12_laysLeftOut_78 (by decide) ?_
      refine x_iload C 2 rfl dX12_laysLeftOut_81 ?_
      refine x_iconst C (v1 := 1) dX12_laysLeftOut_83 (by decide) ?_
      refine x_iadd C dX12_laysLeftOut_84 ?_
      refine x_imul C dX12_laysLeftOut_85 ?_
      refine x_iload C 3 rfl dX12_laysLeftOut_86 ?_
      refine x_aload_n C 0 rfl rfl dX12_laysLeftOut_88 ?_
      refine x_get C (c := 0) (ci := 12) (k1 := 12) (v1 := .ref (ga g 4)) (enM_12 (c := 0) rfl) (Nat.le_of_ble_eq_true rfl) rfl inX12 (by decide) wf_X12_25 rfl dX12_laysLeftOut_89 ?_
      refine x_bipush C (v1 := 72) dX12_laysLeftOut_92 (by decide) ?_
      refine x_iload_n C 1 rfl rfl dX12_laysLeftOut_94 ?_
      refine x_imul C dX12_laysLeftOut_95 ?_
      refine x_iload C 2 rfl dX12_laysLeftOut_96 ?_
      refine x_iadd C dX12_laysLeftOut_98 ?_
      obtain ⟨hi3, h⟩ := h
      refine x_iald C 0 (c := 4) (enM_20n (c := 4) (n := 432) rfl rfl) (Nat.le_of_ble_eq_true rfl) rfl hi3 dX12_laysLeftOut_99 ?_
      refine x_callS C (st := [.int (1024 * (x4 + 1)), .ref (ga g 55)]) (As := [.int x5, .int (gi M 4 ((72 * x1) + x4).toNatClampNeg)]) (tX12_turned hg _ _ _ _ _  h) wm_X12_275 wsm_X12_turned wz_X12 wc_X12_turned yd_X12_turned rfl ⟨rfl, rfl⟩ ⟨Nat.le_of_ble_eq_true rfl, Nat.le_of_ble_eq_true rfl⟩ (Nat.le_of_ble_eq_true rfl) rfl dX12_laysLeftOut_100 (x_ki (fun r5 M4 h => ?_))
      refine x_iadd C dX12_laysLeftOut_103 ?_
      obtain ⟨hi6, h⟩ := h
      refine x_iald C 0 (c := 55) (enM_20n (c := 55) (n := 74752) rfl rfl) (Nat.le_of_ble_eq_true rfl) rfl hi6 dX12_laysLeftOut_104 ?_
      refine x_nm (fun v7 ev7 => ?_)
      replace h := h v7 ev7
      refine x_istore C (L' := [(6, .int v7), (0, .ref (ga g 0)), (1, .int x1), (4, .int x4), (5, .int x5)]) rfl (Nat.le_of_ble_eq_true rfl) dX12_laysLeftOut_105 ?_
      refine x_aload_n C 1 rfl rfl dX12_laysLeftOut_107 ?_
      refine x_get C (c := 0) (ci := 12) (k1 := 96) (v1 := .ref (ga g 55)) (enM_12 (c := 0) rfl) (Nat.le_of_ble_eq_true rfl) rfl inX12 (by decide) wf_X12_179 rfl dX12_laysLeftOut_108 ?_
      refine x_sipush C (v1 := 1024) dX12_laysLeftOut_111 (by decide) ?_
      refine x_iload C 3 rfl dX12_laysLeftOut_114 ?_
      refine x_iconst C (v1 := 1) dX12_laysLeftOut_116 (by decide) ?_
      refine x_iadd C dX12_laysLeftOut_117 ?_
      refine x_imul C dX12_laysLeftOut_118 ?_
      refine x_iload C 4 rfl dX12_laysLeftOut_119 ?_
      refine x_iadd C dX12_laysLeftOut_121 ?_
      obtain ⟨hi8, h⟩ := h
      refine x_iald C 0 (c := 55) (enM_20n (c := 55) (n := 74752) rfl rfl) (Nat.le_of_ble_eq_true rfl) rfl hi8 dX12_laysLeftOut_122 ?_
      refine x_iconst C (v1 := 1) dX12_laysLeftOut_123 (by decide) ?_
      refine x_iadd C dX12_laysLeftOut_124 ?_
      refine x_nm (fun v9 ev9 => ?_)
      replace h := h v9 ev9
      refine x_istore C (L' := [(7, .int v9), (6, .int v7), (0, .ref (ga g 0)), (1, .int x1), (4, .int x4), (5, .int x5)]) rfl (Nat.le_of_ble_eq_true rfl) dX12_laysLeftOut_125 ?_
      refine x_aload_n C 2 rfl rfl dX12_laysLeftOut_127 ?_
      refine x_get C (c := 0) (ci := 12) (k1 := 96) (v1 := .ref (ga g 55)) (enM_12 (c := 0) rfl) (Nat.le_of_ble_eq_true rfl) rfl inX12 (by decide) wf_X12_179 rfl dX12_laysLeftOut_128 ?_
      refine x_sipush C (v1 := 1024) dX12_laysLeftOut_131 (by decide) ?_
      refine x_iload C 4 rfl dX12_laysLeftOut_134 ?_
      refine x_imul C dX12_laysLeftOut_136 ?_
      refine x_iload C 5 rfl dX12_laysLeftOut_137 ?_
      refine x_iadd C dX12_laysLeftOut_139 ?_
      refine x_iload C 1 rfl dX12_laysLeftOut_140 ?_
      refine x_iload C 0 rfl dX12_laysLeftOut_142 ?_
      refine x_icmp_ge C (tgt := 152) dX12_laysLeftOut_144 (by decide) (fun hq10 => ?_) (fun hq10 => ?_)
      · replace h := x_ift hq10 h
        refine x_iload C 0 rfl dX12_laysLeftOut_152 ?_
        refine x_loc (L' := [(0, .ref (ga g 0)), (1, .int x1), (4, .int x4), (5, .int x5)]) [2, 3, 4, 5] rfl ?_
        exact tX12_laysLeftOut_154 hg  C  hK58 ih _ _ _ _ _ _  h
      · replace h := x_iff hq10 h
        refine x_iload C 1 rfl dX12_laysLeftOut_147 ?_
        refine x_goto C (tgt := 154) dX12_laysLeftOut_149 (by decide) ?_
        refine x_loc (L' := [(0, .ref (ga g 0)), (1, .int x1), (4, .int x4), (5, .int x5)]) [2, 3, 4, 5] rfl ?_
        exact tX12_laysLeftOut_154 hg  C  hK58 ih _ _ _ _ _ _  h
set_option maxHeartbeats 4000000 in
set_option maxRecDepth 100000 in
theorem tX12_laysLeftOut_58 {g : xG} (hg : x_inj (WM g))  {x : xCx}   {post : xMem → Prop} (C : xOk (WM g) x cX12_laysLeftOut RX12 8 none (rm_X12_laysLeftOut) (pV post))   : ∀ (n : Nat) (x1 : Int32) (x4 : Int32) (M : xMem), wX12_laysLeftOut_58 post n x1 x4 M → xW (WM g) x 8 58 [(0, .ref (ga g 0)), (1, .int x1), (4, .int x4)] [] M := by
  intro n
  induction n with
  | zero =>
    intro x1 x4 M  h
    exact h.elim
  | succ n ih =>
    intro x1 x4 M  h
    rw [wX12_laysLeftOut_58] at h
    refine x_iload C 2 rfl dX12_laysLeftOut_58 ?_
    refine x_if_lt C (tgt := 167) dX12_laysLeftOut_60 (by decide) (fun hq1 => ?_) (fun hq1 => ?_)
    · replace h := x_ift hq1 h
      exact x_vret C dX12_laysLeftOut_167 ⟨rfl, h⟩
    · replace h := x_iff hq1 h
      refine x_iconst C (v1 := 0) dX12_laysLeftOut_63 (by decide) ?_
      refine x_istore C (L' := [(5, .int 0), (0, .ref (ga g 0)), (1, .int x1), (4, .int x4)]) rfl (Nat.le_of_ble_eq_true rfl) dX12_laysLeftOut_64 ?_
      refine x_loc (L' := [(0, .ref (ga g 0)), (1, .int x1), (4, .int x4), (5, .int 0)]) [1, 2, 3, 0] rfl ?_
      obtain ⟨n66, h⟩ := h
      exact tX12_laysLeftOut_66 hg  C  ih _ _ _ _ _  h
set_option maxHeartbeats 4000000 in
set_option maxRecDepth 100000 in
theorem tX12_laysLeftOut_46 {g : xG} (hg : x_inj (WM g))  {x : xCx}  {K10 : Int32 → Int32 → Int32 → Int32 → xMem → Prop} {post : xMem → Prop} (C : xOk (WM g) x cX12_laysLeftOut RX12 8 none (rm_X12_laysLeftOut) (pV post))  (hK10 : ∀ (x1 : Int32) (x2 : Int32) (x3 : Int32) (x4 : Int32) (M : xMem), K10 x1 x2 x3 x4 M → xW (WM g) x 8 10 [(0, .ref (ga g 0)), (1, .int x1), (2, .int x2), (3, .int x3), (4, .int x4)] [] M) (x1 : Int32) (x2 : Int32) (x3 : Int32) (x4 : Int32) (s0 : Int32) (s1 : Int32) (M : xMem)  (h : wX12_laysLeftOut_46 K10 post x1 x2 x3 x4 s0 s1 M) : xW (WM g) x 8 46 [(0, .ref (ga g 0)), (1, .int x1), (2, .int x2), (3, .int x3), (4, .int x4)] [.int s0, .int s1, .ref (ga g 55)] M := by
  unfold wX12_laysLeftOut_46 at h
  obtain ⟨hi1, h⟩ := h
  refine x_iast C 0 (c := 55) (enM_20n (c := 55) (n := 74752) rfl rfl) (Nat.le_of_ble_eq_true rfl) rfl hi1 dX12_laysLeftOut_46 ?_
  refine x_nmM (fun M2 eM2 => ?_)
  replace h := h M2 eM2
  obtain ⟨v3, ev3⟩ : ∃ z : Int32, z = x4 + 1 := ⟨_, rfl⟩
  replace h := h v3 ev3
  refine x_iinc C 4 (v1 := v3) (L' := [(4, .int v3), (0, .ref (ga g 0)), (1, .int x1), (2, .int x2), (3, .int x3)]) rfl (by rw [ev3]; rfl) rfl (Nat.le_of_ble_eq_true rfl) dX12_laysLeftOut_47 ?_
  refine x_goto C (tgt := 10) dX12_laysLeftOut_50 (by decide) ?_
  refine x_loc (L' := [(0, .ref (ga g 0)), (1, .int x1), (2, .int x2), (3, .int x3), (4, .int v3)]) [1, 2, 3, 4, 0] rfl ?_
  exact hK10 _ _ _ _ _  h
set_option maxHeartbeats 4000000 in
set_option maxRecDepth 100000 in
theorem tX12_laysLeftOut_10 {g : xG} (hg : x_inj (WM g))  {x : xCx}   {post : xMem → Prop} (C : xOk (WM g) x cX12_laysLeftOut RX12 8 none (rm_X12_laysLeftOut) (pV post))   : ∀ (n : Nat) (x1 : Int32) (x2 : Int32) (x3 : Int32) (x4 : Int32) (M : xMem), wX12_laysLeftOut_10 post n x1 x2 x3 x4 M → xW (WM g) x 8 10 [(0, .ref (ga g 0)), (1, .int x1), (2, .int x2), (3, .int x3), (4, .int x4)] [] M := by
  intro n
  induction n with
  | zero =>
    intro x1 x2 x3 x4 M  h
    exact h.elim
  | succ n ih =>
    intro x1 x2 x3 x4 M  h
    rw [wX12_laysLeftOut_10] at h
    refine x_iload C 4 rfl dX12_laysLeftOut_10 ?_
    refine x_sipush C (v1 := 1023) dX12_laysLeftOut_12 (by decide) ?_
    refine x_icmp_gt C (tgt := 53) dX12_laysLeftOut_15 (by decide) (fun hq1 => ?_) (fun hq1 => ?_)
    · replace h := x_ift hq1 h
      refine x_iload_n C 3 rfl rfl dX12_laysLeftOut_53 ?_
      refine x_iconst C (v1 := 1) dX12_laysLeftOut_54 (by decide) ?_
      refine x_isub C dX12_laysLeftOut_55 ?_
      refine x_nm (fun v2 ev2 => ?_)
      replace h := h v2 ev2
      refine x_istore C (L' := [(4, .int v2), (0, .ref (ga g 0)), (1, .int x1), (2, .int x2), (3, .int x3)]) rfl (Nat.le_of_ble_eq_true rfl) dX12_laysLeftOut_56 ?_
      refine x_loc (L' := [(0, .ref (ga g 0)), (1, .int x1), (4, .int v2)]) [1, 2, 0] rfl ?_
      obtain ⟨n58, h⟩ := h
      exact tX12_laysLeftOut_58 hg  C   _ _ _ _  h
    · replace h := x_iff hq1 h
      refine x_aload_n C 0 rfl rfl dX12_laysLeftOut_18 ?_
      refine x_get C (c := 0) (ci := 12) (k1 := 96) (v1 := .ref (ga g 55)) (enM_12 (c := 0) rfl) (Nat.le_of_ble_eq_true rfl) rfl inX12 (by decide) wf_X12_179 rfl dX12_laysLeftOut_19 ?_
      refine x_sipush C (v1 := 1024) dX12_laysLeftOut_22 (by decide) ?_
      refine x_iload_n C 3 rfl rfl dX12_laysLeftOut_25 ?_
      refine x_imul C dX12_laysLeftOut_26 ?_
      refine x_iload C 4 rfl dX12_laysLeftOut_27 ?_
      refine x_iadd C dX12_laysLeftOut_29 ?_
      refine x_iload C 4 rfl dX12_laysLeftOut_30 ?_
      refine x_iload_n C 2 rfl rfl dX12_laysLeftOut_32 ?_
      refine x_iconst C (v1 := (-1)) dX12_laysLeftOut_33 (by decide) ?_
      refine x_ixor C dX12_laysLeftOut_34 ?_
      refine x_iand C dX12_laysLeftOut_35 ?_
      refine x_if_ne C (tgt := 43) dX12_laysLeftOut_36 (by decide) (fun hq3 => ?_) (fun hq3 => ?_)
      · replace h := x_iff hq3 h
        refine x_ldc_w C (v1 := 1000000000) (wco_X12_476) dX12_laysLeftOut_43 ?_
        exact tX12_laysLeftOut_46 hg  C  ih _ _ _ _ _ _ _  h
      · replace h := x_ift hq3 h
        refine x_iconst C (v1 := 0) dX12_laysLeftOut_39 (by decide) ?_
        refine x_goto C (tgt := 46) dX12_laysLeftOut_40 (by decide) ?_
        exact tX12_laysLeftOut_46 hg  C  ih _ _ _ _ _ _ _  h
set_option maxHeartbeats 4000000 in
set_option maxRecDepth 100000 in
theorem tX12_laysLeftOut {g : xG} (hg : x_inj (WM g))  (l : Launch) (a0 : Int32) (a1 : Int32) (M : xMem) (post : xMem → Prop)  (h : wX12_laysLeftOut a0 a1 M post) : xMet (WM g) l yX12_laysLeftOut cX12_laysLeftOut 8 none (rm_X12_laysLeftOut) [.ref (ga g 0), .int a0, .int a1] M (pV post) := by
  refine x_enter (own := RX12) (L0 := [(0, .ref (ga g 0)), (1, .int a0), (2, .int a1)]) (by decide +kernel) rfl hg (x_stM g) (Nat.le_of_ble_eq_true rfl) rfl (fun x hl C => ?_)
  unfold wX12_laysLeftOut at h
  refine x_aload_n C 0 rfl rfl dX12_laysLeftOut_0 ?_
  refine x_get C (c := 0) (ci := 12) (k1 := 11) (v1 := .ref (ga g 3)) (enM_12 (c := 0) rfl) (Nat.le_of_ble_eq_true rfl) rfl inX12 (by decide) wf_X12_21 rfl dX12_laysLeftOut_1 ?_
  refine x_iload_n C 1 rfl rfl dX12_laysLeftOut_4 ?_
  obtain ⟨hi1, h⟩ := h
  refine x_iald C 0 (c := 3) (enM_20n (c := 3) (n := 6) rfl rfl) (Nat.le_of_ble_eq_true rfl) rfl hi1 dX12_laysLeftOut_5 ?_
  refine x_nm (fun v2 ev2 => ?_)
  replace h := h v2 ev2
  refine x_istore_n C (L' := [(3, .int v2), (0, .ref (ga g 0)), (1, .int a0), (2, .int a1)]) rfl rfl (Nat.le_of_ble_eq_true rfl) dX12_laysLeftOut_6 ?_
  refine x_iconst C (v1 := 0) dX12_laysLeftOut_7 (by decide) ?_
  refine x_istore C (L' := [(4, .int 0), (3, .int v2), (0, .ref (ga g 0)), (1, .int a0), (2, .int a1)]) rfl (Nat.le_of_ble_eq_true rfl) dX12_laysLeftOut_8 ?_
  refine x_loc (L' := [(0, .ref (ga g 0)), (1, .int a0), (2, .int a1), (3, .int v2), (4, .int 0)]) [2, 3, 4, 1, 0] rfl ?_
  obtain ⟨n10, h⟩ := h
  exact tX12_laysLeftOut_10 hg  C   _ _ _ _ _ _  h
set_option maxHeartbeats 4000000 in
set_option maxRecDepth 100000 in
theorem tX12_fitting_151 {g : xG} (hg : x_inj (WM g))  {x : xCx}  {K71 : Int32 → Int32 → Int32 → Int32 → Int32 → xMem → Prop} {post : Int32 → xMem → Prop} (C : xOk (WM g) x cX12_fitting RX12 7 (some .int) (rm_X12_fitting) (pI post))  (hK71 : ∀ (x1 : Int32) (x3 : Int32) (x4 : Int32) (x5 : Int32) (x6 : Int32) (M : xMem), K71 x1 x3 x4 x5 x6 M → xW (WM g) x 7 71 [(0, .ref (ga g 0)), (1, .int x1), (3, .int x3), (4, .int x4), (5, .int x5), (6, .int x6)] [] M) (x1 : Int32) (x3 : Int32) (x4 : Int32) (x5 : Int32) (x6 : Int32) (M : xMem)  (h : wX12_fitting_151 K71 post x1 x3 x4 x5 x6 M) : xW (WM g) x 7 151 [(0, .ref (ga g 0)), (1, .int x1), (3, .int x3), (4, .int x4), (5, .int x5), (6, .int x6)] [] M := by
  unfold wX12_fitting_151 at h
  obtain ⟨v1, ev1⟩ : ∃ z : Int32, z = x6 + 1 := ⟨_, rfl⟩
  replace h := h v1 ev1
  refine x_iinc C 5 (v1 := v1) (L' := [(6, .int v1), (0, .ref (ga g 0)), (1, .int x1), (3, .int x3), (4, .int x4), (5, .int x5)]) rfl (by rw [ev1]; rfl) rfl (Nat.le_of_ble_eq_true rfl) dX12_fitting_151 ?_
  refine x_goto C (tgt := 71) dX12_fitting_154 (by decide) ?_
  refine x_loc (L' := [(0, .ref (ga g 0)), (1, .int x1), (3, .int x3), (4, .int x4), (5, .int x5), (6, .int v1)]) [1, 2, 3, 4, 5, 0] rfl ?_
  exact hK71 _ _ _ _ _ _  h
set_option maxHeartbeats 4000000 in
set_option maxRecDepth 100000 in
theorem tX12_fitting_71 {g : xG} (hg : x_inj (WM g))  {x : xCx}   {post : Int32 → xMem → Prop} (C : xOk (WM g) x cX12_fitting RX12 7 (some .int) (rm_X12_fitting) (pI post))   : ∀ (n : Nat) (x1 : Int32) (x3 : Int32) (x4 : Int32) (x5 : Int32) (x6 : Int32) (M : xMem), wX12_fitting_71 post n x1 x3 x4 x5 x6 M → xW (WM g) x 7 71 [(0, .ref (ga g 0)), (1, .int x1), (3, .int x3), (4, .int x4), (5, .int x5), (6, .int x6)] [] M := by
  intro n
  induction n with
  | zero =>
    intro x1 x3 x4 x5 x6 M  h
    exact h.elim
  | succ n ih =>
    intro x1 x3 x4 x5 x6 M  h
    rw [wX12_fitting_71] at h
    refine x_iload C 5 rfl dX12_fitting_71 ?_
    refine x_aload_n C 0 rfl rfl dX12_fitting_73 ?_
    refine x_get C (c := 0) (ci := 12) (k1 := 11) (v1 := .ref (ga g 3)) (enM_12 (c := 0) rfl) (Nat.le_of_ble_eq_true rfl) rfl inX12 (by decide) wf_X12_21 rfl dX12_fitting_74 ?_
    refine x_iload_n C 1 rfl rfl dX12_fitting_77 ?_
    obtain ⟨hi1, h⟩ := h
    refine x_iald C 0 (c := 3) (enM_20n (c := 3) (n := 6) rfl rfl) (Nat.le_of_ble_eq_true rfl) rfl hi1 dX12_fitting_78 ?_
    refine x_icmp_ge C (tgt := 157) dX12_fitting_79 (by decide) (fun hq2 => ?_) (fun hq2 => ?_)
    · replace h := x_ift hq2 h
      refine x_bipush C (v1 := (-4)) dX12_fitting_157 (by decide) ?_
      exact x_iret C dX12_fitting_159 ⟨_, rfl, h⟩
    · replace h := x_iff hq2 h
      refine x_aload_n C 0 rfl rfl dX12_fitting_82 ?_
      refine x_get C (c := 0) (ci := 12) (k1 := 96) (v1 := .ref (ga g 55)) (enM_12 (c := 0) rfl) (Nat.le_of_ble_eq_true rfl) rfl inX12 (by decide) wf_X12_179 rfl dX12_fitting_83 ?_
      refine x_sipush C (v1 := 1024) dX12_fitting_86 (by decide) ?_
      refine x_iload C 5 rfl dX12_fitting_89 ?_
      refine x_iconst C (v1 := 1) dX12_fitting_91 (by decide) ?_
      refine x_iadd C dX12_fitting_92 ?_
      refine x_imul C dX12_fitting_93 ?_
      refine x_iload C 3 rfl dX12_fitting_94 ?_
      refine x_iadd C dX12_fitting_96 ?_
      obtain ⟨hi3, h⟩ := h
      refine x_iald C 0 (c := 55) (enM_20n (c := 55) (n := 74752) rfl rfl) (Nat.le_of_ble_eq_true rfl) rfl hi3 dX12_fitting_97 ?_
      refine x_iconst C (v1 := 1) dX12_fitting_98 (by decide) ?_
      refine x_iadd C dX12_fitting_99 ?_
      refine x_aload_n C 0 rfl rfl dX12_fitting_100 ?_
      refine x_get C (c := 0) (ci := 12) (k1 := 96) (v1 := .ref (ga g 55)) (enM_12 (c := 0) rfl) (Nat.le_of_ble_eq_true rfl) rfl inX12 (by decide) wf_X12_179 rfl dX12_fitting_101 ?_
      refine x_sipush C (v1 := 1024) dX12_fitting_104 (by decide) ?_
      refine x_iload C 5 rfl dX12_fitting_107 ?_
      refine x_imul C dX12_fitting_109 ?_
      refine x_iload C 3 rfl dX12_fitting_110 ?_
      refine x_iadd C dX12_fitting_112 ?_
      obtain ⟨hi4, h⟩ := h
      refine x_iald C 0 (c := 55) (enM_20n (c := 55) (n := 74752) rfl rfl) (Nat.le_of_ble_eq_true rfl) rfl hi4 dX12_fitting_113 ?_
      refine x_icmp_ne C (tgt := 132) dX12_fitting_114 (by decide) (fun hq5 => ?_) (fun hq5 => ?_)
      · replace h := x_iff hq5 h
        refine x_iload C 3 rfl dX12_fitting_132 ?_
        refine x_aload_n C 0 rfl rfl dX12_fitting_134 ?_
        refine x_get C (c := 0) (ci := 12) (k1 := 12) (v1 := .ref (ga g 4)) (enM_12 (c := 0) rfl) (Nat.le_of_ble_eq_true rfl) rfl inX12 (by decide) wf_X12_25 rfl dX12_fitting_135 ?_
        refine x_bipush C (v1 := 72) dX12_fitting_138 (by decide) ?_
        refine x_iload_n C 1 rfl rfl dX12_fitting_140 ?_
        refine x_imul C dX12_fitting_141 ?_
        refine x_iload C 5 rfl dX12_fitting_142 ?_
        refine x_iadd C dX12_fitting_144 ?_
        obtain ⟨hi6, h⟩ := h
        refine x_iald C 0 (c := 4) (enM_20n (c := 4) (n := 432) rfl rfl) (Nat.le_of_ble_eq_true rfl) rfl hi6 dX12_fitting_145 ?_
        refine x_callS C (st := []) (As := [.int x4, .int (gi M 4 ((72 * x1) + x6).toNatClampNeg)]) (tX12_turned hg _ _ _ _ _  h) wm_X12_275 wsm_X12_turned wz_X12 wc_X12_turned yd_X12_turned rfl ⟨rfl, rfl⟩ ⟨Nat.le_of_ble_eq_true rfl, Nat.le_of_ble_eq_true rfl⟩ (Nat.le_of_ble_eq_true rfl) rfl dX12_fitting_146 (x_ki (fun r8 M7 h => ?_))
        refine x_istore C (L' := [(4, .int r8), (0, .ref (ga g 0)), (1, .int x1), (3, .int x3), (5, .int x5), (6, .int x6)]) rfl (Nat.le_of_ble_eq_true rfl) dX12_fitting_149 ?_
        refine x_loc (L' := [(0, .ref (ga g 0)), (1, .int x1), (3, .int x3), (4, .int r8), (5, .int x5), (6, .int x6)]) [1, 2, 3, 0, 4, 5] rfl ?_
        exact tX12_fitting_151 hg  C  ih _ _ _ _ _ _  h
      · replace h := x_ift hq5 h
        refine x_iload C 4 rfl dX12_fitting_117 ?_
        refine x_iload_n C 2 rfl rfl dX12_fitting_119 ?_
        refine x_icmp_ne C (tgt := 126) dX12_fitting_120 (by decide) (fun hq9 => ?_) (fun hq9 => ?_)
        · replace h := x_iff hq9 h
          obtain ⟨v10, ev10⟩ : ∃ z : Int32, z = x5 + 1 := ⟨_, rfl⟩
          replace h := h v10 ev10
          refine x_iinc C 4 (v1 := v10) (L' := [(5, .int v10), (0, .ref (ga g 0)), (1, .int x1), (3, .int x3), (4, .int x4), (6, .int x6)]) rfl (by rw [ev10]; rfl) rfl (Nat.le_of_ble_eq_true rfl) dX12_fitting_126 ?_
          refine x_goto C (tgt := 151) dX12_fitting_129 (by decide) ?_
          refine x_loc (L' := [(0, .ref (ga g 0)), (1, .int x1), (3, .int x3), (4, .int x4), (5, .int v10), (6, .int x6)]) [1, 2, 3, 4, 0, 5] rfl ?_
          exact tX12_fitting_151 hg  C  ih _ _ _ _ _ _  h
        · replace h := x_ift hq9 h
          refine x_iload C 5 rfl dX12_fitting_123 ?_
          exact x_iret C dX12_fitting_125 ⟨_, rfl, h⟩
set_option maxHeartbeats 4000000 in
set_option maxRecDepth 100000 in
theorem tX12_fitting {g : xG} (hg : x_inj (WM g))  (l : Launch) (a0 : Int32) (a1 : Int32) (a2 : Int32) (M : xMem) (post : Int32 → xMem → Prop)  (h : wX12_fitting a0 a1 a2 M post) : xMet (WM g) l yX12_fitting cX12_fitting 7 (some .int) (rm_X12_fitting) [.ref (ga g 0), .int a0, .int a1, .int a2] M (pI post) := by
  refine x_enter (own := RX12) (L0 := [(0, .ref (ga g 0)), (1, .int a0), (2, .int a1), (3, .int a2)]) (by decide +kernel) rfl hg (x_stM g) (Nat.le_of_ble_eq_true rfl) rfl (fun x hl C => ?_)
  unfold wX12_fitting at h
  refine x_aload_n C 0 rfl rfl dX12_fitting_0 ?_
  refine x_iload_n C 1 rfl rfl dX12_fitting_1 ?_
  refine x_callV C (st := []) (As := [.int a0]) (c := 0) (ci := 12) (enM_12 (c := 0) rfl) (Nat.le_of_ble_eq_true rfl) rfl (tX12_isTold hg _ _ _ _  h) wm_X12_279 wi_X12_isTold wv_X12_isTold wz_X12 wc_X12_isTold rfl yd_X12_isTold rfl ⟨rfl, rfl⟩ ⟨Nat.le_of_ble_eq_true rfl, Nat.le_of_ble_eq_true rfl⟩ (Nat.le_of_ble_eq_true rfl) rfl dX12_fitting_2 (x_ki (fun r2 M1 h => ?_))
  refine x_if_eq C (tgt := 20) dX12_fitting_5 (by decide) (fun hq3 => ?_) (fun hq3 => ?_)
  · replace h := x_ift hq3 h
    refine x_iconst C (v1 := (-1)) dX12_fitting_20 (by decide) ?_
    exact x_iret C dX12_fitting_21 ⟨_, rfl, h⟩
  · replace h := x_iff hq3 h
    refine x_iload_n C 2 rfl rfl dX12_fitting_8 ?_
    refine x_i2l C dX12_fitting_9 ?_
    refine x_lconst C (v1 := 0) dX12_fitting_10 (by decide) ?_
    refine x_ldc2 C (v1 := 1023) (wcl_X12_283) dX12_fitting_11 ?_
    refine x_callS C (st := []) (As := [.long ((a1 : Int32).toInt64), .long 0, .long 1023]) (tX12_lies hg _ _ _ _ _ _  h) wm_X12_222 wsm_X12_lies wz_X12 wc_X12_lies yd_X12_lies rfl ⟨rfl, rfl⟩ ⟨Nat.le_of_ble_eq_true rfl, Nat.le_of_ble_eq_true rfl⟩ (Nat.le_of_ble_eq_true rfl) rfl dX12_fitting_14 (x_ki (fun r5 M4 h => ?_))
    refine x_if_ne C (tgt := 22) dX12_fitting_17 (by decide) (fun hq6 => ?_) (fun hq6 => ?_)
    · replace h := x_iff hq6 h
      refine x_aload_n C 0 rfl rfl dX12_fitting_22 ?_
      refine x_iload_n C 1 rfl rfl dX12_fitting_23 ?_
      refine x_iload_n C 2 rfl rfl dX12_fitting_24 ?_
      refine x_callV C (st := []) (As := [.int a0, .int a1]) (c := 0) (ci := 12) (enM_12 (c := 0) rfl) (Nat.le_of_ble_eq_true rfl) rfl (tX12_laysLeftOut hg _ _ _ _ _  h) wm_X12_580 wi_X12_laysLeftOut wv_X12_laysLeftOut wz_X12 wc_X12_laysLeftOut rfl yd_X12_laysLeftOut rfl ⟨rfl, rfl⟩ ⟨Nat.le_of_ble_eq_true rfl, Nat.le_of_ble_eq_true rfl⟩ (Nat.le_of_ble_eq_true rfl) rfl dX12_fitting_25 (x_kv (fun M7 h => ?_))
      refine x_iload_n C 3 rfl rfl dX12_fitting_28 ?_
      refine x_bipush C (v1 := 100) dX12_fitting_29 (by decide) ?_
      refine x_icmp_ne C (tgt := 41) dX12_fitting_31 (by decide) (fun hq8 => ?_) (fun hq8 => ?_)
      · replace h := x_iff hq8 h
        refine x_iload_n C 3 rfl rfl dX12_fitting_41 ?_
        refine x_i2l C dX12_fitting_42 ?_
        refine x_lconst C (v1 := 0) dX12_fitting_43 (by decide) ?_
        refine x_aload_n C 0 rfl rfl dX12_fitting_44 ?_
        refine x_get C (c := 0) (ci := 12) (k1 := 96) (v1 := .ref (ga g 55)) (enM_12 (c := 0) rfl) (Nat.le_of_ble_eq_true rfl) rfl inX12 (by decide) wf_X12_179 rfl dX12_fitting_45 ?_
        refine x_iconst C (v1 := 0) dX12_fitting_48 (by decide) ?_
        obtain ⟨hi9, h⟩ := h
        refine x_iald C 0 (c := 55) (enM_20n (c := 55) (n := 74752) rfl rfl) (Nat.le_of_ble_eq_true rfl) rfl hi9 dX12_fitting_49 ?_
        refine x_iconst C (v1 := 1) dX12_fitting_50 (by decide) ?_
        refine x_isub C dX12_fitting_51 ?_
        refine x_i2l C dX12_fitting_52 ?_
        refine x_callS C (st := []) (As := [.long ((a2 : Int32).toInt64), .long 0, .long (((gi M7 55 0) - 1 : Int32).toInt64)]) (tX12_lies hg _ _ _ _ _ _  h) wm_X12_222 wsm_X12_lies wz_X12 wc_X12_lies yd_X12_lies rfl ⟨rfl, rfl⟩ ⟨Nat.le_of_ble_eq_true rfl, Nat.le_of_ble_eq_true rfl⟩ (Nat.le_of_ble_eq_true rfl) rfl dX12_fitting_53 (x_ki (fun r11 M10 h => ?_))
        refine x_if_ne C (tgt := 62) dX12_fitting_56 (by decide) (fun hq12 => ?_) (fun hq12 => ?_)
        · replace h := x_iff hq12 h
          refine x_iconst C (v1 := 0) dX12_fitting_62 (by decide) ?_
          refine x_istore C (L' := [(4, .int 0), (0, .ref (ga g 0)), (1, .int a0), (2, .int a1), (3, .int a2)]) rfl (Nat.le_of_ble_eq_true rfl) dX12_fitting_63 ?_
          refine x_iconst C (v1 := 0) dX12_fitting_65 (by decide) ?_
          refine x_istore C (L' := [(5, .int 0), (4, .int 0), (0, .ref (ga g 0)), (1, .int a0), (2, .int a1), (3, .int a2)]) rfl (Nat.le_of_ble_eq_true rfl) dX12_fitting_66 ?_
          refine x_iconst C (v1 := 0) dX12_fitting_68 (by decide) ?_
          refine x_istore C (L' := [(6, .int 0), (5, .int 0), (4, .int 0), (0, .ref (ga g 0)), (1, .int a0), (2, .int a1), (3, .int a2)]) rfl (Nat.le_of_ble_eq_true rfl) dX12_fitting_69 ?_
          refine x_loc (L' := [(0, .ref (ga g 0)), (1, .int a0), (3, .int a2), (4, .int 0), (5, .int 0), (6, .int 0)]) [3, 4, 6, 2, 1, 0] rfl ?_
          obtain ⟨n71, h⟩ := h
          exact tX12_fitting_71 hg  C   _ _ _ _ _ _ _  h
        · replace h := x_ift hq12 h
          refine x_bipush C (v1 := (-4)) dX12_fitting_59 (by decide) ?_
          exact x_iret C dX12_fitting_61 ⟨_, rfl, h⟩
      · replace h := x_ift hq8 h
        refine x_aload_n C 0 rfl rfl dX12_fitting_34 ?_
        refine x_get C (c := 0) (ci := 12) (k1 := 96) (v1 := .ref (ga g 55)) (enM_12 (c := 0) rfl) (Nat.le_of_ble_eq_true rfl) rfl inX12 (by decide) wf_X12_179 rfl dX12_fitting_35 ?_
        refine x_iconst C (v1 := 0) dX12_fitting_38 (by decide) ?_
        obtain ⟨hi13, h⟩ := h
        refine x_iald C 0 (c := 55) (enM_20n (c := 55) (n := 74752) rfl rfl) (Nat.le_of_ble_eq_true rfl) rfl hi13 dX12_fitting_39 ?_
        exact x_iret C dX12_fitting_40 ⟨_, rfl, h⟩
    · replace h := x_ift hq6 h
      refine x_iconst C (v1 := (-1)) dX12_fitting_20 (by decide) ?_
      exact x_iret C dX12_fitting_21 ⟨_, rfl, h⟩
set_option maxHeartbeats 4000000 in
set_option maxRecDepth 100000 in
theorem tX12_wouldDo_110 {g : xG} (hg : x_inj (WM g))  {x : xCx}  {K44 : Int32 → Int32 → Int32 → Int32 → Int32 → Int32 → Int32 → xMem → Prop} {post : Int32 → xMem → Prop} (C : xOk (WM g) x cX12_wouldDo RX12 9 (some .int) (rm_X12_wouldDo) (pI post))  (hK44 : ∀ (x1 : Int32) (x2 : Int32) (x3 : Int32) (x4 : Int32) (x5 : Int32) (x6 : Int32) (x7 : Int32) (M : xMem), K44 x1 x2 x3 x4 x5 x6 x7 M → xW (WM g) x 9 44 [(0, .ref (ga g 0)), (1, .int x1), (2, .int x2), (3, .int x3), (4, .int x4), (5, .int x5), (6, .int x6), (7, .int x7)] [] M) (x1 : Int32) (x2 : Int32) (x3 : Int32) (x4 : Int32) (x5 : Int32) (x6 : Int32) (x7 : Int32) (M : xMem)  (h : wX12_wouldDo_110 K44 post x1 x2 x3 x4 x5 x6 x7 M) : xW (WM g) x 9 110 [(0, .ref (ga g 0)), (1, .int x1), (2, .int x2), (3, .int x3), (4, .int x4), (5, .int x5), (6, .int x6), (7, .int x7)] [] M := by
  unfold wX12_wouldDo_110 at h
  obtain ⟨v1, ev1⟩ : ∃ z : Int32, z = x7 + 1 := ⟨_, rfl⟩
  replace h := h v1 ev1
  refine x_iinc C 7 (v1 := v1) (L' := [(7, .int v1), (0, .ref (ga g 0)), (1, .int x1), (2, .int x2), (3, .int x3), (4, .int x4), (5, .int x5), (6, .int x6)]) rfl (by rw [ev1]; rfl) rfl (Nat.le_of_ble_eq_true rfl) dX12_wouldDo_110 ?_
  refine x_goto C (tgt := 44) dX12_wouldDo_113 (by decide) ?_
  refine x_loc (L' := [(0, .ref (ga g 0)), (1, .int x1), (2, .int x2), (3, .int x3), (4, .int x4), (5, .int x5), (6, .int x6), (7, .int v1)]) [1, 2, 3, 4, 5, 6, 7, 0] rfl ?_
  exact hK44 _ _ _ _ _ _ _ _  h
set_option maxHeartbeats 4000000 in
set_option maxRecDepth 100000 in
theorem tX12_wouldDo_104 {g : xG} (hg : x_inj (WM g))  {x : xCx}  {K44 : Int32 → Int32 → Int32 → Int32 → Int32 → Int32 → Int32 → xMem → Prop} {post : Int32 → xMem → Prop} (C : xOk (WM g) x cX12_wouldDo RX12 9 (some .int) (rm_X12_wouldDo) (pI post))  (hK44 : ∀ (x1 : Int32) (x2 : Int32) (x3 : Int32) (x4 : Int32) (x5 : Int32) (x6 : Int32) (x7 : Int32) (M : xMem), K44 x1 x2 x3 x4 x5 x6 x7 M → xW (WM g) x 9 44 [(0, .ref (ga g 0)), (1, .int x1), (2, .int x2), (3, .int x3), (4, .int x4), (5, .int x5), (6, .int x6), (7, .int x7)] [] M) (x1 : Int32) (x2 : Int32) (x3 : Int32) (x4 : Int32) (x7 : Int32) (s0 : Int32) (M : xMem)  (h : wX12_wouldDo_104 K44 post x1 x2 x3 x4 x7 s0 M) : xW (WM g) x 9 104 [(0, .ref (ga g 0)), (1, .int x1), (2, .int x2), (3, .int x3), (4, .int x4), (7, .int x7)] [.int s0] M := by
  unfold wX12_wouldDo_104 at h
  refine x_istore C (L' := [(5, .int s0), (0, .ref (ga g 0)), (1, .int x1), (2, .int x2), (3, .int x3), (4, .int x4), (7, .int x7)]) rfl (Nat.le_of_ble_eq_true rfl) dX12_wouldDo_104 ?_
  refine x_iload C 6 rfl dX12_wouldDo_106 ?_
  refine x_istore C (L' := [(6, .int x7), (5, .int s0), (0, .ref (ga g 0)), (1, .int x1), (2, .int x2), (3, .int x3), (4, .int x4), (7, .int x7)]) rfl (Nat.le_of_ble_eq_true rfl) dX12_wouldDo_108 ?_
  refine x_loc (L' := [(0, .ref (ga g 0)), (1, .int x1), (2, .int x2), (3, .int x3), (4, .int x4), (5, .int s0), (6, .int x7), (7, .int x7)]) [2, 3, 4, 5, 6, 1, 0, 7] rfl ?_
  exact tX12_wouldDo_110 hg  C  hK44 _ _ _ _ _ _ _ _  h
set_option maxHeartbeats 4000000 in
set_option maxRecDepth 100000 in
theorem tX12_wouldDo_44 {g : xG} (hg : x_inj (WM g))  {x : xCx}   {post : Int32 → xMem → Prop} (C : xOk (WM g) x cX12_wouldDo RX12 9 (some .int) (rm_X12_wouldDo) (pI post))   : ∀ (n : Nat) (x1 : Int32) (x2 : Int32) (x3 : Int32) (x4 : Int32) (x5 : Int32) (x6 : Int32) (x7 : Int32) (M : xMem), wX12_wouldDo_44 post n x1 x2 x3 x4 x5 x6 x7 M → xW (WM g) x 9 44 [(0, .ref (ga g 0)), (1, .int x1), (2, .int x2), (3, .int x3), (4, .int x4), (5, .int x5), (6, .int x6), (7, .int x7)] [] M := by
  intro n
  induction n with
  | zero =>
    intro x1 x2 x3 x4 x5 x6 x7 M  h
    exact h.elim
  | succ n ih =>
    intro x1 x2 x3 x4 x5 x6 x7 M  h
    rw [wX12_wouldDo_44] at h
    refine x_iload C 7 rfl dX12_wouldDo_44 ?_
    refine x_aload_n C 0 rfl rfl dX12_wouldDo_46 ?_
    refine x_get C (c := 0) (ci := 12) (k1 := 11) (v1 := .ref (ga g 3)) (enM_12 (c := 0) rfl) (Nat.le_of_ble_eq_true rfl) rfl inX12 (by decide) wf_X12_21 rfl dX12_wouldDo_47 ?_
    refine x_iload_n C 1 rfl rfl dX12_wouldDo_50 ?_
    obtain ⟨hi1, h⟩ := h
    refine x_iald C 0 (c := 3) (enM_20n (c := 3) (n := 6) rfl rfl) (Nat.le_of_ble_eq_true rfl) rfl hi1 dX12_wouldDo_51 ?_
    refine x_icmp_gt C (tgt := 116) dX12_wouldDo_52 (by decide) (fun hq2 => ?_) (fun hq2 => ?_)
    · replace h := x_ift hq2 h
      refine x_iload_n C 3 rfl rfl dX12_wouldDo_116 ?_
      refine x_if_ne C (tgt := 125) dX12_wouldDo_117 (by decide) (fun hq3 => ?_) (fun hq3 => ?_)
      · replace h := x_iff hq3 h
        refine x_iload_n C 3 rfl rfl dX12_wouldDo_125 ?_
        refine x_iconst C (v1 := 1) dX12_wouldDo_126 (by decide) ?_
        refine x_icmp_ne C (tgt := 135) dX12_wouldDo_127 (by decide) (fun hq4 => ?_) (fun hq4 => ?_)
        · replace h := x_iff hq4 h
          refine x_iload C 6 rfl dX12_wouldDo_135 ?_
          exact x_iret C dX12_wouldDo_137 ⟨_, rfl, h⟩
        · replace h := x_ift hq4 h
          refine x_iload C 5 rfl dX12_wouldDo_130 ?_
          refine x_goto C (tgt := 137) dX12_wouldDo_132 (by decide) ?_
          exact x_iret C dX12_wouldDo_137 ⟨_, rfl, h⟩
      · replace h := x_ift hq3 h
        refine x_iload C 4 rfl dX12_wouldDo_120 ?_
        refine x_goto C (tgt := 137) dX12_wouldDo_122 (by decide) ?_
        exact x_iret C dX12_wouldDo_137 ⟨_, rfl, h⟩
    · replace h := x_iff hq2 h
      refine x_aload_n C 0 rfl rfl dX12_wouldDo_55 ?_
      refine x_iload_n C 1 rfl rfl dX12_wouldDo_56 ?_
      refine x_iload C 7 rfl dX12_wouldDo_57 ?_
      refine x_iconst C (v1 := 0) dX12_wouldDo_59 (by decide) ?_
      refine x_callV C (st := []) (As := [.int x1, .int x7, .int 0]) (c := 0) (ci := 12) (enM_12 (c := 0) rfl) (Nat.le_of_ble_eq_true rfl) rfl (tX12_openBehind hg _ _ _ _ _ _  h) wm_X12_285 wi_X12_openBehind wv_X12_openBehind wz_X12 wc_X12_openBehind rfl yd_X12_openBehind rfl ⟨rfl, rfl⟩ ⟨Nat.le_of_ble_eq_true rfl, Nat.le_of_ble_eq_true rfl⟩ (Nat.le_of_ble_eq_true rfl) rfl dX12_wouldDo_60 (x_ki (fun r6 M5 h => ?_))
      refine x_istore C (L' := [(8, .int r6), (0, .ref (ga g 0)), (1, .int x1), (2, .int x2), (3, .int x3), (4, .int x4), (5, .int x5), (6, .int x6), (7, .int x7)]) rfl (Nat.le_of_ble_eq_true rfl) dX12_wouldDo_63 ?_
      refine x_iload C 0 rfl dX12_wouldDo_65 ?_
      refine x_if_eq C (tgt := 110) dX12_wouldDo_67 (by decide) (fun hq7 => ?_) (fun hq7 => ?_)
      · replace h := x_ift hq7 h
        refine x_loc (L' := [(0, .ref (ga g 0)), (1, .int x1), (2, .int x2), (3, .int x3), (4, .int x4), (5, .int x5), (6, .int x6), (7, .int x7)]) [1, 2, 3, 4, 5, 6, 7, 8] rfl ?_
        exact tX12_wouldDo_110 hg  C  ih _ _ _ _ _ _ _ _  h
      · replace h := x_iff hq7 h
        refine x_iload C 0 rfl dX12_wouldDo_70 ?_
        refine x_aload_n C 1 rfl rfl dX12_wouldDo_72 ?_
        refine x_get C (c := 0) (ci := 12) (k1 := 52) (v1 := .ref (ga g 26)) (enM_12 (c := 0) rfl) (Nat.le_of_ble_eq_true rfl) rfl inX12 (by decide) wf_X12_91 rfl dX12_wouldDo_73 ?_
        refine x_iload_n C 3 rfl rfl dX12_wouldDo_76 ?_
        obtain ⟨hi8, h⟩ := h
        refine x_iald C 0 (c := 26) (enM_20n (c := 26) (n := 10) rfl rfl) (Nat.le_of_ble_eq_true rfl) rfl hi8 dX12_wouldDo_77 ?_
        refine x_iconst C (v1 := (-1)) dX12_wouldDo_78 (by decide) ?_
        refine x_ixor C dX12_wouldDo_79 ?_
        refine x_iand C dX12_wouldDo_80 ?_
        refine x_if_eq C (tgt := 87) dX12_wouldDo_81 (by decide) (fun hq9 => ?_) (fun hq9 => ?_)
        · replace h := x_ift hq9 h
          obtain ⟨v10, ev10⟩ : ∃ z : Int32, z = x4 + 1 := ⟨_, rfl⟩
          replace h := h v10 ev10
          refine x_iinc C 5 (v1 := v10) (L' := [(4, .int v10), (8, .int r6), (0, .ref (ga g 0)), (1, .int x1), (2, .int x2), (3, .int x3), (5, .int x5), (6, .int x6), (7, .int x7)]) rfl (by rw [ev10]; rfl) rfl (Nat.le_of_ble_eq_true rfl) dX12_wouldDo_87 ?_
          refine x_iload C 6 rfl dX12_wouldDo_90 ?_
          refine x_bipush C (v1 := (-2)) dX12_wouldDo_92 (by decide) ?_
          refine x_icmp_ne C (tgt := 102) dX12_wouldDo_94 (by decide) (fun hq11 => ?_) (fun hq11 => ?_)
          · replace h := x_iff hq11 h
            refine x_iload C 6 rfl dX12_wouldDo_102 ?_
            refine x_loc (L' := [(0, .ref (ga g 0)), (1, .int x1), (2, .int x2), (3, .int x3), (4, .int v10), (7, .int x7)]) [2, 3, 4, 5, 0, 8] rfl ?_
            exact tX12_wouldDo_104 hg  C  ih _ _ _ _ _ _ _  h
          · replace h := x_ift hq11 h
            refine x_iload C 8 rfl dX12_wouldDo_97 ?_
            refine x_goto C (tgt := 104) dX12_wouldDo_99 (by decide) ?_
            refine x_loc (L' := [(0, .ref (ga g 0)), (1, .int x1), (2, .int x2), (3, .int x3), (4, .int v10), (7, .int x7)]) [2, 3, 4, 5, 0, 8] rfl ?_
            exact tX12_wouldDo_104 hg  C  ih _ _ _ _ _ _ _  h
        · replace h := x_iff hq9 h
          refine x_goto C (tgt := 110) dX12_wouldDo_84 (by decide) ?_
          refine x_loc (L' := [(0, .ref (ga g 0)), (1, .int x1), (2, .int x2), (3, .int x3), (4, .int x4), (5, .int x5), (6, .int x6), (7, .int x7)]) [1, 2, 3, 4, 5, 6, 7, 8] rfl ?_
          exact tX12_wouldDo_110 hg  C  ih _ _ _ _ _ _ _ _  h
set_option maxHeartbeats 4000000 in
set_option maxRecDepth 100000 in
theorem tX12_wouldDo {g : xG} (hg : x_inj (WM g))  (l : Launch) (a0 : Int32) (a1 : Int32) (a2 : Int32) (M : xMem) (post : Int32 → xMem → Prop)  (h : wX12_wouldDo a0 a1 a2 M post) : xMet (WM g) l yX12_wouldDo cX12_wouldDo 9 (some .int) (rm_X12_wouldDo) [.ref (ga g 0), .int a0, .int a1, .int a2] M (pI post) := by
  refine x_enter (own := RX12) (L0 := [(0, .ref (ga g 0)), (1, .int a0), (2, .int a1), (3, .int a2)]) (by decide +kernel) rfl hg (x_stM g) (Nat.le_of_ble_eq_true rfl) rfl (fun x hl C => ?_)
  unfold wX12_wouldDo at h
  refine x_aload_n C 0 rfl rfl dX12_wouldDo_0 ?_
  refine x_iload_n C 1 rfl rfl dX12_wouldDo_1 ?_
  refine x_callV C (st := []) (As := [.int a0]) (c := 0) (ci := 12) (enM_12 (c := 0) rfl) (Nat.le_of_ble_eq_true rfl) rfl (tX12_isTold hg _ _ _ _  h) wm_X12_279 wi_X12_isTold wv_X12_isTold wz_X12 wc_X12_isTold rfl yd_X12_isTold rfl ⟨rfl, rfl⟩ ⟨Nat.le_of_ble_eq_true rfl, Nat.le_of_ble_eq_true rfl⟩ (Nat.le_of_ble_eq_true rfl) rfl dX12_wouldDo_2 (x_ki (fun r2 M1 h => ?_))
  refine x_if_eq C (tgt := 28) dX12_wouldDo_5 (by decide) (fun hq3 => ?_) (fun hq3 => ?_)
  · replace h := x_ift hq3 h
    refine x_iconst C (v1 := (-1)) dX12_wouldDo_28 (by decide) ?_
    exact x_iret C dX12_wouldDo_29 ⟨_, rfl, h⟩
  · replace h := x_iff hq3 h
    refine x_aload_n C 0 rfl rfl dX12_wouldDo_8 ?_
    refine x_iload_n C 2 rfl rfl dX12_wouldDo_9 ?_
    refine x_callV C (st := []) (As := [.int a1]) (c := 0) (ci := 12) (enM_12 (c := 0) rfl) (Nat.le_of_ble_eq_true rfl) rfl (tX12_isThere hg _ _ _ _  h) wm_X12_499 wi_X12_isThere wv_X12_isThere wz_X12 wc_X12_isThere rfl yd_X12_isThere rfl ⟨rfl, rfl⟩ ⟨Nat.le_of_ble_eq_true rfl, Nat.le_of_ble_eq_true rfl⟩ (Nat.le_of_ble_eq_true rfl) rfl dX12_wouldDo_10 (x_ki (fun r5 M4 h => ?_))
    refine x_if_eq C (tgt := 28) dX12_wouldDo_13 (by decide) (fun hq6 => ?_) (fun hq6 => ?_)
    · replace h := x_ift hq6 h
      refine x_iconst C (v1 := (-1)) dX12_wouldDo_28 (by decide) ?_
      exact x_iret C dX12_wouldDo_29 ⟨_, rfl, h⟩
    · replace h := x_iff hq6 h
      refine x_iload_n C 3 rfl rfl dX12_wouldDo_16 ?_
      refine x_i2l C dX12_wouldDo_17 ?_
      refine x_lconst C (v1 := 0) dX12_wouldDo_18 (by decide) ?_
      refine x_ldc2 C (v1 := 2) (wcl_X12_578) dX12_wouldDo_19 ?_
      refine x_callS C (st := []) (As := [.long ((a2 : Int32).toInt64), .long 0, .long 2]) (tX12_lies hg _ _ _ _ _ _  h) wm_X12_222 wsm_X12_lies wz_X12 wc_X12_lies yd_X12_lies rfl ⟨rfl, rfl⟩ ⟨Nat.le_of_ble_eq_true rfl, Nat.le_of_ble_eq_true rfl⟩ (Nat.le_of_ble_eq_true rfl) rfl dX12_wouldDo_22 (x_ki (fun r8 M7 h => ?_))
      refine x_if_ne C (tgt := 30) dX12_wouldDo_25 (by decide) (fun hq9 => ?_) (fun hq9 => ?_)
      · replace h := x_iff hq9 h
        refine x_iconst C (v1 := 0) dX12_wouldDo_30 (by decide) ?_
        refine x_istore C (L' := [(4, .int 0), (0, .ref (ga g 0)), (1, .int a0), (2, .int a1), (3, .int a2)]) rfl (Nat.le_of_ble_eq_true rfl) dX12_wouldDo_31 ?_
        refine x_bipush C (v1 := (-2)) dX12_wouldDo_33 (by decide) ?_
        refine x_istore C (L' := [(5, .int (-2)), (4, .int 0), (0, .ref (ga g 0)), (1, .int a0), (2, .int a1), (3, .int a2)]) rfl (Nat.le_of_ble_eq_true rfl) dX12_wouldDo_35 ?_
        refine x_bipush C (v1 := (-2)) dX12_wouldDo_37 (by decide) ?_
        refine x_istore C (L' := [(6, .int (-2)), (5, .int (-2)), (4, .int 0), (0, .ref (ga g 0)), (1, .int a0), (2, .int a1), (3, .int a2)]) rfl (Nat.le_of_ble_eq_true rfl) dX12_wouldDo_39 ?_
        refine x_iconst C (v1 := 0) dX12_wouldDo_41 (by decide) ?_
        refine x_istore C (L' := [(7, .int 0), (6, .int (-2)), (5, .int (-2)), (4, .int 0), (0, .ref (ga g 0)), (1, .int a0), (2, .int a1), (3, .int a2)]) rfl (Nat.le_of_ble_eq_true rfl) dX12_wouldDo_42 ?_
        refine x_loc (L' := [(0, .ref (ga g 0)), (1, .int a0), (2, .int a1), (3, .int a2), (4, .int 0), (5, .int (-2)), (6, .int (-2)), (7, .int 0)]) [4, 5, 6, 7, 3, 2, 1, 0] rfl ?_
        obtain ⟨n44, h⟩ := h
        exact tX12_wouldDo_44 hg  C   _ _ _ _ _ _ _ _ _  h
      · replace h := x_ift hq9 h
        refine x_iconst C (v1 := (-1)) dX12_wouldDo_28 (by decide) ?_
        exact x_iret C dX12_wouldDo_29 ⟨_, rfl, h⟩
