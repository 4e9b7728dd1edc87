abbrev rm_X12_takesSome : Room := { frames := 1, cells := 0, slots := 0, locals := 21 }
theorem yd_X12_takesSome : yX12_takesSome.cls ≠ "java/lang/invoke/MethodHandle" ∧ yX12_takesSome.cls ≠ "java/lang/invoke/VarHandle" ∧ (parseMethodDescriptor yX12_takesSome.desc).map (fun d => d.parameters.length) = some 1 := by decide +kernel
def wX12_takesSome_31   (K4 : Int32 → Int32 → Int32 → xMem → Prop) (post : Int32 → xMem → Prop) (x1 : Int32) (x2 : Int32) (x3 : Int32) (M : xMem) : Prop :=
    ∀ v1 : Int32, v1 = x3 + 1 →
    K4 x1 x2 v1 M
def wX12_takesSome_4    (post : Int32 → xMem → Prop) : Nat → Int32 → Int32 → Int32 → xMem → Prop
  | 0 => fun _ _ _ _ => False
  | n + 1 => fun x1 x2 x3 M =>
      if 10 ≤ x3 then (
        post x2 M)
      else (
        wX12_has x1 x3 M (fun r3 M2 =>
          if r3 = 0 then (
            wX12_takesSome_31 (wX12_takesSome_4 post n) post x1 x2 x3 M2)
          else (
            vp_in x2 10 ∧
            ∀ M6 : xMem, M6 = si M2 56 x2.toNatClampNeg x3 →
            ∀ v7 : Int32, v7 = x2 + 1 →
            wX12_takesSome_31 (wX12_takesSome_4 post n) post x1 v7 x3 M6)))
def wX12_takesSome  (a0 : Int32) (M : xMem) (post : Int32 → xMem → Prop) : Prop :=
    ∃ n4 : Nat, wX12_takesSome_4 post n4 a0 0 0 M
abbrev rm_X12_areStories : Room := { frames := 1, cells := 0, slots := 0, locals := 25 }
theorem yd_X12_areStories : yX12_areStories.cls ≠ "java/lang/invoke/MethodHandle" ∧ yX12_areStories.cls ≠ "java/lang/invoke/VarHandle" ∧ (parseMethodDescriptor yX12_areStories.desc).map (fun d => d.parameters.length) = some 3 := by decide +kernel
def wX12_areStories_60   (K32 : Int32 → Int32 → xMem → Prop) (post : Int32 → xMem → Prop) (x1 : Int32) (x4 : Int32) (M : xMem) : Prop :=
    ∀ v1 : Int32, v1 = x4 + 1 →
    K32 x1 v1 M
def wX12_areStories_32    (post : Int32 → xMem → Prop) : Nat → Int32 → Int32 → xMem → Prop
  | 0 => fun _ _ _ => False
  | n + 1 => fun x1 x4 M =>
      if 6 ≤ x4 then (
        post 1 M)
      else (
        wX12_has x1 x4 M (fun r3 M2 =>
          if r3 = 0 then (
            wX12_areStories_60 (wX12_areStories_32 post n) post x1 x4 M2)
          else (
            vp_in x4 6 ∧
            if (gi M2 2 x4.toNatClampNeg) = 0 then (
              post 0 M2)
            else (
              wX12_areStories_60 (wX12_areStories_32 post n) post x1 x4 M2))))
def wX12_areStories  (a0 : Int32) (a1 : Int32) (a2 : Int32) (M : xMem) (post : Int32 → xMem → Prop) : Prop :=
    wX12_lies ((a0 : Int32).toInt64) 1 63 M (fun r2 M1 =>
      if r2 = 0 then (
        post 0 M1)
      else (
        wX12_sizeOf a0 M1 (fun r5 M4 =>
          wX12_lies ((r5 : Int32).toInt64) ((a1 : Int32).toInt64) ((a2 : Int32).toInt64) M4 (fun r7 M6 =>
            if r7 = 0 then (
              post 0 M6)
            else (
              ∃ n32 : Nat, wX12_areStories_32 post n32 a0 0 M6)))))
abbrev rm_X12_powerOf : Room := { frames := 0, cells := 0, slots := 0, locals := 0 }
theorem yd_X12_powerOf : yX12_powerOf.cls ≠ "java/lang/invoke/MethodHandle" ∧ yX12_powerOf.cls ≠ "java/lang/invoke/VarHandle" ∧ (parseMethodDescriptor yX12_powerOf.desc).map (fun d => d.parameters.length) = some 2 := by decide +kernel
def wX12_powerOf_4    (post : Int32 → xMem → Prop) : Nat → Int32 → Int32 → Int32 → Int32 → xMem → Prop
  | 0 => fun _ _ _ _ _ => False
  | n + 1 => fun x0 x1 x2 x3 M =>
      if x1 ≤ x3 then (
        post x2 M)
      else (
        ∀ v2 : Int32, v2 = x2 * x0 →
        ∀ v3 : Int32, v3 = x3 + 1 →
        wX12_powerOf_4 post n x0 x1 v2 v3 M)
def wX12_powerOf  (a0 : Int32) (a1 : Int32) (M : xMem) (post : Int32 → xMem → Prop) : Prop :=
    ∃ n4 : Nat, wX12_powerOf_4 post n4 a0 a1 1 0 M
abbrev rm_X12_opensRow : Room := { frames := 0, cells := 0, slots := 0, locals := 0 }
theorem yd_X12_opensRow : yX12_opensRow.cls ≠ "java/lang/invoke/MethodHandle" ∧ yX12_opensRow.cls ≠ "java/lang/invoke/VarHandle" ∧ (parseMethodDescriptor yX12_opensRow.desc).map (fun d => d.parameters.length) = some 3 := by decide +kernel
def wX12_opensRow_8    (post : xMem → Prop) : Nat → Int32 → Int32 → Int32 → xMem → Prop
  | 0 => fun _ _ _ _ => False
  | n + 1 => fun x3 x4 x5 M =>
      if x5 < 0 then (
        post M)
      else (
        ¬ (x3 : Int32) = 0 ∧
        vp_in x5 8 ∧
        ∀ M4 : xMem, M4 = si M 57 x5.toNatClampNeg (x4 - x4 / x3 * x3) →
        ¬ (x3 : Int32) = 0 ∧
        ∀ v6 : Int32, v6 = x4 / x3 →
        ∀ v7 : Int32, v7 = x5 + (-1) →
        wX12_opensRow_8 post n x3 v6 v7 M4)
def wX12_opensRow  (a0 : Int32) (a1 : Int32) (a2 : Int32) (M : xMem) (post : xMem → Prop) : Prop :=
    ∀ v1 : Int32, v1 = a1 - 1 →
    ∃ n8 : Nat, wX12_opensRow_8 post n8 a2 a0 v1 M
abbrev rm_X12_isOrder : Room := { frames := 0, cells := 0, slots := 0, locals := 0 }
theorem yd_X12_isOrder : yX12_isOrder.cls ≠ "java/lang/invoke/MethodHandle" ∧ yX12_isOrder.cls ≠ "java/lang/invoke/VarHandle" ∧ (parseMethodDescriptor yX12_isOrder.desc).map (fun d => d.parameters.length) = some 1 := by decide +kernel
def wX12_isOrder_4    (post : Int32 → xMem → Prop) : Nat → Int32 → Int32 → Int32 → xMem → Prop
  | 0 => fun _ _ _ _ => False
  | n + 1 => fun x1 x2 x3 M =>
      if x1 ≤ x3 then (
        if x2 = ((1 <<< (x1 &&& 31)) - 1) then (
          post 1 M)
        else (
          post 0 M))
      else (
        vp_in x3 8 ∧
        ∀ v4 : Int32, v4 = x2 ||| (1 <<< ((gi M 57 x3.toNatClampNeg) &&& 31)) →
        ∀ v5 : Int32, v5 = x3 + 1 →
        wX12_isOrder_4 post n x1 v4 v5 M)
def wX12_isOrder  (a0 : Int32) (M : xMem) (post : Int32 → xMem → Prop) : Prop :=
    ∃ n4 : Nat, wX12_isOrder_4 post n4 a0 0 0 M
abbrev rm_X12_opennessOf : Room := { frames := 1, cells := 0, slots := 0, locals := 22 }
theorem yd_X12_opennessOf : yX12_opennessOf.cls ≠ "java/lang/invoke/MethodHandle" ∧ yX12_opennessOf.cls ≠ "java/lang/invoke/VarHandle" ∧ (parseMethodDescriptor yX12_opennessOf.desc).map (fun d => d.parameters.length) = some 1 := by decide +kernel
def wX12_opennessOf_76   (K7 : Int32 → Int32 → Int32 → Int32 → xMem → Prop) (K30 : Int32 → Int32 → Int32 → Int32 → Int32 → Int32 → xMem → Prop) (post : Int32 → xMem → Prop) (x1 : Int32) (x2 : Int32) (x4 : Int32) (x5 : Int32) (x6 : Int32) (s0 : Int32) (M : xMem) : Prop :=
    ∀ v1 : Int32, v1 = x6 + 1 →
    K30 x1 x2 s0 x4 x5 v1 M
def wX12_opennessOf_30   (K7 : Int32 → Int32 → Int32 → Int32 → xMem → Prop) (post : Int32 → xMem → Prop) : Nat → Int32 → Int32 → Int32 → Int32 → Int32 → Int32 → xMem → Prop
  | 0 => fun _ _ _ _ _ _ _ => False
  | n + 1 => fun x1 x2 x3 x4 x5 x6 M =>
      vp_in x5 6 ∧
      if (gi M 3 x5.toNatClampNeg) ≤ x6 then (
        ∀ v3 : Int32, v3 = x4 + 1 →
        K7 x1 x2 x3 v3 M)
      else (
        vp_in ((72 * x5) + x6) 432 ∧
        wX12_turned x2 (gi M 4 ((72 * x5) + x6).toNatClampNeg) M (fun r6 M5 =>
          wX12_sizeOf r6 M5 (fun r8 M7 =>
            if r8 ≤ x3 then (
              wX12_opennessOf_76 K7 (wX12_opennessOf_30 K7 post n) post x1 r6 x4 x5 x6 x3 M7)
            else (
              wX12_sizeOf r6 M7 (fun r11 M10 =>
                wX12_opennessOf_76 K7 (wX12_opennessOf_30 K7 post n) post x1 r6 x4 x5 x6 r11 M10)))))
def wX12_opennessOf_7    (post : Int32 → xMem → Prop) : Nat → Int32 → Int32 → Int32 → Int32 → xMem → Prop
  | 0 => fun _ _ _ _ _ => False
  | n + 1 => fun x1 x2 x3 x4 M =>
      if x1 ≤ x4 then (
        wX12_sizeOf x2 M (fun r3 M2 =>
          post ((100 * x3) + r3) M2))
      else (
        vp_in x4 8 ∧
        vp_in (gi M 57 x4.toNatClampNeg) 10 ∧
        ∀ v6 : Int32, v6 = gi M 56 (gi M 57 x4.toNatClampNeg).toNatClampNeg →
        ∃ n30 : Nat, wX12_opennessOf_30 (wX12_opennessOf_7 post n) post n30 x1 x2 x3 x4 v6 0 M)
def wX12_opennessOf  (a0 : Int32) (M : xMem) (post : Int32 → xMem → Prop) : Prop :=
    ∃ n7 : Nat, wX12_opennessOf_7 post n7 a0 0 0 0 M
abbrev rm_X12_series : Room := { frames := 2, cells := 0, slots := 0, locals := 49 }
theorem yd_X12_series : yX12_series.cls ≠ "java/lang/invoke/MethodHandle" ∧ yX12_series.cls ≠ "java/lang/invoke/VarHandle" ∧ (parseMethodDescriptor yX12_series.desc).map (fun d => d.parameters.length) = some 2 := by decide +kernel
def wX12_series_129   (K54 : Int32 → Int32 → Int32 → Int32 → xMem → Prop) (post : Int32 → xMem → Prop) (x2 : Int32) (x3 : Int32) (x4 : Int32) (x5 : Int32) (M : xMem) : Prop :=
    ∀ v1 : Int32, v1 = x5 + 1 →
    K54 x2 x3 x4 v1 M
def wX12_series_103   (K54 : Int32 → Int32 → Int32 → Int32 → xMem → Prop) (post : Int32 → xMem → Prop) : Nat → Int32 → Int32 → Int32 → Int32 → Int32 → xMem → Prop
  | 0 => fun _ _ _ _ _ _ => False
  | n + 1 => fun x2 x3 x4 x5 x6 M =>
      if x3 ≤ x6 then (
        wX12_series_129 K54 post x2 x3 x4 x5 M)
      else (
        vp_in x6 8 ∧
        vp_in x6 8 ∧
        ∀ M4 : xMem, M4 = si M 58 x6.toNatClampNeg (gi M 57 x6.toNatClampNeg) →
        ∀ v5 : Int32, v5 = x6 + 1 →
        wX12_series_103 K54 post n x2 x3 x4 x5 v5 M4)
def wX12_series_54    (post : Int32 → xMem → Prop) : Nat → Int32 → Int32 → Int32 → Int32 → xMem → Prop
  | 0 => fun _ _ _ _ _ => False
  | n + 1 => fun x2 x3 x4 x5 M =>
      wX12_powerOf x3 x3 M (fun r2 M1 =>
        if r2 ≤ x5 then (
          if x2 = 20 then (
            ¬ (100 : Int32) = 0 ∧
            post (x4 / 100) M1)
          else (
            if x2 = 21 then (
              ¬ (100 : Int32) = 0 ∧
              post (x4 - x4 / 100 * 100) M1)
            else (
              vp_in x2 8 ∧
              vp_in (gi M1 58 x2.toNatClampNeg) 10 ∧
              post (gi M1 56 (gi M1 58 x2.toNatClampNeg).toNatClampNeg) M1)))
        else (
          wX12_opensRow x5 x3 x3 M1 (fun M10 =>
            wX12_isOrder x3 M10 (fun r12 M11 =>
              if r12 = 0 then (
                wX12_series_129 (wX12_series_54 post n) post x2 x3 x4 x5 M11)
              else (
                wX12_opennessOf x3 M11 (fun r15 M14 =>
                  if r15 < x4 then (
                    wX12_opennessOf x3 M14 (fun r18 M17 =>
                      ∃ n103 : Nat, wX12_series_103 (wX12_series_54 post n) post n103 x2 x3 r18 x5 0 M17))
                  else (
                    wX12_series_129 (wX12_series_54 post n) post x2 x3 x4 x5 M14)))))))
def wX12_series_40    (post : Int32 → xMem → Prop) (x1 : Int32) (x2 : Int32) (M : xMem) : Prop :=
    wX12_takesSome x1 M (fun r2 M1 =>
      ∃ n54 : Nat, wX12_series_54 post n54 x2 r2 1000000000 0 M1)
def wX12_series  (a0 : Int32) (a1 : Int32) (M : xMem) (post : Int32 → xMem → Prop) : Prop :=
    wX12_areStories a0 2 5 M (fun r2 M1 =>
      if r2 = 0 then (
        post (-1) M1)
      else (
        if a1 = 20 then (
          wX12_series_40 post a0 a1 M1)
        else (
          if a1 = 21 then (
            wX12_series_40 post a0 a1 M1)
          else (
            wX12_sizeOf a0 M1 (fun r7 M6 =>
              wX12_lies ((a1 : Int32).toInt64) 0 ((r7 - 1 : Int32).toInt64) M6 (fun r9 M8 =>
                if r9 = 0 then (
                  post (-1) M8)
                else (
                  wX12_series_40 post a0 a1 M8)))))))
abbrev rm_X12_pagesOf : Room := { frames := 0, cells := 0, slots := 0, locals := 0 }
theorem yd_X12_pagesOf : yX12_pagesOf.cls ≠ "java/lang/invoke/MethodHandle" ∧ yX12_pagesOf.cls ≠ "java/lang/invoke/VarHandle" ∧ (parseMethodDescriptor yX12_pagesOf.desc).map (fun d => d.parameters.length) = some 2 := by decide +kernel
def wX12_pagesOf_5    (post : Int32 → xMem → Prop) : Nat → Int32 → Int32 → Int32 → xMem → Prop
  | 0 => fun _ _ _ _ => False
  | n + 1 => fun x2 x3 x4 M =>
      if x2 ≤ x4 then (
        post x3 M)
      else (
        vp_in x4 10 ∧
        vp_in (gi M 56 x4.toNatClampNeg) 6 ∧
        ∀ v4 : Int32, v4 = x3 + (gi M 3 (gi M 56 x4.toNatClampNeg).toNatClampNeg) →
        ∀ v5 : Int32, v5 = x4 + 1 →
        wX12_pagesOf_5 post n x2 v4 v5 M)
def wX12_pagesOf  (a0 : Int32) (a1 : Int32) (M : xMem) (post : Int32 → xMem → Prop) : Prop :=
    ∃ n5 : Nat, wX12_pagesOf_5 post n5 a1 0 a0 M
abbrev rm_X12_higher : Room := { frames := 0, cells := 0, slots := 0, locals := 0 }
theorem yd_X12_higher : yX12_higher.cls ≠ "java/lang/invoke/MethodHandle" ∧ yX12_higher.cls ≠ "java/lang/invoke/VarHandle" ∧ (parseMethodDescriptor yX12_higher.desc).map (fun d => d.parameters.length) = some 2 := by decide +kernel
def wX12_higher  (a0 : Int32) (a1 : Int32) (M : xMem) (post : Int32 → xMem → Prop) : Prop :=
    if a0 ≤ a1 then (
      post a1 M)
    else (
      post a0 M)
abbrev rm_X12_book : Room := { frames := 2, cells := 0, slots := 0, locals := 49 }
theorem yd_X12_book : yX12_book.cls ≠ "java/lang/invoke/MethodHandle" ∧ yX12_book.cls ≠ "java/lang/invoke/VarHandle" ∧ (parseMethodDescriptor yX12_book.desc).map (fun d => d.parameters.length) = some 3 := by decide +kernel
def wX12_book_250    (post : Int32 → xMem → Prop) (x4 : Int32) (s0 : Int32) (M : xMem) : Prop :=
    if x4 ≤ s0 then (
      post (-2) M)
    else (
      vp_in s0 10 ∧
      post (gi M 56 s0.toNatClampNeg) M)
def wX12_book_219   (K68 : Int32 → Int32 → Int32 → Int32 → Int32 → Int32 → Int32 → xMem → Prop) (K79 : Int32 → Int32 → Int32 → Int32 → Int32 → Int32 → Int32 → Int32 → xMem → Prop) (post : Int32 → xMem → Prop) (x2 : Int32) (x3 : Int32) (x4 : Int32) (x5 : Int32) (x6 : Int32) (x7 : Int32) (x8 : Int32) (x9 : Int32) (M : xMem) : Prop :=
    ∀ v1 : Int32, v1 = x9 + 1 →
    K79 x2 x3 x4 x5 x6 x7 x8 v1 M
def wX12_book_159   (K68 : Int32 → Int32 → Int32 → Int32 → Int32 → Int32 → Int32 → xMem → Prop) (K79 : Int32 → Int32 → Int32 → Int32 → Int32 → Int32 → Int32 → Int32 → xMem → Prop) (post : Int32 → xMem → Prop) (x2 : Int32) (x3 : Int32) (x4 : Int32) (x5 : Int32) (x6 : Int32) (x7 : Int32) (x8 : Int32) (x9 : Int32) (s0 : Int32) (M : xMem) : Prop :=
    wX12_pagesOf 0 x8 M (fun r2 M1 =>
      wX12_pagesOf x8 x9 M1 (fun r4 M3 =>
        wX12_pagesOf x9 x4 M3 (fun r6 M5 =>
          wX12_higher r4 r6 M5 (fun r8 M7 =>
            wX12_higher r2 r8 M7 (fun r10 M9 =>
              if s0 = 0 then (
                wX12_book_219 K68 K79 post x2 x3 x4 x5 x6 x7 x8 x9 M9)
              else (
                if r10 < x5 then (
                  wX12_book_219 K68 K79 post x2 x3 x4 r10 x8 x9 x8 x9 M9)
                else (
                  wX12_book_219 K68 K79 post x2 x3 x4 x5 x6 x7 x8 x9 M9)))))))
def wX12_book_158   (K68 : Int32 → Int32 → Int32 → Int32 → Int32 → Int32 → Int32 → xMem → Prop) (K79 : Int32 → Int32 → Int32 → Int32 → Int32 → Int32 → Int32 → Int32 → xMem → Prop) (post : Int32 → xMem → Prop) (x2 : Int32) (x3 : Int32) (x4 : Int32) (x5 : Int32) (x6 : Int32) (x7 : Int32) (x8 : Int32) (x9 : Int32) (M : xMem) : Prop :=
    wX12_book_159 K68 K79 post x2 x3 x4 x5 x6 x7 x8 x9 0 M
def wX12_book_136   (K68 : Int32 → Int32 → Int32 → Int32 → Int32 → Int32 → Int32 → xMem → Prop) (K79 : Int32 → Int32 → Int32 → Int32 → Int32 → Int32 → Int32 → Int32 → xMem → Prop) (post : Int32 → xMem → Prop) (x2 : Int32) (x3 : Int32) (x4 : Int32) (x5 : Int32) (x6 : Int32) (x7 : Int32) (x8 : Int32) (x9 : Int32) (M : xMem) : Prop :=
    wX12_book_159 K68 K79 post x2 x3 x4 x5 x6 x7 x8 x9 0 M
def wX12_book_109   (K68 : Int32 → Int32 → Int32 → Int32 → Int32 → Int32 → Int32 → xMem → Prop) (K79 : Int32 → Int32 → Int32 → Int32 → Int32 → Int32 → Int32 → Int32 → xMem → Prop) (post : Int32 → xMem → Prop) (x2 : Int32) (x3 : Int32) (x4 : Int32) (x5 : Int32) (x6 : Int32) (x7 : Int32) (x8 : Int32) (x9 : Int32) (M : xMem) : Prop :=
    wX12_book_159 K68 K79 post x2 x3 x4 x5 x6 x7 x8 x9 0 M
def wX12_book_79   (K68 : Int32 → Int32 → Int32 → Int32 → Int32 → Int32 → Int32 → xMem → Prop) (post : Int32 → xMem → Prop) : Nat → Int32 → Int32 → Int32 → Int32 → Int32 → Int32 → Int32 → Int32 → xMem → Prop
  | 0 => fun _ _ _ _ _ _ _ _ _ => False
  | n + 1 => fun x2 x3 x4 x5 x6 x7 x8 x9 M =>
      if x4 < x9 then (
        ∀ v2 : Int32, v2 = x8 + 1 →
        K68 x2 x3 x4 x5 x6 x7 v2 M)
      else (
        if x2 = 1 then (
          if x8 = x4 then (
            if x9 = x4 then (
              wX12_book_159 K68 (wX12_book_79 K68 post n) post x2 x3 x4 x5 x6 x7 x8 x9 1 M)
            else (
              wX12_book_109 K68 (wX12_book_79 K68 post n) post x2 x3 x4 x5 x6 x7 x8 x9 M))
          else (
            wX12_book_109 K68 (wX12_book_79 K68 post n) post x2 x3 x4 x5 x6 x7 x8 x9 M))
        else (
          if x2 = 2 then (
            if x4 ≤ x8 then (
              wX12_book_136 K68 (wX12_book_79 K68 post n) post x2 x3 x4 x5 x6 x7 x8 x9 M)
            else (
              if x9 = x4 then (
                wX12_book_159 K68 (wX12_book_79 K68 post n) post x2 x3 x4 x5 x6 x7 x8 x9 1 M)
              else (
                wX12_book_136 K68 (wX12_book_79 K68 post n) post x2 x3 x4 x5 x6 x7 x8 x9 M)))
          else (
            if x9 ≤ x8 then (
              wX12_book_158 K68 (wX12_book_79 K68 post n) post x2 x3 x4 x5 x6 x7 x8 x9 M)
            else (
              if x4 ≤ x9 then (
                wX12_book_158 K68 (wX12_book_79 K68 post n) post x2 x3 x4 x5 x6 x7 x8 x9 M)
              else (
                wX12_book_159 K68 (wX12_book_79 K68 post n) post x2 x3 x4 x5 x6 x7 x8 x9 1 M)))))
def wX12_book_68    (post : Int32 → xMem → Prop) : Nat → Int32 → Int32 → Int32 → Int32 → Int32 → Int32 → Int32 → xMem → Prop
  | 0 => fun _ _ _ _ _ _ _ _ => False
  | n + 1 => fun x2 x3 x4 x5 x6 x7 x8 M =>
      if x4 < x8 then (
        if x3 = 0 then (
          post x5 M)
        else (
          if x3 = 1 then (
            wX12_book_250 post x4 x6 M)
          else (
            wX12_book_250 post x4 x7 M)))
      else (
        ∃ n79 : Nat, wX12_book_79 (wX12_book_68 post n) post n79 x2 x3 x4 x5 x6 x7 x8 x8 M)
def wX12_book  (a0 : Int32) (a1 : Int32) (a2 : Int32) (M : xMem) (post : Int32 → xMem → Prop) : Prop :=
    wX12_areStories a0 1 6 M (fun r2 M1 =>
      if r2 = 0 then (
        post (-1) M1)
      else (
        wX12_lies ((a1 : Int32).toInt64) 1 3 M1 (fun r5 M4 =>
          if r5 = 0 then (
            post (-1) M4)
          else (
            wX12_sizeOf a0 M4 (fun r8 M7 =>
              if r8 < a1 then (
                post (-1) M7)
              else (
                wX12_lies ((a2 : Int32).toInt64) 0 2 M7 (fun r11 M10 =>
                  if r11 = 0 then (
                    post (-1) M10)
                  else (
                    wX12_takesSome a0 M10 (fun r14 M13 =>
                      ∃ n68 : Nat, wX12_book_68 post n68 a1 a2 r14 1000000000 r14 r14 1 M13)))))))))
abbrev rm_X12_winter : Room := { frames := 2, cells := 0, slots := 0, locals := 44 }
theorem yd_X12_winter : yX12_winter.cls ≠ "java/lang/invoke/MethodHandle" ∧ yX12_winter.cls ≠ "java/lang/invoke/VarHandle" ∧ (parseMethodDescriptor yX12_winter.desc).map (fun d => d.parameters.length) = some 3 := by decide +kernel
def wX12_winter_288   (K144 : Int32 → Int32 → Int32 → Int32 → Int32 → Int32 → Int32 → xMem → Prop) (post : Int32 → xMem → Prop) (x1 : Int32) (x3 : Int32) (x5 : Int32) (x6 : Int32) (x7 : Int32) (x8 : Int32) (x9 : Int32) (M : xMem) : Prop :=
    ∀ v1 : Int32, v1 = x9 + 1 →
    K144 x1 x3 x5 x6 x7 x8 v1 M
def wX12_winter_276   (K144 : Int32 → Int32 → Int32 → Int32 → Int32 → Int32 → Int32 → xMem → Prop) (post : Int32 → xMem → Prop) (x1 : Int32) (x3 : Int32) (x5 : Int32) (x9 : Int32) (x10 : Int32) (x11 : Int32) (x12 : Int32) (M : xMem) : Prop :=
    wX12_winter_288 K144 post x1 x3 x5 x12 x10 x11 x9 M
def wX12_winter_240   (K144 : Int32 → Int32 → Int32 → Int32 → Int32 → Int32 → Int32 → xMem → Prop) (K165 : Int32 → Int32 → Int32 → Int32 → Int32 → Int32 → Int32 → Int32 → Int32 → Int32 → Int32 → xMem → Prop) (post : Int32 → xMem → Prop) (x1 : Int32) (x3 : Int32) (x5 : Int32) (x6 : Int32) (x7 : Int32) (x8 : Int32) (x9 : Int32) (x10 : Int32) (x11 : Int32) (x12 : Int32) (x13 : Int32) (M : xMem) : Prop :=
    ∀ v1 : Int32, v1 = x13 + 1 →
    K165 x1 x3 x5 x6 x7 x8 x9 x10 x11 x12 v1 M
def wX12_winter_165   (K144 : Int32 → Int32 → Int32 → Int32 → Int32 → Int32 → Int32 → xMem → Prop) (post : Int32 → xMem → Prop) : Nat → Int32 → Int32 → Int32 → Int32 → Int32 → Int32 → Int32 → Int32 → Int32 → Int32 → Int32 → xMem → Prop
  | 0 => fun _ _ _ _ _ _ _ _ _ _ _ _ => False
  | n + 1 => fun x1 x3 x5 x6 x7 x8 x9 x10 x11 x12 x13 M =>
      if x5 ≤ x13 then (
        if x1 < x11 then (
          wX12_winter_288 K144 post x1 x3 x5 x6 x7 x8 x9 M)
        else (
          if x10 < x7 then (
            wX12_winter_288 K144 post x1 x3 x5 x6 x7 x8 x9 M)
          else (
            if x10 = x7 then (
              if x11 < x8 then (
                wX12_winter_276 K144 post x1 x3 x5 x9 x10 x11 x12 M)
              else (
                wX12_winter_288 K144 post x1 x3 x5 x6 x7 x8 x9 M))
            else (
              wX12_winter_276 K144 post x1 x3 x5 x9 x10 x11 x12 M))))
      else (
        wX12_has x9 x13 M (fun r7 M6 =>
          if r7 = 0 then (
            wX12_winter_240 K144 (wX12_winter_165 K144 post n) post x1 x3 x5 x6 x7 x8 x9 x10 x11 x12 x13 M6)
          else (
            wX12_byteAt x13 M6 (fun r10 M9 =>
              vp_in x13 10 ∧
              vp_in (gi M9 56 x13.toNatClampNeg) 10 ∧
              ∀ v13 : Int32, v13 = x10 + (r10 * (gi M9 27 (gi M9 56 x13.toNatClampNeg).toNatClampNeg)) →
              vp_in x13 10 ∧
              vp_in (gi M9 56 x13.toNatClampNeg) 10 ∧
              ∀ v16 : Int32, v16 = x11 + (gi M9 29 (gi M9 56 x13.toNatClampNeg).toNatClampNeg) →
              vp_in x13 10 ∧
              ∀ v18 : Int32, v18 = x12 ||| (1 <<< ((gi M9 56 x13.toNatClampNeg) &&& 31)) →
              wX12_winter_240 K144 (wX12_winter_165 K144 post n) post x1 x3 x5 x6 x7 x8 x9 v13 v16 v18 x13 M9))))
def wX12_winter_144    (post : Int32 → xMem → Prop) : Nat → Int32 → Int32 → Int32 → Int32 → Int32 → Int32 → Int32 → xMem → Prop
  | 0 => fun _ _ _ _ _ _ _ _ => False
  | n + 1 => fun x1 x3 x5 x6 x7 x8 x9 M =>
      if (1 <<< (x5 &&& 31)) ≤ x9 then (
        if x3 = 0 then (
          post x7 M)
        else (
          if x3 = 1 then (
            post x6 M)
          else (
            post x8 M)))
      else (
        ∃ n165 : Nat, wX12_winter_165 (wX12_winter_144 post n) post n165 x1 x3 x5 x6 x7 x8 x9 0 0 0 0 M)
def wX12_winter_98    (post : Int32 → xMem → Prop) : Nat → Int32 → Int32 → Int32 → Int32 → Int32 → xMem → Prop
  | 0 => fun _ _ _ _ _ _ => False
  | n + 1 => fun x1 x2 x3 x4 x5 M =>
      if x2 ≤ x5 then (
        wX12_takesSome x4 M (fun r3 M2 =>
          ∃ n144 : Nat, wX12_winter_144 post n144 x1 x3 r3 0 (-1) 0 0 M2))
      else (
        wX12_byteAt x5 M (fun r5 M4 =>
          if r5 ≤ 10 then (
            ∀ v7 : Int32, v7 = x5 + 1 →
            wX12_winter_98 post n x1 x2 x3 x4 v7 M4)
          else (
            post (-2) M4)))
def wX12_winter_33   (K6 : Int32 → Int32 → Int32 → Int32 → Int32 → xMem → Prop) (post : Int32 → xMem → Prop) (x1 : Int32) (x2 : Int32) (x3 : Int32) (x5 : Int32) (s0 : Int32) (s1 : Int32) (M : xMem) : Prop :=
    ∀ v1 : Int32, v1 = s1 ||| s0 →
    ∀ v2 : Int32, v2 = x5 + 1 →
    K6 x1 x2 x3 v1 v2 M
def wX12_winter_6    (post : Int32 → xMem → Prop) : Nat → Int32 → Int32 → Int32 → Int32 → Int32 → xMem → Prop
  | 0 => fun _ _ _ _ _ _ => False
  | n + 1 => fun x1 x2 x3 x4 x5 M =>
      if 10 ≤ x5 then (
        wX12_lies ((x1 : Int32).toInt64) 0 300 M (fun r3 M2 =>
          if r3 = 0 then (
            post (-1) M2)
          else (
            if x2 < 1 then (
              post (-1) M2)
            else (
              wX12_sizeOf x4 M2 (fun r7 M6 =>
                if x2 = r7 then (
                  wX12_lies ((x3 : Int32).toInt64) 0 2 M6 (fun r10 M9 =>
                    if r10 = 0 then (
                      post (-1) M9)
                    else (
                      if x2 ≤ (gi M9 0 1) then (
                        ∀ M13 : xMem, M13 = si M9 0 1 0 →
                        ∃ n98 : Nat, wX12_winter_98 post n98 x1 x2 x3 x4 0 M13)
                      else (
                        post (-1) M9))))
                else (
                  post (-1) M6))))))
      else (
        vp_in x5 10 ∧
        if (gi M 25 x5.toNatClampNeg) = 0 then (
          wX12_winter_33 (wX12_winter_6 post n) post x1 x2 x3 x5 0 x4 M)
        else (
          wX12_winter_33 (wX12_winter_6 post n) post x1 x2 x3 x5 (1 <<< (x5 &&& 31)) x4 M))
def wX12_winter  (a0 : Int32) (a1 : Int32) (a2 : Int32) (M : xMem) (post : Int32 → xMem → Prop) : Prop :=
    ∃ n6 : Nat, wX12_winter_6 post n6 a0 a1 a2 0 0 M
abbrev rm_X12_canHave : Room := { frames := 1, cells := 0, slots := 0, locals := 25 }
theorem yd_X12_canHave : yX12_canHave.cls ≠ "java/lang/invoke/MethodHandle" ∧ yX12_canHave.cls ≠ "java/lang/invoke/VarHandle" ∧ (parseMethodDescriptor yX12_canHave.desc).map (fun d => d.parameters.length) = some 2 := by decide +kernel
def wX12_canHave_139   (K8 : Int32 → Int32 → Int32 → Int32 → Int32 → xMem → Prop) (post : Int32 → xMem → Prop) (x1 : Int32) (x2 : Int32) (x3 : Int32) (x4 : Int32) (x5 : Int32) (M : xMem) : Prop :=
    ∀ v1 : Int32, v1 = x5 + 1 →
    K8 x1 x2 x3 x4 v1 M
def wX12_canHave_114   (K8 : Int32 → Int32 → Int32 → Int32 → Int32 → xMem → Prop) (K34 : Int32 → Int32 → Int32 → Int32 → Int32 → Int32 → Int32 → xMem → Prop) (post : Int32 → xMem → Prop) (x1 : Int32) (x2 : Int32) (x3 : Int32) (x4 : Int32) (x5 : Int32) (x6 : Int32) (x7 : Int32) (M : xMem) : Prop :=
    ∀ v1 : Int32, v1 = x7 + 1 →
    K34 x1 x2 x3 x4 x5 x6 v1 M
def wX12_canHave_110   (K8 : Int32 → Int32 → Int32 → Int32 → Int32 → xMem → Prop) (K34 : Int32 → Int32 → Int32 → Int32 → Int32 → Int32 → Int32 → xMem → Prop) (post : Int32 → xMem → Prop) (x1 : Int32) (x2 : Int32) (x3 : Int32) (x4 : Int32) (x5 : Int32) (x7 : Int32) (M : xMem) : Prop :=
    wX12_canHave_114 K8 K34 post x1 x2 x3 x4 x5 x7 x7 M
def wX12_canHave_34   (K8 : Int32 → Int32 → Int32 → Int32 → Int32 → xMem → Prop) (post : Int32 → xMem → Prop) : Nat → Int32 → Int32 → Int32 → Int32 → Int32 → Int32 → Int32 → xMem → Prop
  | 0 => fun _ _ _ _ _ _ _ _ => False
  | n + 1 => fun x1 x2 x3 x4 x5 x6 x7 M =>
      if x2 ≤ x7 then (
        if x6 = (-1) then (
          wX12_canHave_139 K8 post x1 x2 x3 x4 x5 M)
        else (
          ∀ v3 : Int32, v3 = x3 ||| (1 <<< (x6 &&& 31)) →
          ∀ v4 : Int32, v4 = x4 + 1 →
          wX12_canHave_139 K8 post x1 x2 v3 v4 x5 M))
      else (
        wX12_has x3 x7 M (fun r6 M5 =>
          if r6 = 0 then (
            wX12_byteAt (2 * x7) M5 (fun r9 M8 =>
              wX12_byteAt ((2 * x7) + 1) M8 (fun r11 M10 =>
                wX12_lies ((x5 : Int32).toInt64) ((r9 : Int32).toInt64) ((r11 : Int32).toInt64) M10 (fun r13 M12 =>
                  if r13 = 0 then (
                    wX12_canHave_114 K8 (wX12_canHave_34 K8 post n) post x1 x2 x3 x4 x5 x6 x7 M12)
                  else (
                    if x6 = (-1) then (
                      wX12_canHave_110 K8 (wX12_canHave_34 K8 post n) post x1 x2 x3 x4 x5 x7 M12)
                    else (
                      wX12_byteAt ((2 * x7) + 1) M12 (fun r17 M16 =>
                        wX12_byteAt ((2 * x6) + 1) M16 (fun r19 M18 =>
                          if r19 ≤ r17 then (
                            wX12_canHave_114 K8 (wX12_canHave_34 K8 post n) post x1 x2 x3 x4 x5 x6 x7 M18)
                          else (
                            wX12_canHave_110 K8 (wX12_canHave_34 K8 post n) post x1 x2 x3 x4 x5 x7 M18)))))))))
          else (
            wX12_canHave_114 K8 (wX12_canHave_34 K8 post n) post x1 x2 x3 x4 x5 x6 x7 M5)))
def wX12_canHave_8    (post : Int32 → xMem → Prop) : Nat → Int32 → Int32 → Int32 → Int32 → Int32 → xMem → Prop
  | 0 => fun _ _ _ _ _ _ => False
  | n + 1 => fun x1 x2 x3 x4 x5 M =>
      if 100 ≤ x5 then (
        post x4 M)
      else (
        vp_in x5 100 ∧
        if (gi M 59 x5.toNatClampNeg) = 0 then (
          ∃ n34 : Nat, wX12_canHave_34 (wX12_canHave_8 post n) post n34 x1 x2 x3 x4 x5 (-1) x1 M)
        else (
          wX12_canHave_139 (wX12_canHave_8 post n) post x1 x2 x3 x4 x5 M))
def wX12_canHave  (a0 : Int32) (a1 : Int32) (M : xMem) (post : Int32 → xMem → Prop) : Prop :=
    ∃ n8 : Nat, wX12_canHave_8 post n8 a0 a1 0 0 0 M
abbrev rm_X12_nightFor : Room := { frames := 2, cells := 0, slots := 0, locals := 52 }
theorem yd_X12_nightFor : yX12_nightFor.cls ≠ "java/lang/invoke/MethodHandle" ∧ yX12_nightFor.cls ≠ "java/lang/invoke/VarHandle" ∧ (parseMethodDescriptor yX12_nightFor.desc).map (fun d => d.parameters.length) = some 2 := by decide +kernel
def wX12_nightFor_76   (K16 : Int32 → Int32 → Int32 → Int32 → xMem → Prop) (post : Int32 → xMem → Prop) (x1 : Int32) (x2 : Int32) (x3 : Int32) (x4 : Int32) (M : xMem) : Prop :=
    ∀ v1 : Int32, v1 = x4 + 1 →
    K16 x1 x2 x3 v1 M
def wX12_nightFor_16    (post : Int32 → xMem → Prop) : Nat → Int32 → Int32 → Int32 → Int32 → xMem → Prop
  | 0 => fun _ _ _ _ _ => False
  | n + 1 => fun x1 x2 x3 x4 M =>
      wX12_byteAt ((2 * x1) + 1) M (fun r2 M1 =>
        if r2 < x4 then (
          post 100 M1)
        else (
          vp_in x4 100 ∧
          if (gi M1 59 x4.toNatClampNeg) = 0 then (
            vp_in x4 100 ∧
            ∀ M7 : xMem, M7 = si M1 59 x4.toNatClampNeg (vp_nar .boolean 1) →
            wX12_canHave (x1 + 1) x2 M7 (fun r9 M8 =>
              if (r9 + 1) = x3 then (
                post x4 M8)
              else (
                vp_in x4 100 ∧
                ∀ M12 : xMem, M12 = si M8 59 x4.toNatClampNeg (vp_nar .boolean 0) →
                wX12_nightFor_76 (wX12_nightFor_16 post n) post x1 x2 x3 x4 M12)))
          else (
            wX12_nightFor_76 (wX12_nightFor_16 post n) post x1 x2 x3 x4 M1)))
def wX12_nightFor  (a0 : Int32) (a1 : Int32) (M : xMem) (post : Int32 → xMem → Prop) : Prop :=
    wX12_canHave a0 a1 M (fun r2 M1 =>
      wX12_byteAt (2 * a0) M1 (fun r4 M3 =>
        ∃ n16 : Nat, wX12_nightFor_16 post n16 a0 a1 r2 r4 M3))
abbrev rm_X12_lent : Room := { frames := 3, cells := 0, slots := 0, locals := 76 }
theorem yd_X12_lent : yX12_lent.cls ≠ "java/lang/invoke/MethodHandle" ∧ yX12_lent.cls ≠ "java/lang/invoke/VarHandle" ∧ (parseMethodDescriptor yX12_lent.desc).map (fun d => d.parameters.length) = some 2 := by decide +kernel
def wX12_lent_140    (post : Int32 → xMem → Prop) : Nat → Int32 → Int32 → Int32 → Int32 → xMem → Prop
  | 0 => fun _ _ _ _ _ => False
  | n + 1 => fun x1 x2 x3 x4 M =>
      if x2 < x4 then (
        post x3 M)
      else (
        wX12_nightFor x4 x1 M (fun r3 M2 =>
          ∀ v4 : Int32, v4 = x4 + 1 →
          wX12_lent_140 post n x1 x2 r3 v4 M2))
def wX12_lent_102    (post : Int32 → xMem → Prop) : Nat → Int32 → Int32 → Int32 → xMem → Prop
  | 0 => fun _ _ _ _ => False
  | n + 1 => fun x1 x2 x3 M =>
      if 100 ≤ x3 then (
        if x2 = 20 then (
          wX12_canHave 0 x1 M (fun r4 M3 =>
            post r4 M3))
        else (
          ∃ n140 : Nat, wX12_lent_140 post n140 x1 x2 100 0 M))
      else (
        vp_in x3 100 ∧
        ∀ M6 : xMem, M6 = si M 59 x3.toNatClampNeg (vp_nar .boolean 0) →
        ∀ v7 : Int32, v7 = x3 + 1 →
        wX12_lent_102 post n x1 x2 v7 M6)
def wX12_lent_100    (post : Int32 → xMem → Prop) (x1 : Int32) (x2 : Int32) (M : xMem) : Prop :=
    ∃ n102 : Nat, wX12_lent_102 post n102 x1 x2 0 M
def wX12_lent_31    (post : Int32 → xMem → Prop) : Nat → Int32 → Int32 → Int32 → xMem → Prop
  | 0 => fun _ _ _ _ => False
  | n + 1 => fun x1 x2 x3 M =>
      if x1 ≤ x3 then (
        if x2 = 20 then (
          wX12_lent_100 post x1 x2 M)
        else (
          wX12_lies ((x2 : Int32).toInt64) 0 ((x1 - 1 : Int32).toInt64) M (fun r4 M3 =>
            if r4 = 0 then (
              post (-4) M3)
            else (
              wX12_lent_100 post x1 x2 M3))))
      else (
        wX12_byteAt ((2 * x3) + 1) M (fun r7 M6 =>
          if 100 ≤ r7 then (
            post (-2) M6)
          else (
            wX12_byteAt (2 * x3) M6 (fun r10 M9 =>
              wX12_byteAt ((2 * x3) + 1) M9 (fun r12 M11 =>
                if r10 ≤ r12 then (
                  ∀ v14 : Int32, v14 = x3 + 1 →
                  wX12_lent_31 post n x1 x2 v14 M11)
                else (
                  post (-2) M11))))))
def wX12_lent  (a0 : Int32) (a1 : Int32) (M : xMem) (post : Int32 → xMem → Prop) : Prop :=
    wX12_lies ((a0 : Int32).toInt64) 1 8 M (fun r2 M1 =>
      if r2 = 0 then (
        post (-1) M1)
      else (
        if (2 * a0) ≤ (gi M1 0 1) then (
          ∀ M5 : xMem, M5 = si M1 0 1 0 →
          ∃ n31 : Nat, wX12_lent_31 post n31 a0 a1 0 M5)
        else (
          post (-1) M1)))
abbrev rm_X12_leftBy : Room := { frames := 2, cells := 0, slots := 0, locals := 42 }
theorem yd_X12_leftBy : yX12_leftBy.cls ≠ "java/lang/invoke/MethodHandle" ∧ yX12_leftBy.cls ≠ "java/lang/invoke/VarHandle" ∧ (parseMethodDescriptor yX12_leftBy.desc).map (fun d => d.parameters.length) = some 3 := by decide +kernel
def wX12_leftBy_69   (K6 : Int32 → Int32 → Int32 → Int32 → Int32 → xMem → Prop) (post : Int32 → xMem → Prop) (x1 : Int32) (x2 : Int32) (x3 : Int32) (x4 : Int32) (x5 : Int32) (M : xMem) : Prop :=
    ∀ v1 : Int32, v1 = x5 + 1 →
    K6 x1 x2 x3 x4 v1 M
def wX12_leftBy_60   (K6 : Int32 → Int32 → Int32 → Int32 → Int32 → xMem → Prop) (post : Int32 → xMem → Prop) (x1 : Int32) (x2 : Int32) (x3 : Int32) (x4 : Int32) (x5 : Int32) (M : xMem) : Prop :=
    ∀ v1 : Int32, v1 = x4 ||| (1 <<< (x5 &&& 31)) →
    wX12_leftBy_69 K6 post x1 x2 x3 v1 x5 M
def wX12_leftBy_6    (post : Int32 → xMem → Prop) : Nat → Int32 → Int32 → Int32 → Int32 → Int32 → xMem → Prop
  | 0 => fun _ _ _ _ _ _ => False
  | n + 1 => fun x1 x2 x3 x4 x5 M =>
      if 10 ≤ x5 then (
        post x4 M)
      else (
        wX12_has x1 x5 M (fun r3 M2 =>
          if r3 = 0 then (
            wX12_leftBy_69 (wX12_leftBy_6 post n) post x1 x2 x3 x4 x5 M2)
          else (
            vp_in x5 10 ∧
            wX12_lowestOf (gi M2 26 x5.toNatClampNeg) M2 (fun r7 M6 =>
              if x3 = (-1) then (
                wX12_has x2 r7 M6 (fun r11 M10 =>
                  if r11 = 0 then (
                    wX12_leftBy_60 (wX12_leftBy_6 post n) post x1 x2 x3 x4 x5 M10)
                  else (
                    wX12_leftBy_69 (wX12_leftBy_6 post n) post x1 x2 x3 x4 x5 M10)))
              else (
                if r7 = x3 then (
                  wX12_leftBy_60 (wX12_leftBy_6 post n) post x1 x2 x3 x4 x5 M6)
                else (
                  wX12_leftBy_69 (wX12_leftBy_6 post n) post x1 x2 x3 x4 x5 M6))))))
def wX12_leftBy  (a0 : Int32) (a1 : Int32) (a2 : Int32) (M : xMem) (post : Int32 → xMem → Prop) : Prop :=
    ∃ n6 : Nat, wX12_leftBy_6 post n6 a0 a1 a2 0 0 M
abbrev rm_X12_nextThread : Room := { frames := 2, cells := 0, slots := 0, locals := 42 }
theorem yd_X12_nextThread : yX12_nextThread.cls ≠ "java/lang/invoke/MethodHandle" ∧ yX12_nextThread.cls ≠ "java/lang/invoke/VarHandle" ∧ (parseMethodDescriptor yX12_nextThread.desc).map (fun d => d.parameters.length) = some 2 := by decide +kernel
def wX12_nextThread_112   (K12 : Int32 → Int32 → Int32 → Int32 → Int32 → xMem → Prop) (post : Int32 → xMem → Prop) (x1 : Int32) (x2 : Int32) (x3 : Int32) (x4 : Int32) (x5 : Int32) (M : xMem) : Prop :=
    ∀ v1 : Int32, v1 = x5 + 1 →
    K12 x1 x2 x3 x4 v1 M
def wX12_nextThread_63   (K12 : Int32 → Int32 → Int32 → Int32 → Int32 → xMem → Prop) (K25 : Int32 → Int32 → Int32 → Int32 → Int32 → Int32 → Int32 → xMem → Prop) (post : Int32 → xMem → Prop) (x1 : Int32) (x2 : Int32) (x3 : Int32) (x4 : Int32) (x5 : Int32) (x7 : Int32) (s0 : Int32) (s1 : Int32) (M : xMem) : Prop :=
    ∀ v1 : Int32, v1 = s1 + s0 →
    ∀ v2 : Int32, v2 = x7 + 1 →
    K25 x1 x2 x3 x4 x5 v1 v2 M
def wX12_nextThread_62   (K12 : Int32 → Int32 → Int32 → Int32 → Int32 → xMem → Prop) (K25 : Int32 → Int32 → Int32 → Int32 → Int32 → Int32 → Int32 → xMem → Prop) (post : Int32 → xMem → Prop) (x1 : Int32) (x2 : Int32) (x3 : Int32) (x4 : Int32) (x5 : Int32) (x7 : Int32) (s0 : Int32) (M : xMem) : Prop :=
    wX12_nextThread_63 K12 K25 post x1 x2 x3 x4 x5 x7 0 s0 M
def wX12_nextThread_25   (K12 : Int32 → Int32 → Int32 → Int32 → Int32 → xMem → Prop) (post : Int32 → xMem → Prop) : Nat → Int32 → Int32 → Int32 → Int32 → Int32 → Int32 → Int32 → xMem → Prop
  | 0 => fun _ _ _ _ _ _ _ _ => False
  | n + 1 => fun x1 x2 x3 x4 x5 x6 x7 M =>
      if 10 ≤ x7 then (
        wX12_sizeOf x1 M (fun r3 M2 =>
          wX12_higher x6 (r3 - x6) M2 (fun r5 M4 =>
            wX12_has x2 x5 M4 (fun r7 M6 =>
              if r7 = 0 then (
                if r5 < x4 then (
                  wX12_nextThread_112 K12 post x1 x2 x5 r5 x5 M6)
                else (
                  wX12_nextThread_112 K12 post x1 x2 x3 x4 x5 M6))
              else (
                wX12_nextThread_112 K12 post x1 x2 x3 x4 x5 M6)))))
      else (
        wX12_has x1 x7 M (fun r11 M10 =>
          if r11 = 0 then (
            wX12_nextThread_62 K12 (wX12_nextThread_25 K12 post n) post x1 x2 x3 x4 x5 x7 x6 M10)
          else (
            vp_in x7 10 ∧
            wX12_lowestOf (gi M10 26 x7.toNatClampNeg) M10 (fun r15 M14 =>
              if r15 = x5 then (
                wX12_nextThread_63 K12 (wX12_nextThread_25 K12 post n) post x1 x2 x3 x4 x5 x7 1 x6 M14)
              else (
                wX12_nextThread_62 K12 (wX12_nextThread_25 K12 post n) post x1 x2 x3 x4 x5 x7 x6 M14)))))
def wX12_nextThread_12    (post : Int32 → xMem → Prop) : Nat → Int32 → Int32 → Int32 → Int32 → Int32 → xMem → Prop
  | 0 => fun _ _ _ _ _ _ => False
  | n + 1 => fun x1 x2 x3 x4 x5 M =>
      if 10 ≤ x5 then (
        post x3 M)
      else (
        ∃ n25 : Nat, wX12_nextThread_25 (wX12_nextThread_12 post n) post n25 x1 x2 x3 x4 x5 0 0 M)
def wX12_nextThread  (a0 : Int32) (a1 : Int32) (M : xMem) (post : Int32 → xMem → Prop) : Prop :=
    wX12_sizeOf a0 M (fun r2 M1 =>
      ∃ n12 : Nat, wX12_nextThread_12 post n12 a0 a1 (-2) r2 0 M1)
abbrev rm_X12_forged : Room := { frames := 3, cells := 0, slots := 0, locals := 69 }
theorem yd_X12_forged : yX12_forged.cls ≠ "java/lang/invoke/MethodHandle" ∧ yX12_forged.cls ≠ "java/lang/invoke/VarHandle" ∧ (parseMethodDescriptor yX12_forged.desc).map (fun d => d.parameters.length) = some 4 := by decide +kernel
def wX12_forged_95   (K67 : Int32 → Int32 → Int32 → Int32 → Int32 → xMem → Prop) (post : Int32 → xMem → Prop) (x1 : Int32) (x2 : Int32) (x3 : Int32) (x4 : Int32) (x5 : Int32) (M : xMem) : Prop :=
    ∀ v1 : Int32, v1 = x5 + 1 →
    K67 x1 x2 x3 x4 v1 M
def wX12_forged_67    (post : Int32 → xMem → Prop) : Nat → Int32 → Int32 → Int32 → Int32 → Int32 → xMem → Prop
  | 0 => fun _ _ _ _ _ _ => False
  | n + 1 => fun x1 x2 x3 x4 x5 M =>
      if 10 ≤ x5 then (
        wX12_leftBy x1 x2 x3 M (fun r3 M2 =>
          if x4 = 0 then (
            post r3 M2)
          else (
            wX12_nextThread r3 x2 M2 (fun r6 M5 =>
              post r6 M5))))
      else (
        wX12_has x1 x5 M (fun r8 M7 =>
          if r8 = 0 then (
            wX12_forged_95 (wX12_forged_67 post n) post x1 x2 x3 x4 x5 M7)
          else (
            vp_in x5 10 ∧
            if (gi M7 25 x5.toNatClampNeg) = 0 then (
              post (-1) M7)
            else (
              wX12_forged_95 (wX12_forged_67 post n) post x1 x2 x3 x4 x5 M7))))
def wX12_forged_51    (post : Int32 → xMem → Prop) (x1 : Int32) (x2 : Int32) (x3 : Int32) (x4 : Int32) (M : xMem) : Prop :=
    wX12_lies ((x4 : Int32).toInt64) 0 1 M (fun r2 M1 =>
      if r2 = 0 then (
        post (-1) M1)
      else (
        ∃ n67 : Nat, wX12_forged_67 post n67 x1 x2 x3 x4 0 M1))
def wX12_forged  (a0 : Int32) (a1 : Int32) (a2 : Int32) (a3 : Int32) (M : xMem) (post : Int32 → xMem → Prop) : Prop :=
    wX12_lies ((a0 : Int32).toInt64) 1 1023 M (fun r2 M1 =>
      if r2 = 0 then (
        post (-1) M1)
      else (
        wX12_lies ((a1 : Int32).toInt64) 0 1023 M1 (fun r5 M4 =>
          if r5 = 0 then (
            post (-1) M4)
          else (
            wX12_lies ((a2 : Int32).toInt64) (-1) 9 M4 (fun r8 M7 =>
              if r8 = 0 then (
                post (-1) M7)
              else (
                if a2 = (-1) then (
                  wX12_forged_51 post a0 a1 a2 a3 M7)
                else (
                  wX12_has a1 a2 M7 (fun r12 M11 =>
                    if r12 = 0 then (
                      post (-1) M11)
                    else (
                      wX12_forged_51 post a0 a1 a2 a3 M11)))))))))
abbrev rm_X12_isYawned : Room := { frames := 1, cells := 0, slots := 0, locals := 22 }
theorem yd_X12_isYawned : yX12_isYawned.cls ≠ "java/lang/invoke/MethodHandle" ∧ yX12_isYawned.cls ≠ "java/lang/invoke/VarHandle" ∧ (parseMethodDescriptor yX12_isYawned.desc).map (fun d => d.parameters.length) = some 4 := by decide +kernel
def wX12_isYawned_94   (K14 : Int32 → Int32 → Int32 → Int32 → Int32 → Int32 → Int32 → xMem → Prop) (post : Int32 → xMem → Prop) (x1 : Int32) (x2 : Int32) (x3 : Int32) (x4 : Int32) (x5 : Int32) (x6 : Int32) (x7 : Int32) (M : xMem) : Prop :=
    ∀ v1 : Int32, v1 = x7 + 1 →
    K14 x1 x2 x3 x4 x5 x6 v1 M
def wX12_isYawned_62   (K14 : Int32 → Int32 → Int32 → Int32 → Int32 → Int32 → Int32 → xMem → Prop) (post : Int32 → xMem → Prop) (x1 : Int32) (x2 : Int32) (x3 : Int32) (x4 : Int32) (x5 : Int32) (x6 : Int32) (x7 : Int32) (M : xMem) : Prop :=
    if x7 ≤ (x6 - x2) then (
      wX12_isYawned_94 K14 post x1 x2 x3 x4 x5 x6 x7 M)
    else (
      wX12_byteAt (((x7 - x6) + x2) - 1) M (fun r3 M2 =>
        wX12_sizeOf x5 M2 (fun r5 M4 =>
          if r3 = r5 then (
            wX12_isYawned_94 K14 post x1 x2 x3 x4 x5 x6 x7 M4)
          else (
            post 0 M4))))
def wX12_isYawned_14    (post : Int32 → xMem → Prop) : Nat → Int32 → Int32 → Int32 → Int32 → Int32 → Int32 → Int32 → xMem → Prop
  | 0 => fun _ _ _ _ _ _ _ _ => False
  | n + 1 => fun x1 x2 x3 x4 x5 x6 x7 M =>
      if x6 < x7 then (
        post 1 M)
      else (
        vp_in (((72 * x1) + x7) - 1) 432 ∧
        wX12_turned x5 (gi M 4 (((72 * x1) + x7) - 1).toNatClampNeg) M (fun r4 M3 =>
          if x7 = x4 then (
            vp_in x3 10 ∧
            ∀ v7 : Int32, v7 = r4 &&& ((gi M3 26 x3.toNatClampNeg) ^^^ (-1)) →
            wX12_isYawned_62 (wX12_isYawned_14 post n) post x1 x2 x3 x4 v7 x6 x7 M3)
          else (
            wX12_isYawned_62 (wX12_isYawned_14 post n) post x1 x2 x3 x4 r4 x6 x7 M3)))
def wX12_isYawned  (a0 : Int32) (a1 : Int32) (a2 : Int32) (a3 : Int32) (M : xMem) (post : Int32 → xMem → Prop) : Prop :=
    vp_in a0 6 ∧
    ∀ v2 : Int32, v2 = gi M 3 a0.toNatClampNeg →
    ∃ n14 : Nat, wX12_isYawned_14 post n14 a0 a1 a2 a3 0 v2 1 M
abbrev rm_X12_yawns : Room := { frames := 2, cells := 0, slots := 0, locals := 49 }
theorem yd_X12_yawns : yX12_yawns.cls ≠ "java/lang/invoke/MethodHandle" ∧ yX12_yawns.cls ≠ "java/lang/invoke/VarHandle" ∧ (parseMethodDescriptor yX12_yawns.desc).map (fun d => d.parameters.length) = some 3 := by decide +kernel
def wX12_yawns_126   (K67 : Int32 → Int32 → Int32 → Int32 → Int32 → Int32 → xMem → Prop) (K77 : Int32 → Int32 → Int32 → Int32 → Int32 → Int32 → Int32 → xMem → Prop) (post : Int32 → xMem → Prop) (x1 : Int32) (x2 : Int32) (x3 : Int32) (x4 : Int32) (x5 : Int32) (x6 : Int32) (x7 : Int32) (M : xMem) : Prop :=
    ∀ v1 : Int32, v1 = x7 + 1 →
    K77 x1 x2 x3 x4 x5 x6 v1 M
def wX12_yawns_77   (K67 : Int32 → Int32 → Int32 → Int32 → Int32 → Int32 → xMem → Prop) (post : Int32 → xMem → Prop) : Nat → Int32 → Int32 → Int32 → Int32 → Int32 → Int32 → Int32 → xMem → Prop
  | 0 => fun _ _ _ _ _ _ _ _ => False
  | n + 1 => fun x1 x2 x3 x4 x5 x6 x7 M =>
      vp_in x1 6 ∧
      if (gi M 3 x1.toNatClampNeg) < x7 then (
        ∀ v3 : Int32, v3 = x6 + 1 →
        K67 x1 x2 x3 x4 x5 v3 M)
      else (
        vp_in x6 10 ∧
        if (gi M 25 x6.toNatClampNeg) = 0 then (
          wX12_yawns_126 K67 (wX12_yawns_77 K67 post n) post x1 x2 x3 x4 x5 x6 x7 M)
        else (
          wX12_isYawned x1 x2 x6 x7 M (fun r7 M6 =>
            if r7 = 0 then (
              wX12_yawns_126 K67 (wX12_yawns_77 K67 post n) post x1 x2 x3 x4 x5 x6 x7 M6)
            else (
              ∀ v9 : Int32, v9 = x4 ||| (1 <<< (x6 &&& 31)) →
              ∀ v10 : Int32, v10 = x5 + 1 →
              wX12_yawns_126 K67 (wX12_yawns_77 K67 post n) post x1 x2 x3 v9 v10 x6 x7 M6))))
def wX12_yawns_67    (post : Int32 → xMem → Prop) : Nat → Int32 → Int32 → Int32 → Int32 → Int32 → Int32 → xMem → Prop
  | 0 => fun _ _ _ _ _ _ _ => False
  | n + 1 => fun x1 x2 x3 x4 x5 x6 M =>
      if 10 ≤ x6 then (
        if x3 = 0 then (
          post x4 M)
        else (
          post x5 M))
      else (
        ∃ n77 : Nat, wX12_yawns_77 (wX12_yawns_67 post n) post n77 x1 x2 x3 x4 x5 x6 1 M)
def wX12_yawns  (a0 : Int32) (a1 : Int32) (a2 : Int32) (M : xMem) (post : Int32 → xMem → Prop) : Prop :=
    wX12_isTold a0 M (fun r2 M1 =>
      if r2 = 0 then (
        post (-1) M1)
      else (
        wX12_lies ((a1 : Int32).toInt64) 1 20 M1 (fun r5 M4 =>
          if r5 = 0 then (
            post (-1) M4)
          else (
            wX12_lies ((a2 : Int32).toInt64) 0 1 M4 (fun r8 M7 =>
              if r8 = 0 then (
                post (-1) M7)
              else (
                if a1 ≤ (gi M7 0 1) then (
                  ∀ M11 : xMem, M11 = si M7 0 1 0 →
                  vp_in a0 6 ∧
                  if a1 ≤ (gi M11 3 a0.toNatClampNeg) then (
                    ∃ n67 : Nat, wX12_yawns_67 post n67 a0 a1 a2 0 0 0 M11)
                  else (
                    post (-2) M11))
                else (
                  post (-1) M7)))))))
abbrev rm_X12_seed : Room := { frames := 1, cells := 0, slots := 0, locals := 25 }
theorem yd_X12_seed : yX12_seed.cls ≠ "java/lang/invoke/MethodHandle" ∧ yX12_seed.cls ≠ "java/lang/invoke/VarHandle" ∧ (parseMethodDescriptor yX12_seed.desc).map (fun d => d.parameters.length) = some 1 := by decide +kernel
def wX12_seed  (a0 : Int32) (M : xMem) (post : Int32 → xMem → Prop) : Prop :=
    wX12_lies ((a0 : Int32).toInt64) 0 65535 M (fun r2 M1 =>
      if r2 = 0 then (
        post 0 M1)
      else (
        ∀ M4 : xMem, M4 = si M1 0 2 a0 →
        post 1 M4))
abbrev rm_X12_keep : Room := { frames := 1, cells := 0, slots := 0, locals := 23 }
theorem yd_X12_keep : yX12_keep.cls ≠ "java/lang/invoke/MethodHandle" ∧ yX12_keep.cls ≠ "java/lang/invoke/VarHandle" ∧ (parseMethodDescriptor yX12_keep.desc).map (fun d => d.parameters.length) = some 0 := by decide +kernel
def wX12_keep   (M : xMem) (post : Int32 → xMem → Prop) : Prop :=
    ∀ M1 : xMem, M1 = si M 0 95 1 →
    wX12_laysAside 1 M1 (fun M2 =>
      post (gi M2 0 65) M2)
abbrev rm_X12_undo : Room := { frames := 1, cells := 0, slots := 0, locals := 23 }
theorem yd_X12_undo : yX12_undo.cls ≠ "java/lang/invoke/MethodHandle" ∧ yX12_undo.cls ≠ "java/lang/invoke/VarHandle" ∧ (parseMethodDescriptor yX12_undo.desc).map (fun d => d.parameters.length) = some 0 := by decide +kernel
def wX12_undo   (M : xMem) (post : Int32 → xMem → Prop) : Prop :=
    if (gi M 0 95) = 0 then (
      post 0 M)
    else (
      wX12_bringsBack 1 M (fun M2 =>
        post 1 M2))
abbrev rm_X12_check : Room := { frames := 1, cells := 0, slots := 0, locals := 25 }
theorem yd_X12_check : yX12_check.cls ≠ "java/lang/invoke/MethodHandle" ∧ yX12_check.cls ≠ "java/lang/invoke/VarHandle" ∧ (parseMethodDescriptor yX12_check.desc).map (fun d => d.parameters.length) = some 1 := by decide +kernel
def wX12_check_59   (K30 : Int32 → Int32 → xMem → Prop) (post : Int32 → xMem → Prop) (x1 : Int32) (x2 : Int32) (s0 : Int32) (s1 : Int32) (M : xMem) : Prop :=
    if s1 = s0 then (
      ∀ v2 : Int32, v2 = x2 + 1 →
      K30 x1 v2 M)
    else (
      post x2 M)
def wX12_check_30    (post : Int32 → xMem → Prop) : Nat → Int32 → Int32 → xMem → Prop
  | 0 => fun _ _ _ => False
  | n + 1 => fun x1 x2 M =>
      if x1 ≤ x2 then (
        post (-1) M)
      else (
        wX12_byteAt x2 M (fun r3 M2 =>
          vp_in x2 10 ∧
          if (gi M2 35 x2.toNatClampNeg) = 0 then (
            wX12_check_59 (wX12_check_30 post n) post x1 x2 0 r3 M2)
          else (
            vp_in x2 10 ∧
            wX12_check_59 (wX12_check_30 post n) post x1 x2 (gi M2 38 x2.toNatClampNeg) r3 M2)))
def wX12_check  (a0 : Int32) (M : xMem) (post : Int32 → xMem → Prop) : Prop :=
    wX12_lies ((a0 : Int32).toInt64) 0 10 M (fun r2 M1 =>
      if r2 = 0 then (
        post (-2) M1)
      else (
        if a0 ≤ (gi M1 0 1) then (
          ∀ M5 : xMem, M5 = si M1 0 1 0 →
          ∃ n30 : Nat, wX12_check_30 post n30 a0 0 M5)
        else (
          post (-2) M1)))
abbrev rm_X12_isToldOf : Room := { frames := 2, cells := 0, slots := 0, locals := 46 }
theorem yd_X12_isToldOf : yX12_isToldOf.cls ≠ "java/lang/invoke/MethodHandle" ∧ yX12_isToldOf.cls ≠ "java/lang/invoke/VarHandle" ∧ (parseMethodDescriptor yX12_isToldOf.desc).map (fun d => d.parameters.length) = some 2 := by decide +kernel
def wX12_isToldOf  (a0 : Int32) (a1 : Int32) (M : xMem) (post : Int32 → xMem → Prop) : Prop :=
    if a0 = 3 then (
      wX12_isTold a1 M (fun r3 M2 =>
        bz r3 ∧ post r3 M2))
    else
    if a0 = 4 then (
      wX12_isThere a1 M (fun r6 M5 =>
        bz r6 ∧ post r6 M5))
    else
    if a0 = 5 then (
      wX12_isTelling a1 M (fun r9 M8 =>
        bz r9 ∧ post r9 M8))
    else (
      wX12_isListening a1 M (fun r11 M10 =>
        bz r11 ∧ post r11 M10))
abbrev rm_X12_toldOf : Room := { frames := 3, cells := 0, slots := 0, locals := 68 }
theorem yd_X12_toldOf : yX12_toldOf.cls ≠ "java/lang/invoke/MethodHandle" ∧ yX12_toldOf.cls ≠ "java/lang/invoke/VarHandle" ∧ (parseMethodDescriptor yX12_toldOf.desc).map (fun d => d.parameters.length) = some 1 := by decide +kernel
def wX12_toldOf_27   (K4 : Int32 → Int32 → Int32 → xMem → Prop) (post : Int32 → xMem → Prop) (x1 : Int32) (x3 : Int32) (s0 : Int32) (s1 : Int32) (M : xMem) : Prop :=
    ∀ v1 : Int32, v1 = s1 ||| s0 →
    ∀ v2 : Int32, v2 = x3 + 1 →
    K4 x1 v1 v2 M
def wX12_toldOf_4    (post : Int32 → xMem → Prop) : Nat → Int32 → Int32 → Int32 → xMem → Prop
  | 0 => fun _ _ _ _ => False
  | n + 1 => fun x1 x2 x3 M =>
      if 10 ≤ x3 then (
        post x2 M)
      else (
        wX12_isToldOf x1 x3 M (fun r3 M2 =>
          if r3 = 0 then (
            wX12_toldOf_27 (wX12_toldOf_4 post n) post x1 x3 0 x2 M2)
          else (
            wX12_toldOf_27 (wX12_toldOf_4 post n) post x1 x3 (1 <<< (x3 &&& 31)) x2 M2)))
def wX12_toldOf  (a0 : Int32) (M : xMem) (post : Int32 → xMem → Prop) : Prop :=
    ∃ n4 : Nat, wX12_toldOf_4 post n4 a0 0 0 M
abbrev rm_X12_count : Room := { frames := 4, cells := 0, slots := 0, locals := 91 }
theorem yd_X12_count : yX12_count.cls ≠ "java/lang/invoke/MethodHandle" ∧ yX12_count.cls ≠ "java/lang/invoke/VarHandle" ∧ (parseMethodDescriptor yX12_count.desc).map (fun d => d.parameters.length) = some 1 := by decide +kernel
def wX12_count  (a0 : Int32) (M : xMem) (post : Int32 → xMem → Prop) : Prop :=
    wX12_lies ((a0 : Int32).toInt64) 3 6 M (fun r2 M1 =>
      if r2 = 0 then (
        if a0 = 0 then (
          post (gi M1 0 65) M1)
        else
        if a0 = 1 then (
          post (gi M1 0 66) M1)
        else
        if a0 = 2 then (
          post (gi M1 0 67) M1)
        else
        if a0 = 3 then (
          post (-1) M1)
        else
        if a0 = 4 then (
          post (-1) M1)
        else
        if a0 = 5 then (
          post (-1) M1)
        else
        if a0 = 6 then (
          post (-1) M1)
        else
        if a0 = 7 then (
          vp_in 0 2 ∧
          post (gi M1 15 0) M1)
        else
        if a0 = 8 then (
          post (gi M1 0 1) M1)
        else
        if a0 = 9 then (
          post (gi M1 0 2) M1)
        else (
          post (-1) M1))
      else (
        wX12_toldOf a0 M1 (fun r16 M15 =>
          post r16 M15)))
set_option maxHeartbeats 4000000 in
set_option maxRecDepth 100000 in
theorem tX12_takesSome_31 {g : xG} (hg : x_inj (WM g))  {x : xCx}  {K4 : Int32 → Int32 → Int32 → xMem → Prop} {post : Int32 → xMem → Prop} (C : xOk (WM g) x cX12_takesSome RX12 4 (some .int) (rm_X12_takesSome) (pI post))  (hK4 : ∀ (x1 : Int32) (x2 : Int32) (x3 : Int32) (M : xMem), K4 x1 x2 x3 M → xW (WM g) x 4 4 [(0, .ref (ga g 0)), (1, .int x1), (2, .int x2), (3, .int x3)] [] M) (x1 : Int32) (x2 : Int32) (x3 : Int32) (M : xMem)  (h : wX12_takesSome_31 K4 post x1 x2 x3 M) : xW (WM g) x 4 31 [(0, .ref (ga g 0)), (1, .int x1), (2, .int x2), (3, .int x3)] [] M := by
  unfold wX12_takesSome_31 at h
  obtain ⟨v1, ev1⟩ : ∃ z : Int32, z = x3 + 1 := ⟨_, rfl⟩
  replace h := h v1 ev1
  refine x_iinc C 3 (v1 := v1) (L' := [(3, .int v1), (0, .ref (ga g 0)), (1, .int x1), (2, .int x2)]) rfl (by rw [ev1]; rfl) rfl (Nat.le_of_ble_eq_true rfl) dX12_takesSome_31 ?_
  refine x_goto C (tgt := 4) dX12_takesSome_34 (by decide) ?_
  refine x_loc (L' := [(0, .ref (ga g 0)), (1, .int x1), (2, .int x2), (3, .int v1)]) [1, 2, 3, 0] rfl ?_
  exact hK4 _ _ _ _  h
set_option maxHeartbeats 4000000 in
set_option maxRecDepth 100000 in
theorem tX12_takesSome_4 {g : xG} (hg : x_inj (WM g))  {x : xCx}   {post : Int32 → xMem → Prop} (C : xOk (WM g) x cX12_takesSome RX12 4 (some .int) (rm_X12_takesSome) (pI post))   : ∀ (n : Nat) (x1 : Int32) (x2 : Int32) (x3 : Int32) (M : xMem), wX12_takesSome_4 post n x1 x2 x3 M → xW (WM g) x 4 4 [(0, .ref (ga g 0)), (1, .int x1), (2, .int x2), (3, .int x3)] [] M := by
  intro n
  induction n with
  | zero =>
    intro x1 x2 x3 M  h
    exact h.elim
  | succ n ih =>
    intro x1 x2 x3 M  h
    rw [wX12_takesSome_4] at h
    refine x_iload_n C 3 rfl rfl dX12_takesSome_4 ?_
    refine x_bipush C (v1 := 10) dX12_takesSome_5 (by decide) ?_
    refine x_icmp_ge C (tgt := 37) dX12_takesSome_7 (by decide) (fun hq1 => ?_) (fun hq1 => ?_)
    · replace h := x_ift hq1 h
      refine x_iload_n C 2 rfl rfl dX12_takesSome_37 ?_
      exact x_iret C dX12_takesSome_38 ⟨_, rfl, h⟩
    · replace h := x_iff hq1 h
      refine x_iload_n C 1 rfl rfl dX12_takesSome_10 ?_
      refine x_iload_n C 3 rfl rfl dX12_takesSome_11 ?_
      refine x_callS C (st := []) (As := [.int x1, .int x3]) (tX12_has hg _ _ _ _ _  h) wm_X12_194 wsm_X12_has wz_X12 wc_X12_has yd_X12_has rfl ⟨rfl, rfl⟩ ⟨Nat.le_of_ble_eq_true rfl, Nat.le_of_ble_eq_true rfl⟩ (Nat.le_of_ble_eq_true rfl) rfl dX12_takesSome_12 (x_ki (fun r3 M2 h => ?_))
      refine x_if_ne C (tgt := 21) dX12_takesSome_15 (by decide) (fun hq4 => ?_) (fun hq4 => ?_)
      · replace h := x_iff hq4 h
        refine x_aload_n C 0 rfl rfl dX12_takesSome_21 ?_
        refine x_get C (c := 0) (ci := 12) (k1 := 97) (v1 := .ref (ga g 56)) (enM_12 (c := 0) rfl) (Nat.le_of_ble_eq_true rfl) rfl inX12 (by decide) wf_X12_182 rfl dX12_takesSome_22 ?_
        refine x_iload_n C 2 rfl rfl dX12_takesSome_25 ?_
        refine x_iload_n C 3 rfl rfl dX12_takesSome_26 ?_
        obtain ⟨hi5, h⟩ := h
        refine x_iast C 0 (c := 56) (enM_20n (c := 56) (n := 10) rfl rfl) (Nat.le_of_ble_eq_true rfl) rfl hi5 dX12_takesSome_27 ?_
        refine x_nmM (fun M6 eM6 => ?_)
        replace h := h M6 eM6
        obtain ⟨v7, ev7⟩ : ∃ z : Int32, z = x2 + 1 := ⟨_, rfl⟩
        replace h := h v7 ev7
        refine x_iinc C 2 (v1 := v7) (L' := [(2, .int v7), (0, .ref (ga g 0)), (1, .int x1), (3, .int x3)]) rfl (by rw [ev7]; rfl) rfl (Nat.le_of_ble_eq_true rfl) dX12_takesSome_28 ?_
        refine x_loc (L' := [(0, .ref (ga g 0)), (1, .int x1), (2, .int v7), (3, .int x3)]) [1, 2, 0, 3] rfl ?_
        exact tX12_takesSome_31 hg  C  ih _ _ _ _  h
      · replace h := x_ift hq4 h
        refine x_goto C (tgt := 31) dX12_takesSome_18 (by decide) ?_
        exact tX12_takesSome_31 hg  C  ih _ _ _ _  h
set_option maxHeartbeats 4000000 in
set_option maxRecDepth 100000 in
theorem tX12_takesSome {g : xG} (hg : x_inj (WM g))  (l : Launch) (a0 : Int32) (M : xMem) (post : Int32 → xMem → Prop)  (h : wX12_takesSome a0 M post) : xMet (WM g) l yX12_takesSome cX12_takesSome 4 (some .int) (rm_X12_takesSome) [.ref (ga g 0), .int a0] M (pI post) := by
  refine x_enter (own := RX12) (L0 := [(0, .ref (ga g 0)), (1, .int a0)]) (by decide +kernel) rfl hg (x_stM g) (Nat.le_of_ble_eq_true rfl) rfl (fun x hl C => ?_)
  unfold wX12_takesSome at h
  refine x_iconst C (v1 := 0) dX12_takesSome_0 (by decide) ?_
  refine x_istore_n C (L' := [(2, .int 0), (0, .ref (ga g 0)), (1, .int a0)]) rfl rfl (Nat.le_of_ble_eq_true rfl) dX12_takesSome_1 ?_
  refine x_iconst C (v1 := 0) dX12_takesSome_2 (by decide) ?_
  refine x_istore_n C (L' := [(3, .int 0), (2, .int 0), (0, .ref (ga g 0)), (1, .int a0)]) rfl rfl (Nat.le_of_ble_eq_true rfl) dX12_takesSome_3 ?_
  refine x_loc (L' := [(0, .ref (ga g 0)), (1, .int a0), (2, .int 0), (3, .int 0)]) [2, 3, 1, 0] rfl ?_
  obtain ⟨n4, h⟩ := h
  exact tX12_takesSome_4 hg  C   _ _ _ _ _  h
set_option maxHeartbeats 4000000 in
set_option maxRecDepth 100000 in
theorem tX12_areStories_60 {g : xG} (hg : x_inj (WM g))  {x : xCx}  {K32 : Int32 → Int32 → xMem → Prop} {post : Int32 → xMem → Prop} (C : xOk (WM g) x cX12_areStories RX12 5 (some .boolean) (rm_X12_areStories) (pI post))  (hK32 : ∀ (x1 : Int32) (x4 : Int32) (M : xMem), K32 x1 x4 M → xW (WM g) x 5 32 [(0, .ref (ga g 0)), (1, .int x1), (4, .int x4)] [] M) (x1 : Int32) (x4 : Int32) (M : xMem)  (h : wX12_areStories_60 K32 post x1 x4 M) : xW (WM g) x 5 60 [(0, .ref (ga g 0)), (1, .int x1), (4, .int x4)] [] M := by
  unfold wX12_areStories_60 at h
  obtain ⟨v1, ev1⟩ : ∃ z : Int32, z = x4 + 1 := ⟨_, rfl⟩
  replace h := h v1 ev1
  refine x_iinc C 2 (v1 := v1) (L' := [(4, .int v1), (0, .ref (ga g 0)), (1, .int x1)]) rfl (by rw [ev1]; rfl) rfl (Nat.le_of_ble_eq_true rfl) dX12_areStories_60 ?_
  refine x_goto C (tgt := 32) dX12_areStories_63 (by decide) ?_
  refine x_loc (L' := [(0, .ref (ga g 0)), (1, .int x1), (4, .int v1)]) [1, 2, 0] rfl ?_
  exact hK32 _ _ _  h
set_option maxHeartbeats 4000000 in
set_option maxRecDepth 100000 in
theorem tX12_areStories_32 {g : xG} (hg : x_inj (WM g))  {x : xCx}   {post : Int32 → xMem → Prop} (C : xOk (WM g) x cX12_areStories RX12 5 (some .boolean) (rm_X12_areStories) (pI post))   : ∀ (n : Nat) (x1 : Int32) (x4 : Int32) (M : xMem), wX12_areStories_32 post n x1 x4 M → xW (WM g) x 5 32 [(0, .ref (ga g 0)), (1, .int x1), (4, .int x4)] [] M := by
  intro n
  induction n with
  | zero =>
    intro x1 x4 M  h
    exact h.elim
  | succ n ih =>
    intro x1 x4 M  h
    rw [wX12_areStories_32] at h
    refine x_iload C 2 rfl dX12_areStories_32 ?_
    refine x_bipush C (v1 := 6) dX12_areStories_34 (by decide) ?_
    refine x_icmp_ge C (tgt := 66) dX12_areStories_36 (by decide) (fun hq1 => ?_) (fun hq1 => ?_)
    · replace h := x_ift hq1 h
      refine x_iconst C (v1 := 1) dX12_areStories_66 (by decide) ?_
      exact x_zret C rfl dX12_areStories_67 ⟨_, rfl, h⟩
    · replace h := x_iff hq1 h
      refine x_iload_n C 1 rfl rfl dX12_areStories_39 ?_
      refine x_iload C 2 rfl dX12_areStories_40 ?_
      refine x_callS C (st := []) (As := [.int x1, .int x4]) (tX12_has hg _ _ _ _ _  h) wm_X12_194 wsm_X12_has wz_X12 wc_X12_has yd_X12_has rfl ⟨rfl, rfl⟩ ⟨Nat.le_of_ble_eq_true rfl, Nat.le_of_ble_eq_true rfl⟩ (Nat.le_of_ble_eq_true rfl) rfl dX12_areStories_42 (x_ki (fun r3 M2 h => ?_))
      refine x_if_eq C (tgt := 60) dX12_areStories_45 (by decide) (fun hq4 => ?_) (fun hq4 => ?_)
      · replace h := x_ift hq4 h
        exact tX12_areStories_60 hg  C  ih _ _ _  h
      · replace h := x_iff hq4 h
        refine x_aload_n C 0 rfl rfl dX12_areStories_48 ?_
        refine x_get C (c := 0) (ci := 12) (k1 := 10) (v1 := .ref (ga g 2)) (enM_12 (c := 0) rfl) (Nat.le_of_ble_eq_true rfl) rfl inX12 (by decide) wf_X12_17 rfl dX12_areStories_49 ?_
        refine x_iload C 2 rfl dX12_areStories_52 ?_
        obtain ⟨hi5, h⟩ := h
        refine x_zald C 2 (c := 2) (enM_24n (c := 2) (n := 6) rfl rfl) (Nat.le_of_ble_eq_true rfl) rfl hi5 dX12_areStories_54 ?_
        refine x_if_ne C (tgt := 60) dX12_areStories_55 (by decide) (fun hq6 => ?_) (fun hq6 => ?_)
        · replace h := x_iff hq6 h
          exact tX12_areStories_60 hg  C  ih _ _ _  h
        · replace h := x_ift hq6 h
          refine x_iconst C (v1 := 0) dX12_areStories_58 (by decide) ?_
          exact x_zret C rfl dX12_areStories_59 ⟨_, rfl, h⟩
set_option maxHeartbeats 4000000 in
set_option maxRecDepth 100000 in
theorem tX12_areStories {g : xG} (hg : x_inj (WM g))  (l : Launch) (a0 : Int32) (a1 : Int32) (a2 : Int32) (M : xMem) (post : Int32 → xMem → Prop)  (h : wX12_areStories a0 a1 a2 M post) : xMet (WM g) l yX12_areStories cX12_areStories 5 (some .boolean) (rm_X12_areStories) [.ref (ga g 0), .int a0, .int a1, .int a2] M (pI post) := by
  refine x_enter (own := RX12) (L0 := [(0, .ref (ga g 0)), (1, .int a0), (2, .int a1), (3, .int a2)]) (by decide +kernel) rfl hg (x_stM g) (Nat.le_of_ble_eq_true rfl) rfl (fun x hl C => ?_)
  unfold wX12_areStories at h
  refine x_iload_n C 1 rfl rfl dX12_areStories_0 ?_
  refine x_i2l C dX12_areStories_1 ?_
  refine x_lconst C (v1 := 1) dX12_areStories_2 (by decide) ?_
  refine x_ldc2 C (v1 := 63) (wcl_X12_583) dX12_areStories_3 ?_
  refine x_callS C (st := []) (As := [.long ((a0 : Int32).toInt64), .long 1, .long 63]) (tX12_lies hg _ _ _ _ _ _  h) wm_X12_222 wsm_X12_lies wz_X12 wc_X12_lies yd_X12_lies rfl ⟨rfl, rfl⟩ ⟨Nat.le_of_ble_eq_true rfl, Nat.le_of_ble_eq_true rfl⟩ (Nat.le_of_ble_eq_true rfl) rfl dX12_areStories_6 (x_ki (fun r2 M1 h => ?_))
  refine x_if_eq C (tgt := 27) dX12_areStories_9 (by decide) (fun hq3 => ?_) (fun hq3 => ?_)
  · replace h := x_ift hq3 h
    refine x_iconst C (v1 := 0) dX12_areStories_27 (by decide) ?_
    exact x_zret C rfl dX12_areStories_28 ⟨_, rfl, h⟩
  · replace h := x_iff hq3 h
    refine x_iload_n C 1 rfl rfl dX12_areStories_12 ?_
    refine x_callS C (st := []) (As := [.int a0]) (tX12_sizeOf hg _ _ _ _  h) wm_X12_289 wsm_X12_sizeOf wz_X12 wc_X12_sizeOf yd_X12_sizeOf rfl ⟨rfl, rfl⟩ ⟨Nat.le_of_ble_eq_true rfl, Nat.le_of_ble_eq_true rfl⟩ (Nat.le_of_ble_eq_true rfl) rfl dX12_areStories_13 (x_ki (fun r5 M4 h => ?_))
    refine x_i2l C dX12_areStories_16 ?_
    refine x_iload_n C 2 rfl rfl dX12_areStories_17 ?_
    refine x_i2l C dX12_areStories_18 ?_
    refine x_iload_n C 3 rfl rfl dX12_areStories_19 ?_
    refine x_i2l C dX12_areStories_20 ?_
    refine x_callS C (st := []) (As := [.long ((r5 : Int32).toInt64), .long ((a1 : Int32).toInt64), .long ((a2 : Int32).toInt64)]) (tX12_lies hg _ _ _ _ _ _  h) wm_X12_222 wsm_X12_lies wz_X12 wc_X12_lies yd_X12_lies rfl ⟨rfl, rfl⟩ ⟨Nat.le_of_ble_eq_true rfl, Nat.le_of_ble_eq_true rfl⟩ (Nat.le_of_ble_eq_true rfl) rfl dX12_areStories_21 (x_ki (fun r7 M6 h => ?_))
    refine x_if_ne C (tgt := 29) dX12_areStories_24 (by decide) (fun hq8 => ?_) (fun hq8 => ?_)
    · replace h := x_iff hq8 h
      refine x_iconst C (v1 := 0) dX12_areStories_29 (by decide) ?_
      refine x_istore C (L' := [(4, .int 0), (0, .ref (ga g 0)), (1, .int a0), (2, .int a1), (3, .int a2)]) rfl (Nat.le_of_ble_eq_true rfl) dX12_areStories_30 ?_
      refine x_loc (L' := [(0, .ref (ga g 0)), (1, .int a0), (4, .int 0)]) [1, 2, 0] rfl ?_
      obtain ⟨n32, h⟩ := h
      exact tX12_areStories_32 hg  C   _ _ _ _  h
    · replace h := x_ift hq8 h
      refine x_iconst C (v1 := 0) dX12_areStories_27 (by decide) ?_
      exact x_zret C rfl dX12_areStories_28 ⟨_, rfl, h⟩
set_option maxHeartbeats 4000000 in
set_option maxRecDepth 100000 in
theorem tX12_powerOf_4 {g : xG} (hg : x_inj (WM g))  {x : xCx}   {post : Int32 → xMem → Prop} (C : xOk (WM g) x cX12_powerOf RX12 4 (some .int) (rm_X12_powerOf) (pI post))   : ∀ (n : Nat) (x0 : Int32) (x1 : Int32) (x2 : Int32) (x3 : Int32) (M : xMem), wX12_powerOf_4 post n x0 x1 x2 x3 M → xW (WM g) x 4 4 [(0, .int x0), (1, .int x1), (2, .int x2), (3, .int x3)] [] M := by
  intro n
  induction n with
  | zero =>
    intro x0 x1 x2 x3 M  h
    exact h.elim
  | succ n ih =>
    intro x0 x1 x2 x3 M  h
    rw [wX12_powerOf_4] at h
    refine x_iload_n C 3 rfl rfl dX12_powerOf_4 ?_
    refine x_iload_n C 1 rfl rfl dX12_powerOf_5 ?_
    refine x_icmp_ge C (tgt := 19) dX12_powerOf_6 (by decide) (fun hq1 => ?_) (fun hq1 => ?_)
    · replace h := x_ift hq1 h
      refine x_iload_n C 2 rfl rfl dX12_powerOf_19 ?_
      exact x_iret C dX12_powerOf_20 ⟨_, rfl, h⟩
    · replace h := x_iff hq1 h
      refine x_iload_n C 2 rfl rfl dX12_powerOf_9 ?_
      refine x_iload_n C 0 rfl rfl dX12_powerOf_10 ?_
      refine x_imul C dX12_powerOf_11 ?_
      refine x_nm (fun v2 ev2 => ?_)
      replace h := h v2 ev2
      refine x_istore_n C (L' := [(2, .int v2), (0, .int x0), (1, .int x1), (3, .int x3)]) rfl rfl (Nat.le_of_ble_eq_true rfl) dX12_powerOf_12 ?_
      obtain ⟨v3, ev3⟩ : ∃ z : Int32, z = x3 + 1 := ⟨_, rfl⟩
      replace h := h v3 ev3
      refine x_iinc C 3 (v1 := v3) (L' := [(3, .int v3), (2, .int v2), (0, .int x0), (1, .int x1)]) rfl (by rw [ev3]; rfl) rfl (Nat.le_of_ble_eq_true rfl) dX12_powerOf_13 ?_
      refine x_goto C (tgt := 4) dX12_powerOf_16 (by decide) ?_
      refine x_loc (L' := [(0, .int x0), (1, .int x1), (2, .int v2), (3, .int v3)]) [2, 3, 1, 0] rfl ?_
      exact ih _ _ _ _ _  h
set_option maxHeartbeats 4000000 in
set_option maxRecDepth 100000 in
theorem tX12_powerOf {g : xG} (hg : x_inj (WM g))  (l : Launch) (a0 : Int32) (a1 : Int32) (M : xMem) (post : Int32 → xMem → Prop)  (h : wX12_powerOf a0 a1 M post) : xMet (WM g) l yX12_powerOf cX12_powerOf 4 (some .int) (rm_X12_powerOf) [.int a0, .int a1] M (pI post) := by
  refine x_enter (own := RX12) (L0 := [(0, .int a0), (1, .int a1)]) (by decide +kernel) rfl hg (x_stM g) (Nat.le_of_ble_eq_true rfl) rfl (fun x hl C => ?_)
  unfold wX12_powerOf at h
  refine x_iconst C (v1 := 1) dX12_powerOf_0 (by decide) ?_
  refine x_istore_n C (L' := [(2, .int 1), (0, .int a0), (1, .int a1)]) rfl rfl (Nat.le_of_ble_eq_true rfl) dX12_powerOf_1 ?_
  refine x_iconst C (v1 := 0) dX12_powerOf_2 (by decide) ?_
  refine x_istore_n C (L' := [(3, .int 0), (2, .int 1), (0, .int a0), (1, .int a1)]) rfl rfl (Nat.le_of_ble_eq_true rfl) dX12_powerOf_3 ?_
  refine x_loc (L' := [(0, .int a0), (1, .int a1), (2, .int 1), (3, .int 0)]) [2, 3, 1, 0] rfl ?_
  obtain ⟨n4, h⟩ := h
  exact tX12_powerOf_4 hg  C   _ _ _ _ _ _  h
set_option maxHeartbeats 4000000 in
set_option maxRecDepth 100000 in
theorem tX12_opensRow_8 {g : xG} (hg : x_inj (WM g))  {x : xCx}   {post : xMem → Prop} (C : xOk (WM g) x cX12_opensRow RX12 6 none (rm_X12_opensRow) (pV post))   : ∀ (n : Nat) (x3 : Int32) (x4 : Int32) (x5 : Int32) (M : xMem), wX12_opensRow_8 post n x3 x4 x5 M → xW (WM g) x 6 8 [(0, .ref (ga g 0)), (3, .int x3), (4, .int x4), (5, .int x5)] [] M := by
  intro n
  induction n with
  | zero =>
    intro x3 x4 x5 M  h
    exact h.elim
  | succ n ih =>
    intro x3 x4 x5 M  h
    rw [wX12_opensRow_8] at h
    refine x_iload C 3 rfl dX12_opensRow_8 ?_
    refine x_if_lt C (tgt := 36) dX12_opensRow_10 (by decide) (fun hq1 => ?_) (fun hq1 => ?_)
    · replace h := x_ift hq1 h
      exact x_vret C dX12_opensRow_36 ⟨rfl, h⟩
    · replace h := x_iff hq1 h
      refine x_aload_n C 0 rfl rfl dX12_opensRow_13 ?_
      refine x_get C (c := 0) (ci := 12) (k1 := 98) (v1 := .ref (ga g 57)) (enM_12 (c := 0) rfl) (Nat.le_of_ble_eq_true rfl) rfl inX12 (by decide) wf_X12_185 rfl dX12_opensRow_14 ?_
      refine x_iload C 3 rfl dX12_opensRow_17 ?_
      refine x_iload C 2 rfl dX12_opensRow_19 ?_
      refine x_iload_n C 1 rfl rfl dX12_opensRow_21 ?_
      obtain ⟨hz2, h⟩ := h
      refine x_irem C hz2 dX12_opensRow_22 ?_
      obtain ⟨hi3, h⟩ := h
      refine x_iast C 0 (c := 57) (enM_20n (c := 57) (n := 8) rfl rfl) (Nat.le_of_ble_eq_true rfl) rfl hi3 dX12_opensRow_23 ?_
      refine x_nmM (fun M4 eM4 => ?_)
      replace h := h M4 eM4
      refine x_iload C 2 rfl dX12_opensRow_24 ?_
      refine x_iload_n C 1 rfl rfl dX12_opensRow_26 ?_
      obtain ⟨hz5, h⟩ := h
      refine x_idiv C hz5 dX12_opensRow_27 ?_
      refine x_nm (fun v6 ev6 => ?_)
      replace h := h v6 ev6
      refine x_istore C (L' := [(4, .int v6), (0, .ref (ga g 0)), (3, .int x3), (5, .int x5)]) rfl (Nat.le_of_ble_eq_true rfl) dX12_opensRow_28 ?_
      obtain ⟨v7, ev7⟩ : ∃ z : Int32, z = x5 + (-1) := ⟨_, rfl⟩
      replace h := h v7 ev7
      refine x_iinc C 3 (v1 := v7) (L' := [(5, .int v7), (4, .int v6), (0, .ref (ga g 0)), (3, .int x3)]) rfl (by rw [ev7]; rfl) rfl (Nat.le_of_ble_eq_true rfl) dX12_opensRow_30 ?_
      refine x_goto C (tgt := 8) dX12_opensRow_33 (by decide) ?_
      refine x_loc (L' := [(0, .ref (ga g 0)), (3, .int x3), (4, .int v6), (5, .int v7)]) [2, 3, 1, 0] rfl ?_
      exact ih _ _ _ _  h
set_option maxHeartbeats 4000000 in
set_option maxRecDepth 100000 in
theorem tX12_opensRow {g : xG} (hg : x_inj (WM g))  (l : Launch) (a0 : Int32) (a1 : Int32) (a2 : Int32) (M : xMem) (post : xMem → Prop)  (h : wX12_opensRow a0 a1 a2 M post) : xMet (WM g) l yX12_opensRow cX12_opensRow 6 none (rm_X12_opensRow) [.ref (ga g 0), .int a0, .int a1, .int a2] M (pV post) := by
  refine x_enter (own := RX12) (L0 := [(0, .ref (ga g 0)), (1, .int a0), (2, .int a1), (3, .int a2)]) (by decide +kernel) rfl hg (x_stM g) (Nat.le_of_ble_eq_true rfl) rfl (fun x hl C => ?_)
  unfold wX12_opensRow at h
  refine x_iload_n C 1 rfl rfl dX12_opensRow_0 ?_
  refine x_istore C (L' := [(4, .int a0), (0, .ref (ga g 0)), (1, .int a0), (2, .int a1), (3, .int a2)]) rfl (Nat.le_of_ble_eq_true rfl) dX12_opensRow_1 ?_
  refine x_iload_n C 3 rfl rfl dX12_opensRow_3 ?_
  refine x_iconst C (v1 := 1) dX12_opensRow_4 (by decide) ?_
  refine x_isub C dX12_opensRow_5 ?_
  refine x_nm (fun v1 ev1 => ?_)
  replace h := h v1 ev1
  refine x_istore C (L' := [(5, .int v1), (4, .int a0), (0, .ref (ga g 0)), (1, .int a0), (2, .int a1), (3, .int a2)]) rfl (Nat.le_of_ble_eq_true rfl) dX12_opensRow_6 ?_
  refine x_loc (L' := [(0, .ref (ga g 0)), (3, .int a2), (4, .int a0), (5, .int v1)]) [2, 5, 1, 0] rfl ?_
  obtain ⟨n8, h⟩ := h
  exact tX12_opensRow_8 hg  C   _ _ _ _ _  h
set_option maxHeartbeats 4000000 in
set_option maxRecDepth 100000 in
theorem tX12_isOrder_4 {g : xG} (hg : x_inj (WM g))  {x : xCx}   {post : Int32 → xMem → Prop} (C : xOk (WM g) x cX12_isOrder RX12 4 (some .boolean) (rm_X12_isOrder) (pI post))   : ∀ (n : Nat) (x1 : Int32) (x2 : Int32) (x3 : Int32) (M : xMem), wX12_isOrder_4 post n x1 x2 x3 M → xW (WM g) x 4 4 [(0, .ref (ga g 0)), (1, .int x1), (2, .int x2), (3, .int x3)] [] M := by
  intro n
  induction n with
  | zero =>
    intro x1 x2 x3 M  h
    exact h.elim
  | succ n ih =>
    intro x1 x2 x3 M  h
    rw [wX12_isOrder_4] at h
    refine x_iload_n C 3 rfl rfl dX12_isOrder_4 ?_
    refine x_iload_n C 1 rfl rfl dX12_isOrder_5 ?_
    refine x_icmp_ge C (tgt := 26) dX12_isOrder_6 (by decide) (fun hq1 => ?_) (fun hq1 => ?_)
    · replace h := x_ift hq1 h
      refine x_iload_n C 2 rfl rfl dX12_isOrder_26 ?_
      refine x_iconst C (v1 := 1) dX12_isOrder_27 (by decide) ?_
      refine x_iload_n C 1 rfl rfl dX12_isOrder_28 ?_
      refine x_ishl C dX12_isOrder_29 ?_
      refine x_iconst C (v1 := 1) dX12_isOrder_30 (by decide) ?_
      refine x_isub C dX12_isOrder_31 ?_
      refine x_icmp_ne C (tgt := 39) dX12_isOrder_32 (by decide) (fun hq2 => ?_) (fun hq2 => ?_)
      · replace h := x_iff hq2 h
        refine x_iconst C (v1 := 0) dX12_isOrder_39 (by decide) ?_
        exact x_zret C rfl dX12_isOrder_40 ⟨_, rfl, h⟩
      · replace h := x_ift hq2 h
        refine x_iconst C (v1 := 1) dX12_isOrder_35 (by decide) ?_
        refine x_goto C (tgt := 40) dX12_isOrder_36 (by decide) ?_
        exact x_zret C rfl dX12_isOrder_40 ⟨_, rfl, h⟩
    · replace h := x_iff hq1 h
      refine x_iload_n C 2 rfl rfl dX12_isOrder_9 ?_
      refine x_iconst C (v1 := 1) dX12_isOrder_10 (by decide) ?_
      refine x_aload_n C 0 rfl rfl dX12_isOrder_11 ?_
      refine x_get C (c := 0) (ci := 12) (k1 := 98) (v1 := .ref (ga g 57)) (enM_12 (c := 0) rfl) (Nat.le_of_ble_eq_true rfl) rfl inX12 (by decide) wf_X12_185 rfl dX12_isOrder_12 ?_
      refine x_iload_n C 3 rfl rfl dX12_isOrder_15 ?_
      obtain ⟨hi3, h⟩ := h
      refine x_iald C 0 (c := 57) (enM_20n (c := 57) (n := 8) rfl rfl) (Nat.le_of_ble_eq_true rfl) rfl hi3 dX12_isOrder_16 ?_
      refine x_ishl C dX12_isOrder_17 ?_
      refine x_ior C dX12_isOrder_18 ?_
      refine x_nm (fun v4 ev4 => ?_)
      replace h := h v4 ev4
      refine x_istore_n C (L' := [(2, .int v4), (0, .ref (ga g 0)), (1, .int x1), (3, .int x3)]) rfl rfl (Nat.le_of_ble_eq_true rfl) dX12_isOrder_19 ?_
      obtain ⟨v5, ev5⟩ : ∃ z : Int32, z = x3 + 1 := ⟨_, rfl⟩
      replace h := h v5 ev5
      refine x_iinc C 3 (v1 := v5) (L' := [(3, .int v5), (2, .int v4), (0, .ref (ga g 0)), (1, .int x1)]) rfl (by rw [ev5]; rfl) rfl (Nat.le_of_ble_eq_true rfl) dX12_isOrder_20 ?_
      refine x_goto C (tgt := 4) dX12_isOrder_23 (by decide) ?_
      refine x_loc (L' := [(0, .ref (ga g 0)), (1, .int x1), (2, .int v4), (3, .int v5)]) [2, 3, 1, 0] rfl ?_
      exact ih _ _ _ _  h
set_option maxHeartbeats 4000000 in
set_option maxRecDepth 100000 in
theorem tX12_isOrder {g : xG} (hg : x_inj (WM g))  (l : Launch) (a0 : Int32) (M : xMem) (post : Int32 → xMem → Prop)  (h : wX12_isOrder a0 M post) : xMet (WM g) l yX12_isOrder cX12_isOrder 4 (some .boolean) (rm_X12_isOrder) [.ref (ga g 0), .int a0] M (pI post) := by
  refine x_enter (own := RX12) (L0 := [(0, .ref (ga g 0)), (1, .int a0)]) (by decide +kernel) rfl hg (x_stM g) (Nat.le_of_ble_eq_true rfl) rfl (fun x hl C => ?_)
  unfold wX12_isOrder at h
  refine x_iconst C (v1 := 0) dX12_isOrder_0 (by decide) ?_
  refine x_istore_n C (L' := [(2, .int 0), (0, .ref (ga g 0)), (1, .int a0)]) rfl rfl (Nat.le_of_ble_eq_true rfl) dX12_isOrder_1 ?_
  refine x_iconst C (v1 := 0) dX12_isOrder_2 (by decide) ?_
  refine x_istore_n C (L' := [(3, .int 0), (2, .int 0), (0, .ref (ga g 0)), (1, .int a0)]) rfl rfl (Nat.le_of_ble_eq_true rfl) dX12_isOrder_3 ?_
  refine x_loc (L' := [(0, .ref (ga g 0)), (1, .int a0), (2, .int 0), (3, .int 0)]) [2, 3, 1, 0] rfl ?_
  obtain ⟨n4, h⟩ := h
  exact tX12_isOrder_4 hg  C   _ _ _ _ _  h
set_option maxHeartbeats 4000000 in
set_option maxRecDepth 100000 in
theorem tX12_opennessOf_76 {g : xG} (hg : x_inj (WM g))  {x : xCx}  {K7 : Int32 → Int32 → Int32 → Int32 → xMem → Prop} {K30 : Int32 → Int32 → Int32 → Int32 → Int32 → Int32 → xMem → Prop} {post : Int32 → xMem → Prop} (C : xOk (WM g) x cX12_opennessOf RX12 7 (some .int) (rm_X12_opennessOf) (pI post))  (hK7 : ∀ (x1 : Int32) (x2 : Int32) (x3 : Int32) (x4 : Int32) (M : xMem), K7 x1 x2 x3 x4 M → xW (WM g) x 7 7 [(0, .ref (ga g 0)), (1, .int x1), (2, .int x2), (3, .int x3), (4, .int x4)] [] M) (hK30 : ∀ (x1 : Int32) (x2 : Int32) (x3 : Int32) (x4 : Int32) (x5 : Int32) (x6 : Int32) (M : xMem), K30 x1 x2 x3 x4 x5 x6 M → xW (WM g) x 7 30 [(0, .ref (ga g 0)), (1, .int x1), (2, .int x2), (3, .int x3), (4, .int x4), (5, .int x5), (6, .int x6)] [] M) (x1 : Int32) (x2 : Int32) (x4 : Int32) (x5 : Int32) (x6 : Int32) (s0 : Int32) (M : xMem)  (h : wX12_opennessOf_76 K7 K30 post x1 x2 x4 x5 x6 s0 M) : xW (WM g) x 7 76 [(0, .ref (ga g 0)), (1, .int x1), (2, .int x2), (4, .int x4), (5, .int x5), (6, .int x6)] [.int s0] M := by
  unfold wX12_opennessOf_76 at h
  refine x_istore_n C (L' := [(3, .int s0), (0, .ref (ga g 0)), (1, .int x1), (2, .int x2), (4, .int x4), (5, .int x5), (6, .int x6)]) rfl rfl (Nat.le_of_ble_eq_true rfl) dX12_opennessOf_76 ?_
  obtain ⟨v1, ev1⟩ : ∃ z : Int32, z = x6 + 1 := ⟨_, rfl⟩
  replace h := h v1 ev1
  refine x_iinc C 6 (v1 := v1) (L' := [(6, .int v1), (3, .int s0), (0, .ref (ga g 0)), (1, .int x1), (2, .int x2), (4, .int x4), (5, .int x5)]) rfl (by rw [ev1]; rfl) rfl (Nat.le_of_ble_eq_true rfl) dX12_opennessOf_77 ?_
  refine x_goto C (tgt := 30) dX12_opennessOf_80 (by decide) ?_
  refine x_loc (L' := [(0, .ref (ga g 0)), (1, .int x1), (2, .int x2), (3, .int s0), (4, .int x4), (5, .int x5), (6, .int v1)]) [2, 3, 4, 1, 5, 6, 0] rfl ?_
  exact hK30 _ _ _ _ _ _ _  h
set_option maxHeartbeats 4000000 in
set_option maxRecDepth 100000 in
theorem tX12_opennessOf_30 {g : xG} (hg : x_inj (WM g))  {x : xCx}  {K7 : Int32 → Int32 → Int32 → Int32 → xMem → Prop} {post : Int32 → xMem → Prop} (C : xOk (WM g) x cX12_opennessOf RX12 7 (some .int) (rm_X12_opennessOf) (pI post))  (hK7 : ∀ (x1 : Int32) (x2 : Int32) (x3 : Int32) (x4 : Int32) (M : xMem), K7 x1 x2 x3 x4 M → xW (WM g) x 7 7 [(0, .ref (ga g 0)), (1, .int x1), (2, .int x2), (3, .int x3), (4, .int x4)] [] M) : ∀ (n : Nat) (x1 : Int32) (x2 : Int32) (x3 : Int32) (x4 : Int32) (x5 : Int32) (x6 : Int32) (M : xMem), wX12_opennessOf_30 K7 post n x1 x2 x3 x4 x5 x6 M → xW (WM g) x 7 30 [(0, .ref (ga g 0)), (1, .int x1), (2, .int x2), (3, .int x3), (4, .int x4), (5, .int x5), (6, .int x6)] [] M := by
  intro n
  induction n with
  | zero =>
    intro x1 x2 x3 x4 x5 x6 M  h
    exact h.elim
  | succ n ih =>
    intro x1 x2 x3 x4 x5 x6 M  h
    rw [wX12_opennessOf_30] at h
    refine x_iload C 6 rfl dX12_opennessOf_30 ?_
    refine x_aload_n C 0 rfl rfl dX12_opennessOf_32 ?_
    refine x_get C (c := 0) (ci := 12) (k1 := 11) (v1 := .ref (ga g 3)) (enM_12 (c := 0) rfl) (Nat.le_of_ble_eq_true rfl) rfl inX12 (by decide) wf_X12_21 rfl dX12_opennessOf_33 ?_
    refine x_iload C 5 rfl dX12_opennessOf_36 ?_
    obtain ⟨hi1, h⟩ := h
    refine x_iald C 0 (c := 3) (enM_20n (c := 3) (n := 6) rfl rfl) (Nat.le_of_ble_eq_true rfl) rfl hi1 dX12_opennessOf_38 ?_
    refine x_icmp_ge C (tgt := 83) dX12_opennessOf_39 (by decide) (fun hq2 => ?_) (fun hq2 => ?_)
    · replace h := x_ift hq2 h
      obtain ⟨v3, ev3⟩ : ∃ z : Int32, z = x4 + 1 := ⟨_, rfl⟩
      replace h := h v3 ev3
      refine x_iinc C 4 (v1 := v3) (L' := [(4, .int v3), (0, .ref (ga g 0)), (1, .int x1), (2, .int x2), (3, .int x3), (5, .int x5), (6, .int x6)]) rfl (by rw [ev3]; rfl) rfl (Nat.le_of_ble_eq_true rfl) dX12_opennessOf_83 ?_
      refine x_goto C (tgt := 7) dX12_opennessOf_86 (by decide) ?_
      refine x_loc (L' := [(0, .ref (ga g 0)), (1, .int x1), (2, .int x2), (3, .int x3), (4, .int v3)]) [1, 2, 3, 4, 0] rfl ?_
      exact hK7 _ _ _ _ _  h
    · replace h := x_iff hq2 h
      refine x_iload_n C 2 rfl rfl dX12_opennessOf_42 ?_
      refine x_aload_n C 0 rfl rfl dX12_opennessOf_43 ?_
      refine x_get C (c := 0) (ci := 12) (k1 := 12) (v1 := .ref (ga g 4)) (enM_12 (c := 0) rfl) (Nat.le_of_ble_eq_true rfl) rfl inX12 (by decide) wf_X12_25 rfl dX12_opennessOf_44 ?_
      refine x_bipush C (v1 := 72) dX12_opennessOf_47 (by decide) ?_
      refine x_iload C 5 rfl dX12_opennessOf_49 ?_
      refine x_imul C dX12_opennessOf_51 ?_
      refine x_iload C 6 rfl dX12_opennessOf_52 ?_
      refine x_iadd C dX12_opennessOf_54 ?_
      obtain ⟨hi4, h⟩ := h
      refine x_iald C 0 (c := 4) (enM_20n (c := 4) (n := 432) rfl rfl) (Nat.le_of_ble_eq_true rfl) rfl hi4 dX12_opennessOf_55 ?_
      refine x_callS C (st := []) (As := [.int x2, .int (gi M 4 ((72 * x5) + x6).toNatClampNeg)]) (tX12_turned hg _ _ _ _ _  h) wm_X12_275 wsm_X12_turned wz_X12 wc_X12_turned yd_X12_turned rfl ⟨rfl, rfl⟩ ⟨Nat.le_of_ble_eq_true rfl, Nat.le_of_ble_eq_true rfl⟩ (Nat.le_of_ble_eq_true rfl) rfl dX12_opennessOf_56 (x_ki (fun r6 M5 h => ?_))
      refine x_istore_n C (L' := [(2, .int r6), (0, .ref (ga g 0)), (1, .int x1), (3, .int x3), (4, .int x4), (5, .int x5), (6, .int x6)]) rfl rfl (Nat.le_of_ble_eq_true rfl) dX12_opennessOf_59 ?_
      refine x_iload_n C 0 rfl rfl dX12_opennessOf_60 ?_
      refine x_callS C (st := []) (As := [.int r6]) (tX12_sizeOf hg _ _ _ _  h) wm_X12_289 wsm_X12_sizeOf wz_X12 wc_X12_sizeOf yd_X12_sizeOf rfl ⟨rfl, rfl⟩ ⟨Nat.le_of_ble_eq_true rfl, Nat.le_of_ble_eq_true rfl⟩ (Nat.le_of_ble_eq_true rfl) rfl dX12_opennessOf_61 (x_ki (fun r8 M7 h => ?_))
      refine x_iload_n C 3 rfl rfl dX12_opennessOf_64 ?_
      refine x_icmp_le C (tgt := 75) dX12_opennessOf_65 (by decide) (fun hq9 => ?_) (fun hq9 => ?_)
      · replace h := x_ift hq9 h
        refine x_iload_n C 3 rfl rfl dX12_opennessOf_75 ?_
        refine x_loc (L' := [(0, .ref (ga g 0)), (1, .int x1), (2, .int r6), (4, .int x4), (5, .int x5), (6, .int x6)]) [1, 2, 0, 4, 5, 6] rfl ?_
        exact tX12_opennessOf_76 hg  C  hK7 ih _ _ _ _ _ _ _  h
      · replace h := x_iff hq9 h
        refine x_iload_n C 0 rfl rfl dX12_opennessOf_68 ?_
        refine x_callS C (st := []) (As := [.int r6]) (tX12_sizeOf hg _ _ _ _  h) wm_X12_289 wsm_X12_sizeOf wz_X12 wc_X12_sizeOf yd_X12_sizeOf rfl ⟨rfl, rfl⟩ ⟨Nat.le_of_ble_eq_true rfl, Nat.le_of_ble_eq_true rfl⟩ (Nat.le_of_ble_eq_true rfl) rfl dX12_opennessOf_69 (x_ki (fun r11 M10 h => ?_))
        refine x_goto C (tgt := 76) dX12_opennessOf_72 (by decide) ?_
        refine x_loc (L' := [(0, .ref (ga g 0)), (1, .int x1), (2, .int r6), (4, .int x4), (5, .int x5), (6, .int x6)]) [1, 2, 0, 4, 5, 6] rfl ?_
        exact tX12_opennessOf_76 hg  C  hK7 ih _ _ _ _ _ _ _  h
set_option maxHeartbeats 4000000 in
set_option maxRecDepth 100000 in
theorem tX12_opennessOf_7 {g : xG} (hg : x_inj (WM g))  {x : xCx}   {post : Int32 → xMem → Prop} (C : xOk (WM g) x cX12_opennessOf RX12 7 (some .int) (rm_X12_opennessOf) (pI post))   : ∀ (n : Nat) (x1 : Int32) (x2 : Int32) (x3 : Int32) (x4 : Int32) (M : xMem), wX12_opennessOf_7 post n x1 x2 x3 x4 M → xW (WM g) x 7 7 [(0, .ref (ga g 0)), (1, .int x1), (2, .int x2), (3, .int x3), (4, .int x4)] [] M := by
  intro n
  induction n with
  | zero =>
    intro x1 x2 x3 x4 M  h
    exact h.elim
  | succ n ih =>
    intro x1 x2 x3 x4 M  h
    rw [wX12_opennessOf_7] at h
    refine x_iload C 4 rfl dX12_opennessOf_7 ?_
    refine x_iload_n C 1 rfl rfl dX12_opennessOf_9 ?_
    refine x_icmp_ge C (tgt := 89) dX12_opennessOf_10 (by decide) (fun hq1 => ?_) (fun hq1 => ?_)
    · replace h := x_ift hq1 h
      refine x_bipush C (v1 := 100) dX12_opennessOf_89 (by decide) ?_
      refine x_iload_n C 3 rfl rfl dX12_opennessOf_91 ?_
      refine x_imul C dX12_opennessOf_92 ?_
      refine x_iload_n C 2 rfl rfl dX12_opennessOf_93 ?_
      refine x_callS C (st := [.int (100 * x3)]) (As := [.int x2]) (tX12_sizeOf hg _ _ _ _  h) wm_X12_289 wsm_X12_sizeOf wz_X12 wc_X12_sizeOf yd_X12_sizeOf rfl ⟨rfl, rfl⟩ ⟨Nat.le_of_ble_eq_true rfl, Nat.le_of_ble_eq_true rfl⟩ (Nat.le_of_ble_eq_true rfl) rfl dX12_opennessOf_94 (x_ki (fun r3 M2 h => ?_))
      refine x_iadd C dX12_opennessOf_97 ?_
      exact x_iret C dX12_opennessOf_98 ⟨_, rfl, h⟩
    · replace h := x_iff hq1 h
      refine x_aload_n C 0 rfl rfl dX12_opennessOf_13 ?_
      refine x_get C (c := 0) (ci := 12) (k1 := 97) (v1 := .ref (ga g 56)) (enM_12 (c := 0) rfl) (Nat.le_of_ble_eq_true rfl) rfl inX12 (by decide) wf_X12_182 rfl dX12_opennessOf_14 ?_
      refine x_aload_n C 0 rfl rfl dX12_opennessOf_17 ?_
      refine x_get C (c := 0) (ci := 12) (k1 := 98) (v1 := .ref (ga g 57)) (enM_12 (c := 0) rfl) (Nat.le_of_ble_eq_true rfl) rfl inX12 (by decide) wf_X12_185 rfl dX12_opennessOf_18 ?_
      refine x_iload C 4 rfl dX12_opennessOf_21 ?_
      obtain ⟨hi4, h⟩ := h
      refine x_iald C 0 (c := 57) (enM_20n (c := 57) (n := 8) rfl rfl) (Nat.le_of_ble_eq_true rfl) rfl hi4 dX12_opennessOf_23 ?_
      obtain ⟨hi5, h⟩ := h
      refine x_iald C 0 (c := 56) (enM_20n (c := 56) (n := 10) rfl rfl) (Nat.le_of_ble_eq_true rfl) rfl hi5 dX12_opennessOf_24 ?_
      refine x_nm (fun v6 ev6 => ?_)
      replace h := h v6 ev6
      refine x_istore C (L' := [(5, .int v6), (0, .ref (ga g 0)), (1, .int x1), (2, .int x2), (3, .int x3), (4, .int x4)]) rfl (Nat.le_of_ble_eq_true rfl) dX12_opennessOf_25 ?_
      refine x_iconst C (v1 := 0) dX12_opennessOf_27 (by decide) ?_
      refine x_istore C (L' := [(6, .int 0), (5, .int v6), (0, .ref (ga g 0)), (1, .int x1), (2, .int x2), (3, .int x3), (4, .int x4)]) rfl (Nat.le_of_ble_eq_true rfl) dX12_opennessOf_28 ?_
      refine x_loc (L' := [(0, .ref (ga g 0)), (1, .int x1), (2, .int x2), (3, .int x3), (4, .int x4), (5, .int v6), (6, .int 0)]) [2, 3, 4, 5, 6, 1, 0] rfl ?_
      obtain ⟨n30, h⟩ := h
      exact tX12_opennessOf_30 hg  C  ih _ _ _ _ _ _ _ _  h
set_option maxHeartbeats 4000000 in
set_option maxRecDepth 100000 in
theorem tX12_opennessOf {g : xG} (hg : x_inj (WM g))  (l : Launch) (a0 : Int32) (M : xMem) (post : Int32 → xMem → Prop)  (h : wX12_opennessOf a0 M post) : xMet (WM g) l yX12_opennessOf cX12_opennessOf 7 (some .int) (rm_X12_opennessOf) [.ref (ga g 0), .int a0] M (pI post) := by
  refine x_enter (own := RX12) (L0 := [(0, .ref (ga g 0)), (1, .int a0)]) (by decide +kernel) rfl hg (x_stM g) (Nat.le_of_ble_eq_true rfl) rfl (fun x hl C => ?_)
  unfold wX12_opennessOf at h
  refine x_iconst C (v1 := 0) dX12_opennessOf_0 (by decide) ?_
  refine x_istore_n C (L' := [(2, .int 0), (0, .ref (ga g 0)), (1, .int a0)]) rfl rfl (Nat.le_of_ble_eq_true rfl) dX12_opennessOf_1 ?_
  refine x_iconst C (v1 := 0) dX12_opennessOf_2 (by decide) ?_
  refine x_istore_n C (L' := [(3, .int 0), (2, .int 0), (0, .ref (ga g 0)), (1, .int a0)]) rfl rfl (Nat.le_of_ble_eq_true rfl) dX12_opennessOf_3 ?_
  refine x_iconst C (v1 := 0) dX12_opennessOf_4 (by decide) ?_
  refine x_istore C (L' := [(4, .int 0), (3, .int 0), (2, .int 0), (0, .ref (ga g 0)), (1, .int a0)]) rfl (Nat.le_of_ble_eq_true rfl) dX12_opennessOf_5 ?_
  refine x_loc (L' := [(0, .ref (ga g 0)), (1, .int a0), (2, .int 0), (3, .int 0), (4, .int 0)]) [3, 4, 2, 1, 0] rfl ?_
  obtain ⟨n7, h⟩ := h
  exact tX12_opennessOf_7 hg  C   _ _ _ _ _ _  h
set_option maxHeartbeats 4000000 in
set_option maxRecDepth 100000 in
theorem tX12_series_129 {g : xG} (hg : x_inj (WM g))  {x : xCx}  {K54 : Int32 → Int32 → Int32 → Int32 → xMem → Prop} {post : Int32 → xMem → Prop} (C : xOk (WM g) x cX12_series RX12 7 (some .int) (rm_X12_series) (pI post))  (hK54 : ∀ (x2 : Int32) (x3 : Int32) (x4 : Int32) (x5 : Int32) (M : xMem), K54 x2 x3 x4 x5 M → xW (WM g) x 7 54 [(0, .ref (ga g 0)), (2, .int x2), (3, .int x3), (4, .int x4), (5, .int x5)] [] M) (x2 : Int32) (x3 : Int32) (x4 : Int32) (x5 : Int32) (M : xMem)  (h : wX12_series_129 K54 post x2 x3 x4 x5 M) : xW (WM g) x 7 129 [(0, .ref (ga g 0)), (2, .int x2), (3, .int x3), (4, .int x4), (5, .int x5)] [] M := by
  unfold wX12_series_129 at h
  obtain ⟨v1, ev1⟩ : ∃ z : Int32, z = x5 + 1 := ⟨_, rfl⟩
  replace h := h v1 ev1
  refine x_iinc C 4 (v1 := v1) (L' := [(5, .int v1), (0, .ref (ga g 0)), (2, .int x2), (3, .int x3), (4, .int x4)]) rfl (by rw [ev1]; rfl) rfl (Nat.le_of_ble_eq_true rfl) dX12_series_129 ?_
  refine x_goto C (tgt := 54) dX12_series_132 (by decide) ?_
  refine x_loc (L' := [(0, .ref (ga g 0)), (2, .int x2), (3, .int x3), (4, .int x4), (5, .int v1)]) [1, 2, 3, 4, 0] rfl ?_
  exact hK54 _ _ _ _ _  h
set_option maxHeartbeats 4000000 in
set_option maxRecDepth 100000 in
theorem tX12_series_103 {g : xG} (hg : x_inj (WM g))  {x : xCx}  {K54 : Int32 → Int32 → Int32 → Int32 → xMem → Prop} {post : Int32 → xMem → Prop} (C : xOk (WM g) x cX12_series RX12 7 (some .int) (rm_X12_series) (pI post))  (hK54 : ∀ (x2 : Int32) (x3 : Int32) (x4 : Int32) (x5 : Int32) (M : xMem), K54 x2 x3 x4 x5 M → xW (WM g) x 7 54 [(0, .ref (ga g 0)), (2, .int x2), (3, .int x3), (4, .int x4), (5, .int x5)] [] M) : ∀ (n : Nat) (x2 : Int32) (x3 : Int32) (x4 : Int32) (x5 : Int32) (x6 : Int32) (M : xMem), wX12_series_103 K54 post n x2 x3 x4 x5 x6 M → xW (WM g) x 7 103 [(0, .ref (ga g 0)), (2, .int x2), (3, .int x3), (4, .int x4), (5, .int x5), (6, .int x6)] [] M := by
  intro n
  induction n with
  | zero =>
    intro x2 x3 x4 x5 x6 M  h
    exact h.elim
  | succ n ih =>
    intro x2 x3 x4 x5 x6 M  h
    rw [wX12_series_103] at h
    refine x_iload C 5 rfl dX12_series_103 ?_
    refine x_iload_n C 2 rfl rfl dX12_series_105 ?_
    refine x_icmp_ge C (tgt := 129) dX12_series_106 (by decide) (fun hq1 => ?_) (fun hq1 => ?_)
    · replace h := x_ift hq1 h
      refine x_loc (L' := [(0, .ref (ga g 0)), (2, .int x2), (3, .int x3), (4, .int x4), (5, .int x5)]) [0, 1, 2, 3, 4] rfl ?_
      exact tX12_series_129 hg  C  hK54 _ _ _ _ _  h
    · replace h := x_iff hq1 h
      refine x_aload_n C 0 rfl rfl dX12_series_109 ?_
      refine x_get C (c := 0) (ci := 12) (k1 := 99) (v1 := .ref (ga g 58)) (enM_12 (c := 0) rfl) (Nat.le_of_ble_eq_true rfl) rfl inX12 (by decide) wf_X12_188 rfl dX12_series_110 ?_
      refine x_iload C 5 rfl dX12_series_113 ?_
      refine x_aload_n C 0 rfl rfl dX12_series_115 ?_
      refine x_get C (c := 0) (ci := 12) (k1 := 98) (v1 := .ref (ga g 57)) (enM_12 (c := 0) rfl) (Nat.le_of_ble_eq_true rfl) rfl inX12 (by decide) wf_X12_185 rfl dX12_series_116 ?_
      refine x_iload C 5 rfl dX12_series_119 ?_
      obtain ⟨hi2, h⟩ := h
      refine x_iald C 0 (c := 57) (enM_20n (c := 57) (n := 8) rfl rfl) (Nat.le_of_ble_eq_true rfl) rfl hi2 dX12_series_121 ?_
      obtain ⟨hi3, h⟩ := h
      refine x_iast C 0 (c := 58) (enM_20n (c := 58) (n := 8) rfl rfl) (Nat.le_of_ble_eq_true rfl) rfl hi3 dX12_series_122 ?_
      refine x_nmM (fun M4 eM4 => ?_)
      replace h := h M4 eM4
      obtain ⟨v5, ev5⟩ : ∃ z : Int32, z = x6 + 1 := ⟨_, rfl⟩
      replace h := h v5 ev5
      refine x_iinc C 5 (v1 := v5) (L' := [(6, .int v5), (0, .ref (ga g 0)), (2, .int x2), (3, .int x3), (4, .int x4), (5, .int x5)]) rfl (by rw [ev5]; rfl) rfl (Nat.le_of_ble_eq_true rfl) dX12_series_123 ?_
      refine x_goto C (tgt := 103) dX12_series_126 (by decide) ?_
      refine x_loc (L' := [(0, .ref (ga g 0)), (2, .int x2), (3, .int x3), (4, .int x4), (5, .int x5), (6, .int v5)]) [1, 2, 3, 4, 5, 0] rfl ?_
      exact ih _ _ _ _ _ _  h
set_option maxHeartbeats 4000000 in
set_option maxRecDepth 100000 in
theorem tX12_series_54 {g : xG} (hg : x_inj (WM g))  {x : xCx}   {post : Int32 → xMem → Prop} (C : xOk (WM g) x cX12_series RX12 7 (some .int) (rm_X12_series) (pI post))   : ∀ (n : Nat) (x2 : Int32) (x3 : Int32) (x4 : Int32) (x5 : Int32) (M : xMem), wX12_series_54 post n x2 x3 x4 x5 M → xW (WM g) x 7 54 [(0, .ref (ga g 0)), (2, .int x2), (3, .int x3), (4, .int x4), (5, .int x5)] [] M := by
  intro n
  induction n with
  | zero =>
    intro x2 x3 x4 x5 M  h
    exact h.elim
  | succ n ih =>
    intro x2 x3 x4 x5 M  h
    rw [wX12_series_54] at h
    refine x_iload C 4 rfl dX12_series_54 ?_
    refine x_iload_n C 2 rfl rfl dX12_series_56 ?_
    refine x_iload_n C 2 rfl rfl dX12_series_57 ?_
    refine x_callS C (st := [.int x5]) (As := [.int x3, .int x3]) (tX12_powerOf hg _ _ _ _ _  h) wm_X12_592 wsm_X12_powerOf wz_X12 wc_X12_powerOf yd_X12_powerOf rfl ⟨rfl, rfl⟩ ⟨Nat.le_of_ble_eq_true rfl, Nat.le_of_ble_eq_true rfl⟩ (Nat.le_of_ble_eq_true rfl) rfl dX12_series_58 (x_ki (fun r2 M1 h => ?_))
    refine x_icmp_ge C (tgt := 135) dX12_series_61 (by decide) (fun hq3 => ?_) (fun hq3 => ?_)
    · replace h := x_ift hq3 h
      refine x_iload_n C 1 rfl rfl dX12_series_135 ?_
      refine x_bipush C (v1 := 20) dX12_series_136 (by decide) ?_
      refine x_icmp_ne C (tgt := 149) dX12_series_138 (by decide) (fun hq4 => ?_) (fun hq4 => ?_)
      · replace h := x_iff hq4 h
        refine x_iload_n C 1 rfl rfl dX12_series_149 ?_
        refine x_bipush C (v1 := 21) dX12_series_150 (by decide) ?_
        refine x_icmp_ne C (tgt := 163) dX12_series_152 (by decide) (fun hq5 => ?_) (fun hq5 => ?_)
        · replace h := x_iff hq5 h
          refine x_aload_n C 0 rfl rfl dX12_series_163 ?_
          refine x_get C (c := 0) (ci := 12) (k1 := 97) (v1 := .ref (ga g 56)) (enM_12 (c := 0) rfl) (Nat.le_of_ble_eq_true rfl) rfl inX12 (by decide) wf_X12_182 rfl dX12_series_164 ?_
          refine x_aload_n C 0 rfl rfl dX12_series_167 ?_
          refine x_get C (c := 0) (ci := 12) (k1 := 99) (v1 := .ref (ga g 58)) (enM_12 (c := 0) rfl) (Nat.le_of_ble_eq_true rfl) rfl inX12 (by decide) wf_X12_188 rfl dX12_series_168 ?_
          refine x_iload_n C 1 rfl rfl dX12_series_171 ?_
          obtain ⟨hi6, h⟩ := h
          refine x_iald C 0 (c := 58) (enM_20n (c := 58) (n := 8) rfl rfl) (Nat.le_of_ble_eq_true rfl) rfl hi6 dX12_series_172 ?_
          obtain ⟨hi7, h⟩ := h
          refine x_iald C 0 (c := 56) (enM_20n (c := 56) (n := 10) rfl rfl) (Nat.le_of_ble_eq_true rfl) rfl hi7 dX12_series_173 ?_
          exact x_iret C dX12_series_174 ⟨_, rfl, h⟩
        · replace h := x_ift hq5 h
          refine x_iload C 3 rfl dX12_series_155 ?_
          refine x_bipush C (v1 := 100) dX12_series_157 (by decide) ?_
          obtain ⟨hz8, h⟩ := h
          refine x_irem C hz8 dX12_series_159 ?_
          refine x_goto C (tgt := 174) dX12_series_160 (by decide) ?_
          exact x_iret C dX12_series_174 ⟨_, rfl, h⟩
      · replace h := x_ift hq4 h
        refine x_iload C 3 rfl dX12_series_141 ?_
        refine x_bipush C (v1 := 100) dX12_series_143 (by decide) ?_
        obtain ⟨hz9, h⟩ := h
        refine x_idiv C hz9 dX12_series_145 ?_
        refine x_goto C (tgt := 174) dX12_series_146 (by decide) ?_
        exact x_iret C dX12_series_174 ⟨_, rfl, h⟩
    · replace h := x_iff hq3 h
      refine x_aload_n C 0 rfl rfl dX12_series_64 ?_
      refine x_iload C 4 rfl dX12_series_65 ?_
      refine x_iload_n C 2 rfl rfl dX12_series_67 ?_
      refine x_iload_n C 2 rfl rfl dX12_series_68 ?_
      refine x_callV C (st := []) (As := [.int x5, .int x3, .int x3]) (c := 0) (ci := 12) (enM_12 (c := 0) rfl) (Nat.le_of_ble_eq_true rfl) rfl (tX12_opensRow hg _ _ _ _ _ _  h) wm_X12_595 wi_X12_opensRow wv_X12_opensRow wz_X12 wc_X12_opensRow rfl yd_X12_opensRow rfl ⟨rfl, rfl⟩ ⟨Nat.le_of_ble_eq_true rfl, Nat.le_of_ble_eq_true rfl⟩ (Nat.le_of_ble_eq_true rfl) rfl dX12_series_69 (x_kv (fun M10 h => ?_))
      refine x_aload_n C 0 rfl rfl dX12_series_72 ?_
      refine x_iload_n C 2 rfl rfl dX12_series_73 ?_
      refine x_callV C (st := []) (As := [.int x3]) (c := 0) (ci := 12) (enM_12 (c := 0) rfl) (Nat.le_of_ble_eq_true rfl) rfl (tX12_isOrder hg _ _ _ _  h) wm_X12_598 wi_X12_isOrder wv_X12_isOrder wz_X12 wc_X12_isOrder rfl yd_X12_isOrder rfl ⟨rfl, rfl⟩ ⟨Nat.le_of_ble_eq_true rfl, Nat.le_of_ble_eq_true rfl⟩ (Nat.le_of_ble_eq_true rfl) rfl dX12_series_74 (x_ki (fun r12 M11 h => ?_))
      refine x_if_eq C (tgt := 129) dX12_series_77 (by decide) (fun hq13 => ?_) (fun hq13 => ?_)
      · replace h := x_ift hq13 h
        exact tX12_series_129 hg  C  ih _ _ _ _ _  h
      · replace h := x_iff hq13 h
        refine x_aload_n C 0 rfl rfl dX12_series_80 ?_
        refine x_iload_n C 2 rfl rfl dX12_series_81 ?_
        refine x_callV C (st := []) (As := [.int x3]) (c := 0) (ci := 12) (enM_12 (c := 0) rfl) (Nat.le_of_ble_eq_true rfl) rfl (tX12_opennessOf hg _ _ _ _  h) wm_X12_601 wi_X12_opennessOf wv_X12_opennessOf wz_X12 wc_X12_opennessOf rfl yd_X12_opennessOf rfl ⟨rfl, rfl⟩ ⟨Nat.le_of_ble_eq_true rfl, Nat.le_of_ble_eq_true rfl⟩ (Nat.le_of_ble_eq_true rfl) rfl dX12_series_82 (x_ki (fun r15 M14 h => ?_))
        refine x_iload C 3 rfl dX12_series_85 ?_
        refine x_icmp_lt C (tgt := 93) dX12_series_87 (by decide) (fun hq16 => ?_) (fun hq16 => ?_)
        · replace h := x_ift hq16 h
          refine x_aload_n C 0 rfl rfl dX12_series_93 ?_
          refine x_iload_n C 2 rfl rfl dX12_series_94 ?_
          refine x_callV C (st := []) (As := [.int x3]) (c := 0) (ci := 12) (enM_12 (c := 0) rfl) (Nat.le_of_ble_eq_true rfl) rfl (tX12_opennessOf hg _ _ _ _  h) wm_X12_601 wi_X12_opennessOf wv_X12_opennessOf wz_X12 wc_X12_opennessOf rfl yd_X12_opennessOf rfl ⟨rfl, rfl⟩ ⟨Nat.le_of_ble_eq_true rfl, Nat.le_of_ble_eq_true rfl⟩ (Nat.le_of_ble_eq_true rfl) rfl dX12_series_95 (x_ki (fun r18 M17 h => ?_))
          refine x_istore C (L' := [(4, .int r18), (0, .ref (ga g 0)), (2, .int x2), (3, .int x3), (5, .int x5)]) rfl (Nat.le_of_ble_eq_true rfl) dX12_series_98 ?_
          refine x_iconst C (v1 := 0) dX12_series_100 (by decide) ?_
          refine x_istore C (L' := [(6, .int 0), (4, .int r18), (0, .ref (ga g 0)), (2, .int x2), (3, .int x3), (5, .int x5)]) rfl (Nat.le_of_ble_eq_true rfl) dX12_series_101 ?_
          refine x_loc (L' := [(0, .ref (ga g 0)), (2, .int x2), (3, .int x3), (4, .int r18), (5, .int x5), (6, .int 0)]) [2, 3, 4, 1, 5, 0] rfl ?_
          obtain ⟨n103, h⟩ := h
          exact tX12_series_103 hg  C  ih _ _ _ _ _ _ _  h
        · replace h := x_iff hq16 h
          refine x_goto C (tgt := 129) dX12_series_90 (by decide) ?_
          exact tX12_series_129 hg  C  ih _ _ _ _ _  h
set_option maxHeartbeats 4000000 in
set_option maxRecDepth 100000 in
theorem tX12_series_40 {g : xG} (hg : x_inj (WM g))  {x : xCx}   {post : Int32 → xMem → Prop} (C : xOk (WM g) x cX12_series RX12 7 (some .int) (rm_X12_series) (pI post))   (x1 : Int32) (x2 : Int32) (M : xMem)  (h : wX12_series_40 post x1 x2 M) : xW (WM g) x 7 40 [(0, .ref (ga g 0)), (1, .int x1), (2, .int x2)] [] M := by
  unfold wX12_series_40 at h
  refine x_aload_n C 0 rfl rfl dX12_series_40 ?_
  refine x_iload_n C 1 rfl rfl dX12_series_41 ?_
  refine x_callV C (st := []) (As := [.int x1]) (c := 0) (ci := 12) (enM_12 (c := 0) rfl) (Nat.le_of_ble_eq_true rfl) rfl (tX12_takesSome hg _ _ _ _  h) wm_X12_589 wi_X12_takesSome wv_X12_takesSome wz_X12 wc_X12_takesSome rfl yd_X12_takesSome rfl ⟨rfl, rfl⟩ ⟨Nat.le_of_ble_eq_true rfl, Nat.le_of_ble_eq_true rfl⟩ (Nat.le_of_ble_eq_true rfl) rfl dX12_series_42 (x_ki (fun r2 M1 h => ?_))
  refine x_istore_n C (L' := [(3, .int r2), (0, .ref (ga g 0)), (1, .int x1), (2, .int x2)]) rfl rfl (Nat.le_of_ble_eq_true rfl) dX12_series_45 ?_
  refine x_ldc_w C (v1 := 1000000000) (wco_X12_476) dX12_series_46 ?_
  refine x_istore C (L' := [(4, .int 1000000000), (3, .int r2), (0, .ref (ga g 0)), (1, .int x1), (2, .int x2)]) rfl (Nat.le_of_ble_eq_true rfl) dX12_series_49 ?_
  refine x_iconst C (v1 := 0) dX12_series_51 (by decide) ?_
  refine x_istore C (L' := [(5, .int 0), (4, .int 1000000000), (3, .int r2), (0, .ref (ga g 0)), (1, .int x1), (2, .int x2)]) rfl (Nat.le_of_ble_eq_true rfl) dX12_series_52 ?_
  refine x_loc (L' := [(0, .ref (ga g 0)), (2, .int x2), (3, .int r2), (4, .int 1000000000), (5, .int 0)]) [3, 5, 2, 1, 0] rfl ?_
  obtain ⟨n54, h⟩ := h
  exact tX12_series_54 hg  C   _ _ _ _ _ _  h
set_option maxHeartbeats 4000000 in
set_option maxRecDepth 100000 in
theorem tX12_series {g : xG} (hg : x_inj (WM g))  (l : Launch) (a0 : Int32) (a1 : Int32) (M : xMem) (post : Int32 → xMem → Prop)  (h : wX12_series a0 a1 M post) : xMet (WM g) l yX12_series cX12_series 7 (some .int) (rm_X12_series) [.ref (ga g 0), .int a0, .int a1] M (pI post) := by
  refine x_enter (own := RX12) (L0 := [(0, .ref (ga g 0)), (1, .int a0), (2, .int a1)]) (by decide +kernel) rfl hg (x_stM g) (Nat.le_of_ble_eq_true rfl) rfl (fun x hl C => ?_)
  unfold wX12_series at h
  refine x_aload_n C 0 rfl rfl dX12_series_0 ?_
  refine x_iload_n C 1 rfl rfl dX12_series_1 ?_
  refine x_iconst C (v1 := 2) dX12_series_2 (by decide) ?_
  refine x_iconst C (v1 := 5) dX12_series_3 (by decide) ?_
  refine x_callV C (st := []) (As := [.int a0, .int 2, .int 5]) (c := 0) (ci := 12) (enM_12 (c := 0) rfl) (Nat.le_of_ble_eq_true rfl) rfl (tX12_areStories hg _ _ _ _ _ _  h) wm_X12_585 wi_X12_areStories wv_X12_areStories wz_X12 wc_X12_areStories rfl yd_X12_areStories rfl ⟨rfl, rfl⟩ ⟨Nat.le_of_ble_eq_true rfl, Nat.le_of_ble_eq_true rfl⟩ (Nat.le_of_ble_eq_true rfl) rfl dX12_series_4 (x_ki (fun r2 M1 h => ?_))
  refine x_if_eq C (tgt := 38) dX12_series_7 (by decide) (fun hq3 => ?_) (fun hq3 => ?_)
  · replace h := x_ift hq3 h
    refine x_iconst C (v1 := (-1)) dX12_series_38 (by decide) ?_
    exact x_iret C dX12_series_39 ⟨_, rfl, h⟩
  · replace h := x_iff hq3 h
    refine x_iload_n C 2 rfl rfl dX12_series_10 ?_
    refine x_bipush C (v1 := 20) dX12_series_11 (by decide) ?_
    refine x_icmp_eq C (tgt := 40) dX12_series_13 (by decide) (fun hq4 => ?_) (fun hq4 => ?_)
    · replace h := x_ift hq4 h
      exact tX12_series_40 hg  C   _ _ _  h
    · replace h := x_iff hq4 h
      refine x_iload_n C 2 rfl rfl dX12_series_16 ?_
      refine x_bipush C (v1 := 21) dX12_series_17 (by decide) ?_
      refine x_icmp_eq C (tgt := 40) dX12_series_19 (by decide) (fun hq5 => ?_) (fun hq5 => ?_)
      · replace h := x_ift hq5 h
        exact tX12_series_40 hg  C   _ _ _  h
      · replace h := x_iff hq5 h
        refine x_iload_n C 2 rfl rfl dX12_series_22 ?_
        refine x_i2l C dX12_series_23 ?_
        refine x_lconst C (v1 := 0) dX12_series_24 (by decide) ?_
        refine x_iload_n C 1 rfl rfl dX12_series_25 ?_
        refine x_callS C (st := [.long 0, .long ((a1 : Int32).toInt64)]) (As := [.int a0]) (tX12_sizeOf hg _ _ _ _  h) wm_X12_289 wsm_X12_sizeOf wz_X12 wc_X12_sizeOf yd_X12_sizeOf rfl ⟨rfl, rfl⟩ ⟨Nat.le_of_ble_eq_true rfl, Nat.le_of_ble_eq_true rfl⟩ (Nat.le_of_ble_eq_true rfl) rfl dX12_series_26 (x_ki (fun r7 M6 h => ?_))
        refine x_iconst C (v1 := 1) dX12_series_29 (by decide) ?_
        refine x_isub C dX12_series_30 ?_
        refine x_i2l C dX12_series_31 ?_
        refine x_callS C (st := []) (As := [.long ((a1 : Int32).toInt64), .long 0, .long ((r7 - 1 : Int32).toInt64)]) (tX12_lies hg _ _ _ _ _ _  h) wm_X12_222 wsm_X12_lies wz_X12 wc_X12_lies yd_X12_lies rfl ⟨rfl, rfl⟩ ⟨Nat.le_of_ble_eq_true rfl, Nat.le_of_ble_eq_true rfl⟩ (Nat.le_of_ble_eq_true rfl) rfl dX12_series_32 (x_ki (fun r9 M8 h => ?_))
        refine x_if_ne C (tgt := 40) dX12_series_35 (by decide) (fun hq10 => ?_) (fun hq10 => ?_)
        · replace h := x_iff hq10 h
          exact tX12_series_40 hg  C   _ _ _  h
        · replace h := x_ift hq10 h
          refine x_iconst C (v1 := (-1)) dX12_series_38 (by decide) ?_
          exact x_iret C dX12_series_39 ⟨_, rfl, h⟩
set_option maxHeartbeats 4000000 in
set_option maxRecDepth 100000 in
theorem tX12_pagesOf_5 {g : xG} (hg : x_inj (WM g))  {x : xCx}   {post : Int32 → xMem → Prop} (C : xOk (WM g) x cX12_pagesOf RX12 5 (some .int) (rm_X12_pagesOf) (pI post))   : ∀ (n : Nat) (x2 : Int32) (x3 : Int32) (x4 : Int32) (M : xMem), wX12_pagesOf_5 post n x2 x3 x4 M → xW (WM g) x 5 5 [(0, .ref (ga g 0)), (2, .int x2), (3, .int x3), (4, .int x4)] [] M := by
  intro n
  induction n with
  | zero =>
    intro x2 x3 x4 M  h
    exact h.elim
  | succ n ih =>
    intro x2 x3 x4 M  h
    rw [wX12_pagesOf_5] at h
    refine x_iload C 3 rfl dX12_pagesOf_5 ?_
    refine x_iload_n C 1 rfl rfl dX12_pagesOf_7 ?_
    refine x_icmp_ge C (tgt := 32) dX12_pagesOf_8 (by decide) (fun hq1 => ?_) (fun hq1 => ?_)
    · replace h := x_ift hq1 h
      refine x_iload_n C 2 rfl rfl dX12_pagesOf_32 ?_
      exact x_iret C dX12_pagesOf_33 ⟨_, rfl, h⟩
    · replace h := x_iff hq1 h
      refine x_iload_n C 2 rfl rfl dX12_pagesOf_11 ?_
      refine x_aload_n C 0 rfl rfl dX12_pagesOf_12 ?_
      refine x_get C (c := 0) (ci := 12) (k1 := 11) (v1 := .ref (ga g 3)) (enM_12 (c := 0) rfl) (Nat.le_of_ble_eq_true rfl) rfl inX12 (by decide) wf_X12_21 rfl dX12_pagesOf_13 ?_
      refine x_aload_n C 0 rfl rfl dX12_pagesOf_16 ?_
      refine x_get C (c := 0) (ci := 12) (k1 := 97) (v1 := .ref (ga g 56)) (enM_12 (c := 0) rfl) (Nat.le_of_ble_eq_true rfl) rfl inX12 (by decide) wf_X12_182 rfl dX12_pagesOf_17 ?_
      refine x_iload C 3 rfl dX12_pagesOf_20 ?_
      obtain ⟨hi2, h⟩ := h
      refine x_iald C 0 (c := 56) (enM_20n (c := 56) (n := 10) rfl rfl) (Nat.le_of_ble_eq_true rfl) rfl hi2 dX12_pagesOf_22 ?_
      obtain ⟨hi3, h⟩ := h
      refine x_iald C 0 (c := 3) (enM_20n (c := 3) (n := 6) rfl rfl) (Nat.le_of_ble_eq_true rfl) rfl hi3 dX12_pagesOf_23 ?_
      refine x_iadd C dX12_pagesOf_24 ?_
      refine x_nm (fun v4 ev4 => ?_)
      replace h := h v4 ev4
      refine x_istore_n C (L' := [(3, .int v4), (0, .ref (ga g 0)), (2, .int x2), (4, .int x4)]) rfl rfl (Nat.le_of_ble_eq_true rfl) dX12_pagesOf_25 ?_
      obtain ⟨v5, ev5⟩ : ∃ z : Int32, z = x4 + 1 := ⟨_, rfl⟩
      replace h := h v5 ev5
      refine x_iinc C 3 (v1 := v5) (L' := [(4, .int v5), (3, .int v4), (0, .ref (ga g 0)), (2, .int x2)]) rfl (by rw [ev5]; rfl) rfl (Nat.le_of_ble_eq_true rfl) dX12_pagesOf_26 ?_
      refine x_goto C (tgt := 5) dX12_pagesOf_29 (by decide) ?_
      refine x_loc (L' := [(0, .ref (ga g 0)), (2, .int x2), (3, .int v4), (4, .int v5)]) [2, 3, 1, 0] rfl ?_
      exact ih _ _ _ _  h
set_option maxHeartbeats 4000000 in
set_option maxRecDepth 100000 in
theorem tX12_pagesOf {g : xG} (hg : x_inj (WM g))  (l : Launch) (a0 : Int32) (a1 : Int32) (M : xMem) (post : Int32 → xMem → Prop)  (h : wX12_pagesOf a0 a1 M post) : xMet (WM g) l yX12_pagesOf cX12_pagesOf 5 (some .int) (rm_X12_pagesOf) [.ref (ga g 0), .int a0, .int a1] M (pI post) := by
  refine x_enter (own := RX12) (L0 := [(0, .ref (ga g 0)), (1, .int a0), (2, .int a1)]) (by decide +kernel) rfl hg (x_stM g) (Nat.le_of_ble_eq_true rfl) rfl (fun x hl C => ?_)
  unfold wX12_pagesOf at h
  refine x_iconst C (v1 := 0) dX12_pagesOf_0 (by decide) ?_
  refine x_istore_n C (L' := [(3, .int 0), (0, .ref (ga g 0)), (1, .int a0), (2, .int a1)]) rfl rfl (Nat.le_of_ble_eq_true rfl) dX12_pagesOf_1 ?_
  refine x_iload_n C 2 rfl rfl dX12_pagesOf_2 ?_
  refine x_istore C (L' := [(4, .int a0), (3, .int 0), (0, .ref (ga g 0)), (1, .int a0), (2, .int a1)]) rfl (Nat.le_of_ble_eq_true rfl) dX12_pagesOf_3 ?_
  refine x_loc (L' := [(0, .ref (ga g 0)), (2, .int a1), (3, .int 0), (4, .int a0)]) [2, 4, 1, 0] rfl ?_
  obtain ⟨n5, h⟩ := h
  exact tX12_pagesOf_5 hg  C   _ _ _ _ _  h
set_option maxHeartbeats 4000000 in
set_option maxRecDepth 100000 in
theorem tX12_higher {g : xG} (hg : x_inj (WM g))  (l : Launch) (a0 : Int32) (a1 : Int32) (M : xMem) (post : Int32 → xMem → Prop)  (h : wX12_higher a0 a1 M post) : xMet (WM g) l yX12_higher cX12_higher 2 (some .int) (rm_X12_higher) [.int a0, .int a1] M (pI post) := by
  refine x_enter (own := RX12) (L0 := [(0, .int a0), (1, .int a1)]) (by decide +kernel) rfl hg (x_stM g) (Nat.le_of_ble_eq_true rfl) rfl (fun x hl C => ?_)
  unfold wX12_higher at h
  refine x_iload_n C 0 rfl rfl dX12_higher_0 ?_
  refine x_iload_n C 1 rfl rfl dX12_higher_1 ?_
  refine x_icmp_le C (tgt := 9) dX12_higher_2 (by decide) (fun hq1 => ?_) (fun hq1 => ?_)
  · replace h := x_ift hq1 h
    refine x_iload_n C 1 rfl rfl dX12_higher_9 ?_
    exact x_iret C dX12_higher_10 ⟨_, rfl, h⟩
  · replace h := x_iff hq1 h
    refine x_iload_n C 0 rfl rfl dX12_higher_5 ?_
    refine x_goto C (tgt := 10) dX12_higher_6 (by decide) ?_
    exact x_iret C dX12_higher_10 ⟨_, rfl, h⟩
set_option maxHeartbeats 4000000 in
set_option maxRecDepth 100000 in
theorem tX12_book_250 {g : xG} (hg : x_inj (WM g))  {x : xCx}   {post : Int32 → xMem → Prop} (C : xOk (WM g) x cX12_book RX12 12 (some .int) (rm_X12_book) (pI post))   (x4 : Int32) (s0 : Int32) (M : xMem)  (h : wX12_book_250 post x4 s0 M) : xW (WM g) x 12 250 [(0, .ref (ga g 0)), (4, .int x4)] [.int s0] M := by
  unfold wX12_book_250 at h
  refine x_istore C (L' := [(8, .int s0), (0, .ref (ga g 0)), (4, .int x4)]) rfl (Nat.le_of_ble_eq_true rfl) dX12_book_250 ?_
  refine x_iload C 0 rfl dX12_book_252 ?_
  refine x_iload C 2 rfl dX12_book_254 ?_
  refine x_icmp_ge C (tgt := 269) dX12_book_256 (by decide) (fun hq1 => ?_) (fun hq1 => ?_)
  · replace h := x_ift hq1 h
    refine x_bipush C (v1 := (-2)) dX12_book_269 (by decide) ?_
    exact x_iret C dX12_book_271 ⟨_, rfl, h⟩
  · replace h := x_iff hq1 h
    refine x_aload_n C 1 rfl rfl dX12_book_259 ?_
    refine x_get C (c := 0) (ci := 12) (k1 := 97) (v1 := .ref (ga g 56)) (enM_12 (c := 0) rfl) (Nat.le_of_ble_eq_true rfl) rfl inX12 (by decide) wf_X12_182 rfl dX12_book_260 ?_
    refine x_iload C 0 rfl dX12_book_263 ?_
    obtain ⟨hi2, h⟩ := h
    refine x_iald C 0 (c := 56) (enM_20n (c := 56) (n := 10) rfl rfl) (Nat.le_of_ble_eq_true rfl) rfl hi2 dX12_book_265 ?_
    refine x_goto C (tgt := 271) dX12_book_266 (by decide) ?_
    exact x_iret C dX12_book_271 ⟨_, rfl, h⟩
set_option maxHeartbeats 4000000 in
set_option maxRecDepth 100000 in
theorem tX12_book_219 {g : xG} (hg : x_inj (WM g))  {x : xCx}  {K68 : Int32 → Int32 → Int32 → Int32 → Int32 → Int32 → Int32 → xMem → Prop} {K79 : Int32 → Int32 → Int32 → Int32 → Int32 → Int32 → Int32 → Int32 → xMem → Prop} {post : Int32 → xMem → Prop} (C : xOk (WM g) x cX12_book RX12 12 (some .int) (rm_X12_book) (pI post))  (hK68 : ∀ (x2 : Int32) (x3 : Int32) (x4 : Int32) (x5 : Int32) (x6 : Int32) (x7 : Int32) (x8 : Int32) (M : xMem), K68 x2 x3 x4 x5 x6 x7 x8 M → xW (WM g) x 12 68 [(0, .ref (ga g 0)), (2, .int x2), (3, .int x3), (4, .int x4), (5, .int x5), (6, .int x6), (7, .int x7), (8, .int x8)] [] M) (hK79 : ∀ (x2 : Int32) (x3 : Int32) (x4 : Int32) (x5 : Int32) (x6 : Int32) (x7 : Int32) (x8 : Int32) (x9 : Int32) (M : xMem), K79 x2 x3 x4 x5 x6 x7 x8 x9 M → xW (WM g) x 12 79 [(0, .ref (ga g 0)), (2, .int x2), (3, .int x3), (4, .int x4), (5, .int x5), (6, .int x6), (7, .int x7), (8, .int x8), (9, .int x9)] [] M) (x2 : Int32) (x3 : Int32) (x4 : Int32) (x5 : Int32) (x6 : Int32) (x7 : Int32) (x8 : Int32) (x9 : Int32) (M : xMem)  (h : wX12_book_219 K68 K79 post x2 x3 x4 x5 x6 x7 x8 x9 M) : xW (WM g) x 12 219 [(0, .ref (ga g 0)), (2, .int x2), (3, .int x3), (4, .int x4), (5, .int x5), (6, .int x6), (7, .int x7), (8, .int x8), (9, .int x9)] [] M := by
  unfold wX12_book_219 at h
  obtain ⟨v1, ev1⟩ : ∃ z : Int32, z = x9 + 1 := ⟨_, rfl⟩
  replace h := h v1 ev1
  refine x_iinc C 8 (v1 := v1) (L' := [(9, .int v1), (0, .ref (ga g 0)), (2, .int x2), (3, .int x3), (4, .int x4), (5, .int x5), (6, .int x6), (7, .int x7), (8, .int x8)]) rfl (by rw [ev1]; rfl) rfl (Nat.le_of_ble_eq_true rfl) dX12_book_219 ?_
  refine x_goto C (tgt := 79) dX12_book_222 (by decide) ?_
  refine x_loc (L' := [(0, .ref (ga g 0)), (2, .int x2), (3, .int x3), (4, .int x4), (5, .int x5), (6, .int x6), (7, .int x7), (8, .int x8), (9, .int v1)]) [1, 2, 3, 4, 5, 6, 7, 8, 0] rfl ?_
  exact hK79 _ _ _ _ _ _ _ _ _  h
set_option maxHeartbeats 4000000 in
set_option maxRecDepth 100000 in
theorem tX12_book_159 {g : xG} (hg : x_inj (WM g))  {x : xCx}  {K68 : Int32 → Int32 → Int32 → Int32 → Int32 → Int32 → Int32 → xMem → Prop} {K79 : Int32 → Int32 → Int32 → Int32 → Int32 → Int32 → Int32 → Int32 → xMem → Prop} {post : Int32 → xMem → Prop} (C : xOk (WM g) x cX12_book RX12 12 (some .int) (rm_X12_book) (pI post))  (hK68 : ∀ (x2 : Int32) (x3 : Int32) (x4 : Int32) (x5 : Int32) (x6 : Int32) (x7 : Int32) (x8 : Int32) (M : xMem), K68 x2 x3 x4 x5 x6 x7 x8 M → xW (WM g) x 12 68 [(0, .ref (ga g 0)), (2, .int x2), (3, .int x3), (4, .int x4), (5, .int x5), (6, .int x6), (7, .int x7), (8, .int x8)] [] M) (hK79 : ∀ (x2 : Int32) (x3 : Int32) (x4 : Int32) (x5 : Int32) (x6 : Int32) (x7 : Int32) (x8 : Int32) (x9 : Int32) (M : xMem), K79 x2 x3 x4 x5 x6 x7 x8 x9 M → xW (WM g) x 12 79 [(0, .ref (ga g 0)), (2, .int x2), (3, .int x3), (4, .int x4), (5, .int x5), (6, .int x6), (7, .int x7), (8, .int x8), (9, .int x9)] [] M) (x2 : Int32) (x3 : Int32) (x4 : Int32) (x5 : Int32) (x6 : Int32) (x7 : Int32) (x8 : Int32) (x9 : Int32) (s0 : Int32) (M : xMem)  (h : wX12_book_159 K68 K79 post x2 x3 x4 x5 x6 x7 x8 x9 s0 M) : xW (WM g) x 12 159 [(0, .ref (ga g 0)), (2, .int x2), (3, .int x3), (4, .int x4), (5, .int x5), (6, .int x6), (7, .int x7), (8, .int x8), (9, .int x9)] [.int s0] M := by
  unfold wX12_book_159 at h
  refine x_istore C (L' := [(10, .int s0), (0, .ref (ga g 0)), (2, .int x2), (3, .int x3), (4, .int x4), (5, .int x5), (6, .int x6), (7, .int x7), (8, .int x8), (9, .int x9)]) rfl (Nat.le_of_ble_eq_true rfl) dX12_book_159 ?_
  refine x_aload_n C 1 rfl rfl dX12_book_161 ?_
  refine x_iconst C (v1 := 0) dX12_book_162 (by decide) ?_
  refine x_iload C 8 rfl dX12_book_163 ?_
  refine x_callV C (st := []) (As := [.int 0, .int x8]) (c := 0) (ci := 12) (enM_12 (c := 0) rfl) (Nat.le_of_ble_eq_true rfl) rfl (tX12_pagesOf hg _ _ _ _ _  h) wm_X12_604 wi_X12_pagesOf wv_X12_pagesOf wz_X12 wc_X12_pagesOf rfl yd_X12_pagesOf rfl ⟨rfl, rfl⟩ ⟨Nat.le_of_ble_eq_true rfl, Nat.le_of_ble_eq_true rfl⟩ (Nat.le_of_ble_eq_true rfl) rfl dX12_book_165 (x_ki (fun r2 M1 h => ?_))
  refine x_aload_n C 1 rfl rfl dX12_book_168 ?_
  refine x_iload C 8 rfl dX12_book_169 ?_
  refine x_iload C 9 rfl dX12_book_171 ?_
  refine x_callV C (st := [.int r2]) (As := [.int x8, .int x9]) (c := 0) (ci := 12) (enM_12 (c := 0) rfl) (Nat.le_of_ble_eq_true rfl) rfl (tX12_pagesOf hg _ _ _ _ _  h) wm_X12_604 wi_X12_pagesOf wv_X12_pagesOf wz_X12 wc_X12_pagesOf rfl yd_X12_pagesOf rfl ⟨rfl, rfl⟩ ⟨Nat.le_of_ble_eq_true rfl, Nat.le_of_ble_eq_true rfl⟩ (Nat.le_of_ble_eq_true rfl) rfl dX12_book_173 (x_ki (fun r4 M3 h => ?_))
  refine x_aload_n C 1 rfl rfl dX12_book_176 ?_
  refine x_iload C 9 rfl dX12_book_177 ?_
  refine x_iload C 4 rfl dX12_book_179 ?_
  refine x_callV C (st := [.int r4, .int r2]) (As := [.int x9, .int x4]) (c := 0) (ci := 12) (enM_12 (c := 0) rfl) (Nat.le_of_ble_eq_true rfl) rfl (tX12_pagesOf hg _ _ _ _ _  h) wm_X12_604 wi_X12_pagesOf wv_X12_pagesOf wz_X12 wc_X12_pagesOf rfl yd_X12_pagesOf rfl ⟨rfl, rfl⟩ ⟨Nat.le_of_ble_eq_true rfl, Nat.le_of_ble_eq_true rfl⟩ (Nat.le_of_ble_eq_true rfl) rfl dX12_book_181 (x_ki (fun r6 M5 h => ?_))
  refine x_callS C (st := [.int r2]) (As := [.int r4, .int r6]) (tX12_higher hg _ _ _ _ _  h) wm_X12_607 wsm_X12_higher wz_X12 wc_X12_higher yd_X12_higher rfl ⟨rfl, rfl⟩ ⟨Nat.le_of_ble_eq_true rfl, Nat.le_of_ble_eq_true rfl⟩ (Nat.le_of_ble_eq_true rfl) rfl dX12_book_184 (x_ki (fun r8 M7 h => ?_))
  refine x_callS C (st := []) (As := [.int r2, .int r8]) (tX12_higher hg _ _ _ _ _  h) wm_X12_607 wsm_X12_higher wz_X12 wc_X12_higher yd_X12_higher rfl ⟨rfl, rfl⟩ ⟨Nat.le_of_ble_eq_true rfl, Nat.le_of_ble_eq_true rfl⟩ (Nat.le_of_ble_eq_true rfl) rfl dX12_book_187 (x_ki (fun r10 M9 h => ?_))
  refine x_istore C (L' := [(11, .int r10), (10, .int s0), (0, .ref (ga g 0)), (2, .int x2), (3, .int x3), (4, .int x4), (5, .int x5), (6, .int x6), (7, .int x7), (8, .int x8), (9, .int x9)]) rfl (Nat.le_of_ble_eq_true rfl) dX12_book_190 ?_
  refine x_iload C 1 rfl dX12_book_192 ?_
  refine x_if_eq C (tgt := 219) dX12_book_194 (by decide) (fun hq11 => ?_) (fun hq11 => ?_)
  · replace h := x_ift hq11 h
    refine x_loc (L' := [(0, .ref (ga g 0)), (2, .int x2), (3, .int x3), (4, .int x4), (5, .int x5), (6, .int x6), (7, .int x7), (8, .int x8), (9, .int x9)]) [2, 3, 4, 5, 6, 7, 8, 9, 10] rfl ?_
    exact tX12_book_219 hg  C  hK68 hK79 _ _ _ _ _ _ _ _ _  h
  · replace h := x_iff hq11 h
    refine x_iload C 0 rfl dX12_book_197 ?_
    refine x_iload C 6 rfl dX12_book_199 ?_
    refine x_icmp_lt C (tgt := 207) dX12_book_201 (by decide) (fun hq12 => ?_) (fun hq12 => ?_)
    · replace h := x_ift hq12 h
      refine x_iload C 0 rfl dX12_book_207 ?_
      refine x_istore C (L' := [(5, .int r10), (11, .int r10), (10, .int s0), (0, .ref (ga g 0)), (2, .int x2), (3, .int x3), (4, .int x4), (6, .int x6), (7, .int x7), (8, .int x8), (9, .int x9)]) rfl (Nat.le_of_ble_eq_true rfl) dX12_book_209 ?_
      refine x_iload C 9 rfl dX12_book_211 ?_
      refine x_istore C (L' := [(6, .int x8), (5, .int r10), (11, .int r10), (10, .int s0), (0, .ref (ga g 0)), (2, .int x2), (3, .int x3), (4, .int x4), (7, .int x7), (8, .int x8), (9, .int x9)]) rfl (Nat.le_of_ble_eq_true rfl) dX12_book_213 ?_
      refine x_iload C 10 rfl dX12_book_215 ?_
      refine x_istore C (L' := [(7, .int x9), (6, .int x8), (5, .int r10), (11, .int r10), (10, .int s0), (0, .ref (ga g 0)), (2, .int x2), (3, .int x3), (4, .int x4), (8, .int x8), (9, .int x9)]) rfl (Nat.le_of_ble_eq_true rfl) dX12_book_217 ?_
      refine x_loc (L' := [(0, .ref (ga g 0)), (2, .int x2), (3, .int x3), (4, .int x4), (5, .int r10), (6, .int x8), (7, .int x9), (8, .int x8), (9, .int x9)]) [5, 6, 7, 8, 2, 1, 0, 9, 10] rfl ?_
      exact tX12_book_219 hg  C  hK68 hK79 _ _ _ _ _ _ _ _ _  h
    · replace h := x_iff hq12 h
      refine x_goto C (tgt := 219) dX12_book_204 (by decide) ?_
      refine x_loc (L' := [(0, .ref (ga g 0)), (2, .int x2), (3, .int x3), (4, .int x4), (5, .int x5), (6, .int x6), (7, .int x7), (8, .int x8), (9, .int x9)]) [2, 3, 4, 5, 6, 7, 8, 9, 10] rfl ?_
      exact tX12_book_219 hg  C  hK68 hK79 _ _ _ _ _ _ _ _ _  h
set_option maxHeartbeats 4000000 in
set_option maxRecDepth 100000 in
theorem tX12_book_158 {g : xG} (hg : x_inj (WM g))  {x : xCx}  {K68 : Int32 → Int32 → Int32 → Int32 → Int32 → Int32 → Int32 → xMem → Prop} {K79 : Int32 → Int32 → Int32 → Int32 → Int32 → Int32 → Int32 → Int32 → xMem → Prop} {post : Int32 → xMem → Prop} (C : xOk (WM g) x cX12_book RX12 12 (some .int) (rm_X12_book) (pI post))  (hK68 : ∀ (x2 : Int32) (x3 : Int32) (x4 : Int32) (x5 : Int32) (x6 : Int32) (x7 : Int32) (x8 : Int32) (M : xMem), K68 x2 x3 x4 x5 x6 x7 x8 M → xW (WM g) x 12 68 [(0, .ref (ga g 0)), (2, .int x2), (3, .int x3), (4, .int x4), (5, .int x5), (6, .int x6), (7, .int x7), (8, .int x8)] [] M) (hK79 : ∀ (x2 : Int32) (x3 : Int32) (x4 : Int32) (x5 : Int32) (x6 : Int32) (x7 : Int32) (x8 : Int32) (x9 : Int32) (M : xMem), K79 x2 x3 x4 x5 x6 x7 x8 x9 M → xW (WM g) x 12 79 [(0, .ref (ga g 0)), (2, .int x2), (3, .int x3), (4, .int x4), (5, .int x5), (6, .int x6), (7, .int x7), (8, .int x8), (9, .int x9)] [] M) (x2 : Int32) (x3 : Int32) (x4 : Int32) (x5 : Int32) (x6 : Int32) (x7 : Int32) (x8 : Int32) (x9 : Int32) (M : xMem)  (h : wX12_book_158 K68 K79 post x2 x3 x4 x5 x6 x7 x8 x9 M) : xW (WM g) x 12 158 [(0, .ref (ga g 0)), (2, .int x2), (3, .int x3), (4, .int x4), (5, .int x5), (6, .int x6), (7, .int x7), (8, .int x8), (9, .int x9)] [] M := by
  unfold wX12_book_158 at h
  refine x_iconst C (v1 := 0) dX12_book_158 (by decide) ?_
  exact tX12_book_159 hg  C  hK68 hK79 _ _ _ _ _ _ _ _ _ _  h
set_option maxHeartbeats 4000000 in
set_option maxRecDepth 100000 in
theorem tX12_book_136 {g : xG} (hg : x_inj (WM g))  {x : xCx}  {K68 : Int32 → Int32 → Int32 → Int32 → Int32 → Int32 → Int32 → xMem → Prop} {K79 : Int32 → Int32 → Int32 → Int32 → Int32 → Int32 → Int32 → Int32 → xMem → Prop} {post : Int32 → xMem → Prop} (C : xOk (WM g) x cX12_book RX12 12 (some .int) (rm_X12_book) (pI post))  (hK68 : ∀ (x2 : Int32) (x3 : Int32) (x4 : Int32) (x5 : Int32) (x6 : Int32) (x7 : Int32) (x8 : Int32) (M : xMem), K68 x2 x3 x4 x5 x6 x7 x8 M → xW (WM g) x 12 68 [(0, .ref (ga g 0)), (2, .int x2), (3, .int x3), (4, .int x4), (5, .int x5), (6, .int x6), (7, .int x7), (8, .int x8)] [] M) (hK79 : ∀ (x2 : Int32) (x3 : Int32) (x4 : Int32) (x5 : Int32) (x6 : Int32) (x7 : Int32) (x8 : Int32) (x9 : Int32) (M : xMem), K79 x2 x3 x4 x5 x6 x7 x8 x9 M → xW (WM g) x 12 79 [(0, .ref (ga g 0)), (2, .int x2), (3, .int x3), (4, .int x4), (5, .int x5), (6, .int x6), (7, .int x7), (8, .int x8), (9, .int x9)] [] M) (x2 : Int32) (x3 : Int32) (x4 : Int32) (x5 : Int32) (x6 : Int32) (x7 : Int32) (x8 : Int32) (x9 : Int32) (M : xMem)  (h : wX12_book_136 K68 K79 post x2 x3 x4 x5 x6 x7 x8 x9 M) : xW (WM g) x 12 136 [(0, .ref (ga g 0)), (2, .int x2), (3, .int x3), (4, .int x4), (5, .int x5), (6, .int x6), (7, .int x7), (8, .int x8), (9, .int x9)] [] M := by
  unfold wX12_book_136 at h
  refine x_iconst C (v1 := 0) dX12_book_136 (by decide) ?_
  refine x_goto C (tgt := 159) dX12_book_137 (by decide) ?_
  exact tX12_book_159 hg  C  hK68 hK79 _ _ _ _ _ _ _ _ _ _  h
set_option maxHeartbeats 4000000 in
set_option maxRecDepth 100000 in
theorem tX12_book_109 {g : xG} (hg : x_inj (WM g))  {x : xCx}  {K68 : Int32 → Int32 → Int32 → Int32 → Int32 → Int32 → Int32 → xMem → Prop} {K79 : Int32 → Int32 → Int32 → Int32 → Int32 → Int32 → Int32 → Int32 → xMem → Prop} {post : Int32 → xMem → Prop} (C : xOk (WM g) x cX12_book RX12 12 (some .int) (rm_X12_book) (pI post))  (hK68 : ∀ (x2 : Int32) (x3 : Int32) (x4 : Int32) (x5 : Int32) (x6 : Int32) (x7 : Int32) (x8 : Int32) (M : xMem), K68 x2 x3 x4 x5 x6 x7 x8 M → xW (WM g) x 12 68 [(0, .ref (ga g 0)), (2, .int x2), (3, .int x3), (4, .int x4), (5, .int x5), (6, .int x6), (7, .int x7), (8, .int x8)] [] M) (hK79 : ∀ (x2 : Int32) (x3 : Int32) (x4 : Int32) (x5 : Int32) (x6 : Int32) (x7 : Int32) (x8 : Int32) (x9 : Int32) (M : xMem), K79 x2 x3 x4 x5 x6 x7 x8 x9 M → xW (WM g) x 12 79 [(0, .ref (ga g 0)), (2, .int x2), (3, .int x3), (4, .int x4), (5, .int x5), (6, .int x6), (7, .int x7), (8, .int x8), (9, .int x9)] [] M) (x2 : Int32) (x3 : Int32) (x4 : Int32) (x5 : Int32) (x6 : Int32) (x7 : Int32) (x8 : Int32) (x9 : Int32) (M : xMem)  (h : wX12_book_109 K68 K79 post x2 x3 x4 x5 x6 x7 x8 x9 M) : xW (WM g) x 12 109 [(0, .ref (ga g 0)), (2, .int x2), (3, .int x3), (4, .int x4), (5, .int x5), (6, .int x6), (7, .int x7), (8, .int x8), (9, .int x9)] [] M := by
  unfold wX12_book_109 at h
  refine x_iconst C (v1 := 0) dX12_book_109 (by decide) ?_
  refine x_goto C (tgt := 159) dX12_book_110 (by decide) ?_
  exact tX12_book_159 hg  C  hK68 hK79 _ _ _ _ _ _ _ _ _ _  h
set_option maxHeartbeats 4000000 in
set_option maxRecDepth 100000 in
theorem tX12_book_79 {g : xG} (hg : x_inj (WM g))  {x : xCx}  {K68 : Int32 → Int32 → Int32 → Int32 → Int32 → Int32 → Int32 → xMem → Prop} {post : Int32 → xMem → Prop} (C : xOk (WM g) x cX12_book RX12 12 (some .int) (rm_X12_book) (pI post))  (hK68 : ∀ (x2 : Int32) (x3 : Int32) (x4 : Int32) (x5 : Int32) (x6 : Int32) (x7 : Int32) (x8 : Int32) (M : xMem), K68 x2 x3 x4 x5 x6 x7 x8 M → xW (WM g) x 12 68 [(0, .ref (ga g 0)), (2, .int x2), (3, .int x3), (4, .int x4), (5, .int x5), (6, .int x6), (7, .int x7), (8, .int x8)] [] M) : ∀ (n : Nat) (x2 : Int32) (x3 : Int32) (x4 : Int32) (x5 : Int32) (x6 : Int32) (x7 : Int32) (x8 : Int32) (x9 : Int32) (M : xMem), wX12_book_79 K68 post n x2 x3 x4 x5 x6 x7 x8 x9 M → xW (WM g) x 12 79 [(0, .ref (ga g 0)), (2, .int x2), (3, .int x3), (4, .int x4), (5, .int x5), (6, .int x6), (7, .int x7), (8, .int x8), (9, .int x9)] [] M := by
  intro n
  induction n with
  | zero =>
    intro x2 x3 x4 x5 x6 x7 x8 x9 M  h
    exact h.elim
  | succ n ih =>
    intro x2 x3 x4 x5 x6 x7 x8 x9 M  h
    rw [wX12_book_79] at h
    refine x_iload C 8 rfl dX12_book_79 ?_
    refine x_iload C 3 rfl dX12_book_81 ?_
    refine x_icmp_gt C (tgt := 225) dX12_book_83 (by decide) (fun hq1 => ?_) (fun hq1 => ?_)
    · replace h := x_ift hq1 h
      obtain ⟨v2, ev2⟩ : ∃ z : Int32, z = x8 + 1 := ⟨_, rfl⟩
      replace h := h v2 ev2
      refine x_iinc C 7 (v1 := v2) (L' := [(8, .int v2), (0, .ref (ga g 0)), (2, .int x2), (3, .int x3), (4, .int x4), (5, .int x5), (6, .int x6), (7, .int x7), (9, .int x9)]) rfl (by rw [ev2]; rfl) rfl (Nat.le_of_ble_eq_true rfl) dX12_book_225 ?_
      refine x_goto C (tgt := 68) dX12_book_228 (by decide) ?_
      refine x_loc (L' := [(0, .ref (ga g 0)), (2, .int x2), (3, .int x3), (4, .int x4), (5, .int x5), (6, .int x6), (7, .int x7), (8, .int v2)]) [1, 2, 3, 4, 5, 6, 7, 0] rfl ?_
      exact hK68 _ _ _ _ _ _ _ _  h
    · replace h := x_iff hq1 h
      refine x_iload_n C 1 rfl rfl dX12_book_86 ?_
      refine x_iconst C (v1 := 1) dX12_book_87 (by decide) ?_
      refine x_icmp_ne C (tgt := 113) dX12_book_88 (by decide) (fun hq3 => ?_) (fun hq3 => ?_)
      · replace h := x_iff hq3 h
        refine x_iload_n C 1 rfl rfl dX12_book_113 ?_
        refine x_iconst C (v1 := 2) dX12_book_114 (by decide) ?_
        refine x_icmp_ne C (tgt := 140) dX12_book_115 (by decide) (fun hq4 => ?_) (fun hq4 => ?_)
        · replace h := x_iff hq4 h
          refine x_iload C 7 rfl dX12_book_140 ?_
          refine x_iload C 8 rfl dX12_book_142 ?_
          refine x_icmp_ge C (tgt := 158) dX12_book_144 (by decide) (fun hq5 => ?_) (fun hq5 => ?_)
          · replace h := x_ift hq5 h
            exact tX12_book_158 hg  C  hK68 ih _ _ _ _ _ _ _ _ _  h
          · replace h := x_iff hq5 h
            refine x_iload C 8 rfl dX12_book_147 ?_
            refine x_iload C 3 rfl dX12_book_149 ?_
            refine x_icmp_ge C (tgt := 158) dX12_book_151 (by decide) (fun hq6 => ?_) (fun hq6 => ?_)
            · replace h := x_ift hq6 h
              exact tX12_book_158 hg  C  hK68 ih _ _ _ _ _ _ _ _ _  h
            · replace h := x_iff hq6 h
              refine x_iconst C (v1 := 1) dX12_book_154 (by decide) ?_
              refine x_goto C (tgt := 159) dX12_book_155 (by decide) ?_
              exact tX12_book_159 hg  C  hK68 ih _ _ _ _ _ _ _ _ _ _  h
        · replace h := x_ift hq4 h
          refine x_iload C 7 rfl dX12_book_118 ?_
          refine x_iload C 3 rfl dX12_book_120 ?_
          refine x_icmp_ge C (tgt := 136) dX12_book_122 (by decide) (fun hq7 => ?_) (fun hq7 => ?_)
          · replace h := x_ift hq7 h
            exact tX12_book_136 hg  C  hK68 ih _ _ _ _ _ _ _ _ _  h
          · replace h := x_iff hq7 h
            refine x_iload C 8 rfl dX12_book_125 ?_
            refine x_iload C 3 rfl dX12_book_127 ?_
            refine x_icmp_ne C (tgt := 136) dX12_book_129 (by decide) (fun hq8 => ?_) (fun hq8 => ?_)
            · replace h := x_iff hq8 h
              exact tX12_book_136 hg  C  hK68 ih _ _ _ _ _ _ _ _ _  h
            · replace h := x_ift hq8 h
              refine x_iconst C (v1 := 1) dX12_book_132 (by decide) ?_
              refine x_goto C (tgt := 159) dX12_book_133 (by decide) ?_
              exact tX12_book_159 hg  C  hK68 ih _ _ _ _ _ _ _ _ _ _  h
      · replace h := x_ift hq3 h
        refine x_iload C 7 rfl dX12_book_91 ?_
        refine x_iload C 3 rfl dX12_book_93 ?_
        refine x_icmp_ne C (tgt := 109) dX12_book_95 (by decide) (fun hq9 => ?_) (fun hq9 => ?_)
        · replace h := x_iff hq9 h
          exact tX12_book_109 hg  C  hK68 ih _ _ _ _ _ _ _ _ _  h
        · replace h := x_ift hq9 h
          refine x_iload C 8 rfl dX12_book_98 ?_
          refine x_iload C 3 rfl dX12_book_100 ?_
          refine x_icmp_ne C (tgt := 109) dX12_book_102 (by decide) (fun hq10 => ?_) (fun hq10 => ?_)
          · replace h := x_iff hq10 h
            exact tX12_book_109 hg  C  hK68 ih _ _ _ _ _ _ _ _ _  h
          · replace h := x_ift hq10 h
            refine x_iconst C (v1 := 1) dX12_book_105 (by decide) ?_
            refine x_goto C (tgt := 159) dX12_book_106 (by decide) ?_
            exact tX12_book_159 hg  C  hK68 ih _ _ _ _ _ _ _ _ _ _  h
set_option maxHeartbeats 4000000 in
set_option maxRecDepth 100000 in
theorem tX12_book_68 {g : xG} (hg : x_inj (WM g))  {x : xCx}   {post : Int32 → xMem → Prop} (C : xOk (WM g) x cX12_book RX12 12 (some .int) (rm_X12_book) (pI post))   : ∀ (n : Nat) (x2 : Int32) (x3 : Int32) (x4 : Int32) (x5 : Int32) (x6 : Int32) (x7 : Int32) (x8 : Int32) (M : xMem), wX12_book_68 post n x2 x3 x4 x5 x6 x7 x8 M → xW (WM g) x 12 68 [(0, .ref (ga g 0)), (2, .int x2), (3, .int x3), (4, .int x4), (5, .int x5), (6, .int x6), (7, .int x7), (8, .int x8)] [] M := by
  intro n
  induction n with
  | zero =>
    intro x2 x3 x4 x5 x6 x7 x8 M  h
    exact h.elim
  | succ n ih =>
    intro x2 x3 x4 x5 x6 x7 x8 M  h
    rw [wX12_book_68] at h
    refine x_iload C 7 rfl dX12_book_68 ?_
    refine x_iload C 3 rfl dX12_book_70 ?_
    refine x_icmp_gt C (tgt := 231) dX12_book_72 (by decide) (fun hq1 => ?_) (fun hq1 => ?_)
    · replace h := x_ift hq1 h
      refine x_iload_n C 2 rfl rfl dX12_book_231 ?_
      refine x_if_ne C (tgt := 238) dX12_book_232 (by decide) (fun hq2 => ?_) (fun hq2 => ?_)
      · replace h := x_iff hq2 h
        refine x_iload_n C 2 rfl rfl dX12_book_238 ?_
        refine x_iconst C (v1 := 1) dX12_book_239 (by decide) ?_
        refine x_icmp_ne C (tgt := 248) dX12_book_240 (by decide) (fun hq3 => ?_) (fun hq3 => ?_)
        · replace h := x_iff hq3 h
          refine x_iload C 6 rfl dX12_book_248 ?_
          refine x_loc (L' := [(0, .ref (ga g 0)), (4, .int x4)]) [0, 3] rfl ?_
          exact tX12_book_250 hg  C   _ _ _  h
        · replace h := x_ift hq3 h
          refine x_iload C 5 rfl dX12_book_243 ?_
          refine x_goto C (tgt := 250) dX12_book_245 (by decide) ?_
          refine x_loc (L' := [(0, .ref (ga g 0)), (4, .int x4)]) [0, 3] rfl ?_
          exact tX12_book_250 hg  C   _ _ _  h
      · replace h := x_ift hq2 h
        refine x_iload C 4 rfl dX12_book_235 ?_
        exact x_iret C dX12_book_237 ⟨_, rfl, h⟩
    · replace h := x_iff hq1 h
      refine x_iload C 7 rfl dX12_book_75 ?_
      refine x_istore C (L' := [(9, .int x8), (0, .ref (ga g 0)), (2, .int x2), (3, .int x3), (4, .int x4), (5, .int x5), (6, .int x6), (7, .int x7), (8, .int x8)]) rfl (Nat.le_of_ble_eq_true rfl) dX12_book_77 ?_
      refine x_loc (L' := [(0, .ref (ga g 0)), (2, .int x2), (3, .int x3), (4, .int x4), (5, .int x5), (6, .int x6), (7, .int x7), (8, .int x8), (9, .int x8)]) [1, 2, 3, 4, 5, 6, 7, 8, 0] rfl ?_
      obtain ⟨n79, h⟩ := h
      exact tX12_book_79 hg  C  ih _ _ _ _ _ _ _ _ _ _  h
set_option maxHeartbeats 4000000 in
set_option maxRecDepth 100000 in
theorem tX12_book {g : xG} (hg : x_inj (WM g))  (l : Launch) (a0 : Int32) (a1 : Int32) (a2 : Int32) (M : xMem) (post : Int32 → xMem → Prop)  (h : wX12_book a0 a1 a2 M post) : xMet (WM g) l yX12_book cX12_book 12 (some .int) (rm_X12_book) [.ref (ga g 0), .int a0, .int a1, .int a2] M (pI post) := by
  refine x_enter (own := RX12) (L0 := [(0, .ref (ga g 0)), (1, .int a0), (2, .int a1), (3, .int a2)]) (by decide +kernel) rfl hg (x_stM g) (Nat.le_of_ble_eq_true rfl) rfl (fun x hl C => ?_)
  unfold wX12_book at h
  refine x_aload_n C 0 rfl rfl dX12_book_0 ?_
  refine x_iload_n C 1 rfl rfl dX12_book_1 ?_
  refine x_iconst C (v1 := 1) dX12_book_2 (by decide) ?_
  refine x_bipush C (v1 := 6) dX12_book_3 (by decide) ?_
  refine x_callV C (st := []) (As := [.int a0, .int 1, .int 6]) (c := 0) (ci := 12) (enM_12 (c := 0) rfl) (Nat.le_of_ble_eq_true rfl) rfl (tX12_areStories hg _ _ _ _ _ _  h) wm_X12_585 wi_X12_areStories wv_X12_areStories wz_X12 wc_X12_areStories rfl yd_X12_areStories rfl ⟨rfl, rfl⟩ ⟨Nat.le_of_ble_eq_true rfl, Nat.le_of_ble_eq_true rfl⟩ (Nat.le_of_ble_eq_true rfl) rfl dX12_book_5 (x_ki (fun r2 M1 h => ?_))
  refine x_if_eq C (tgt := 43) dX12_book_8 (by decide) (fun hq3 => ?_) (fun hq3 => ?_)
  · replace h := x_ift hq3 h
    refine x_iconst C (v1 := (-1)) dX12_book_43 (by decide) ?_
    exact x_iret C dX12_book_44 ⟨_, rfl, h⟩
  · replace h := x_iff hq3 h
    refine x_iload_n C 2 rfl rfl dX12_book_11 ?_
    refine x_i2l C dX12_book_12 ?_
    refine x_lconst C (v1 := 1) dX12_book_13 (by decide) ?_
    refine x_ldc2 C (v1 := 3) (wcl_X12_459) dX12_book_14 ?_
    refine x_callS C (st := []) (As := [.long ((a1 : Int32).toInt64), .long 1, .long 3]) (tX12_lies hg _ _ _ _ _ _  h) wm_X12_222 wsm_X12_lies wz_X12 wc_X12_lies yd_X12_lies rfl ⟨rfl, rfl⟩ ⟨Nat.le_of_ble_eq_true rfl, Nat.le_of_ble_eq_true rfl⟩ (Nat.le_of_ble_eq_true rfl) rfl dX12_book_17 (x_ki (fun r5 M4 h => ?_))
    refine x_if_eq C (tgt := 43) dX12_book_20 (by decide) (fun hq6 => ?_) (fun hq6 => ?_)
    · replace h := x_ift hq6 h
      refine x_iconst C (v1 := (-1)) dX12_book_43 (by decide) ?_
      exact x_iret C dX12_book_44 ⟨_, rfl, h⟩
    · replace h := x_iff hq6 h
      refine x_iload_n C 2 rfl rfl dX12_book_23 ?_
      refine x_iload_n C 1 rfl rfl dX12_book_24 ?_
      refine x_callS C (st := [.int a1]) (As := [.int a0]) (tX12_sizeOf hg _ _ _ _  h) wm_X12_289 wsm_X12_sizeOf wz_X12 wc_X12_sizeOf yd_X12_sizeOf rfl ⟨rfl, rfl⟩ ⟨Nat.le_of_ble_eq_true rfl, Nat.le_of_ble_eq_true rfl⟩ (Nat.le_of_ble_eq_true rfl) rfl dX12_book_25 (x_ki (fun r8 M7 h => ?_))
      refine x_icmp_gt C (tgt := 43) dX12_book_28 (by decide) (fun hq9 => ?_) (fun hq9 => ?_)
      · replace h := x_ift hq9 h
        refine x_iconst C (v1 := (-1)) dX12_book_43 (by decide) ?_
        exact x_iret C dX12_book_44 ⟨_, rfl, h⟩
      · replace h := x_iff hq9 h
        refine x_iload_n C 3 rfl rfl dX12_book_31 ?_
        refine x_i2l C dX12_book_32 ?_
        refine x_lconst C (v1 := 0) dX12_book_33 (by decide) ?_
        refine x_ldc2 C (v1 := 2) (wcl_X12_578) dX12_book_34 ?_
        refine x_callS C (st := []) (As := [.long ((a2 : Int32).toInt64), .long 0, .long 2]) (tX12_lies hg _ _ _ _ _ _  h) wm_X12_222 wsm_X12_lies wz_X12 wc_X12_lies yd_X12_lies rfl ⟨rfl, rfl⟩ ⟨Nat.le_of_ble_eq_true rfl, Nat.le_of_ble_eq_true rfl⟩ (Nat.le_of_ble_eq_true rfl) rfl dX12_book_37 (x_ki (fun r11 M10 h => ?_))
        refine x_if_ne C (tgt := 45) dX12_book_40 (by decide) (fun hq12 => ?_) (fun hq12 => ?_)
        · replace h := x_iff hq12 h
          refine x_aload_n C 0 rfl rfl dX12_book_45 ?_
          refine x_iload_n C 1 rfl rfl dX12_book_46 ?_
          refine x_callV C (st := []) (As := [.int a0]) (c := 0) (ci := 12) (enM_12 (c := 0) rfl) (Nat.le_of_ble_eq_true rfl) rfl (tX12_takesSome hg _ _ _ _  h) wm_X12_589 wi_X12_takesSome wv_X12_takesSome wz_X12 wc_X12_takesSome rfl yd_X12_takesSome rfl ⟨rfl, rfl⟩ ⟨Nat.le_of_ble_eq_true rfl, Nat.le_of_ble_eq_true rfl⟩ (Nat.le_of_ble_eq_true rfl) rfl dX12_book_47 (x_ki (fun r14 M13 h => ?_))
          refine x_istore C (L' := [(4, .int r14), (0, .ref (ga g 0)), (1, .int a0), (2, .int a1), (3, .int a2)]) rfl (Nat.le_of_ble_eq_true rfl) dX12_book_50 ?_
          refine x_ldc_w C (v1 := 1000000000) (wco_X12_476) dX12_book_52 ?_
          refine x_istore C (L' := [(5, .int 1000000000), (4, .int r14), (0, .ref (ga g 0)), (1, .int a0), (2, .int a1), (3, .int a2)]) rfl (Nat.le_of_ble_eq_true rfl) dX12_book_55 ?_
          refine x_iload C 1 rfl dX12_book_57 ?_
          refine x_istore C (L' := [(6, .int r14), (5, .int 1000000000), (4, .int r14), (0, .ref (ga g 0)), (1, .int a0), (2, .int a1), (3, .int a2)]) rfl (Nat.le_of_ble_eq_true rfl) dX12_book_59 ?_
          refine x_iload C 2 rfl dX12_book_61 ?_
          refine x_istore C (L' := [(7, .int r14), (6, .int r14), (5, .int 1000000000), (4, .int r14), (0, .ref (ga g 0)), (1, .int a0), (2, .int a1), (3, .int a2)]) rfl (Nat.le_of_ble_eq_true rfl) dX12_book_63 ?_
          refine x_iconst C (v1 := 1) dX12_book_65 (by decide) ?_
          refine x_istore C (L' := [(8, .int 1), (7, .int r14), (6, .int r14), (5, .int 1000000000), (4, .int r14), (0, .ref (ga g 0)), (1, .int a0), (2, .int a1), (3, .int a2)]) rfl (Nat.le_of_ble_eq_true rfl) dX12_book_66 ?_
          refine x_loc (L' := [(0, .ref (ga g 0)), (2, .int a1), (3, .int a2), (4, .int r14), (5, .int 1000000000), (6, .int r14), (7, .int r14), (8, .int 1)]) [5, 7, 8, 4, 3, 2, 1, 0] rfl ?_
          obtain ⟨n68, h⟩ := h
          exact tX12_book_68 hg  C   _ _ _ _ _ _ _ _ _  h
        · replace h := x_ift hq12 h
          refine x_iconst C (v1 := (-1)) dX12_book_43 (by decide) ?_
          exact x_iret C dX12_book_44 ⟨_, rfl, h⟩
set_option maxHeartbeats 4000000 in
set_option maxRecDepth 100000 in
theorem tX12_winter_288 {g : xG} (hg : x_inj (WM g))  {x : xCx}  {K144 : Int32 → Int32 → Int32 → Int32 → Int32 → Int32 → Int32 → xMem → Prop} {post : Int32 → xMem → Prop} (C : xOk (WM g) x cX12_winter RX12 14 (some .int) (rm_X12_winter) (pI post))  (hK144 : ∀ (x1 : Int32) (x3 : Int32) (x5 : Int32) (x6 : Int32) (x7 : Int32) (x8 : Int32) (x9 : Int32) (M : xMem), K144 x1 x3 x5 x6 x7 x8 x9 M → xW (WM g) x 14 144 [(0, .ref (ga g 0)), (1, .int x1), (3, .int x3), (5, .int x5), (6, .int x6), (7, .int x7), (8, .int x8), (9, .int x9)] [] M) (x1 : Int32) (x3 : Int32) (x5 : Int32) (x6 : Int32) (x7 : Int32) (x8 : Int32) (x9 : Int32) (M : xMem)  (h : wX12_winter_288 K144 post x1 x3 x5 x6 x7 x8 x9 M) : xW (WM g) x 14 288 [(0, .ref (ga g 0)), (1, .int x1), (3, .int x3), (5, .int x5), (6, .int x6), (7, .int x7), (8, .int x8), (9, .int x9)] [] M := by
  unfold wX12_winter_288 at h
  obtain ⟨v1, ev1⟩ : ∃ z : Int32, z = x9 + 1 := ⟨_, rfl⟩
  replace h := h v1 ev1
  refine x_iinc C 7 (v1 := v1) (L' := [(9, .int v1), (0, .ref (ga g 0)), (1, .int x1), (3, .int x3), (5, .int x5), (6, .int x6), (7, .int x7), (8, .int x8)]) rfl (by rw [ev1]; rfl) rfl (Nat.le_of_ble_eq_true rfl) dX12_winter_288 ?_
  refine x_goto C (tgt := 144) dX12_winter_291 (by decide) ?_
  refine x_loc (L' := [(0, .ref (ga g 0)), (1, .int x1), (3, .int x3), (5, .int x5), (6, .int x6), (7, .int x7), (8, .int x8), (9, .int v1)]) [1, 2, 3, 4, 5, 6, 7, 0] rfl ?_
  exact hK144 _ _ _ _ _ _ _ _  h
set_option maxHeartbeats 4000000 in
set_option maxRecDepth 100000 in
theorem tX12_winter_276 {g : xG} (hg : x_inj (WM g))  {x : xCx}  {K144 : Int32 → Int32 → Int32 → Int32 → Int32 → Int32 → Int32 → xMem → Prop} {post : Int32 → xMem → Prop} (C : xOk (WM g) x cX12_winter RX12 14 (some .int) (rm_X12_winter) (pI post))  (hK144 : ∀ (x1 : Int32) (x3 : Int32) (x5 : Int32) (x6 : Int32) (x7 : Int32) (x8 : Int32) (x9 : Int32) (M : xMem), K144 x1 x3 x5 x6 x7 x8 x9 M → xW (WM g) x 14 144 [(0, .ref (ga g 0)), (1, .int x1), (3, .int x3), (5, .int x5), (6, .int x6), (7, .int x7), (8, .int x8), (9, .int x9)] [] M) (x1 : Int32) (x3 : Int32) (x5 : Int32) (x9 : Int32) (x10 : Int32) (x11 : Int32) (x12 : Int32) (M : xMem)  (h : wX12_winter_276 K144 post x1 x3 x5 x9 x10 x11 x12 M) : xW (WM g) x 14 276 [(0, .ref (ga g 0)), (1, .int x1), (3, .int x3), (5, .int x5), (9, .int x9), (10, .int x10), (11, .int x11), (12, .int x12)] [] M := by
  unfold wX12_winter_276 at h
  refine x_iload C 7 rfl dX12_winter_276 ?_
  refine x_istore C (L' := [(6, .int x12), (0, .ref (ga g 0)), (1, .int x1), (3, .int x3), (5, .int x5), (9, .int x9), (10, .int x10), (11, .int x11), (12, .int x12)]) rfl (Nat.le_of_ble_eq_true rfl) dX12_winter_278 ?_
  refine x_iload C 6 rfl dX12_winter_280 ?_
  refine x_istore C (L' := [(7, .int x10), (6, .int x12), (0, .ref (ga g 0)), (1, .int x1), (3, .int x3), (5, .int x5), (9, .int x9), (10, .int x10), (11, .int x11), (12, .int x12)]) rfl (Nat.le_of_ble_eq_true rfl) dX12_winter_282 ?_
  refine x_iload C 8 rfl dX12_winter_284 ?_
  refine x_istore C (L' := [(8, .int x11), (7, .int x10), (6, .int x12), (0, .ref (ga g 0)), (1, .int x1), (3, .int x3), (5, .int x5), (9, .int x9), (10, .int x10), (11, .int x11), (12, .int x12)]) rfl (Nat.le_of_ble_eq_true rfl) dX12_winter_286 ?_
  refine x_loc (L' := [(0, .ref (ga g 0)), (1, .int x1), (3, .int x3), (5, .int x5), (6, .int x12), (7, .int x10), (8, .int x11), (9, .int x9)]) [3, 4, 5, 6, 2, 1, 0, 7] rfl ?_
  exact tX12_winter_288 hg  C  hK144 _ _ _ _ _ _ _ _  h
set_option maxHeartbeats 4000000 in
set_option maxRecDepth 100000 in
theorem tX12_winter_240 {g : xG} (hg : x_inj (WM g))  {x : xCx}  {K144 : Int32 → Int32 → Int32 → Int32 → Int32 → Int32 → Int32 → xMem → Prop} {K165 : Int32 → Int32 → Int32 → Int32 → Int32 → Int32 → Int32 → Int32 → Int32 → Int32 → Int32 → xMem → Prop} {post : Int32 → xMem → Prop} (C : xOk (WM g) x cX12_winter RX12 14 (some .int) (rm_X12_winter) (pI post))  (hK144 : ∀ (x1 : Int32) (x3 : Int32) (x5 : Int32) (x6 : Int32) (x7 : Int32) (x8 : Int32) (x9 : Int32) (M : xMem), K144 x1 x3 x5 x6 x7 x8 x9 M → xW (WM g) x 14 144 [(0, .ref (ga g 0)), (1, .int x1), (3, .int x3), (5, .int x5), (6, .int x6), (7, .int x7), (8, .int x8), (9, .int x9)] [] M) (hK165 : ∀ (x1 : Int32) (x3 : Int32) (x5 : Int32) (x6 : Int32) (x7 : Int32) (x8 : Int32) (x9 : Int32) (x10 : Int32) (x11 : Int32) (x12 : Int32) (x13 : Int32) (M : xMem), K165 x1 x3 x5 x6 x7 x8 x9 x10 x11 x12 x13 M → xW (WM g) x 14 165 [(0, .ref (ga g 0)), (1, .int x1), (3, .int x3), (5, .int x5), (6, .int x6), (7, .int x7), (8, .int x8), (9, .int x9), (10, .int x10), (11, .int x11), (12, .int x12), (13, .int x13)] [] M) (x1 : Int32) (x3 : Int32) (x5 : Int32) (x6 : Int32) (x7 : Int32) (x8 : Int32) (x9 : Int32) (x10 : Int32) (x11 : Int32) (x12 : Int32) (x13 : Int32) (M : xMem)  (h : wX12_winter_240 K144 K165 post x1 x3 x5 x6 x7 x8 x9 x10 x11 x12 x13 M) : xW (WM g) x 14 240 [(0, .ref (ga g 0)), (1, .int x1), (3, .int x3), (5, .int x5), (6, .int x6), (7, .int x7), (8, .int x8), (9, .int x9), (10, .int x10), (11, .int x11), (12, .int x12), (13, .int x13)] [] M := by
  unfold wX12_winter_240 at h
  obtain ⟨v1, ev1⟩ : ∃ z : Int32, z = x13 + 1 := ⟨_, rfl⟩
  replace h := h v1 ev1
  refine x_iinc C 11 (v1 := v1) (L' := [(13, .int v1), (0, .ref (ga g 0)), (1, .int x1), (3, .int x3), (5, .int x5), (6, .int x6), (7, .int x7), (8, .int x8), (9, .int x9), (10, .int x10), (11, .int x11), (12, .int x12)]) rfl (by rw [ev1]; rfl) rfl (Nat.le_of_ble_eq_true rfl) dX12_winter_240 ?_
  refine x_goto C (tgt := 165) dX12_winter_243 (by decide) ?_
  refine x_loc (L' := [(0, .ref (ga g 0)), (1, .int x1), (3, .int x3), (5, .int x5), (6, .int x6), (7, .int x7), (8, .int x8), (9, .int x9), (10, .int x10), (11, .int x11), (12, .int x12), (13, .int v1)]) [1, 2, 3, 4, 5, 6, 7, 8, 9, 10, 11, 0] rfl ?_
  exact hK165 _ _ _ _ _ _ _ _ _ _ _ _  h
set_option maxHeartbeats 4000000 in
set_option maxRecDepth 100000 in
theorem tX12_winter_165 {g : xG} (hg : x_inj (WM g))  {x : xCx}  {K144 : Int32 → Int32 → Int32 → Int32 → Int32 → Int32 → Int32 → xMem → Prop} {post : Int32 → xMem → Prop} (C : xOk (WM g) x cX12_winter RX12 14 (some .int) (rm_X12_winter) (pI post))  (hK144 : ∀ (x1 : Int32) (x3 : Int32) (x5 : Int32) (x6 : Int32) (x7 : Int32) (x8 : Int32) (x9 : Int32) (M : xMem), K144 x1 x3 x5 x6 x7 x8 x9 M → xW (WM g) x 14 144 [(0, .ref (ga g 0)), (1, .int x1), (3, .int x3), (5, .int x5), (6, .int x6), (7, .int x7), (8, .int x8), (9, .int x9)] [] M) : ∀ (n : Nat) (x1 : Int32) (x3 : Int32) (x5 : Int32) (x6 : Int32) (x7 : Int32) (x8 : Int32) (x9 : Int32) (x10 : Int32) (x11 : Int32) (x12 : Int32) (x13 : Int32) (M : xMem), wX12_winter_165 K144 post n x1 x3 x5 x6 x7 x8 x9 x10 x11 x12 x13 M → xW (WM g) x 14 165 [(0, .ref (ga g 0)), (1, .int x1), (3, .int x3), (5, .int x5), (6, .int x6), (7, .int x7), (8, .int x8), (9, .int x9), (10, .int x10), (11, .int x11), (12, .int x12), (13, .int x13)] [] M := by
  intro n
  induction n with
  | zero =>
    intro x1 x3 x5 x6 x7 x8 x9 x10 x11 x12 x13 M  h
    exact h.elim
  | succ n ih =>
    intro x1 x3 x5 x6 x7 x8 x9 x10 x11 x12 x13 M  h
    rw [wX12_winter_165] at h
    refine x_iload C 11 rfl dX12_winter_165 ?_
    refine x_iload C 3 rfl dX12_winter_167 ?_
    refine x_icmp_ge C (tgt := 246) dX12_winter_169 (by decide) (fun hq1 => ?_) (fun hq1 => ?_)
    · replace h := x_ift hq1 h
      refine x_iload C 9 rfl dX12_winter_246 ?_
      refine x_iload_n C 1 rfl rfl dX12_winter_248 ?_
      refine x_icmp_gt C (tgt := 288) dX12_winter_249 (by decide) (fun hq2 => ?_) (fun hq2 => ?_)
      · replace h := x_ift hq2 h
        refine x_loc (L' := [(0, .ref (ga g 0)), (1, .int x1), (3, .int x3), (5, .int x5), (6, .int x6), (7, .int x7), (8, .int x8), (9, .int x9)]) [0, 1, 2, 3, 4, 5, 6, 7] rfl ?_
        exact tX12_winter_288 hg  C  hK144 _ _ _ _ _ _ _ _  h
      · replace h := x_iff hq2 h
        refine x_iload C 8 rfl dX12_winter_252 ?_
        refine x_iload C 5 rfl dX12_winter_254 ?_
        refine x_icmp_lt C (tgt := 288) dX12_winter_256 (by decide) (fun hq3 => ?_) (fun hq3 => ?_)
        · replace h := x_ift hq3 h
          refine x_loc (L' := [(0, .ref (ga g 0)), (1, .int x1), (3, .int x3), (5, .int x5), (6, .int x6), (7, .int x7), (8, .int x8), (9, .int x9)]) [0, 1, 2, 3, 4, 5, 6, 7] rfl ?_
          exact tX12_winter_288 hg  C  hK144 _ _ _ _ _ _ _ _  h
        · replace h := x_iff hq3 h
          refine x_iload C 8 rfl dX12_winter_259 ?_
          refine x_iload C 5 rfl dX12_winter_261 ?_
          refine x_icmp_ne C (tgt := 276) dX12_winter_263 (by decide) (fun hq4 => ?_) (fun hq4 => ?_)
          · replace h := x_iff hq4 h
            refine x_loc (L' := [(0, .ref (ga g 0)), (1, .int x1), (3, .int x3), (5, .int x5), (9, .int x9), (10, .int x10), (11, .int x11), (12, .int x12)]) [0, 1, 2, 3, 7, 8, 9, 10] rfl ?_
            exact tX12_winter_276 hg  C  hK144 _ _ _ _ _ _ _ _  h
          · replace h := x_ift hq4 h
            refine x_iload C 9 rfl dX12_winter_266 ?_
            refine x_iload C 6 rfl dX12_winter_268 ?_
            refine x_icmp_lt C (tgt := 276) dX12_winter_270 (by decide) (fun hq5 => ?_) (fun hq5 => ?_)
            · replace h := x_ift hq5 h
              refine x_loc (L' := [(0, .ref (ga g 0)), (1, .int x1), (3, .int x3), (5, .int x5), (9, .int x9), (10, .int x10), (11, .int x11), (12, .int x12)]) [0, 1, 2, 3, 7, 8, 9, 10] rfl ?_
              exact tX12_winter_276 hg  C  hK144 _ _ _ _ _ _ _ _  h
            · replace h := x_iff hq5 h
              refine x_goto C (tgt := 288) dX12_winter_273 (by decide) ?_
              refine x_loc (L' := [(0, .ref (ga g 0)), (1, .int x1), (3, .int x3), (5, .int x5), (6, .int x6), (7, .int x7), (8, .int x8), (9, .int x9)]) [0, 1, 2, 3, 4, 5, 6, 7] rfl ?_
              exact tX12_winter_288 hg  C  hK144 _ _ _ _ _ _ _ _  h
    · replace h := x_iff hq1 h
      refine x_iload C 7 rfl dX12_winter_172 ?_
      refine x_iload C 11 rfl dX12_winter_174 ?_
      refine x_callS C (st := []) (As := [.int x9, .int x13]) (tX12_has hg _ _ _ _ _  h) wm_X12_194 wsm_X12_has wz_X12 wc_X12_has yd_X12_has rfl ⟨rfl, rfl⟩ ⟨Nat.le_of_ble_eq_true rfl, Nat.le_of_ble_eq_true rfl⟩ (Nat.le_of_ble_eq_true rfl) rfl dX12_winter_176 (x_ki (fun r7 M6 h => ?_))
      refine x_if_ne C (tgt := 185) dX12_winter_179 (by decide) (fun hq8 => ?_) (fun hq8 => ?_)
      · replace h := x_iff hq8 h
        refine x_iload C 8 rfl dX12_winter_185 ?_
        refine x_aload_n C 0 rfl rfl dX12_winter_187 ?_
        refine x_iload C 11 rfl dX12_winter_188 ?_
        refine x_callV C (st := [.int x10]) (As := [.int x13]) (c := 0) (ci := 12) (enM_12 (c := 0) rfl) (Nat.le_of_ble_eq_true rfl) rfl (tX12_byteAt hg _ _ _ _  h) wm_X12_612 wi_X12_byteAt wv_X12_byteAt wz_X12 wc_X12_byteAt rfl yd_X12_byteAt rfl ⟨rfl, rfl⟩ ⟨Nat.le_of_ble_eq_true rfl, Nat.le_of_ble_eq_true rfl⟩ (Nat.le_of_ble_eq_true rfl) rfl dX12_winter_190 (x_ki (fun r10 M9 h => ?_))
        refine x_aload_n C 0 rfl rfl dX12_winter_193 ?_
        refine x_get C (c := 0) (ci := 12) (k1 := 53) (v1 := .ref (ga g 27)) (enM_12 (c := 0) rfl) (Nat.le_of_ble_eq_true rfl) rfl inX12 (by decide) wf_X12_94 rfl dX12_winter_194 ?_
        refine x_aload_n C 0 rfl rfl dX12_winter_197 ?_
        refine x_get C (c := 0) (ci := 12) (k1 := 97) (v1 := .ref (ga g 56)) (enM_12 (c := 0) rfl) (Nat.le_of_ble_eq_true rfl) rfl inX12 (by decide) wf_X12_182 rfl dX12_winter_198 ?_
        refine x_iload C 11 rfl dX12_winter_201 ?_
        obtain ⟨hi11, h⟩ := h
        refine x_iald C 0 (c := 56) (enM_20n (c := 56) (n := 10) rfl rfl) (Nat.le_of_ble_eq_true rfl) rfl hi11 dX12_winter_203 ?_
        obtain ⟨hi12, h⟩ := h
        refine x_iald C 0 (c := 27) (enM_20n (c := 27) (n := 10) rfl rfl) (Nat.le_of_ble_eq_true rfl) rfl hi12 dX12_winter_204 ?_
        refine x_imul C dX12_winter_205 ?_
        refine x_iadd C dX12_winter_206 ?_
        refine x_nm (fun v13 ev13 => ?_)
        replace h := h v13 ev13
        refine x_istore C (L' := [(10, .int v13), (0, .ref (ga g 0)), (1, .int x1), (3, .int x3), (5, .int x5), (6, .int x6), (7, .int x7), (8, .int x8), (9, .int x9), (11, .int x11), (12, .int x12), (13, .int x13)]) rfl (Nat.le_of_ble_eq_true rfl) dX12_winter_207 ?_
        refine x_iload C 9 rfl dX12_winter_209 ?_
        refine x_aload_n C 1 rfl rfl dX12_winter_211 ?_
        refine x_get C (c := 0) (ci := 12) (k1 := 55) (v1 := .ref (ga g 29)) (enM_12 (c := 0) rfl) (Nat.le_of_ble_eq_true rfl) rfl inX12 (by decide) wf_X12_100 rfl dX12_winter_212 ?_
        refine x_aload_n C 1 rfl rfl dX12_winter_215 ?_
        refine x_get C (c := 0) (ci := 12) (k1 := 97) (v1 := .ref (ga g 56)) (enM_12 (c := 0) rfl) (Nat.le_of_ble_eq_true rfl) rfl inX12 (by decide) wf_X12_182 rfl dX12_winter_216 ?_
        refine x_iload C 11 rfl dX12_winter_219 ?_
        obtain ⟨hi14, h⟩ := h
        refine x_iald C 0 (c := 56) (enM_20n (c := 56) (n := 10) rfl rfl) (Nat.le_of_ble_eq_true rfl) rfl hi14 dX12_winter_221 ?_
        obtain ⟨hi15, h⟩ := h
        refine x_iald C 0 (c := 29) (enM_20n (c := 29) (n := 10) rfl rfl) (Nat.le_of_ble_eq_true rfl) rfl hi15 dX12_winter_222 ?_
        refine x_iadd C dX12_winter_223 ?_
        refine x_nm (fun v16 ev16 => ?_)
        replace h := h v16 ev16
        refine x_istore C (L' := [(11, .int v16), (10, .int v13), (0, .ref (ga g 0)), (1, .int x1), (3, .int x3), (5, .int x5), (6, .int x6), (7, .int x7), (8, .int x8), (9, .int x9), (12, .int x12), (13, .int x13)]) rfl (Nat.le_of_ble_eq_true rfl) dX12_winter_224 ?_
        refine x_iload C 10 rfl dX12_winter_226 ?_
        refine x_iconst C (v1 := 1) dX12_winter_228 (by decide) ?_
        refine x_aload_n C 2 rfl rfl dX12_winter_229 ?_
        refine x_get C (c := 0) (ci := 12) (k1 := 97) (v1 := .ref (ga g 56)) (enM_12 (c := 0) rfl) (Nat.le_of_ble_eq_true rfl) rfl inX12 (by decide) wf_X12_182 rfl dX12_winter_230 ?_
        refine x_iload C 11 rfl dX12_winter_233 ?_
        obtain ⟨hi17, h⟩ := h
        refine x_iald C 0 (c := 56) (enM_20n (c := 56) (n := 10) rfl rfl) (Nat.le_of_ble_eq_true rfl) rfl hi17 dX12_winter_235 ?_
        refine x_ishl C dX12_winter_236 ?_
        refine x_ior C dX12_winter_237 ?_
        refine x_nm (fun v18 ev18 => ?_)
        replace h := h v18 ev18
        refine x_istore C (L' := [(12, .int v18), (11, .int v16), (10, .int v13), (0, .ref (ga g 0)), (1, .int x1), (3, .int x3), (5, .int x5), (6, .int x6), (7, .int x7), (8, .int x8), (9, .int x9), (13, .int x13)]) rfl (Nat.le_of_ble_eq_true rfl) dX12_winter_238 ?_
        refine x_loc (L' := [(0, .ref (ga g 0)), (1, .int x1), (3, .int x3), (5, .int x5), (6, .int x6), (7, .int x7), (8, .int x8), (9, .int x9), (10, .int v13), (11, .int v16), (12, .int v18), (13, .int x13)]) [3, 4, 5, 6, 7, 8, 9, 10, 2, 1, 0, 11] rfl ?_
        exact tX12_winter_240 hg  C  hK144 ih _ _ _ _ _ _ _ _ _ _ _ _  h
      · replace h := x_ift hq8 h
        refine x_goto C (tgt := 240) dX12_winter_182 (by decide) ?_
        exact tX12_winter_240 hg  C  hK144 ih _ _ _ _ _ _ _ _ _ _ _ _  h
set_option maxHeartbeats 4000000 in
set_option maxRecDepth 100000 in
theorem tX12_winter_144 {g : xG} (hg : x_inj (WM g))  {x : xCx}   {post : Int32 → xMem → Prop} (C : xOk (WM g) x cX12_winter RX12 14 (some .int) (rm_X12_winter) (pI post))   : ∀ (n : Nat) (x1 : Int32) (x3 : Int32) (x5 : Int32) (x6 : Int32) (x7 : Int32) (x8 : Int32) (x9 : Int32) (M : xMem), wX12_winter_144 post n x1 x3 x5 x6 x7 x8 x9 M → xW (WM g) x 14 144 [(0, .ref (ga g 0)), (1, .int x1), (3, .int x3), (5, .int x5), (6, .int x6), (7, .int x7), (8, .int x8), (9, .int x9)] [] M := by
  intro n
  induction n with
  | zero =>
    intro x1 x3 x5 x6 x7 x8 x9 M  h
    exact h.elim
  | succ n ih =>
    intro x1 x3 x5 x6 x7 x8 x9 M  h
    rw [wX12_winter_144] at h
    refine x_iload C 7 rfl dX12_winter_144 ?_
    refine x_iconst C (v1 := 1) dX12_winter_146 (by decide) ?_
    refine x_iload C 3 rfl dX12_winter_147 ?_
    refine x_ishl C dX12_winter_149 ?_
    refine x_icmp_ge C (tgt := 294) dX12_winter_150 (by decide) (fun hq1 => ?_) (fun hq1 => ?_)
    · replace h := x_ift hq1 h
      refine x_iload_n C 2 rfl rfl dX12_winter_294 ?_
      refine x_if_ne C (tgt := 303) dX12_winter_295 (by decide) (fun hq2 => ?_) (fun hq2 => ?_)
      · replace h := x_iff hq2 h
        refine x_iload_n C 2 rfl rfl dX12_winter_303 ?_
        refine x_iconst C (v1 := 1) dX12_winter_304 (by decide) ?_
        refine x_icmp_ne C (tgt := 313) dX12_winter_305 (by decide) (fun hq3 => ?_) (fun hq3 => ?_)
        · replace h := x_iff hq3 h
          refine x_iload C 6 rfl dX12_winter_313 ?_
          exact x_iret C dX12_winter_315 ⟨_, rfl, h⟩
        · replace h := x_ift hq3 h
          refine x_iload C 4 rfl dX12_winter_308 ?_
          refine x_goto C (tgt := 315) dX12_winter_310 (by decide) ?_
          exact x_iret C dX12_winter_315 ⟨_, rfl, h⟩
      · replace h := x_ift hq2 h
        refine x_iload C 5 rfl dX12_winter_298 ?_
        refine x_goto C (tgt := 315) dX12_winter_300 (by decide) ?_
        exact x_iret C dX12_winter_315 ⟨_, rfl, h⟩
    · replace h := x_iff hq1 h
      refine x_iconst C (v1 := 0) dX12_winter_153 (by decide) ?_
      refine x_istore C (L' := [(10, .int 0), (0, .ref (ga g 0)), (1, .int x1), (3, .int x3), (5, .int x5), (6, .int x6), (7, .int x7), (8, .int x8), (9, .int x9)]) rfl (Nat.le_of_ble_eq_true rfl) dX12_winter_154 ?_
      refine x_iconst C (v1 := 0) dX12_winter_156 (by decide) ?_
      refine x_istore C (L' := [(11, .int 0), (10, .int 0), (0, .ref (ga g 0)), (1, .int x1), (3, .int x3), (5, .int x5), (6, .int x6), (7, .int x7), (8, .int x8), (9, .int x9)]) rfl (Nat.le_of_ble_eq_true rfl) dX12_winter_157 ?_
      refine x_iconst C (v1 := 0) dX12_winter_159 (by decide) ?_
      refine x_istore C (L' := [(12, .int 0), (11, .int 0), (10, .int 0), (0, .ref (ga g 0)), (1, .int x1), (3, .int x3), (5, .int x5), (6, .int x6), (7, .int x7), (8, .int x8), (9, .int x9)]) rfl (Nat.le_of_ble_eq_true rfl) dX12_winter_160 ?_
      refine x_iconst C (v1 := 0) dX12_winter_162 (by decide) ?_
      refine x_istore C (L' := [(13, .int 0), (12, .int 0), (11, .int 0), (10, .int 0), (0, .ref (ga g 0)), (1, .int x1), (3, .int x3), (5, .int x5), (6, .int x6), (7, .int x7), (8, .int x8), (9, .int x9)]) rfl (Nat.le_of_ble_eq_true rfl) dX12_winter_163 ?_
      refine x_loc (L' := [(0, .ref (ga g 0)), (1, .int x1), (3, .int x3), (5, .int x5), (6, .int x6), (7, .int x7), (8, .int x8), (9, .int x9), (10, .int 0), (11, .int 0), (12, .int 0), (13, .int 0)]) [4, 5, 6, 7, 8, 9, 10, 11, 3, 2, 1, 0] rfl ?_
      obtain ⟨n165, h⟩ := h
      exact tX12_winter_165 hg  C  ih _ _ _ _ _ _ _ _ _ _ _ _ _  h
set_option maxHeartbeats 4000000 in
set_option maxRecDepth 100000 in
theorem tX12_winter_98 {g : xG} (hg : x_inj (WM g))  {x : xCx}   {post : Int32 → xMem → Prop} (C : xOk (WM g) x cX12_winter RX12 14 (some .int) (rm_X12_winter) (pI post))   : ∀ (n : Nat) (x1 : Int32) (x2 : Int32) (x3 : Int32) (x4 : Int32) (x5 : Int32) (M : xMem), wX12_winter_98 post n x1 x2 x3 x4 x5 M → xW (WM g) x 14 98 [(0, .ref (ga g 0)), (1, .int x1), (2, .int x2), (3, .int x3), (4, .int x4), (5, .int x5)] [] M := by
  intro n
  induction n with
  | zero =>
    intro x1 x2 x3 x4 x5 M  h
    exact h.elim
  | succ n ih =>
    intro x1 x2 x3 x4 x5 M  h
    rw [wX12_winter_98] at h
    refine x_iload C 5 rfl dX12_winter_98 ?_
    refine x_iload_n C 2 rfl rfl dX12_winter_100 ?_
    refine x_icmp_ge C (tgt := 124) dX12_winter_101 (by decide) (fun hq1 => ?_) (fun hq1 => ?_)
    · replace h := x_ift hq1 h
      refine x_aload_n C 0 rfl rfl dX12_winter_124 ?_
      refine x_iload C 4 rfl dX12_winter_125 ?_
      refine x_callV C (st := []) (As := [.int x4]) (c := 0) (ci := 12) (enM_12 (c := 0) rfl) (Nat.le_of_ble_eq_true rfl) rfl (tX12_takesSome hg _ _ _ _  h) wm_X12_589 wi_X12_takesSome wv_X12_takesSome wz_X12 wc_X12_takesSome rfl yd_X12_takesSome rfl ⟨rfl, rfl⟩ ⟨Nat.le_of_ble_eq_true rfl, Nat.le_of_ble_eq_true rfl⟩ (Nat.le_of_ble_eq_true rfl) rfl dX12_winter_127 (x_ki (fun r3 M2 h => ?_))
      refine x_istore C (L' := [(5, .int r3), (0, .ref (ga g 0)), (1, .int x1), (2, .int x2), (3, .int x3), (4, .int x4)]) rfl (Nat.le_of_ble_eq_true rfl) dX12_winter_130 ?_
      refine x_iconst C (v1 := 0) dX12_winter_132 (by decide) ?_
      refine x_istore C (L' := [(6, .int 0), (5, .int r3), (0, .ref (ga g 0)), (1, .int x1), (2, .int x2), (3, .int x3), (4, .int x4)]) rfl (Nat.le_of_ble_eq_true rfl) dX12_winter_133 ?_
      refine x_iconst C (v1 := (-1)) dX12_winter_135 (by decide) ?_
      refine x_istore C (L' := [(7, .int (-1)), (6, .int 0), (5, .int r3), (0, .ref (ga g 0)), (1, .int x1), (2, .int x2), (3, .int x3), (4, .int x4)]) rfl (Nat.le_of_ble_eq_true rfl) dX12_winter_136 ?_
      refine x_iconst C (v1 := 0) dX12_winter_138 (by decide) ?_
      refine x_istore C (L' := [(8, .int 0), (7, .int (-1)), (6, .int 0), (5, .int r3), (0, .ref (ga g 0)), (1, .int x1), (2, .int x2), (3, .int x3), (4, .int x4)]) rfl (Nat.le_of_ble_eq_true rfl) dX12_winter_139 ?_
      refine x_iconst C (v1 := 0) dX12_winter_141 (by decide) ?_
      refine x_istore C (L' := [(9, .int 0), (8, .int 0), (7, .int (-1)), (6, .int 0), (5, .int r3), (0, .ref (ga g 0)), (1, .int x1), (2, .int x2), (3, .int x3), (4, .int x4)]) rfl (Nat.le_of_ble_eq_true rfl) dX12_winter_142 ?_
      refine x_loc (L' := [(0, .ref (ga g 0)), (1, .int x1), (3, .int x3), (5, .int r3), (6, .int 0), (7, .int (-1)), (8, .int 0), (9, .int 0)]) [5, 6, 8, 4, 3, 2, 1, 0] rfl ?_
      obtain ⟨n144, h⟩ := h
      exact tX12_winter_144 hg  C   _ _ _ _ _ _ _ _ _  h
    · replace h := x_iff hq1 h
      refine x_aload_n C 0 rfl rfl dX12_winter_104 ?_
      refine x_iload C 5 rfl dX12_winter_105 ?_
      refine x_callV C (st := []) (As := [.int x5]) (c := 0) (ci := 12) (enM_12 (c := 0) rfl) (Nat.le_of_ble_eq_true rfl) rfl (tX12_byteAt hg _ _ _ _  h) wm_X12_612 wi_X12_byteAt wv_X12_byteAt wz_X12 wc_X12_byteAt rfl yd_X12_byteAt rfl ⟨rfl, rfl⟩ ⟨Nat.le_of_ble_eq_true rfl, Nat.le_of_ble_eq_true rfl⟩ (Nat.le_of_ble_eq_true rfl) rfl dX12_winter_107 (x_ki (fun r5 M4 h => ?_))
      refine x_bipush C (v1 := 10) dX12_winter_110 (by decide) ?_
      refine x_icmp_le C (tgt := 118) dX12_winter_112 (by decide) (fun hq6 => ?_) (fun hq6 => ?_)
      · replace h := x_ift hq6 h
        obtain ⟨v7, ev7⟩ : ∃ z : Int32, z = x5 + 1 := ⟨_, rfl⟩
        replace h := h v7 ev7
        refine x_iinc C 5 (v1 := v7) (L' := [(5, .int v7), (0, .ref (ga g 0)), (1, .int x1), (2, .int x2), (3, .int x3), (4, .int x4)]) rfl (by rw [ev7]; rfl) rfl (Nat.le_of_ble_eq_true rfl) dX12_winter_118 ?_
        refine x_goto C (tgt := 98) dX12_winter_121 (by decide) ?_
        refine x_loc (L' := [(0, .ref (ga g 0)), (1, .int x1), (2, .int x2), (3, .int x3), (4, .int x4), (5, .int v7)]) [1, 2, 3, 4, 5, 0] rfl ?_
        exact ih _ _ _ _ _ _  h
      · replace h := x_iff hq6 h
        refine x_bipush C (v1 := (-2)) dX12_winter_115 (by decide) ?_
        exact x_iret C dX12_winter_117 ⟨_, rfl, h⟩
set_option maxHeartbeats 4000000 in
set_option maxRecDepth 100000 in
theorem tX12_winter_33 {g : xG} (hg : x_inj (WM g))  {x : xCx}  {K6 : Int32 → Int32 → Int32 → Int32 → Int32 → xMem → Prop} {post : Int32 → xMem → Prop} (C : xOk (WM g) x cX12_winter RX12 14 (some .int) (rm_X12_winter) (pI post))  (hK6 : ∀ (x1 : Int32) (x2 : Int32) (x3 : Int32) (x4 : Int32) (x5 : Int32) (M : xMem), K6 x1 x2 x3 x4 x5 M → xW (WM g) x 14 6 [(0, .ref (ga g 0)), (1, .int x1), (2, .int x2), (3, .int x3), (4, .int x4), (5, .int x5)] [] M) (x1 : Int32) (x2 : Int32) (x3 : Int32) (x5 : Int32) (s0 : Int32) (s1 : Int32) (M : xMem)  (h : wX12_winter_33 K6 post x1 x2 x3 x5 s0 s1 M) : xW (WM g) x 14 33 [(0, .ref (ga g 0)), (1, .int x1), (2, .int x2), (3, .int x3), (5, .int x5)] [.int s0, .int s1] M := by
  unfold wX12_winter_33 at h
  refine x_ior C dX12_winter_33 ?_
  refine x_nm (fun v1 ev1 => ?_)
  replace h := h v1 ev1
  refine x_istore C (L' := [(4, .int v1), (0, .ref (ga g 0)), (1, .int x1), (2, .int x2), (3, .int x3), (5, .int x5)]) rfl (Nat.le_of_ble_eq_true rfl) dX12_winter_34 ?_
  obtain ⟨v2, ev2⟩ : ∃ z : Int32, z = x5 + 1 := ⟨_, rfl⟩
  replace h := h v2 ev2
  refine x_iinc C 5 (v1 := v2) (L' := [(5, .int v2), (4, .int v1), (0, .ref (ga g 0)), (1, .int x1), (2, .int x2), (3, .int x3)]) rfl (by rw [ev2]; rfl) rfl (Nat.le_of_ble_eq_true rfl) dX12_winter_36 ?_
  refine x_goto C (tgt := 6) dX12_winter_39 (by decide) ?_
  refine x_loc (L' := [(0, .ref (ga g 0)), (1, .int x1), (2, .int x2), (3, .int x3), (4, .int v1), (5, .int v2)]) [2, 3, 4, 5, 1, 0] rfl ?_
  exact hK6 _ _ _ _ _ _  h
set_option maxHeartbeats 4000000 in
set_option maxRecDepth 100000 in
theorem tX12_winter_6 {g : xG} (hg : x_inj (WM g))  {x : xCx}   {post : Int32 → xMem → Prop} (C : xOk (WM g) x cX12_winter RX12 14 (some .int) (rm_X12_winter) (pI post))   : ∀ (n : Nat) (x1 : Int32) (x2 : Int32) (x3 : Int32) (x4 : Int32) (x5 : Int32) (M : xMem), wX12_winter_6 post n x1 x2 x3 x4 x5 M → xW (WM g) x 14 6 [(0, .ref (ga g 0)), (1, .int x1), (2, .int x2), (3, .int x3), (4, .int x4), (5, .int x5)] [] M := by
  intro n
  induction n with
  | zero =>
    intro x1 x2 x3 x4 x5 M  h
    exact h.elim
  | succ n ih =>
    intro x1 x2 x3 x4 x5 M  h
    rw [wX12_winter_6] at h
    refine x_iload C 5 rfl dX12_winter_6 ?_
    refine x_bipush C (v1 := 10) dX12_winter_8 (by decide) ?_
    refine x_icmp_ge C (tgt := 42) dX12_winter_10 (by decide) (fun hq1 => ?_) (fun hq1 => ?_)
    · replace h := x_ift hq1 h
      refine x_iload_n C 1 rfl rfl dX12_winter_42 ?_
      refine x_i2l C dX12_winter_43 ?_
      refine x_lconst C (v1 := 0) dX12_winter_44 (by decide) ?_
      refine x_ldc2 C (v1 := 300) (wcl_X12_610) dX12_winter_45 ?_
      refine x_callS C (st := []) (As := [.long ((x1 : Int32).toInt64), .long 0, .long 300]) (tX12_lies hg _ _ _ _ _ _  h) wm_X12_222 wsm_X12_lies wz_X12 wc_X12_lies yd_X12_lies rfl ⟨rfl, rfl⟩ ⟨Nat.le_of_ble_eq_true rfl, Nat.le_of_ble_eq_true rfl⟩ (Nat.le_of_ble_eq_true rfl) rfl dX12_winter_48 (x_ki (fun r3 M2 h => ?_))
      refine x_if_eq C (tgt := 88) dX12_winter_51 (by decide) (fun hq4 => ?_) (fun hq4 => ?_)
      · replace h := x_ift hq4 h
        refine x_iconst C (v1 := (-1)) dX12_winter_88 (by decide) ?_
        exact x_iret C dX12_winter_89 ⟨_, rfl, h⟩
      · replace h := x_iff hq4 h
        refine x_iload_n C 2 rfl rfl dX12_winter_54 ?_
        refine x_iconst C (v1 := 1) dX12_winter_55 (by decide) ?_
        refine x_icmp_lt C (tgt := 88) dX12_winter_56 (by decide) (fun hq5 => ?_) (fun hq5 => ?_)
        · replace h := x_ift hq5 h
          refine x_iconst C (v1 := (-1)) dX12_winter_88 (by decide) ?_
          exact x_iret C dX12_winter_89 ⟨_, rfl, h⟩
        · replace h := x_iff hq5 h
          refine x_iload_n C 2 rfl rfl dX12_winter_59 ?_
          refine x_iload C 4 rfl dX12_winter_60 ?_
          refine x_callS C (st := [.int x2]) (As := [.int x4]) (tX12_sizeOf hg _ _ _ _  h) wm_X12_289 wsm_X12_sizeOf wz_X12 wc_X12_sizeOf yd_X12_sizeOf rfl ⟨rfl, rfl⟩ ⟨Nat.le_of_ble_eq_true rfl, Nat.le_of_ble_eq_true rfl⟩ (Nat.le_of_ble_eq_true rfl) rfl dX12_winter_62 (x_ki (fun r7 M6 h => ?_))
          refine x_icmp_ne C (tgt := 88) dX12_winter_65 (by decide) (fun hq8 => ?_) (fun hq8 => ?_)
          · replace h := x_iff hq8 h
            refine x_iconst C (v1 := (-1)) dX12_winter_88 (by decide) ?_
            exact x_iret C dX12_winter_89 ⟨_, rfl, h⟩
          · replace h := x_ift hq8 h
            refine x_iload_n C 3 rfl rfl dX12_winter_68 ?_
            refine x_i2l C dX12_winter_69 ?_
            refine x_lconst C (v1 := 0) dX12_winter_70 (by decide) ?_
            refine x_ldc2 C (v1 := 2) (wcl_X12_578) dX12_winter_71 ?_
            refine x_callS C (st := []) (As := [.long ((x3 : Int32).toInt64), .long 0, .long 2]) (tX12_lies hg _ _ _ _ _ _  h) wm_X12_222 wsm_X12_lies wz_X12 wc_X12_lies yd_X12_lies rfl ⟨rfl, rfl⟩ ⟨Nat.le_of_ble_eq_true rfl, Nat.le_of_ble_eq_true rfl⟩ (Nat.le_of_ble_eq_true rfl) rfl dX12_winter_74 (x_ki (fun r10 M9 h => ?_))
            refine x_if_eq C (tgt := 88) dX12_winter_77 (by decide) (fun hq11 => ?_) (fun hq11 => ?_)
            · replace h := x_ift hq11 h
              refine x_iconst C (v1 := (-1)) dX12_winter_88 (by decide) ?_
              exact x_iret C dX12_winter_89 ⟨_, rfl, h⟩
            · replace h := x_iff hq11 h
              refine x_iload_n C 2 rfl rfl dX12_winter_80 ?_
              refine x_aload_n C 0 rfl rfl dX12_winter_81 ?_
              refine x_get C (c := 0) (ci := 12) (k1 := 1) (v1 := .int (gi M9 0 1)) (enM_12 (c := 0) rfl) (Nat.le_of_ble_eq_true rfl) rfl inX12 (by decide) wf_X12_198 rfl dX12_winter_82 ?_
              refine x_icmp_le C (tgt := 90) dX12_winter_85 (by decide) (fun hq12 => ?_) (fun hq12 => ?_)
              · replace h := x_ift hq12 h
                refine x_aload_n C 0 rfl rfl dX12_winter_90 ?_
                refine x_iconst C (v1 := 0) dX12_winter_91 (by decide) ?_
                refine x_put C (c := 0) (ci := 12) (k1 := 1) (u1 := 0) (v1 := .int 0) (ty := .int) (enM_12 (c := 0) rfl) (Nat.le_of_ble_eq_true rfl) rfl inX12 (by decide) (stX12_1 _ _ _) tyX12 tyX12_ok nmX12 wf_X12_198 rfl rfl rfl rfl (Nat.le_of_ble_eq_true rfl) dX12_winter_92 ?_
                refine x_nmM (fun M13 eM13 => ?_)
                replace h := h M13 eM13
                refine x_iconst C (v1 := 0) dX12_winter_95 (by decide) ?_
                refine x_istore C (L' := [(5, .int 0), (0, .ref (ga g 0)), (1, .int x1), (2, .int x2), (3, .int x3), (4, .int x4)]) rfl (Nat.le_of_ble_eq_true rfl) dX12_winter_96 ?_
                refine x_loc (L' := [(0, .ref (ga g 0)), (1, .int x1), (2, .int x2), (3, .int x3), (4, .int x4), (5, .int 0)]) [1, 2, 3, 4, 5, 0] rfl ?_
                obtain ⟨n98, h⟩ := h
                exact tX12_winter_98 hg  C   _ _ _ _ _ _ _  h
              · replace h := x_iff hq12 h
                refine x_iconst C (v1 := (-1)) dX12_winter_88 (by decide) ?_
                exact x_iret C dX12_winter_89 ⟨_, rfl, h⟩
    · replace h := x_iff hq1 h
      refine x_iload C 4 rfl dX12_winter_13 ?_
      refine x_aload_n C 0 rfl rfl dX12_winter_15 ?_
      refine x_get C (c := 0) (ci := 12) (k1 := 51) (v1 := .ref (ga g 25)) (enM_12 (c := 0) rfl) (Nat.le_of_ble_eq_true rfl) rfl inX12 (by decide) wf_X12_88 rfl dX12_winter_16 ?_
      refine x_iload C 5 rfl dX12_winter_19 ?_
      obtain ⟨hi14, h⟩ := h
      refine x_zald C 2 (c := 25) (enM_24n (c := 25) (n := 10) rfl rfl) (Nat.le_of_ble_eq_true rfl) rfl hi14 dX12_winter_21 ?_
      refine x_if_eq C (tgt := 32) dX12_winter_22 (by decide) (fun hq15 => ?_) (fun hq15 => ?_)
      · replace h := x_ift hq15 h
        refine x_iconst C (v1 := 0) dX12_winter_32 (by decide) ?_
        refine x_loc (L' := [(0, .ref (ga g 0)), (1, .int x1), (2, .int x2), (3, .int x3), (5, .int x5)]) [0, 1, 2, 3, 5] rfl ?_
        exact tX12_winter_33 hg  C  ih _ _ _ _ _ _ _  h
      · replace h := x_iff hq15 h
        refine x_iconst C (v1 := 1) dX12_winter_25 (by decide) ?_
        refine x_iload C 5 rfl dX12_winter_26 ?_
        refine x_ishl C dX12_winter_28 ?_
        refine x_goto C (tgt := 33) dX12_winter_29 (by decide) ?_
        refine x_loc (L' := [(0, .ref (ga g 0)), (1, .int x1), (2, .int x2), (3, .int x3), (5, .int x5)]) [0, 1, 2, 3, 5] rfl ?_
        exact tX12_winter_33 hg  C  ih _ _ _ _ _ _ _  h
set_option maxHeartbeats 4000000 in
set_option maxRecDepth 100000 in
theorem tX12_winter {g : xG} (hg : x_inj (WM g))  (l : Launch) (a0 : Int32) (a1 : Int32) (a2 : Int32) (M : xMem) (post : Int32 → xMem → Prop)  (h : wX12_winter a0 a1 a2 M post) : xMet (WM g) l yX12_winter cX12_winter 14 (some .int) (rm_X12_winter) [.ref (ga g 0), .int a0, .int a1, .int a2] M (pI post) := by
  refine x_enter (own := RX12) (L0 := [(0, .ref (ga g 0)), (1, .int a0), (2, .int a1), (3, .int a2)]) (by decide +kernel) rfl hg (x_stM g) (Nat.le_of_ble_eq_true rfl) rfl (fun x hl C => ?_)
  unfold wX12_winter at h
  refine x_iconst C (v1 := 0) dX12_winter_0 (by decide) ?_
  refine x_istore C (L' := [(4, .int 0), (0, .ref (ga g 0)), (1, .int a0), (2, .int a1), (3, .int a2)]) rfl (Nat.le_of_ble_eq_true rfl) dX12_winter_1 ?_
  refine x_iconst C (v1 := 0) dX12_winter_3 (by decide) ?_
  refine x_istore C (L' := [(5, .int 0), (4, .int 0), (0, .ref (ga g 0)), (1, .int a0), (2, .int a1), (3, .int a2)]) rfl (Nat.le_of_ble_eq_true rfl) dX12_winter_4 ?_
  refine x_loc (L' := [(0, .ref (ga g 0)), (1, .int a0), (2, .int a1), (3, .int a2), (4, .int 0), (5, .int 0)]) [2, 3, 4, 5, 1, 0] rfl ?_
  obtain ⟨n6, h⟩ := h
  exact tX12_winter_6 hg  C   _ _ _ _ _ _ _  h
set_option maxHeartbeats 4000000 in
set_option maxRecDepth 100000 in
theorem tX12_canHave_139 {g : xG} (hg : x_inj (WM g))  {x : xCx}  {K8 : Int32 → Int32 → Int32 → Int32 → Int32 → xMem → Prop} {post : Int32 → xMem → Prop} (C : xOk (WM g) x cX12_canHave RX12 8 (some .int) (rm_X12_canHave) (pI post))  (hK8 : ∀ (x1 : Int32) (x2 : Int32) (x3 : Int32) (x4 : Int32) (x5 : Int32) (M : xMem), K8 x1 x2 x3 x4 x5 M → xW (WM g) x 8 8 [(0, .ref (ga g 0)), (1, .int x1), (2, .int x2), (3, .int x3), (4, .int x4), (5, .int x5)] [] M) (x1 : Int32) (x2 : Int32) (x3 : Int32) (x4 : Int32) (x5 : Int32) (M : xMem)  (h : wX12_canHave_139 K8 post x1 x2 x3 x4 x5 M) : xW (WM g) x 8 139 [(0, .ref (ga g 0)), (1, .int x1), (2, .int x2), (3, .int x3), (4, .int x4), (5, .int x5)] [] M := by
  unfold wX12_canHave_139 at h
  obtain ⟨v1, ev1⟩ : ∃ z : Int32, z = x5 + 1 := ⟨_, rfl⟩
  replace h := h v1 ev1
  refine x_iinc C 5 (v1 := v1) (L' := [(5, .int v1), (0, .ref (ga g 0)), (1, .int x1), (2, .int x2), (3, .int x3), (4, .int x4)]) rfl (by rw [ev1]; rfl) rfl (Nat.le_of_ble_eq_true rfl) dX12_canHave_139 ?_
  refine x_goto C (tgt := 8) dX12_canHave_142 (by decide) ?_
  refine x_loc (L' := [(0, .ref (ga g 0)), (1, .int x1), (2, .int x2), (3, .int x3), (4, .int x4), (5, .int v1)]) [1, 2, 3, 4, 5, 0] rfl ?_
  exact hK8 _ _ _ _ _ _  h
set_option maxHeartbeats 4000000 in
set_option maxRecDepth 100000 in
theorem tX12_canHave_114 {g : xG} (hg : x_inj (WM g))  {x : xCx}  {K8 : Int32 → Int32 → Int32 → Int32 → Int32 → xMem → Prop} {K34 : Int32 → Int32 → Int32 → Int32 → Int32 → Int32 → Int32 → xMem → Prop} {post : Int32 → xMem → Prop} (C : xOk (WM g) x cX12_canHave RX12 8 (some .int) (rm_X12_canHave) (pI post))  (hK8 : ∀ (x1 : Int32) (x2 : Int32) (x3 : Int32) (x4 : Int32) (x5 : Int32) (M : xMem), K8 x1 x2 x3 x4 x5 M → xW (WM g) x 8 8 [(0, .ref (ga g 0)), (1, .int x1), (2, .int x2), (3, .int x3), (4, .int x4), (5, .int x5)] [] M) (hK34 : ∀ (x1 : Int32) (x2 : Int32) (x3 : Int32) (x4 : Int32) (x5 : Int32) (x6 : Int32) (x7 : Int32) (M : xMem), K34 x1 x2 x3 x4 x5 x6 x7 M → xW (WM g) x 8 34 [(0, .ref (ga g 0)), (1, .int x1), (2, .int x2), (3, .int x3), (4, .int x4), (5, .int x5), (6, .int x6), (7, .int x7)] [] M) (x1 : Int32) (x2 : Int32) (x3 : Int32) (x4 : Int32) (x5 : Int32) (x6 : Int32) (x7 : Int32) (M : xMem)  (h : wX12_canHave_114 K8 K34 post x1 x2 x3 x4 x5 x6 x7 M) : xW (WM g) x 8 114 [(0, .ref (ga g 0)), (1, .int x1), (2, .int x2), (3, .int x3), (4, .int x4), (5, .int x5), (6, .int x6), (7, .int x7)] [] M := by
  unfold wX12_canHave_114 at h
  obtain ⟨v1, ev1⟩ : ∃ z : Int32, z = x7 + 1 := ⟨_, rfl⟩
  replace h := h v1 ev1
  refine x_iinc C 7 (v1 := v1) (L' := [(7, .int v1), (0, .ref (ga g 0)), (1, .int x1), (2, .int x2), (3, .int x3), (4, .int x4), (5, .int x5), (6, .int x6)]) rfl (by rw [ev1]; rfl) rfl (Nat.le_of_ble_eq_true rfl) dX12_canHave_114 ?_
  refine x_goto C (tgt := 34) dX12_canHave_117 (by decide) ?_
  refine x_loc (L' := [(0, .ref (ga g 0)), (1, .int x1), (2, .int x2), (3, .int x3), (4, .int x4), (5, .int x5), (6, .int x6), (7, .int v1)]) [1, 2, 3, 4, 5, 6, 7, 0] rfl ?_
  exact hK34 _ _ _ _ _ _ _ _  h
set_option maxHeartbeats 4000000 in
set_option maxRecDepth 100000 in
theorem tX12_canHave_110 {g : xG} (hg : x_inj (WM g))  {x : xCx}  {K8 : Int32 → Int32 → Int32 → Int32 → Int32 → xMem → Prop} {K34 : Int32 → Int32 → Int32 → Int32 → Int32 → Int32 → Int32 → xMem → Prop} {post : Int32 → xMem → Prop} (C : xOk (WM g) x cX12_canHave RX12 8 (some .int) (rm_X12_canHave) (pI post))  (hK8 : ∀ (x1 : Int32) (x2 : Int32) (x3 : Int32) (x4 : Int32) (x5 : Int32) (M : xMem), K8 x1 x2 x3 x4 x5 M → xW (WM g) x 8 8 [(0, .ref (ga g 0)), (1, .int x1), (2, .int x2), (3, .int x3), (4, .int x4), (5, .int x5)] [] M) (hK34 : ∀ (x1 : Int32) (x2 : Int32) (x3 : Int32) (x4 : Int32) (x5 : Int32) (x6 : Int32) (x7 : Int32) (M : xMem), K34 x1 x2 x3 x4 x5 x6 x7 M → xW (WM g) x 8 34 [(0, .ref (ga g 0)), (1, .int x1), (2, .int x2), (3, .int x3), (4, .int x4), (5, .int x5), (6, .int x6), (7, .int x7)] [] M) (x1 : Int32) (x2 : Int32) (x3 : Int32) (x4 : Int32) (x5 : Int32) (x7 : Int32) (M : xMem)  (h : wX12_canHave_110 K8 K34 post x1 x2 x3 x4 x5 x7 M) : xW (WM g) x 8 110 [(0, .ref (ga g 0)), (1, .int x1), (2, .int x2), (3, .int x3), (4, .int x4), (5, .int x5), (7, .int x7)] [] M := by
  unfold wX12_canHave_110 at h
  refine x_iload C 6 rfl dX12_canHave_110 ?_
  refine x_istore C (L' := [(6, .int x7), (0, .ref (ga g 0)), (1, .int x1), (2, .int x2), (3, .int x3), (4, .int x4), (5, .int x5), (7, .int x7)]) rfl (Nat.le_of_ble_eq_true rfl) dX12_canHave_112 ?_
  refine x_loc (L' := [(0, .ref (ga g 0)), (1, .int x1), (2, .int x2), (3, .int x3), (4, .int x4), (5, .int x5), (6, .int x7), (7, .int x7)]) [1, 2, 3, 4, 5, 6, 0, 7] rfl ?_
  exact tX12_canHave_114 hg  C  hK8 hK34 _ _ _ _ _ _ _ _  h
set_option maxHeartbeats 4000000 in
set_option maxRecDepth 100000 in
theorem tX12_canHave_34 {g : xG} (hg : x_inj (WM g))  {x : xCx}  {K8 : Int32 → Int32 → Int32 → Int32 → Int32 → xMem → Prop} {post : Int32 → xMem → Prop} (C : xOk (WM g) x cX12_canHave RX12 8 (some .int) (rm_X12_canHave) (pI post))  (hK8 : ∀ (x1 : Int32) (x2 : Int32) (x3 : Int32) (x4 : Int32) (x5 : Int32) (M : xMem), K8 x1 x2 x3 x4 x5 M → xW (WM g) x 8 8 [(0, .ref (ga g 0)), (1, .int x1), (2, .int x2), (3, .int x3), (4, .int x4), (5, .int x5)] [] M) : ∀ (n : Nat) (x1 : Int32) (x2 : Int32) (x3 : Int32) (x4 : Int32) (x5 : Int32) (x6 : Int32) (x7 : Int32) (M : xMem), wX12_canHave_34 K8 post n x1 x2 x3 x4 x5 x6 x7 M → xW (WM g) x 8 34 [(0, .ref (ga g 0)), (1, .int x1), (2, .int x2), (3, .int x3), (4, .int x4), (5, .int x5), (6, .int x6), (7, .int x7)] [] M := by
  intro n
  induction n with
  | zero =>
    intro x1 x2 x3 x4 x5 x6 x7 M  h
    exact h.elim
  | succ n ih =>
    intro x1 x2 x3 x4 x5 x6 x7 M  h
    rw [wX12_canHave_34] at h
    refine x_iload C 7 rfl dX12_canHave_34 ?_
    refine x_iload_n C 2 rfl rfl dX12_canHave_36 ?_
    refine x_icmp_ge C (tgt := 120) dX12_canHave_37 (by decide) (fun hq1 => ?_) (fun hq1 => ?_)
    · replace h := x_ift hq1 h
      refine x_iload C 6 rfl dX12_canHave_120 ?_
      refine x_iconst C (v1 := (-1)) dX12_canHave_122 (by decide) ?_
      refine x_icmp_ne C (tgt := 129) dX12_canHave_123 (by decide) (fun hq2 => ?_) (fun hq2 => ?_)
      · replace h := x_iff hq2 h
        refine x_iload_n C 3 rfl rfl dX12_canHave_129 ?_
        refine x_iconst C (v1 := 1) dX12_canHave_130 (by decide) ?_
        refine x_iload C 6 rfl dX12_canHave_131 ?_
        refine x_ishl C dX12_canHave_133 ?_
        refine x_ior C dX12_canHave_134 ?_
        refine x_nm (fun v3 ev3 => ?_)
        replace h := h v3 ev3
        refine x_istore_n C (L' := [(3, .int v3), (0, .ref (ga g 0)), (1, .int x1), (2, .int x2), (4, .int x4), (5, .int x5), (6, .int x6), (7, .int x7)]) rfl rfl (Nat.le_of_ble_eq_true rfl) dX12_canHave_135 ?_
        obtain ⟨v4, ev4⟩ : ∃ z : Int32, z = x4 + 1 := ⟨_, rfl⟩
        replace h := h v4 ev4
        refine x_iinc C 4 (v1 := v4) (L' := [(4, .int v4), (3, .int v3), (0, .ref (ga g 0)), (1, .int x1), (2, .int x2), (5, .int x5), (6, .int x6), (7, .int x7)]) rfl (by rw [ev4]; rfl) rfl (Nat.le_of_ble_eq_true rfl) dX12_canHave_136 ?_
        refine x_loc (L' := [(0, .ref (ga g 0)), (1, .int x1), (2, .int x2), (3, .int v3), (4, .int v4), (5, .int x5)]) [2, 3, 4, 1, 0, 5] rfl ?_
        exact tX12_canHave_139 hg  C  hK8 _ _ _ _ _ _  h
      · replace h := x_ift hq2 h
        refine x_goto C (tgt := 139) dX12_canHave_126 (by decide) ?_
        refine x_loc (L' := [(0, .ref (ga g 0)), (1, .int x1), (2, .int x2), (3, .int x3), (4, .int x4), (5, .int x5)]) [0, 1, 2, 3, 4, 5] rfl ?_
        exact tX12_canHave_139 hg  C  hK8 _ _ _ _ _ _  h
    · replace h := x_iff hq1 h
      refine x_iload_n C 3 rfl rfl dX12_canHave_40 ?_
      refine x_iload C 7 rfl dX12_canHave_41 ?_
      refine x_callS C (st := []) (As := [.int x3, .int x7]) (tX12_has hg _ _ _ _ _  h) wm_X12_194 wsm_X12_has wz_X12 wc_X12_has yd_X12_has rfl ⟨rfl, rfl⟩ ⟨Nat.le_of_ble_eq_true rfl, Nat.le_of_ble_eq_true rfl⟩ (Nat.le_of_ble_eq_true rfl) rfl dX12_canHave_43 (x_ki (fun r6 M5 h => ?_))
      refine x_if_ne C (tgt := 114) dX12_canHave_46 (by decide) (fun hq7 => ?_) (fun hq7 => ?_)
      · replace h := x_iff hq7 h
        exact tX12_canHave_114 hg  C  hK8 ih _ _ _ _ _ _ _ _  h
      · replace h := x_ift hq7 h
        refine x_iload C 5 rfl dX12_canHave_49 ?_
        refine x_i2l C dX12_canHave_51 ?_
        refine x_aload_n C 0 rfl rfl dX12_canHave_52 ?_
        refine x_iconst C (v1 := 2) dX12_canHave_53 (by decide) ?_
        refine x_iload C 7 rfl dX12_canHave_54 ?_
        refine x_imul C dX12_canHave_56 ?_
        refine x_callV C (st := [.long ((x5 : Int32).toInt64)]) (As := [.int (2 * x7)]) (c := 0) (ci := 12) (enM_12 (c := 0) rfl) (Nat.le_of_ble_eq_true rfl) rfl (tX12_byteAt hg _ _ _ _  h) wm_X12_612 wi_X12_byteAt wv_X12_byteAt wz_X12 wc_X12_byteAt rfl yd_X12_byteAt rfl ⟨rfl, rfl⟩ ⟨Nat.le_of_ble_eq_true rfl, Nat.le_of_ble_eq_true rfl⟩ (Nat.le_of_ble_eq_true rfl) rfl dX12_canHave_57 (x_ki (fun r9 M8 h => ?_))
        refine x_i2l C dX12_canHave_60 ?_
        refine x_aload_n C 0 rfl rfl dX12_canHave_61 ?_
        refine x_iconst C (v1 := 2) dX12_canHave_62 (by decide) ?_
        refine x_iload C 7 rfl dX12_canHave_63 ?_
        refine x_imul C dX12_canHave_65 ?_
        refine x_iconst C (v1 := 1) dX12_canHave_66 (by decide) ?_
        refine x_iadd C dX12_canHave_67 ?_
        refine x_callV C (st := [.long ((r9 : Int32).toInt64), .long ((x5 : Int32).toInt64)]) (As := [.int ((2 * x7) + 1)]) (c := 0) (ci := 12) (enM_12 (c := 0) rfl) (Nat.le_of_ble_eq_true rfl) rfl (tX12_byteAt hg _ _ _ _  h) wm_X12_612 wi_X12_byteAt wv_X12_byteAt wz_X12 wc_X12_byteAt rfl yd_X12_byteAt rfl ⟨rfl, rfl⟩ ⟨Nat.le_of_ble_eq_true rfl, Nat.le_of_ble_eq_true rfl⟩ (Nat.le_of_ble_eq_true rfl) rfl dX12_canHave_68 (x_ki (fun r11 M10 h => ?_))
        refine x_i2l C dX12_canHave_71 ?_
        refine x_callS C (st := []) (As := [.long ((x5 : Int32).toInt64), .long ((r9 : Int32).toInt64), .long ((r11 : Int32).toInt64)]) (tX12_lies hg _ _ _ _ _ _  h) wm_X12_222 wsm_X12_lies wz_X12 wc_X12_lies yd_X12_lies rfl ⟨rfl, rfl⟩ ⟨Nat.le_of_ble_eq_true rfl, Nat.le_of_ble_eq_true rfl⟩ (Nat.le_of_ble_eq_true rfl) rfl dX12_canHave_72 (x_ki (fun r13 M12 h => ?_))
        refine x_if_ne C (tgt := 81) dX12_canHave_75 (by decide) (fun hq14 => ?_) (fun hq14 => ?_)
        · replace h := x_iff hq14 h
          refine x_iload C 6 rfl dX12_canHave_81 ?_
          refine x_iconst C (v1 := (-1)) dX12_canHave_83 (by decide) ?_
          refine x_icmp_eq C (tgt := 110) dX12_canHave_84 (by decide) (fun hq15 => ?_) (fun hq15 => ?_)
          · replace h := x_ift hq15 h
            refine x_loc (L' := [(0, .ref (ga g 0)), (1, .int x1), (2, .int x2), (3, .int x3), (4, .int x4), (5, .int x5), (7, .int x7)]) [0, 1, 2, 3, 4, 5, 7] rfl ?_
            exact tX12_canHave_110 hg  C  hK8 ih _ _ _ _ _ _ _  h
          · replace h := x_iff hq15 h
            refine x_aload_n C 0 rfl rfl dX12_canHave_87 ?_
            refine x_iconst C (v1 := 2) dX12_canHave_88 (by decide) ?_
            refine x_iload C 7 rfl dX12_canHave_89 ?_
            refine x_imul C dX12_canHave_91 ?_
            refine x_iconst C (v1 := 1) dX12_canHave_92 (by decide) ?_
            refine x_iadd C dX12_canHave_93 ?_
            refine x_callV C (st := []) (As := [.int ((2 * x7) + 1)]) (c := 0) (ci := 12) (enM_12 (c := 0) rfl) (Nat.le_of_ble_eq_true rfl) rfl (tX12_byteAt hg _ _ _ _  h) wm_X12_612 wi_X12_byteAt wv_X12_byteAt wz_X12 wc_X12_byteAt rfl yd_X12_byteAt rfl ⟨rfl, rfl⟩ ⟨Nat.le_of_ble_eq_true rfl, Nat.le_of_ble_eq_true rfl⟩ (Nat.le_of_ble_eq_true rfl) rfl dX12_canHave_94 (x_ki (fun r17 M16 h => ?_))
            refine x_aload_n C 0 rfl rfl dX12_canHave_97 ?_
            refine x_iconst C (v1 := 2) dX12_canHave_98 (by decide) ?_
            refine x_iload C 6 rfl dX12_canHave_99 ?_
            refine x_imul C dX12_canHave_101 ?_
            refine x_iconst C (v1 := 1) dX12_canHave_102 (by decide) ?_
            refine x_iadd C dX12_canHave_103 ?_
            refine x_callV C (st := [.int r17]) (As := [.int ((2 * x6) + 1)]) (c := 0) (ci := 12) (enM_12 (c := 0) rfl) (Nat.le_of_ble_eq_true rfl) rfl (tX12_byteAt hg _ _ _ _  h) wm_X12_612 wi_X12_byteAt wv_X12_byteAt wz_X12 wc_X12_byteAt rfl yd_X12_byteAt rfl ⟨rfl, rfl⟩ ⟨Nat.le_of_ble_eq_true rfl, Nat.le_of_ble_eq_true rfl⟩ (Nat.le_of_ble_eq_true rfl) rfl dX12_canHave_104 (x_ki (fun r19 M18 h => ?_))
            refine x_icmp_ge C (tgt := 114) dX12_canHave_107 (by decide) (fun hq20 => ?_) (fun hq20 => ?_)
            · replace h := x_ift hq20 h
              exact tX12_canHave_114 hg  C  hK8 ih _ _ _ _ _ _ _ _  h
            · replace h := x_iff hq20 h
              refine x_loc (L' := [(0, .ref (ga g 0)), (1, .int x1), (2, .int x2), (3, .int x3), (4, .int x4), (5, .int x5), (7, .int x7)]) [0, 1, 2, 3, 4, 5, 7] rfl ?_
              exact tX12_canHave_110 hg  C  hK8 ih _ _ _ _ _ _ _  h
        · replace h := x_ift hq14 h
          refine x_goto C (tgt := 114) dX12_canHave_78 (by decide) ?_
          exact tX12_canHave_114 hg  C  hK8 ih _ _ _ _ _ _ _ _  h
set_option maxHeartbeats 4000000 in
set_option maxRecDepth 100000 in
theorem tX12_canHave_8 {g : xG} (hg : x_inj (WM g))  {x : xCx}   {post : Int32 → xMem → Prop} (C : xOk (WM g) x cX12_canHave RX12 8 (some .int) (rm_X12_canHave) (pI post))   : ∀ (n : Nat) (x1 : Int32) (x2 : Int32) (x3 : Int32) (x4 : Int32) (x5 : Int32) (M : xMem), wX12_canHave_8 post n x1 x2 x3 x4 x5 M → xW (WM g) x 8 8 [(0, .ref (ga g 0)), (1, .int x1), (2, .int x2), (3, .int x3), (4, .int x4), (5, .int x5)] [] M := by
  intro n
  induction n with
  | zero =>
    intro x1 x2 x3 x4 x5 M  h
    exact h.elim
  | succ n ih =>
    intro x1 x2 x3 x4 x5 M  h
    rw [wX12_canHave_8] at h
    refine x_iload C 5 rfl dX12_canHave_8 ?_
    refine x_bipush C (v1 := 100) dX12_canHave_10 (by decide) ?_
    refine x_icmp_ge C (tgt := 145) dX12_canHave_12 (by decide) (fun hq1 => ?_) (fun hq1 => ?_)
    · replace h := x_ift hq1 h
      refine x_iload C 4 rfl dX12_canHave_145 ?_
      exact x_iret C dX12_canHave_147 ⟨_, rfl, h⟩
    · replace h := x_iff hq1 h
      refine x_aload_n C 0 rfl rfl dX12_canHave_15 ?_
      refine x_get C (c := 0) (ci := 12) (k1 := 100) (v1 := .ref (ga g 59)) (enM_12 (c := 0) rfl) (Nat.le_of_ble_eq_true rfl) rfl inX12 (by decide) wf_X12_191 rfl dX12_canHave_16 ?_
      refine x_iload C 5 rfl dX12_canHave_19 ?_
      obtain ⟨hi2, h⟩ := h
      refine x_zald C 2 (c := 59) (enM_24n (c := 59) (n := 100) rfl rfl) (Nat.le_of_ble_eq_true rfl) rfl hi2 dX12_canHave_21 ?_
      refine x_if_eq C (tgt := 28) dX12_canHave_22 (by decide) (fun hq3 => ?_) (fun hq3 => ?_)
      · replace h := x_ift hq3 h
        refine x_iconst C (v1 := (-1)) dX12_canHave_28 (by decide) ?_
        refine x_istore C (L' := [(6, .int (-1)), (0, .ref (ga g 0)), (1, .int x1), (2, .int x2), (3, .int x3), (4, .int x4), (5, .int x5)]) rfl (Nat.le_of_ble_eq_true rfl) dX12_canHave_29 ?_
        refine x_iload_n C 2 rfl rfl dX12_canHave_31 ?_
        refine x_istore C (L' := [(7, .int x1), (6, .int (-1)), (0, .ref (ga g 0)), (1, .int x1), (2, .int x2), (3, .int x3), (4, .int x4), (5, .int x5)]) rfl (Nat.le_of_ble_eq_true rfl) dX12_canHave_32 ?_
        refine x_loc (L' := [(0, .ref (ga g 0)), (1, .int x1), (2, .int x2), (3, .int x3), (4, .int x4), (5, .int x5), (6, .int (-1)), (7, .int x1)]) [2, 3, 4, 5, 6, 7, 1, 0] rfl ?_
        obtain ⟨n34, h⟩ := h
        exact tX12_canHave_34 hg  C  ih _ _ _ _ _ _ _ _ _  h
      · replace h := x_iff hq3 h
        refine x_goto C (tgt := 139) dX12_canHave_25 (by decide) ?_
        exact tX12_canHave_139 hg  C  ih _ _ _ _ _ _  h
set_option maxHeartbeats 4000000 in
set_option maxRecDepth 100000 in
theorem tX12_canHave {g : xG} (hg : x_inj (WM g))  (l : Launch) (a0 : Int32) (a1 : Int32) (M : xMem) (post : Int32 → xMem → Prop)  (h : wX12_canHave a0 a1 M post) : xMet (WM g) l yX12_canHave cX12_canHave 8 (some .int) (rm_X12_canHave) [.ref (ga g 0), .int a0, .int a1] M (pI post) := by
  refine x_enter (own := RX12) (L0 := [(0, .ref (ga g 0)), (1, .int a0), (2, .int a1)]) (by decide +kernel) rfl hg (x_stM g) (Nat.le_of_ble_eq_true rfl) rfl (fun x hl C => ?_)
  unfold wX12_canHave at h
  refine x_iconst C (v1 := 0) dX12_canHave_0 (by decide) ?_
  refine x_istore_n C (L' := [(3, .int 0), (0, .ref (ga g 0)), (1, .int a0), (2, .int a1)]) rfl rfl (Nat.le_of_ble_eq_true rfl) dX12_canHave_1 ?_
  refine x_iconst C (v1 := 0) dX12_canHave_2 (by decide) ?_
  refine x_istore C (L' := [(4, .int 0), (3, .int 0), (0, .ref (ga g 0)), (1, .int a0), (2, .int a1)]) rfl (Nat.le_of_ble_eq_true rfl) dX12_canHave_3 ?_
  refine x_iconst C (v1 := 0) dX12_canHave_5 (by decide) ?_
  refine x_istore C (L' := [(5, .int 0), (4, .int 0), (3, .int 0), (0, .ref (ga g 0)), (1, .int a0), (2, .int a1)]) rfl (Nat.le_of_ble_eq_true rfl) dX12_canHave_6 ?_
  refine x_loc (L' := [(0, .ref (ga g 0)), (1, .int a0), (2, .int a1), (3, .int 0), (4, .int 0), (5, .int 0)]) [3, 4, 5, 2, 1, 0] rfl ?_
  obtain ⟨n8, h⟩ := h
  exact tX12_canHave_8 hg  C   _ _ _ _ _ _ _  h
set_option maxHeartbeats 4000000 in
set_option maxRecDepth 100000 in
theorem tX12_nightFor_76 {g : xG} (hg : x_inj (WM g))  {x : xCx}  {K16 : Int32 → Int32 → Int32 → Int32 → xMem → Prop} {post : Int32 → xMem → Prop} (C : xOk (WM g) x cX12_nightFor RX12 5 (some .int) (rm_X12_nightFor) (pI post))  (hK16 : ∀ (x1 : Int32) (x2 : Int32) (x3 : Int32) (x4 : Int32) (M : xMem), K16 x1 x2 x3 x4 M → xW (WM g) x 5 16 [(0, .ref (ga g 0)), (1, .int x1), (2, .int x2), (3, .int x3), (4, .int x4)] [] M) (x1 : Int32) (x2 : Int32) (x3 : Int32) (x4 : Int32) (M : xMem)  (h : wX12_nightFor_76 K16 post x1 x2 x3 x4 M) : xW (WM g) x 5 76 [(0, .ref (ga g 0)), (1, .int x1), (2, .int x2), (3, .int x3), (4, .int x4)] [] M := by
  unfold wX12_nightFor_76 at h
  obtain ⟨v1, ev1⟩ : ∃ z : Int32, z = x4 + 1 := ⟨_, rfl⟩
  replace h := h v1 ev1
  refine x_iinc C 4 (v1 := v1) (L' := [(4, .int v1), (0, .ref (ga g 0)), (1, .int x1), (2, .int x2), (3, .int x3)]) rfl (by rw [ev1]; rfl) rfl (Nat.le_of_ble_eq_true rfl) dX12_nightFor_76 ?_
  refine x_goto C (tgt := 16) dX12_nightFor_79 (by decide) ?_
  refine x_loc (L' := [(0, .ref (ga g 0)), (1, .int x1), (2, .int x2), (3, .int x3), (4, .int v1)]) [1, 2, 3, 4, 0] rfl ?_
  exact hK16 _ _ _ _ _  h
set_option maxHeartbeats 4000000 in
set_option maxRecDepth 100000 in
theorem tX12_nightFor_16 {g : xG} (hg : x_inj (WM g))  {x : xCx}   {post : Int32 → xMem → Prop} (C : xOk (WM g) x cX12_nightFor RX12 5 (some .int) (rm_X12_nightFor) (pI post))   : ∀ (n : Nat) (x1 : Int32) (x2 : Int32) (x3 : Int32) (x4 : Int32) (M : xMem), wX12_nightFor_16 post n x1 x2 x3 x4 M → xW (WM g) x 5 16 [(0, .ref (ga g 0)), (1, .int x1), (2, .int x2), (3, .int x3), (4, .int x4)] [] M := by
  intro n
  induction n with
  | zero =>
    intro x1 x2 x3 x4 M  h
    exact h.elim
  | succ n ih =>
    intro x1 x2 x3 x4 M  h
    rw [wX12_nightFor_16] at h
    refine x_iload C 4 rfl dX12_nightFor_16 ?_
    refine x_aload_n C 0 rfl rfl dX12_nightFor_18 ?_
    refine x_iconst C (v1 := 2) dX12_nightFor_19 (by decide) ?_
    refine x_iload_n C 1 rfl rfl dX12_nightFor_20 ?_
    refine x_imul C dX12_nightFor_21 ?_
    refine x_iconst C (v1 := 1) dX12_nightFor_22 (by decide) ?_
    refine x_iadd C dX12_nightFor_23 ?_
    refine x_callV C (st := [.int x4]) (As := [.int ((2 * x1) + 1)]) (c := 0) (ci := 12) (enM_12 (c := 0) rfl) (Nat.le_of_ble_eq_true rfl) rfl (tX12_byteAt hg _ _ _ _  h) wm_X12_612 wi_X12_byteAt wv_X12_byteAt wz_X12 wc_X12_byteAt rfl yd_X12_byteAt rfl ⟨rfl, rfl⟩ ⟨Nat.le_of_ble_eq_true rfl, Nat.le_of_ble_eq_true rfl⟩ (Nat.le_of_ble_eq_true rfl) rfl dX12_nightFor_24 (x_ki (fun r2 M1 h => ?_))
    refine x_icmp_gt C (tgt := 82) dX12_nightFor_27 (by decide) (fun hq3 => ?_) (fun hq3 => ?_)
    · replace h := x_ift hq3 h
      refine x_bipush C (v1 := 100) dX12_nightFor_82 (by decide) ?_
      exact x_iret C dX12_nightFor_84 ⟨_, rfl, h⟩
    · replace h := x_iff hq3 h
      refine x_aload_n C 0 rfl rfl dX12_nightFor_30 ?_
      refine x_get C (c := 0) (ci := 12) (k1 := 100) (v1 := .ref (ga g 59)) (enM_12 (c := 0) rfl) (Nat.le_of_ble_eq_true rfl) rfl inX12 (by decide) wf_X12_191 rfl dX12_nightFor_31 ?_
      refine x_iload C 4 rfl dX12_nightFor_34 ?_
      obtain ⟨hi4, h⟩ := h
      refine x_zald C 2 (c := 59) (enM_24n (c := 59) (n := 100) rfl rfl) (Nat.le_of_ble_eq_true rfl) rfl hi4 dX12_nightFor_36 ?_
      refine x_if_eq C (tgt := 43) dX12_nightFor_37 (by decide) (fun hq5 => ?_) (fun hq5 => ?_)
      · replace h := x_ift hq5 h
        refine x_aload_n C 0 rfl rfl dX12_nightFor_43 ?_
        refine x_get C (c := 0) (ci := 12) (k1 := 100) (v1 := .ref (ga g 59)) (enM_12 (c := 0) rfl) (Nat.le_of_ble_eq_true rfl) rfl inX12 (by decide) wf_X12_191 rfl dX12_nightFor_44 ?_
        refine x_iload C 4 rfl dX12_nightFor_47 ?_
        refine x_iconst C (v1 := 1) dX12_nightFor_49 (by decide) ?_
        obtain ⟨hi6, h⟩ := h
        refine x_zast C 2 (c := 59) (enM_24n (c := 59) (n := 100) rfl rfl) (Nat.le_of_ble_eq_true rfl) rfl hi6 dX12_nightFor_50 ?_
        refine x_nmM (fun M7 eM7 => ?_)
        replace h := h M7 eM7
        refine x_aload_n C 0 rfl rfl dX12_nightFor_51 ?_
        refine x_iload_n C 1 rfl rfl dX12_nightFor_52 ?_
        refine x_iconst C (v1 := 1) dX12_nightFor_53 (by decide) ?_
        refine x_iadd C dX12_nightFor_54 ?_
        refine x_iload_n C 2 rfl rfl dX12_nightFor_55 ?_
        refine x_callV C (st := []) (As := [.int (x1 + 1), .int x2]) (c := 0) (ci := 12) (enM_12 (c := 0) rfl) (Nat.le_of_ble_eq_true rfl) rfl (tX12_canHave hg _ _ _ _ _  h) wm_X12_615 wi_X12_canHave wv_X12_canHave wz_X12 wc_X12_canHave rfl yd_X12_canHave rfl ⟨rfl, rfl⟩ ⟨Nat.le_of_ble_eq_true rfl, Nat.le_of_ble_eq_true rfl⟩ (Nat.le_of_ble_eq_true rfl) rfl dX12_nightFor_56 (x_ki (fun r9 M8 h => ?_))
        refine x_iconst C (v1 := 1) dX12_nightFor_59 (by decide) ?_
        refine x_iadd C dX12_nightFor_60 ?_
        refine x_iload_n C 3 rfl rfl dX12_nightFor_61 ?_
        refine x_icmp_ne C (tgt := 68) dX12_nightFor_62 (by decide) (fun hq10 => ?_) (fun hq10 => ?_)
        · replace h := x_iff hq10 h
          refine x_aload_n C 0 rfl rfl dX12_nightFor_68 ?_
          refine x_get C (c := 0) (ci := 12) (k1 := 100) (v1 := .ref (ga g 59)) (enM_12 (c := 0) rfl) (Nat.le_of_ble_eq_true rfl) rfl inX12 (by decide) wf_X12_191 rfl dX12_nightFor_69 ?_
          refine x_iload C 4 rfl dX12_nightFor_72 ?_
          refine x_iconst C (v1 := 0) dX12_nightFor_74 (by decide) ?_
          obtain ⟨hi11, h⟩ := h
          refine x_zast C 2 (c := 59) (enM_24n (c := 59) (n := 100) rfl rfl) (Nat.le_of_ble_eq_true rfl) rfl hi11 dX12_nightFor_75 ?_
          refine x_nmM (fun M12 eM12 => ?_)
          replace h := h M12 eM12
          exact tX12_nightFor_76 hg  C  ih _ _ _ _ _  h
        · replace h := x_ift hq10 h
          refine x_iload C 4 rfl dX12_nightFor_65 ?_
          exact x_iret C dX12_nightFor_67 ⟨_, rfl, h⟩
      · replace h := x_iff hq5 h
        refine x_goto C (tgt := 76) dX12_nightFor_40 (by decide) ?_
        exact tX12_nightFor_76 hg  C  ih _ _ _ _ _  h
set_option maxHeartbeats 4000000 in
set_option maxRecDepth 100000 in
theorem tX12_nightFor {g : xG} (hg : x_inj (WM g))  (l : Launch) (a0 : Int32) (a1 : Int32) (M : xMem) (post : Int32 → xMem → Prop)  (h : wX12_nightFor a0 a1 M post) : xMet (WM g) l yX12_nightFor cX12_nightFor 5 (some .int) (rm_X12_nightFor) [.ref (ga g 0), .int a0, .int a1] M (pI post) := by
  refine x_enter (own := RX12) (L0 := [(0, .ref (ga g 0)), (1, .int a0), (2, .int a1)]) (by decide +kernel) rfl hg (x_stM g) (Nat.le_of_ble_eq_true rfl) rfl (fun x hl C => ?_)
  unfold wX12_nightFor at h
  refine x_aload_n C 0 rfl rfl dX12_nightFor_0 ?_
  refine x_iload_n C 1 rfl rfl dX12_nightFor_1 ?_
  refine x_iload_n C 2 rfl rfl dX12_nightFor_2 ?_
  refine x_callV C (st := []) (As := [.int a0, .int a1]) (c := 0) (ci := 12) (enM_12 (c := 0) rfl) (Nat.le_of_ble_eq_true rfl) rfl (tX12_canHave hg _ _ _ _ _  h) wm_X12_615 wi_X12_canHave wv_X12_canHave wz_X12 wc_X12_canHave rfl yd_X12_canHave rfl ⟨rfl, rfl⟩ ⟨Nat.le_of_ble_eq_true rfl, Nat.le_of_ble_eq_true rfl⟩ (Nat.le_of_ble_eq_true rfl) rfl dX12_nightFor_3 (x_ki (fun r2 M1 h => ?_))
  refine x_istore_n C (L' := [(3, .int r2), (0, .ref (ga g 0)), (1, .int a0), (2, .int a1)]) rfl rfl (Nat.le_of_ble_eq_true rfl) dX12_nightFor_6 ?_
  refine x_aload_n C 1 rfl rfl dX12_nightFor_7 ?_
  refine x_iconst C (v1 := 2) dX12_nightFor_8 (by decide) ?_
  refine x_iload_n C 2 rfl rfl dX12_nightFor_9 ?_
  refine x_imul C dX12_nightFor_10 ?_
  refine x_callV C (st := []) (As := [.int (2 * a0)]) (c := 0) (ci := 12) (enM_12 (c := 0) rfl) (Nat.le_of_ble_eq_true rfl) rfl (tX12_byteAt hg _ _ _ _  h) wm_X12_612 wi_X12_byteAt wv_X12_byteAt wz_X12 wc_X12_byteAt rfl yd_X12_byteAt rfl ⟨rfl, rfl⟩ ⟨Nat.le_of_ble_eq_true rfl, Nat.le_of_ble_eq_true rfl⟩ (Nat.le_of_ble_eq_true rfl) rfl dX12_nightFor_11 (x_ki (fun r4 M3 h => ?_))
  refine x_istore C (L' := [(4, .int r4), (3, .int r2), (0, .ref (ga g 0)), (1, .int a0), (2, .int a1)]) rfl (Nat.le_of_ble_eq_true rfl) dX12_nightFor_14 ?_
  refine x_loc (L' := [(0, .ref (ga g 0)), (1, .int a0), (2, .int a1), (3, .int r2), (4, .int r4)]) [2, 3, 4, 1, 0] rfl ?_
  obtain ⟨n16, h⟩ := h
  exact tX12_nightFor_16 hg  C   _ _ _ _ _ _  h
set_option maxHeartbeats 4000000 in
set_option maxRecDepth 100000 in
theorem tX12_lent_140 {g : xG} (hg : x_inj (WM g))  {x : xCx}   {post : Int32 → xMem → Prop} (C : xOk (WM g) x cX12_lent RX12 5 (some .int) (rm_X12_lent) (pI post))   : ∀ (n : Nat) (x1 : Int32) (x2 : Int32) (x3 : Int32) (x4 : Int32) (M : xMem), wX12_lent_140 post n x1 x2 x3 x4 M → xW (WM g) x 5 140 [(0, .ref (ga g 0)), (1, .int x1), (2, .int x2), (3, .int x3), (4, .int x4)] [] M := by
  intro n
  induction n with
  | zero =>
    intro x1 x2 x3 x4 M  h
    exact h.elim
  | succ n ih =>
    intro x1 x2 x3 x4 M  h
    rw [wX12_lent_140] at h
    refine x_iload C 4 rfl dX12_lent_140 ?_
    refine x_iload_n C 2 rfl rfl dX12_lent_142 ?_
    refine x_icmp_gt C (tgt := 160) dX12_lent_143 (by decide) (fun hq1 => ?_) (fun hq1 => ?_)
    · replace h := x_ift hq1 h
      refine x_iload_n C 3 rfl rfl dX12_lent_160 ?_
      exact x_iret C dX12_lent_161 ⟨_, rfl, h⟩
    · replace h := x_iff hq1 h
      refine x_aload_n C 0 rfl rfl dX12_lent_146 ?_
      refine x_iload C 4 rfl dX12_lent_147 ?_
      refine x_iload_n C 1 rfl rfl dX12_lent_149 ?_
      refine x_callV C (st := []) (As := [.int x4, .int x1]) (c := 0) (ci := 12) (enM_12 (c := 0) rfl) (Nat.le_of_ble_eq_true rfl) rfl (tX12_nightFor hg _ _ _ _ _  h) wm_X12_620 wi_X12_nightFor wv_X12_nightFor wz_X12 wc_X12_nightFor rfl yd_X12_nightFor rfl ⟨rfl, rfl⟩ ⟨Nat.le_of_ble_eq_true rfl, Nat.le_of_ble_eq_true rfl⟩ (Nat.le_of_ble_eq_true rfl) rfl dX12_lent_150 (x_ki (fun r3 M2 h => ?_))
      refine x_istore_n C (L' := [(3, .int r3), (0, .ref (ga g 0)), (1, .int x1), (2, .int x2), (4, .int x4)]) rfl rfl (Nat.le_of_ble_eq_true rfl) dX12_lent_153 ?_
      obtain ⟨v4, ev4⟩ : ∃ z : Int32, z = x4 + 1 := ⟨_, rfl⟩
      replace h := h v4 ev4
      refine x_iinc C 4 (v1 := v4) (L' := [(4, .int v4), (3, .int r3), (0, .ref (ga g 0)), (1, .int x1), (2, .int x2)]) rfl (by rw [ev4]; rfl) rfl (Nat.le_of_ble_eq_true rfl) dX12_lent_154 ?_
      refine x_goto C (tgt := 140) dX12_lent_157 (by decide) ?_
      refine x_loc (L' := [(0, .ref (ga g 0)), (1, .int x1), (2, .int x2), (3, .int r3), (4, .int v4)]) [2, 3, 4, 1, 0] rfl ?_
      exact ih _ _ _ _ _  h
set_option maxHeartbeats 4000000 in
set_option maxRecDepth 100000 in
theorem tX12_lent_102 {g : xG} (hg : x_inj (WM g))  {x : xCx}   {post : Int32 → xMem → Prop} (C : xOk (WM g) x cX12_lent RX12 5 (some .int) (rm_X12_lent) (pI post))   : ∀ (n : Nat) (x1 : Int32) (x2 : Int32) (x3 : Int32) (M : xMem), wX12_lent_102 post n x1 x2 x3 M → xW (WM g) x 5 102 [(0, .ref (ga g 0)), (1, .int x1), (2, .int x2), (3, .int x3)] [] M := by
  intro n
  induction n with
  | zero =>
    intro x1 x2 x3 M  h
    exact h.elim
  | succ n ih =>
    intro x1 x2 x3 M  h
    rw [wX12_lent_102] at h
    refine x_iload_n C 3 rfl rfl dX12_lent_102 ?_
    refine x_bipush C (v1 := 100) dX12_lent_103 (by decide) ?_
    refine x_icmp_ge C (tgt := 121) dX12_lent_105 (by decide) (fun hq1 => ?_) (fun hq1 => ?_)
    · replace h := x_ift hq1 h
      refine x_iload_n C 2 rfl rfl dX12_lent_121 ?_
      refine x_bipush C (v1 := 20) dX12_lent_122 (by decide) ?_
      refine x_icmp_ne C (tgt := 134) dX12_lent_124 (by decide) (fun hq2 => ?_) (fun hq2 => ?_)
      · replace h := x_iff hq2 h
        refine x_bipush C (v1 := 100) dX12_lent_134 (by decide) ?_
        refine x_istore_n C (L' := [(3, .int 100), (0, .ref (ga g 0)), (1, .int x1), (2, .int x2)]) rfl rfl (Nat.le_of_ble_eq_true rfl) dX12_lent_136 ?_
        refine x_iconst C (v1 := 0) dX12_lent_137 (by decide) ?_
        refine x_istore C (L' := [(4, .int 0), (3, .int 100), (0, .ref (ga g 0)), (1, .int x1), (2, .int x2)]) rfl (Nat.le_of_ble_eq_true rfl) dX12_lent_138 ?_
        refine x_loc (L' := [(0, .ref (ga g 0)), (1, .int x1), (2, .int x2), (3, .int 100), (4, .int 0)]) [2, 3, 4, 1, 0] rfl ?_
        obtain ⟨n140, h⟩ := h
        exact tX12_lent_140 hg  C   _ _ _ _ _ _  h
      · replace h := x_ift hq2 h
        refine x_aload_n C 0 rfl rfl dX12_lent_127 ?_
        refine x_iconst C (v1 := 0) dX12_lent_128 (by decide) ?_
        refine x_iload_n C 1 rfl rfl dX12_lent_129 ?_
        refine x_callV C (st := []) (As := [.int 0, .int x1]) (c := 0) (ci := 12) (enM_12 (c := 0) rfl) (Nat.le_of_ble_eq_true rfl) rfl (tX12_canHave hg _ _ _ _ _  h) wm_X12_615 wi_X12_canHave wv_X12_canHave wz_X12 wc_X12_canHave rfl yd_X12_canHave rfl ⟨rfl, rfl⟩ ⟨Nat.le_of_ble_eq_true rfl, Nat.le_of_ble_eq_true rfl⟩ (Nat.le_of_ble_eq_true rfl) rfl dX12_lent_130 (x_ki (fun r4 M3 h => ?_))
        exact x_iret C dX12_lent_133 ⟨_, rfl, h⟩
    · replace h := x_iff hq1 h
      refine x_aload_n C 0 rfl rfl dX12_lent_108 ?_
      refine x_get C (c := 0) (ci := 12) (k1 := 100) (v1 := .ref (ga g 59)) (enM_12 (c := 0) rfl) (Nat.le_of_ble_eq_true rfl) rfl inX12 (by decide) wf_X12_191 rfl dX12_lent_109 ?_
      refine x_iload_n C 3 rfl rfl dX12_lent_112 ?_
      refine x_iconst C (v1 := 0) dX12_lent_113 (by decide) ?_
      obtain ⟨hi5, h⟩ := h
      refine x_zast C 2 (c := 59) (enM_24n (c := 59) (n := 100) rfl rfl) (Nat.le_of_ble_eq_true rfl) rfl hi5 dX12_lent_114 ?_
      refine x_nmM (fun M6 eM6 => ?_)
      replace h := h M6 eM6
      obtain ⟨v7, ev7⟩ : ∃ z : Int32, z = x3 + 1 := ⟨_, rfl⟩
      replace h := h v7 ev7
      refine x_iinc C 3 (v1 := v7) (L' := [(3, .int v7), (0, .ref (ga g 0)), (1, .int x1), (2, .int x2)]) rfl (by rw [ev7]; rfl) rfl (Nat.le_of_ble_eq_true rfl) dX12_lent_115 ?_
      refine x_goto C (tgt := 102) dX12_lent_118 (by decide) ?_
      refine x_loc (L' := [(0, .ref (ga g 0)), (1, .int x1), (2, .int x2), (3, .int v7)]) [1, 2, 3, 0] rfl ?_
      exact ih _ _ _ _  h
set_option maxHeartbeats 4000000 in
set_option maxRecDepth 100000 in
theorem tX12_lent_100 {g : xG} (hg : x_inj (WM g))  {x : xCx}   {post : Int32 → xMem → Prop} (C : xOk (WM g) x cX12_lent RX12 5 (some .int) (rm_X12_lent) (pI post))   (x1 : Int32) (x2 : Int32) (M : xMem)  (h : wX12_lent_100 post x1 x2 M) : xW (WM g) x 5 100 [(0, .ref (ga g 0)), (1, .int x1), (2, .int x2)] [] M := by
  unfold wX12_lent_100 at h
  refine x_iconst C (v1 := 0) dX12_lent_100 (by decide) ?_
  refine x_istore_n C (L' := [(3, .int 0), (0, .ref (ga g 0)), (1, .int x1), (2, .int x2)]) rfl rfl (Nat.le_of_ble_eq_true rfl) dX12_lent_101 ?_
  refine x_loc (L' := [(0, .ref (ga g 0)), (1, .int x1), (2, .int x2), (3, .int 0)]) [1, 2, 3, 0] rfl ?_
  obtain ⟨n102, h⟩ := h
  exact tX12_lent_102 hg  C   _ _ _ _ _  h
set_option maxHeartbeats 4000000 in
set_option maxRecDepth 100000 in
theorem tX12_lent_31 {g : xG} (hg : x_inj (WM g))  {x : xCx}   {post : Int32 → xMem → Prop} (C : xOk (WM g) x cX12_lent RX12 5 (some .int) (rm_X12_lent) (pI post))   : ∀ (n : Nat) (x1 : Int32) (x2 : Int32) (x3 : Int32) (M : xMem), wX12_lent_31 post n x1 x2 x3 M → xW (WM g) x 5 31 [(0, .ref (ga g 0)), (1, .int x1), (2, .int x2), (3, .int x3)] [] M := by
  intro n
  induction n with
  | zero =>
    intro x1 x2 x3 M  h
    exact h.elim
  | succ n ih =>
    intro x1 x2 x3 M  h
    rw [wX12_lent_31] at h
    refine x_iload_n C 3 rfl rfl dX12_lent_31 ?_
    refine x_iload_n C 1 rfl rfl dX12_lent_32 ?_
    refine x_icmp_ge C (tgt := 78) dX12_lent_33 (by decide) (fun hq1 => ?_) (fun hq1 => ?_)
    · replace h := x_ift hq1 h
      refine x_iload_n C 2 rfl rfl dX12_lent_78 ?_
      refine x_bipush C (v1 := 20) dX12_lent_79 (by decide) ?_
      refine x_icmp_eq C (tgt := 100) dX12_lent_81 (by decide) (fun hq2 => ?_) (fun hq2 => ?_)
      · replace h := x_ift hq2 h
        refine x_loc (L' := [(0, .ref (ga g 0)), (1, .int x1), (2, .int x2)]) [0, 1, 2] rfl ?_
        exact tX12_lent_100 hg  C   _ _ _  h
      · replace h := x_iff hq2 h
        refine x_iload_n C 2 rfl rfl dX12_lent_84 ?_
        refine x_i2l C dX12_lent_85 ?_
        refine x_lconst C (v1 := 0) dX12_lent_86 (by decide) ?_
        refine x_iload_n C 1 rfl rfl dX12_lent_87 ?_
        refine x_iconst C (v1 := 1) dX12_lent_88 (by decide) ?_
        refine x_isub C dX12_lent_89 ?_
        refine x_i2l C dX12_lent_90 ?_
        refine x_callS C (st := []) (As := [.long ((x2 : Int32).toInt64), .long 0, .long ((x1 - 1 : Int32).toInt64)]) (tX12_lies hg _ _ _ _ _ _  h) wm_X12_222 wsm_X12_lies wz_X12 wc_X12_lies yd_X12_lies rfl ⟨rfl, rfl⟩ ⟨Nat.le_of_ble_eq_true rfl, Nat.le_of_ble_eq_true rfl⟩ (Nat.le_of_ble_eq_true rfl) rfl dX12_lent_91 (x_ki (fun r4 M3 h => ?_))
        refine x_if_ne C (tgt := 100) dX12_lent_94 (by decide) (fun hq5 => ?_) (fun hq5 => ?_)
        · replace h := x_iff hq5 h
          refine x_loc (L' := [(0, .ref (ga g 0)), (1, .int x1), (2, .int x2)]) [0, 1, 2] rfl ?_
          exact tX12_lent_100 hg  C   _ _ _  h
        · replace h := x_ift hq5 h
          refine x_bipush C (v1 := (-4)) dX12_lent_97 (by decide) ?_
          exact x_iret C dX12_lent_99 ⟨_, rfl, h⟩
    · replace h := x_iff hq1 h
      refine x_aload_n C 0 rfl rfl dX12_lent_36 ?_
      refine x_iconst C (v1 := 2) dX12_lent_37 (by decide) ?_
      refine x_iload_n C 3 rfl rfl dX12_lent_38 ?_
      refine x_imul C dX12_lent_39 ?_
      refine x_iconst C (v1 := 1) dX12_lent_40 (by decide) ?_
      refine x_iadd C dX12_lent_41 ?_
      refine x_callV C (st := []) (As := [.int ((2 * x3) + 1)]) (c := 0) (ci := 12) (enM_12 (c := 0) rfl) (Nat.le_of_ble_eq_true rfl) rfl (tX12_byteAt hg _ _ _ _  h) wm_X12_612 wi_X12_byteAt wv_X12_byteAt wz_X12 wc_X12_byteAt rfl yd_X12_byteAt rfl ⟨rfl, rfl⟩ ⟨Nat.le_of_ble_eq_true rfl, Nat.le_of_ble_eq_true rfl⟩ (Nat.le_of_ble_eq_true rfl) rfl dX12_lent_42 (x_ki (fun r7 M6 h => ?_))
      refine x_bipush C (v1 := 100) dX12_lent_45 (by decide) ?_
      refine x_icmp_ge C (tgt := 69) dX12_lent_47 (by decide) (fun hq8 => ?_) (fun hq8 => ?_)
      · replace h := x_ift hq8 h
        refine x_bipush C (v1 := (-2)) dX12_lent_69 (by decide) ?_
        exact x_iret C dX12_lent_71 ⟨_, rfl, h⟩
      · replace h := x_iff hq8 h
        refine x_aload_n C 0 rfl rfl dX12_lent_50 ?_
        refine x_iconst C (v1 := 2) dX12_lent_51 (by decide) ?_
        refine x_iload_n C 3 rfl rfl dX12_lent_52 ?_
        refine x_imul C dX12_lent_53 ?_
        refine x_callV C (st := []) (As := [.int (2 * x3)]) (c := 0) (ci := 12) (enM_12 (c := 0) rfl) (Nat.le_of_ble_eq_true rfl) rfl (tX12_byteAt hg _ _ _ _  h) wm_X12_612 wi_X12_byteAt wv_X12_byteAt wz_X12 wc_X12_byteAt rfl yd_X12_byteAt rfl ⟨rfl, rfl⟩ ⟨Nat.le_of_ble_eq_true rfl, Nat.le_of_ble_eq_true rfl⟩ (Nat.le_of_ble_eq_true rfl) rfl dX12_lent_54 (x_ki (fun r10 M9 h => ?_))
        refine x_aload_n C 0 rfl rfl dX12_lent_57 ?_
        refine x_iconst C (v1 := 2) dX12_lent_58 (by decide) ?_
        refine x_iload_n C 3 rfl rfl dX12_lent_59 ?_
        refine x_imul C dX12_lent_60 ?_
        refine x_iconst C (v1 := 1) dX12_lent_61 (by decide) ?_
        refine x_iadd C dX12_lent_62 ?_
        refine x_callV C (st := [.int r10]) (As := [.int ((2 * x3) + 1)]) (c := 0) (ci := 12) (enM_12 (c := 0) rfl) (Nat.le_of_ble_eq_true rfl) rfl (tX12_byteAt hg _ _ _ _  h) wm_X12_612 wi_X12_byteAt wv_X12_byteAt wz_X12 wc_X12_byteAt rfl yd_X12_byteAt rfl ⟨rfl, rfl⟩ ⟨Nat.le_of_ble_eq_true rfl, Nat.le_of_ble_eq_true rfl⟩ (Nat.le_of_ble_eq_true rfl) rfl dX12_lent_63 (x_ki (fun r12 M11 h => ?_))
        refine x_icmp_le C (tgt := 72) dX12_lent_66 (by decide) (fun hq13 => ?_) (fun hq13 => ?_)
        · replace h := x_ift hq13 h
          obtain ⟨v14, ev14⟩ : ∃ z : Int32, z = x3 + 1 := ⟨_, rfl⟩
          replace h := h v14 ev14
          refine x_iinc C 3 (v1 := v14) (L' := [(3, .int v14), (0, .ref (ga g 0)), (1, .int x1), (2, .int x2)]) rfl (by rw [ev14]; rfl) rfl (Nat.le_of_ble_eq_true rfl) dX12_lent_72 ?_
          refine x_goto C (tgt := 31) dX12_lent_75 (by decide) ?_
          refine x_loc (L' := [(0, .ref (ga g 0)), (1, .int x1), (2, .int x2), (3, .int v14)]) [1, 2, 3, 0] rfl ?_
          exact ih _ _ _ _  h
        · replace h := x_iff hq13 h
          refine x_bipush C (v1 := (-2)) dX12_lent_69 (by decide) ?_
          exact x_iret C dX12_lent_71 ⟨_, rfl, h⟩
set_option maxHeartbeats 4000000 in
set_option maxRecDepth 100000 in
theorem tX12_lent {g : xG} (hg : x_inj (WM g))  (l : Launch) (a0 : Int32) (a1 : Int32) (M : xMem) (post : Int32 → xMem → Prop)  (h : wX12_lent a0 a1 M post) : xMet (WM g) l yX12_lent cX12_lent 5 (some .int) (rm_X12_lent) [.ref (ga g 0), .int a0, .int a1] M (pI post) := by
  refine x_enter (own := RX12) (L0 := [(0, .ref (ga g 0)), (1, .int a0), (2, .int a1)]) (by decide +kernel) rfl hg (x_stM g) (Nat.le_of_ble_eq_true rfl) rfl (fun x hl C => ?_)
  unfold wX12_lent at h
  refine x_iload_n C 1 rfl rfl dX12_lent_0 ?_
  refine x_i2l C dX12_lent_1 ?_
  refine x_lconst C (v1 := 1) dX12_lent_2 (by decide) ?_
  refine x_ldc2 C (v1 := 8) (wcl_X12_618) dX12_lent_3 ?_
  refine x_callS C (st := []) (As := [.long ((a0 : Int32).toInt64), .long 1, .long 8]) (tX12_lies hg _ _ _ _ _ _  h) wm_X12_222 wsm_X12_lies wz_X12 wc_X12_lies yd_X12_lies rfl ⟨rfl, rfl⟩ ⟨Nat.le_of_ble_eq_true rfl, Nat.le_of_ble_eq_true rfl⟩ (Nat.le_of_ble_eq_true rfl) rfl dX12_lent_6 (x_ki (fun r2 M1 h => ?_))
  refine x_if_eq C (tgt := 22) dX12_lent_9 (by decide) (fun hq3 => ?_) (fun hq3 => ?_)
  · replace h := x_ift hq3 h
    refine x_iconst C (v1 := (-1)) dX12_lent_22 (by decide) ?_
    exact x_iret C dX12_lent_23 ⟨_, rfl, h⟩
  · replace h := x_iff hq3 h
    refine x_iconst C (v1 := 2) dX12_lent_12 (by decide) ?_
    refine x_iload_n C 1 rfl rfl dX12_lent_13 ?_
    refine x_imul C dX12_lent_14 ?_
    refine x_aload_n C 0 rfl rfl dX12_lent_15 ?_
    refine x_get C (c := 0) (ci := 12) (k1 := 1) (v1 := .int (gi M1 0 1)) (enM_12 (c := 0) rfl) (Nat.le_of_ble_eq_true rfl) rfl inX12 (by decide) wf_X12_198 rfl dX12_lent_16 ?_
    refine x_icmp_le C (tgt := 24) dX12_lent_19 (by decide) (fun hq4 => ?_) (fun hq4 => ?_)
    · replace h := x_ift hq4 h
      refine x_aload_n C 0 rfl rfl dX12_lent_24 ?_
      refine x_iconst C (v1 := 0) dX12_lent_25 (by decide) ?_
      refine x_put C (c := 0) (ci := 12) (k1 := 1) (u1 := 0) (v1 := .int 0) (ty := .int) (enM_12 (c := 0) rfl) (Nat.le_of_ble_eq_true rfl) rfl inX12 (by decide) (stX12_1 _ _ _) tyX12 tyX12_ok nmX12 wf_X12_198 rfl rfl rfl rfl (Nat.le_of_ble_eq_true rfl) dX12_lent_26 ?_
      refine x_nmM (fun M5 eM5 => ?_)
      replace h := h M5 eM5
      refine x_iconst C (v1 := 0) dX12_lent_29 (by decide) ?_
      refine x_istore_n C (L' := [(3, .int 0), (0, .ref (ga g 0)), (1, .int a0), (2, .int a1)]) rfl rfl (Nat.le_of_ble_eq_true rfl) dX12_lent_30 ?_
      refine x_loc (L' := [(0, .ref (ga g 0)), (1, .int a0), (2, .int a1), (3, .int 0)]) [1, 2, 3, 0] rfl ?_
      obtain ⟨n31, h⟩ := h
      exact tX12_lent_31 hg  C   _ _ _ _ _  h
    · replace h := x_iff hq4 h
      refine x_iconst C (v1 := (-1)) dX12_lent_22 (by decide) ?_
      exact x_iret C dX12_lent_23 ⟨_, rfl, h⟩
set_option maxHeartbeats 4000000 in
set_option maxRecDepth 100000 in
theorem tX12_leftBy_69 {g : xG} (hg : x_inj (WM g))  {x : xCx}  {K6 : Int32 → Int32 → Int32 → Int32 → Int32 → xMem → Prop} {post : Int32 → xMem → Prop} (C : xOk (WM g) x cX12_leftBy RX12 7 (some .int) (rm_X12_leftBy) (pI post))  (hK6 : ∀ (x1 : Int32) (x2 : Int32) (x3 : Int32) (x4 : Int32) (x5 : Int32) (M : xMem), K6 x1 x2 x3 x4 x5 M → xW (WM g) x 7 6 [(0, .ref (ga g 0)), (1, .int x1), (2, .int x2), (3, .int x3), (4, .int x4), (5, .int x5)] [] M) (x1 : Int32) (x2 : Int32) (x3 : Int32) (x4 : Int32) (x5 : Int32) (M : xMem)  (h : wX12_leftBy_69 K6 post x1 x2 x3 x4 x5 M) : xW (WM g) x 7 69 [(0, .ref (ga g 0)), (1, .int x1), (2, .int x2), (3, .int x3), (4, .int x4), (5, .int x5)] [] M := by
  unfold wX12_leftBy_69 at h
  obtain ⟨v1, ev1⟩ : ∃ z : Int32, z = x5 + 1 := ⟨_, rfl⟩
  replace h := h v1 ev1
  refine x_iinc C 5 (v1 := v1) (L' := [(5, .int v1), (0, .ref (ga g 0)), (1, .int x1), (2, .int x2), (3, .int x3), (4, .int x4)]) rfl (by rw [ev1]; rfl) rfl (Nat.le_of_ble_eq_true rfl) dX12_leftBy_69 ?_
  refine x_goto C (tgt := 6) dX12_leftBy_72 (by decide) ?_
  refine x_loc (L' := [(0, .ref (ga g 0)), (1, .int x1), (2, .int x2), (3, .int x3), (4, .int x4), (5, .int v1)]) [1, 2, 3, 4, 5, 0] rfl ?_
  exact hK6 _ _ _ _ _ _  h
set_option maxHeartbeats 4000000 in
set_option maxRecDepth 100000 in
theorem tX12_leftBy_60 {g : xG} (hg : x_inj (WM g))  {x : xCx}  {K6 : Int32 → Int32 → Int32 → Int32 → Int32 → xMem → Prop} {post : Int32 → xMem → Prop} (C : xOk (WM g) x cX12_leftBy RX12 7 (some .int) (rm_X12_leftBy) (pI post))  (hK6 : ∀ (x1 : Int32) (x2 : Int32) (x3 : Int32) (x4 : Int32) (x5 : Int32) (M : xMem), K6 x1 x2 x3 x4 x5 M → xW (WM g) x 7 6 [(0, .ref (ga g 0)), (1, .int x1), (2, .int x2), (3, .int x3), (4, .int x4), (5, .int x5)] [] M) (x1 : Int32) (x2 : Int32) (x3 : Int32) (x4 : Int32) (x5 : Int32) (M : xMem)  (h : wX12_leftBy_60 K6 post x1 x2 x3 x4 x5 M) : xW (WM g) x 7 60 [(0, .ref (ga g 0)), (1, .int x1), (2, .int x2), (3, .int x3), (4, .int x4), (5, .int x5)] [] M := by
  unfold wX12_leftBy_60 at h
  refine x_iload C 4 rfl dX12_leftBy_60 ?_
  refine x_iconst C (v1 := 1) dX12_leftBy_62 (by decide) ?_
  refine x_iload C 5 rfl dX12_leftBy_63 ?_
  refine x_ishl C dX12_leftBy_65 ?_
  refine x_ior C dX12_leftBy_66 ?_
  refine x_nm (fun v1 ev1 => ?_)
  replace h := h v1 ev1
  refine x_istore C (L' := [(4, .int v1), (0, .ref (ga g 0)), (1, .int x1), (2, .int x2), (3, .int x3), (5, .int x5)]) rfl (Nat.le_of_ble_eq_true rfl) dX12_leftBy_67 ?_
  refine x_loc (L' := [(0, .ref (ga g 0)), (1, .int x1), (2, .int x2), (3, .int x3), (4, .int v1), (5, .int x5)]) [1, 2, 3, 4, 0, 5] rfl ?_
  exact tX12_leftBy_69 hg  C  hK6 _ _ _ _ _ _  h
set_option maxHeartbeats 4000000 in
set_option maxRecDepth 100000 in
theorem tX12_leftBy_6 {g : xG} (hg : x_inj (WM g))  {x : xCx}   {post : Int32 → xMem → Prop} (C : xOk (WM g) x cX12_leftBy RX12 7 (some .int) (rm_X12_leftBy) (pI post))   : ∀ (n : Nat) (x1 : Int32) (x2 : Int32) (x3 : Int32) (x4 : Int32) (x5 : Int32) (M : xMem), wX12_leftBy_6 post n x1 x2 x3 x4 x5 M → xW (WM g) x 7 6 [(0, .ref (ga g 0)), (1, .int x1), (2, .int x2), (3, .int x3), (4, .int x4), (5, .int x5)] [] M := by
  intro n
  induction n with
  | zero =>
    intro x1 x2 x3 x4 x5 M  h
    exact h.elim
  | succ n ih =>
    intro x1 x2 x3 x4 x5 M  h
    rw [wX12_leftBy_6] at h
    refine x_iload C 5 rfl dX12_leftBy_6 ?_
    refine x_bipush C (v1 := 10) dX12_leftBy_8 (by decide) ?_
    refine x_icmp_ge C (tgt := 75) dX12_leftBy_10 (by decide) (fun hq1 => ?_) (fun hq1 => ?_)
    · replace h := x_ift hq1 h
      refine x_iload C 4 rfl dX12_leftBy_75 ?_
      exact x_iret C dX12_leftBy_77 ⟨_, rfl, h⟩
    · replace h := x_iff hq1 h
      refine x_iload_n C 1 rfl rfl dX12_leftBy_13 ?_
      refine x_iload C 5 rfl dX12_leftBy_14 ?_
      refine x_callS C (st := []) (As := [.int x1, .int x5]) (tX12_has hg _ _ _ _ _  h) wm_X12_194 wsm_X12_has wz_X12 wc_X12_has yd_X12_has rfl ⟨rfl, rfl⟩ ⟨Nat.le_of_ble_eq_true rfl, Nat.le_of_ble_eq_true rfl⟩ (Nat.le_of_ble_eq_true rfl) rfl dX12_leftBy_16 (x_ki (fun r3 M2 h => ?_))
      refine x_if_ne C (tgt := 25) dX12_leftBy_19 (by decide) (fun hq4 => ?_) (fun hq4 => ?_)
      · replace h := x_iff hq4 h
        refine x_aload_n C 0 rfl rfl dX12_leftBy_25 ?_
        refine x_get C (c := 0) (ci := 12) (k1 := 52) (v1 := .ref (ga g 26)) (enM_12 (c := 0) rfl) (Nat.le_of_ble_eq_true rfl) rfl inX12 (by decide) wf_X12_91 rfl dX12_leftBy_26 ?_
        refine x_iload C 5 rfl dX12_leftBy_29 ?_
        obtain ⟨hi5, h⟩ := h
        refine x_iald C 0 (c := 26) (enM_20n (c := 26) (n := 10) rfl rfl) (Nat.le_of_ble_eq_true rfl) rfl hi5 dX12_leftBy_31 ?_
        refine x_callS C (st := []) (As := [.int (gi M2 26 x5.toNatClampNeg)]) (tX12_lowestOf hg _ _ _ _  h) wm_X12_301 wsm_X12_lowestOf wz_X12 wc_X12_lowestOf yd_X12_lowestOf rfl ⟨rfl, rfl⟩ ⟨Nat.le_of_ble_eq_true rfl, Nat.le_of_ble_eq_true rfl⟩ (Nat.le_of_ble_eq_true rfl) rfl dX12_leftBy_32 (x_ki (fun r7 M6 h => ?_))
        refine x_istore C (L' := [(6, .int r7), (0, .ref (ga g 0)), (1, .int x1), (2, .int x2), (3, .int x3), (4, .int x4), (5, .int x5)]) rfl (Nat.le_of_ble_eq_true rfl) dX12_leftBy_35 ?_
        refine x_iload_n C 4 rfl rfl dX12_leftBy_37 ?_
        refine x_iconst C (v1 := (-1)) dX12_leftBy_38 (by decide) ?_
        refine x_icmp_ne C (tgt := 54) dX12_leftBy_39 (by decide) (fun hq8 => ?_) (fun hq8 => ?_)
        · replace h := x_iff hq8 h
          refine x_iload C 0 rfl dX12_leftBy_54 ?_
          refine x_iload_n C 4 rfl rfl dX12_leftBy_56 ?_
          refine x_icmp_ne C (tgt := 69) dX12_leftBy_57 (by decide) (fun hq9 => ?_) (fun hq9 => ?_)
          · replace h := x_iff hq9 h
            refine x_loc (L' := [(0, .ref (ga g 0)), (1, .int x1), (2, .int x2), (3, .int x3), (4, .int x4), (5, .int x5)]) [1, 2, 3, 4, 5, 6] rfl ?_
            exact tX12_leftBy_69 hg  C  ih _ _ _ _ _ _  h
          · replace h := x_ift hq9 h
            refine x_loc (L' := [(0, .ref (ga g 0)), (1, .int x1), (2, .int x2), (3, .int x3), (4, .int x4), (5, .int x5)]) [1, 2, 3, 4, 5, 6] rfl ?_
            exact tX12_leftBy_60 hg  C  ih _ _ _ _ _ _  h
        · replace h := x_ift hq8 h
          refine x_iload_n C 3 rfl rfl dX12_leftBy_42 ?_
          refine x_iload C 0 rfl dX12_leftBy_43 ?_
          refine x_callS C (st := []) (As := [.int x2, .int r7]) (tX12_has hg _ _ _ _ _  h) wm_X12_194 wsm_X12_has wz_X12 wc_X12_has yd_X12_has rfl ⟨rfl, rfl⟩ ⟨Nat.le_of_ble_eq_true rfl, Nat.le_of_ble_eq_true rfl⟩ (Nat.le_of_ble_eq_true rfl) rfl dX12_leftBy_45 (x_ki (fun r11 M10 h => ?_))
          refine x_if_ne C (tgt := 69) dX12_leftBy_48 (by decide) (fun hq12 => ?_) (fun hq12 => ?_)
          · replace h := x_iff hq12 h
            refine x_loc (L' := [(0, .ref (ga g 0)), (1, .int x1), (2, .int x2), (3, .int x3), (4, .int x4), (5, .int x5)]) [1, 2, 3, 4, 5, 6] rfl ?_
            exact tX12_leftBy_69 hg  C  ih _ _ _ _ _ _  h
          · replace h := x_ift hq12 h
            refine x_goto C (tgt := 60) dX12_leftBy_51 (by decide) ?_
            refine x_loc (L' := [(0, .ref (ga g 0)), (1, .int x1), (2, .int x2), (3, .int x3), (4, .int x4), (5, .int x5)]) [1, 2, 3, 4, 5, 6] rfl ?_
            exact tX12_leftBy_60 hg  C  ih _ _ _ _ _ _  h
      · replace h := x_ift hq4 h
        refine x_goto C (tgt := 69) dX12_leftBy_22 (by decide) ?_
        exact tX12_leftBy_69 hg  C  ih _ _ _ _ _ _  h
set_option maxHeartbeats 4000000 in
set_option maxRecDepth 100000 in
theorem tX12_leftBy {g : xG} (hg : x_inj (WM g))  (l : Launch) (a0 : Int32) (a1 : Int32) (a2 : Int32) (M : xMem) (post : Int32 → xMem → Prop)  (h : wX12_leftBy a0 a1 a2 M post) : xMet (WM g) l yX12_leftBy cX12_leftBy 7 (some .int) (rm_X12_leftBy) [.ref (ga g 0), .int a0, .int a1, .int a2] M (pI post) := by
  refine x_enter (own := RX12) (L0 := [(0, .ref (ga g 0)), (1, .int a0), (2, .int a1), (3, .int a2)]) (by decide +kernel) rfl hg (x_stM g) (Nat.le_of_ble_eq_true rfl) rfl (fun x hl C => ?_)
  unfold wX12_leftBy at h
  refine x_iconst C (v1 := 0) dX12_leftBy_0 (by decide) ?_
  refine x_istore C (L' := [(4, .int 0), (0, .ref (ga g 0)), (1, .int a0), (2, .int a1), (3, .int a2)]) rfl (Nat.le_of_ble_eq_true rfl) dX12_leftBy_1 ?_
  refine x_iconst C (v1 := 0) dX12_leftBy_3 (by decide) ?_
  refine x_istore C (L' := [(5, .int 0), (4, .int 0), (0, .ref (ga g 0)), (1, .int a0), (2, .int a1), (3, .int a2)]) rfl (Nat.le_of_ble_eq_true rfl) dX12_leftBy_4 ?_
  refine x_loc (L' := [(0, .ref (ga g 0)), (1, .int a0), (2, .int a1), (3, .int a2), (4, .int 0), (5, .int 0)]) [2, 3, 4, 5, 1, 0] rfl ?_
  obtain ⟨n6, h⟩ := h
  exact tX12_leftBy_6 hg  C   _ _ _ _ _ _ _  h
set_option maxHeartbeats 4000000 in
set_option maxRecDepth 100000 in
theorem tX12_nextThread_112 {g : xG} (hg : x_inj (WM g))  {x : xCx}  {K12 : Int32 → Int32 → Int32 → Int32 → Int32 → xMem → Prop} {post : Int32 → xMem → Prop} (C : xOk (WM g) x cX12_nextThread RX12 8 (some .int) (rm_X12_nextThread) (pI post))  (hK12 : ∀ (x1 : Int32) (x2 : Int32) (x3 : Int32) (x4 : Int32) (x5 : Int32) (M : xMem), K12 x1 x2 x3 x4 x5 M → xW (WM g) x 8 12 [(0, .ref (ga g 0)), (1, .int x1), (2, .int x2), (3, .int x3), (4, .int x4), (5, .int x5)] [] M) (x1 : Int32) (x2 : Int32) (x3 : Int32) (x4 : Int32) (x5 : Int32) (M : xMem)  (h : wX12_nextThread_112 K12 post x1 x2 x3 x4 x5 M) : xW (WM g) x 8 112 [(0, .ref (ga g 0)), (1, .int x1), (2, .int x2), (3, .int x3), (4, .int x4), (5, .int x5)] [] M := by
  unfold wX12_nextThread_112 at h
  obtain ⟨v1, ev1⟩ : ∃ z : Int32, z = x5 + 1 := ⟨_, rfl⟩
  replace h := h v1 ev1
  refine x_iinc C 5 (v1 := v1) (L' := [(5, .int v1), (0, .ref (ga g 0)), (1, .int x1), (2, .int x2), (3, .int x3), (4, .int x4)]) rfl (by rw [ev1]; rfl) rfl (Nat.le_of_ble_eq_true rfl) dX12_nextThread_112 ?_
  refine x_goto C (tgt := 12) dX12_nextThread_115 (by decide) ?_
  refine x_loc (L' := [(0, .ref (ga g 0)), (1, .int x1), (2, .int x2), (3, .int x3), (4, .int x4), (5, .int v1)]) [1, 2, 3, 4, 5, 0] rfl ?_
  exact hK12 _ _ _ _ _ _  h
set_option maxHeartbeats 4000000 in
set_option maxRecDepth 100000 in
theorem tX12_nextThread_63 {g : xG} (hg : x_inj (WM g))  {x : xCx}  {K12 : Int32 → Int32 → Int32 → Int32 → Int32 → xMem → Prop} {K25 : Int32 → Int32 → Int32 → Int32 → Int32 → Int32 → Int32 → xMem → Prop} {post : Int32 → xMem → Prop} (C : xOk (WM g) x cX12_nextThread RX12 8 (some .int) (rm_X12_nextThread) (pI post))  (hK12 : ∀ (x1 : Int32) (x2 : Int32) (x3 : Int32) (x4 : Int32) (x5 : Int32) (M : xMem), K12 x1 x2 x3 x4 x5 M → xW (WM g) x 8 12 [(0, .ref (ga g 0)), (1, .int x1), (2, .int x2), (3, .int x3), (4, .int x4), (5, .int x5)] [] M) (hK25 : ∀ (x1 : Int32) (x2 : Int32) (x3 : Int32) (x4 : Int32) (x5 : Int32) (x6 : Int32) (x7 : Int32) (M : xMem), K25 x1 x2 x3 x4 x5 x6 x7 M → xW (WM g) x 8 25 [(0, .ref (ga g 0)), (1, .int x1), (2, .int x2), (3, .int x3), (4, .int x4), (5, .int x5), (6, .int x6), (7, .int x7)] [] M) (x1 : Int32) (x2 : Int32) (x3 : Int32) (x4 : Int32) (x5 : Int32) (x7 : Int32) (s0 : Int32) (s1 : Int32) (M : xMem)  (h : wX12_nextThread_63 K12 K25 post x1 x2 x3 x4 x5 x7 s0 s1 M) : xW (WM g) x 8 63 [(0, .ref (ga g 0)), (1, .int x1), (2, .int x2), (3, .int x3), (4, .int x4), (5, .int x5), (7, .int x7)] [.int s0, .int s1] M := by
  unfold wX12_nextThread_63 at h
  refine x_iadd C dX12_nextThread_63 ?_
  refine x_nm (fun v1 ev1 => ?_)
  replace h := h v1 ev1
  refine x_istore C (L' := [(6, .int v1), (0, .ref (ga g 0)), (1, .int x1), (2, .int x2), (3, .int x3), (4, .int x4), (5, .int x5), (7, .int x7)]) rfl (Nat.le_of_ble_eq_true rfl) dX12_nextThread_64 ?_
  obtain ⟨v2, ev2⟩ : ∃ z : Int32, z = x7 + 1 := ⟨_, rfl⟩
  replace h := h v2 ev2
  refine x_iinc C 7 (v1 := v2) (L' := [(7, .int v2), (6, .int v1), (0, .ref (ga g 0)), (1, .int x1), (2, .int x2), (3, .int x3), (4, .int x4), (5, .int x5)]) rfl (by rw [ev2]; rfl) rfl (Nat.le_of_ble_eq_true rfl) dX12_nextThread_66 ?_
  refine x_goto C (tgt := 25) dX12_nextThread_69 (by decide) ?_
  refine x_loc (L' := [(0, .ref (ga g 0)), (1, .int x1), (2, .int x2), (3, .int x3), (4, .int x4), (5, .int x5), (6, .int v1), (7, .int v2)]) [2, 3, 4, 5, 6, 7, 1, 0] rfl ?_
  exact hK25 _ _ _ _ _ _ _ _  h
set_option maxHeartbeats 4000000 in
set_option maxRecDepth 100000 in
theorem tX12_nextThread_62 {g : xG} (hg : x_inj (WM g))  {x : xCx}  {K12 : Int32 → Int32 → Int32 → Int32 → Int32 → xMem → Prop} {K25 : Int32 → Int32 → Int32 → Int32 → Int32 → Int32 → Int32 → xMem → Prop} {post : Int32 → xMem → Prop} (C : xOk (WM g) x cX12_nextThread RX12 8 (some .int) (rm_X12_nextThread) (pI post))  (hK12 : ∀ (x1 : Int32) (x2 : Int32) (x3 : Int32) (x4 : Int32) (x5 : Int32) (M : xMem), K12 x1 x2 x3 x4 x5 M → xW (WM g) x 8 12 [(0, .ref (ga g 0)), (1, .int x1), (2, .int x2), (3, .int x3), (4, .int x4), (5, .int x5)] [] M) (hK25 : ∀ (x1 : Int32) (x2 : Int32) (x3 : Int32) (x4 : Int32) (x5 : Int32) (x6 : Int32) (x7 : Int32) (M : xMem), K25 x1 x2 x3 x4 x5 x6 x7 M → xW (WM g) x 8 25 [(0, .ref (ga g 0)), (1, .int x1), (2, .int x2), (3, .int x3), (4, .int x4), (5, .int x5), (6, .int x6), (7, .int x7)] [] M) (x1 : Int32) (x2 : Int32) (x3 : Int32) (x4 : Int32) (x5 : Int32) (x7 : Int32) (s0 : Int32) (M : xMem)  (h : wX12_nextThread_62 K12 K25 post x1 x2 x3 x4 x5 x7 s0 M) : xW (WM g) x 8 62 [(0, .ref (ga g 0)), (1, .int x1), (2, .int x2), (3, .int x3), (4, .int x4), (5, .int x5), (7, .int x7)] [.int s0] M := by
  unfold wX12_nextThread_62 at h
  refine x_iconst C (v1 := 0) dX12_nextThread_62 (by decide) ?_
  exact tX12_nextThread_63 hg  C  hK12 hK25 _ _ _ _ _ _ _ _ _  h
set_option maxHeartbeats 4000000 in
set_option maxRecDepth 100000 in
theorem tX12_nextThread_25 {g : xG} (hg : x_inj (WM g))  {x : xCx}  {K12 : Int32 → Int32 → Int32 → Int32 → Int32 → xMem → Prop} {post : Int32 → xMem → Prop} (C : xOk (WM g) x cX12_nextThread RX12 8 (some .int) (rm_X12_nextThread) (pI post))  (hK12 : ∀ (x1 : Int32) (x2 : Int32) (x3 : Int32) (x4 : Int32) (x5 : Int32) (M : xMem), K12 x1 x2 x3 x4 x5 M → xW (WM g) x 8 12 [(0, .ref (ga g 0)), (1, .int x1), (2, .int x2), (3, .int x3), (4, .int x4), (5, .int x5)] [] M) : ∀ (n : Nat) (x1 : Int32) (x2 : Int32) (x3 : Int32) (x4 : Int32) (x5 : Int32) (x6 : Int32) (x7 : Int32) (M : xMem), wX12_nextThread_25 K12 post n x1 x2 x3 x4 x5 x6 x7 M → xW (WM g) x 8 25 [(0, .ref (ga g 0)), (1, .int x1), (2, .int x2), (3, .int x3), (4, .int x4), (5, .int x5), (6, .int x6), (7, .int x7)] [] M := by
  intro n
  induction n with
  | zero =>
    intro x1 x2 x3 x4 x5 x6 x7 M  h
    exact h.elim
  | succ n ih =>
    intro x1 x2 x3 x4 x5 x6 x7 M  h
    rw [wX12_nextThread_25] at h
    refine x_iload C 7 rfl dX12_nextThread_25 ?_
    refine x_bipush C (v1 := 10) dX12_nextThread_27 (by decide) ?_
    refine x_icmp_ge C (tgt := 72) dX12_nextThread_29 (by decide) (fun hq1 => ?_) (fun hq1 => ?_)
    · replace h := x_ift hq1 h
      refine x_iload C 6 rfl dX12_nextThread_72 ?_
      refine x_iload_n C 1 rfl rfl dX12_nextThread_74 ?_
      refine x_callS C (st := [.int x6]) (As := [.int x1]) (tX12_sizeOf hg _ _ _ _  h) wm_X12_289 wsm_X12_sizeOf wz_X12 wc_X12_sizeOf yd_X12_sizeOf rfl ⟨rfl, rfl⟩ ⟨Nat.le_of_ble_eq_true rfl, Nat.le_of_ble_eq_true rfl⟩ (Nat.le_of_ble_eq_true rfl) rfl dX12_nextThread_75 (x_ki (fun r3 M2 h => ?_))
      refine x_iload C 6 rfl dX12_nextThread_78 ?_
      refine x_isub C dX12_nextThread_80 ?_
      refine x_callS C (st := []) (As := [.int x6, .int (r3 - x6)]) (tX12_higher hg _ _ _ _ _  h) wm_X12_607 wsm_X12_higher wz_X12 wc_X12_higher yd_X12_higher rfl ⟨rfl, rfl⟩ ⟨Nat.le_of_ble_eq_true rfl, Nat.le_of_ble_eq_true rfl⟩ (Nat.le_of_ble_eq_true rfl) rfl dX12_nextThread_81 (x_ki (fun r5 M4 h => ?_))
      refine x_istore C (L' := [(7, .int r5), (0, .ref (ga g 0)), (1, .int x1), (2, .int x2), (3, .int x3), (4, .int x4), (5, .int x5), (6, .int x6)]) rfl (Nat.le_of_ble_eq_true rfl) dX12_nextThread_84 ?_
      refine x_iload_n C 3 rfl rfl dX12_nextThread_86 ?_
      refine x_iload C 6 rfl dX12_nextThread_87 ?_
      refine x_callS C (st := []) (As := [.int x2, .int x5]) (tX12_has hg _ _ _ _ _  h) wm_X12_194 wsm_X12_has wz_X12 wc_X12_has yd_X12_has rfl ⟨rfl, rfl⟩ ⟨Nat.le_of_ble_eq_true rfl, Nat.le_of_ble_eq_true rfl⟩ (Nat.le_of_ble_eq_true rfl) rfl dX12_nextThread_89 (x_ki (fun r7 M6 h => ?_))
      refine x_if_ne C (tgt := 112) dX12_nextThread_92 (by decide) (fun hq8 => ?_) (fun hq8 => ?_)
      · replace h := x_iff hq8 h
        refine x_loc (L' := [(0, .ref (ga g 0)), (1, .int x1), (2, .int x2), (3, .int x3), (4, .int x4), (5, .int x5)]) [1, 2, 3, 4, 5, 6] rfl ?_
        exact tX12_nextThread_112 hg  C  hK12 _ _ _ _ _ _  h
      · replace h := x_ift hq8 h
        refine x_iload C 0 rfl dX12_nextThread_95 ?_
        refine x_iload C 5 rfl dX12_nextThread_97 ?_
        refine x_icmp_lt C (tgt := 105) dX12_nextThread_99 (by decide) (fun hq9 => ?_) (fun hq9 => ?_)
        · replace h := x_ift hq9 h
          refine x_iload C 6 rfl dX12_nextThread_105 ?_
          refine x_istore_n C (L' := [(3, .int x5), (7, .int r5), (0, .ref (ga g 0)), (1, .int x1), (2, .int x2), (4, .int x4), (5, .int x5), (6, .int x6)]) rfl rfl (Nat.le_of_ble_eq_true rfl) dX12_nextThread_107 ?_
          refine x_iload C 1 rfl dX12_nextThread_108 ?_
          refine x_istore C (L' := [(4, .int r5), (3, .int x5), (7, .int r5), (0, .ref (ga g 0)), (1, .int x1), (2, .int x2), (5, .int x5), (6, .int x6)]) rfl (Nat.le_of_ble_eq_true rfl) dX12_nextThread_110 ?_
          refine x_loc (L' := [(0, .ref (ga g 0)), (1, .int x1), (2, .int x2), (3, .int x5), (4, .int r5), (5, .int x5)]) [3, 4, 5, 1, 0, 6] rfl ?_
          exact tX12_nextThread_112 hg  C  hK12 _ _ _ _ _ _  h
        · replace h := x_iff hq9 h
          refine x_goto C (tgt := 112) dX12_nextThread_102 (by decide) ?_
          refine x_loc (L' := [(0, .ref (ga g 0)), (1, .int x1), (2, .int x2), (3, .int x3), (4, .int x4), (5, .int x5)]) [1, 2, 3, 4, 5, 6] rfl ?_
          exact tX12_nextThread_112 hg  C  hK12 _ _ _ _ _ _  h
    · replace h := x_iff hq1 h
      refine x_iload C 6 rfl dX12_nextThread_32 ?_
      refine x_iload_n C 1 rfl rfl dX12_nextThread_34 ?_
      refine x_iload C 7 rfl dX12_nextThread_35 ?_
      refine x_callS C (st := [.int x6]) (As := [.int x1, .int x7]) (tX12_has hg _ _ _ _ _  h) wm_X12_194 wsm_X12_has wz_X12 wc_X12_has yd_X12_has rfl ⟨rfl, rfl⟩ ⟨Nat.le_of_ble_eq_true rfl, Nat.le_of_ble_eq_true rfl⟩ (Nat.le_of_ble_eq_true rfl) rfl dX12_nextThread_37 (x_ki (fun r11 M10 h => ?_))
      refine x_if_eq C (tgt := 62) dX12_nextThread_40 (by decide) (fun hq12 => ?_) (fun hq12 => ?_)
      · replace h := x_ift hq12 h
        refine x_loc (L' := [(0, .ref (ga g 0)), (1, .int x1), (2, .int x2), (3, .int x3), (4, .int x4), (5, .int x5), (7, .int x7)]) [0, 1, 2, 3, 4, 5, 7] rfl ?_
        exact tX12_nextThread_62 hg  C  hK12 ih _ _ _ _ _ _ _ _  h
      · replace h := x_iff hq12 h
        refine x_aload_n C 0 rfl rfl dX12_nextThread_43 ?_
        refine x_get C (c := 0) (ci := 12) (k1 := 52) (v1 := .ref (ga g 26)) (enM_12 (c := 0) rfl) (Nat.le_of_ble_eq_true rfl) rfl inX12 (by decide) wf_X12_91 rfl dX12_nextThread_44 ?_
        refine x_iload C 7 rfl dX12_nextThread_47 ?_
        obtain ⟨hi13, h⟩ := h
        refine x_iald C 0 (c := 26) (enM_20n (c := 26) (n := 10) rfl rfl) (Nat.le_of_ble_eq_true rfl) rfl hi13 dX12_nextThread_49 ?_
        refine x_callS C (st := [.int x6]) (As := [.int (gi M10 26 x7.toNatClampNeg)]) (tX12_lowestOf hg _ _ _ _  h) wm_X12_301 wsm_X12_lowestOf wz_X12 wc_X12_lowestOf yd_X12_lowestOf rfl ⟨rfl, rfl⟩ ⟨Nat.le_of_ble_eq_true rfl, Nat.le_of_ble_eq_true rfl⟩ (Nat.le_of_ble_eq_true rfl) rfl dX12_nextThread_50 (x_ki (fun r15 M14 h => ?_))
        refine x_iload C 5 rfl dX12_nextThread_53 ?_
        refine x_icmp_ne C (tgt := 62) dX12_nextThread_55 (by decide) (fun hq16 => ?_) (fun hq16 => ?_)
        · replace h := x_iff hq16 h
          refine x_loc (L' := [(0, .ref (ga g 0)), (1, .int x1), (2, .int x2), (3, .int x3), (4, .int x4), (5, .int x5), (7, .int x7)]) [0, 1, 2, 3, 4, 5, 7] rfl ?_
          exact tX12_nextThread_62 hg  C  hK12 ih _ _ _ _ _ _ _ _  h
        · replace h := x_ift hq16 h
          refine x_iconst C (v1 := 1) dX12_nextThread_58 (by decide) ?_
          refine x_goto C (tgt := 63) dX12_nextThread_59 (by decide) ?_
          refine x_loc (L' := [(0, .ref (ga g 0)), (1, .int x1), (2, .int x2), (3, .int x3), (4, .int x4), (5, .int x5), (7, .int x7)]) [0, 1, 2, 3, 4, 5, 7] rfl ?_
          exact tX12_nextThread_63 hg  C  hK12 ih _ _ _ _ _ _ _ _ _  h
set_option maxHeartbeats 4000000 in
set_option maxRecDepth 100000 in
theorem tX12_nextThread_12 {g : xG} (hg : x_inj (WM g))  {x : xCx}   {post : Int32 → xMem → Prop} (C : xOk (WM g) x cX12_nextThread RX12 8 (some .int) (rm_X12_nextThread) (pI post))   : ∀ (n : Nat) (x1 : Int32) (x2 : Int32) (x3 : Int32) (x4 : Int32) (x5 : Int32) (M : xMem), wX12_nextThread_12 post n x1 x2 x3 x4 x5 M → xW (WM g) x 8 12 [(0, .ref (ga g 0)), (1, .int x1), (2, .int x2), (3, .int x3), (4, .int x4), (5, .int x5)] [] M := by
  intro n
  induction n with
  | zero =>
    intro x1 x2 x3 x4 x5 M  h
    exact h.elim
  | succ n ih =>
    intro x1 x2 x3 x4 x5 M  h
    rw [wX12_nextThread_12] at h
    refine x_iload C 5 rfl dX12_nextThread_12 ?_
    refine x_bipush C (v1 := 10) dX12_nextThread_14 (by decide) ?_
    refine x_icmp_ge C (tgt := 118) dX12_nextThread_16 (by decide) (fun hq1 => ?_) (fun hq1 => ?_)
    · replace h := x_ift hq1 h
      refine x_iload_n C 3 rfl rfl dX12_nextThread_118 ?_
      exact x_iret C dX12_nextThread_119 ⟨_, rfl, h⟩
    · replace h := x_iff hq1 h
      refine x_iconst C (v1 := 0) dX12_nextThread_19 (by decide) ?_
      refine x_istore C (L' := [(6, .int 0), (0, .ref (ga g 0)), (1, .int x1), (2, .int x2), (3, .int x3), (4, .int x4), (5, .int x5)]) rfl (Nat.le_of_ble_eq_true rfl) dX12_nextThread_20 ?_
      refine x_iconst C (v1 := 0) dX12_nextThread_22 (by decide) ?_
      refine x_istore C (L' := [(7, .int 0), (6, .int 0), (0, .ref (ga g 0)), (1, .int x1), (2, .int x2), (3, .int x3), (4, .int x4), (5, .int x5)]) rfl (Nat.le_of_ble_eq_true rfl) dX12_nextThread_23 ?_
      refine x_loc (L' := [(0, .ref (ga g 0)), (1, .int x1), (2, .int x2), (3, .int x3), (4, .int x4), (5, .int x5), (6, .int 0), (7, .int 0)]) [2, 3, 4, 5, 6, 7, 1, 0] rfl ?_
      obtain ⟨n25, h⟩ := h
      exact tX12_nextThread_25 hg  C  ih _ _ _ _ _ _ _ _ _  h
set_option maxHeartbeats 4000000 in
set_option maxRecDepth 100000 in
theorem tX12_nextThread {g : xG} (hg : x_inj (WM g))  (l : Launch) (a0 : Int32) (a1 : Int32) (M : xMem) (post : Int32 → xMem → Prop)  (h : wX12_nextThread a0 a1 M post) : xMet (WM g) l yX12_nextThread cX12_nextThread 8 (some .int) (rm_X12_nextThread) [.ref (ga g 0), .int a0, .int a1] M (pI post) := by
  refine x_enter (own := RX12) (L0 := [(0, .ref (ga g 0)), (1, .int a0), (2, .int a1)]) (by decide +kernel) rfl hg (x_stM g) (Nat.le_of_ble_eq_true rfl) rfl (fun x hl C => ?_)
  unfold wX12_nextThread at h
  refine x_bipush C (v1 := (-2)) dX12_nextThread_0 (by decide) ?_
  refine x_istore_n C (L' := [(3, .int (-2)), (0, .ref (ga g 0)), (1, .int a0), (2, .int a1)]) rfl rfl (Nat.le_of_ble_eq_true rfl) dX12_nextThread_2 ?_
  refine x_iload_n C 2 rfl rfl dX12_nextThread_3 ?_
  refine x_callS C (st := []) (As := [.int a0]) (tX12_sizeOf hg _ _ _ _  h) wm_X12_289 wsm_X12_sizeOf wz_X12 wc_X12_sizeOf yd_X12_sizeOf rfl ⟨rfl, rfl⟩ ⟨Nat.le_of_ble_eq_true rfl, Nat.le_of_ble_eq_true rfl⟩ (Nat.le_of_ble_eq_true rfl) rfl dX12_nextThread_4 (x_ki (fun r2 M1 h => ?_))
  refine x_istore C (L' := [(4, .int r2), (3, .int (-2)), (0, .ref (ga g 0)), (1, .int a0), (2, .int a1)]) rfl (Nat.le_of_ble_eq_true rfl) dX12_nextThread_7 ?_
  refine x_iconst C (v1 := 0) dX12_nextThread_9 (by decide) ?_
  refine x_istore C (L' := [(5, .int 0), (4, .int r2), (3, .int (-2)), (0, .ref (ga g 0)), (1, .int a0), (2, .int a1)]) rfl (Nat.le_of_ble_eq_true rfl) dX12_nextThread_10 ?_
  refine x_loc (L' := [(0, .ref (ga g 0)), (1, .int a0), (2, .int a1), (3, .int (-2)), (4, .int r2), (5, .int 0)]) [3, 4, 5, 2, 1, 0] rfl ?_
  obtain ⟨n12, h⟩ := h
  exact tX12_nextThread_12 hg  C   _ _ _ _ _ _ _  h
set_option maxHeartbeats 4000000 in
set_option maxRecDepth 100000 in
theorem tX12_forged_95 {g : xG} (hg : x_inj (WM g))  {x : xCx}  {K67 : Int32 → Int32 → Int32 → Int32 → Int32 → xMem → Prop} {post : Int32 → xMem → Prop} (C : xOk (WM g) x cX12_forged RX12 6 (some .int) (rm_X12_forged) (pI post))  (hK67 : ∀ (x1 : Int32) (x2 : Int32) (x3 : Int32) (x4 : Int32) (x5 : Int32) (M : xMem), K67 x1 x2 x3 x4 x5 M → xW (WM g) x 6 67 [(0, .ref (ga g 0)), (1, .int x1), (2, .int x2), (3, .int x3), (4, .int x4), (5, .int x5)] [] M) (x1 : Int32) (x2 : Int32) (x3 : Int32) (x4 : Int32) (x5 : Int32) (M : xMem)  (h : wX12_forged_95 K67 post x1 x2 x3 x4 x5 M) : xW (WM g) x 6 95 [(0, .ref (ga g 0)), (1, .int x1), (2, .int x2), (3, .int x3), (4, .int x4), (5, .int x5)] [] M := by
  unfold wX12_forged_95 at h
  obtain ⟨v1, ev1⟩ : ∃ z : Int32, z = x5 + 1 := ⟨_, rfl⟩
  replace h := h v1 ev1
  refine x_iinc C 5 (v1 := v1) (L' := [(5, .int v1), (0, .ref (ga g 0)), (1, .int x1), (2, .int x2), (3, .int x3), (4, .int x4)]) rfl (by rw [ev1]; rfl) rfl (Nat.le_of_ble_eq_true rfl) dX12_forged_95 ?_
  refine x_goto C (tgt := 67) dX12_forged_98 (by decide) ?_
  refine x_loc (L' := [(0, .ref (ga g 0)), (1, .int x1), (2, .int x2), (3, .int x3), (4, .int x4), (5, .int v1)]) [1, 2, 3, 4, 5, 0] rfl ?_
  exact hK67 _ _ _ _ _ _  h
set_option maxHeartbeats 4000000 in
set_option maxRecDepth 100000 in
theorem tX12_forged_67 {g : xG} (hg : x_inj (WM g))  {x : xCx}   {post : Int32 → xMem → Prop} (C : xOk (WM g) x cX12_forged RX12 6 (some .int) (rm_X12_forged) (pI post))   : ∀ (n : Nat) (x1 : Int32) (x2 : Int32) (x3 : Int32) (x4 : Int32) (x5 : Int32) (M : xMem), wX12_forged_67 post n x1 x2 x3 x4 x5 M → xW (WM g) x 6 67 [(0, .ref (ga g 0)), (1, .int x1), (2, .int x2), (3, .int x3), (4, .int x4), (5, .int x5)] [] M := by
  intro n
  induction n with
  | zero =>
    intro x1 x2 x3 x4 x5 M  h
    exact h.elim
  | succ n ih =>
    intro x1 x2 x3 x4 x5 M  h
    rw [wX12_forged_67] at h
    refine x_iload C 5 rfl dX12_forged_67 ?_
    refine x_bipush C (v1 := 10) dX12_forged_69 (by decide) ?_
    refine x_icmp_ge C (tgt := 101) dX12_forged_71 (by decide) (fun hq1 => ?_) (fun hq1 => ?_)
    · replace h := x_ift hq1 h
      refine x_aload_n C 0 rfl rfl dX12_forged_101 ?_
      refine x_iload_n C 1 rfl rfl dX12_forged_102 ?_
      refine x_iload_n C 2 rfl rfl dX12_forged_103 ?_
      refine x_iload_n C 3 rfl rfl dX12_forged_104 ?_
      refine x_callV C (st := []) (As := [.int x1, .int x2, .int x3]) (c := 0) (ci := 12) (enM_12 (c := 0) rfl) (Nat.le_of_ble_eq_true rfl) rfl (tX12_leftBy hg _ _ _ _ _ _  h) wm_X12_625 wi_X12_leftBy wv_X12_leftBy wz_X12 wc_X12_leftBy rfl yd_X12_leftBy rfl ⟨rfl, rfl⟩ ⟨Nat.le_of_ble_eq_true rfl, Nat.le_of_ble_eq_true rfl⟩ (Nat.le_of_ble_eq_true rfl) rfl dX12_forged_105 (x_ki (fun r3 M2 h => ?_))
      refine x_istore C (L' := [(5, .int r3), (0, .ref (ga g 0)), (1, .int x1), (2, .int x2), (3, .int x3), (4, .int x4)]) rfl (Nat.le_of_ble_eq_true rfl) dX12_forged_108 ?_
      refine x_iload C 5 rfl dX12_forged_110 ?_
      refine x_if_ne C (tgt := 120) dX12_forged_112 (by decide) (fun hq4 => ?_) (fun hq4 => ?_)
      · replace h := x_iff hq4 h
        refine x_aload_n C 1 rfl rfl dX12_forged_120 ?_
        refine x_iload C 0 rfl dX12_forged_121 ?_
        refine x_iload_n C 3 rfl rfl dX12_forged_123 ?_
        refine x_callV C (st := []) (As := [.int r3, .int x2]) (c := 0) (ci := 12) (enM_12 (c := 0) rfl) (Nat.le_of_ble_eq_true rfl) rfl (tX12_nextThread hg _ _ _ _ _  h) wm_X12_628 wi_X12_nextThread wv_X12_nextThread wz_X12 wc_X12_nextThread rfl yd_X12_nextThread rfl ⟨rfl, rfl⟩ ⟨Nat.le_of_ble_eq_true rfl, Nat.le_of_ble_eq_true rfl⟩ (Nat.le_of_ble_eq_true rfl) rfl dX12_forged_124 (x_ki (fun r6 M5 h => ?_))
        exact x_iret C dX12_forged_127 ⟨_, rfl, h⟩
      · replace h := x_ift hq4 h
        refine x_iload C 0 rfl dX12_forged_115 ?_
        refine x_goto C (tgt := 127) dX12_forged_117 (by decide) ?_
        exact x_iret C dX12_forged_127 ⟨_, rfl, h⟩
    · replace h := x_iff hq1 h
      refine x_iload_n C 1 rfl rfl dX12_forged_74 ?_
      refine x_iload C 5 rfl dX12_forged_75 ?_
      refine x_callS C (st := []) (As := [.int x1, .int x5]) (tX12_has hg _ _ _ _ _  h) wm_X12_194 wsm_X12_has wz_X12 wc_X12_has yd_X12_has rfl ⟨rfl, rfl⟩ ⟨Nat.le_of_ble_eq_true rfl, Nat.le_of_ble_eq_true rfl⟩ (Nat.le_of_ble_eq_true rfl) rfl dX12_forged_77 (x_ki (fun r8 M7 h => ?_))
      refine x_if_eq C (tgt := 95) dX12_forged_80 (by decide) (fun hq9 => ?_) (fun hq9 => ?_)
      · replace h := x_ift hq9 h
        exact tX12_forged_95 hg  C  ih _ _ _ _ _ _  h
      · replace h := x_iff hq9 h
        refine x_aload_n C 0 rfl rfl dX12_forged_83 ?_
        refine x_get C (c := 0) (ci := 12) (k1 := 51) (v1 := .ref (ga g 25)) (enM_12 (c := 0) rfl) (Nat.le_of_ble_eq_true rfl) rfl inX12 (by decide) wf_X12_88 rfl dX12_forged_84 ?_
        refine x_iload C 5 rfl dX12_forged_87 ?_
        obtain ⟨hi10, h⟩ := h
        refine x_zald C 2 (c := 25) (enM_24n (c := 25) (n := 10) rfl rfl) (Nat.le_of_ble_eq_true rfl) rfl hi10 dX12_forged_89 ?_
        refine x_if_ne C (tgt := 95) dX12_forged_90 (by decide) (fun hq11 => ?_) (fun hq11 => ?_)
        · replace h := x_iff hq11 h
          exact tX12_forged_95 hg  C  ih _ _ _ _ _ _  h
        · replace h := x_ift hq11 h
          refine x_iconst C (v1 := (-1)) dX12_forged_93 (by decide) ?_
          exact x_iret C dX12_forged_94 ⟨_, rfl, h⟩
set_option maxHeartbeats 4000000 in
set_option maxRecDepth 100000 in
theorem tX12_forged_51 {g : xG} (hg : x_inj (WM g))  {x : xCx}   {post : Int32 → xMem → Prop} (C : xOk (WM g) x cX12_forged RX12 6 (some .int) (rm_X12_forged) (pI post))   (x1 : Int32) (x2 : Int32) (x3 : Int32) (x4 : Int32) (M : xMem)  (h : wX12_forged_51 post x1 x2 x3 x4 M) : xW (WM g) x 6 51 [(0, .ref (ga g 0)), (1, .int x1), (2, .int x2), (3, .int x3), (4, .int x4)] [] M := by
  unfold wX12_forged_51 at h
  refine x_iload C 4 rfl dX12_forged_51 ?_
  refine x_i2l C dX12_forged_53 ?_
  refine x_lconst C (v1 := 0) dX12_forged_54 (by decide) ?_
  refine x_lconst C (v1 := 1) dX12_forged_55 (by decide) ?_
  refine x_callS C (st := []) (As := [.long ((x4 : Int32).toInt64), .long 0, .long 1]) (tX12_lies hg _ _ _ _ _ _  h) wm_X12_222 wsm_X12_lies wz_X12 wc_X12_lies yd_X12_lies rfl ⟨rfl, rfl⟩ ⟨Nat.le_of_ble_eq_true rfl, Nat.le_of_ble_eq_true rfl⟩ (Nat.le_of_ble_eq_true rfl) rfl dX12_forged_56 (x_ki (fun r2 M1 h => ?_))
  refine x_if_ne C (tgt := 64) dX12_forged_59 (by decide) (fun hq3 => ?_) (fun hq3 => ?_)
  · replace h := x_iff hq3 h
    refine x_iconst C (v1 := 0) dX12_forged_64 (by decide) ?_
    refine x_istore C (L' := [(5, .int 0), (0, .ref (ga g 0)), (1, .int x1), (2, .int x2), (3, .int x3), (4, .int x4)]) rfl (Nat.le_of_ble_eq_true rfl) dX12_forged_65 ?_
    refine x_loc (L' := [(0, .ref (ga g 0)), (1, .int x1), (2, .int x2), (3, .int x3), (4, .int x4), (5, .int 0)]) [1, 2, 3, 4, 5, 0] rfl ?_
    obtain ⟨n67, h⟩ := h
    exact tX12_forged_67 hg  C   _ _ _ _ _ _ _  h
  · replace h := x_ift hq3 h
    refine x_iconst C (v1 := (-1)) dX12_forged_62 (by decide) ?_
    exact x_iret C dX12_forged_63 ⟨_, rfl, h⟩
set_option maxHeartbeats 4000000 in
set_option maxRecDepth 100000 in
theorem tX12_forged {g : xG} (hg : x_inj (WM g))  (l : Launch) (a0 : Int32) (a1 : Int32) (a2 : Int32) (a3 : Int32) (M : xMem) (post : Int32 → xMem → Prop)  (h : wX12_forged a0 a1 a2 a3 M post) : xMet (WM g) l yX12_forged cX12_forged 6 (some .int) (rm_X12_forged) [.ref (ga g 0), .int a0, .int a1, .int a2, .int a3] M (pI post) := by
  refine x_enter (own := RX12) (L0 := [(0, .ref (ga g 0)), (1, .int a0), (2, .int a1), (3, .int a2), (4, .int a3)]) (by decide +kernel) rfl hg (x_stM g) (Nat.le_of_ble_eq_true rfl) rfl (fun x hl C => ?_)
  unfold wX12_forged at h
  refine x_iload_n C 1 rfl rfl dX12_forged_0 ?_
  refine x_i2l C dX12_forged_1 ?_
  refine x_lconst C (v1 := 1) dX12_forged_2 (by decide) ?_
  refine x_ldc2 C (v1 := 1023) (wcl_X12_283) dX12_forged_3 ?_
  refine x_callS C (st := []) (As := [.long ((a0 : Int32).toInt64), .long 1, .long 1023]) (tX12_lies hg _ _ _ _ _ _  h) wm_X12_222 wsm_X12_lies wz_X12 wc_X12_lies yd_X12_lies rfl ⟨rfl, rfl⟩ ⟨Nat.le_of_ble_eq_true rfl, Nat.le_of_ble_eq_true rfl⟩ (Nat.le_of_ble_eq_true rfl) rfl dX12_forged_6 (x_ki (fun r2 M1 h => ?_))
  refine x_if_eq C (tgt := 62) dX12_forged_9 (by decide) (fun hq3 => ?_) (fun hq3 => ?_)
  · replace h := x_ift hq3 h
    refine x_iconst C (v1 := (-1)) dX12_forged_62 (by decide) ?_
    exact x_iret C dX12_forged_63 ⟨_, rfl, h⟩
  · replace h := x_iff hq3 h
    refine x_iload_n C 2 rfl rfl dX12_forged_12 ?_
    refine x_i2l C dX12_forged_13 ?_
    refine x_lconst C (v1 := 0) dX12_forged_14 (by decide) ?_
    refine x_ldc2 C (v1 := 1023) (wcl_X12_283) dX12_forged_15 ?_
    refine x_callS C (st := []) (As := [.long ((a1 : Int32).toInt64), .long 0, .long 1023]) (tX12_lies hg _ _ _ _ _ _  h) wm_X12_222 wsm_X12_lies wz_X12 wc_X12_lies yd_X12_lies rfl ⟨rfl, rfl⟩ ⟨Nat.le_of_ble_eq_true rfl, Nat.le_of_ble_eq_true rfl⟩ (Nat.le_of_ble_eq_true rfl) rfl dX12_forged_18 (x_ki (fun r5 M4 h => ?_))
    refine x_if_eq C (tgt := 62) dX12_forged_21 (by decide) (fun hq6 => ?_) (fun hq6 => ?_)
    · replace h := x_ift hq6 h
      refine x_iconst C (v1 := (-1)) dX12_forged_62 (by decide) ?_
      exact x_iret C dX12_forged_63 ⟨_, rfl, h⟩
    · replace h := x_iff hq6 h
      refine x_iload_n C 3 rfl rfl dX12_forged_24 ?_
      refine x_i2l C dX12_forged_25 ?_
      refine x_ldc2 C (v1 := (-1)) (wcl_X12_623) dX12_forged_26 ?_
      refine x_ldc2 C (v1 := 9) (wcl_X12_457) dX12_forged_29 ?_
      refine x_callS C (st := []) (As := [.long ((a2 : Int32).toInt64), .long (-1), .long 9]) (tX12_lies hg _ _ _ _ _ _  h) wm_X12_222 wsm_X12_lies wz_X12 wc_X12_lies yd_X12_lies rfl ⟨rfl, rfl⟩ ⟨Nat.le_of_ble_eq_true rfl, Nat.le_of_ble_eq_true rfl⟩ (Nat.le_of_ble_eq_true rfl) rfl dX12_forged_32 (x_ki (fun r8 M7 h => ?_))
      refine x_if_eq C (tgt := 62) dX12_forged_35 (by decide) (fun hq9 => ?_) (fun hq9 => ?_)
      · replace h := x_ift hq9 h
        refine x_iconst C (v1 := (-1)) dX12_forged_62 (by decide) ?_
        exact x_iret C dX12_forged_63 ⟨_, rfl, h⟩
      · replace h := x_iff hq9 h
        refine x_iload_n C 3 rfl rfl dX12_forged_38 ?_
        refine x_iconst C (v1 := (-1)) dX12_forged_39 (by decide) ?_
        refine x_icmp_eq C (tgt := 51) dX12_forged_40 (by decide) (fun hq10 => ?_) (fun hq10 => ?_)
        · replace h := x_ift hq10 h
          exact tX12_forged_51 hg  C   _ _ _ _ _  h
        · replace h := x_iff hq10 h
          refine x_iload_n C 2 rfl rfl dX12_forged_43 ?_
          refine x_iload_n C 3 rfl rfl dX12_forged_44 ?_
          refine x_callS C (st := []) (As := [.int a1, .int a2]) (tX12_has hg _ _ _ _ _  h) wm_X12_194 wsm_X12_has wz_X12 wc_X12_has yd_X12_has rfl ⟨rfl, rfl⟩ ⟨Nat.le_of_ble_eq_true rfl, Nat.le_of_ble_eq_true rfl⟩ (Nat.le_of_ble_eq_true rfl) rfl dX12_forged_45 (x_ki (fun r12 M11 h => ?_))
          refine x_if_eq C (tgt := 62) dX12_forged_48 (by decide) (fun hq13 => ?_) (fun hq13 => ?_)
          · replace h := x_ift hq13 h
            refine x_iconst C (v1 := (-1)) dX12_forged_62 (by decide) ?_
            exact x_iret C dX12_forged_63 ⟨_, rfl, h⟩
          · replace h := x_iff hq13 h
            exact tX12_forged_51 hg  C   _ _ _ _ _  h
set_option maxHeartbeats 4000000 in
set_option maxRecDepth 100000 in
theorem tX12_isYawned_94 {g : xG} (hg : x_inj (WM g))  {x : xCx}  {K14 : Int32 → Int32 → Int32 → Int32 → Int32 → Int32 → Int32 → xMem → Prop} {post : Int32 → xMem → Prop} (C : xOk (WM g) x cX12_isYawned RX12 8 (some .boolean) (rm_X12_isYawned) (pI post))  (hK14 : ∀ (x1 : Int32) (x2 : Int32) (x3 : Int32) (x4 : Int32) (x5 : Int32) (x6 : Int32) (x7 : Int32) (M : xMem), K14 x1 x2 x3 x4 x5 x6 x7 M → xW (WM g) x 8 14 [(0, .ref (ga g 0)), (1, .int x1), (2, .int x2), (3, .int x3), (4, .int x4), (5, .int x5), (6, .int x6), (7, .int x7)] [] M) (x1 : Int32) (x2 : Int32) (x3 : Int32) (x4 : Int32) (x5 : Int32) (x6 : Int32) (x7 : Int32) (M : xMem)  (h : wX12_isYawned_94 K14 post x1 x2 x3 x4 x5 x6 x7 M) : xW (WM g) x 8 94 [(0, .ref (ga g 0)), (1, .int x1), (2, .int x2), (3, .int x3), (4, .int x4), (5, .int x5), (6, .int x6), (7, .int x7)] [] M := by
  unfold wX12_isYawned_94 at h
  obtain ⟨v1, ev1⟩ : ∃ z : Int32, z = x7 + 1 := ⟨_, rfl⟩
  replace h := h v1 ev1
  refine x_iinc C 7 (v1 := v1) (L' := [(7, .int v1), (0, .ref (ga g 0)), (1, .int x1), (2, .int x2), (3, .int x3), (4, .int x4), (5, .int x5), (6, .int x6)]) rfl (by rw [ev1]; rfl) rfl (Nat.le_of_ble_eq_true rfl) dX12_isYawned_94 ?_
  refine x_goto C (tgt := 14) dX12_isYawned_97 (by decide) ?_
  refine x_loc (L' := [(0, .ref (ga g 0)), (1, .int x1), (2, .int x2), (3, .int x3), (4, .int x4), (5, .int x5), (6, .int x6), (7, .int v1)]) [1, 2, 3, 4, 5, 6, 7, 0] rfl ?_
  exact hK14 _ _ _ _ _ _ _ _  h
set_option maxHeartbeats 4000000 in
set_option maxRecDepth 100000 in
theorem tX12_isYawned_62 {g : xG} (hg : x_inj (WM g))  {x : xCx}  {K14 : Int32 → Int32 → Int32 → Int32 → Int32 → Int32 → Int32 → xMem → Prop} {post : Int32 → xMem → Prop} (C : xOk (WM g) x cX12_isYawned RX12 8 (some .boolean) (rm_X12_isYawned) (pI post))  (hK14 : ∀ (x1 : Int32) (x2 : Int32) (x3 : Int32) (x4 : Int32) (x5 : Int32) (x6 : Int32) (x7 : Int32) (M : xMem), K14 x1 x2 x3 x4 x5 x6 x7 M → xW (WM g) x 8 14 [(0, .ref (ga g 0)), (1, .int x1), (2, .int x2), (3, .int x3), (4, .int x4), (5, .int x5), (6, .int x6), (7, .int x7)] [] M) (x1 : Int32) (x2 : Int32) (x3 : Int32) (x4 : Int32) (x5 : Int32) (x6 : Int32) (x7 : Int32) (M : xMem)  (h : wX12_isYawned_62 K14 post x1 x2 x3 x4 x5 x6 x7 M) : xW (WM g) x 8 62 [(0, .ref (ga g 0)), (1, .int x1), (2, .int x2), (3, .int x3), (4, .int x4), (5, .int x5), (6, .int x6), (7, .int x7)] [] M := by
  unfold wX12_isYawned_62 at h
  refine x_iload C 7 rfl dX12_isYawned_62 ?_
  refine x_iload C 6 rfl dX12_isYawned_64 ?_
  refine x_iload_n C 2 rfl rfl dX12_isYawned_66 ?_
  refine x_isub C dX12_isYawned_67 ?_
  refine x_icmp_le C (tgt := 94) dX12_isYawned_68 (by decide) (fun hq1 => ?_) (fun hq1 => ?_)
  · replace h := x_ift hq1 h
    exact tX12_isYawned_94 hg  C  hK14 _ _ _ _ _ _ _ _  h
  · replace h := x_iff hq1 h
    refine x_aload_n C 0 rfl rfl dX12_isYawned_71 ?_
    refine x_iload C 7 rfl dX12_isYawned_72 ?_
    refine x_iload C 6 rfl dX12_isYawned_74 ?_
    refine x_isub C dX12_isYawned_76 ?_
    refine x_iload_n C 2 rfl rfl dX12_isYawned_77 ?_
    refine x_iadd C dX12_isYawned_78 ?_
    refine x_iconst C (v1 := 1) dX12_isYawned_79 (by decide) ?_
    refine x_isub C dX12_isYawned_80 ?_
    refine x_callV C (st := []) (As := [.int (((x7 - x6) + x2) - 1)]) (c := 0) (ci := 12) (enM_12 (c := 0) rfl) (Nat.le_of_ble_eq_true rfl) rfl (tX12_byteAt hg _ _ _ _  h) wm_X12_612 wi_X12_byteAt wv_X12_byteAt wz_X12 wc_X12_byteAt rfl yd_X12_byteAt rfl ⟨rfl, rfl⟩ ⟨Nat.le_of_ble_eq_true rfl, Nat.le_of_ble_eq_true rfl⟩ (Nat.le_of_ble_eq_true rfl) rfl dX12_isYawned_81 (x_ki (fun r3 M2 h => ?_))
    refine x_iload C 5 rfl dX12_isYawned_84 ?_
    refine x_callS C (st := [.int r3]) (As := [.int x5]) (tX12_sizeOf hg _ _ _ _  h) wm_X12_289 wsm_X12_sizeOf wz_X12 wc_X12_sizeOf yd_X12_sizeOf rfl ⟨rfl, rfl⟩ ⟨Nat.le_of_ble_eq_true rfl, Nat.le_of_ble_eq_true rfl⟩ (Nat.le_of_ble_eq_true rfl) rfl dX12_isYawned_86 (x_ki (fun r5 M4 h => ?_))
    refine x_icmp_eq C (tgt := 94) dX12_isYawned_89 (by decide) (fun hq6 => ?_) (fun hq6 => ?_)
    · replace h := x_ift hq6 h
      exact tX12_isYawned_94 hg  C  hK14 _ _ _ _ _ _ _ _  h
    · replace h := x_iff hq6 h
      refine x_iconst C (v1 := 0) dX12_isYawned_92 (by decide) ?_
      exact x_zret C rfl dX12_isYawned_93 ⟨_, rfl, h⟩
set_option maxHeartbeats 4000000 in
set_option maxRecDepth 100000 in
theorem tX12_isYawned_14 {g : xG} (hg : x_inj (WM g))  {x : xCx}   {post : Int32 → xMem → Prop} (C : xOk (WM g) x cX12_isYawned RX12 8 (some .boolean) (rm_X12_isYawned) (pI post))   : ∀ (n : Nat) (x1 : Int32) (x2 : Int32) (x3 : Int32) (x4 : Int32) (x5 : Int32) (x6 : Int32) (x7 : Int32) (M : xMem), wX12_isYawned_14 post n x1 x2 x3 x4 x5 x6 x7 M → xW (WM g) x 8 14 [(0, .ref (ga g 0)), (1, .int x1), (2, .int x2), (3, .int x3), (4, .int x4), (5, .int x5), (6, .int x6), (7, .int x7)] [] M := by
  intro n
  induction n with
  | zero =>
    intro x1 x2 x3 x4 x5 x6 x7 M  h
    exact h.elim
  | succ n ih =>
    intro x1 x2 x3 x4 x5 x6 x7 M  h
    rw [wX12_isYawned_14] at h
    refine x_iload C 7 rfl dX12_isYawned_14 ?_
    refine x_iload C 6 rfl dX12_isYawned_16 ?_
    refine x_icmp_gt C (tgt := 100) dX12_isYawned_18 (by decide) (fun hq1 => ?_) (fun hq1 => ?_)
    · replace h := x_ift hq1 h
      refine x_iconst C (v1 := 1) dX12_isYawned_100 (by decide) ?_
      exact x_zret C rfl dX12_isYawned_101 ⟨_, rfl, h⟩
    · replace h := x_iff hq1 h
      refine x_iload C 5 rfl dX12_isYawned_21 ?_
      refine x_aload_n C 0 rfl rfl dX12_isYawned_23 ?_
      refine x_get C (c := 0) (ci := 12) (k1 := 12) (v1 := .ref (ga g 4)) (enM_12 (c := 0) rfl) (Nat.le_of_ble_eq_true rfl) rfl inX12 (by decide) wf_X12_25 rfl dX12_isYawned_24 ?_
      refine x_bipush C (v1 := 72) dX12_isYawned_27 (by decide) ?_
      refine x_iload_n C 1 rfl rfl dX12_isYawned_29 ?_
      refine x_imul C dX12_isYawned_30 ?_
      refine x_iload C 7 rfl dX12_isYawned_31 ?_
      refine x_iadd C dX12_isYawned_33 ?_
      refine x_iconst C (v1 := 1) dX12_isYawned_34 (by decide) ?_
      refine x_isub C dX12_isYawned_35 ?_
      obtain ⟨hi2, h⟩ := h
      refine x_iald C 0 (c := 4) (enM_20n (c := 4) (n := 432) rfl rfl) (Nat.le_of_ble_eq_true rfl) rfl hi2 dX12_isYawned_36 ?_
      refine x_callS C (st := []) (As := [.int x5, .int (gi M 4 (((72 * x1) + x7) - 1).toNatClampNeg)]) (tX12_turned hg _ _ _ _ _  h) wm_X12_275 wsm_X12_turned wz_X12 wc_X12_turned yd_X12_turned rfl ⟨rfl, rfl⟩ ⟨Nat.le_of_ble_eq_true rfl, Nat.le_of_ble_eq_true rfl⟩ (Nat.le_of_ble_eq_true rfl) rfl dX12_isYawned_37 (x_ki (fun r4 M3 h => ?_))
      refine x_istore C (L' := [(5, .int r4), (0, .ref (ga g 0)), (1, .int x1), (2, .int x2), (3, .int x3), (4, .int x4), (6, .int x6), (7, .int x7)]) rfl (Nat.le_of_ble_eq_true rfl) dX12_isYawned_40 ?_
      refine x_iload C 7 rfl dX12_isYawned_42 ?_
      refine x_iload C 5 rfl dX12_isYawned_44 ?_
      refine x_icmp_ne C (tgt := 62) dX12_isYawned_46 (by decide) (fun hq5 => ?_) (fun hq5 => ?_)
      · replace h := x_iff hq5 h
        refine x_loc (L' := [(0, .ref (ga g 0)), (1, .int x1), (2, .int x2), (3, .int x3), (4, .int x4), (5, .int r4), (6, .int x6), (7, .int x7)]) [1, 2, 3, 4, 5, 0, 6, 7] rfl ?_
        exact tX12_isYawned_62 hg  C  ih _ _ _ _ _ _ _ _  h
      · replace h := x_ift hq5 h
        refine x_iload C 0 rfl dX12_isYawned_49 ?_
        refine x_aload_n C 1 rfl rfl dX12_isYawned_51 ?_
        refine x_get C (c := 0) (ci := 12) (k1 := 52) (v1 := .ref (ga g 26)) (enM_12 (c := 0) rfl) (Nat.le_of_ble_eq_true rfl) rfl inX12 (by decide) wf_X12_91 rfl dX12_isYawned_52 ?_
        refine x_iload_n C 4 rfl rfl dX12_isYawned_55 ?_
        obtain ⟨hi6, h⟩ := h
        refine x_iald C 0 (c := 26) (enM_20n (c := 26) (n := 10) rfl rfl) (Nat.le_of_ble_eq_true rfl) rfl hi6 dX12_isYawned_56 ?_
        refine x_iconst C (v1 := (-1)) dX12_isYawned_57 (by decide) ?_
        refine x_ixor C dX12_isYawned_58 ?_
        refine x_iand C dX12_isYawned_59 ?_
        refine x_nm (fun v7 ev7 => ?_)
        replace h := h v7 ev7
        refine x_istore C (L' := [(5, .int v7), (0, .ref (ga g 0)), (1, .int x1), (2, .int x2), (3, .int x3), (4, .int x4), (6, .int x6), (7, .int x7)]) rfl (Nat.le_of_ble_eq_true rfl) dX12_isYawned_60 ?_
        refine x_loc (L' := [(0, .ref (ga g 0)), (1, .int x1), (2, .int x2), (3, .int x3), (4, .int x4), (5, .int v7), (6, .int x6), (7, .int x7)]) [1, 2, 3, 4, 5, 0, 6, 7] rfl ?_
        exact tX12_isYawned_62 hg  C  ih _ _ _ _ _ _ _ _  h
set_option maxHeartbeats 4000000 in
set_option maxRecDepth 100000 in
theorem tX12_isYawned {g : xG} (hg : x_inj (WM g))  (l : Launch) (a0 : Int32) (a1 : Int32) (a2 : Int32) (a3 : Int32) (M : xMem) (post : Int32 → xMem → Prop)  (h : wX12_isYawned a0 a1 a2 a3 M post) : xMet (WM g) l yX12_isYawned cX12_isYawned 8 (some .boolean) (rm_X12_isYawned) [.ref (ga g 0), .int a0, .int a1, .int a2, .int a3] M (pI post) := by
  refine x_enter (own := RX12) (L0 := [(0, .ref (ga g 0)), (1, .int a0), (2, .int a1), (3, .int a2), (4, .int a3)]) (by decide +kernel) rfl hg (x_stM g) (Nat.le_of_ble_eq_true rfl) rfl (fun x hl C => ?_)
  unfold wX12_isYawned at h
  refine x_iconst C (v1 := 0) dX12_isYawned_0 (by decide) ?_
  refine x_istore C (L' := [(5, .int 0), (0, .ref (ga g 0)), (1, .int a0), (2, .int a1), (3, .int a2), (4, .int a3)]) rfl (Nat.le_of_ble_eq_true rfl) dX12_isYawned_1 ?_
  refine x_aload_n C 1 rfl rfl dX12_isYawned_3 ?_
  refine x_get C (c := 0) (ci := 12) (k1 := 11) (v1 := .ref (ga g 3)) (enM_12 (c := 0) rfl) (Nat.le_of_ble_eq_true rfl) rfl inX12 (by decide) wf_X12_21 rfl dX12_isYawned_4 ?_
  refine x_iload_n C 2 rfl rfl dX12_isYawned_7 ?_
  obtain ⟨hi1, h⟩ := h
  refine x_iald C 0 (c := 3) (enM_20n (c := 3) (n := 6) rfl rfl) (Nat.le_of_ble_eq_true rfl) rfl hi1 dX12_isYawned_8 ?_
  refine x_nm (fun v2 ev2 => ?_)
  replace h := h v2 ev2
  refine x_istore C (L' := [(6, .int v2), (5, .int 0), (0, .ref (ga g 0)), (1, .int a0), (2, .int a1), (3, .int a2), (4, .int a3)]) rfl (Nat.le_of_ble_eq_true rfl) dX12_isYawned_9 ?_
  refine x_iconst C (v1 := 1) dX12_isYawned_11 (by decide) ?_
  refine x_istore C (L' := [(7, .int 1), (6, .int v2), (5, .int 0), (0, .ref (ga g 0)), (1, .int a0), (2, .int a1), (3, .int a2), (4, .int a3)]) rfl (Nat.le_of_ble_eq_true rfl) dX12_isYawned_12 ?_
  refine x_loc (L' := [(0, .ref (ga g 0)), (1, .int a0), (2, .int a1), (3, .int a2), (4, .int a3), (5, .int 0), (6, .int v2), (7, .int 1)]) [3, 4, 5, 6, 7, 2, 1, 0] rfl ?_
  obtain ⟨n14, h⟩ := h
  exact tX12_isYawned_14 hg  C   _ _ _ _ _ _ _ _ _  h
set_option maxHeartbeats 4000000 in
set_option maxRecDepth 100000 in
theorem tX12_yawns_126 {g : xG} (hg : x_inj (WM g))  {x : xCx}  {K67 : Int32 → Int32 → Int32 → Int32 → Int32 → Int32 → xMem → Prop} {K77 : Int32 → Int32 → Int32 → Int32 → Int32 → Int32 → Int32 → xMem → Prop} {post : Int32 → xMem → Prop} (C : xOk (WM g) x cX12_yawns RX12 8 (some .int) (rm_X12_yawns) (pI post))  (hK67 : ∀ (x1 : Int32) (x2 : Int32) (x3 : Int32) (x4 : Int32) (x5 : Int32) (x6 : Int32) (M : xMem), K67 x1 x2 x3 x4 x5 x6 M → xW (WM g) x 8 67 [(0, .ref (ga g 0)), (1, .int x1), (2, .int x2), (3, .int x3), (4, .int x4), (5, .int x5), (6, .int x6)] [] M) (hK77 : ∀ (x1 : Int32) (x2 : Int32) (x3 : Int32) (x4 : Int32) (x5 : Int32) (x6 : Int32) (x7 : Int32) (M : xMem), K77 x1 x2 x3 x4 x5 x6 x7 M → xW (WM g) x 8 77 [(0, .ref (ga g 0)), (1, .int x1), (2, .int x2), (3, .int x3), (4, .int x4), (5, .int x5), (6, .int x6), (7, .int x7)] [] M) (x1 : Int32) (x2 : Int32) (x3 : Int32) (x4 : Int32) (x5 : Int32) (x6 : Int32) (x7 : Int32) (M : xMem)  (h : wX12_yawns_126 K67 K77 post x1 x2 x3 x4 x5 x6 x7 M) : xW (WM g) x 8 126 [(0, .ref (ga g 0)), (1, .int x1), (2, .int x2), (3, .int x3), (4, .int x4), (5, .int x5), (6, .int x6), (7, .int x7)] [] M := by
  unfold wX12_yawns_126 at h
  obtain ⟨v1, ev1⟩ : ∃ z : Int32, z = x7 + 1 := ⟨_, rfl⟩
  replace h := h v1 ev1
  refine x_iinc C 7 (v1 := v1) (L' := [(7, .int v1), (0, .ref (ga g 0)), (1, .int x1), (2, .int x2), (3, .int x3), (4, .int x4), (5, .int x5), (6, .int x6)]) rfl (by rw [ev1]; rfl) rfl (Nat.le_of_ble_eq_true rfl) dX12_yawns_126 ?_
  refine x_goto C (tgt := 77) dX12_yawns_129 (by decide) ?_
  refine x_loc (L' := [(0, .ref (ga g 0)), (1, .int x1), (2, .int x2), (3, .int x3), (4, .int x4), (5, .int x5), (6, .int x6), (7, .int v1)]) [1, 2, 3, 4, 5, 6, 7, 0] rfl ?_
  exact hK77 _ _ _ _ _ _ _ _  h
set_option maxHeartbeats 4000000 in
set_option maxRecDepth 100000 in
theorem tX12_yawns_77 {g : xG} (hg : x_inj (WM g))  {x : xCx}  {K67 : Int32 → Int32 → Int32 → Int32 → Int32 → Int32 → xMem → Prop} {post : Int32 → xMem → Prop} (C : xOk (WM g) x cX12_yawns RX12 8 (some .int) (rm_X12_yawns) (pI post))  (hK67 : ∀ (x1 : Int32) (x2 : Int32) (x3 : Int32) (x4 : Int32) (x5 : Int32) (x6 : Int32) (M : xMem), K67 x1 x2 x3 x4 x5 x6 M → xW (WM g) x 8 67 [(0, .ref (ga g 0)), (1, .int x1), (2, .int x2), (3, .int x3), (4, .int x4), (5, .int x5), (6, .int x6)] [] M) : ∀ (n : Nat) (x1 : Int32) (x2 : Int32) (x3 : Int32) (x4 : Int32) (x5 : Int32) (x6 : Int32) (x7 : Int32) (M : xMem), wX12_yawns_77 K67 post n x1 x2 x3 x4 x5 x6 x7 M → xW (WM g) x 8 77 [(0, .ref (ga g 0)), (1, .int x1), (2, .int x2), (3, .int x3), (4, .int x4), (5, .int x5), (6, .int x6), (7, .int x7)] [] M := by
  intro n
  induction n with
  | zero =>
    intro x1 x2 x3 x4 x5 x6 x7 M  h
    exact h.elim
  | succ n ih =>
    intro x1 x2 x3 x4 x5 x6 x7 M  h
    rw [wX12_yawns_77] at h
    refine x_iload C 7 rfl dX12_yawns_77 ?_
    refine x_aload_n C 0 rfl rfl dX12_yawns_79 ?_
    refine x_get C (c := 0) (ci := 12) (k1 := 11) (v1 := .ref (ga g 3)) (enM_12 (c := 0) rfl) (Nat.le_of_ble_eq_true rfl) rfl inX12 (by decide) wf_X12_21 rfl dX12_yawns_80 ?_
    refine x_iload_n C 1 rfl rfl dX12_yawns_83 ?_
    obtain ⟨hi1, h⟩ := h
    refine x_iald C 0 (c := 3) (enM_20n (c := 3) (n := 6) rfl rfl) (Nat.le_of_ble_eq_true rfl) rfl hi1 dX12_yawns_84 ?_
    refine x_icmp_gt C (tgt := 132) dX12_yawns_85 (by decide) (fun hq2 => ?_) (fun hq2 => ?_)
    · replace h := x_ift hq2 h
      obtain ⟨v3, ev3⟩ : ∃ z : Int32, z = x6 + 1 := ⟨_, rfl⟩
      replace h := h v3 ev3
      refine x_iinc C 6 (v1 := v3) (L' := [(6, .int v3), (0, .ref (ga g 0)), (1, .int x1), (2, .int x2), (3, .int x3), (4, .int x4), (5, .int x5), (7, .int x7)]) rfl (by rw [ev3]; rfl) rfl (Nat.le_of_ble_eq_true rfl) dX12_yawns_132 ?_
      refine x_goto C (tgt := 67) dX12_yawns_135 (by decide) ?_
      refine x_loc (L' := [(0, .ref (ga g 0)), (1, .int x1), (2, .int x2), (3, .int x3), (4, .int x4), (5, .int x5), (6, .int v3)]) [1, 2, 3, 4, 5, 6, 0] rfl ?_
      exact hK67 _ _ _ _ _ _ _  h
    · replace h := x_iff hq2 h
      refine x_aload_n C 0 rfl rfl dX12_yawns_88 ?_
      refine x_get C (c := 0) (ci := 12) (k1 := 51) (v1 := .ref (ga g 25)) (enM_12 (c := 0) rfl) (Nat.le_of_ble_eq_true rfl) rfl inX12 (by decide) wf_X12_88 rfl dX12_yawns_89 ?_
      refine x_iload C 6 rfl dX12_yawns_92 ?_
      obtain ⟨hi4, h⟩ := h
      refine x_zald C 2 (c := 25) (enM_24n (c := 25) (n := 10) rfl rfl) (Nat.le_of_ble_eq_true rfl) rfl hi4 dX12_yawns_94 ?_
      refine x_if_eq C (tgt := 126) dX12_yawns_95 (by decide) (fun hq5 => ?_) (fun hq5 => ?_)
      · replace h := x_ift hq5 h
        exact tX12_yawns_126 hg  C  hK67 ih _ _ _ _ _ _ _ _  h
      · replace h := x_iff hq5 h
        refine x_aload_n C 0 rfl rfl dX12_yawns_98 ?_
        refine x_iload_n C 1 rfl rfl dX12_yawns_99 ?_
        refine x_iload_n C 2 rfl rfl dX12_yawns_100 ?_
        refine x_iload C 6 rfl dX12_yawns_101 ?_
        refine x_iload C 7 rfl dX12_yawns_103 ?_
        refine x_callV C (st := []) (As := [.int x1, .int x2, .int x6, .int x7]) (c := 0) (ci := 12) (enM_12 (c := 0) rfl) (Nat.le_of_ble_eq_true rfl) rfl (tX12_isYawned hg _ _ _ _ _ _ _  h) wm_X12_633 wi_X12_isYawned wv_X12_isYawned wz_X12 wc_X12_isYawned rfl yd_X12_isYawned rfl ⟨rfl, rfl⟩ ⟨Nat.le_of_ble_eq_true rfl, Nat.le_of_ble_eq_true rfl⟩ (Nat.le_of_ble_eq_true rfl) rfl dX12_yawns_105 (x_ki (fun r7 M6 h => ?_))
        refine x_if_ne C (tgt := 114) dX12_yawns_108 (by decide) (fun hq8 => ?_) (fun hq8 => ?_)
        · replace h := x_iff hq8 h
          refine x_iload C 4 rfl dX12_yawns_114 ?_
          refine x_iconst C (v1 := 1) dX12_yawns_116 (by decide) ?_
          refine x_iload C 6 rfl dX12_yawns_117 ?_
          refine x_ishl C dX12_yawns_119 ?_
          refine x_ior C dX12_yawns_120 ?_
          refine x_nm (fun v9 ev9 => ?_)
          replace h := h v9 ev9
          refine x_istore C (L' := [(4, .int v9), (0, .ref (ga g 0)), (1, .int x1), (2, .int x2), (3, .int x3), (5, .int x5), (6, .int x6), (7, .int x7)]) rfl (Nat.le_of_ble_eq_true rfl) dX12_yawns_121 ?_
          obtain ⟨v10, ev10⟩ : ∃ z : Int32, z = x5 + 1 := ⟨_, rfl⟩
          replace h := h v10 ev10
          refine x_iinc C 5 (v1 := v10) (L' := [(5, .int v10), (4, .int v9), (0, .ref (ga g 0)), (1, .int x1), (2, .int x2), (3, .int x3), (6, .int x6), (7, .int x7)]) rfl (by rw [ev10]; rfl) rfl (Nat.le_of_ble_eq_true rfl) dX12_yawns_123 ?_
          refine x_loc (L' := [(0, .ref (ga g 0)), (1, .int x1), (2, .int x2), (3, .int x3), (4, .int v9), (5, .int v10), (6, .int x6), (7, .int x7)]) [2, 3, 4, 5, 1, 0, 6, 7] rfl ?_
          exact tX12_yawns_126 hg  C  hK67 ih _ _ _ _ _ _ _ _  h
        · replace h := x_ift hq8 h
          refine x_goto C (tgt := 126) dX12_yawns_111 (by decide) ?_
          exact tX12_yawns_126 hg  C  hK67 ih _ _ _ _ _ _ _ _  h
set_option maxHeartbeats 4000000 in
set_option maxRecDepth 100000 in
theorem tX12_yawns_67 {g : xG} (hg : x_inj (WM g))  {x : xCx}   {post : Int32 → xMem → Prop} (C : xOk (WM g) x cX12_yawns RX12 8 (some .int) (rm_X12_yawns) (pI post))   : ∀ (n : Nat) (x1 : Int32) (x2 : Int32) (x3 : Int32) (x4 : Int32) (x5 : Int32) (x6 : Int32) (M : xMem), wX12_yawns_67 post n x1 x2 x3 x4 x5 x6 M → xW (WM g) x 8 67 [(0, .ref (ga g 0)), (1, .int x1), (2, .int x2), (3, .int x3), (4, .int x4), (5, .int x5), (6, .int x6)] [] M := by
  intro n
  induction n with
  | zero =>
    intro x1 x2 x3 x4 x5 x6 M  h
    exact h.elim
  | succ n ih =>
    intro x1 x2 x3 x4 x5 x6 M  h
    rw [wX12_yawns_67] at h
    refine x_iload C 6 rfl dX12_yawns_67 ?_
    refine x_bipush C (v1 := 10) dX12_yawns_69 (by decide) ?_
    refine x_icmp_ge C (tgt := 138) dX12_yawns_71 (by decide) (fun hq1 => ?_) (fun hq1 => ?_)
    · replace h := x_ift hq1 h
      refine x_iload_n C 3 rfl rfl dX12_yawns_138 ?_
      refine x_if_ne C (tgt := 147) dX12_yawns_139 (by decide) (fun hq2 => ?_) (fun hq2 => ?_)
      · replace h := x_iff hq2 h
        refine x_iload C 5 rfl dX12_yawns_147 ?_
        exact x_iret C dX12_yawns_149 ⟨_, rfl, h⟩
      · replace h := x_ift hq2 h
        refine x_iload C 4 rfl dX12_yawns_142 ?_
        refine x_goto C (tgt := 149) dX12_yawns_144 (by decide) ?_
        exact x_iret C dX12_yawns_149 ⟨_, rfl, h⟩
    · replace h := x_iff hq1 h
      refine x_iconst C (v1 := 1) dX12_yawns_74 (by decide) ?_
      refine x_istore C (L' := [(7, .int 1), (0, .ref (ga g 0)), (1, .int x1), (2, .int x2), (3, .int x3), (4, .int x4), (5, .int x5), (6, .int x6)]) rfl (Nat.le_of_ble_eq_true rfl) dX12_yawns_75 ?_
      refine x_loc (L' := [(0, .ref (ga g 0)), (1, .int x1), (2, .int x2), (3, .int x3), (4, .int x4), (5, .int x5), (6, .int x6), (7, .int 1)]) [1, 2, 3, 4, 5, 6, 7, 0] rfl ?_
      obtain ⟨n77, h⟩ := h
      exact tX12_yawns_77 hg  C  ih _ _ _ _ _ _ _ _ _  h
set_option maxHeartbeats 4000000 in
set_option maxRecDepth 100000 in
theorem tX12_yawns {g : xG} (hg : x_inj (WM g))  (l : Launch) (a0 : Int32) (a1 : Int32) (a2 : Int32) (M : xMem) (post : Int32 → xMem → Prop)  (h : wX12_yawns a0 a1 a2 M post) : xMet (WM g) l yX12_yawns cX12_yawns 8 (some .int) (rm_X12_yawns) [.ref (ga g 0), .int a0, .int a1, .int a2] M (pI post) := by
  refine x_enter (own := RX12) (L0 := [(0, .ref (ga g 0)), (1, .int a0), (2, .int a1), (3, .int a2)]) (by decide +kernel) rfl hg (x_stM g) (Nat.le_of_ble_eq_true rfl) rfl (fun x hl C => ?_)
  unfold wX12_yawns at h
  refine x_aload_n C 0 rfl rfl dX12_yawns_0 ?_
  refine x_iload_n C 1 rfl rfl dX12_yawns_1 ?_
  refine x_callV C (st := []) (As := [.int a0]) (c := 0) (ci := 12) (enM_12 (c := 0) rfl) (Nat.le_of_ble_eq_true rfl) rfl (tX12_isTold hg _ _ _ _  h) wm_X12_279 wi_X12_isTold wv_X12_isTold wz_X12 wc_X12_isTold rfl yd_X12_isTold rfl ⟨rfl, rfl⟩ ⟨Nat.le_of_ble_eq_true rfl, Nat.le_of_ble_eq_true rfl⟩ (Nat.le_of_ble_eq_true rfl) rfl dX12_yawns_2 (x_ki (fun r2 M1 h => ?_))
  refine x_if_eq C (tgt := 38) dX12_yawns_5 (by decide) (fun hq3 => ?_) (fun hq3 => ?_)
  · replace h := x_ift hq3 h
    refine x_iconst C (v1 := (-1)) dX12_yawns_38 (by decide) ?_
    exact x_iret C dX12_yawns_39 ⟨_, rfl, h⟩
  · replace h := x_iff hq3 h
    refine x_iload_n C 2 rfl rfl dX12_yawns_8 ?_
    refine x_i2l C dX12_yawns_9 ?_
    refine x_lconst C (v1 := 1) dX12_yawns_10 (by decide) ?_
    refine x_ldc2 C (v1 := 20) (wcl_X12_631) dX12_yawns_11 ?_
    refine x_callS C (st := []) (As := [.long ((a1 : Int32).toInt64), .long 1, .long 20]) (tX12_lies hg _ _ _ _ _ _  h) wm_X12_222 wsm_X12_lies wz_X12 wc_X12_lies yd_X12_lies rfl ⟨rfl, rfl⟩ ⟨Nat.le_of_ble_eq_true rfl, Nat.le_of_ble_eq_true rfl⟩ (Nat.le_of_ble_eq_true rfl) rfl dX12_yawns_14 (x_ki (fun r5 M4 h => ?_))
    refine x_if_eq C (tgt := 38) dX12_yawns_17 (by decide) (fun hq6 => ?_) (fun hq6 => ?_)
    · replace h := x_ift hq6 h
      refine x_iconst C (v1 := (-1)) dX12_yawns_38 (by decide) ?_
      exact x_iret C dX12_yawns_39 ⟨_, rfl, h⟩
    · replace h := x_iff hq6 h
      refine x_iload_n C 3 rfl rfl dX12_yawns_20 ?_
      refine x_i2l C dX12_yawns_21 ?_
      refine x_lconst C (v1 := 0) dX12_yawns_22 (by decide) ?_
      refine x_lconst C (v1 := 1) dX12_yawns_23 (by decide) ?_
      refine x_callS C (st := []) (As := [.long ((a2 : Int32).toInt64), .long 0, .long 1]) (tX12_lies hg _ _ _ _ _ _  h) wm_X12_222 wsm_X12_lies wz_X12 wc_X12_lies yd_X12_lies rfl ⟨rfl, rfl⟩ ⟨Nat.le_of_ble_eq_true rfl, Nat.le_of_ble_eq_true rfl⟩ (Nat.le_of_ble_eq_true rfl) rfl dX12_yawns_24 (x_ki (fun r8 M7 h => ?_))
      refine x_if_eq C (tgt := 38) dX12_yawns_27 (by decide) (fun hq9 => ?_) (fun hq9 => ?_)
      · replace h := x_ift hq9 h
        refine x_iconst C (v1 := (-1)) dX12_yawns_38 (by decide) ?_
        exact x_iret C dX12_yawns_39 ⟨_, rfl, h⟩
      · replace h := x_iff hq9 h
        refine x_iload_n C 2 rfl rfl dX12_yawns_30 ?_
        refine x_aload_n C 0 rfl rfl dX12_yawns_31 ?_
        refine x_get C (c := 0) (ci := 12) (k1 := 1) (v1 := .int (gi M7 0 1)) (enM_12 (c := 0) rfl) (Nat.le_of_ble_eq_true rfl) rfl inX12 (by decide) wf_X12_198 rfl dX12_yawns_32 ?_
        refine x_icmp_le C (tgt := 40) dX12_yawns_35 (by decide) (fun hq10 => ?_) (fun hq10 => ?_)
        · replace h := x_ift hq10 h
          refine x_aload_n C 0 rfl rfl dX12_yawns_40 ?_
          refine x_iconst C (v1 := 0) dX12_yawns_41 (by decide) ?_
          refine x_put C (c := 0) (ci := 12) (k1 := 1) (u1 := 0) (v1 := .int 0) (ty := .int) (enM_12 (c := 0) rfl) (Nat.le_of_ble_eq_true rfl) rfl inX12 (by decide) (stX12_1 _ _ _) tyX12 tyX12_ok nmX12 wf_X12_198 rfl rfl rfl rfl (Nat.le_of_ble_eq_true rfl) dX12_yawns_42 ?_
          refine x_nmM (fun M11 eM11 => ?_)
          replace h := h M11 eM11
          refine x_iload_n C 2 rfl rfl dX12_yawns_45 ?_
          refine x_aload_n C 0 rfl rfl dX12_yawns_46 ?_
          refine x_get C (c := 0) (ci := 12) (k1 := 11) (v1 := .ref (ga g 3)) (enM_12 (c := 0) rfl) (Nat.le_of_ble_eq_true rfl) rfl inX12 (by decide) wf_X12_21 rfl dX12_yawns_47 ?_
          refine x_iload_n C 1 rfl rfl dX12_yawns_50 ?_
          obtain ⟨hi12, h⟩ := h
          refine x_iald C 0 (c := 3) (enM_20n (c := 3) (n := 6) rfl rfl) (Nat.le_of_ble_eq_true rfl) rfl hi12 dX12_yawns_51 ?_
          refine x_icmp_le C (tgt := 58) dX12_yawns_52 (by decide) (fun hq13 => ?_) (fun hq13 => ?_)
          · replace h := x_ift hq13 h
            refine x_iconst C (v1 := 0) dX12_yawns_58 (by decide) ?_
            refine x_istore C (L' := [(4, .int 0), (0, .ref (ga g 0)), (1, .int a0), (2, .int a1), (3, .int a2)]) rfl (Nat.le_of_ble_eq_true rfl) dX12_yawns_59 ?_
            refine x_iconst C (v1 := 0) dX12_yawns_61 (by decide) ?_
            refine x_istore C (L' := [(5, .int 0), (4, .int 0), (0, .ref (ga g 0)), (1, .int a0), (2, .int a1), (3, .int a2)]) rfl (Nat.le_of_ble_eq_true rfl) dX12_yawns_62 ?_
            refine x_iconst C (v1 := 0) dX12_yawns_64 (by decide) ?_
            refine x_istore C (L' := [(6, .int 0), (5, .int 0), (4, .int 0), (0, .ref (ga g 0)), (1, .int a0), (2, .int a1), (3, .int a2)]) rfl (Nat.le_of_ble_eq_true rfl) dX12_yawns_65 ?_
            refine x_loc (L' := [(0, .ref (ga g 0)), (1, .int a0), (2, .int a1), (3, .int a2), (4, .int 0), (5, .int 0), (6, .int 0)]) [3, 4, 5, 6, 2, 1, 0] rfl ?_
            obtain ⟨n67, h⟩ := h
            exact tX12_yawns_67 hg  C   _ _ _ _ _ _ _ _  h
          · replace h := x_iff hq13 h
            refine x_bipush C (v1 := (-2)) dX12_yawns_55 (by decide) ?_
            exact x_iret C dX12_yawns_57 ⟨_, rfl, h⟩
        · replace h := x_iff hq10 h
          refine x_iconst C (v1 := (-1)) dX12_yawns_38 (by decide) ?_
          exact x_iret C dX12_yawns_39 ⟨_, rfl, h⟩
set_option maxHeartbeats 4000000 in
set_option maxRecDepth 100000 in
theorem tX12_seed {g : xG} (hg : x_inj (WM g))  (l : Launch) (a0 : Int32) (M : xMem) (post : Int32 → xMem → Prop)  (h : wX12_seed a0 M post) : xMet (WM g) l yX12_seed cX12_seed 2 (some .boolean) (rm_X12_seed) [.ref (ga g 0), .int a0] M (pI post) := by
  refine x_enter (own := RX12) (L0 := [(0, .ref (ga g 0)), (1, .int a0)]) (by decide +kernel) rfl hg (x_stM g) (Nat.le_of_ble_eq_true rfl) rfl (fun x hl C => ?_)
  unfold wX12_seed at h
  refine x_iload_n C 1 rfl rfl dX12_seed_0 ?_
  refine x_i2l C dX12_seed_1 ?_
  refine x_lconst C (v1 := 0) dX12_seed_2 (by decide) ?_
  refine x_ldc2 C (v1 := 65535) (wcl_X12_637) dX12_seed_3 ?_
  refine x_callS C (st := []) (As := [.long ((a0 : Int32).toInt64), .long 0, .long 65535]) (tX12_lies hg _ _ _ _ _ _  h) wm_X12_222 wsm_X12_lies wz_X12 wc_X12_lies yd_X12_lies rfl ⟨rfl, rfl⟩ ⟨Nat.le_of_ble_eq_true rfl, Nat.le_of_ble_eq_true rfl⟩ (Nat.le_of_ble_eq_true rfl) rfl dX12_seed_6 (x_ki (fun r2 M1 h => ?_))
  refine x_if_ne C (tgt := 14) dX12_seed_9 (by decide) (fun hq3 => ?_) (fun hq3 => ?_)
  · replace h := x_iff hq3 h
    refine x_aload_n C 0 rfl rfl dX12_seed_14 ?_
    refine x_iload_n C 1 rfl rfl dX12_seed_15 ?_
    refine x_put C (c := 0) (ci := 12) (k1 := 2) (u1 := a0) (v1 := .int a0) (ty := .int) (enM_12 (c := 0) rfl) (Nat.le_of_ble_eq_true rfl) rfl inX12 (by decide) (stX12_2 _ _ _) tyX12 tyX12_ok nmX12 wf_X12_13 rfl rfl rfl rfl (Nat.le_of_ble_eq_true rfl) dX12_seed_16 ?_
    refine x_nmM (fun M4 eM4 => ?_)
    replace h := h M4 eM4
    refine x_iconst C (v1 := 1) dX12_seed_19 (by decide) ?_
    exact x_zret C rfl dX12_seed_20 ⟨_, rfl, h⟩
  · replace h := x_ift hq3 h
    refine x_iconst C (v1 := 0) dX12_seed_12 (by decide) ?_
    exact x_zret C rfl dX12_seed_13 ⟨_, rfl, h⟩
set_option maxHeartbeats 4000000 in
set_option maxRecDepth 100000 in
theorem tX12_keep {g : xG} (hg : x_inj (WM g))  (l : Launch)  (M : xMem) (post : Int32 → xMem → Prop)  (h : wX12_keep  M post) : xMet (WM g) l yX12_keep cX12_keep 1 (some .int) (rm_X12_keep) [.ref (ga g 0)] M (pI post) := by
  refine x_enter (own := RX12) (L0 := [(0, .ref (ga g 0))]) (by decide +kernel) rfl hg (x_stM g) (Nat.le_of_ble_eq_true rfl) rfl (fun x hl C => ?_)
  unfold wX12_keep at h
  refine x_aload_n C 0 rfl rfl dX12_keep_0 ?_
  refine x_iconst C (v1 := 1) dX12_keep_1 (by decide) ?_
  refine x_put C (c := 0) (ci := 12) (k1 := 95) (u1 := 1) (v1 := .int 1) (ty := .boolean) (enM_12 (c := 0) rfl) (Nat.le_of_ble_eq_true rfl) rfl inX12 (by decide) (stX12_95 _ _ _) tyX12 tyX12_ok nmX12 wf_X12_639 rfl rfl rfl rfl (Nat.le_of_ble_eq_true rfl) dX12_keep_2 ?_
  refine x_nmM (fun M1 eM1 => ?_)
  replace h := h M1 eM1
  refine x_aload_n C 0 rfl rfl dX12_keep_5 ?_
  refine x_iconst C (v1 := 1) dX12_keep_6 (by decide) ?_
  refine x_callV C (st := []) (As := [.int 1]) (c := 0) (ci := 12) (enM_12 (c := 0) rfl) (Nat.le_of_ble_eq_true rfl) rfl (tX12_laysAside hg _ _ _ _  h) wm_X12_566 wi_X12_laysAside wv_X12_laysAside wz_X12 wc_X12_laysAside rfl yd_X12_laysAside rfl ⟨rfl, rfl⟩ ⟨Nat.le_of_ble_eq_true rfl, Nat.le_of_ble_eq_true rfl⟩ (Nat.le_of_ble_eq_true rfl) rfl dX12_keep_7 (x_kv (fun M2 h => ?_))
  refine x_aload_n C 0 rfl rfl dX12_keep_10 ?_
  refine x_get C (c := 0) (ci := 12) (k1 := 65) (v1 := .int (gi M2 0 65)) (enM_12 (c := 0) rfl) (Nat.le_of_ble_eq_true rfl) rfl inX12 (by decide) wf_X12_424 rfl dX12_keep_11 ?_
  exact x_iret C dX12_keep_14 ⟨_, rfl, h⟩
set_option maxHeartbeats 4000000 in
set_option maxRecDepth 100000 in
theorem tX12_undo {g : xG} (hg : x_inj (WM g))  (l : Launch)  (M : xMem) (post : Int32 → xMem → Prop)  (h : wX12_undo  M post) : xMet (WM g) l yX12_undo cX12_undo 1 (some .boolean) (rm_X12_undo) [.ref (ga g 0)] M (pI post) := by
  refine x_enter (own := RX12) (L0 := [(0, .ref (ga g 0))]) (by decide +kernel) rfl hg (x_stM g) (Nat.le_of_ble_eq_true rfl) rfl (fun x hl C => ?_)
  unfold wX12_undo at h
  refine x_aload_n C 0 rfl rfl dX12_undo_0 ?_
  refine x_get C (c := 0) (ci := 12) (k1 := 95) (v1 := .int (gi M 0 95)) (enM_12 (c := 0) rfl) (Nat.le_of_ble_eq_true rfl) rfl inX12 (by decide) wf_X12_639 rfl dX12_undo_1 ?_
  refine x_if_ne C (tgt := 9) dX12_undo_4 (by decide) (fun hq1 => ?_) (fun hq1 => ?_)
  · replace h := x_iff hq1 h
    refine x_aload_n C 0 rfl rfl dX12_undo_9 ?_
    refine x_iconst C (v1 := 1) dX12_undo_10 (by decide) ?_
    refine x_callV C (st := []) (As := [.int 1]) (c := 0) (ci := 12) (enM_12 (c := 0) rfl) (Nat.le_of_ble_eq_true rfl) rfl (tX12_bringsBack hg _ _ _ _  h) wm_X12_569 wi_X12_bringsBack wv_X12_bringsBack wz_X12 wc_X12_bringsBack rfl yd_X12_bringsBack rfl ⟨rfl, rfl⟩ ⟨Nat.le_of_ble_eq_true rfl, Nat.le_of_ble_eq_true rfl⟩ (Nat.le_of_ble_eq_true rfl) rfl dX12_undo_11 (x_kv (fun M2 h => ?_))
    refine x_iconst C (v1 := 1) dX12_undo_14 (by decide) ?_
    exact x_zret C rfl dX12_undo_15 ⟨_, rfl, h⟩
  · replace h := x_ift hq1 h
    refine x_iconst C (v1 := 0) dX12_undo_7 (by decide) ?_
    exact x_zret C rfl dX12_undo_8 ⟨_, rfl, h⟩
set_option maxHeartbeats 4000000 in
set_option maxRecDepth 100000 in
theorem tX12_check_59 {g : xG} (hg : x_inj (WM g))  {x : xCx}  {K30 : Int32 → Int32 → xMem → Prop} {post : Int32 → xMem → Prop} (C : xOk (WM g) x cX12_check RX12 3 (some .int) (rm_X12_check) (pI post))  (hK30 : ∀ (x1 : Int32) (x2 : Int32) (M : xMem), K30 x1 x2 M → xW (WM g) x 3 30 [(0, .ref (ga g 0)), (1, .int x1), (2, .int x2)] [] M) (x1 : Int32) (x2 : Int32) (s0 : Int32) (s1 : Int32) (M : xMem)  (h : wX12_check_59 K30 post x1 x2 s0 s1 M) : xW (WM g) x 3 59 [(0, .ref (ga g 0)), (1, .int x1), (2, .int x2)] [.int s0, .int s1] M := by
  unfold wX12_check_59 at h
  refine x_icmp_eq C (tgt := 64) dX12_check_59 (by decide) (fun hq1 => ?_) (fun hq1 => ?_)
  · replace h := x_ift hq1 h
    obtain ⟨v2, ev2⟩ : ∃ z : Int32, z = x2 + 1 := ⟨_, rfl⟩
    replace h := h v2 ev2
    refine x_iinc C 2 (v1 := v2) (L' := [(2, .int v2), (0, .ref (ga g 0)), (1, .int x1)]) rfl (by rw [ev2]; rfl) rfl (Nat.le_of_ble_eq_true rfl) dX12_check_64 ?_
    refine x_goto C (tgt := 30) dX12_check_67 (by decide) ?_
    refine x_loc (L' := [(0, .ref (ga g 0)), (1, .int x1), (2, .int v2)]) [1, 2, 0] rfl ?_
    exact hK30 _ _ _  h
  · replace h := x_iff hq1 h
    refine x_iload_n C 2 rfl rfl dX12_check_62 ?_
    exact x_iret C dX12_check_63 ⟨_, rfl, h⟩
set_option maxHeartbeats 4000000 in
set_option maxRecDepth 100000 in
theorem tX12_check_30 {g : xG} (hg : x_inj (WM g))  {x : xCx}   {post : Int32 → xMem → Prop} (C : xOk (WM g) x cX12_check RX12 3 (some .int) (rm_X12_check) (pI post))   : ∀ (n : Nat) (x1 : Int32) (x2 : Int32) (M : xMem), wX12_check_30 post n x1 x2 M → xW (WM g) x 3 30 [(0, .ref (ga g 0)), (1, .int x1), (2, .int x2)] [] M := by
  intro n
  induction n with
  | zero =>
    intro x1 x2 M  h
    exact h.elim
  | succ n ih =>
    intro x1 x2 M  h
    rw [wX12_check_30] at h
    refine x_iload_n C 2 rfl rfl dX12_check_30 ?_
    refine x_iload_n C 1 rfl rfl dX12_check_31 ?_
    refine x_icmp_ge C (tgt := 70) dX12_check_32 (by decide) (fun hq1 => ?_) (fun hq1 => ?_)
    · replace h := x_ift hq1 h
      refine x_iconst C (v1 := (-1)) dX12_check_70 (by decide) ?_
      exact x_iret C dX12_check_71 ⟨_, rfl, h⟩
    · replace h := x_iff hq1 h
      refine x_aload_n C 0 rfl rfl dX12_check_35 ?_
      refine x_iload_n C 2 rfl rfl dX12_check_36 ?_
      refine x_callV C (st := []) (As := [.int x2]) (c := 0) (ci := 12) (enM_12 (c := 0) rfl) (Nat.le_of_ble_eq_true rfl) rfl (tX12_byteAt hg _ _ _ _  h) wm_X12_612 wi_X12_byteAt wv_X12_byteAt wz_X12 wc_X12_byteAt rfl yd_X12_byteAt rfl ⟨rfl, rfl⟩ ⟨Nat.le_of_ble_eq_true rfl, Nat.le_of_ble_eq_true rfl⟩ (Nat.le_of_ble_eq_true rfl) rfl dX12_check_37 (x_ki (fun r3 M2 h => ?_))
      refine x_aload_n C 0 rfl rfl dX12_check_40 ?_
      refine x_get C (c := 0) (ci := 12) (k1 := 61) (v1 := .ref (ga g 35)) (enM_12 (c := 0) rfl) (Nat.le_of_ble_eq_true rfl) rfl inX12 (by decide) wf_X12_118 rfl dX12_check_41 ?_
      refine x_iload_n C 2 rfl rfl dX12_check_44 ?_
      obtain ⟨hi4, h⟩ := h
      refine x_zald C 2 (c := 35) (enM_24n (c := 35) (n := 10) rfl rfl) (Nat.le_of_ble_eq_true rfl) rfl hi4 dX12_check_45 ?_
      refine x_if_eq C (tgt := 58) dX12_check_46 (by decide) (fun hq5 => ?_) (fun hq5 => ?_)
      · replace h := x_ift hq5 h
        refine x_iconst C (v1 := 0) dX12_check_58 (by decide) ?_
        exact tX12_check_59 hg  C  ih _ _ _ _ _  h
      · replace h := x_iff hq5 h
        refine x_aload_n C 0 rfl rfl dX12_check_49 ?_
        refine x_get C (c := 0) (ci := 12) (k1 := 64) (v1 := .ref (ga g 38)) (enM_12 (c := 0) rfl) (Nat.le_of_ble_eq_true rfl) rfl inX12 (by decide) wf_X12_127 rfl dX12_check_50 ?_
        refine x_iload_n C 2 rfl rfl dX12_check_53 ?_
        obtain ⟨hi6, h⟩ := h
        refine x_iald C 0 (c := 38) (enM_20n (c := 38) (n := 10) rfl rfl) (Nat.le_of_ble_eq_true rfl) rfl hi6 dX12_check_54 ?_
        refine x_goto C (tgt := 59) dX12_check_55 (by decide) ?_
        exact tX12_check_59 hg  C  ih _ _ _ _ _  h
set_option maxHeartbeats 4000000 in
set_option maxRecDepth 100000 in
theorem tX12_check {g : xG} (hg : x_inj (WM g))  (l : Launch) (a0 : Int32) (M : xMem) (post : Int32 → xMem → Prop)  (h : wX12_check a0 M post) : xMet (WM g) l yX12_check cX12_check 3 (some .int) (rm_X12_check) [.ref (ga g 0), .int a0] M (pI post) := by
  refine x_enter (own := RX12) (L0 := [(0, .ref (ga g 0)), (1, .int a0)]) (by decide +kernel) rfl hg (x_stM g) (Nat.le_of_ble_eq_true rfl) rfl (fun x hl C => ?_)
  unfold wX12_check at h
  refine x_iload_n C 1 rfl rfl dX12_check_0 ?_
  refine x_i2l C dX12_check_1 ?_
  refine x_lconst C (v1 := 0) dX12_check_2 (by decide) ?_
  refine x_ldc2 C (v1 := 10) (wcl_X12_642) dX12_check_3 ?_
  refine x_callS C (st := []) (As := [.long ((a0 : Int32).toInt64), .long 0, .long 10]) (tX12_lies hg _ _ _ _ _ _  h) wm_X12_222 wsm_X12_lies wz_X12 wc_X12_lies yd_X12_lies rfl ⟨rfl, rfl⟩ ⟨Nat.le_of_ble_eq_true rfl, Nat.le_of_ble_eq_true rfl⟩ (Nat.le_of_ble_eq_true rfl) rfl dX12_check_6 (x_ki (fun r2 M1 h => ?_))
  refine x_if_eq C (tgt := 20) dX12_check_9 (by decide) (fun hq3 => ?_) (fun hq3 => ?_)
  · replace h := x_ift hq3 h
    refine x_bipush C (v1 := (-2)) dX12_check_20 (by decide) ?_
    exact x_iret C dX12_check_22 ⟨_, rfl, h⟩
  · replace h := x_iff hq3 h
    refine x_iload_n C 1 rfl rfl dX12_check_12 ?_
    refine x_aload_n C 0 rfl rfl dX12_check_13 ?_
    refine x_get C (c := 0) (ci := 12) (k1 := 1) (v1 := .int (gi M1 0 1)) (enM_12 (c := 0) rfl) (Nat.le_of_ble_eq_true rfl) rfl inX12 (by decide) wf_X12_198 rfl dX12_check_14 ?_
    refine x_icmp_le C (tgt := 23) dX12_check_17 (by decide) (fun hq4 => ?_) (fun hq4 => ?_)
    · replace h := x_ift hq4 h
      refine x_aload_n C 0 rfl rfl dX12_check_23 ?_
      refine x_iconst C (v1 := 0) dX12_check_24 (by decide) ?_
      refine x_put C (c := 0) (ci := 12) (k1 := 1) (u1 := 0) (v1 := .int 0) (ty := .int) (enM_12 (c := 0) rfl) (Nat.le_of_ble_eq_true rfl) rfl inX12 (by decide) (stX12_1 _ _ _) tyX12 tyX12_ok nmX12 wf_X12_198 rfl rfl rfl rfl (Nat.le_of_ble_eq_true rfl) dX12_check_25 ?_
      refine x_nmM (fun M5 eM5 => ?_)
      replace h := h M5 eM5
      refine x_iconst C (v1 := 0) dX12_check_28 (by decide) ?_
      refine x_istore_n C (L' := [(2, .int 0), (0, .ref (ga g 0)), (1, .int a0)]) rfl rfl (Nat.le_of_ble_eq_true rfl) dX12_check_29 ?_
      refine x_loc (L' := [(0, .ref (ga g 0)), (1, .int a0), (2, .int 0)]) [1, 2, 0] rfl ?_
      obtain ⟨n30, h⟩ := h
      exact tX12_check_30 hg  C   _ _ _ _  h
    · replace h := x_iff hq4 h
      refine x_bipush C (v1 := (-2)) dX12_check_20 (by decide) ?_
      exact x_iret C dX12_check_22 ⟨_, rfl, h⟩
set_option maxHeartbeats 4000000 in
set_option maxRecDepth 100000 in
theorem tX12_isToldOf {g : xG} (hg : x_inj (WM g))  (l : Launch) (a0 : Int32) (a1 : Int32) (M : xMem) (post : Int32 → xMem → Prop)  (h : wX12_isToldOf a0 a1 M post) : xMet (WM g) l yX12_isToldOf cX12_isToldOf 3 (some .boolean) (rm_X12_isToldOf) [.ref (ga g 0), .int a0, .int a1] M (pI post) := by
  refine x_enter (own := RX12) (L0 := [(0, .ref (ga g 0)), (1, .int a0), (2, .int a1)]) (by decide +kernel) rfl hg (x_stM g) (Nat.le_of_ble_eq_true rfl) rfl (fun x hl C => ?_)
  unfold wX12_isToldOf at h
  refine x_iload_n C 1 rfl rfl dX12_isToldOf_0 ?_
  by_cases hq1 : a0 = 3
  · replace h := x_ift hq1 h
    refine x_tabIn C hq1 (tgt := 28) dX12_isToldOf_1 (by decide) (by decide) rfl (by decide) ?_
    refine x_aload_n C 0 rfl rfl dX12_isToldOf_28 ?_
    refine x_iload_n C 2 rfl rfl dX12_isToldOf_29 ?_
    refine x_callV C (st := []) (As := [.int a1]) (c := 0) (ci := 12) (enM_12 (c := 0) rfl) (Nat.le_of_ble_eq_true rfl) rfl (tX12_isTold hg _ _ _ _  h) wm_X12_279 wi_X12_isTold wv_X12_isTold wz_X12 wc_X12_isTold rfl yd_X12_isTold rfl ⟨rfl, rfl⟩ ⟨Nat.le_of_ble_eq_true rfl, Nat.le_of_ble_eq_true rfl⟩ (Nat.le_of_ble_eq_true rfl) rfl dX12_isToldOf_30 (x_ki (fun r3 M2 h => ?_))
    exact x_zret C h.1.1 dX12_isToldOf_33 ⟨_, rfl, h.2⟩
  · replace h := x_iff hq1 h
    by_cases hq4 : a0 = 4
    · replace h := x_ift hq4 h
      refine x_tabIn C hq4 (tgt := 34) dX12_isToldOf_1 (by decide) (by decide) rfl (by decide) ?_
      refine x_aload_n C 0 rfl rfl dX12_isToldOf_34 ?_
      refine x_iload_n C 2 rfl rfl dX12_isToldOf_35 ?_
      refine x_callV C (st := []) (As := [.int a1]) (c := 0) (ci := 12) (enM_12 (c := 0) rfl) (Nat.le_of_ble_eq_true rfl) rfl (tX12_isThere hg _ _ _ _  h) wm_X12_499 wi_X12_isThere wv_X12_isThere wz_X12 wc_X12_isThere rfl yd_X12_isThere rfl ⟨rfl, rfl⟩ ⟨Nat.le_of_ble_eq_true rfl, Nat.le_of_ble_eq_true rfl⟩ (Nat.le_of_ble_eq_true rfl) rfl dX12_isToldOf_36 (x_ki (fun r6 M5 h => ?_))
      exact x_zret C h.1.1 dX12_isToldOf_39 ⟨_, rfl, h.2⟩
    · replace h := x_iff hq4 h
      by_cases hq7 : a0 = 5
      · replace h := x_ift hq7 h
        refine x_tabIn C hq7 (tgt := 40) dX12_isToldOf_1 (by decide) (by decide) rfl (by decide) ?_
        refine x_aload_n C 0 rfl rfl dX12_isToldOf_40 ?_
        refine x_iload_n C 2 rfl rfl dX12_isToldOf_41 ?_
        refine x_callV C (st := []) (As := [.int a1]) (c := 0) (ci := 12) (enM_12 (c := 0) rfl) (Nat.le_of_ble_eq_true rfl) rfl (tX12_isTelling hg _ _ _ _  h) wm_X12_467 wi_X12_isTelling wv_X12_isTelling wz_X12 wc_X12_isTelling rfl yd_X12_isTelling rfl ⟨rfl, rfl⟩ ⟨Nat.le_of_ble_eq_true rfl, Nat.le_of_ble_eq_true rfl⟩ (Nat.le_of_ble_eq_true rfl) rfl dX12_isToldOf_42 (x_ki (fun r9 M8 h => ?_))
        exact x_zret C h.1.1 dX12_isToldOf_45 ⟨_, rfl, h.2⟩
      · replace h := x_iff hq7 h
        refine x_tabOut C (tgt := 46) dX12_isToldOf_1 (by have t0 := x_i32ne hq1; have u0 : (3 : Int32).toInt = 3 := (by decide); have t1 := x_i32ne hq4; have u1 : (4 : Int32).toInt = 4 := (by decide); have t2 := x_i32ne hq7; have u2 : (5 : Int32).toInt = 5 := (by decide); omega) (by decide) ?_
        refine x_aload_n C 0 rfl rfl dX12_isToldOf_46 ?_
        refine x_iload_n C 2 rfl rfl dX12_isToldOf_47 ?_
        refine x_callV C (st := []) (As := [.int a1]) (c := 0) (ci := 12) (enM_12 (c := 0) rfl) (Nat.le_of_ble_eq_true rfl) rfl (tX12_isListening hg _ _ _ _  h) wm_X12_563 wi_X12_isListening wv_X12_isListening wz_X12 wc_X12_isListening rfl yd_X12_isListening rfl ⟨rfl, rfl⟩ ⟨Nat.le_of_ble_eq_true rfl, Nat.le_of_ble_eq_true rfl⟩ (Nat.le_of_ble_eq_true rfl) rfl dX12_isToldOf_48 (x_ki (fun r11 M10 h => ?_))
        exact x_zret C h.1.1 dX12_isToldOf_51 ⟨_, rfl, h.2⟩
set_option maxHeartbeats 4000000 in
set_option maxRecDepth 100000 in
theorem tX12_toldOf_27 {g : xG} (hg : x_inj (WM g))  {x : xCx}  {K4 : Int32 → Int32 → Int32 → xMem → Prop} {post : Int32 → xMem → Prop} (C : xOk (WM g) x cX12_toldOf RX12 4 (some .int) (rm_X12_toldOf) (pI post))  (hK4 : ∀ (x1 : Int32) (x2 : Int32) (x3 : Int32) (M : xMem), K4 x1 x2 x3 M → xW (WM g) x 4 4 [(0, .ref (ga g 0)), (1, .int x1), (2, .int x2), (3, .int x3)] [] M) (x1 : Int32) (x3 : Int32) (s0 : Int32) (s1 : Int32) (M : xMem)  (h : wX12_toldOf_27 K4 post x1 x3 s0 s1 M) : xW (WM g) x 4 27 [(0, .ref (ga g 0)), (1, .int x1), (3, .int x3)] [.int s0, .int s1] M := by
  unfold wX12_toldOf_27 at h
  refine x_ior C dX12_toldOf_27 ?_
  refine x_nm (fun v1 ev1 => ?_)
  replace h := h v1 ev1
  refine x_istore_n C (L' := [(2, .int v1), (0, .ref (ga g 0)), (1, .int x1), (3, .int x3)]) rfl rfl (Nat.le_of_ble_eq_true rfl) dX12_toldOf_28 ?_
  obtain ⟨v2, ev2⟩ : ∃ z : Int32, z = x3 + 1 := ⟨_, rfl⟩
  replace h := h v2 ev2
  refine x_iinc C 3 (v1 := v2) (L' := [(3, .int v2), (2, .int v1), (0, .ref (ga g 0)), (1, .int x1)]) rfl (by rw [ev2]; rfl) rfl (Nat.le_of_ble_eq_true rfl) dX12_toldOf_29 ?_
  refine x_goto C (tgt := 4) dX12_toldOf_32 (by decide) ?_
  refine x_loc (L' := [(0, .ref (ga g 0)), (1, .int x1), (2, .int v1), (3, .int v2)]) [2, 3, 1, 0] rfl ?_
  exact hK4 _ _ _ _  h
set_option maxHeartbeats 4000000 in
set_option maxRecDepth 100000 in
theorem tX12_toldOf_4 {g : xG} (hg : x_inj (WM g))  {x : xCx}   {post : Int32 → xMem → Prop} (C : xOk (WM g) x cX12_toldOf RX12 4 (some .int) (rm_X12_toldOf) (pI post))   : ∀ (n : Nat) (x1 : Int32) (x2 : Int32) (x3 : Int32) (M : xMem), wX12_toldOf_4 post n x1 x2 x3 M → xW (WM g) x 4 4 [(0, .ref (ga g 0)), (1, .int x1), (2, .int x2), (3, .int x3)] [] M := by
  intro n
  induction n with
  | zero =>
    intro x1 x2 x3 M  h
    exact h.elim
  | succ n ih =>
    intro x1 x2 x3 M  h
    rw [wX12_toldOf_4] at h
    refine x_iload_n C 3 rfl rfl dX12_toldOf_4 ?_
    refine x_bipush C (v1 := 10) dX12_toldOf_5 (by decide) ?_
    refine x_icmp_ge C (tgt := 35) dX12_toldOf_7 (by decide) (fun hq1 => ?_) (fun hq1 => ?_)
    · replace h := x_ift hq1 h
      refine x_iload_n C 2 rfl rfl dX12_toldOf_35 ?_
      exact x_iret C dX12_toldOf_36 ⟨_, rfl, h⟩
    · replace h := x_iff hq1 h
      refine x_iload_n C 2 rfl rfl dX12_toldOf_10 ?_
      refine x_aload_n C 0 rfl rfl dX12_toldOf_11 ?_
      refine x_iload_n C 1 rfl rfl dX12_toldOf_12 ?_
      refine x_iload_n C 3 rfl rfl dX12_toldOf_13 ?_
      refine x_callV C (st := [.int x2]) (As := [.int x1, .int x3]) (c := 0) (ci := 12) (enM_12 (c := 0) rfl) (Nat.le_of_ble_eq_true rfl) rfl (tX12_isToldOf hg _ _ _ _ _  h) wm_X12_644 wi_X12_isToldOf wv_X12_isToldOf wz_X12 wc_X12_isToldOf rfl yd_X12_isToldOf rfl ⟨rfl, rfl⟩ ⟨Nat.le_of_ble_eq_true rfl, Nat.le_of_ble_eq_true rfl⟩ (Nat.le_of_ble_eq_true rfl) rfl dX12_toldOf_14 (x_ki (fun r3 M2 h => ?_))
      refine x_if_eq C (tgt := 26) dX12_toldOf_17 (by decide) (fun hq4 => ?_) (fun hq4 => ?_)
      · replace h := x_ift hq4 h
        refine x_iconst C (v1 := 0) dX12_toldOf_26 (by decide) ?_
        refine x_loc (L' := [(0, .ref (ga g 0)), (1, .int x1), (3, .int x3)]) [0, 1, 3] rfl ?_
        exact tX12_toldOf_27 hg  C  ih _ _ _ _ _  h
      · replace h := x_iff hq4 h
        refine x_iconst C (v1 := 1) dX12_toldOf_20 (by decide) ?_
        refine x_iload_n C 3 rfl rfl dX12_toldOf_21 ?_
        refine x_ishl C dX12_toldOf_22 ?_
        refine x_goto C (tgt := 27) dX12_toldOf_23 (by decide) ?_
        refine x_loc (L' := [(0, .ref (ga g 0)), (1, .int x1), (3, .int x3)]) [0, 1, 3] rfl ?_
        exact tX12_toldOf_27 hg  C  ih _ _ _ _ _  h
set_option maxHeartbeats 4000000 in
set_option maxRecDepth 100000 in
theorem tX12_toldOf {g : xG} (hg : x_inj (WM g))  (l : Launch) (a0 : Int32) (M : xMem) (post : Int32 → xMem → Prop)  (h : wX12_toldOf a0 M post) : xMet (WM g) l yX12_toldOf cX12_toldOf 4 (some .int) (rm_X12_toldOf) [.ref (ga g 0), .int a0] M (pI post) := by
  refine x_enter (own := RX12) (L0 := [(0, .ref (ga g 0)), (1, .int a0)]) (by decide +kernel) rfl hg (x_stM g) (Nat.le_of_ble_eq_true rfl) rfl (fun x hl C => ?_)
  unfold wX12_toldOf at h
  refine x_iconst C (v1 := 0) dX12_toldOf_0 (by decide) ?_
  refine x_istore_n C (L' := [(2, .int 0), (0, .ref (ga g 0)), (1, .int a0)]) rfl rfl (Nat.le_of_ble_eq_true rfl) dX12_toldOf_1 ?_
  refine x_iconst C (v1 := 0) dX12_toldOf_2 (by decide) ?_
  refine x_istore_n C (L' := [(3, .int 0), (2, .int 0), (0, .ref (ga g 0)), (1, .int a0)]) rfl rfl (Nat.le_of_ble_eq_true rfl) dX12_toldOf_3 ?_
  refine x_loc (L' := [(0, .ref (ga g 0)), (1, .int a0), (2, .int 0), (3, .int 0)]) [2, 3, 1, 0] rfl ?_
  obtain ⟨n4, h⟩ := h
  exact tX12_toldOf_4 hg  C   _ _ _ _ _  h
set_option maxHeartbeats 4000000 in
set_option maxRecDepth 100000 in
theorem tX12_count {g : xG} (hg : x_inj (WM g))  (l : Launch) (a0 : Int32) (M : xMem) (post : Int32 → xMem → Prop)  (h : wX12_count a0 M post) : xMet (WM g) l yX12_count cX12_count 2 (some .int) (rm_X12_count) [.ref (ga g 0), .int a0] M (pI post) := by
  refine x_enter (own := RX12) (L0 := [(0, .ref (ga g 0)), (1, .int a0)]) (by decide +kernel) rfl hg (x_stM g) (Nat.le_of_ble_eq_true rfl) rfl (fun x hl C => ?_)
  unfold wX12_count at h
  refine x_iload_n C 1 rfl rfl dX12_count_0 ?_
  refine x_i2l C dX12_count_1 ?_
  refine x_ldc2 C (v1 := 3) (wcl_X12_459) dX12_count_2 ?_
  refine x_ldc2 C (v1 := 6) (wcl_X12_561) dX12_count_5 ?_
  refine x_callS C (st := []) (As := [.long ((a0 : Int32).toInt64), .long 3, .long 6]) (tX12_lies hg _ _ _ _ _ _  h) wm_X12_222 wsm_X12_lies wz_X12 wc_X12_lies yd_X12_lies rfl ⟨rfl, rfl⟩ ⟨Nat.le_of_ble_eq_true rfl, Nat.le_of_ble_eq_true rfl⟩ (Nat.le_of_ble_eq_true rfl) rfl dX12_count_8 (x_ki (fun r2 M1 h => ?_))
  refine x_if_eq C (tgt := 20) dX12_count_11 (by decide) (fun hq3 => ?_) (fun hq3 => ?_)
  · replace h := x_ift hq3 h
    refine x_iload_n C 1 rfl rfl dX12_count_20 ?_
    by_cases hq4 : a0 = 0
    · replace h := x_ift hq4 h
      refine x_tabIn C hq4 (tgt := 76) dX12_count_21 (by decide) (by decide) rfl (by decide) ?_
      refine x_aload_n C 0 rfl rfl dX12_count_76 ?_
      refine x_get C (c := 0) (ci := 12) (k1 := 65) (v1 := .int (gi M1 0 65)) (enM_12 (c := 0) rfl) (Nat.le_of_ble_eq_true rfl) rfl inX12 (by decide) wf_X12_424 rfl dX12_count_77 ?_
      exact x_iret C dX12_count_80 ⟨_, rfl, h⟩
    · replace h := x_iff hq4 h
      by_cases hq5 : a0 = 1
      · replace h := x_ift hq5 h
        refine x_tabIn C hq5 (tgt := 81) dX12_count_21 (by decide) (by decide) rfl (by decide) ?_
        refine x_aload_n C 0 rfl rfl dX12_count_81 ?_
        refine x_get C (c := 0) (ci := 12) (k1 := 66) (v1 := .int (gi M1 0 66)) (enM_12 (c := 0) rfl) (Nat.le_of_ble_eq_true rfl) rfl inX12 (by decide) wf_X12_514 rfl dX12_count_82 ?_
        exact x_iret C dX12_count_85 ⟨_, rfl, h⟩
      · replace h := x_iff hq5 h
        by_cases hq6 : a0 = 2
        · replace h := x_ift hq6 h
          refine x_tabIn C hq6 (tgt := 86) dX12_count_21 (by decide) (by decide) rfl (by decide) ?_
          refine x_aload_n C 0 rfl rfl dX12_count_86 ?_
          refine x_get C (c := 0) (ci := 12) (k1 := 67) (v1 := .int (gi M1 0 67)) (enM_12 (c := 0) rfl) (Nat.le_of_ble_eq_true rfl) rfl inX12 (by decide) wf_X12_538 rfl dX12_count_87 ?_
          exact x_iret C dX12_count_90 ⟨_, rfl, h⟩
        · replace h := x_iff hq6 h
          by_cases hq7 : a0 = 3
          · replace h := x_ift hq7 h
            refine x_tabIn C hq7 (tgt := 108) dX12_count_21 (by decide) (by decide) rfl (by decide) ?_
            refine x_iconst C (v1 := (-1)) dX12_count_108 (by decide) ?_
            exact x_iret C dX12_count_109 ⟨_, rfl, h⟩
          · replace h := x_iff hq7 h
            by_cases hq8 : a0 = 4
            · replace h := x_ift hq8 h
              refine x_tabIn C hq8 (tgt := 108) dX12_count_21 (by decide) (by decide) rfl (by decide) ?_
              refine x_iconst C (v1 := (-1)) dX12_count_108 (by decide) ?_
              exact x_iret C dX12_count_109 ⟨_, rfl, h⟩
            · replace h := x_iff hq8 h
              by_cases hq9 : a0 = 5
              · replace h := x_ift hq9 h
                refine x_tabIn C hq9 (tgt := 108) dX12_count_21 (by decide) (by decide) rfl (by decide) ?_
                refine x_iconst C (v1 := (-1)) dX12_count_108 (by decide) ?_
                exact x_iret C dX12_count_109 ⟨_, rfl, h⟩
              · replace h := x_iff hq9 h
                by_cases hq10 : a0 = 6
                · replace h := x_ift hq10 h
                  refine x_tabIn C hq10 (tgt := 108) dX12_count_21 (by decide) (by decide) rfl (by decide) ?_
                  refine x_iconst C (v1 := (-1)) dX12_count_108 (by decide) ?_
                  exact x_iret C dX12_count_109 ⟨_, rfl, h⟩
                · replace h := x_iff hq10 h
                  by_cases hq11 : a0 = 7
                  · replace h := x_ift hq11 h
                    refine x_tabIn C hq11 (tgt := 91) dX12_count_21 (by decide) (by decide) rfl (by decide) ?_
                    refine x_aload_n C 0 rfl rfl dX12_count_91 ?_
                    refine x_get C (c := 0) (ci := 12) (k1 := 26) (v1 := .ref (ga g 15)) (enM_12 (c := 0) rfl) (Nat.le_of_ble_eq_true rfl) rfl inX12 (by decide) wf_X12_58 rfl dX12_count_92 ?_
                    refine x_iconst C (v1 := 0) dX12_count_95 (by decide) ?_
                    obtain ⟨hi12, h⟩ := h
                    refine x_iald C 0 (c := 15) (enM_20n (c := 15) (n := 2) rfl rfl) (Nat.le_of_ble_eq_true rfl) rfl hi12 dX12_count_96 ?_
                    exact x_iret C dX12_count_97 ⟨_, rfl, h⟩
                  · replace h := x_iff hq11 h
                    by_cases hq13 : a0 = 8
                    · replace h := x_ift hq13 h
                      refine x_tabIn C hq13 (tgt := 98) dX12_count_21 (by decide) (by decide) rfl (by decide) ?_
                      refine x_aload_n C 0 rfl rfl dX12_count_98 ?_
                      refine x_get C (c := 0) (ci := 12) (k1 := 1) (v1 := .int (gi M1 0 1)) (enM_12 (c := 0) rfl) (Nat.le_of_ble_eq_true rfl) rfl inX12 (by decide) wf_X12_198 rfl dX12_count_99 ?_
                      exact x_iret C dX12_count_102 ⟨_, rfl, h⟩
                    · replace h := x_iff hq13 h
                      by_cases hq14 : a0 = 9
                      · replace h := x_ift hq14 h
                        refine x_tabIn C hq14 (tgt := 103) dX12_count_21 (by decide) (by decide) rfl (by decide) ?_
                        refine x_aload_n C 0 rfl rfl dX12_count_103 ?_
                        refine x_get C (c := 0) (ci := 12) (k1 := 2) (v1 := .int (gi M1 0 2)) (enM_12 (c := 0) rfl) (Nat.le_of_ble_eq_true rfl) rfl inX12 (by decide) wf_X12_13 rfl dX12_count_104 ?_
                        exact x_iret C dX12_count_107 ⟨_, rfl, h⟩
                      · replace h := x_iff hq14 h
                        refine x_tabOut C (tgt := 108) dX12_count_21 (by have t0 := x_i32ne hq4; have u0 : (0 : Int32).toInt = 0 := (by decide); have t1 := x_i32ne hq5; have u1 : (1 : Int32).toInt = 1 := (by decide); have t2 := x_i32ne hq6; have u2 : (2 : Int32).toInt = 2 := (by decide); have t3 := x_i32ne hq7; have u3 : (3 : Int32).toInt = 3 := (by decide); have t4 := x_i32ne hq8; have u4 : (4 : Int32).toInt = 4 := (by decide); have t5 := x_i32ne hq9; have u5 : (5 : Int32).toInt = 5 := (by decide); have t6 := x_i32ne hq10; have u6 : (6 : Int32).toInt = 6 := (by decide); have t7 := x_i32ne hq11; have u7 : (7 : Int32).toInt = 7 := (by decide); have t8 := x_i32ne hq13; have u8 : (8 : Int32).toInt = 8 := (by decide); have t9 := x_i32ne hq14; have u9 : (9 : Int32).toInt = 9 := (by decide); omega) (by decide) ?_
                        refine x_iconst C (v1 := (-1)) dX12_count_108 (by decide) ?_
                        exact x_iret C dX12_count_109 ⟨_, rfl, h⟩
  · replace h := x_iff hq3 h
    refine x_aload_n C 0 rfl rfl dX12_count_14 ?_
    refine x_iload_n C 1 rfl rfl dX12_count_15 ?_
    refine x_callV C (st := []) (As := [.int a0]) (c := 0) (ci := 12) (enM_12 (c := 0) rfl) (Nat.le_of_ble_eq_true rfl) rfl (tX12_toldOf hg _ _ _ _  h) wm_X12_647 wi_X12_toldOf wv_X12_toldOf wz_X12 wc_X12_toldOf rfl yd_X12_toldOf rfl ⟨rfl, rfl⟩ ⟨Nat.le_of_ble_eq_true rfl, Nat.le_of_ble_eq_true rfl⟩ (Nat.le_of_ble_eq_true rfl) rfl dX12_count_16 (x_ki (fun r16 M15 h => ?_))
    exact x_iret C dX12_count_19 ⟨_, rfl, h⟩
