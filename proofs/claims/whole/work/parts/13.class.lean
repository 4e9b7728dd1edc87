abbrev rm_X11_knots : Room := { frames := 5, cells := 0, slots := 0, locals := 115 }
theorem yd_X11_knots : yX11_knots.cls ≠ "java/lang/invoke/MethodHandle" ∧ yX11_knots.cls ≠ "java/lang/invoke/VarHandle" ∧ (parseMethodDescriptor yX11_knots.desc).map (fun d => d.parameters.length) = some 0 := by decide +kernel
def wX11_knots_36   (K9 : Int32 → Int32 → Int32 → xMem → Prop) (post : Int32 → xMem → Prop) (x1 : Int32) (x2 : Int32) (x3 : Int32) (M : xMem) : Prop :=
    ∀ v1 : Int32, v1 = x3 + 1 →
    K9 x1 x2 v1 M
def wX11_knots_9    (post : Int32 → xMem → Prop) : Nat → Int32 → Int32 → Int32 → xMem → Prop
  | 0 => fun _ _ _ _ => False
  | n + 1 => fun x1 x2 x3 M =>
      if 6 ≤ x3 then (
        post x1 M)
      else (
        wX11_has x2 x3 M (fun r3 M2 =>
          if r3 = 0 then (
            wX11_knots_36 (wX11_knots_9 post n) post x1 x2 x3 M2)
          else (
            ∀ v5 : Int32, v5 = x1 + 1 →
            wX11_knotOf x3 M2 (fun r7 M6 =>
              ∀ v8 : Int32, v8 = x2 &&& (r7 ^^^ (-1)) →
              wX11_knots_36 (wX11_knots_9 post n) post v5 v8 x3 M6))))
def wX11_knots   (M : xMem) (post : Int32 → xMem → Prop) : Prop :=
    wX11_toldStories  M (fun r2 M1 =>
      ∃ n9 : Nat, wX11_knots_9 post n9 0 r2 0 M1)
abbrev rm_X11_tapeIsWithin : Room := { frames := 0, cells := 0, slots := 0, locals := 0 }
theorem yd_X11_tapeIsWithin : yX11_tapeIsWithin.cls ≠ "java/lang/invoke/MethodHandle" ∧ yX11_tapeIsWithin.cls ≠ "java/lang/invoke/VarHandle" ∧ (parseMethodDescriptor yX11_tapeIsWithin.desc).map (fun d => d.parameters.length) = some 2 := by decide +kernel
def wX11_tapeIsWithin_2    (post : Int32 → xMem → Prop) : Nat → Int32 → Int32 → Int32 → xMem → Prop
  | 0 => fun _ _ _ _ => False
  | n + 1 => fun x1 x2 x3 M =>
      if x1 ≤ x3 then (
        post 1 M)
      else (
        if 260 ≤ x3 then (
          post 1 M)
        else (
          vp_in x3 260 ∧
          if (gi M 1 x3.toNatClampNeg) ≤ x2 then (
            ∀ v5 : Int32, v5 = x3 + 1 →
            wX11_tapeIsWithin_2 post n x1 x2 v5 M)
          else (
            post 0 M)))
def wX11_tapeIsWithin  (a0 : Int32) (a1 : Int32) (M : xMem) (post : Int32 → xMem → Prop) : Prop :=
    ∃ n2 : Nat, wX11_tapeIsWithin_2 post n2 a0 a1 0 M
abbrev rm_X2_planWinter : Room := { frames := 2, cells := 0, slots := 0, locals := 45 }
theorem yd_X2_planWinter : yX2_planWinter.cls ≠ "java/lang/invoke/MethodHandle" ∧ yX2_planWinter.cls ≠ "java/lang/invoke/VarHandle" ∧ (parseMethodDescriptor yX2_planWinter.desc).map (fun d => d.parameters.length) = some 2 := by decide +kernel
def wX2_planWinter_278    (post : xMem → Prop) (x3 : Int32) (x4 : Int32) (M : xMem) : Prop :=
    wX2_endsOf x4 x3 M (fun r2 M1 =>
      ∀ M3 : xMem, M3 = si M1 41 10 r2 →
      post M3)
def wX2_planWinter_266   (K57 : Int32 → Int32 → Int32 → Int32 → xMem → Prop) (K89 : Int32 → Int32 → Int32 → Int32 → Int32 → Int32 → Int32 → xMem → Prop) (post : xMem → Prop) (x1 : Int32) (x3 : Int32) (x4 : Int32) (x5 : Int32) (x6 : Int32) (x7 : Int32) (x8 : Int32) (M : xMem) : Prop :=
    ∀ v1 : Int32, v1 = x8 + 1 →
    K89 x1 x3 x4 x5 x6 x7 v1 M
def wX2_planWinter_222   (K57 : Int32 → Int32 → Int32 → Int32 → xMem → Prop) (K89 : Int32 → Int32 → Int32 → Int32 → Int32 → Int32 → Int32 → xMem → Prop) (post : xMem → Prop) (x1 : Int32) (x3 : Int32) (x4 : Int32) (x5 : Int32) (x6 : Int32) (x7 : Int32) (x8 : Int32) (s0 : Int32) (M : xMem) : Prop :=
    vp_in x8 1024 ∧
    if x1 < (gi M 48 x8.toNatClampNeg) then (
      wX2_planWinter_266 K57 K89 post x1 x3 x4 x5 x6 x7 x8 M)
    else (
      if s0 = 0 then (
        wX2_planWinter_266 K57 K89 post x1 x3 x4 x5 x6 x7 x8 M)
      else (
        vp_in x8 1024 ∧
        ∀ M5 : xMem, M5 = si M 41 12 (gi M 47 x8.toNatClampNeg) →
        vp_in x8 1024 ∧
        ∀ M7 : xMem, M7 = si M5 41 11 (gi M5 48 x8.toNatClampNeg) →
        wX2_planWinter_266 K57 K89 post x1 x3 x8 x5 x6 x7 x8 M7))
def wX2_planWinter_217   (K57 : Int32 → Int32 → Int32 → Int32 → xMem → Prop) (K89 : Int32 → Int32 → Int32 → Int32 → Int32 → Int32 → Int32 → xMem → Prop) (post : xMem → Prop) (x1 : Int32) (x3 : Int32) (x4 : Int32) (x5 : Int32) (x6 : Int32) (x7 : Int32) (x8 : Int32) (M : xMem) : Prop :=
    wX2_planWinter_222 K57 K89 post x1 x3 x4 x5 x6 x7 x8 1 M
def wX2_planWinter_221   (K57 : Int32 → Int32 → Int32 → Int32 → xMem → Prop) (K89 : Int32 → Int32 → Int32 → Int32 → Int32 → Int32 → Int32 → xMem → Prop) (post : xMem → Prop) (x1 : Int32) (x3 : Int32) (x4 : Int32) (x5 : Int32) (x6 : Int32) (x7 : Int32) (x8 : Int32) (M : xMem) : Prop :=
    wX2_planWinter_222 K57 K89 post x1 x3 x4 x5 x6 x7 x8 0 M
def wX2_planWinter_166   (K57 : Int32 → Int32 → Int32 → Int32 → xMem → Prop) (K89 : Int32 → Int32 → Int32 → Int32 → Int32 → Int32 → Int32 → xMem → Prop) (post : xMem → Prop) (x1 : Int32) (x3 : Int32) (x4 : Int32) (x5 : Int32) (x6 : Int32) (x7 : Int32) (x8 : Int32) (s0 : Int32) (s1 : Int32) (M : xMem) : Prop :=
    vp_in x7 10 ∧
    vp_in s1 1024 ∧
    ∀ M3 : xMem, M3 = si M 48 s1.toNatClampNeg (s0 + (gi M 44 x7.toNatClampNeg)) →
    vp_in x8 1024 ∧
    if (gi M3 41 12) < (gi M3 47 x8.toNatClampNeg) then (
      wX2_planWinter_217 K57 K89 post x1 x3 x4 x5 x6 x7 x8 M3)
    else (
      vp_in x8 1024 ∧
      if (gi M3 47 x8.toNatClampNeg) = (gi M3 41 12) then (
        vp_in x8 1024 ∧
        if (gi M3 41 11) ≤ (gi M3 48 x8.toNatClampNeg) then (
          wX2_planWinter_221 K57 K89 post x1 x3 x4 x5 x6 x7 x8 M3)
        else (
          wX2_planWinter_217 K57 K89 post x1 x3 x4 x5 x6 x7 x8 M3))
      else (
        wX2_planWinter_221 K57 K89 post x1 x3 x4 x5 x6 x7 x8 M3))
def wX2_planWinter_125   (K57 : Int32 → Int32 → Int32 → Int32 → xMem → Prop) (K89 : Int32 → Int32 → Int32 → Int32 → Int32 → Int32 → Int32 → xMem → Prop) (post : xMem → Prop) (x1 : Int32) (x3 : Int32) (x4 : Int32) (x5 : Int32) (x6 : Int32) (x7 : Int32) (x8 : Int32) (s0 : Int32) (s1 : Int32) (M : xMem) : Prop :=
    vp_in x5 260 ∧
    vp_in x7 10 ∧
    vp_in s1 1024 ∧
    ∀ M4 : xMem, M4 = si M 47 s1.toNatClampNeg (s0 + ((gi M 1 x5.toNatClampNeg) * (gi M 43 x7.toNatClampNeg))) →
    if x8 = x6 then (
      wX2_planWinter_166 K57 K89 post x1 x3 x4 x5 x6 x7 x8 0 x8 M4)
    else (
      vp_in (x8 - x6) 1024 ∧
      wX2_planWinter_166 K57 K89 post x1 x3 x4 x5 x6 x7 x8 (gi M4 48 (x8 - x6).toNatClampNeg) x8 M4)
def wX2_planWinter_89   (K57 : Int32 → Int32 → Int32 → Int32 → xMem → Prop) (post : xMem → Prop) : Nat → Int32 → Int32 → Int32 → Int32 → Int32 → Int32 → Int32 → xMem → Prop
  | 0 => fun _ _ _ _ _ _ _ _ => False
  | n + 1 => fun x1 x3 x4 x5 x6 x7 x8 M =>
      if (2 * x6) ≤ x8 then (
        ∀ v2 : Int32, v2 = x5 + 1 →
        K57 x1 x3 x4 v2 M)
      else (
        if x8 = x6 then (
          wX2_planWinter_125 K57 (wX2_planWinter_89 K57 post n) post x1 x3 x4 x5 x6 x7 x8 0 x8 M)
        else (
          vp_in (x8 - x6) 1024 ∧
          wX2_planWinter_125 K57 (wX2_planWinter_89 K57 post n) post x1 x3 x4 x5 x6 x7 x8 (gi M 47 (x8 - x6).toNatClampNeg) x8 M))
def wX2_planWinter_57    (post : xMem → Prop) : Nat → Int32 → Int32 → Int32 → Int32 → xMem → Prop
  | 0 => fun _ _ _ _ _ => False
  | n + 1 => fun x1 x3 x4 x5 M =>
      if x3 ≤ x5 then (
        wX2_planWinter_278 post x3 x4 M)
      else (
        if 260 ≤ x5 then (
          wX2_planWinter_278 post x3 x4 M)
        else (
          ∀ v3 : Int32, v3 = 1 <<< (x5 &&& 31) →
          vp_in x5 10 ∧
          ∀ v5 : Int32, v5 = gi M 46 x5.toNatClampNeg →
          ∃ n89 : Nat, wX2_planWinter_89 (wX2_planWinter_57 post n) post n89 x1 x3 x4 x5 v3 v5 v3 M))
def wX2_planWinter_35   (K5 : Int32 → Int32 → Int32 → xMem → Prop) (post : xMem → Prop) (x1 : Int32) (x3 : Int32) (x4 : Int32) (M : xMem) : Prop :=
    ∀ v1 : Int32, v1 = x4 + 1 →
    K5 x1 x3 v1 M
def wX2_planWinter_5    (post : xMem → Prop) : Nat → Int32 → Int32 → Int32 → xMem → Prop
  | 0 => fun _ _ _ _ => False
  | n + 1 => fun x1 x3 x4 M =>
      if 10 ≤ x4 then (
        ∀ M2 : xMem, M2 = si M 41 12 0 →
        ∀ M3 : xMem, M3 = si M2 41 11 0 →
        ∃ n57 : Nat, wX2_planWinter_57 post n57 x1 x3 0 0 M3)
      else (
        wX11_has (gi M 41 0) x4 M (fun r5 M4 =>
          if r5 = 0 then (
            wX2_planWinter_35 (wX2_planWinter_5 post n) post x1 x3 x4 M4)
          else (
            vp_in x3 10 ∧
            ∀ M8 : xMem, M8 = si M4 46 x3.toNatClampNeg x4 →
            ∀ v9 : Int32, v9 = x3 + 1 →
            wX2_planWinter_35 (wX2_planWinter_5 post n) post x1 v9 x4 M8)))
def wX2_planWinter  (a0 : Int32) (M : xMem) (post : xMem → Prop) : Prop :=
    ∃ n5 : Nat, wX2_planWinter_5 post n5 a0 0 0 M
abbrev rm_X11_winter : Room := { frames := 3, cells := 0, slots := 0, locals := 74 }
theorem yd_X11_winter : yX11_winter.cls ≠ "java/lang/invoke/MethodHandle" ∧ yX11_winter.cls ≠ "java/lang/invoke/VarHandle" ∧ (parseMethodDescriptor yX11_winter.desc).map (fun d => d.parameters.length) = some 3 := by decide +kernel
def wX11_winter_39    (post : Int32 → xMem → Prop) (x1 : Int32) (x2 : Int32) (x3 : Int32) (s0 : Int32) (M : xMem) : Prop :=
    if s0 = 0 then (
      post (-1) M)
    else (
      wX11_tapeGives x2 1 10 M (fun r3 M2 =>
        if r3 = 0 then (
          post (-1) M2)
        else (
          ∀ M5 : xMem, M5 = si M2 0 1 0 →
          wX11_tapeIsWithin x2 10 M5 (fun r7 M6 =>
            if r7 = 0 then (
              post (-2) M6)
            else (
              wX2_planWinter x1 M6 (fun M9 =>
                if x3 = 0 then (
                  post (gi M9 41 12) M9)
                else (
                  if x3 = 1 then (
                    post (gi M9 41 10) M9)
                  else (
                    post (gi M9 41 11) M9))))))))
def wX11_winter_38    (post : Int32 → xMem → Prop) (x1 : Int32) (x2 : Int32) (x3 : Int32) (M : xMem) : Prop :=
    wX11_winter_39 post x1 x2 x3 0 M
def wX11_winter  (a0 : Int32) (a1 : Int32) (a2 : Int32) (M : xMem) (post : Int32 → xMem → Prop) : Prop :=
    wX11_isWithin a0 0 300 M (fun r2 M1 =>
      if r2 = 0 then (
        wX11_winter_38 post a0 a1 a2 M1)
      else (
        wX11_isWithin a2 0 2 M1 (fun r5 M4 =>
          if r5 = 0 then (
            wX11_winter_38 post a0 a1 a2 M4)
          else (
            wJ6_bitCount_0f7a4 (gi M4 41 0) M4 (fun r8 M7 =>
              if a1 = r8 then (
                wX11_winter_39 post a0 a1 a2 1 M7)
              else (
                wX11_winter_38 post a0 a1 a2 M7))))))
abbrev rm_X7_mostPressed : Room := { frames := 1, cells := 0, slots := 0, locals := 21 }
theorem yd_X7_mostPressed : yX7_mostPressed.cls ≠ "java/lang/invoke/MethodHandle" ∧ yX7_mostPressed.cls ≠ "java/lang/invoke/VarHandle" ∧ (parseMethodDescriptor yX7_mostPressed.desc).map (fun d => d.parameters.length) = some 2 := by decide +kernel
def wX7_mostPressed_81   (K5 : Int32 → Int32 → Int32 → Int32 → xMem → Prop) (post : Int32 → xMem → Prop) (x1 : Int32) (x2 : Int32) (x3 : Int32) (x4 : Int32) (M : xMem) : Prop :=
    ∀ v1 : Int32, v1 = x4 + 1 →
    K5 x1 x2 x3 v1 M
def wX7_mostPressed_78   (K5 : Int32 → Int32 → Int32 → Int32 → xMem → Prop) (post : Int32 → xMem → Prop) (x1 : Int32) (x2 : Int32) (x4 : Int32) (M : xMem) : Prop :=
    wX7_mostPressed_81 K5 post x1 x2 x4 x4 M
def wX7_mostPressed_50   (K5 : Int32 → Int32 → Int32 → Int32 → xMem → Prop) (post : Int32 → xMem → Prop) (x1 : Int32) (x2 : Int32) (x3 : Int32) (x4 : Int32) (s0 : Int32) (M : xMem) : Prop :=
    if s0 = 0 then (
      wX7_mostPressed_81 K5 post x1 x2 x3 x4 M)
    else (
      if x3 = (-1) then (
        wX7_mostPressed_78 K5 post x1 x2 x4 M)
      else (
        vp_in x4 8 ∧
        vp_in x3 8 ∧
        if (gi M 91 x3.toNatClampNeg) ≤ (gi M 91 x4.toNatClampNeg) then (
          wX7_mostPressed_81 K5 post x1 x2 x3 x4 M)
        else (
          wX7_mostPressed_78 K5 post x1 x2 x4 M)))
def wX7_mostPressed_49   (K5 : Int32 → Int32 → Int32 → Int32 → xMem → Prop) (post : Int32 → xMem → Prop) (x1 : Int32) (x2 : Int32) (x3 : Int32) (x4 : Int32) (M : xMem) : Prop :=
    wX7_mostPressed_50 K5 post x1 x2 x3 x4 0 M
def wX7_mostPressed_5    (post : Int32 → xMem → Prop) : Nat → Int32 → Int32 → Int32 → Int32 → xMem → Prop
  | 0 => fun _ _ _ _ _ => False
  | n + 1 => fun x1 x2 x3 x4 M =>
      if (gi M 89 4) ≤ x4 then (
        post x3 M)
      else (
        wX11_has x1 x4 M (fun r3 M2 =>
          if r3 = 0 then (
            wX7_mostPressed_49 (wX7_mostPressed_5 post n) post x1 x2 x3 x4 M2)
          else (
            vp_in x4 8 ∧
            if x2 < (gi M2 90 x4.toNatClampNeg) then (
              wX7_mostPressed_49 (wX7_mostPressed_5 post n) post x1 x2 x3 x4 M2)
            else (
              vp_in x4 8 ∧
              if (gi M2 91 x4.toNatClampNeg) < x2 then (
                wX7_mostPressed_49 (wX7_mostPressed_5 post n) post x1 x2 x3 x4 M2)
              else (
                wX7_mostPressed_50 (wX7_mostPressed_5 post n) post x1 x2 x3 x4 1 M2)))))
def wX7_mostPressed  (a0 : Int32) (a1 : Int32) (M : xMem) (post : Int32 → xMem → Prop) : Prop :=
    ∃ n5 : Nat, wX7_mostPressed_5 post n5 a0 a1 (-1) 0 M
abbrev rm_X7_mostFrom : Room := { frames := 2, cells := 0, slots := 0, locals := 46 }
theorem yd_X7_mostFrom : yX7_mostFrom.cls ≠ "java/lang/invoke/MethodHandle" ∧ yX7_mostFrom.cls ≠ "java/lang/invoke/VarHandle" ∧ (parseMethodDescriptor yX7_mostFrom.desc).map (fun d => d.parameters.length) = some 1 := by decide +kernel
def wX7_mostFrom_75   (K23 : Int32 → Int32 → Int32 → xMem → Prop) (post : Int32 → xMem → Prop) (x2 : Int32) (x3 : Int32) (x4 : Int32) (M : xMem) : Prop :=
    ∀ v1 : Int32, v1 = x4 + 1 →
    K23 x2 x3 v1 M
def wX7_mostFrom_55   (K23 : Int32 → Int32 → Int32 → xMem → Prop) (post : Int32 → xMem → Prop) (x2 : Int32) (x3 : Int32) (x4 : Int32) (s0 : Int32) (M : xMem) : Prop :=
    if s0 = (-1) then (
      wX7_mostFrom_75 K23 post x2 x3 x4 M)
    else (
      ∀ v2 : Int32, v2 = x2 &&& ((1 <<< (s0 &&& 31)) ^^^ (-1)) →
      ∀ v3 : Int32, v3 = x3 + 1 →
      wX7_mostFrom_75 K23 post v2 v3 x4 M)
def wX7_mostFrom_23    (post : Int32 → xMem → Prop) : Nat → Int32 → Int32 → Int32 → xMem → Prop
  | 0 => fun _ _ _ _ => False
  | n + 1 => fun x2 x3 x4 M =>
      if 100 ≤ x4 then (
        post x3 M)
      else (
        if x2 = 0 then (
          post x3 M)
        else (
          vp_in x4 100 ∧
          if (gi M 93 x4.toNatClampNeg) = 0 then (
            wX7_mostPressed x2 x4 M (fun r6 M5 =>
              wX7_mostFrom_55 (wX7_mostFrom_23 post n) post x2 x3 x4 r6 M5))
          else (
            wX7_mostFrom_55 (wX7_mostFrom_23 post n) post x2 x3 x4 (-1) M)))
def wX7_mostFrom  (a0 : Int32) (M : xMem) (post : Int32 → xMem → Prop) : Prop :=
    wJ9_min_7cf53 a0 (gi M 89 4) M (fun r2 M1 =>
      ∀ v3 : Int32, v3 = (1 <<< ((gi M 89 4) &&& 31)) - (1 <<< (r2 &&& 31)) →
      ∃ n23 : Nat, wX7_mostFrom_23 post n23 v3 0 0 M1)
abbrev rm_X7_earliestFor : Room := { frames := 3, cells := 0, slots := 0, locals := 71 }
theorem yd_X7_earliestFor : yX7_earliestFor.cls ≠ "java/lang/invoke/MethodHandle" ∧ yX7_earliestFor.cls ≠ "java/lang/invoke/VarHandle" ∧ (parseMethodDescriptor yX7_earliestFor.desc).map (fun d => d.parameters.length) = some 2 := by decide +kernel
def wX7_earliestFor_61   (K7 : Int32 → Int32 → Int32 → xMem → Prop) (post : Int32 → xMem → Prop) (x1 : Int32) (x2 : Int32) (x3 : Int32) (M : xMem) : Prop :=
    ∀ v1 : Int32, v1 = x3 + 1 →
    K7 x1 x2 v1 M
def wX7_earliestFor_7    (post : Int32 → xMem → Prop) : Nat → Int32 → Int32 → Int32 → xMem → Prop
  | 0 => fun _ _ _ _ => False
  | n + 1 => fun x1 x2 x3 M =>
      vp_in x1 8 ∧
      if (gi M 91 x1.toNatClampNeg) < x3 then (
        post 100 M)
      else (
        if 100 ≤ x3 then (
          post 100 M)
        else (
          vp_in x3 100 ∧
          if (gi M 93 x3.toNatClampNeg) = 0 then (
            vp_in x3 100 ∧
            ∀ M7 : xMem, M7 = si M 93 x3.toNatClampNeg 1 →
            wX7_mostFrom (x1 + 1) M7 (fun r9 M8 =>
              if (1 + r9) < x2 then (
                vp_in x3 100 ∧
                ∀ M12 : xMem, M12 = si M8 93 x3.toNatClampNeg 0 →
                wX7_earliestFor_61 (wX7_earliestFor_7 post n) post x1 x2 x3 M12)
              else (
                post x3 M8)))
          else (
            wX7_earliestFor_61 (wX7_earliestFor_7 post n) post x1 x2 x3 M)))
def wX7_earliestFor  (a0 : Int32) (a1 : Int32) (M : xMem) (post : Int32 → xMem → Prop) : Prop :=
    vp_in a0 8 ∧
    ∀ v2 : Int32, v2 = gi M 90 a0.toNatClampNeg →
    ∃ n7 : Nat, wX7_earliestFor_7 post n7 a0 a1 v2 M
abbrev rm_X7_solve : Room := { frames := 4, cells := 0, slots := 0, locals := 94 }
theorem yd_X7_solve : yX7_solve.cls ≠ "java/lang/invoke/MethodHandle" ∧ yX7_solve.cls ≠ "java/lang/invoke/VarHandle" ∧ (parseMethodDescriptor yX7_solve.desc).map (fun d => d.parameters.length) = some 0 := by decide +kernel
def wX7_solve_61   (K24 : Int32 → Int32 → xMem → Prop) (post : xMem → Prop) (x2 : Int32) (s0 : Int32) (s1 : Int32) (M : xMem) : Prop :=
    ∀ v1 : Int32, v1 = s1 - s0 →
    ∀ v2 : Int32, v2 = x2 + 1 →
    K24 v1 v2 M
def wX7_solve_24    (post : xMem → Prop) : Nat → Int32 → Int32 → xMem → Prop
  | 0 => fun _ _ _ => False
  | n + 1 => fun x1 x2 M =>
      if (gi M 89 4) ≤ x2 then (
        post M)
      else (
        wX7_earliestFor x2 x1 M (fun r3 M2 =>
          vp_in x2 8 ∧
          ∀ M5 : xMem, M5 = si M2 92 x2.toNatClampNeg r3 →
          vp_in x2 8 ∧
          if (gi M5 92 x2.toNatClampNeg) = 100 then (
            wX7_solve_61 (wX7_solve_24 post n) post x2 0 x1 M5)
          else (
            wX7_solve_61 (wX7_solve_24 post n) post x2 1 x1 M5)))
def wX7_solve   (M : xMem) (post : xMem → Prop) : Prop :=
    wJ7_fill_53178 93 0 M (fun M1 =>
      wX7_mostFrom 0 M1 (fun r3 M2 =>
        ∀ M4 : xMem, M4 = si M2 89 5 r3 →
        ∀ v5 : Int32, v5 = gi M4 89 5 →
        ∃ n24 : Nat, wX7_solve_24 post n24 v5 0 M4))
abbrev rm_X7_take : Room := { frames := 1, cells := 0, slots := 0, locals := 21 }
theorem yd_X7_take : yX7_take.cls ≠ "java/lang/invoke/MethodHandle" ∧ yX7_take.cls ≠ "java/lang/invoke/VarHandle" ∧ (parseMethodDescriptor yX7_take.desc).map (fun d => d.parameters.length) = some 2 := by decide +kernel
def wX7_take_12    (post : Int32 → xMem → Prop) : Nat → Int32 → xMem → Prop
  | 0 => fun _ _ => False
  | n + 1 => fun x3 M =>
      if (gi M 89 4) ≤ x3 then (
        post 1 M)
      else (
        if 260 ≤ ((2 * x3) + 1) then (
          post 1 M)
        else (
          vp_in (2 * x3) 260 ∧
          vp_in x3 8 ∧
          ∀ M5 : xMem, M5 = si M 90 x3.toNatClampNeg (gi M 1 (2 * x3).toNatClampNeg) →
          vp_in ((2 * x3) + 1) 260 ∧
          vp_in x3 8 ∧
          ∀ M8 : xMem, M8 = si M5 91 x3.toNatClampNeg (gi M5 1 ((2 * x3) + 1).toNatClampNeg) →
          vp_in x3 8 ∧
          vp_in x3 8 ∧
          if (gi M8 90 x3.toNatClampNeg) ≤ (gi M8 91 x3.toNatClampNeg) then (
            ∀ v12 : Int32, v12 = x3 + 1 →
            wX7_take_12 post n v12 M8)
          else (
            post 0 M8)))
def wX7_take  (a1 : Int32) (M : xMem) (post : Int32 → xMem → Prop) : Prop :=
    wJ9_min_7cf53 a1 8 M (fun r2 M1 =>
      ∀ M3 : xMem, M3 = si M1 89 4 r2 →
      ∃ n12 : Nat, wX7_take_12 post n12 0 M3)
abbrev rm_X11_lent : Room := { frames := 5, cells := 0, slots := 0, locals := 116 }
theorem yd_X11_lent : yX11_lent.cls ≠ "java/lang/invoke/MethodHandle" ∧ yX11_lent.cls ≠ "java/lang/invoke/VarHandle" ∧ (parseMethodDescriptor yX11_lent.desc).map (fun d => d.parameters.length) = some 2 := by decide +kernel
def wX11_lent_79    (post : Int32 → xMem → Prop) (x2 : Int32) (x3 : Int32) (M : xMem) : Prop :=
    wX7_solve  M (fun M1 =>
      if x3 = 0 then (
        post (gi M1 89 5) M1)
      else (
        vp_in x2 8 ∧
        post (gi M1 92 x2.toNatClampNeg) M1))
def wX11_lent  (a0 : Int32) (a1 : Int32) (M : xMem) (post : Int32 → xMem → Prop) : Prop :=
    wX11_isWithin a0 1 8 M (fun r2 M1 =>
      if r2 = 0 then (
        post (-1) M1)
      else (
        if (2 * a0) ≤ (gi M1 0 1) then (
          ∀ M5 : xMem, M5 = si M1 0 1 0 →
          wX11_tapeIsWithin (2 * a0) 99 M5 (fun r7 M6 =>
            if r7 = 0 then (
              post (-2) M6)
            else (
              wX7_take a0 M6 (fun r10 M9 =>
                if r10 = 0 then (
                  post (-2) M9)
                else (
                  wX11_isWithin a1 0 (a0 - 1) M9 (fun r13 M12 =>
                    if r13 = 0 then (
                      if a1 = 20 then (
                        wX11_lent_79 post a1 r13 M12)
                      else (
                        post (-4) M12))
                    else (
                      wX11_lent_79 post a1 r13 M12)))))))
        else (
          post (-1) M1)))
abbrev rm_X2_leftOf : Room := { frames := 1, cells := 0, slots := 0, locals := 21 }
theorem yd_X2_leftOf : yX2_leftOf.cls ≠ "java/lang/invoke/MethodHandle" ∧ yX2_leftOf.cls ≠ "java/lang/invoke/VarHandle" ∧ (parseMethodDescriptor yX2_leftOf.desc).map (fun d => d.parameters.length) = some 3 := by decide +kernel
def wX2_leftOf_81   (K6 : Int32 → Int32 → Int32 → Int32 → Int32 → xMem → Prop) (post : Int32 → xMem → Prop) (x1 : Int32) (x2 : Int32) (x3 : Int32) (x4 : Int32) (x5 : Int32) (M : xMem) : Prop :=
    ∀ v1 : Int32, v1 = x5 + 1 →
    K6 x1 x2 x3 x4 v1 M
def wX2_leftOf_56   (K6 : Int32 → Int32 → Int32 → Int32 → Int32 → xMem → Prop) (post : Int32 → xMem → Prop) (x1 : Int32) (x2 : Int32) (x3 : Int32) (x4 : Int32) (x5 : Int32) (s0 : Int32) (M : xMem) : Prop :=
    wX11_has x1 x5 M (fun r2 M1 =>
      if r2 = 0 then (
        wX2_leftOf_81 K6 post x1 x2 x3 x4 x5 M1)
      else (
        if s0 = 0 then (
          wX2_leftOf_81 K6 post x1 x2 x3 x4 x5 M1)
        else (
          ∀ v5 : Int32, v5 = x4 ||| (1 <<< (x5 &&& 31)) →
          wX2_leftOf_81 K6 post x1 x2 x3 v5 x5 M1)))
def wX2_leftOf_6    (post : Int32 → xMem → Prop) : Nat → Int32 → Int32 → Int32 → Int32 → Int32 → xMem → Prop
  | 0 => fun _ _ _ _ _ _ => False
  | n + 1 => fun x1 x2 x3 x4 x5 M =>
      if 10 ≤ x5 then (
        post x4 M)
      else (
        vp_in x5 10 ∧
        vp_in x5 10 ∧
        ∀ v4 : Int32, v4 = (gi M 42 x5.toNatClampNeg) &&& (-(gi M 42 x5.toNatClampNeg)) →
        if 0 ≤ x3 then (
          wX11_has v4 x3 M (fun r7 M6 =>
            wX2_leftOf_56 (wX2_leftOf_6 post n) post x1 x2 x3 x4 x5 r7 M6))
        else (
          if (v4 &&& x2) = 0 then (
            wX2_leftOf_56 (wX2_leftOf_6 post n) post x1 x2 x3 x4 x5 1 M)
          else (
            wX2_leftOf_56 (wX2_leftOf_6 post n) post x1 x2 x3 x4 x5 0 M)))
def wX2_leftOf  (a0 : Int32) (a1 : Int32) (a2 : Int32) (M : xMem) (post : Int32 → xMem → Prop) : Prop :=
    ∃ n6 : Nat, wX2_leftOf_6 post n6 a0 a1 a2 0 0 M
abbrev rm_X2_nextToSniff : Room := { frames := 2, cells := 0, slots := 0, locals := 48 }
theorem yd_X2_nextToSniff : yX2_nextToSniff.cls ≠ "java/lang/invoke/MethodHandle" ∧ yX2_nextToSniff.cls ≠ "java/lang/invoke/VarHandle" ∧ (parseMethodDescriptor yX2_nextToSniff.desc).map (fun d => d.parameters.length) = some 1 := by decide +kernel
def wX2_nextToSniff_61   (K14 : Int32 → Int32 → Int32 → Int32 → Int32 → xMem → Prop) (post : Int32 → xMem → Prop) (x1 : Int32) (x2 : Int32) (x3 : Int32) (x4 : Int32) (x5 : Int32) (M : xMem) : Prop :=
    ∀ v1 : Int32, v1 = x5 + 1 →
    K14 x1 x2 x3 x4 v1 M
def wX2_nextToSniff_14    (post : Int32 → xMem → Prop) : Nat → Int32 → Int32 → Int32 → Int32 → Int32 → xMem → Prop
  | 0 => fun _ _ _ _ _ _ => False
  | n + 1 => fun x1 x2 x3 x4 x5 M =>
      if 10 ≤ x5 then (
        post x3 M)
      else (
        wX2_leftOf x1 1023 x5 M (fun r3 M2 =>
          wJ6_bitCount_0f7a4 r3 M2 (fun r5 M4 =>
            wJ9_max_7cf53 r5 (x2 - r5) M4 (fun r7 M6 =>
              if x4 ≤ r7 then (
                wX2_nextToSniff_61 (wX2_nextToSniff_14 post n) post x1 x2 x3 x4 x5 M6)
              else (
                wX2_nextToSniff_61 (wX2_nextToSniff_14 post n) post x1 x2 x5 r7 x5 M6)))))
def wX2_nextToSniff  (a0 : Int32) (M : xMem) (post : Int32 → xMem → Prop) : Prop :=
    wJ6_bitCount_0f7a4 a0 M (fun r2 M1 =>
      ∃ n14 : Nat, wX2_nextToSniff_14 post n14 a0 r2 (-2) r2 0 M1)
abbrev rm_X11_forged : Room := { frames := 3, cells := 0, slots := 0, locals := 75 }
theorem yd_X11_forged : yX11_forged.cls ≠ "java/lang/invoke/MethodHandle" ∧ yX11_forged.cls ≠ "java/lang/invoke/VarHandle" ∧ (parseMethodDescriptor yX11_forged.desc).map (fun d => d.parameters.length) = some 4 := by decide +kernel
def wX11_forged_73    (post : Int32 → xMem → Prop) (x1 : Int32) (x2 : Int32) (x3 : Int32) (x4 : Int32) (M : xMem) : Prop :=
    wX2_leftOf x1 x2 x3 M (fun r2 M1 =>
      if x4 = 0 then (
        post r2 M1)
      else (
        wX2_nextToSniff r2 M1 (fun r5 M4 =>
          post r5 M4)))
def wX11_forged_51    (post : Int32 → xMem → Prop) (x1 : Int32) (x2 : Int32) (x3 : Int32) (x4 : Int32) (s0 : Int32) (M : xMem) : Prop :=
    if s0 = 0 then (
      post (-1) M)
    else (
      if x3 = (-1) then (
        wX11_forged_73 post x1 x2 x3 x4 M)
      else (
        wX11_has x2 x3 M (fun r4 M3 =>
          if r4 = 0 then (
            post (-1) M3)
          else (
            wX11_forged_73 post x1 x2 x3 x4 M3))))
def wX11_forged_50    (post : Int32 → xMem → Prop) (x1 : Int32) (x2 : Int32) (x3 : Int32) (x4 : Int32) (M : xMem) : Prop :=
    wX11_forged_51 post x1 x2 x3 x4 0 M
def wX11_forged  (a0 : Int32) (a1 : Int32) (a2 : Int32) (a3 : Int32) (M : xMem) (post : Int32 → xMem → Prop) : Prop :=
    wX11_isWithin a0 1 1023 M (fun r2 M1 =>
      if r2 = 0 then (
        wX11_forged_50 post a0 a1 a2 a3 M1)
      else (
        if (a0 &&& ((gi M1 41 0) ^^^ (-1))) = 0 then (
          wX11_isWithin a1 0 1023 M1 (fun r6 M5 =>
            if r6 = 0 then (
              wX11_forged_50 post a0 a1 a2 a3 M5)
            else (
              wX11_isWithin a3 0 1 M5 (fun r9 M8 =>
                if r9 = 0 then (
                  wX11_forged_50 post a0 a1 a2 a3 M8)
                else (
                  wX11_forged_51 post a0 a1 a2 a3 1 M8)))))
        else (
          wX11_forged_50 post a0 a1 a2 a3 M1)))
abbrev rm_X11_yawns : Room := { frames := 4, cells := 0, slots := 0, locals := 89 }
theorem yd_X11_yawns : yX11_yawns.cls ≠ "java/lang/invoke/MethodHandle" ∧ yX11_yawns.cls ≠ "java/lang/invoke/VarHandle" ∧ (parseMethodDescriptor yX11_yawns.desc).map (fun d => d.parameters.length) = some 3 := by decide +kernel
def wX11_yawns_135   (K60 : Int32 → Int32 → Nat → Int32 → Int32 → Int32 → xMem → Prop) (post : Int32 → xMem → Prop) (x2 : Int32) (x3 : Int32) (c4 : Nat) (x5 : Int32) (x6 : Int32) (x7 : Int32) (M : xMem) : Prop :=
    ∀ v1 : Int32, v1 = x7 + 1 →
    K60 x2 x3 c4 x5 x6 v1 M
def wX11_yawns_129   (K60 : Int32 → Int32 → Nat → Int32 → Int32 → Int32 → xMem → Prop) (K70 : Int32 → Int32 → Nat → Int32 → Int32 → Int32 → Int32 → xMem → Prop) (post : Int32 → xMem → Prop) (x2 : Int32) (x3 : Int32) (c4 : Nat) (x5 : Int32) (x6 : Int32) (x7 : Int32) (x8 : Int32) (M : xMem) : Prop :=
    ∀ v1 : Int32, v1 = x8 + 1 →
    K70 x2 x3 c4 x5 x6 x7 v1 M
def wX11_yawns_70   (K60 : Int32 → Int32 → Nat → Int32 → Int32 → Int32 → xMem → Prop) (post : Int32 → xMem → Prop) : Nat → Int32 → Int32 → Nat → Int32 → Int32 → Int32 → Int32 → xMem → Prop
  | 0 => fun _ _ _ _ _ _ _ _ => False
  | n + 1 => fun x2 x3 c4 x5 x6 x7 x8 M =>
      wX2_isTold x7 M (fun r2 M1 =>
        if r2 = 0 then (
          wX11_yawns_135 K60 post x2 x3 c4 x5 x6 x7 M1)
        else (
          if (gi M1 c4 1) < x8 then (
            wX11_yawns_135 K60 post x2 x3 c4 x5 x6 x7 M1)
          else (
            vp_in x7 10 ∧
            wX9_yawnsLike c4 x2 x8 (gi M1 42 x7.toNatClampNeg) M1 (fun r7 M6 =>
              if r7 = 0 then (
                wX11_yawns_129 K60 (wX11_yawns_70 K60 post n) post x2 x3 c4 x5 x6 x7 x8 M6)
              else (
                ∀ v9 : Int32, v9 = x5 ||| (1 <<< (x7 &&& 31)) →
                ∀ v10 : Int32, v10 = x6 + 1 →
                wX11_yawns_129 K60 (wX11_yawns_70 K60 post n) post x2 x3 c4 v9 v10 x7 x8 M6)))))
def wX11_yawns_60    (post : Int32 → xMem → Prop) : Nat → Int32 → Int32 → Nat → Int32 → Int32 → Int32 → xMem → Prop
  | 0 => fun _ _ _ _ _ _ _ => False
  | n + 1 => fun x2 x3 c4 x5 x6 x7 M =>
      if 10 ≤ x7 then (
        if x3 = 0 then (
          post x5 M)
        else (
          post x6 M))
      else (
        ∃ n70 : Nat, wX11_yawns_70 (wX11_yawns_60 post n) post n70 x2 x3 c4 x5 x6 x7 1 M)
def wX11_yawns  (a0 : Int32) (a1 : Int32) (a2 : Int32) (M : xMem) (post : Int32 → xMem → Prop) : Prop :=
    wX11_toldStory a0 M (fun q2 M1 =>
      if q2 = 0 then (
        post (-1) M1)
      else (
        wX11_isWithin a2 0 1 M1 (fun r4 M3 =>
          if r4 = 0 then (
            post (-1) M3)
          else (
            wX11_tapeGives a1 1 20 M3 (fun r7 M6 =>
              if r7 = 0 then (
                post (-1) M6)
              else (
                ∀ M9 : xMem, M9 = si M6 0 1 0 →
                if a1 ≤ (gi M9 q2 1) then (
                  ∃ n60 : Nat, wX11_yawns_60 post n60 a1 a2 q2 0 0 0 M9)
                else (
                  post (-2) M9)))))))
abbrev rm_X11_turnsOf : Room := { frames := 3, cells := 0, slots := 0, locals := 65 }
theorem yd_X11_turnsOf : yX11_turnsOf.cls ≠ "java/lang/invoke/MethodHandle" ∧ yX11_turnsOf.cls ≠ "java/lang/invoke/VarHandle" ∧ (parseMethodDescriptor yX11_turnsOf.desc).map (fun d => d.parameters.length) = some 1 := by decide +kernel
def wX11_turnsOf_38   (K4 : Int32 → Int32 → Int32 → xMem → Prop) (post : Int32 → xMem → Prop) (x1 : Int32) (x2 : Int32) (x3 : Int32) (M : xMem) : Prop :=
    ∀ v1 : Int32, v1 = x3 + 1 →
    K4 x1 x2 v1 M
def wX11_turnsOf_4    (post : Int32 → xMem → Prop) : Nat → Int32 → Int32 → Int32 → xMem → Prop
  | 0 => fun _ _ _ _ => False
  | n + 1 => fun x1 x2 x3 M =>
      if 6 ≤ x3 then (
        post x2 M)
      else (
        wX11_toldStory x3 M (fun q3 M2 =>
          if q3 = 0 then (
            wX11_turnsOf_38 (wX11_turnsOf_4 post n) post x1 x2 x3 M2)
          else (
            wX11_has x1 x3 M2 (fun r5 M4 =>
              if r5 = 0 then (
                wX11_turnsOf_38 (wX11_turnsOf_4 post n) post x1 x2 x3 M4)
              else (
                ∀ v7 : Int32, v7 = x2 + (gi M4 q3 1) →
                wX11_turnsOf_38 (wX11_turnsOf_4 post n) post x1 v7 x3 M4)))))
def wX11_turnsOf  (a0 : Int32) (M : xMem) (post : Int32 → xMem → Prop) : Prop :=
    ∃ n4 : Nat, wX11_turnsOf_4 post n4 a0 0 0 M
abbrev rm_X11_thickestCutAt : Room := { frames := 4, cells := 0, slots := 0, locals := 89 }
theorem yd_X11_thickestCutAt : yX11_thickestCutAt.cls ≠ "java/lang/invoke/MethodHandle" ∧ yX11_thickestCutAt.cls ≠ "java/lang/invoke/VarHandle" ∧ (parseMethodDescriptor yX11_thickestCutAt.desc).map (fun d => d.parameters.length) = some 3 := by decide +kernel
def wX11_thickestCutAt  (a0 : Int32) (a1 : Int32) (a2 : Int32) (M : xMem) (post : Int32 → xMem → Prop) : Prop :=
    ∀ v1 : Int32, v1 = (1 <<< (a1 &&& 31)) - 1 →
    ∀ v2 : Int32, v2 = (1 <<< (a2 &&& 31)) - 1 →
    wX11_turnsOf (a0 &&& v1) M (fun r4 M3 =>
      wX11_turnsOf ((a0 &&& v2) &&& (v1 ^^^ (-1))) M3 (fun r6 M5 =>
        wX11_turnsOf (a0 &&& (v2 ^^^ (-1))) M5 (fun r8 M7 =>
          wJ9_max_7cf53 r6 r8 M7 (fun r10 M9 =>
            wJ9_max_7cf53 r4 r10 M9 (fun r12 M11 =>
              post r12 M11)))))
abbrev rm_X11_volumesCutAt : Room := { frames := 1, cells := 0, slots := 0, locals := 21 }
theorem yd_X11_volumesCutAt : yX11_volumesCutAt.cls ≠ "java/lang/invoke/MethodHandle" ∧ yX11_volumesCutAt.cls ≠ "java/lang/invoke/VarHandle" ∧ (parseMethodDescriptor yX11_volumesCutAt.desc).map (fun d => d.parameters.length) = some 3 := by decide +kernel
def wX11_volumesCutAt_97    (post : Int32 → xMem → Prop) (x2 : Int32) (s0 : Int32) (s1 : Int32) (M : xMem) : Prop :=
    if 6 ≤ x2 then (
      post ((s1 + s0) + 0) M)
    else (
      post ((s1 + s0) + 1) M)
def wX11_volumesCutAt_67    (post : Int32 → xMem → Prop) (x1 : Int32) (x2 : Int32) (x3 : Int32) (x4 : Int32) (s0 : Int32) (M : xMem) : Prop :=
    if x3 = 0 then (
      post 0 M)
    else (
      if x4 = 0 then (
        post 0 M)
      else (
        if s0 = 0 then (
          post 0 M)
        else (
          if 6 ≤ x1 then (
            wX11_volumesCutAt_97 post x2 0 1 M)
          else (
            wX11_volumesCutAt_97 post x2 1 1 M))))
def wX11_volumesCutAt_50    (post : Int32 → xMem → Prop) (x0 : Int32) (x1 : Int32) (x2 : Int32) (x3 : Int32) (s0 : Int32) (M : xMem) : Prop :=
    if (x0 &&& ((1 <<< (x1 &&& 31)) - 1)) = 0 then (
      wX11_volumesCutAt_67 post x1 x2 x3 s0 0 M)
    else (
      wX11_volumesCutAt_67 post x1 x2 x3 s0 1 M)
def wX11_volumesCutAt_45    (post : Int32 → xMem → Prop) (x0 : Int32) (x1 : Int32) (x2 : Int32) (x3 : Int32) (M : xMem) : Prop :=
    wX11_volumesCutAt_50 post x0 x1 x2 x3 1 M
def wX11_volumesCutAt_33    (post : Int32 → xMem → Prop) (x0 : Int32) (x1 : Int32) (x2 : Int32) (s0 : Int32) (M : xMem) : Prop :=
    if x1 < x2 then (
      wX11_volumesCutAt_45 post x0 x1 x2 s0 M)
    else (
      if x1 = 6 then (
        wX11_volumesCutAt_45 post x0 x1 x2 s0 M)
      else (
        wX11_volumesCutAt_50 post x0 x1 x2 s0 0 M))
def wX11_volumesCutAt_28    (post : Int32 → xMem → Prop) (x0 : Int32) (x1 : Int32) (x2 : Int32) (M : xMem) : Prop :=
    wX11_volumesCutAt_33 post x0 x1 x2 1 M
def wX11_volumesCutAt_32    (post : Int32 → xMem → Prop) (x0 : Int32) (x1 : Int32) (x2 : Int32) (M : xMem) : Prop :=
    wX11_volumesCutAt_33 post x0 x1 x2 0 M
def wX11_volumesCutAt_14    (post : Int32 → xMem → Prop) (x0 : Int32) (x1 : Int32) (x2 : Int32) (M : xMem) : Prop :=
    if x2 = 6 then (
      wX11_volumesCutAt_28 post x0 x1 x2 M)
    else (
      wX11_has x0 x2 M (fun r3 M2 =>
        if r3 = 0 then (
          wX11_volumesCutAt_32 post x0 x1 x2 M2)
        else (
          wX11_volumesCutAt_28 post x0 x1 x2 M2)))
def wX11_volumesCutAt  (a0 : Int32) (a1 : Int32) (a2 : Int32) (M : xMem) (post : Int32 → xMem → Prop) : Prop :=
    if a1 = 6 then (
      wX11_volumesCutAt_14 post a0 a1 a2 M)
    else (
      wX11_has a0 a1 M (fun r3 M2 =>
        if r3 = 0 then (
          wX11_volumesCutAt_32 post a0 a1 a2 M2)
        else (
          wX11_volumesCutAt_14 post a0 a1 a2 M2)))
abbrev rm_X11_book : Room := { frames := 5, cells := 0, slots := 0, locals := 117 }
theorem yd_X11_book : yX11_book.cls ≠ "java/lang/invoke/MethodHandle" ∧ yX11_book.cls ≠ "java/lang/invoke/VarHandle" ∧ (parseMethodDescriptor yX11_book.desc).map (fun d => d.parameters.length) = some 3 := by decide +kernel
def wX11_book_170   (K73 : Int32 → Int32 → Int32 → Int32 → Int32 → Int32 → Int32 → xMem → Prop) (K84 : Int32 → Int32 → Int32 → Int32 → Int32 → Int32 → Int32 → Int32 → xMem → Prop) (post : Int32 → xMem → Prop) (x1 : Int32) (x2 : Int32) (x3 : Int32) (x6 : Int32) (x7 : Int32) (x8 : Int32) (x9 : Int32) (x10 : Int32) (M : xMem) : Prop :=
    ∀ v1 : Int32, v1 = x10 + 1 →
    K84 x1 x2 x3 x6 x7 x8 x9 v1 M
def wX11_book_168   (K73 : Int32 → Int32 → Int32 → Int32 → Int32 → Int32 → Int32 → xMem → Prop) (K84 : Int32 → Int32 → Int32 → Int32 → Int32 → Int32 → Int32 → Int32 → xMem → Prop) (post : Int32 → xMem → Prop) (x1 : Int32) (x2 : Int32) (x3 : Int32) (x6 : Int32) (x7 : Int32) (x9 : Int32) (x10 : Int32) (s0 : Int32) (M : xMem) : Prop :=
    wX11_book_170 K73 K84 post x1 x2 x3 x6 x7 s0 x9 x10 M
def wX11_book_154   (K73 : Int32 → Int32 → Int32 → Int32 → Int32 → Int32 → Int32 → xMem → Prop) (K84 : Int32 → Int32 → Int32 → Int32 → Int32 → Int32 → Int32 → Int32 → xMem → Prop) (post : Int32 → xMem → Prop) (x1 : Int32) (x2 : Int32) (x3 : Int32) (x6 : Int32) (x9 : Int32) (x10 : Int32) (s0 : Int32) (M : xMem) : Prop :=
    if x2 ≤ 2 then (
      wX11_book_168 K73 K84 post x1 x2 x3 x6 s0 x9 x10 (-2) M)
    else (
      wX11_book_168 K73 K84 post x1 x2 x3 x6 s0 x9 x10 x10 M)
def wX11_book_129   (K73 : Int32 → Int32 → Int32 → Int32 → Int32 → Int32 → Int32 → xMem → Prop) (K84 : Int32 → Int32 → Int32 → Int32 → Int32 → Int32 → Int32 → Int32 → xMem → Prop) (post : Int32 → xMem → Prop) (x1 : Int32) (x2 : Int32) (x3 : Int32) (x6 : Int32) (x7 : Int32) (x8 : Int32) (x9 : Int32) (x10 : Int32) (s0 : Int32) (M : xMem) : Prop :=
    if x6 ≤ s0 then (
      wX11_book_170 K73 K84 post x1 x2 x3 x6 x7 x8 x9 x10 M)
    else (
      if x2 ≤ 1 then (
        wX11_book_154 K73 K84 post x1 x2 x3 s0 x9 x10 (-2) M)
      else (
        wX11_book_154 K73 K84 post x1 x2 x3 s0 x9 x10 x9 M))
def wX11_book_108   (K73 : Int32 → Int32 → Int32 → Int32 → Int32 → Int32 → Int32 → xMem → Prop) (K84 : Int32 → Int32 → Int32 → Int32 → Int32 → Int32 → Int32 → Int32 → xMem → Prop) (post : Int32 → xMem → Prop) (x1 : Int32) (x2 : Int32) (x3 : Int32) (x6 : Int32) (x7 : Int32) (x8 : Int32) (x9 : Int32) (x10 : Int32) (s0 : Int32) (M : xMem) : Prop :=
    if s0 = 0 then (
      wX11_book_129 K73 K84 post x1 x2 x3 x6 x7 x8 x9 x10 x6 M)
    else (
      wX11_thickestCutAt x1 x9 x10 M (fun r3 M2 =>
        wX11_book_129 K73 K84 post x1 x2 x3 x6 x7 x8 x9 x10 r3 M2))
def wX11_book_84   (K73 : Int32 → Int32 → Int32 → Int32 → Int32 → Int32 → Int32 → xMem → Prop) (post : Int32 → xMem → Prop) : Nat → Int32 → Int32 → Int32 → Int32 → Int32 → Int32 → Int32 → Int32 → xMem → Prop
  | 0 => fun _ _ _ _ _ _ _ _ _ => False
  | n + 1 => fun x1 x2 x3 x6 x7 x8 x9 x10 M =>
      if 6 < x10 then (
        ∀ v2 : Int32, v2 = x9 + 1 →
        K73 x1 x2 x3 x6 x7 x8 v2 M)
      else (
        wX11_volumesCutAt x1 x9 x10 M (fun r4 M3 =>
          if r4 = x2 then (
            wX11_book_108 K73 (wX11_book_84 K73 post n) post x1 x2 x3 x6 x7 x8 x9 x10 1 M3)
          else (
            wX11_book_108 K73 (wX11_book_84 K73 post n) post x1 x2 x3 x6 x7 x8 x9 x10 0 M3)))
def wX11_book_73    (post : Int32 → xMem → Prop) : Nat → Int32 → Int32 → Int32 → Int32 → Int32 → Int32 → Int32 → xMem → Prop
  | 0 => fun _ _ _ _ _ _ _ _ => False
  | n + 1 => fun x1 x2 x3 x6 x7 x8 x9 M =>
      if 6 < x9 then (
        if x3 = 0 then (
          post x6 M)
        else (
          if x3 = 1 then (
            post x7 M)
          else (
            post x8 M)))
      else (
        ∃ n84 : Nat, wX11_book_84 (wX11_book_73 post n) post n84 x1 x2 x3 x6 x7 x8 x9 x9 M)
def wX11_book_39    (post : Int32 → xMem → Prop) (x1 : Int32) (x2 : Int32) (x3 : Int32) (s0 : Int32) (M : xMem) : Prop :=
    if s0 = 0 then (
      post (-1) M)
    else (
      wX11_isWithin x3 0 2 M (fun r3 M2 =>
        if r3 = 0 then (
          post (-1) M2)
        else (
          ∃ n73 : Nat, wX11_book_73 post n73 x1 x2 x3 433 (-2) (-2) 1 M2)))
def wX11_book_38    (post : Int32 → xMem → Prop) (x1 : Int32) (x2 : Int32) (x3 : Int32) (M : xMem) : Prop :=
    wX11_book_39 post x1 x2 x3 0 M
def wX11_book  (a0 : Int32) (a1 : Int32) (a2 : Int32) (M : xMem) (post : Int32 → xMem → Prop) : Prop :=
    wJ6_bitCount_0f7a4 a0 M (fun r2 M1 =>
      if r2 < 1 then (
        wX11_book_38 post a0 a1 a2 M1)
      else (
        wX11_areTold a0 M1 (fun r5 M4 =>
          if r5 = 0 then (
            wX11_book_38 post a0 a1 a2 M4)
          else (
            wJ9_min_7cf53 3 r2 M4 (fun r8 M7 =>
              wX11_isWithin a1 1 r8 M7 (fun r10 M9 =>
                if r10 = 0 then (
                  wX11_book_38 post a0 a1 a2 M9)
                else (
                  wX11_book_39 post a0 a1 a2 1 M9)))))))
abbrev rm_X11_seed : Room := { frames := 1, cells := 0, slots := 0, locals := 22 }
theorem yd_X11_seed : yX11_seed.cls ≠ "java/lang/invoke/MethodHandle" ∧ yX11_seed.cls ≠ "java/lang/invoke/VarHandle" ∧ (parseMethodDescriptor yX11_seed.desc).map (fun d => d.parameters.length) = some 1 := by decide +kernel
def wX11_seed  (a0 : Int32) (M : xMem) (post : Int32 → xMem → Prop) : Prop :=
    wX11_isWithin a0 0 65535 M (fun r2 M1 =>
      if r2 = 0 then (
        bz r2 ∧ post r2 M1)
      else (
        ∀ M4 : xMem, M4 = si M1 49 13 a0 →
        bz r2 ∧ post r2 M4))
abbrev rm_X11_keep : Room := { frames := 2, cells := 0, slots := 0, locals := 81 }
theorem yd_X11_keep : yX11_keep.cls ≠ "java/lang/invoke/MethodHandle" ∧ yX11_keep.cls ≠ "java/lang/invoke/VarHandle" ∧ (parseMethodDescriptor yX11_keep.desc).map (fun d => d.parameters.length) = some 0 := by decide +kernel
def wX11_keep   (M : xMem) (post : Int32 → xMem → Prop) : Prop :=
    wX4_takeFrom 58 49 M (fun M1 =>
      ∀ M2 : xMem, M2 = si M1 0 11 1 →
      post (gi M2 49 10) M2)
abbrev rm_X11_undo : Room := { frames := 2, cells := 0, slots := 0, locals := 81 }
theorem yd_X11_undo : yX11_undo.cls ≠ "java/lang/invoke/MethodHandle" ∧ yX11_undo.cls ≠ "java/lang/invoke/VarHandle" ∧ (parseMethodDescriptor yX11_undo.desc).map (fun d => d.parameters.length) = some 0 := by decide +kernel
def wX11_undo_71   (K20 : Int32 → xMem → Prop) (post : Int32 → xMem → Prop) (x1 : Int32) (s0 : Int32) (s1 : Int32) (M : xMem) : Prop :=
    vp_in s1 4 ∧
    ∀ M2 : xMem, M2 = si M 52 s1.toNatClampNeg s0 →
    ∀ v3 : Int32, v3 = x1 + 1 →
    K20 v3 M2
def wX11_undo_20    (post : Int32 → xMem → Prop) : Nat → Int32 → xMem → Prop
  | 0 => fun _ _ => False
  | n + 1 => fun x1 M =>
      if 4 ≤ x1 then (
        bz (gi M 0 11) ∧ post (gi M 0 11) M)
      else (
        vp_in x1 4 ∧
        wX11_storyAt (gi M 50 x1.toNatClampNeg) M (fun q4 M3 =>
          if q4 = 0 then (
            wX11_undo_71 (wX11_undo_20 post n) post x1 0 x1 M3)
          else (
            vp_in x1 4 ∧
            wJ9_min_7cf53 (gi M3 52 x1.toNatClampNeg) (gi M3 q4 1) M3 (fun r7 M6 =>
              wX11_undo_71 (wX11_undo_20 post n) post x1 r7 x1 M6))))
def wX11_undo   (M : xMem) (post : Int32 → xMem → Prop) : Prop :=
    if (gi M 0 11) = 0 then (
      bz (gi M 0 11) ∧ post (gi M 0 11) M)
    else (
      wX4_takeFrom 49 58 M (fun M2 =>
        ∃ n20 : Nat, wX11_undo_20 post n20 0 M2))
abbrev rm_X11_check : Room := { frames := 2, cells := 0, slots := 0, locals := 45 }
theorem yd_X11_check : yX11_check.cls ≠ "java/lang/invoke/MethodHandle" ∧ yX11_check.cls ≠ "java/lang/invoke/VarHandle" ∧ (parseMethodDescriptor yX11_check.desc).map (fun d => d.parameters.length) = some 1 := by decide +kernel
def wX11_check_21    (post : Int32 → xMem → Prop) : Nat → Int32 → Int32 → xMem → Prop
  | 0 => fun _ _ _ => False
  | n + 1 => fun x1 x2 M =>
      if x1 ≤ x2 then (
        post (-1) M)
      else (
        vp_in x2 260 ∧
        vp_in x2 10 ∧
        if (gi M 1 x2.toNatClampNeg) = (gi M 56 x2.toNatClampNeg) then (
          ∀ v5 : Int32, v5 = x2 + 1 →
          wX11_check_21 post n x1 v5 M)
        else (
          post x2 M))
def wX11_check  (a0 : Int32) (M : xMem) (post : Int32 → xMem → Prop) : Prop :=
    wX11_tapeGives a0 0 10 M (fun r2 M1 =>
      if r2 = 0 then (
        post (-2) M1)
      else (
        ∀ M4 : xMem, M4 = si M1 0 1 0 →
        ∃ n21 : Nat, wX11_check_21 post n21 a0 0 M4))
abbrev rm_X11_count : Room := { frames := 4, cells := 0, slots := 0, locals := 87 }
theorem yd_X11_count : yX11_count.cls ≠ "java/lang/invoke/MethodHandle" ∧ yX11_count.cls ≠ "java/lang/invoke/VarHandle" ∧ (parseMethodDescriptor yX11_count.desc).map (fun d => d.parameters.length) = some 1 := by decide +kernel
def wX11_count  (a0 : Int32) (M : xMem) (post : Int32 → xMem → Prop) : Prop :=
    if a0 = 0 then (
      post (gi M 49 10) M)
    else
    if a0 = 1 then (
      post (gi M 49 11) M)
    else
    if a0 = 2 then (
      post (gi M 49 12) M)
    else
    if a0 = 3 then (
      wX11_toldStories  M (fun r6 M5 =>
        post r6 M5))
    else
    if a0 = 4 then (
      post (gi M 41 0) M)
    else
    if a0 = 5 then (
      post (gi M 49 0) M)
    else
    if a0 = 6 then (
      post (gi M 49 5) M)
    else
    if a0 = 7 then (
      post (gi M 18 0) M)
    else
    if a0 = 8 then (
      post (gi M 0 1) M)
    else
    if a0 = 9 then (
      post (gi M 49 13) M)
    else (
      post (-1) M)
set_option maxHeartbeats 4000000 in
set_option maxRecDepth 100000 in
theorem tX11_knots_36 {g : xG} (hg : x_inj (WC g))  {x : xCx}  {K9 : Int32 → Int32 → Int32 → xMem → Prop} {post : Int32 → xMem → Prop} (C : xOk (WC g) x cX11_knots RX11 4 (some .int) (rm_X11_knots) (pI post))  (hK9 : ∀ (x1 : Int32) (x2 : Int32) (x3 : Int32) (M : xMem), K9 x1 x2 x3 M → xW (WC g) x 4 9 [(0, .ref (ga g 0)), (1, .int x1), (2, .int x2), (3, .int x3)] [] M) (x1 : Int32) (x2 : Int32) (x3 : Int32) (M : xMem)  (h : wX11_knots_36 K9 post x1 x2 x3 M) : xW (WC g) x 4 36 [(0, .ref (ga g 0)), (1, .int x1), (2, .int x2), (3, .int x3)] [] M := by
  unfold wX11_knots_36 at h
  obtain ⟨v1, ev1⟩ : ∃ z : Int32, z = x3 + 1 := ⟨_, rfl⟩
  replace h := h v1 ev1
  refine x_iinc C 3 (v1 := v1) (L' := [(3, .int v1), (0, .ref (ga g 0)), (1, .int x1), (2, .int x2)]) rfl (by rw [ev1]; rfl) rfl (Nat.le_of_ble_eq_true rfl) dX11_knots_36 ?_
  refine x_goto C (tgt := 9) dX11_knots_39 (by decide) ?_
  refine x_loc (L' := [(0, .ref (ga g 0)), (1, .int x1), (2, .int x2), (3, .int v1)]) [1, 2, 3, 0] rfl ?_
  exact hK9 _ _ _ _  h
set_option maxHeartbeats 4000000 in
set_option maxRecDepth 100000 in
theorem tX11_knots_9 {g : xG} (hg : x_inj (WC g))  {x : xCx}   {post : Int32 → xMem → Prop} (C : xOk (WC g) x cX11_knots RX11 4 (some .int) (rm_X11_knots) (pI post))   : ∀ (n : Nat) (x1 : Int32) (x2 : Int32) (x3 : Int32) (M : xMem), wX11_knots_9 post n x1 x2 x3 M → xW (WC g) x 4 9 [(0, .ref (ga g 0)), (1, .int x1), (2, .int x2), (3, .int x3)] [] M := by
  intro n
  induction n with
  | zero =>
    intro x1 x2 x3 M  h
    exact h.elim
  | succ n ih =>
    intro x1 x2 x3 M  h
    rw [wX11_knots_9] at h
    refine x_iload_n C 3 rfl rfl dX11_knots_9 ?_
    refine x_bipush C (v1 := 6) dX11_knots_10 (by decide) ?_
    refine x_icmp_ge C (tgt := 42) dX11_knots_12 (by decide) (fun hq1 => ?_) (fun hq1 => ?_)
    · replace h := x_ift hq1 h
      refine x_iload_n C 1 rfl rfl dX11_knots_42 ?_
      exact x_iret C dX11_knots_43 ⟨_, rfl, h⟩
    · replace h := x_iff hq1 h
      refine x_iload_n C 2 rfl rfl dX11_knots_15 ?_
      refine x_iload_n C 3 rfl rfl dX11_knots_16 ?_
      refine x_callS C (st := []) (As := [.int x2, .int x3]) (tX11_has hg _ _ _ _ _  h) wm_X11_164 wsm_X11_has wz_X11 wc_X11_has yd_X11_has rfl ⟨rfl, rfl⟩ ⟨Nat.le_of_ble_eq_true rfl, Nat.le_of_ble_eq_true rfl⟩ (Nat.le_of_ble_eq_true rfl) rfl dX11_knots_17 (x_ki (fun r3 M2 h => ?_))
      refine x_if_eq C (tgt := 36) dX11_knots_20 (by decide) (fun hq4 => ?_) (fun hq4 => ?_)
      · replace h := x_ift hq4 h
        exact tX11_knots_36 hg  C  ih _ _ _ _  h
      · replace h := x_iff hq4 h
        obtain ⟨v5, ev5⟩ : ∃ z : Int32, z = x1 + 1 := ⟨_, rfl⟩
        replace h := h v5 ev5
        refine x_iinc C 1 (v1 := v5) (L' := [(1, .int v5), (0, .ref (ga g 0)), (2, .int x2), (3, .int x3)]) rfl (by rw [ev5]; rfl) rfl (Nat.le_of_ble_eq_true rfl) dX11_knots_23 ?_
        refine x_iload_n C 2 rfl rfl dX11_knots_26 ?_
        refine x_aload_n C 1 rfl rfl dX11_knots_27 ?_
        refine x_iload_n C 3 rfl rfl dX11_knots_28 ?_
        refine x_callV C (st := [.int x2]) (As := [.int x3]) (c := 0) (ci := 11) (enC_11 (c := 0) rfl) (Nat.le_of_ble_eq_true rfl) rfl (tX11_knotOf hg _ _ _ _  h) wm_X11_210 wi_X11_knotOf wv_X11_knotOf wz_X11 wc_X11_knotOf rfl yd_X11_knotOf rfl ⟨rfl, rfl⟩ ⟨Nat.le_of_ble_eq_true rfl, Nat.le_of_ble_eq_true rfl⟩ (Nat.le_of_ble_eq_true rfl) rfl dX11_knots_29 (x_ki (fun r7 M6 h => ?_))
        refine x_iconst C (v1 := (-1)) dX11_knots_32 (by decide) ?_
        refine x_ixor C dX11_knots_33 ?_
        refine x_iand C dX11_knots_34 ?_
        refine x_nm (fun v8 ev8 => ?_)
        replace h := h v8 ev8
        refine x_istore_n C (L' := [(2, .int v8), (1, .int v5), (0, .ref (ga g 0)), (3, .int x3)]) rfl rfl (Nat.le_of_ble_eq_true rfl) dX11_knots_35 ?_
        refine x_loc (L' := [(0, .ref (ga g 0)), (1, .int v5), (2, .int v8), (3, .int x3)]) [2, 1, 0, 3] rfl ?_
        exact tX11_knots_36 hg  C  ih _ _ _ _  h
set_option maxHeartbeats 4000000 in
set_option maxRecDepth 100000 in
theorem tX11_knots {g : xG} (hg : x_inj (WC g))  (l : Launch)  (M : xMem) (post : Int32 → xMem → Prop)  (h : wX11_knots  M post) : xMet (WC g) l yX11_knots cX11_knots 4 (some .int) (rm_X11_knots) [.ref (ga g 0)] M (pI post) := by
  refine x_enter (own := RX11) (L0 := [(0, .ref (ga g 0))]) (by decide +kernel) rfl hg (x_stC g) (Nat.le_of_ble_eq_true rfl) rfl (fun x hl C => ?_)
  unfold wX11_knots at h
  refine x_iconst C (v1 := 0) dX11_knots_0 (by decide) ?_
  refine x_istore_n C (L' := [(1, .int 0), (0, .ref (ga g 0))]) rfl rfl (Nat.le_of_ble_eq_true rfl) dX11_knots_1 ?_
  refine x_aload_n C 1 rfl rfl dX11_knots_2 ?_
  refine x_callV C (st := []) (As := []) (c := 0) (ci := 11) (enC_11 (c := 0) rfl) (Nat.le_of_ble_eq_true rfl) rfl (tX11_toldStories hg _  _ _  h) wm_X11_310 wi_X11_toldStories wv_X11_toldStories wz_X11 wc_X11_toldStories rfl yd_X11_toldStories rfl ⟨rfl, rfl⟩ ⟨Nat.le_of_ble_eq_true rfl, Nat.le_of_ble_eq_true rfl⟩ (Nat.le_of_ble_eq_true rfl) rfl dX11_knots_3 (x_ki (fun r2 M1 h => ?_))
  refine x_istore_n C (L' := [(2, .int r2), (1, .int 0), (0, .ref (ga g 0))]) rfl rfl (Nat.le_of_ble_eq_true rfl) dX11_knots_6 ?_
  refine x_iconst C (v1 := 0) dX11_knots_7 (by decide) ?_
  refine x_istore_n C (L' := [(3, .int 0), (2, .int r2), (1, .int 0), (0, .ref (ga g 0))]) rfl rfl (Nat.le_of_ble_eq_true rfl) dX11_knots_8 ?_
  refine x_loc (L' := [(0, .ref (ga g 0)), (1, .int 0), (2, .int r2), (3, .int 0)]) [3, 2, 1, 0] rfl ?_
  obtain ⟨n9, h⟩ := h
  exact tX11_knots_9 hg  C   _ _ _ _ _  h
set_option maxHeartbeats 4000000 in
set_option maxRecDepth 100000 in
theorem tX11_tapeIsWithin_2 {g : xG} (hg : x_inj (WC g))  {x : xCx}   {post : Int32 → xMem → Prop} (C : xOk (WC g) x cX11_tapeIsWithin RX11 4 (some .boolean) (rm_X11_tapeIsWithin) (pI post))   : ∀ (n : Nat) (x1 : Int32) (x2 : Int32) (x3 : Int32) (M : xMem), wX11_tapeIsWithin_2 post n x1 x2 x3 M → xW (WC g) x 4 2 [(0, .ref (ga g 0)), (1, .int x1), (2, .int x2), (3, .int x3)] [] M := by
  intro n
  induction n with
  | zero =>
    intro x1 x2 x3 M  h
    exact h.elim
  | succ n ih =>
    intro x1 x2 x3 M  h
    rw [wX11_tapeIsWithin_2] at h
    refine x_iload_n C 3 rfl rfl dX11_tapeIsWithin_2 ?_
    refine x_iload_n C 1 rfl rfl dX11_tapeIsWithin_3 ?_
    refine x_icmp_ge C (tgt := 32) dX11_tapeIsWithin_4 (by decide) (fun hq1 => ?_) (fun hq1 => ?_)
    · replace h := x_ift hq1 h
      refine x_iconst C (v1 := 1) dX11_tapeIsWithin_32 (by decide) ?_
      exact x_zret C rfl dX11_tapeIsWithin_33 ⟨_, rfl, h⟩
    · replace h := x_iff hq1 h
      refine x_iload_n C 3 rfl rfl dX11_tapeIsWithin_7 ?_
      refine x_sipush C (v1 := 260) dX11_tapeIsWithin_8 (by decide) ?_
      refine x_icmp_ge C (tgt := 32) dX11_tapeIsWithin_11 (by decide) (fun hq2 => ?_) (fun hq2 => ?_)
      · replace h := x_ift hq2 h
        refine x_iconst C (v1 := 1) dX11_tapeIsWithin_32 (by decide) ?_
        exact x_zret C rfl dX11_tapeIsWithin_33 ⟨_, rfl, h⟩
      · replace h := x_iff hq2 h
        refine x_aload_n C 0 rfl rfl dX11_tapeIsWithin_14 ?_
        refine x_get C (c := 0) (ci := 11) (k1 := 0) (v1 := .ref (ga g 1)) (enC_11 (c := 0) rfl) (Nat.le_of_ble_eq_true rfl) rfl inX11 (by decide) wf_X11_9 rfl dX11_tapeIsWithin_15 ?_
        refine x_iload_n C 3 rfl rfl dX11_tapeIsWithin_18 ?_
        obtain ⟨hi3, h⟩ := h
        refine x_iald C 0 (c := 1) (enC_20n (c := 1) (n := 260) rfl rfl) (Nat.le_of_ble_eq_true rfl) rfl hi3 dX11_tapeIsWithin_19 ?_
        refine x_iload_n C 2 rfl rfl dX11_tapeIsWithin_20 ?_
        refine x_icmp_le C (tgt := 26) dX11_tapeIsWithin_21 (by decide) (fun hq4 => ?_) (fun hq4 => ?_)
        · replace h := x_ift hq4 h
          obtain ⟨v5, ev5⟩ : ∃ z : Int32, z = x3 + 1 := ⟨_, rfl⟩
          replace h := h v5 ev5
          refine x_iinc C 3 (v1 := v5) (L' := [(3, .int v5), (0, .ref (ga g 0)), (1, .int x1), (2, .int x2)]) rfl (by rw [ev5]; rfl) rfl (Nat.le_of_ble_eq_true rfl) dX11_tapeIsWithin_26 ?_
          refine x_goto C (tgt := 2) dX11_tapeIsWithin_29 (by decide) ?_
          refine x_loc (L' := [(0, .ref (ga g 0)), (1, .int x1), (2, .int x2), (3, .int v5)]) [1, 2, 3, 0] rfl ?_
          exact ih _ _ _ _  h
        · replace h := x_iff hq4 h
          refine x_iconst C (v1 := 0) dX11_tapeIsWithin_24 (by decide) ?_
          exact x_zret C rfl dX11_tapeIsWithin_25 ⟨_, rfl, h⟩
set_option maxHeartbeats 4000000 in
set_option maxRecDepth 100000 in
theorem tX11_tapeIsWithin {g : xG} (hg : x_inj (WC g))  (l : Launch) (a0 : Int32) (a1 : Int32) (M : xMem) (post : Int32 → xMem → Prop)  (h : wX11_tapeIsWithin a0 a1 M post) : xMet (WC g) l yX11_tapeIsWithin cX11_tapeIsWithin 4 (some .boolean) (rm_X11_tapeIsWithin) [.ref (ga g 0), .int a0, .int a1] M (pI post) := by
  refine x_enter (own := RX11) (L0 := [(0, .ref (ga g 0)), (1, .int a0), (2, .int a1)]) (by decide +kernel) rfl hg (x_stC g) (Nat.le_of_ble_eq_true rfl) rfl (fun x hl C => ?_)
  unfold wX11_tapeIsWithin at h
  refine x_iconst C (v1 := 0) dX11_tapeIsWithin_0 (by decide) ?_
  refine x_istore_n C (L' := [(3, .int 0), (0, .ref (ga g 0)), (1, .int a0), (2, .int a1)]) rfl rfl (Nat.le_of_ble_eq_true rfl) dX11_tapeIsWithin_1 ?_
  refine x_loc (L' := [(0, .ref (ga g 0)), (1, .int a0), (2, .int a1), (3, .int 0)]) [1, 2, 3, 0] rfl ?_
  obtain ⟨n2, h⟩ := h
  exact tX11_tapeIsWithin_2 hg  C   _ _ _ _ _  h
set_option maxHeartbeats 4000000 in
set_option maxRecDepth 100000 in
theorem tX2_planWinter_278 {g : xG} (hg : x_inj (WC g))  {x : xCx}   {post : xMem → Prop} (C : xOk (WC g) x cX2_planWinter RX2 10 none (rm_X2_planWinter) (pV post))   (x3 : Int32) (x4 : Int32) (M : xMem)  (h : wX2_planWinter_278 post x3 x4 M) : xW (WC g) x 10 278 [(0, .ref (ga g 41)), (3, .int x3), (4, .int x4)] [] M := by
  unfold wX2_planWinter_278 at h
  refine x_aload_n C 0 rfl rfl dX2_planWinter_278 ?_
  refine x_aload_n C 0 rfl rfl dX2_planWinter_279 ?_
  refine x_iload C 2 rfl dX2_planWinter_280 ?_
  refine x_iload_n C 1 rfl rfl dX2_planWinter_282 ?_
  refine x_callV C (st := [.ref (ga g 41)]) (As := [.int x4, .int x3]) (c := 41) (ci := 2) (enC_2 (c := 41) rfl) (Nat.le_of_ble_eq_true rfl) rfl (tX2_endsOf hg _ _ _ _ _  h) wm_X2_76 wi_X2_endsOf wv_X2_endsOf wz_X2 wc_X2_endsOf rfl yd_X2_endsOf rfl ⟨rfl, rfl⟩ ⟨Nat.le_of_ble_eq_true rfl, Nat.le_of_ble_eq_true rfl⟩ (Nat.le_of_ble_eq_true rfl) rfl dX2_planWinter_283 (x_ki (fun r2 M1 h => ?_))
  refine x_put C (c := 41) (ci := 2) (k1 := 10) (u1 := r2) (v1 := .int r2) (ty := .int) (enC_2 (c := 41) rfl) (Nat.le_of_ble_eq_true rfl) rfl inX2 (by decide) (stX2_10 _ _ _) tyX2 tyX2_ok nmX2 wf_X2_43 rfl rfl rfl rfl (Nat.le_of_ble_eq_true rfl) dX2_planWinter_286 ?_
  refine x_nmM (fun M3 eM3 => ?_)
  replace h := h M3 eM3
  exact x_vret C dX2_planWinter_289 ⟨rfl, h⟩
set_option maxHeartbeats 4000000 in
set_option maxRecDepth 100000 in
theorem tX2_planWinter_266 {g : xG} (hg : x_inj (WC g))  {x : xCx}  {K57 : Int32 → Int32 → Int32 → Int32 → xMem → Prop} {K89 : Int32 → Int32 → Int32 → Int32 → Int32 → Int32 → Int32 → xMem → Prop} {post : xMem → Prop} (C : xOk (WC g) x cX2_planWinter RX2 10 none (rm_X2_planWinter) (pV post))  (hK57 : ∀ (x1 : Int32) (x3 : Int32) (x4 : Int32) (x5 : Int32) (M : xMem), K57 x1 x3 x4 x5 M → xW (WC g) x 10 57 [(0, .ref (ga g 41)), (1, .int x1), (2, .ref (ga g 1)), (3, .int x3), (4, .int x4), (5, .int x5)] [] M) (hK89 : ∀ (x1 : Int32) (x3 : Int32) (x4 : Int32) (x5 : Int32) (x6 : Int32) (x7 : Int32) (x8 : Int32) (M : xMem), K89 x1 x3 x4 x5 x6 x7 x8 M → xW (WC g) x 10 89 [(0, .ref (ga g 41)), (1, .int x1), (2, .ref (ga g 1)), (3, .int x3), (4, .int x4), (5, .int x5), (6, .int x6), (7, .int x7), (8, .int x8)] [] M) (x1 : Int32) (x3 : Int32) (x4 : Int32) (x5 : Int32) (x6 : Int32) (x7 : Int32) (x8 : Int32) (M : xMem)  (h : wX2_planWinter_266 K57 K89 post x1 x3 x4 x5 x6 x7 x8 M) : xW (WC g) x 10 266 [(0, .ref (ga g 41)), (1, .int x1), (2, .ref (ga g 1)), (3, .int x3), (4, .int x4), (5, .int x5), (6, .int x6), (7, .int x7), (8, .int x8)] [] M := by
  unfold wX2_planWinter_266 at h
  obtain ⟨v1, ev1⟩ : ∃ z : Int32, z = x8 + 1 := ⟨_, rfl⟩
  replace h := h v1 ev1
  refine x_iinc C 8 (v1 := v1) (L' := [(8, .int v1), (0, .ref (ga g 41)), (1, .int x1), (2, .ref (ga g 1)), (3, .int x3), (4, .int x4), (5, .int x5), (6, .int x6), (7, .int x7)]) rfl (by rw [ev1]; rfl) rfl (Nat.le_of_ble_eq_true rfl) dX2_planWinter_266 ?_
  refine x_goto C (tgt := 89) dX2_planWinter_269 (by decide) ?_
  refine x_loc (L' := [(0, .ref (ga g 41)), (1, .int x1), (2, .ref (ga g 1)), (3, .int x3), (4, .int x4), (5, .int x5), (6, .int x6), (7, .int x7), (8, .int v1)]) [1, 2, 3, 4, 5, 6, 7, 8, 0] rfl ?_
  exact hK89 _ _ _ _ _ _ _ _  h
set_option maxHeartbeats 4000000 in
set_option maxRecDepth 100000 in
theorem tX2_planWinter_222 {g : xG} (hg : x_inj (WC g))  {x : xCx}  {K57 : Int32 → Int32 → Int32 → Int32 → xMem → Prop} {K89 : Int32 → Int32 → Int32 → Int32 → Int32 → Int32 → Int32 → xMem → Prop} {post : xMem → Prop} (C : xOk (WC g) x cX2_planWinter RX2 10 none (rm_X2_planWinter) (pV post))  (hK57 : ∀ (x1 : Int32) (x3 : Int32) (x4 : Int32) (x5 : Int32) (M : xMem), K57 x1 x3 x4 x5 M → xW (WC g) x 10 57 [(0, .ref (ga g 41)), (1, .int x1), (2, .ref (ga g 1)), (3, .int x3), (4, .int x4), (5, .int x5)] [] M) (hK89 : ∀ (x1 : Int32) (x3 : Int32) (x4 : Int32) (x5 : Int32) (x6 : Int32) (x7 : Int32) (x8 : Int32) (M : xMem), K89 x1 x3 x4 x5 x6 x7 x8 M → xW (WC g) x 10 89 [(0, .ref (ga g 41)), (1, .int x1), (2, .ref (ga g 1)), (3, .int x3), (4, .int x4), (5, .int x5), (6, .int x6), (7, .int x7), (8, .int x8)] [] M) (x1 : Int32) (x3 : Int32) (x4 : Int32) (x5 : Int32) (x6 : Int32) (x7 : Int32) (x8 : Int32) (s0 : Int32) (M : xMem)  (h : wX2_planWinter_222 K57 K89 post x1 x3 x4 x5 x6 x7 x8 s0 M) : xW (WC g) x 10 222 [(0, .ref (ga g 41)), (1, .int x1), (2, .ref (ga g 1)), (3, .int x3), (4, .int x4), (5, .int x5), (6, .int x6), (7, .int x7), (8, .int x8)] [.int s0] M := by
  unfold wX2_planWinter_222 at h
  refine x_istore C (L' := [(9, .int s0), (0, .ref (ga g 41)), (1, .int x1), (2, .ref (ga g 1)), (3, .int x3), (4, .int x4), (5, .int x5), (6, .int x6), (7, .int x7), (8, .int x8)]) rfl (Nat.le_of_ble_eq_true rfl) dX2_planWinter_222 ?_
  refine x_aload_n C 1 rfl rfl dX2_planWinter_224 ?_
  refine x_get C (c := 41) (ci := 2) (k1 := 7) (v1 := .ref (ga g 48)) (enC_2 (c := 41) rfl) (Nat.le_of_ble_eq_true rfl) rfl inX2 (by decide) wf_X2_34 rfl dX2_planWinter_225 ?_
  refine x_iload C 9 rfl dX2_planWinter_228 ?_
  obtain ⟨hi1, h⟩ := h
  refine x_iald C 0 (c := 48) (enC_20n (c := 48) (n := 1024) rfl rfl) (Nat.le_of_ble_eq_true rfl) rfl hi1 dX2_planWinter_230 ?_
  refine x_iload_n C 2 rfl rfl dX2_planWinter_231 ?_
  refine x_icmp_gt C (tgt := 266) dX2_planWinter_232 (by decide) (fun hq2 => ?_) (fun hq2 => ?_)
  · replace h := x_ift hq2 h
    refine x_loc (L' := [(0, .ref (ga g 41)), (1, .int x1), (2, .ref (ga g 1)), (3, .int x3), (4, .int x4), (5, .int x5), (6, .int x6), (7, .int x7), (8, .int x8)]) [1, 2, 3, 4, 5, 6, 7, 8, 9] rfl ?_
    exact tX2_planWinter_266 hg  C  hK57 hK89 _ _ _ _ _ _ _ _  h
  · replace h := x_iff hq2 h
    refine x_iload C 0 rfl dX2_planWinter_235 ?_
    refine x_if_eq C (tgt := 266) dX2_planWinter_237 (by decide) (fun hq3 => ?_) (fun hq3 => ?_)
    · replace h := x_ift hq3 h
      refine x_loc (L' := [(0, .ref (ga g 41)), (1, .int x1), (2, .ref (ga g 1)), (3, .int x3), (4, .int x4), (5, .int x5), (6, .int x6), (7, .int x7), (8, .int x8)]) [1, 2, 3, 4, 5, 6, 7, 8, 9] rfl ?_
      exact tX2_planWinter_266 hg  C  hK57 hK89 _ _ _ _ _ _ _ _  h
    · replace h := x_iff hq3 h
      refine x_iload C 9 rfl dX2_planWinter_240 ?_
      refine x_istore C (L' := [(4, .int x8), (9, .int s0), (0, .ref (ga g 41)), (1, .int x1), (2, .ref (ga g 1)), (3, .int x3), (5, .int x5), (6, .int x6), (7, .int x7), (8, .int x8)]) rfl (Nat.le_of_ble_eq_true rfl) dX2_planWinter_242 ?_
      refine x_aload_n C 2 rfl rfl dX2_planWinter_244 ?_
      refine x_aload_n C 2 rfl rfl dX2_planWinter_245 ?_
      refine x_get C (c := 41) (ci := 2) (k1 := 6) (v1 := .ref (ga g 47)) (enC_2 (c := 41) rfl) (Nat.le_of_ble_eq_true rfl) rfl inX2 (by decide) wf_X2_31 rfl dX2_planWinter_246 ?_
      refine x_iload C 9 rfl dX2_planWinter_249 ?_
      obtain ⟨hi4, h⟩ := h
      refine x_iald C 0 (c := 47) (enC_20n (c := 47) (n := 1024) rfl rfl) (Nat.le_of_ble_eq_true rfl) rfl hi4 dX2_planWinter_251 ?_
      refine x_put C (c := 41) (ci := 2) (k1 := 12) (u1 := (gi M 47 x8.toNatClampNeg)) (v1 := .int (gi M 47 x8.toNatClampNeg)) (ty := .int) (enC_2 (c := 41) rfl) (Nat.le_of_ble_eq_true rfl) rfl inX2 (by decide) (stX2_12 _ _ _) tyX2 tyX2_ok nmX2 wf_X2_49 rfl rfl rfl rfl (Nat.le_of_ble_eq_true rfl) dX2_planWinter_252 ?_
      refine x_nmM (fun M5 eM5 => ?_)
      replace h := h M5 eM5
      refine x_aload_n C 2 rfl rfl dX2_planWinter_255 ?_
      refine x_aload_n C 2 rfl rfl dX2_planWinter_256 ?_
      refine x_get C (c := 41) (ci := 2) (k1 := 7) (v1 := .ref (ga g 48)) (enC_2 (c := 41) rfl) (Nat.le_of_ble_eq_true rfl) rfl inX2 (by decide) wf_X2_34 rfl dX2_planWinter_257 ?_
      refine x_iload C 9 rfl dX2_planWinter_260 ?_
      obtain ⟨hi6, h⟩ := h
      refine x_iald C 0 (c := 48) (enC_20n (c := 48) (n := 1024) rfl rfl) (Nat.le_of_ble_eq_true rfl) rfl hi6 dX2_planWinter_262 ?_
      refine x_put C (c := 41) (ci := 2) (k1 := 11) (u1 := (gi M5 48 x8.toNatClampNeg)) (v1 := .int (gi M5 48 x8.toNatClampNeg)) (ty := .int) (enC_2 (c := 41) rfl) (Nat.le_of_ble_eq_true rfl) rfl inX2 (by decide) (stX2_11 _ _ _) tyX2 tyX2_ok nmX2 wf_X2_46 rfl rfl rfl rfl (Nat.le_of_ble_eq_true rfl) dX2_planWinter_263 ?_
      refine x_nmM (fun M7 eM7 => ?_)
      replace h := h M7 eM7
      refine x_loc (L' := [(0, .ref (ga g 41)), (1, .int x1), (2, .ref (ga g 1)), (3, .int x3), (4, .int x8), (5, .int x5), (6, .int x6), (7, .int x7), (8, .int x8)]) [2, 3, 4, 5, 0, 6, 7, 8, 9] rfl ?_
      exact tX2_planWinter_266 hg  C  hK57 hK89 _ _ _ _ _ _ _ _  h
set_option maxHeartbeats 4000000 in
set_option maxRecDepth 100000 in
theorem tX2_planWinter_217 {g : xG} (hg : x_inj (WC g))  {x : xCx}  {K57 : Int32 → Int32 → Int32 → Int32 → xMem → Prop} {K89 : Int32 → Int32 → Int32 → Int32 → Int32 → Int32 → Int32 → xMem → Prop} {post : xMem → Prop} (C : xOk (WC g) x cX2_planWinter RX2 10 none (rm_X2_planWinter) (pV post))  (hK57 : ∀ (x1 : Int32) (x3 : Int32) (x4 : Int32) (x5 : Int32) (M : xMem), K57 x1 x3 x4 x5 M → xW (WC g) x 10 57 [(0, .ref (ga g 41)), (1, .int x1), (2, .ref (ga g 1)), (3, .int x3), (4, .int x4), (5, .int x5)] [] M) (hK89 : ∀ (x1 : Int32) (x3 : Int32) (x4 : Int32) (x5 : Int32) (x6 : Int32) (x7 : Int32) (x8 : Int32) (M : xMem), K89 x1 x3 x4 x5 x6 x7 x8 M → xW (WC g) x 10 89 [(0, .ref (ga g 41)), (1, .int x1), (2, .ref (ga g 1)), (3, .int x3), (4, .int x4), (5, .int x5), (6, .int x6), (7, .int x7), (8, .int x8)] [] M) (x1 : Int32) (x3 : Int32) (x4 : Int32) (x5 : Int32) (x6 : Int32) (x7 : Int32) (x8 : Int32) (M : xMem)  (h : wX2_planWinter_217 K57 K89 post x1 x3 x4 x5 x6 x7 x8 M) : xW (WC g) x 10 217 [(0, .ref (ga g 41)), (1, .int x1), (2, .ref (ga g 1)), (3, .int x3), (4, .int x4), (5, .int x5), (6, .int x6), (7, .int x7), (8, .int x8)] [] M := by
  unfold wX2_planWinter_217 at h
  refine x_iconst C (v1 := 1) dX2_planWinter_217 (by decide) ?_
  refine x_goto C (tgt := 222) dX2_planWinter_218 (by decide) ?_
  exact tX2_planWinter_222 hg  C  hK57 hK89 _ _ _ _ _ _ _ _ _  h
set_option maxHeartbeats 4000000 in
set_option maxRecDepth 100000 in
theorem tX2_planWinter_221 {g : xG} (hg : x_inj (WC g))  {x : xCx}  {K57 : Int32 → Int32 → Int32 → Int32 → xMem → Prop} {K89 : Int32 → Int32 → Int32 → Int32 → Int32 → Int32 → Int32 → xMem → Prop} {post : xMem → Prop} (C : xOk (WC g) x cX2_planWinter RX2 10 none (rm_X2_planWinter) (pV post))  (hK57 : ∀ (x1 : Int32) (x3 : Int32) (x4 : Int32) (x5 : Int32) (M : xMem), K57 x1 x3 x4 x5 M → xW (WC g) x 10 57 [(0, .ref (ga g 41)), (1, .int x1), (2, .ref (ga g 1)), (3, .int x3), (4, .int x4), (5, .int x5)] [] M) (hK89 : ∀ (x1 : Int32) (x3 : Int32) (x4 : Int32) (x5 : Int32) (x6 : Int32) (x7 : Int32) (x8 : Int32) (M : xMem), K89 x1 x3 x4 x5 x6 x7 x8 M → xW (WC g) x 10 89 [(0, .ref (ga g 41)), (1, .int x1), (2, .ref (ga g 1)), (3, .int x3), (4, .int x4), (5, .int x5), (6, .int x6), (7, .int x7), (8, .int x8)] [] M) (x1 : Int32) (x3 : Int32) (x4 : Int32) (x5 : Int32) (x6 : Int32) (x7 : Int32) (x8 : Int32) (M : xMem)  (h : wX2_planWinter_221 K57 K89 post x1 x3 x4 x5 x6 x7 x8 M) : xW (WC g) x 10 221 [(0, .ref (ga g 41)), (1, .int x1), (2, .ref (ga g 1)), (3, .int x3), (4, .int x4), (5, .int x5), (6, .int x6), (7, .int x7), (8, .int x8)] [] M := by
  unfold wX2_planWinter_221 at h
  refine x_iconst C (v1 := 0) dX2_planWinter_221 (by decide) ?_
  exact tX2_planWinter_222 hg  C  hK57 hK89 _ _ _ _ _ _ _ _ _  h
set_option maxHeartbeats 4000000 in
set_option maxRecDepth 100000 in
theorem tX2_planWinter_166 {g : xG} (hg : x_inj (WC g))  {x : xCx}  {K57 : Int32 → Int32 → Int32 → Int32 → xMem → Prop} {K89 : Int32 → Int32 → Int32 → Int32 → Int32 → Int32 → Int32 → xMem → Prop} {post : xMem → Prop} (C : xOk (WC g) x cX2_planWinter RX2 10 none (rm_X2_planWinter) (pV post))  (hK57 : ∀ (x1 : Int32) (x3 : Int32) (x4 : Int32) (x5 : Int32) (M : xMem), K57 x1 x3 x4 x5 M → xW (WC g) x 10 57 [(0, .ref (ga g 41)), (1, .int x1), (2, .ref (ga g 1)), (3, .int x3), (4, .int x4), (5, .int x5)] [] M) (hK89 : ∀ (x1 : Int32) (x3 : Int32) (x4 : Int32) (x5 : Int32) (x6 : Int32) (x7 : Int32) (x8 : Int32) (M : xMem), K89 x1 x3 x4 x5 x6 x7 x8 M → xW (WC g) x 10 89 [(0, .ref (ga g 41)), (1, .int x1), (2, .ref (ga g 1)), (3, .int x3), (4, .int x4), (5, .int x5), (6, .int x6), (7, .int x7), (8, .int x8)] [] M) (x1 : Int32) (x3 : Int32) (x4 : Int32) (x5 : Int32) (x6 : Int32) (x7 : Int32) (x8 : Int32) (s0 : Int32) (s1 : Int32) (M : xMem)  (h : wX2_planWinter_166 K57 K89 post x1 x3 x4 x5 x6 x7 x8 s0 s1 M) : xW (WC g) x 10 166 [(0, .ref (ga g 41)), (1, .int x1), (2, .ref (ga g 1)), (3, .int x3), (4, .int x4), (5, .int x5), (6, .int x6), (7, .int x7), (8, .int x8)] [.int s0, .int s1, .ref (ga g 48)] M := by
  unfold wX2_planWinter_166 at h
  refine x_aload_n C 0 rfl rfl dX2_planWinter_166 ?_
  refine x_get C (c := 41) (ci := 2) (k1 := 3) (v1 := .ref (ga g 44)) (enC_2 (c := 41) rfl) (Nat.le_of_ble_eq_true rfl) rfl inX2 (by decide) wf_X2_22 rfl dX2_planWinter_167 ?_
  refine x_iload C 7 rfl dX2_planWinter_170 ?_
  obtain ⟨hi1, h⟩ := h
  refine x_iald C 0 (c := 44) (enC_20n (c := 44) (n := 10) rfl rfl) (Nat.le_of_ble_eq_true rfl) rfl hi1 dX2_planWinter_172 ?_
  refine x_iadd C dX2_planWinter_173 ?_
  obtain ⟨hi2, h⟩ := h
  refine x_iast C 0 (c := 48) (enC_20n (c := 48) (n := 1024) rfl rfl) (Nat.le_of_ble_eq_true rfl) rfl hi2 dX2_planWinter_174 ?_
  refine x_nmM (fun M3 eM3 => ?_)
  replace h := h M3 eM3
  refine x_aload_n C 0 rfl rfl dX2_planWinter_175 ?_
  refine x_get C (c := 41) (ci := 2) (k1 := 6) (v1 := .ref (ga g 47)) (enC_2 (c := 41) rfl) (Nat.le_of_ble_eq_true rfl) rfl inX2 (by decide) wf_X2_31 rfl dX2_planWinter_176 ?_
  refine x_iload C 8 rfl dX2_planWinter_179 ?_
  obtain ⟨hi4, h⟩ := h
  refine x_iald C 0 (c := 47) (enC_20n (c := 47) (n := 1024) rfl rfl) (Nat.le_of_ble_eq_true rfl) rfl hi4 dX2_planWinter_181 ?_
  refine x_aload_n C 0 rfl rfl dX2_planWinter_182 ?_
  refine x_get C (c := 41) (ci := 2) (k1 := 12) (v1 := .int (gi M3 41 12)) (enC_2 (c := 41) rfl) (Nat.le_of_ble_eq_true rfl) rfl inX2 (by decide) wf_X2_49 rfl dX2_planWinter_183 ?_
  refine x_icmp_gt C (tgt := 217) dX2_planWinter_186 (by decide) (fun hq5 => ?_) (fun hq5 => ?_)
  · replace h := x_ift hq5 h
    exact tX2_planWinter_217 hg  C  hK57 hK89 _ _ _ _ _ _ _ _  h
  · replace h := x_iff hq5 h
    refine x_aload_n C 0 rfl rfl dX2_planWinter_189 ?_
    refine x_get C (c := 41) (ci := 2) (k1 := 6) (v1 := .ref (ga g 47)) (enC_2 (c := 41) rfl) (Nat.le_of_ble_eq_true rfl) rfl inX2 (by decide) wf_X2_31 rfl dX2_planWinter_190 ?_
    refine x_iload C 8 rfl dX2_planWinter_193 ?_
    obtain ⟨hi6, h⟩ := h
    refine x_iald C 0 (c := 47) (enC_20n (c := 47) (n := 1024) rfl rfl) (Nat.le_of_ble_eq_true rfl) rfl hi6 dX2_planWinter_195 ?_
    refine x_aload_n C 0 rfl rfl dX2_planWinter_196 ?_
    refine x_get C (c := 41) (ci := 2) (k1 := 12) (v1 := .int (gi M3 41 12)) (enC_2 (c := 41) rfl) (Nat.le_of_ble_eq_true rfl) rfl inX2 (by decide) wf_X2_49 rfl dX2_planWinter_197 ?_
    refine x_icmp_ne C (tgt := 221) dX2_planWinter_200 (by decide) (fun hq7 => ?_) (fun hq7 => ?_)
    · replace h := x_iff hq7 h
      exact tX2_planWinter_221 hg  C  hK57 hK89 _ _ _ _ _ _ _ _  h
    · replace h := x_ift hq7 h
      refine x_aload_n C 0 rfl rfl dX2_planWinter_203 ?_
      refine x_get C (c := 41) (ci := 2) (k1 := 7) (v1 := .ref (ga g 48)) (enC_2 (c := 41) rfl) (Nat.le_of_ble_eq_true rfl) rfl inX2 (by decide) wf_X2_34 rfl dX2_planWinter_204 ?_
      refine x_iload C 8 rfl dX2_planWinter_207 ?_
      obtain ⟨hi8, h⟩ := h
      refine x_iald C 0 (c := 48) (enC_20n (c := 48) (n := 1024) rfl rfl) (Nat.le_of_ble_eq_true rfl) rfl hi8 dX2_planWinter_209 ?_
      refine x_aload_n C 0 rfl rfl dX2_planWinter_210 ?_
      refine x_get C (c := 41) (ci := 2) (k1 := 11) (v1 := .int (gi M3 41 11)) (enC_2 (c := 41) rfl) (Nat.le_of_ble_eq_true rfl) rfl inX2 (by decide) wf_X2_46 rfl dX2_planWinter_211 ?_
      refine x_icmp_ge C (tgt := 221) dX2_planWinter_214 (by decide) (fun hq9 => ?_) (fun hq9 => ?_)
      · replace h := x_ift hq9 h
        exact tX2_planWinter_221 hg  C  hK57 hK89 _ _ _ _ _ _ _ _  h
      · replace h := x_iff hq9 h
        exact tX2_planWinter_217 hg  C  hK57 hK89 _ _ _ _ _ _ _ _  h
set_option maxHeartbeats 4000000 in
set_option maxRecDepth 100000 in
theorem tX2_planWinter_125 {g : xG} (hg : x_inj (WC g))  {x : xCx}  {K57 : Int32 → Int32 → Int32 → Int32 → xMem → Prop} {K89 : Int32 → Int32 → Int32 → Int32 → Int32 → Int32 → Int32 → xMem → Prop} {post : xMem → Prop} (C : xOk (WC g) x cX2_planWinter RX2 10 none (rm_X2_planWinter) (pV post))  (hK57 : ∀ (x1 : Int32) (x3 : Int32) (x4 : Int32) (x5 : Int32) (M : xMem), K57 x1 x3 x4 x5 M → xW (WC g) x 10 57 [(0, .ref (ga g 41)), (1, .int x1), (2, .ref (ga g 1)), (3, .int x3), (4, .int x4), (5, .int x5)] [] M) (hK89 : ∀ (x1 : Int32) (x3 : Int32) (x4 : Int32) (x5 : Int32) (x6 : Int32) (x7 : Int32) (x8 : Int32) (M : xMem), K89 x1 x3 x4 x5 x6 x7 x8 M → xW (WC g) x 10 89 [(0, .ref (ga g 41)), (1, .int x1), (2, .ref (ga g 1)), (3, .int x3), (4, .int x4), (5, .int x5), (6, .int x6), (7, .int x7), (8, .int x8)] [] M) (x1 : Int32) (x3 : Int32) (x4 : Int32) (x5 : Int32) (x6 : Int32) (x7 : Int32) (x8 : Int32) (s0 : Int32) (s1 : Int32) (M : xMem)  (h : wX2_planWinter_125 K57 K89 post x1 x3 x4 x5 x6 x7 x8 s0 s1 M) : xW (WC g) x 10 125 [(0, .ref (ga g 41)), (1, .int x1), (2, .ref (ga g 1)), (3, .int x3), (4, .int x4), (5, .int x5), (6, .int x6), (7, .int x7), (8, .int x8)] [.int s0, .int s1, .ref (ga g 47)] M := by
  unfold wX2_planWinter_125 at h
  refine x_aload_n C 2 rfl rfl dX2_planWinter_125 ?_
  refine x_iload C 5 rfl dX2_planWinter_126 ?_
  obtain ⟨hi1, h⟩ := h
  refine x_iald C 0 (c := 1) (enC_20n (c := 1) (n := 260) rfl rfl) (Nat.le_of_ble_eq_true rfl) rfl hi1 dX2_planWinter_128 ?_
  refine x_aload_n C 0 rfl rfl dX2_planWinter_129 ?_
  refine x_get C (c := 41) (ci := 2) (k1 := 2) (v1 := .ref (ga g 43)) (enC_2 (c := 41) rfl) (Nat.le_of_ble_eq_true rfl) rfl inX2 (by decide) wf_X2_19 rfl dX2_planWinter_130 ?_
  refine x_iload C 7 rfl dX2_planWinter_133 ?_
  obtain ⟨hi2, h⟩ := h
  refine x_iald C 0 (c := 43) (enC_20n (c := 43) (n := 10) rfl rfl) (Nat.le_of_ble_eq_true rfl) rfl hi2 dX2_planWinter_135 ?_
  refine x_imul C dX2_planWinter_136 ?_
  refine x_iadd C dX2_planWinter_137 ?_
  obtain ⟨hi3, h⟩ := h
  refine x_iast C 0 (c := 47) (enC_20n (c := 47) (n := 1024) rfl rfl) (Nat.le_of_ble_eq_true rfl) rfl hi3 dX2_planWinter_138 ?_
  refine x_nmM (fun M4 eM4 => ?_)
  replace h := h M4 eM4
  refine x_aload_n C 0 rfl rfl dX2_planWinter_139 ?_
  refine x_get C (c := 41) (ci := 2) (k1 := 7) (v1 := .ref (ga g 48)) (enC_2 (c := 41) rfl) (Nat.le_of_ble_eq_true rfl) rfl inX2 (by decide) wf_X2_34 rfl dX2_planWinter_140 ?_
  refine x_iload C 8 rfl dX2_planWinter_143 ?_
  refine x_iload C 8 rfl dX2_planWinter_145 ?_
  refine x_iload C 6 rfl dX2_planWinter_147 ?_
  refine x_icmp_ne C (tgt := 156) dX2_planWinter_149 (by decide) (fun hq5 => ?_) (fun hq5 => ?_)
  · replace h := x_iff hq5 h
    refine x_aload_n C 0 rfl rfl dX2_planWinter_156 ?_
    refine x_get C (c := 41) (ci := 2) (k1 := 7) (v1 := .ref (ga g 48)) (enC_2 (c := 41) rfl) (Nat.le_of_ble_eq_true rfl) rfl inX2 (by decide) wf_X2_34 rfl dX2_planWinter_157 ?_
    refine x_iload C 8 rfl dX2_planWinter_160 ?_
    refine x_iload C 6 rfl dX2_planWinter_162 ?_
    refine x_isub C dX2_planWinter_164 ?_
    obtain ⟨hi6, h⟩ := h
    refine x_iald C 0 (c := 48) (enC_20n (c := 48) (n := 1024) rfl rfl) (Nat.le_of_ble_eq_true rfl) rfl hi6 dX2_planWinter_165 ?_
    exact tX2_planWinter_166 hg  C  hK57 hK89 _ _ _ _ _ _ _ _ _ _  h
  · replace h := x_ift hq5 h
    refine x_iconst C (v1 := 0) dX2_planWinter_152 (by decide) ?_
    refine x_goto C (tgt := 166) dX2_planWinter_153 (by decide) ?_
    exact tX2_planWinter_166 hg  C  hK57 hK89 _ _ _ _ _ _ _ _ _ _  h
set_option maxHeartbeats 4000000 in
set_option maxRecDepth 100000 in
theorem tX2_planWinter_89 {g : xG} (hg : x_inj (WC g))  {x : xCx}  {K57 : Int32 → Int32 → Int32 → Int32 → xMem → Prop} {post : xMem → Prop} (C : xOk (WC g) x cX2_planWinter RX2 10 none (rm_X2_planWinter) (pV post))  (hK57 : ∀ (x1 : Int32) (x3 : Int32) (x4 : Int32) (x5 : Int32) (M : xMem), K57 x1 x3 x4 x5 M → xW (WC g) x 10 57 [(0, .ref (ga g 41)), (1, .int x1), (2, .ref (ga g 1)), (3, .int x3), (4, .int x4), (5, .int x5)] [] M) : ∀ (n : Nat) (x1 : Int32) (x3 : Int32) (x4 : Int32) (x5 : Int32) (x6 : Int32) (x7 : Int32) (x8 : Int32) (M : xMem), wX2_planWinter_89 K57 post n x1 x3 x4 x5 x6 x7 x8 M → xW (WC g) x 10 89 [(0, .ref (ga g 41)), (1, .int x1), (2, .ref (ga g 1)), (3, .int x3), (4, .int x4), (5, .int x5), (6, .int x6), (7, .int x7), (8, .int x8)] [] M := by
  intro n
  induction n with
  | zero =>
    intro x1 x3 x4 x5 x6 x7 x8 M  h
    exact h.elim
  | succ n ih =>
    intro x1 x3 x4 x5 x6 x7 x8 M  h
    rw [wX2_planWinter_89] at h
    refine x_iload C 8 rfl dX2_planWinter_89 ?_
    refine x_iconst C (v1 := 2) dX2_planWinter_91 (by decide) ?_
    refine x_iload C 6 rfl dX2_planWinter_92 ?_
    refine x_imul C dX2_planWinter_94 ?_
    refine x_icmp_ge C (tgt := 272) dX2_planWinter_95 (by decide) (fun hq1 => ?_) (fun hq1 => ?_)
    · replace h := x_ift hq1 h
      obtain ⟨v2, ev2⟩ : ∃ z : Int32, z = x5 + 1 := ⟨_, rfl⟩
      replace h := h v2 ev2
      refine x_iinc C 5 (v1 := v2) (L' := [(5, .int v2), (0, .ref (ga g 41)), (1, .int x1), (2, .ref (ga g 1)), (3, .int x3), (4, .int x4), (6, .int x6), (7, .int x7), (8, .int x8)]) rfl (by rw [ev2]; rfl) rfl (Nat.le_of_ble_eq_true rfl) dX2_planWinter_272 ?_
      refine x_goto C (tgt := 57) dX2_planWinter_275 (by decide) ?_
      refine x_loc (L' := [(0, .ref (ga g 41)), (1, .int x1), (2, .ref (ga g 1)), (3, .int x3), (4, .int x4), (5, .int v2)]) [1, 2, 3, 4, 5, 0] rfl ?_
      exact hK57 _ _ _ _ _  h
    · replace h := x_iff hq1 h
      refine x_aload_n C 0 rfl rfl dX2_planWinter_98 ?_
      refine x_get C (c := 41) (ci := 2) (k1 := 6) (v1 := .ref (ga g 47)) (enC_2 (c := 41) rfl) (Nat.le_of_ble_eq_true rfl) rfl inX2 (by decide) wf_X2_31 rfl dX2_planWinter_99 ?_
      refine x_iload C 8 rfl dX2_planWinter_102 ?_
      refine x_iload C 8 rfl dX2_planWinter_104 ?_
      refine x_iload C 6 rfl dX2_planWinter_106 ?_
      refine x_icmp_ne C (tgt := 115) dX2_planWinter_108 (by decide) (fun hq3 => ?_) (fun hq3 => ?_)
      · replace h := x_iff hq3 h
        refine x_aload_n C 0 rfl rfl dX2_planWinter_115 ?_
        refine x_get C (c := 41) (ci := 2) (k1 := 6) (v1 := .ref (ga g 47)) (enC_2 (c := 41) rfl) (Nat.le_of_ble_eq_true rfl) rfl inX2 (by decide) wf_X2_31 rfl dX2_planWinter_116 ?_
        refine x_iload C 8 rfl dX2_planWinter_119 ?_
        refine x_iload C 6 rfl dX2_planWinter_121 ?_
        refine x_isub C dX2_planWinter_123 ?_
        obtain ⟨hi4, h⟩ := h
        refine x_iald C 0 (c := 47) (enC_20n (c := 47) (n := 1024) rfl rfl) (Nat.le_of_ble_eq_true rfl) rfl hi4 dX2_planWinter_124 ?_
        exact tX2_planWinter_125 hg  C  hK57 ih _ _ _ _ _ _ _ _ _ _  h
      · replace h := x_ift hq3 h
        refine x_iconst C (v1 := 0) dX2_planWinter_111 (by decide) ?_
        refine x_goto C (tgt := 125) dX2_planWinter_112 (by decide) ?_
        exact tX2_planWinter_125 hg  C  hK57 ih _ _ _ _ _ _ _ _ _ _  h
set_option maxHeartbeats 4000000 in
set_option maxRecDepth 100000 in
theorem tX2_planWinter_57 {g : xG} (hg : x_inj (WC g))  {x : xCx}   {post : xMem → Prop} (C : xOk (WC g) x cX2_planWinter RX2 10 none (rm_X2_planWinter) (pV post))   : ∀ (n : Nat) (x1 : Int32) (x3 : Int32) (x4 : Int32) (x5 : Int32) (M : xMem), wX2_planWinter_57 post n x1 x3 x4 x5 M → xW (WC g) x 10 57 [(0, .ref (ga g 41)), (1, .int x1), (2, .ref (ga g 1)), (3, .int x3), (4, .int x4), (5, .int x5)] [] M := by
  intro n
  induction n with
  | zero =>
    intro x1 x3 x4 x5 M  h
    exact h.elim
  | succ n ih =>
    intro x1 x3 x4 x5 M  h
    rw [wX2_planWinter_57] at h
    refine x_iload C 5 rfl dX2_planWinter_57 ?_
    refine x_iload_n C 3 rfl rfl dX2_planWinter_59 ?_
    refine x_icmp_ge C (tgt := 278) dX2_planWinter_60 (by decide) (fun hq1 => ?_) (fun hq1 => ?_)
    · replace h := x_ift hq1 h
      refine x_loc (L' := [(0, .ref (ga g 41)), (3, .int x3), (4, .int x4)]) [0, 3, 4] rfl ?_
      exact tX2_planWinter_278 hg  C   _ _ _  h
    · replace h := x_iff hq1 h
      refine x_iload C 5 rfl dX2_planWinter_63 ?_
      refine x_aload_n C 2 rfl rfl dX2_planWinter_65 ?_
      refine x_aleni C (c := 1) (v1 := 260) (enC_20n (c := 1) (n := 260) rfl rfl) (Nat.le_of_ble_eq_true rfl) rfl rfl dX2_planWinter_66 ?_
      refine x_icmp_ge C (tgt := 278) dX2_planWinter_67 (by decide) (fun hq2 => ?_) (fun hq2 => ?_)
      · replace h := x_ift hq2 h
        refine x_loc (L' := [(0, .ref (ga g 41)), (3, .int x3), (4, .int x4)]) [0, 3, 4] rfl ?_
        exact tX2_planWinter_278 hg  C   _ _ _  h
      · replace h := x_iff hq2 h
        refine x_iconst C (v1 := 1) dX2_planWinter_70 (by decide) ?_
        refine x_iload C 5 rfl dX2_planWinter_71 ?_
        refine x_ishl C dX2_planWinter_73 ?_
        refine x_nm (fun v3 ev3 => ?_)
        replace h := h v3 ev3
        refine x_istore C (L' := [(6, .int v3), (0, .ref (ga g 41)), (1, .int x1), (2, .ref (ga g 1)), (3, .int x3), (4, .int x4), (5, .int x5)]) rfl (Nat.le_of_ble_eq_true rfl) dX2_planWinter_74 ?_
        refine x_aload_n C 1 rfl rfl dX2_planWinter_76 ?_
        refine x_get C (c := 41) (ci := 2) (k1 := 5) (v1 := .ref (ga g 46)) (enC_2 (c := 41) rfl) (Nat.le_of_ble_eq_true rfl) rfl inX2 (by decide) wf_X2_28 rfl dX2_planWinter_77 ?_
        refine x_iload C 6 rfl dX2_planWinter_80 ?_
        obtain ⟨hi4, h⟩ := h
        refine x_iald C 0 (c := 46) (enC_20n (c := 46) (n := 10) rfl rfl) (Nat.le_of_ble_eq_true rfl) rfl hi4 dX2_planWinter_82 ?_
        refine x_nm (fun v5 ev5 => ?_)
        replace h := h v5 ev5
        refine x_istore C (L' := [(7, .int v5), (6, .int v3), (0, .ref (ga g 41)), (1, .int x1), (2, .ref (ga g 1)), (3, .int x3), (4, .int x4), (5, .int x5)]) rfl (Nat.le_of_ble_eq_true rfl) dX2_planWinter_83 ?_
        refine x_iload C 1 rfl dX2_planWinter_85 ?_
        refine x_istore C (L' := [(8, .int v3), (7, .int v5), (6, .int v3), (0, .ref (ga g 41)), (1, .int x1), (2, .ref (ga g 1)), (3, .int x3), (4, .int x4), (5, .int x5)]) rfl (Nat.le_of_ble_eq_true rfl) dX2_planWinter_87 ?_
        refine x_loc (L' := [(0, .ref (ga g 41)), (1, .int x1), (2, .ref (ga g 1)), (3, .int x3), (4, .int x4), (5, .int x5), (6, .int v3), (7, .int v5), (8, .int v3)]) [3, 4, 5, 6, 7, 8, 2, 1, 0] rfl ?_
        obtain ⟨n89, h⟩ := h
        exact tX2_planWinter_89 hg  C  ih _ _ _ _ _ _ _ _ _  h
set_option maxHeartbeats 4000000 in
set_option maxRecDepth 100000 in
theorem tX2_planWinter_35 {g : xG} (hg : x_inj (WC g))  {x : xCx}  {K5 : Int32 → Int32 → Int32 → xMem → Prop} {post : xMem → Prop} (C : xOk (WC g) x cX2_planWinter RX2 10 none (rm_X2_planWinter) (pV post))  (hK5 : ∀ (x1 : Int32) (x3 : Int32) (x4 : Int32) (M : xMem), K5 x1 x3 x4 M → xW (WC g) x 10 5 [(0, .ref (ga g 41)), (1, .int x1), (2, .ref (ga g 1)), (3, .int x3), (4, .int x4)] [] M) (x1 : Int32) (x3 : Int32) (x4 : Int32) (M : xMem)  (h : wX2_planWinter_35 K5 post x1 x3 x4 M) : xW (WC g) x 10 35 [(0, .ref (ga g 41)), (1, .int x1), (2, .ref (ga g 1)), (3, .int x3), (4, .int x4)] [] M := by
  unfold wX2_planWinter_35 at h
  obtain ⟨v1, ev1⟩ : ∃ z : Int32, z = x4 + 1 := ⟨_, rfl⟩
  replace h := h v1 ev1
  refine x_iinc C 4 (v1 := v1) (L' := [(4, .int v1), (0, .ref (ga g 41)), (1, .int x1), (2, .ref (ga g 1)), (3, .int x3)]) rfl (by rw [ev1]; rfl) rfl (Nat.le_of_ble_eq_true rfl) dX2_planWinter_35 ?_
  refine x_goto C (tgt := 5) dX2_planWinter_38 (by decide) ?_
  refine x_loc (L' := [(0, .ref (ga g 41)), (1, .int x1), (2, .ref (ga g 1)), (3, .int x3), (4, .int v1)]) [1, 2, 3, 4, 0] rfl ?_
  exact hK5 _ _ _ _  h
set_option maxHeartbeats 4000000 in
set_option maxRecDepth 100000 in
theorem tX2_planWinter_5 {g : xG} (hg : x_inj (WC g))  {x : xCx}   {post : xMem → Prop} (C : xOk (WC g) x cX2_planWinter RX2 10 none (rm_X2_planWinter) (pV post))   : ∀ (n : Nat) (x1 : Int32) (x3 : Int32) (x4 : Int32) (M : xMem), wX2_planWinter_5 post n x1 x3 x4 M → xW (WC g) x 10 5 [(0, .ref (ga g 41)), (1, .int x1), (2, .ref (ga g 1)), (3, .int x3), (4, .int x4)] [] M := by
  intro n
  induction n with
  | zero =>
    intro x1 x3 x4 M  h
    exact h.elim
  | succ n ih =>
    intro x1 x3 x4 M  h
    rw [wX2_planWinter_5] at h
    refine x_iload C 4 rfl dX2_planWinter_5 ?_
    refine x_bipush C (v1 := 10) dX2_planWinter_7 (by decide) ?_
    refine x_icmp_ge C (tgt := 41) dX2_planWinter_9 (by decide) (fun hq1 => ?_) (fun hq1 => ?_)
    · replace h := x_ift hq1 h
      refine x_aload_n C 0 rfl rfl dX2_planWinter_41 ?_
      refine x_iconst C (v1 := 0) dX2_planWinter_42 (by decide) ?_
      refine x_put C (c := 41) (ci := 2) (k1 := 12) (u1 := 0) (v1 := .int 0) (ty := .int) (enC_2 (c := 41) rfl) (Nat.le_of_ble_eq_true rfl) rfl inX2 (by decide) (stX2_12 _ _ _) tyX2 tyX2_ok nmX2 wf_X2_49 rfl rfl rfl rfl (Nat.le_of_ble_eq_true rfl) dX2_planWinter_43 ?_
      refine x_nmM (fun M2 eM2 => ?_)
      replace h := h M2 eM2
      refine x_aload_n C 0 rfl rfl dX2_planWinter_46 ?_
      refine x_iconst C (v1 := 0) dX2_planWinter_47 (by decide) ?_
      refine x_put C (c := 41) (ci := 2) (k1 := 11) (u1 := 0) (v1 := .int 0) (ty := .int) (enC_2 (c := 41) rfl) (Nat.le_of_ble_eq_true rfl) rfl inX2 (by decide) (stX2_11 _ _ _) tyX2 tyX2_ok nmX2 wf_X2_46 rfl rfl rfl rfl (Nat.le_of_ble_eq_true rfl) dX2_planWinter_48 ?_
      refine x_nmM (fun M3 eM3 => ?_)
      replace h := h M3 eM3
      refine x_iconst C (v1 := 0) dX2_planWinter_51 (by decide) ?_
      refine x_istore C (L' := [(4, .int 0), (0, .ref (ga g 41)), (1, .int x1), (2, .ref (ga g 1)), (3, .int x3)]) rfl (Nat.le_of_ble_eq_true rfl) dX2_planWinter_52 ?_
      refine x_iconst C (v1 := 0) dX2_planWinter_54 (by decide) ?_
      refine x_istore C (L' := [(5, .int 0), (4, .int 0), (0, .ref (ga g 41)), (1, .int x1), (2, .ref (ga g 1)), (3, .int x3)]) rfl (Nat.le_of_ble_eq_true rfl) dX2_planWinter_55 ?_
      refine x_loc (L' := [(0, .ref (ga g 41)), (1, .int x1), (2, .ref (ga g 1)), (3, .int x3), (4, .int 0), (5, .int 0)]) [2, 3, 4, 5, 1, 0] rfl ?_
      obtain ⟨n57, h⟩ := h
      exact tX2_planWinter_57 hg  C   _ _ _ _ _ _  h
    · replace h := x_iff hq1 h
      refine x_aload_n C 0 rfl rfl dX2_planWinter_12 ?_
      refine x_get C (c := 41) (ci := 2) (k1 := 0) (v1 := .int (gi M 41 0)) (enC_2 (c := 41) rfl) (Nat.le_of_ble_eq_true rfl) rfl inX2 (by decide) wf_X2_9 rfl dX2_planWinter_13 ?_
      refine x_iload C 4 rfl dX2_planWinter_16 ?_
      refine x_callSN C (st := []) (As := [.int (gi M 41 0), .int x4]) (tX11_has hg _ _ _ _ _  h) wmn_X2_56 wsm_X11_has wz_X11 wc_X11_has yd_X11_has rfl ⟨rfl, rfl⟩ ⟨Nat.le_of_ble_eq_true rfl, Nat.le_of_ble_eq_true rfl⟩ (Nat.le_of_ble_eq_true rfl) rfl dX2_planWinter_18 (x_ki (fun r5 M4 h => ?_))
      refine x_if_eq C (tgt := 35) dX2_planWinter_21 (by decide) (fun hq6 => ?_) (fun hq6 => ?_)
      · replace h := x_ift hq6 h
        exact tX2_planWinter_35 hg  C  ih _ _ _ _  h
      · replace h := x_iff hq6 h
        refine x_aload_n C 0 rfl rfl dX2_planWinter_24 ?_
        refine x_get C (c := 41) (ci := 2) (k1 := 5) (v1 := .ref (ga g 46)) (enC_2 (c := 41) rfl) (Nat.le_of_ble_eq_true rfl) rfl inX2 (by decide) wf_X2_28 rfl dX2_planWinter_25 ?_
        refine x_iload_n C 3 rfl rfl dX2_planWinter_28 ?_
        refine x_iload C 4 rfl dX2_planWinter_29 ?_
        obtain ⟨hi7, h⟩ := h
        refine x_iast C 0 (c := 46) (enC_20n (c := 46) (n := 10) rfl rfl) (Nat.le_of_ble_eq_true rfl) rfl hi7 dX2_planWinter_31 ?_
        refine x_nmM (fun M8 eM8 => ?_)
        replace h := h M8 eM8
        obtain ⟨v9, ev9⟩ : ∃ z : Int32, z = x3 + 1 := ⟨_, rfl⟩
        replace h := h v9 ev9
        refine x_iinc C 3 (v1 := v9) (L' := [(3, .int v9), (0, .ref (ga g 41)), (1, .int x1), (2, .ref (ga g 1)), (4, .int x4)]) rfl (by rw [ev9]; rfl) rfl (Nat.le_of_ble_eq_true rfl) dX2_planWinter_32 ?_
        refine x_loc (L' := [(0, .ref (ga g 41)), (1, .int x1), (2, .ref (ga g 1)), (3, .int v9), (4, .int x4)]) [1, 2, 3, 0, 4] rfl ?_
        exact tX2_planWinter_35 hg  C  ih _ _ _ _  h
set_option maxHeartbeats 4000000 in
set_option maxRecDepth 100000 in
theorem tX2_planWinter {g : xG} (hg : x_inj (WC g))  (l : Launch) (a0 : Int32) (M : xMem) (post : xMem → Prop)  (h : wX2_planWinter a0 M post) : xMet (WC g) l yX2_planWinter cX2_planWinter 10 none (rm_X2_planWinter) [.ref (ga g 41), .int a0, .ref (ga g 1)] M (pV post) := by
  refine x_enter (own := RX2) (L0 := [(0, .ref (ga g 41)), (1, .int a0), (2, .ref (ga g 1))]) (by decide +kernel) rfl hg (x_stC g) (Nat.le_of_ble_eq_true rfl) rfl (fun x hl C => ?_)
  unfold wX2_planWinter at h
  refine x_iconst C (v1 := 0) dX2_planWinter_0 (by decide) ?_
  refine x_istore_n C (L' := [(3, .int 0), (0, .ref (ga g 41)), (1, .int a0), (2, .ref (ga g 1))]) rfl rfl (Nat.le_of_ble_eq_true rfl) dX2_planWinter_1 ?_
  refine x_iconst C (v1 := 0) dX2_planWinter_2 (by decide) ?_
  refine x_istore C (L' := [(4, .int 0), (3, .int 0), (0, .ref (ga g 41)), (1, .int a0), (2, .ref (ga g 1))]) rfl (Nat.le_of_ble_eq_true rfl) dX2_planWinter_3 ?_
  refine x_loc (L' := [(0, .ref (ga g 41)), (1, .int a0), (2, .ref (ga g 1)), (3, .int 0), (4, .int 0)]) [2, 3, 4, 1, 0] rfl ?_
  obtain ⟨n5, h⟩ := h
  exact tX2_planWinter_5 hg  C   _ _ _ _ _  h
set_option maxHeartbeats 4000000 in
set_option maxRecDepth 100000 in
theorem tX11_winter_39 {g : xG} (hg : x_inj (WC g))  {x : xCx}   {post : Int32 → xMem → Prop} (C : xOk (WC g) x cX11_winter RX11 5 (some .int) (rm_X11_winter) (pI post))   (x1 : Int32) (x2 : Int32) (x3 : Int32) (s0 : Int32) (M : xMem)  (h : wX11_winter_39 post x1 x2 x3 s0 M) : xW (WC g) x 5 39 [(0, .ref (ga g 0)), (1, .int x1), (2, .int x2), (3, .int x3)] [.int s0] M := by
  unfold wX11_winter_39 at h
  refine x_istore C (L' := [(4, .int s0), (0, .ref (ga g 0)), (1, .int x1), (2, .int x2), (3, .int x3)]) rfl (Nat.le_of_ble_eq_true rfl) dX11_winter_39 ?_
  refine x_iload C 0 rfl dX11_winter_41 ?_
  refine x_if_eq C (tgt := 57) dX11_winter_43 (by decide) (fun hq1 => ?_) (fun hq1 => ?_)
  · replace h := x_ift hq1 h
    refine x_iconst C (v1 := (-1)) dX11_winter_57 (by decide) ?_
    exact x_iret C dX11_winter_58 ⟨_, rfl, h⟩
  · replace h := x_iff hq1 h
    refine x_aload_n C 1 rfl rfl dX11_winter_46 ?_
    refine x_iload_n C 3 rfl rfl dX11_winter_47 ?_
    refine x_iconst C (v1 := 1) dX11_winter_48 (by decide) ?_
    refine x_bipush C (v1 := 10) dX11_winter_49 (by decide) ?_
    refine x_callV C (st := []) (As := [.int x2, .int 1, .int 10]) (c := 0) (ci := 11) (enC_11 (c := 0) rfl) (Nat.le_of_ble_eq_true rfl) rfl (tX11_tapeGives hg _ _ _ _ _ _  h) wm_X11_119 wi_X11_tapeGives wv_X11_tapeGives wz_X11 wc_X11_tapeGives rfl yd_X11_tapeGives rfl ⟨rfl, rfl⟩ ⟨Nat.le_of_ble_eq_true rfl, Nat.le_of_ble_eq_true rfl⟩ (Nat.le_of_ble_eq_true rfl) rfl dX11_winter_51 (x_ki (fun r3 M2 h => ?_))
    refine x_if_ne C (tgt := 59) dX11_winter_54 (by decide) (fun hq4 => ?_) (fun hq4 => ?_)
    · replace h := x_iff hq4 h
      refine x_aload_n C 1 rfl rfl dX11_winter_59 ?_
      refine x_iconst C (v1 := 0) dX11_winter_60 (by decide) ?_
      refine x_put C (c := 0) (ci := 11) (k1 := 1) (u1 := 0) (v1 := .int 0) (ty := .int) (enC_11 (c := 0) rfl) (Nat.le_of_ble_eq_true rfl) rfl inX11 (by decide) (stX11_1 _ _ _) tyX11 tyX11_ok nmX11 wf_X11_13 rfl rfl rfl rfl (Nat.le_of_ble_eq_true rfl) dX11_winter_61 ?_
      refine x_nmM (fun M5 eM5 => ?_)
      replace h := h M5 eM5
      refine x_aload_n C 1 rfl rfl dX11_winter_64 ?_
      refine x_iload_n C 3 rfl rfl dX11_winter_65 ?_
      refine x_bipush C (v1 := 10) dX11_winter_66 (by decide) ?_
      refine x_callV C (st := []) (As := [.int x2, .int 10]) (c := 0) (ci := 11) (enC_11 (c := 0) rfl) (Nat.le_of_ble_eq_true rfl) rfl (tX11_tapeIsWithin hg _ _ _ _ _  h) wm_X11_317 wi_X11_tapeIsWithin wv_X11_tapeIsWithin wz_X11 wc_X11_tapeIsWithin rfl yd_X11_tapeIsWithin rfl ⟨rfl, rfl⟩ ⟨Nat.le_of_ble_eq_true rfl, Nat.le_of_ble_eq_true rfl⟩ (Nat.le_of_ble_eq_true rfl) rfl dX11_winter_68 (x_ki (fun r7 M6 h => ?_))
      refine x_if_ne C (tgt := 77) dX11_winter_71 (by decide) (fun hq8 => ?_) (fun hq8 => ?_)
      · replace h := x_iff hq8 h
        refine x_aload_n C 1 rfl rfl dX11_winter_77 ?_
        refine x_get C (c := 0) (ci := 11) (k1 := 7) (v1 := .ref (ga g 41)) (enC_11 (c := 0) rfl) (Nat.le_of_ble_eq_true rfl) rfl inX11 (by decide) wf_X11_50 rfl dX11_winter_78 ?_
        refine x_iload_n C 2 rfl rfl dX11_winter_81 ?_
        refine x_aload_n C 1 rfl rfl dX11_winter_82 ?_
        refine x_get C (c := 0) (ci := 11) (k1 := 0) (v1 := .ref (ga g 1)) (enC_11 (c := 0) rfl) (Nat.le_of_ble_eq_true rfl) rfl inX11 (by decide) wf_X11_9 rfl dX11_winter_83 ?_
        refine x_callVN C (st := []) (As := [.int x1, .ref (ga g 1)]) (c := 41) (ci := 2) (enC_2 (c := 41) rfl) (Nat.le_of_ble_eq_true rfl) rfl (tX2_planWinter hg _ _ _ _  h) wmn_X11_320 wi_X2_planWinter wv_X2_planWinter wz_X2 wc_X2_planWinter yd_X2_planWinter rfl ⟨rfl, rfl⟩ ⟨Nat.le_of_ble_eq_true rfl, Nat.le_of_ble_eq_true rfl⟩ (Nat.le_of_ble_eq_true rfl) rfl dX11_winter_86 (x_kv (fun M9 h => ?_))
        refine x_iload_n C 4 rfl rfl dX11_winter_89 ?_
        refine x_if_ne C (tgt := 101) dX11_winter_90 (by decide) (fun hq10 => ?_) (fun hq10 => ?_)
        · replace h := x_iff hq10 h
          refine x_iload_n C 4 rfl rfl dX11_winter_101 ?_
          refine x_iconst C (v1 := 1) dX11_winter_102 (by decide) ?_
          refine x_icmp_ne C (tgt := 116) dX11_winter_103 (by decide) (fun hq11 => ?_) (fun hq11 => ?_)
          · replace h := x_iff hq11 h
            refine x_aload_n C 1 rfl rfl dX11_winter_116 ?_
            refine x_get C (c := 0) (ci := 11) (k1 := 7) (v1 := .ref (ga g 41)) (enC_11 (c := 0) rfl) (Nat.le_of_ble_eq_true rfl) rfl inX11 (by decide) wf_X11_50 rfl dX11_winter_117 ?_
            refine x_getN C (c := 41) (ci := 2) (k1 := 11) (v1 := .int (gi M9 41 11)) (enC_2 (c := 41) rfl) (Nat.le_of_ble_eq_true rfl) rfl inX2 (by decide) wfn_X11_330 rfl dX11_winter_120 ?_
            exact x_iret C dX11_winter_123 ⟨_, rfl, h⟩
          · replace h := x_ift hq11 h
            refine x_aload_n C 1 rfl rfl dX11_winter_106 ?_
            refine x_get C (c := 0) (ci := 11) (k1 := 7) (v1 := .ref (ga g 41)) (enC_11 (c := 0) rfl) (Nat.le_of_ble_eq_true rfl) rfl inX11 (by decide) wf_X11_50 rfl dX11_winter_107 ?_
            refine x_getN C (c := 41) (ci := 2) (k1 := 10) (v1 := .int (gi M9 41 10)) (enC_2 (c := 41) rfl) (Nat.le_of_ble_eq_true rfl) rfl inX2 (by decide) wfn_X11_327 rfl dX11_winter_110 ?_
            refine x_goto C (tgt := 123) dX11_winter_113 (by decide) ?_
            exact x_iret C dX11_winter_123 ⟨_, rfl, h⟩
        · replace h := x_ift hq10 h
          refine x_aload_n C 1 rfl rfl dX11_winter_93 ?_
          refine x_get C (c := 0) (ci := 11) (k1 := 7) (v1 := .ref (ga g 41)) (enC_11 (c := 0) rfl) (Nat.le_of_ble_eq_true rfl) rfl inX11 (by decide) wf_X11_50 rfl dX11_winter_94 ?_
          refine x_getN C (c := 41) (ci := 2) (k1 := 12) (v1 := .int (gi M9 41 12)) (enC_2 (c := 41) rfl) (Nat.le_of_ble_eq_true rfl) rfl inX2 (by decide) wfn_X11_324 rfl dX11_winter_97 ?_
          exact x_iret C dX11_winter_100 ⟨_, rfl, h⟩
      · replace h := x_ift hq8 h
        refine x_bipush C (v1 := (-2)) dX11_winter_74 (by decide) ?_
        exact x_iret C dX11_winter_76 ⟨_, rfl, h⟩
    · replace h := x_ift hq4 h
      refine x_iconst C (v1 := (-1)) dX11_winter_57 (by decide) ?_
      exact x_iret C dX11_winter_58 ⟨_, rfl, h⟩
set_option maxHeartbeats 4000000 in
set_option maxRecDepth 100000 in
theorem tX11_winter_38 {g : xG} (hg : x_inj (WC g))  {x : xCx}   {post : Int32 → xMem → Prop} (C : xOk (WC g) x cX11_winter RX11 5 (some .int) (rm_X11_winter) (pI post))   (x1 : Int32) (x2 : Int32) (x3 : Int32) (M : xMem)  (h : wX11_winter_38 post x1 x2 x3 M) : xW (WC g) x 5 38 [(0, .ref (ga g 0)), (1, .int x1), (2, .int x2), (3, .int x3)] [] M := by
  unfold wX11_winter_38 at h
  refine x_iconst C (v1 := 0) dX11_winter_38 (by decide) ?_
  exact tX11_winter_39 hg  C   _ _ _ _ _  h
set_option maxHeartbeats 4000000 in
set_option maxRecDepth 100000 in
theorem tX11_winter {g : xG} (hg : x_inj (WC g))  (l : Launch) (a0 : Int32) (a1 : Int32) (a2 : Int32) (M : xMem) (post : Int32 → xMem → Prop)  (h : wX11_winter a0 a1 a2 M post) : xMet (WC g) l yX11_winter cX11_winter 5 (some .int) (rm_X11_winter) [.ref (ga g 0), .int a0, .int a1, .int a2] M (pI post) := by
  refine x_enter (own := RX11) (L0 := [(0, .ref (ga g 0)), (1, .int a0), (2, .int a1), (3, .int a2)]) (by decide +kernel) rfl hg (x_stC g) (Nat.le_of_ble_eq_true rfl) rfl (fun x hl C => ?_)
  unfold wX11_winter at h
  refine x_iload_n C 1 rfl rfl dX11_winter_0 ?_
  refine x_iconst C (v1 := 0) dX11_winter_1 (by decide) ?_
  refine x_sipush C (v1 := 300) dX11_winter_2 (by decide) ?_
  refine x_callS C (st := []) (As := [.int a0, .int 0, .int 300]) (tX11_isWithin hg _ _ _ _ _ _  h) wm_X11_145 wsm_X11_isWithin wz_X11 wc_X11_isWithin yd_X11_isWithin rfl ⟨rfl, rfl⟩ ⟨Nat.le_of_ble_eq_true rfl, Nat.le_of_ble_eq_true rfl⟩ (Nat.le_of_ble_eq_true rfl) rfl dX11_winter_5 (x_ki (fun r2 M1 h => ?_))
  refine x_if_eq C (tgt := 38) dX11_winter_8 (by decide) (fun hq3 => ?_) (fun hq3 => ?_)
  · replace h := x_ift hq3 h
    exact tX11_winter_38 hg  C   _ _ _ _  h
  · replace h := x_iff hq3 h
    refine x_iload_n C 3 rfl rfl dX11_winter_11 ?_
    refine x_iconst C (v1 := 0) dX11_winter_12 (by decide) ?_
    refine x_iconst C (v1 := 2) dX11_winter_13 (by decide) ?_
    refine x_callS C (st := []) (As := [.int a2, .int 0, .int 2]) (tX11_isWithin hg _ _ _ _ _ _  h) wm_X11_145 wsm_X11_isWithin wz_X11 wc_X11_isWithin yd_X11_isWithin rfl ⟨rfl, rfl⟩ ⟨Nat.le_of_ble_eq_true rfl, Nat.le_of_ble_eq_true rfl⟩ (Nat.le_of_ble_eq_true rfl) rfl dX11_winter_14 (x_ki (fun r5 M4 h => ?_))
    refine x_if_eq C (tgt := 38) dX11_winter_17 (by decide) (fun hq6 => ?_) (fun hq6 => ?_)
    · replace h := x_ift hq6 h
      exact tX11_winter_38 hg  C   _ _ _ _  h
    · replace h := x_iff hq6 h
      refine x_iload_n C 2 rfl rfl dX11_winter_20 ?_
      refine x_aload_n C 0 rfl rfl dX11_winter_21 ?_
      refine x_get C (c := 0) (ci := 11) (k1 := 7) (v1 := .ref (ga g 41)) (enC_11 (c := 0) rfl) (Nat.le_of_ble_eq_true rfl) rfl inX11 (by decide) wf_X11_50 rfl dX11_winter_22 ?_
      refine x_getN C (c := 41) (ci := 2) (k1 := 0) (v1 := .int (gi M4 41 0)) (enC_2 (c := 41) rfl) (Nat.le_of_ble_eq_true rfl) rfl inX2 (by decide) wfn_X11_314 rfl dX11_winter_25 ?_
      refine x_callS C (st := [.int a1]) (As := [.int (gi M4 41 0)]) (tJ6_bitCount_0f7a4 hg _ _ _ _  h) wm_X11_290 wsm_J6_bitCount_0f7a4 wz_J6 wc_J6_bitCount_0f7a4 yd_J6_bitCount_0f7a4 rfl ⟨rfl, rfl⟩ ⟨Nat.le_of_ble_eq_true rfl, Nat.le_of_ble_eq_true rfl⟩ (Nat.le_of_ble_eq_true rfl) rfl dX11_winter_28 (x_ki (fun r8 M7 h => ?_))
      refine x_icmp_ne C (tgt := 38) dX11_winter_31 (by decide) (fun hq9 => ?_) (fun hq9 => ?_)
      · replace h := x_iff hq9 h
        exact tX11_winter_38 hg  C   _ _ _ _  h
      · replace h := x_ift hq9 h
        refine x_iconst C (v1 := 1) dX11_winter_34 (by decide) ?_
        refine x_goto C (tgt := 39) dX11_winter_35 (by decide) ?_
        exact tX11_winter_39 hg  C   _ _ _ _ _  h
set_option maxHeartbeats 4000000 in
set_option maxRecDepth 100000 in
theorem tX7_mostPressed_81 {g : xG} (hg : x_inj (WC g))  {x : xCx}  {K5 : Int32 → Int32 → Int32 → Int32 → xMem → Prop} {post : Int32 → xMem → Prop} (C : xOk (WC g) x cX7_mostPressed RX7 6 (some .int) (rm_X7_mostPressed) (pI post))  (hK5 : ∀ (x1 : Int32) (x2 : Int32) (x3 : Int32) (x4 : Int32) (M : xMem), K5 x1 x2 x3 x4 M → xW (WC g) x 6 5 [(0, .ref (ga g 89)), (1, .int x1), (2, .int x2), (3, .int x3), (4, .int x4)] [] M) (x1 : Int32) (x2 : Int32) (x3 : Int32) (x4 : Int32) (M : xMem)  (h : wX7_mostPressed_81 K5 post x1 x2 x3 x4 M) : xW (WC g) x 6 81 [(0, .ref (ga g 89)), (1, .int x1), (2, .int x2), (3, .int x3), (4, .int x4)] [] M := by
  unfold wX7_mostPressed_81 at h
  obtain ⟨v1, ev1⟩ : ∃ z : Int32, z = x4 + 1 := ⟨_, rfl⟩
  replace h := h v1 ev1
  refine x_iinc C 4 (v1 := v1) (L' := [(4, .int v1), (0, .ref (ga g 89)), (1, .int x1), (2, .int x2), (3, .int x3)]) rfl (by rw [ev1]; rfl) rfl (Nat.le_of_ble_eq_true rfl) dX7_mostPressed_81 ?_
  refine x_goto C (tgt := 5) dX7_mostPressed_84 (by decide) ?_
  refine x_loc (L' := [(0, .ref (ga g 89)), (1, .int x1), (2, .int x2), (3, .int x3), (4, .int v1)]) [1, 2, 3, 4, 0] rfl ?_
  exact hK5 _ _ _ _ _  h
set_option maxHeartbeats 4000000 in
set_option maxRecDepth 100000 in
theorem tX7_mostPressed_78 {g : xG} (hg : x_inj (WC g))  {x : xCx}  {K5 : Int32 → Int32 → Int32 → Int32 → xMem → Prop} {post : Int32 → xMem → Prop} (C : xOk (WC g) x cX7_mostPressed RX7 6 (some .int) (rm_X7_mostPressed) (pI post))  (hK5 : ∀ (x1 : Int32) (x2 : Int32) (x3 : Int32) (x4 : Int32) (M : xMem), K5 x1 x2 x3 x4 M → xW (WC g) x 6 5 [(0, .ref (ga g 89)), (1, .int x1), (2, .int x2), (3, .int x3), (4, .int x4)] [] M) (x1 : Int32) (x2 : Int32) (x4 : Int32) (M : xMem)  (h : wX7_mostPressed_78 K5 post x1 x2 x4 M) : xW (WC g) x 6 78 [(0, .ref (ga g 89)), (1, .int x1), (2, .int x2), (4, .int x4)] [] M := by
  unfold wX7_mostPressed_78 at h
  refine x_iload C 3 rfl dX7_mostPressed_78 ?_
  refine x_istore_n C (L' := [(3, .int x4), (0, .ref (ga g 89)), (1, .int x1), (2, .int x2), (4, .int x4)]) rfl rfl (Nat.le_of_ble_eq_true rfl) dX7_mostPressed_80 ?_
  refine x_loc (L' := [(0, .ref (ga g 89)), (1, .int x1), (2, .int x2), (3, .int x4), (4, .int x4)]) [1, 2, 3, 0, 4] rfl ?_
  exact tX7_mostPressed_81 hg  C  hK5 _ _ _ _ _  h
set_option maxHeartbeats 4000000 in
set_option maxRecDepth 100000 in
theorem tX7_mostPressed_50 {g : xG} (hg : x_inj (WC g))  {x : xCx}  {K5 : Int32 → Int32 → Int32 → Int32 → xMem → Prop} {post : Int32 → xMem → Prop} (C : xOk (WC g) x cX7_mostPressed RX7 6 (some .int) (rm_X7_mostPressed) (pI post))  (hK5 : ∀ (x1 : Int32) (x2 : Int32) (x3 : Int32) (x4 : Int32) (M : xMem), K5 x1 x2 x3 x4 M → xW (WC g) x 6 5 [(0, .ref (ga g 89)), (1, .int x1), (2, .int x2), (3, .int x3), (4, .int x4)] [] M) (x1 : Int32) (x2 : Int32) (x3 : Int32) (x4 : Int32) (s0 : Int32) (M : xMem)  (h : wX7_mostPressed_50 K5 post x1 x2 x3 x4 s0 M) : xW (WC g) x 6 50 [(0, .ref (ga g 89)), (1, .int x1), (2, .int x2), (3, .int x3), (4, .int x4)] [.int s0] M := by
  unfold wX7_mostPressed_50 at h
  refine x_istore C (L' := [(5, .int s0), (0, .ref (ga g 89)), (1, .int x1), (2, .int x2), (3, .int x3), (4, .int x4)]) rfl (Nat.le_of_ble_eq_true rfl) dX7_mostPressed_50 ?_
  refine x_iload C 0 rfl dX7_mostPressed_52 ?_
  refine x_if_eq C (tgt := 81) dX7_mostPressed_54 (by decide) (fun hq1 => ?_) (fun hq1 => ?_)
  · replace h := x_ift hq1 h
    refine x_loc (L' := [(0, .ref (ga g 89)), (1, .int x1), (2, .int x2), (3, .int x3), (4, .int x4)]) [1, 2, 3, 4, 5] rfl ?_
    exact tX7_mostPressed_81 hg  C  hK5 _ _ _ _ _  h
  · replace h := x_iff hq1 h
    refine x_iload_n C 4 rfl rfl dX7_mostPressed_57 ?_
    refine x_iconst C (v1 := (-1)) dX7_mostPressed_58 (by decide) ?_
    refine x_icmp_eq C (tgt := 78) dX7_mostPressed_59 (by decide) (fun hq2 => ?_) (fun hq2 => ?_)
    · replace h := x_ift hq2 h
      refine x_loc (L' := [(0, .ref (ga g 89)), (1, .int x1), (2, .int x2), (4, .int x4)]) [1, 2, 3, 5] rfl ?_
      exact tX7_mostPressed_78 hg  C  hK5 _ _ _ _  h
    · replace h := x_iff hq2 h
      refine x_aload_n C 1 rfl rfl dX7_mostPressed_62 ?_
      refine x_get C (c := 89) (ci := 7) (k1 := 1) (v1 := .ref (ga g 91)) (enC_7 (c := 89) rfl) (Nat.le_of_ble_eq_true rfl) rfl inX7 (by decide) wf_X7_15 rfl dX7_mostPressed_63 ?_
      refine x_iload C 5 rfl dX7_mostPressed_66 ?_
      obtain ⟨hi3, h⟩ := h
      refine x_iald C 0 (c := 91) (enC_20n (c := 91) (n := 8) rfl rfl) (Nat.le_of_ble_eq_true rfl) rfl hi3 dX7_mostPressed_68 ?_
      refine x_aload_n C 1 rfl rfl dX7_mostPressed_69 ?_
      refine x_get C (c := 89) (ci := 7) (k1 := 1) (v1 := .ref (ga g 91)) (enC_7 (c := 89) rfl) (Nat.le_of_ble_eq_true rfl) rfl inX7 (by decide) wf_X7_15 rfl dX7_mostPressed_70 ?_
      refine x_iload_n C 4 rfl rfl dX7_mostPressed_73 ?_
      obtain ⟨hi4, h⟩ := h
      refine x_iald C 0 (c := 91) (enC_20n (c := 91) (n := 8) rfl rfl) (Nat.le_of_ble_eq_true rfl) rfl hi4 dX7_mostPressed_74 ?_
      refine x_icmp_ge C (tgt := 81) dX7_mostPressed_75 (by decide) (fun hq5 => ?_) (fun hq5 => ?_)
      · replace h := x_ift hq5 h
        refine x_loc (L' := [(0, .ref (ga g 89)), (1, .int x1), (2, .int x2), (3, .int x3), (4, .int x4)]) [1, 2, 3, 4, 5] rfl ?_
        exact tX7_mostPressed_81 hg  C  hK5 _ _ _ _ _  h
      · replace h := x_iff hq5 h
        refine x_loc (L' := [(0, .ref (ga g 89)), (1, .int x1), (2, .int x2), (4, .int x4)]) [1, 2, 3, 5] rfl ?_
        exact tX7_mostPressed_78 hg  C  hK5 _ _ _ _  h
set_option maxHeartbeats 4000000 in
set_option maxRecDepth 100000 in
theorem tX7_mostPressed_49 {g : xG} (hg : x_inj (WC g))  {x : xCx}  {K5 : Int32 → Int32 → Int32 → Int32 → xMem → Prop} {post : Int32 → xMem → Prop} (C : xOk (WC g) x cX7_mostPressed RX7 6 (some .int) (rm_X7_mostPressed) (pI post))  (hK5 : ∀ (x1 : Int32) (x2 : Int32) (x3 : Int32) (x4 : Int32) (M : xMem), K5 x1 x2 x3 x4 M → xW (WC g) x 6 5 [(0, .ref (ga g 89)), (1, .int x1), (2, .int x2), (3, .int x3), (4, .int x4)] [] M) (x1 : Int32) (x2 : Int32) (x3 : Int32) (x4 : Int32) (M : xMem)  (h : wX7_mostPressed_49 K5 post x1 x2 x3 x4 M) : xW (WC g) x 6 49 [(0, .ref (ga g 89)), (1, .int x1), (2, .int x2), (3, .int x3), (4, .int x4)] [] M := by
  unfold wX7_mostPressed_49 at h
  refine x_iconst C (v1 := 0) dX7_mostPressed_49 (by decide) ?_
  exact tX7_mostPressed_50 hg  C  hK5 _ _ _ _ _ _  h
set_option maxHeartbeats 4000000 in
set_option maxRecDepth 100000 in
theorem tX7_mostPressed_5 {g : xG} (hg : x_inj (WC g))  {x : xCx}   {post : Int32 → xMem → Prop} (C : xOk (WC g) x cX7_mostPressed RX7 6 (some .int) (rm_X7_mostPressed) (pI post))   : ∀ (n : Nat) (x1 : Int32) (x2 : Int32) (x3 : Int32) (x4 : Int32) (M : xMem), wX7_mostPressed_5 post n x1 x2 x3 x4 M → xW (WC g) x 6 5 [(0, .ref (ga g 89)), (1, .int x1), (2, .int x2), (3, .int x3), (4, .int x4)] [] M := by
  intro n
  induction n with
  | zero =>
    intro x1 x2 x3 x4 M  h
    exact h.elim
  | succ n ih =>
    intro x1 x2 x3 x4 M  h
    rw [wX7_mostPressed_5] at h
    refine x_iload C 4 rfl dX7_mostPressed_5 ?_
    refine x_aload_n C 0 rfl rfl dX7_mostPressed_7 ?_
    refine x_get C (c := 89) (ci := 7) (k1 := 4) (v1 := .int (gi M 89 4)) (enC_7 (c := 89) rfl) (Nat.le_of_ble_eq_true rfl) rfl inX7 (by decide) wf_X7_24 rfl dX7_mostPressed_8 ?_
    refine x_icmp_ge C (tgt := 87) dX7_mostPressed_11 (by decide) (fun hq1 => ?_) (fun hq1 => ?_)
    · replace h := x_ift hq1 h
      refine x_iload_n C 3 rfl rfl dX7_mostPressed_87 ?_
      exact x_iret C dX7_mostPressed_88 ⟨_, rfl, h⟩
    · replace h := x_iff hq1 h
      refine x_iload_n C 1 rfl rfl dX7_mostPressed_14 ?_
      refine x_iload C 4 rfl dX7_mostPressed_15 ?_
      refine x_callSN C (st := []) (As := [.int x1, .int x4]) (tX11_has hg _ _ _ _ _  h) wmn_X7_53 wsm_X11_has wz_X11 wc_X11_has yd_X11_has rfl ⟨rfl, rfl⟩ ⟨Nat.le_of_ble_eq_true rfl, Nat.le_of_ble_eq_true rfl⟩ (Nat.le_of_ble_eq_true rfl) rfl dX7_mostPressed_17 (x_ki (fun r3 M2 h => ?_))
      refine x_if_eq C (tgt := 49) dX7_mostPressed_20 (by decide) (fun hq4 => ?_) (fun hq4 => ?_)
      · replace h := x_ift hq4 h
        exact tX7_mostPressed_49 hg  C  ih _ _ _ _ _  h
      · replace h := x_iff hq4 h
        refine x_aload_n C 0 rfl rfl dX7_mostPressed_23 ?_
        refine x_get C (c := 89) (ci := 7) (k1 := 0) (v1 := .ref (ga g 90)) (enC_7 (c := 89) rfl) (Nat.le_of_ble_eq_true rfl) rfl inX7 (by decide) wf_X7_9 rfl dX7_mostPressed_24 ?_
        refine x_iload C 4 rfl dX7_mostPressed_27 ?_
        obtain ⟨hi5, h⟩ := h
        refine x_iald C 0 (c := 90) (enC_20n (c := 90) (n := 8) rfl rfl) (Nat.le_of_ble_eq_true rfl) rfl hi5 dX7_mostPressed_29 ?_
        refine x_iload_n C 2 rfl rfl dX7_mostPressed_30 ?_
        refine x_icmp_gt C (tgt := 49) dX7_mostPressed_31 (by decide) (fun hq6 => ?_) (fun hq6 => ?_)
        · replace h := x_ift hq6 h
          exact tX7_mostPressed_49 hg  C  ih _ _ _ _ _  h
        · replace h := x_iff hq6 h
          refine x_iload_n C 2 rfl rfl dX7_mostPressed_34 ?_
          refine x_aload_n C 0 rfl rfl dX7_mostPressed_35 ?_
          refine x_get C (c := 89) (ci := 7) (k1 := 1) (v1 := .ref (ga g 91)) (enC_7 (c := 89) rfl) (Nat.le_of_ble_eq_true rfl) rfl inX7 (by decide) wf_X7_15 rfl dX7_mostPressed_36 ?_
          refine x_iload C 4 rfl dX7_mostPressed_39 ?_
          obtain ⟨hi7, h⟩ := h
          refine x_iald C 0 (c := 91) (enC_20n (c := 91) (n := 8) rfl rfl) (Nat.le_of_ble_eq_true rfl) rfl hi7 dX7_mostPressed_41 ?_
          refine x_icmp_gt C (tgt := 49) dX7_mostPressed_42 (by decide) (fun hq8 => ?_) (fun hq8 => ?_)
          · replace h := x_ift hq8 h
            exact tX7_mostPressed_49 hg  C  ih _ _ _ _ _  h
          · replace h := x_iff hq8 h
            refine x_iconst C (v1 := 1) dX7_mostPressed_45 (by decide) ?_
            refine x_goto C (tgt := 50) dX7_mostPressed_46 (by decide) ?_
            exact tX7_mostPressed_50 hg  C  ih _ _ _ _ _ _  h
set_option maxHeartbeats 4000000 in
set_option maxRecDepth 100000 in
theorem tX7_mostPressed {g : xG} (hg : x_inj (WC g))  (l : Launch) (a0 : Int32) (a1 : Int32) (M : xMem) (post : Int32 → xMem → Prop)  (h : wX7_mostPressed a0 a1 M post) : xMet (WC g) l yX7_mostPressed cX7_mostPressed 6 (some .int) (rm_X7_mostPressed) [.ref (ga g 89), .int a0, .int a1] M (pI post) := by
  refine x_enter (own := RX7) (L0 := [(0, .ref (ga g 89)), (1, .int a0), (2, .int a1)]) (by decide +kernel) rfl hg (x_stC g) (Nat.le_of_ble_eq_true rfl) rfl (fun x hl C => ?_)
  unfold wX7_mostPressed at h
  refine x_iconst C (v1 := (-1)) dX7_mostPressed_0 (by decide) ?_
  refine x_istore_n C (L' := [(3, .int (-1)), (0, .ref (ga g 89)), (1, .int a0), (2, .int a1)]) rfl rfl (Nat.le_of_ble_eq_true rfl) dX7_mostPressed_1 ?_
  refine x_iconst C (v1 := 0) dX7_mostPressed_2 (by decide) ?_
  refine x_istore C (L' := [(4, .int 0), (3, .int (-1)), (0, .ref (ga g 89)), (1, .int a0), (2, .int a1)]) rfl (Nat.le_of_ble_eq_true rfl) dX7_mostPressed_3 ?_
  refine x_loc (L' := [(0, .ref (ga g 89)), (1, .int a0), (2, .int a1), (3, .int (-1)), (4, .int 0)]) [2, 3, 4, 1, 0] rfl ?_
  obtain ⟨n5, h⟩ := h
  exact tX7_mostPressed_5 hg  C   _ _ _ _ _ _  h
set_option maxHeartbeats 4000000 in
set_option maxRecDepth 100000 in
theorem tX7_mostFrom_75 {g : xG} (hg : x_inj (WC g))  {x : xCx}  {K23 : Int32 → Int32 → Int32 → xMem → Prop} {post : Int32 → xMem → Prop} (C : xOk (WC g) x cX7_mostFrom RX7 6 (some .int) (rm_X7_mostFrom) (pI post))  (hK23 : ∀ (x2 : Int32) (x3 : Int32) (x4 : Int32) (M : xMem), K23 x2 x3 x4 M → xW (WC g) x 6 23 [(0, .ref (ga g 89)), (2, .int x2), (3, .int x3), (4, .int x4)] [] M) (x2 : Int32) (x3 : Int32) (x4 : Int32) (M : xMem)  (h : wX7_mostFrom_75 K23 post x2 x3 x4 M) : xW (WC g) x 6 75 [(0, .ref (ga g 89)), (2, .int x2), (3, .int x3), (4, .int x4)] [] M := by
  unfold wX7_mostFrom_75 at h
  obtain ⟨v1, ev1⟩ : ∃ z : Int32, z = x4 + 1 := ⟨_, rfl⟩
  replace h := h v1 ev1
  refine x_iinc C 3 (v1 := v1) (L' := [(4, .int v1), (0, .ref (ga g 89)), (2, .int x2), (3, .int x3)]) rfl (by rw [ev1]; rfl) rfl (Nat.le_of_ble_eq_true rfl) dX7_mostFrom_75 ?_
  refine x_goto C (tgt := 23) dX7_mostFrom_78 (by decide) ?_
  refine x_loc (L' := [(0, .ref (ga g 89)), (2, .int x2), (3, .int x3), (4, .int v1)]) [1, 2, 3, 0] rfl ?_
  exact hK23 _ _ _ _  h
set_option maxHeartbeats 4000000 in
set_option maxRecDepth 100000 in
theorem tX7_mostFrom_55 {g : xG} (hg : x_inj (WC g))  {x : xCx}  {K23 : Int32 → Int32 → Int32 → xMem → Prop} {post : Int32 → xMem → Prop} (C : xOk (WC g) x cX7_mostFrom RX7 6 (some .int) (rm_X7_mostFrom) (pI post))  (hK23 : ∀ (x2 : Int32) (x3 : Int32) (x4 : Int32) (M : xMem), K23 x2 x3 x4 M → xW (WC g) x 6 23 [(0, .ref (ga g 89)), (2, .int x2), (3, .int x3), (4, .int x4)] [] M) (x2 : Int32) (x3 : Int32) (x4 : Int32) (s0 : Int32) (M : xMem)  (h : wX7_mostFrom_55 K23 post x2 x3 x4 s0 M) : xW (WC g) x 6 55 [(0, .ref (ga g 89)), (2, .int x2), (3, .int x3), (4, .int x4)] [.int s0] M := by
  unfold wX7_mostFrom_55 at h
  refine x_istore C (L' := [(5, .int s0), (0, .ref (ga g 89)), (2, .int x2), (3, .int x3), (4, .int x4)]) rfl (Nat.le_of_ble_eq_true rfl) dX7_mostFrom_55 ?_
  refine x_iload C 0 rfl dX7_mostFrom_57 ?_
  refine x_iconst C (v1 := (-1)) dX7_mostFrom_59 (by decide) ?_
  refine x_icmp_eq C (tgt := 75) dX7_mostFrom_60 (by decide) (fun hq1 => ?_) (fun hq1 => ?_)
  · replace h := x_ift hq1 h
    refine x_loc (L' := [(0, .ref (ga g 89)), (2, .int x2), (3, .int x3), (4, .int x4)]) [1, 2, 3, 4] rfl ?_
    exact tX7_mostFrom_75 hg  C  hK23 _ _ _ _  h
  · replace h := x_iff hq1 h
    refine x_iload_n C 2 rfl rfl dX7_mostFrom_63 ?_
    refine x_iconst C (v1 := 1) dX7_mostFrom_64 (by decide) ?_
    refine x_iload C 0 rfl dX7_mostFrom_65 ?_
    refine x_ishl C dX7_mostFrom_67 ?_
    refine x_iconst C (v1 := (-1)) dX7_mostFrom_68 (by decide) ?_
    refine x_ixor C dX7_mostFrom_69 ?_
    refine x_iand C dX7_mostFrom_70 ?_
    refine x_nm (fun v2 ev2 => ?_)
    replace h := h v2 ev2
    refine x_istore_n C (L' := [(2, .int v2), (5, .int s0), (0, .ref (ga g 89)), (3, .int x3), (4, .int x4)]) rfl rfl (Nat.le_of_ble_eq_true rfl) dX7_mostFrom_71 ?_
    obtain ⟨v3, ev3⟩ : ∃ z : Int32, z = x3 + 1 := ⟨_, rfl⟩
    replace h := h v3 ev3
    refine x_iinc C 3 (v1 := v3) (L' := [(3, .int v3), (2, .int v2), (5, .int s0), (0, .ref (ga g 89)), (4, .int x4)]) rfl (by rw [ev3]; rfl) rfl (Nat.le_of_ble_eq_true rfl) dX7_mostFrom_72 ?_
    refine x_loc (L' := [(0, .ref (ga g 89)), (2, .int v2), (3, .int v3), (4, .int x4)]) [3, 1, 0, 4] rfl ?_
    exact tX7_mostFrom_75 hg  C  hK23 _ _ _ _  h
set_option maxHeartbeats 4000000 in
set_option maxRecDepth 100000 in
theorem tX7_mostFrom_23 {g : xG} (hg : x_inj (WC g))  {x : xCx}   {post : Int32 → xMem → Prop} (C : xOk (WC g) x cX7_mostFrom RX7 6 (some .int) (rm_X7_mostFrom) (pI post))   : ∀ (n : Nat) (x2 : Int32) (x3 : Int32) (x4 : Int32) (M : xMem), wX7_mostFrom_23 post n x2 x3 x4 M → xW (WC g) x 6 23 [(0, .ref (ga g 89)), (2, .int x2), (3, .int x3), (4, .int x4)] [] M := by
  intro n
  induction n with
  | zero =>
    intro x2 x3 x4 M  h
    exact h.elim
  | succ n ih =>
    intro x2 x3 x4 M  h
    rw [wX7_mostFrom_23] at h
    refine x_iload C 3 rfl dX7_mostFrom_23 ?_
    refine x_bipush C (v1 := 100) dX7_mostFrom_25 (by decide) ?_
    refine x_icmp_ge C (tgt := 81) dX7_mostFrom_27 (by decide) (fun hq1 => ?_) (fun hq1 => ?_)
    · replace h := x_ift hq1 h
      refine x_iload_n C 2 rfl rfl dX7_mostFrom_81 ?_
      exact x_iret C dX7_mostFrom_82 ⟨_, rfl, h⟩
    · replace h := x_iff hq1 h
      refine x_iload_n C 1 rfl rfl dX7_mostFrom_30 ?_
      refine x_if_eq C (tgt := 81) dX7_mostFrom_31 (by decide) (fun hq2 => ?_) (fun hq2 => ?_)
      · replace h := x_ift hq2 h
        refine x_iload_n C 2 rfl rfl dX7_mostFrom_81 ?_
        exact x_iret C dX7_mostFrom_82 ⟨_, rfl, h⟩
      · replace h := x_iff hq2 h
        refine x_aload_n C 0 rfl rfl dX7_mostFrom_34 ?_
        refine x_get C (c := 89) (ci := 7) (k1 := 3) (v1 := .ref (ga g 93)) (enC_7 (c := 89) rfl) (Nat.le_of_ble_eq_true rfl) rfl inX7 (by decide) wf_X7_21 rfl dX7_mostFrom_35 ?_
        refine x_iload C 3 rfl dX7_mostFrom_38 ?_
        obtain ⟨hi3, h⟩ := h
        refine x_iald C 0 (c := 93) (enC_20n (c := 93) (n := 100) rfl rfl) (Nat.le_of_ble_eq_true rfl) rfl hi3 dX7_mostFrom_40 ?_
        refine x_if_ne C (tgt := 54) dX7_mostFrom_41 (by decide) (fun hq4 => ?_) (fun hq4 => ?_)
        · replace h := x_iff hq4 h
          refine x_iconst C (v1 := (-1)) dX7_mostFrom_54 (by decide) ?_
          exact tX7_mostFrom_55 hg  C  ih _ _ _ _ _  h
        · replace h := x_ift hq4 h
          refine x_aload_n C 0 rfl rfl dX7_mostFrom_44 ?_
          refine x_iload_n C 1 rfl rfl dX7_mostFrom_45 ?_
          refine x_iload C 3 rfl dX7_mostFrom_46 ?_
          refine x_callV C (st := []) (As := [.int x2, .int x4]) (c := 89) (ci := 7) (enC_7 (c := 89) rfl) (Nat.le_of_ble_eq_true rfl) rfl (tX7_mostPressed hg _ _ _ _ _  h) wm_X7_50 wi_X7_mostPressed wv_X7_mostPressed wz_X7 wc_X7_mostPressed rfl yd_X7_mostPressed rfl ⟨rfl, rfl⟩ ⟨Nat.le_of_ble_eq_true rfl, Nat.le_of_ble_eq_true rfl⟩ (Nat.le_of_ble_eq_true rfl) rfl dX7_mostFrom_48 (x_ki (fun r6 M5 h => ?_))
          refine x_goto C (tgt := 55) dX7_mostFrom_51 (by decide) ?_
          exact tX7_mostFrom_55 hg  C  ih _ _ _ _ _  h
set_option maxHeartbeats 4000000 in
set_option maxRecDepth 100000 in
theorem tX7_mostFrom {g : xG} (hg : x_inj (WC g))  (l : Launch) (a0 : Int32) (M : xMem) (post : Int32 → xMem → Prop)  (h : wX7_mostFrom a0 M post) : xMet (WC g) l yX7_mostFrom cX7_mostFrom 6 (some .int) (rm_X7_mostFrom) [.ref (ga g 89), .int a0] M (pI post) := by
  refine x_enter (own := RX7) (L0 := [(0, .ref (ga g 89)), (1, .int a0)]) (by decide +kernel) rfl hg (x_stC g) (Nat.le_of_ble_eq_true rfl) rfl (fun x hl C => ?_)
  unfold wX7_mostFrom at h
  refine x_iconst C (v1 := 1) dX7_mostFrom_0 (by decide) ?_
  refine x_aload_n C 0 rfl rfl dX7_mostFrom_1 ?_
  refine x_get C (c := 89) (ci := 7) (k1 := 4) (v1 := .int (gi M 89 4)) (enC_7 (c := 89) rfl) (Nat.le_of_ble_eq_true rfl) rfl inX7 (by decide) wf_X7_24 rfl dX7_mostFrom_2 ?_
  refine x_ishl C dX7_mostFrom_5 ?_
  refine x_iconst C (v1 := 1) dX7_mostFrom_6 (by decide) ?_
  refine x_iload_n C 1 rfl rfl dX7_mostFrom_7 ?_
  refine x_aload_n C 0 rfl rfl dX7_mostFrom_8 ?_
  refine x_get C (c := 89) (ci := 7) (k1 := 4) (v1 := .int (gi M 89 4)) (enC_7 (c := 89) rfl) (Nat.le_of_ble_eq_true rfl) rfl inX7 (by decide) wf_X7_24 rfl dX7_mostFrom_9 ?_
  refine x_callS C (st := [.int 1, .int (1 <<< ((gi M 89 4) &&& 31))]) (As := [.int a0, .int (gi M 89 4)]) (tJ9_min_7cf53 hg _ _ _ _ _  h) wm_X7_31 wsm_J9_min_7cf53 wz_J9 wc_J9_min_7cf53 yd_J9_min_7cf53 rfl ⟨rfl, rfl⟩ ⟨Nat.le_of_ble_eq_true rfl, Nat.le_of_ble_eq_true rfl⟩ (Nat.le_of_ble_eq_true rfl) rfl dX7_mostFrom_12 (x_ki (fun r2 M1 h => ?_))
  refine x_ishl C dX7_mostFrom_15 ?_
  refine x_isub C dX7_mostFrom_16 ?_
  refine x_nm (fun v3 ev3 => ?_)
  replace h := h v3 ev3
  refine x_istore_n C (L' := [(2, .int v3), (0, .ref (ga g 89)), (1, .int a0)]) rfl rfl (Nat.le_of_ble_eq_true rfl) dX7_mostFrom_17 ?_
  refine x_iconst C (v1 := 0) dX7_mostFrom_18 (by decide) ?_
  refine x_istore_n C (L' := [(3, .int 0), (2, .int v3), (0, .ref (ga g 89)), (1, .int a0)]) rfl rfl (Nat.le_of_ble_eq_true rfl) dX7_mostFrom_19 ?_
  refine x_iconst C (v1 := 0) dX7_mostFrom_20 (by decide) ?_
  refine x_istore C (L' := [(4, .int 0), (3, .int 0), (2, .int v3), (0, .ref (ga g 89)), (1, .int a0)]) rfl (Nat.le_of_ble_eq_true rfl) dX7_mostFrom_21 ?_
  refine x_loc (L' := [(0, .ref (ga g 89)), (2, .int v3), (3, .int 0), (4, .int 0)]) [3, 2, 1, 0] rfl ?_
  obtain ⟨n23, h⟩ := h
  exact tX7_mostFrom_23 hg  C   _ _ _ _ _  h
set_option maxHeartbeats 4000000 in
set_option maxRecDepth 100000 in
theorem tX7_earliestFor_61 {g : xG} (hg : x_inj (WC g))  {x : xCx}  {K7 : Int32 → Int32 → Int32 → xMem → Prop} {post : Int32 → xMem → Prop} (C : xOk (WC g) x cX7_earliestFor RX7 4 (some .int) (rm_X7_earliestFor) (pI post))  (hK7 : ∀ (x1 : Int32) (x2 : Int32) (x3 : Int32) (M : xMem), K7 x1 x2 x3 M → xW (WC g) x 4 7 [(0, .ref (ga g 89)), (1, .int x1), (2, .int x2), (3, .int x3)] [] M) (x1 : Int32) (x2 : Int32) (x3 : Int32) (M : xMem)  (h : wX7_earliestFor_61 K7 post x1 x2 x3 M) : xW (WC g) x 4 61 [(0, .ref (ga g 89)), (1, .int x1), (2, .int x2), (3, .int x3)] [] M := by
  unfold wX7_earliestFor_61 at h
  obtain ⟨v1, ev1⟩ : ∃ z : Int32, z = x3 + 1 := ⟨_, rfl⟩
  replace h := h v1 ev1
  refine x_iinc C 3 (v1 := v1) (L' := [(3, .int v1), (0, .ref (ga g 89)), (1, .int x1), (2, .int x2)]) rfl (by rw [ev1]; rfl) rfl (Nat.le_of_ble_eq_true rfl) dX7_earliestFor_61 ?_
  refine x_goto C (tgt := 7) dX7_earliestFor_64 (by decide) ?_
  refine x_loc (L' := [(0, .ref (ga g 89)), (1, .int x1), (2, .int x2), (3, .int v1)]) [1, 2, 3, 0] rfl ?_
  exact hK7 _ _ _ _  h
set_option maxHeartbeats 4000000 in
set_option maxRecDepth 100000 in
theorem tX7_earliestFor_7 {g : xG} (hg : x_inj (WC g))  {x : xCx}   {post : Int32 → xMem → Prop} (C : xOk (WC g) x cX7_earliestFor RX7 4 (some .int) (rm_X7_earliestFor) (pI post))   : ∀ (n : Nat) (x1 : Int32) (x2 : Int32) (x3 : Int32) (M : xMem), wX7_earliestFor_7 post n x1 x2 x3 M → xW (WC g) x 4 7 [(0, .ref (ga g 89)), (1, .int x1), (2, .int x2), (3, .int x3)] [] M := by
  intro n
  induction n with
  | zero =>
    intro x1 x2 x3 M  h
    exact h.elim
  | succ n ih =>
    intro x1 x2 x3 M  h
    rw [wX7_earliestFor_7] at h
    refine x_iload_n C 3 rfl rfl dX7_earliestFor_7 ?_
    refine x_aload_n C 0 rfl rfl dX7_earliestFor_8 ?_
    refine x_get C (c := 89) (ci := 7) (k1 := 1) (v1 := .ref (ga g 91)) (enC_7 (c := 89) rfl) (Nat.le_of_ble_eq_true rfl) rfl inX7 (by decide) wf_X7_15 rfl dX7_earliestFor_9 ?_
    refine x_iload_n C 1 rfl rfl dX7_earliestFor_12 ?_
    obtain ⟨hi1, h⟩ := h
    refine x_iald C 0 (c := 91) (enC_20n (c := 91) (n := 8) rfl rfl) (Nat.le_of_ble_eq_true rfl) rfl hi1 dX7_earliestFor_13 ?_
    refine x_icmp_gt C (tgt := 67) dX7_earliestFor_14 (by decide) (fun hq2 => ?_) (fun hq2 => ?_)
    · replace h := x_ift hq2 h
      refine x_bipush C (v1 := 100) dX7_earliestFor_67 (by decide) ?_
      exact x_iret C dX7_earliestFor_69 ⟨_, rfl, h⟩
    · replace h := x_iff hq2 h
      refine x_iload_n C 3 rfl rfl dX7_earliestFor_17 ?_
      refine x_bipush C (v1 := 100) dX7_earliestFor_18 (by decide) ?_
      refine x_icmp_ge C (tgt := 67) dX7_earliestFor_20 (by decide) (fun hq3 => ?_) (fun hq3 => ?_)
      · replace h := x_ift hq3 h
        refine x_bipush C (v1 := 100) dX7_earliestFor_67 (by decide) ?_
        exact x_iret C dX7_earliestFor_69 ⟨_, rfl, h⟩
      · replace h := x_iff hq3 h
        refine x_aload_n C 0 rfl rfl dX7_earliestFor_23 ?_
        refine x_get C (c := 89) (ci := 7) (k1 := 3) (v1 := .ref (ga g 93)) (enC_7 (c := 89) rfl) (Nat.le_of_ble_eq_true rfl) rfl inX7 (by decide) wf_X7_21 rfl dX7_earliestFor_24 ?_
        refine x_iload_n C 3 rfl rfl dX7_earliestFor_27 ?_
        obtain ⟨hi4, h⟩ := h
        refine x_iald C 0 (c := 93) (enC_20n (c := 93) (n := 100) rfl rfl) (Nat.le_of_ble_eq_true rfl) rfl hi4 dX7_earliestFor_28 ?_
        refine x_if_ne C (tgt := 61) dX7_earliestFor_29 (by decide) (fun hq5 => ?_) (fun hq5 => ?_)
        · replace h := x_iff hq5 h
          exact tX7_earliestFor_61 hg  C  ih _ _ _ _  h
        · replace h := x_ift hq5 h
          refine x_aload_n C 0 rfl rfl dX7_earliestFor_32 ?_
          refine x_get C (c := 89) (ci := 7) (k1 := 3) (v1 := .ref (ga g 93)) (enC_7 (c := 89) rfl) (Nat.le_of_ble_eq_true rfl) rfl inX7 (by decide) wf_X7_21 rfl dX7_earliestFor_33 ?_
          refine x_iload_n C 3 rfl rfl dX7_earliestFor_36 ?_
          refine x_iconst C (v1 := 1) dX7_earliestFor_37 (by decide) ?_
          obtain ⟨hi6, h⟩ := h
          refine x_iast C 0 (c := 93) (enC_20n (c := 93) (n := 100) rfl rfl) (Nat.le_of_ble_eq_true rfl) rfl hi6 dX7_earliestFor_38 ?_
          refine x_nmM (fun M7 eM7 => ?_)
          replace h := h M7 eM7
          refine x_iconst C (v1 := 1) dX7_earliestFor_39 (by decide) ?_
          refine x_aload_n C 0 rfl rfl dX7_earliestFor_40 ?_
          refine x_iload_n C 1 rfl rfl dX7_earliestFor_41 ?_
          refine x_iconst C (v1 := 1) dX7_earliestFor_42 (by decide) ?_
          refine x_iadd C dX7_earliestFor_43 ?_
          refine x_callV C (st := [.int 1]) (As := [.int (x1 + 1)]) (c := 89) (ci := 7) (enC_7 (c := 89) rfl) (Nat.le_of_ble_eq_true rfl) rfl (tX7_mostFrom hg _ _ _ _  h) wm_X7_43 wi_X7_mostFrom wv_X7_mostFrom wz_X7 wc_X7_mostFrom rfl yd_X7_mostFrom rfl ⟨rfl, rfl⟩ ⟨Nat.le_of_ble_eq_true rfl, Nat.le_of_ble_eq_true rfl⟩ (Nat.le_of_ble_eq_true rfl) rfl dX7_earliestFor_44 (x_ki (fun r9 M8 h => ?_))
          refine x_iadd C dX7_earliestFor_47 ?_
          refine x_iload_n C 2 rfl rfl dX7_earliestFor_48 ?_
          refine x_icmp_lt C (tgt := 54) dX7_earliestFor_49 (by decide) (fun hq10 => ?_) (fun hq10 => ?_)
          · replace h := x_ift hq10 h
            refine x_aload_n C 0 rfl rfl dX7_earliestFor_54 ?_
            refine x_get C (c := 89) (ci := 7) (k1 := 3) (v1 := .ref (ga g 93)) (enC_7 (c := 89) rfl) (Nat.le_of_ble_eq_true rfl) rfl inX7 (by decide) wf_X7_21 rfl dX7_earliestFor_55 ?_
            refine x_iload_n C 3 rfl rfl dX7_earliestFor_58 ?_
            refine x_iconst C (v1 := 0) dX7_earliestFor_59 (by decide) ?_
            obtain ⟨hi11, h⟩ := h
            refine x_iast C 0 (c := 93) (enC_20n (c := 93) (n := 100) rfl rfl) (Nat.le_of_ble_eq_true rfl) rfl hi11 dX7_earliestFor_60 ?_
            refine x_nmM (fun M12 eM12 => ?_)
            replace h := h M12 eM12
            exact tX7_earliestFor_61 hg  C  ih _ _ _ _  h
          · replace h := x_iff hq10 h
            refine x_iload_n C 3 rfl rfl dX7_earliestFor_52 ?_
            exact x_iret C dX7_earliestFor_53 ⟨_, rfl, h⟩
set_option maxHeartbeats 4000000 in
set_option maxRecDepth 100000 in
theorem tX7_earliestFor {g : xG} (hg : x_inj (WC g))  (l : Launch) (a0 : Int32) (a1 : Int32) (M : xMem) (post : Int32 → xMem → Prop)  (h : wX7_earliestFor a0 a1 M post) : xMet (WC g) l yX7_earliestFor cX7_earliestFor 4 (some .int) (rm_X7_earliestFor) [.ref (ga g 89), .int a0, .int a1] M (pI post) := by
  refine x_enter (own := RX7) (L0 := [(0, .ref (ga g 89)), (1, .int a0), (2, .int a1)]) (by decide +kernel) rfl hg (x_stC g) (Nat.le_of_ble_eq_true rfl) rfl (fun x hl C => ?_)
  unfold wX7_earliestFor at h
  refine x_aload_n C 0 rfl rfl dX7_earliestFor_0 ?_
  refine x_get C (c := 89) (ci := 7) (k1 := 0) (v1 := .ref (ga g 90)) (enC_7 (c := 89) rfl) (Nat.le_of_ble_eq_true rfl) rfl inX7 (by decide) wf_X7_9 rfl dX7_earliestFor_1 ?_
  refine x_iload_n C 1 rfl rfl dX7_earliestFor_4 ?_
  obtain ⟨hi1, h⟩ := h
  refine x_iald C 0 (c := 90) (enC_20n (c := 90) (n := 8) rfl rfl) (Nat.le_of_ble_eq_true rfl) rfl hi1 dX7_earliestFor_5 ?_
  refine x_nm (fun v2 ev2 => ?_)
  replace h := h v2 ev2
  refine x_istore_n C (L' := [(3, .int v2), (0, .ref (ga g 89)), (1, .int a0), (2, .int a1)]) rfl rfl (Nat.le_of_ble_eq_true rfl) dX7_earliestFor_6 ?_
  refine x_loc (L' := [(0, .ref (ga g 89)), (1, .int a0), (2, .int a1), (3, .int v2)]) [1, 2, 3, 0] rfl ?_
  obtain ⟨n7, h⟩ := h
  exact tX7_earliestFor_7 hg  C   _ _ _ _ _  h
set_option maxHeartbeats 4000000 in
set_option maxRecDepth 100000 in
theorem tX7_solve_61 {g : xG} (hg : x_inj (WC g))  {x : xCx}  {K24 : Int32 → Int32 → xMem → Prop} {post : xMem → Prop} (C : xOk (WC g) x cX7_solve RX7 3 none (rm_X7_solve) (pV post))  (hK24 : ∀ (x1 : Int32) (x2 : Int32) (M : xMem), K24 x1 x2 M → xW (WC g) x 3 24 [(0, .ref (ga g 89)), (1, .int x1), (2, .int x2)] [] M) (x2 : Int32) (s0 : Int32) (s1 : Int32) (M : xMem)  (h : wX7_solve_61 K24 post x2 s0 s1 M) : xW (WC g) x 3 61 [(0, .ref (ga g 89)), (2, .int x2)] [.int s0, .int s1] M := by
  unfold wX7_solve_61 at h
  refine x_isub C dX7_solve_61 ?_
  refine x_nm (fun v1 ev1 => ?_)
  replace h := h v1 ev1
  refine x_istore_n C (L' := [(1, .int v1), (0, .ref (ga g 89)), (2, .int x2)]) rfl rfl (Nat.le_of_ble_eq_true rfl) dX7_solve_62 ?_
  obtain ⟨v2, ev2⟩ : ∃ z : Int32, z = x2 + 1 := ⟨_, rfl⟩
  replace h := h v2 ev2
  refine x_iinc C 2 (v1 := v2) (L' := [(2, .int v2), (1, .int v1), (0, .ref (ga g 89))]) rfl (by rw [ev2]; rfl) rfl (Nat.le_of_ble_eq_true rfl) dX7_solve_63 ?_
  refine x_goto C (tgt := 24) dX7_solve_66 (by decide) ?_
  refine x_loc (L' := [(0, .ref (ga g 89)), (1, .int v1), (2, .int v2)]) [2, 1, 0] rfl ?_
  exact hK24 _ _ _  h
set_option maxHeartbeats 4000000 in
set_option maxRecDepth 100000 in
theorem tX7_solve_24 {g : xG} (hg : x_inj (WC g))  {x : xCx}   {post : xMem → Prop} (C : xOk (WC g) x cX7_solve RX7 3 none (rm_X7_solve) (pV post))   : ∀ (n : Nat) (x1 : Int32) (x2 : Int32) (M : xMem), wX7_solve_24 post n x1 x2 M → xW (WC g) x 3 24 [(0, .ref (ga g 89)), (1, .int x1), (2, .int x2)] [] M := by
  intro n
  induction n with
  | zero =>
    intro x1 x2 M  h
    exact h.elim
  | succ n ih =>
    intro x1 x2 M  h
    rw [wX7_solve_24] at h
    refine x_iload_n C 2 rfl rfl dX7_solve_24 ?_
    refine x_aload_n C 0 rfl rfl dX7_solve_25 ?_
    refine x_get C (c := 89) (ci := 7) (k1 := 4) (v1 := .int (gi M 89 4)) (enC_7 (c := 89) rfl) (Nat.le_of_ble_eq_true rfl) rfl inX7 (by decide) wf_X7_24 rfl dX7_solve_26 ?_
    refine x_icmp_ge C (tgt := 69) dX7_solve_29 (by decide) (fun hq1 => ?_) (fun hq1 => ?_)
    · replace h := x_ift hq1 h
      exact x_vret C dX7_solve_69 ⟨rfl, h⟩
    · replace h := x_iff hq1 h
      refine x_aload_n C 0 rfl rfl dX7_solve_32 ?_
      refine x_get C (c := 89) (ci := 7) (k1 := 2) (v1 := .ref (ga g 92)) (enC_7 (c := 89) rfl) (Nat.le_of_ble_eq_true rfl) rfl inX7 (by decide) wf_X7_18 rfl dX7_solve_33 ?_
      refine x_iload_n C 2 rfl rfl dX7_solve_36 ?_
      refine x_aload_n C 0 rfl rfl dX7_solve_37 ?_
      refine x_iload_n C 2 rfl rfl dX7_solve_38 ?_
      refine x_iload_n C 1 rfl rfl dX7_solve_39 ?_
      refine x_callV C (st := [.int x2, .ref (ga g 92)]) (As := [.int x2, .int x1]) (c := 89) (ci := 7) (enC_7 (c := 89) rfl) (Nat.le_of_ble_eq_true rfl) rfl (tX7_earliestFor hg _ _ _ _ _  h) wm_X7_47 wi_X7_earliestFor wv_X7_earliestFor wz_X7 wc_X7_earliestFor rfl yd_X7_earliestFor rfl ⟨rfl, rfl⟩ ⟨Nat.le_of_ble_eq_true rfl, Nat.le_of_ble_eq_true rfl⟩ (Nat.le_of_ble_eq_true rfl) rfl dX7_solve_40 (x_ki (fun r3 M2 h => ?_))
      obtain ⟨hi4, h⟩ := h
      refine x_iast C 0 (c := 92) (enC_20n (c := 92) (n := 8) rfl rfl) (Nat.le_of_ble_eq_true rfl) rfl hi4 dX7_solve_43 ?_
      refine x_nmM (fun M5 eM5 => ?_)
      replace h := h M5 eM5
      refine x_iload_n C 1 rfl rfl dX7_solve_44 ?_
      refine x_aload_n C 0 rfl rfl dX7_solve_45 ?_
      refine x_get C (c := 89) (ci := 7) (k1 := 2) (v1 := .ref (ga g 92)) (enC_7 (c := 89) rfl) (Nat.le_of_ble_eq_true rfl) rfl inX7 (by decide) wf_X7_18 rfl dX7_solve_46 ?_
      refine x_iload_n C 2 rfl rfl dX7_solve_49 ?_
      obtain ⟨hi6, h⟩ := h
      refine x_iald C 0 (c := 92) (enC_20n (c := 92) (n := 8) rfl rfl) (Nat.le_of_ble_eq_true rfl) rfl hi6 dX7_solve_50 ?_
      refine x_bipush C (v1 := 100) dX7_solve_51 (by decide) ?_
      refine x_icmp_ne C (tgt := 60) dX7_solve_53 (by decide) (fun hq7 => ?_) (fun hq7 => ?_)
      · replace h := x_iff hq7 h
        refine x_iconst C (v1 := 1) dX7_solve_60 (by decide) ?_
        refine x_loc (L' := [(0, .ref (ga g 89)), (2, .int x2)]) [0, 2] rfl ?_
        exact tX7_solve_61 hg  C  ih _ _ _ _  h
      · replace h := x_ift hq7 h
        refine x_iconst C (v1 := 0) dX7_solve_56 (by decide) ?_
        refine x_goto C (tgt := 61) dX7_solve_57 (by decide) ?_
        refine x_loc (L' := [(0, .ref (ga g 89)), (2, .int x2)]) [0, 2] rfl ?_
        exact tX7_solve_61 hg  C  ih _ _ _ _  h
set_option maxHeartbeats 4000000 in
set_option maxRecDepth 100000 in
theorem tX7_solve {g : xG} (hg : x_inj (WC g))  (l : Launch)  (M : xMem) (post : xMem → Prop)  (h : wX7_solve  M post) : xMet (WC g) l yX7_solve cX7_solve 3 none (rm_X7_solve) [.ref (ga g 89)] M (pV post) := by
  refine x_enter (own := RX7) (L0 := [(0, .ref (ga g 89))]) (by decide +kernel) rfl hg (x_stC g) (Nat.le_of_ble_eq_true rfl) rfl (fun x hl C => ?_)
  unfold wX7_solve at h
  refine x_aload_n C 0 rfl rfl dX7_solve_0 ?_
  refine x_get C (c := 89) (ci := 7) (k1 := 3) (v1 := .ref (ga g 93)) (enC_7 (c := 89) rfl) (Nat.le_of_ble_eq_true rfl) rfl inX7 (by decide) wf_X7_21 rfl dX7_solve_1 ?_
  refine x_iconst C (v1 := 0) dX7_solve_4 (by decide) ?_
  refine x_callS C (st := []) (As := [.ref (ga g 93), .int 0]) (tJ7_fill_53178 hg _ _ _ _ _ rfl h) wm_X7_37 wsm_J7_fill_53178 wz_J7 wc_J7_fill_53178 yd_J7_fill_53178 rfl ⟨rfl, rfl⟩ ⟨Nat.le_of_ble_eq_true rfl, Nat.le_of_ble_eq_true rfl⟩ (Nat.le_of_ble_eq_true rfl) rfl dX7_solve_5 (x_kv (fun M1 h => ?_))
  refine x_aload_n C 0 rfl rfl dX7_solve_8 ?_
  refine x_aload_n C 0 rfl rfl dX7_solve_9 ?_
  refine x_iconst C (v1 := 0) dX7_solve_10 (by decide) ?_
  refine x_callV C (st := [.ref (ga g 89)]) (As := [.int 0]) (c := 89) (ci := 7) (enC_7 (c := 89) rfl) (Nat.le_of_ble_eq_true rfl) rfl (tX7_mostFrom hg _ _ _ _  h) wm_X7_43 wi_X7_mostFrom wv_X7_mostFrom wz_X7 wc_X7_mostFrom rfl yd_X7_mostFrom rfl ⟨rfl, rfl⟩ ⟨Nat.le_of_ble_eq_true rfl, Nat.le_of_ble_eq_true rfl⟩ (Nat.le_of_ble_eq_true rfl) rfl dX7_solve_11 (x_ki (fun r3 M2 h => ?_))
  refine x_put C (c := 89) (ci := 7) (k1 := 5) (u1 := r3) (v1 := .int r3) (ty := .int) (enC_7 (c := 89) rfl) (Nat.le_of_ble_eq_true rfl) rfl inX7 (by decide) (stX7_5 _ _ _) tyX7 tyX7_ok nmX7 wf_X7_28 rfl rfl rfl rfl (Nat.le_of_ble_eq_true rfl) dX7_solve_14 ?_
  refine x_nmM (fun M4 eM4 => ?_)
  replace h := h M4 eM4
  refine x_aload_n C 0 rfl rfl dX7_solve_17 ?_
  refine x_get C (c := 89) (ci := 7) (k1 := 5) (v1 := .int (gi M4 89 5)) (enC_7 (c := 89) rfl) (Nat.le_of_ble_eq_true rfl) rfl inX7 (by decide) wf_X7_28 rfl dX7_solve_18 ?_
  refine x_nm (fun v5 ev5 => ?_)
  replace h := h v5 ev5
  refine x_istore_n C (L' := [(1, .int v5), (0, .ref (ga g 89))]) rfl rfl (Nat.le_of_ble_eq_true rfl) dX7_solve_21 ?_
  refine x_iconst C (v1 := 0) dX7_solve_22 (by decide) ?_
  refine x_istore_n C (L' := [(2, .int 0), (1, .int v5), (0, .ref (ga g 89))]) rfl rfl (Nat.le_of_ble_eq_true rfl) dX7_solve_23 ?_
  refine x_loc (L' := [(0, .ref (ga g 89)), (1, .int v5), (2, .int 0)]) [2, 1, 0] rfl ?_
  obtain ⟨n24, h⟩ := h
  exact tX7_solve_24 hg  C   _ _ _ _  h
set_option maxHeartbeats 4000000 in
set_option maxRecDepth 100000 in
theorem tX7_take_12 {g : xG} (hg : x_inj (WC g))  {x : xCx}   {post : Int32 → xMem → Prop} (C : xOk (WC g) x cX7_take RX7 4 (some .boolean) (rm_X7_take) (pI post))   : ∀ (n : Nat) (x3 : Int32) (M : xMem), wX7_take_12 post n x3 M → xW (WC g) x 4 12 [(0, .ref (ga g 89)), (1, .ref (ga g 1)), (3, .int x3)] [] M := by
  intro n
  induction n with
  | zero =>
    intro x3 M  h
    exact h.elim
  | succ n ih =>
    intro x3 M  h
    rw [wX7_take_12] at h
    refine x_iload_n C 2 rfl rfl dX7_take_12 ?_
    refine x_aload_n C 0 rfl rfl dX7_take_13 ?_
    refine x_get C (c := 89) (ci := 7) (k1 := 4) (v1 := .int (gi M 89 4)) (enC_7 (c := 89) rfl) (Nat.le_of_ble_eq_true rfl) rfl inX7 (by decide) wf_X7_24 rfl dX7_take_14 ?_
    refine x_icmp_ge C (tgt := 77) dX7_take_17 (by decide) (fun hq1 => ?_) (fun hq1 => ?_)
    · replace h := x_ift hq1 h
      refine x_iconst C (v1 := 1) dX7_take_77 (by decide) ?_
      exact x_zret C rfl dX7_take_78 ⟨_, rfl, h⟩
    · replace h := x_iff hq1 h
      refine x_iconst C (v1 := 2) dX7_take_20 (by decide) ?_
      refine x_iload_n C 2 rfl rfl dX7_take_21 ?_
      refine x_imul C dX7_take_22 ?_
      refine x_iconst C (v1 := 1) dX7_take_23 (by decide) ?_
      refine x_iadd C dX7_take_24 ?_
      refine x_aload_n C 1 rfl rfl dX7_take_25 ?_
      refine x_aleni C (c := 1) (v1 := 260) (enC_20n (c := 1) (n := 260) rfl rfl) (Nat.le_of_ble_eq_true rfl) rfl rfl dX7_take_26 ?_
      refine x_icmp_ge C (tgt := 77) dX7_take_27 (by decide) (fun hq2 => ?_) (fun hq2 => ?_)
      · replace h := x_ift hq2 h
        refine x_iconst C (v1 := 1) dX7_take_77 (by decide) ?_
        exact x_zret C rfl dX7_take_78 ⟨_, rfl, h⟩
      · replace h := x_iff hq2 h
        refine x_aload_n C 0 rfl rfl dX7_take_30 ?_
        refine x_get C (c := 89) (ci := 7) (k1 := 0) (v1 := .ref (ga g 90)) (enC_7 (c := 89) rfl) (Nat.le_of_ble_eq_true rfl) rfl inX7 (by decide) wf_X7_9 rfl dX7_take_31 ?_
        refine x_iload_n C 2 rfl rfl dX7_take_34 ?_
        refine x_aload_n C 1 rfl rfl dX7_take_35 ?_
        refine x_iconst C (v1 := 2) dX7_take_36 (by decide) ?_
        refine x_iload_n C 2 rfl rfl dX7_take_37 ?_
        refine x_imul C dX7_take_38 ?_
        obtain ⟨hi3, h⟩ := h
        refine x_iald C 0 (c := 1) (enC_20n (c := 1) (n := 260) rfl rfl) (Nat.le_of_ble_eq_true rfl) rfl hi3 dX7_take_39 ?_
        obtain ⟨hi4, h⟩ := h
        refine x_iast C 0 (c := 90) (enC_20n (c := 90) (n := 8) rfl rfl) (Nat.le_of_ble_eq_true rfl) rfl hi4 dX7_take_40 ?_
        refine x_nmM (fun M5 eM5 => ?_)
        replace h := h M5 eM5
        refine x_aload_n C 0 rfl rfl dX7_take_41 ?_
        refine x_get C (c := 89) (ci := 7) (k1 := 1) (v1 := .ref (ga g 91)) (enC_7 (c := 89) rfl) (Nat.le_of_ble_eq_true rfl) rfl inX7 (by decide) wf_X7_15 rfl dX7_take_42 ?_
        refine x_iload_n C 2 rfl rfl dX7_take_45 ?_
        refine x_aload_n C 1 rfl rfl dX7_take_46 ?_
        refine x_iconst C (v1 := 2) dX7_take_47 (by decide) ?_
        refine x_iload_n C 2 rfl rfl dX7_take_48 ?_
        refine x_imul C dX7_take_49 ?_
        refine x_iconst C (v1 := 1) dX7_take_50 (by decide) ?_
        refine x_iadd C dX7_take_51 ?_
        obtain ⟨hi6, h⟩ := h
        refine x_iald C 0 (c := 1) (enC_20n (c := 1) (n := 260) rfl rfl) (Nat.le_of_ble_eq_true rfl) rfl hi6 dX7_take_52 ?_
        obtain ⟨hi7, h⟩ := h
        refine x_iast C 0 (c := 91) (enC_20n (c := 91) (n := 8) rfl rfl) (Nat.le_of_ble_eq_true rfl) rfl hi7 dX7_take_53 ?_
        refine x_nmM (fun M8 eM8 => ?_)
        replace h := h M8 eM8
        refine x_aload_n C 0 rfl rfl dX7_take_54 ?_
        refine x_get C (c := 89) (ci := 7) (k1 := 1) (v1 := .ref (ga g 91)) (enC_7 (c := 89) rfl) (Nat.le_of_ble_eq_true rfl) rfl inX7 (by decide) wf_X7_15 rfl dX7_take_55 ?_
        refine x_iload_n C 2 rfl rfl dX7_take_58 ?_
        obtain ⟨hi9, h⟩ := h
        refine x_iald C 0 (c := 91) (enC_20n (c := 91) (n := 8) rfl rfl) (Nat.le_of_ble_eq_true rfl) rfl hi9 dX7_take_59 ?_
        refine x_aload_n C 0 rfl rfl dX7_take_60 ?_
        refine x_get C (c := 89) (ci := 7) (k1 := 0) (v1 := .ref (ga g 90)) (enC_7 (c := 89) rfl) (Nat.le_of_ble_eq_true rfl) rfl inX7 (by decide) wf_X7_9 rfl dX7_take_61 ?_
        refine x_iload_n C 2 rfl rfl dX7_take_64 ?_
        obtain ⟨hi10, h⟩ := h
        refine x_iald C 0 (c := 90) (enC_20n (c := 90) (n := 8) rfl rfl) (Nat.le_of_ble_eq_true rfl) rfl hi10 dX7_take_65 ?_
        refine x_icmp_ge C (tgt := 71) dX7_take_66 (by decide) (fun hq11 => ?_) (fun hq11 => ?_)
        · replace h := x_ift hq11 h
          obtain ⟨v12, ev12⟩ : ∃ z : Int32, z = x3 + 1 := ⟨_, rfl⟩
          replace h := h v12 ev12
          refine x_iinc C 2 (v1 := v12) (L' := [(3, .int v12), (0, .ref (ga g 89)), (1, .ref (ga g 1))]) rfl (by rw [ev12]; rfl) rfl (Nat.le_of_ble_eq_true rfl) dX7_take_71 ?_
          refine x_goto C (tgt := 12) dX7_take_74 (by decide) ?_
          refine x_loc (L' := [(0, .ref (ga g 89)), (1, .ref (ga g 1)), (3, .int v12)]) [1, 2, 0] rfl ?_
          exact ih _ _  h
        · replace h := x_iff hq11 h
          refine x_iconst C (v1 := 0) dX7_take_69 (by decide) ?_
          exact x_zret C rfl dX7_take_70 ⟨_, rfl, h⟩
set_option maxHeartbeats 4000000 in
set_option maxRecDepth 100000 in
theorem tX7_take {g : xG} (hg : x_inj (WC g))  (l : Launch) (a1 : Int32) (M : xMem) (post : Int32 → xMem → Prop)  (h : wX7_take a1 M post) : xMet (WC g) l yX7_take cX7_take 4 (some .boolean) (rm_X7_take) [.ref (ga g 89), .ref (ga g 1), .int a1] M (pI post) := by
  refine x_enter (own := RX7) (L0 := [(0, .ref (ga g 89)), (1, .ref (ga g 1)), (2, .int a1)]) (by decide +kernel) rfl hg (x_stC g) (Nat.le_of_ble_eq_true rfl) rfl (fun x hl C => ?_)
  unfold wX7_take at h
  refine x_aload_n C 0 rfl rfl dX7_take_0 ?_
  refine x_iload_n C 2 rfl rfl dX7_take_1 ?_
  refine x_bipush C (v1 := 8) dX7_take_2 (by decide) ?_
  refine x_callS C (st := [.ref (ga g 89)]) (As := [.int a1, .int 8]) (tJ9_min_7cf53 hg _ _ _ _ _  h) wm_X7_31 wsm_J9_min_7cf53 wz_J9 wc_J9_min_7cf53 yd_J9_min_7cf53 rfl ⟨rfl, rfl⟩ ⟨Nat.le_of_ble_eq_true rfl, Nat.le_of_ble_eq_true rfl⟩ (Nat.le_of_ble_eq_true rfl) rfl dX7_take_4 (x_ki (fun r2 M1 h => ?_))
  refine x_put C (c := 89) (ci := 7) (k1 := 4) (u1 := r2) (v1 := .int r2) (ty := .int) (enC_7 (c := 89) rfl) (Nat.le_of_ble_eq_true rfl) rfl inX7 (by decide) (stX7_4 _ _ _) tyX7 tyX7_ok nmX7 wf_X7_24 rfl rfl rfl rfl (Nat.le_of_ble_eq_true rfl) dX7_take_7 ?_
  refine x_nmM (fun M3 eM3 => ?_)
  replace h := h M3 eM3
  refine x_iconst C (v1 := 0) dX7_take_10 (by decide) ?_
  refine x_istore_n C (L' := [(3, .int 0), (0, .ref (ga g 89)), (1, .ref (ga g 1)), (2, .int a1)]) rfl rfl (Nat.le_of_ble_eq_true rfl) dX7_take_11 ?_
  refine x_loc (L' := [(0, .ref (ga g 89)), (1, .ref (ga g 1)), (3, .int 0)]) [1, 2, 0] rfl ?_
  obtain ⟨n12, h⟩ := h
  exact tX7_take_12 hg  C   _ _ _  h
set_option maxHeartbeats 4000000 in
set_option maxRecDepth 100000 in
theorem tX11_lent_79 {g : xG} (hg : x_inj (WC g))  {x : xCx}   {post : Int32 → xMem → Prop} (C : xOk (WC g) x cX11_lent RX11 4 (some .int) (rm_X11_lent) (pI post))   (x2 : Int32) (x3 : Int32) (M : xMem)  (h : wX11_lent_79 post x2 x3 M) : xW (WC g) x 4 79 [(0, .ref (ga g 0)), (2, .int x2), (3, .int x3)] [] M := by
  unfold wX11_lent_79 at h
  refine x_aload_n C 0 rfl rfl dX11_lent_79 ?_
  refine x_get C (c := 0) (ci := 11) (k1 := 16) (v1 := .ref (ga g 89)) (enC_11 (c := 0) rfl) (Nat.le_of_ble_eq_true rfl) rfl inX11 (by decide) wf_X11_106 rfl dX11_lent_80 ?_
  refine x_callVN C (st := []) (As := []) (c := 89) (ci := 7) (enC_7 (c := 89) rfl) (Nat.le_of_ble_eq_true rfl) rfl (tX7_solve hg _  _ _  h) wmn_X11_336 wi_X7_solve wv_X7_solve wz_X7 wc_X7_solve yd_X7_solve rfl ⟨rfl, rfl⟩ ⟨Nat.le_of_ble_eq_true rfl, Nat.le_of_ble_eq_true rfl⟩ (Nat.le_of_ble_eq_true rfl) rfl dX11_lent_83 (x_kv (fun M1 h => ?_))
  refine x_iload_n C 2 rfl rfl dX11_lent_86 ?_
  refine x_if_eq C (tgt := 102) dX11_lent_87 (by decide) (fun hq2 => ?_) (fun hq2 => ?_)
  · replace h := x_ift hq2 h
    refine x_aload_n C 0 rfl rfl dX11_lent_102 ?_
    refine x_get C (c := 0) (ci := 11) (k1 := 16) (v1 := .ref (ga g 89)) (enC_11 (c := 0) rfl) (Nat.le_of_ble_eq_true rfl) rfl inX11 (by decide) wf_X11_106 rfl dX11_lent_103 ?_
    refine x_getN C (c := 89) (ci := 7) (k1 := 5) (v1 := .int (gi M1 89 5)) (enC_7 (c := 89) rfl) (Nat.le_of_ble_eq_true rfl) rfl inX7 (by decide) wfn_X11_341 rfl dX11_lent_106 ?_
    exact x_iret C dX11_lent_109 ⟨_, rfl, h⟩
  · replace h := x_iff hq2 h
    refine x_aload_n C 0 rfl rfl dX11_lent_90 ?_
    refine x_get C (c := 0) (ci := 11) (k1 := 16) (v1 := .ref (ga g 89)) (enC_11 (c := 0) rfl) (Nat.le_of_ble_eq_true rfl) rfl inX11 (by decide) wf_X11_106 rfl dX11_lent_91 ?_
    refine x_getN C (c := 89) (ci := 7) (k1 := 2) (v1 := .ref (ga g 92)) (enC_7 (c := 89) rfl) (Nat.le_of_ble_eq_true rfl) rfl inX7 (by decide) wfn_X11_338 rfl dX11_lent_94 ?_
    refine x_iload_n C 1 rfl rfl dX11_lent_97 ?_
    obtain ⟨hi3, h⟩ := h
    refine x_iald C 0 (c := 92) (enC_20n (c := 92) (n := 8) rfl rfl) (Nat.le_of_ble_eq_true rfl) rfl hi3 dX11_lent_98 ?_
    refine x_goto C (tgt := 109) dX11_lent_99 (by decide) ?_
    exact x_iret C dX11_lent_109 ⟨_, rfl, h⟩
set_option maxHeartbeats 4000000 in
set_option maxRecDepth 100000 in
theorem tX11_lent {g : xG} (hg : x_inj (WC g))  (l : Launch) (a0 : Int32) (a1 : Int32) (M : xMem) (post : Int32 → xMem → Prop)  (h : wX11_lent a0 a1 M post) : xMet (WC g) l yX11_lent cX11_lent 4 (some .int) (rm_X11_lent) [.ref (ga g 0), .int a0, .int a1] M (pI post) := by
  refine x_enter (own := RX11) (L0 := [(0, .ref (ga g 0)), (1, .int a0), (2, .int a1)]) (by decide +kernel) rfl hg (x_stC g) (Nat.le_of_ble_eq_true rfl) rfl (fun x hl C => ?_)
  unfold wX11_lent at h
  refine x_iload_n C 1 rfl rfl dX11_lent_0 ?_
  refine x_iconst C (v1 := 1) dX11_lent_1 (by decide) ?_
  refine x_bipush C (v1 := 8) dX11_lent_2 (by decide) ?_
  refine x_callS C (st := []) (As := [.int a0, .int 1, .int 8]) (tX11_isWithin hg _ _ _ _ _ _  h) wm_X11_145 wsm_X11_isWithin wz_X11 wc_X11_isWithin yd_X11_isWithin rfl ⟨rfl, rfl⟩ ⟨Nat.le_of_ble_eq_true rfl, Nat.le_of_ble_eq_true rfl⟩ (Nat.le_of_ble_eq_true rfl) rfl dX11_lent_4 (x_ki (fun r2 M1 h => ?_))
  refine x_if_eq C (tgt := 20) dX11_lent_7 (by decide) (fun hq3 => ?_) (fun hq3 => ?_)
  · replace h := x_ift hq3 h
    refine x_iconst C (v1 := (-1)) dX11_lent_20 (by decide) ?_
    exact x_iret C dX11_lent_21 ⟨_, rfl, h⟩
  · replace h := x_iff hq3 h
    refine x_iconst C (v1 := 2) dX11_lent_10 (by decide) ?_
    refine x_iload_n C 1 rfl rfl dX11_lent_11 ?_
    refine x_imul C dX11_lent_12 ?_
    refine x_aload_n C 0 rfl rfl dX11_lent_13 ?_
    refine x_get C (c := 0) (ci := 11) (k1 := 1) (v1 := .int (gi M1 0 1)) (enC_11 (c := 0) rfl) (Nat.le_of_ble_eq_true rfl) rfl inX11 (by decide) wf_X11_13 rfl dX11_lent_14 ?_
    refine x_icmp_le C (tgt := 22) dX11_lent_17 (by decide) (fun hq4 => ?_) (fun hq4 => ?_)
    · replace h := x_ift hq4 h
      refine x_aload_n C 0 rfl rfl dX11_lent_22 ?_
      refine x_iconst C (v1 := 0) dX11_lent_23 (by decide) ?_
      refine x_put C (c := 0) (ci := 11) (k1 := 1) (u1 := 0) (v1 := .int 0) (ty := .int) (enC_11 (c := 0) rfl) (Nat.le_of_ble_eq_true rfl) rfl inX11 (by decide) (stX11_1 _ _ _) tyX11 tyX11_ok nmX11 wf_X11_13 rfl rfl rfl rfl (Nat.le_of_ble_eq_true rfl) dX11_lent_24 ?_
      refine x_nmM (fun M5 eM5 => ?_)
      replace h := h M5 eM5
      refine x_aload_n C 0 rfl rfl dX11_lent_27 ?_
      refine x_iconst C (v1 := 2) dX11_lent_28 (by decide) ?_
      refine x_iload_n C 1 rfl rfl dX11_lent_29 ?_
      refine x_imul C dX11_lent_30 ?_
      refine x_bipush C (v1 := 99) dX11_lent_31 (by decide) ?_
      refine x_callV C (st := []) (As := [.int (2 * a0), .int 99]) (c := 0) (ci := 11) (enC_11 (c := 0) rfl) (Nat.le_of_ble_eq_true rfl) rfl (tX11_tapeIsWithin hg _ _ _ _ _  h) wm_X11_317 wi_X11_tapeIsWithin wv_X11_tapeIsWithin wz_X11 wc_X11_tapeIsWithin rfl yd_X11_tapeIsWithin rfl ⟨rfl, rfl⟩ ⟨Nat.le_of_ble_eq_true rfl, Nat.le_of_ble_eq_true rfl⟩ (Nat.le_of_ble_eq_true rfl) rfl dX11_lent_33 (x_ki (fun r7 M6 h => ?_))
      refine x_if_eq C (tgt := 54) dX11_lent_36 (by decide) (fun hq8 => ?_) (fun hq8 => ?_)
      · replace h := x_ift hq8 h
        refine x_bipush C (v1 := (-2)) dX11_lent_54 (by decide) ?_
        exact x_iret C dX11_lent_56 ⟨_, rfl, h⟩
      · replace h := x_iff hq8 h
        refine x_aload_n C 0 rfl rfl dX11_lent_39 ?_
        refine x_get C (c := 0) (ci := 11) (k1 := 16) (v1 := .ref (ga g 89)) (enC_11 (c := 0) rfl) (Nat.le_of_ble_eq_true rfl) rfl inX11 (by decide) wf_X11_106 rfl dX11_lent_40 ?_
        refine x_aload_n C 0 rfl rfl dX11_lent_43 ?_
        refine x_get C (c := 0) (ci := 11) (k1 := 0) (v1 := .ref (ga g 1)) (enC_11 (c := 0) rfl) (Nat.le_of_ble_eq_true rfl) rfl inX11 (by decide) wf_X11_9 rfl dX11_lent_44 ?_
        refine x_iload_n C 1 rfl rfl dX11_lent_47 ?_
        refine x_callVN C (st := []) (As := [.ref (ga g 1), .int a0]) (c := 89) (ci := 7) (enC_7 (c := 89) rfl) (Nat.le_of_ble_eq_true rfl) rfl (tX7_take hg _ _ _ _  h) wmn_X11_333 wi_X7_take wv_X7_take wz_X7 wc_X7_take yd_X7_take rfl ⟨rfl, rfl⟩ ⟨Nat.le_of_ble_eq_true rfl, Nat.le_of_ble_eq_true rfl⟩ (Nat.le_of_ble_eq_true rfl) rfl dX11_lent_48 (x_ki (fun r10 M9 h => ?_))
        refine x_if_ne C (tgt := 57) dX11_lent_51 (by decide) (fun hq11 => ?_) (fun hq11 => ?_)
        · replace h := x_iff hq11 h
          refine x_iload_n C 2 rfl rfl dX11_lent_57 ?_
          refine x_iconst C (v1 := 0) dX11_lent_58 (by decide) ?_
          refine x_iload_n C 1 rfl rfl dX11_lent_59 ?_
          refine x_iconst C (v1 := 1) dX11_lent_60 (by decide) ?_
          refine x_isub C dX11_lent_61 ?_
          refine x_callS C (st := []) (As := [.int a1, .int 0, .int (a0 - 1)]) (tX11_isWithin hg _ _ _ _ _ _  h) wm_X11_145 wsm_X11_isWithin wz_X11 wc_X11_isWithin yd_X11_isWithin rfl ⟨rfl, rfl⟩ ⟨Nat.le_of_ble_eq_true rfl, Nat.le_of_ble_eq_true rfl⟩ (Nat.le_of_ble_eq_true rfl) rfl dX11_lent_62 (x_ki (fun r13 M12 h => ?_))
          refine x_istore_n C (L' := [(3, .int r13), (0, .ref (ga g 0)), (1, .int a0), (2, .int a1)]) rfl rfl (Nat.le_of_ble_eq_true rfl) dX11_lent_65 ?_
          refine x_iload_n C 0 rfl rfl dX11_lent_66 ?_
          refine x_if_ne C (tgt := 79) dX11_lent_67 (by decide) (fun hq14 => ?_) (fun hq14 => ?_)
          · replace h := x_iff hq14 h
            refine x_loc (L' := [(0, .ref (ga g 0)), (2, .int a1), (3, .int r13)]) [1, 3, 0] rfl ?_
            exact tX11_lent_79 hg  C   _ _ _  h
          · replace h := x_ift hq14 h
            refine x_iload_n C 3 rfl rfl dX11_lent_70 ?_
            refine x_bipush C (v1 := 20) dX11_lent_71 (by decide) ?_
            refine x_icmp_eq C (tgt := 79) dX11_lent_73 (by decide) (fun hq15 => ?_) (fun hq15 => ?_)
            · replace h := x_ift hq15 h
              refine x_loc (L' := [(0, .ref (ga g 0)), (2, .int a1), (3, .int r13)]) [1, 3, 0] rfl ?_
              exact tX11_lent_79 hg  C   _ _ _  h
            · replace h := x_iff hq15 h
              refine x_bipush C (v1 := (-4)) dX11_lent_76 (by decide) ?_
              exact x_iret C dX11_lent_78 ⟨_, rfl, h⟩
        · replace h := x_ift hq11 h
          refine x_bipush C (v1 := (-2)) dX11_lent_54 (by decide) ?_
          exact x_iret C dX11_lent_56 ⟨_, rfl, h⟩
    · replace h := x_iff hq4 h
      refine x_iconst C (v1 := (-1)) dX11_lent_20 (by decide) ?_
      exact x_iret C dX11_lent_21 ⟨_, rfl, h⟩
set_option maxHeartbeats 4000000 in
set_option maxRecDepth 100000 in
theorem tX2_leftOf_81 {g : xG} (hg : x_inj (WC g))  {x : xCx}  {K6 : Int32 → Int32 → Int32 → Int32 → Int32 → xMem → Prop} {post : Int32 → xMem → Prop} (C : xOk (WC g) x cX2_leftOf RX2 8 (some .int) (rm_X2_leftOf) (pI post))  (hK6 : ∀ (x1 : Int32) (x2 : Int32) (x3 : Int32) (x4 : Int32) (x5 : Int32) (M : xMem), K6 x1 x2 x3 x4 x5 M → xW (WC g) x 8 6 [(0, .ref (ga g 41)), (1, .int x1), (2, .int x2), (3, .int x3), (4, .int x4), (5, .int x5)] [] M) (x1 : Int32) (x2 : Int32) (x3 : Int32) (x4 : Int32) (x5 : Int32) (M : xMem)  (h : wX2_leftOf_81 K6 post x1 x2 x3 x4 x5 M) : xW (WC g) x 8 81 [(0, .ref (ga g 41)), (1, .int x1), (2, .int x2), (3, .int x3), (4, .int x4), (5, .int x5)] [] M := by
  unfold wX2_leftOf_81 at h
  obtain ⟨v1, ev1⟩ : ∃ z : Int32, z = x5 + 1 := ⟨_, rfl⟩
  replace h := h v1 ev1
  refine x_iinc C 5 (v1 := v1) (L' := [(5, .int v1), (0, .ref (ga g 41)), (1, .int x1), (2, .int x2), (3, .int x3), (4, .int x4)]) rfl (by rw [ev1]; rfl) rfl (Nat.le_of_ble_eq_true rfl) dX2_leftOf_81 ?_
  refine x_goto C (tgt := 6) dX2_leftOf_84 (by decide) ?_
  refine x_loc (L' := [(0, .ref (ga g 41)), (1, .int x1), (2, .int x2), (3, .int x3), (4, .int x4), (5, .int v1)]) [1, 2, 3, 4, 5, 0] rfl ?_
  exact hK6 _ _ _ _ _ _  h
set_option maxHeartbeats 4000000 in
set_option maxRecDepth 100000 in
theorem tX2_leftOf_56 {g : xG} (hg : x_inj (WC g))  {x : xCx}  {K6 : Int32 → Int32 → Int32 → Int32 → Int32 → xMem → Prop} {post : Int32 → xMem → Prop} (C : xOk (WC g) x cX2_leftOf RX2 8 (some .int) (rm_X2_leftOf) (pI post))  (hK6 : ∀ (x1 : Int32) (x2 : Int32) (x3 : Int32) (x4 : Int32) (x5 : Int32) (M : xMem), K6 x1 x2 x3 x4 x5 M → xW (WC g) x 8 6 [(0, .ref (ga g 41)), (1, .int x1), (2, .int x2), (3, .int x3), (4, .int x4), (5, .int x5)] [] M) (x1 : Int32) (x2 : Int32) (x3 : Int32) (x4 : Int32) (x5 : Int32) (s0 : Int32) (M : xMem)  (h : wX2_leftOf_56 K6 post x1 x2 x3 x4 x5 s0 M) : xW (WC g) x 8 56 [(0, .ref (ga g 41)), (1, .int x1), (2, .int x2), (3, .int x3), (4, .int x4), (5, .int x5)] [.int s0] M := by
  unfold wX2_leftOf_56 at h
  refine x_istore C (L' := [(7, .int s0), (0, .ref (ga g 41)), (1, .int x1), (2, .int x2), (3, .int x3), (4, .int x4), (5, .int x5)]) rfl (Nat.le_of_ble_eq_true rfl) dX2_leftOf_56 ?_
  refine x_iload_n C 2 rfl rfl dX2_leftOf_58 ?_
  refine x_iload C 6 rfl dX2_leftOf_59 ?_
  refine x_callSN C (st := []) (As := [.int x1, .int x5]) (tX11_has hg _ _ _ _ _  h) wmn_X2_56 wsm_X11_has wz_X11 wc_X11_has yd_X11_has rfl ⟨rfl, rfl⟩ ⟨Nat.le_of_ble_eq_true rfl, Nat.le_of_ble_eq_true rfl⟩ (Nat.le_of_ble_eq_true rfl) rfl dX2_leftOf_61 (x_ki (fun r2 M1 h => ?_))
  refine x_if_eq C (tgt := 81) dX2_leftOf_64 (by decide) (fun hq3 => ?_) (fun hq3 => ?_)
  · replace h := x_ift hq3 h
    refine x_loc (L' := [(0, .ref (ga g 41)), (1, .int x1), (2, .int x2), (3, .int x3), (4, .int x4), (5, .int x5)]) [1, 2, 3, 4, 5, 6] rfl ?_
    exact tX2_leftOf_81 hg  C  hK6 _ _ _ _ _ _  h
  · replace h := x_iff hq3 h
    refine x_iload C 0 rfl dX2_leftOf_67 ?_
    refine x_if_eq C (tgt := 81) dX2_leftOf_69 (by decide) (fun hq4 => ?_) (fun hq4 => ?_)
    · replace h := x_ift hq4 h
      refine x_loc (L' := [(0, .ref (ga g 41)), (1, .int x1), (2, .int x2), (3, .int x3), (4, .int x4), (5, .int x5)]) [1, 2, 3, 4, 5, 6] rfl ?_
      exact tX2_leftOf_81 hg  C  hK6 _ _ _ _ _ _  h
    · replace h := x_iff hq4 h
      refine x_iload C 5 rfl dX2_leftOf_72 ?_
      refine x_iconst C (v1 := 1) dX2_leftOf_74 (by decide) ?_
      refine x_iload C 6 rfl dX2_leftOf_75 ?_
      refine x_ishl C dX2_leftOf_77 ?_
      refine x_ior C dX2_leftOf_78 ?_
      refine x_nm (fun v5 ev5 => ?_)
      replace h := h v5 ev5
      refine x_istore C (L' := [(4, .int v5), (7, .int s0), (0, .ref (ga g 41)), (1, .int x1), (2, .int x2), (3, .int x3), (5, .int x5)]) rfl (Nat.le_of_ble_eq_true rfl) dX2_leftOf_79 ?_
      refine x_loc (L' := [(0, .ref (ga g 41)), (1, .int x1), (2, .int x2), (3, .int x3), (4, .int v5), (5, .int x5)]) [2, 3, 4, 5, 0, 6] rfl ?_
      exact tX2_leftOf_81 hg  C  hK6 _ _ _ _ _ _  h
set_option maxHeartbeats 4000000 in
set_option maxRecDepth 100000 in
theorem tX2_leftOf_6 {g : xG} (hg : x_inj (WC g))  {x : xCx}   {post : Int32 → xMem → Prop} (C : xOk (WC g) x cX2_leftOf RX2 8 (some .int) (rm_X2_leftOf) (pI post))   : ∀ (n : Nat) (x1 : Int32) (x2 : Int32) (x3 : Int32) (x4 : Int32) (x5 : Int32) (M : xMem), wX2_leftOf_6 post n x1 x2 x3 x4 x5 M → xW (WC g) x 8 6 [(0, .ref (ga g 41)), (1, .int x1), (2, .int x2), (3, .int x3), (4, .int x4), (5, .int x5)] [] M := by
  intro n
  induction n with
  | zero =>
    intro x1 x2 x3 x4 x5 M  h
    exact h.elim
  | succ n ih =>
    intro x1 x2 x3 x4 x5 M  h
    rw [wX2_leftOf_6] at h
    refine x_iload C 5 rfl dX2_leftOf_6 ?_
    refine x_bipush C (v1 := 10) dX2_leftOf_8 (by decide) ?_
    refine x_icmp_ge C (tgt := 87) dX2_leftOf_10 (by decide) (fun hq1 => ?_) (fun hq1 => ?_)
    · replace h := x_ift hq1 h
      refine x_iload C 4 rfl dX2_leftOf_87 ?_
      exact x_iret C dX2_leftOf_89 ⟨_, rfl, h⟩
    · replace h := x_iff hq1 h
      refine x_aload_n C 0 rfl rfl dX2_leftOf_13 ?_
      refine x_get C (c := 41) (ci := 2) (k1 := 1) (v1 := .ref (ga g 42)) (enC_2 (c := 41) rfl) (Nat.le_of_ble_eq_true rfl) rfl inX2 (by decide) wf_X2_15 rfl dX2_leftOf_14 ?_
      refine x_iload C 5 rfl dX2_leftOf_17 ?_
      obtain ⟨hi2, h⟩ := h
      refine x_iald C 0 (c := 42) (enC_20n (c := 42) (n := 10) rfl rfl) (Nat.le_of_ble_eq_true rfl) rfl hi2 dX2_leftOf_19 ?_
      refine x_aload_n C 0 rfl rfl dX2_leftOf_20 ?_
      refine x_get C (c := 41) (ci := 2) (k1 := 1) (v1 := .ref (ga g 42)) (enC_2 (c := 41) rfl) (Nat.le_of_ble_eq_true rfl) rfl inX2 (by decide) wf_X2_15 rfl dX2_leftOf_21 ?_
      refine x_iload C 5 rfl dX2_leftOf_24 ?_
      obtain ⟨hi3, h⟩ := h
      refine x_iald C 0 (c := 42) (enC_20n (c := 42) (n := 10) rfl rfl) (Nat.le_of_ble_eq_true rfl) rfl hi3 dX2_leftOf_26 ?_
      refine x_ineg C dX2_leftOf_27 ?_
      refine x_iand C dX2_leftOf_28 ?_
      refine x_nm (fun v4 ev4 => ?_)
      replace h := h v4 ev4
      refine x_istore C (L' := [(6, .int v4), (0, .ref (ga g 41)), (1, .int x1), (2, .int x2), (3, .int x3), (4, .int x4), (5, .int x5)]) rfl (Nat.le_of_ble_eq_true rfl) dX2_leftOf_29 ?_
      refine x_iload_n C 4 rfl rfl dX2_leftOf_31 ?_
      refine x_if_ge C (tgt := 50) dX2_leftOf_32 (by decide) (fun hq5 => ?_) (fun hq5 => ?_)
      · replace h := x_ift hq5 h
        refine x_iload C 0 rfl dX2_leftOf_50 ?_
        refine x_iload_n C 4 rfl rfl dX2_leftOf_52 ?_
        refine x_callSN C (st := []) (As := [.int v4, .int x3]) (tX11_has hg _ _ _ _ _  h) wmn_X2_56 wsm_X11_has wz_X11 wc_X11_has yd_X11_has rfl ⟨rfl, rfl⟩ ⟨Nat.le_of_ble_eq_true rfl, Nat.le_of_ble_eq_true rfl⟩ (Nat.le_of_ble_eq_true rfl) rfl dX2_leftOf_53 (x_ki (fun r7 M6 h => ?_))
        refine x_loc (L' := [(0, .ref (ga g 41)), (1, .int x1), (2, .int x2), (3, .int x3), (4, .int x4), (5, .int x5)]) [1, 2, 3, 4, 5, 6] rfl ?_
        exact tX2_leftOf_56 hg  C  ih _ _ _ _ _ _ _  h
      · replace h := x_iff hq5 h
        refine x_iload C 0 rfl dX2_leftOf_35 ?_
        refine x_iload_n C 3 rfl rfl dX2_leftOf_37 ?_
        refine x_iand C dX2_leftOf_38 ?_
        refine x_if_ne C (tgt := 46) dX2_leftOf_39 (by decide) (fun hq8 => ?_) (fun hq8 => ?_)
        · replace h := x_iff hq8 h
          refine x_iconst C (v1 := 0) dX2_leftOf_46 (by decide) ?_
          refine x_goto C (tgt := 56) dX2_leftOf_47 (by decide) ?_
          refine x_loc (L' := [(0, .ref (ga g 41)), (1, .int x1), (2, .int x2), (3, .int x3), (4, .int x4), (5, .int x5)]) [1, 2, 3, 4, 5, 6] rfl ?_
          exact tX2_leftOf_56 hg  C  ih _ _ _ _ _ _ _  h
        · replace h := x_ift hq8 h
          refine x_iconst C (v1 := 1) dX2_leftOf_42 (by decide) ?_
          refine x_goto C (tgt := 56) dX2_leftOf_43 (by decide) ?_
          refine x_loc (L' := [(0, .ref (ga g 41)), (1, .int x1), (2, .int x2), (3, .int x3), (4, .int x4), (5, .int x5)]) [1, 2, 3, 4, 5, 6] rfl ?_
          exact tX2_leftOf_56 hg  C  ih _ _ _ _ _ _ _  h
set_option maxHeartbeats 4000000 in
set_option maxRecDepth 100000 in
theorem tX2_leftOf {g : xG} (hg : x_inj (WC g))  (l : Launch) (a0 : Int32) (a1 : Int32) (a2 : Int32) (M : xMem) (post : Int32 → xMem → Prop)  (h : wX2_leftOf a0 a1 a2 M post) : xMet (WC g) l yX2_leftOf cX2_leftOf 8 (some .int) (rm_X2_leftOf) [.ref (ga g 41), .int a0, .int a1, .int a2] M (pI post) := by
  refine x_enter (own := RX2) (L0 := [(0, .ref (ga g 41)), (1, .int a0), (2, .int a1), (3, .int a2)]) (by decide +kernel) rfl hg (x_stC g) (Nat.le_of_ble_eq_true rfl) rfl (fun x hl C => ?_)
  unfold wX2_leftOf at h
  refine x_iconst C (v1 := 0) dX2_leftOf_0 (by decide) ?_
  refine x_istore C (L' := [(4, .int 0), (0, .ref (ga g 41)), (1, .int a0), (2, .int a1), (3, .int a2)]) rfl (Nat.le_of_ble_eq_true rfl) dX2_leftOf_1 ?_
  refine x_iconst C (v1 := 0) dX2_leftOf_3 (by decide) ?_
  refine x_istore C (L' := [(5, .int 0), (4, .int 0), (0, .ref (ga g 41)), (1, .int a0), (2, .int a1), (3, .int a2)]) rfl (Nat.le_of_ble_eq_true rfl) dX2_leftOf_4 ?_
  refine x_loc (L' := [(0, .ref (ga g 41)), (1, .int a0), (2, .int a1), (3, .int a2), (4, .int 0), (5, .int 0)]) [2, 3, 4, 5, 1, 0] rfl ?_
  obtain ⟨n6, h⟩ := h
  exact tX2_leftOf_6 hg  C   _ _ _ _ _ _ _  h
set_option maxHeartbeats 4000000 in
set_option maxRecDepth 100000 in
theorem tX2_nextToSniff_61 {g : xG} (hg : x_inj (WC g))  {x : xCx}  {K14 : Int32 → Int32 → Int32 → Int32 → Int32 → xMem → Prop} {post : Int32 → xMem → Prop} (C : xOk (WC g) x cX2_nextToSniff RX2 8 (some .int) (rm_X2_nextToSniff) (pI post))  (hK14 : ∀ (x1 : Int32) (x2 : Int32) (x3 : Int32) (x4 : Int32) (x5 : Int32) (M : xMem), K14 x1 x2 x3 x4 x5 M → xW (WC g) x 8 14 [(0, .ref (ga g 41)), (1, .int x1), (2, .int x2), (3, .int x3), (4, .int x4), (5, .int x5)] [] M) (x1 : Int32) (x2 : Int32) (x3 : Int32) (x4 : Int32) (x5 : Int32) (M : xMem)  (h : wX2_nextToSniff_61 K14 post x1 x2 x3 x4 x5 M) : xW (WC g) x 8 61 [(0, .ref (ga g 41)), (1, .int x1), (2, .int x2), (3, .int x3), (4, .int x4), (5, .int x5)] [] M := by
  unfold wX2_nextToSniff_61 at h
  obtain ⟨v1, ev1⟩ : ∃ z : Int32, z = x5 + 1 := ⟨_, rfl⟩
  replace h := h v1 ev1
  refine x_iinc C 5 (v1 := v1) (L' := [(5, .int v1), (0, .ref (ga g 41)), (1, .int x1), (2, .int x2), (3, .int x3), (4, .int x4)]) rfl (by rw [ev1]; rfl) rfl (Nat.le_of_ble_eq_true rfl) dX2_nextToSniff_61 ?_
  refine x_goto C (tgt := 14) dX2_nextToSniff_64 (by decide) ?_
  refine x_loc (L' := [(0, .ref (ga g 41)), (1, .int x1), (2, .int x2), (3, .int x3), (4, .int x4), (5, .int v1)]) [1, 2, 3, 4, 5, 0] rfl ?_
  exact hK14 _ _ _ _ _ _  h
set_option maxHeartbeats 4000000 in
set_option maxRecDepth 100000 in
theorem tX2_nextToSniff_14 {g : xG} (hg : x_inj (WC g))  {x : xCx}   {post : Int32 → xMem → Prop} (C : xOk (WC g) x cX2_nextToSniff RX2 8 (some .int) (rm_X2_nextToSniff) (pI post))   : ∀ (n : Nat) (x1 : Int32) (x2 : Int32) (x3 : Int32) (x4 : Int32) (x5 : Int32) (M : xMem), wX2_nextToSniff_14 post n x1 x2 x3 x4 x5 M → xW (WC g) x 8 14 [(0, .ref (ga g 41)), (1, .int x1), (2, .int x2), (3, .int x3), (4, .int x4), (5, .int x5)] [] M := by
  intro n
  induction n with
  | zero =>
    intro x1 x2 x3 x4 x5 M  h
    exact h.elim
  | succ n ih =>
    intro x1 x2 x3 x4 x5 M  h
    rw [wX2_nextToSniff_14] at h
    refine x_iload C 5 rfl dX2_nextToSniff_14 ?_
    refine x_bipush C (v1 := 10) dX2_nextToSniff_16 (by decide) ?_
    refine x_icmp_ge C (tgt := 67) dX2_nextToSniff_18 (by decide) (fun hq1 => ?_) (fun hq1 => ?_)
    · replace h := x_ift hq1 h
      refine x_iload_n C 3 rfl rfl dX2_nextToSniff_67 ?_
      exact x_iret C dX2_nextToSniff_68 ⟨_, rfl, h⟩
    · replace h := x_iff hq1 h
      refine x_aload_n C 0 rfl rfl dX2_nextToSniff_21 ?_
      refine x_iload_n C 1 rfl rfl dX2_nextToSniff_22 ?_
      refine x_sipush C (v1 := 1023) dX2_nextToSniff_23 (by decide) ?_
      refine x_iload C 5 rfl dX2_nextToSniff_26 ?_
      refine x_callV C (st := []) (As := [.int x1, .int 1023, .int x5]) (c := 41) (ci := 2) (enC_2 (c := 41) rfl) (Nat.le_of_ble_eq_true rfl) rfl (tX2_leftOf hg _ _ _ _ _ _  h) wm_X2_86 wi_X2_leftOf wv_X2_leftOf wz_X2 wc_X2_leftOf rfl yd_X2_leftOf rfl ⟨rfl, rfl⟩ ⟨Nat.le_of_ble_eq_true rfl, Nat.le_of_ble_eq_true rfl⟩ (Nat.le_of_ble_eq_true rfl) rfl dX2_nextToSniff_28 (x_ki (fun r3 M2 h => ?_))
      refine x_callS C (st := []) (As := [.int r3]) (tJ6_bitCount_0f7a4 hg _ _ _ _  h) wm_X2_80 wsm_J6_bitCount_0f7a4 wz_J6 wc_J6_bitCount_0f7a4 yd_J6_bitCount_0f7a4 rfl ⟨rfl, rfl⟩ ⟨Nat.le_of_ble_eq_true rfl, Nat.le_of_ble_eq_true rfl⟩ (Nat.le_of_ble_eq_true rfl) rfl dX2_nextToSniff_31 (x_ki (fun r5 M4 h => ?_))
      refine x_istore C (L' := [(6, .int r5), (0, .ref (ga g 41)), (1, .int x1), (2, .int x2), (3, .int x3), (4, .int x4), (5, .int x5)]) rfl (Nat.le_of_ble_eq_true rfl) dX2_nextToSniff_34 ?_
      refine x_iload C 0 rfl dX2_nextToSniff_36 ?_
      refine x_iload_n C 3 rfl rfl dX2_nextToSniff_38 ?_
      refine x_iload C 0 rfl dX2_nextToSniff_39 ?_
      refine x_isub C dX2_nextToSniff_41 ?_
      refine x_callS C (st := []) (As := [.int r5, .int (x2 - r5)]) (tJ9_max_7cf53 hg _ _ _ _ _  h) wm_X2_90 wsm_J9_max_7cf53 wz_J9 wc_J9_max_7cf53 yd_J9_max_7cf53 rfl ⟨rfl, rfl⟩ ⟨Nat.le_of_ble_eq_true rfl, Nat.le_of_ble_eq_true rfl⟩ (Nat.le_of_ble_eq_true rfl) rfl dX2_nextToSniff_42 (x_ki (fun r7 M6 h => ?_))
      refine x_istore C (L' := [(7, .int r7), (6, .int r5), (0, .ref (ga g 41)), (1, .int x1), (2, .int x2), (3, .int x3), (4, .int x4), (5, .int x5)]) rfl (Nat.le_of_ble_eq_true rfl) dX2_nextToSniff_45 ?_
      refine x_iload C 0 rfl dX2_nextToSniff_47 ?_
      refine x_iload C 6 rfl dX2_nextToSniff_49 ?_
      refine x_icmp_ge C (tgt := 61) dX2_nextToSniff_51 (by decide) (fun hq8 => ?_) (fun hq8 => ?_)
      · replace h := x_ift hq8 h
        refine x_loc (L' := [(0, .ref (ga g 41)), (1, .int x1), (2, .int x2), (3, .int x3), (4, .int x4), (5, .int x5)]) [2, 3, 4, 5, 6, 7] rfl ?_
        exact tX2_nextToSniff_61 hg  C  ih _ _ _ _ _ _  h
      · replace h := x_iff hq8 h
        refine x_iload C 7 rfl dX2_nextToSniff_54 ?_
        refine x_istore_n C (L' := [(3, .int x5), (7, .int r7), (6, .int r5), (0, .ref (ga g 41)), (1, .int x1), (2, .int x2), (4, .int x4), (5, .int x5)]) rfl rfl (Nat.le_of_ble_eq_true rfl) dX2_nextToSniff_56 ?_
        refine x_iload C 1 rfl dX2_nextToSniff_57 ?_
        refine x_istore C (L' := [(4, .int r7), (3, .int x5), (7, .int r7), (6, .int r5), (0, .ref (ga g 41)), (1, .int x1), (2, .int x2), (5, .int x5)]) rfl (Nat.le_of_ble_eq_true rfl) dX2_nextToSniff_59 ?_
        refine x_loc (L' := [(0, .ref (ga g 41)), (1, .int x1), (2, .int x2), (3, .int x5), (4, .int r7), (5, .int x5)]) [4, 5, 6, 1, 0, 7] rfl ?_
        exact tX2_nextToSniff_61 hg  C  ih _ _ _ _ _ _  h
set_option maxHeartbeats 4000000 in
set_option maxRecDepth 100000 in
theorem tX2_nextToSniff {g : xG} (hg : x_inj (WC g))  (l : Launch) (a0 : Int32) (M : xMem) (post : Int32 → xMem → Prop)  (h : wX2_nextToSniff a0 M post) : xMet (WC g) l yX2_nextToSniff cX2_nextToSniff 8 (some .int) (rm_X2_nextToSniff) [.ref (ga g 41), .int a0] M (pI post) := by
  refine x_enter (own := RX2) (L0 := [(0, .ref (ga g 41)), (1, .int a0)]) (by decide +kernel) rfl hg (x_stC g) (Nat.le_of_ble_eq_true rfl) rfl (fun x hl C => ?_)
  unfold wX2_nextToSniff at h
  refine x_iload_n C 1 rfl rfl dX2_nextToSniff_0 ?_
  refine x_callS C (st := []) (As := [.int a0]) (tJ6_bitCount_0f7a4 hg _ _ _ _  h) wm_X2_80 wsm_J6_bitCount_0f7a4 wz_J6 wc_J6_bitCount_0f7a4 yd_J6_bitCount_0f7a4 rfl ⟨rfl, rfl⟩ ⟨Nat.le_of_ble_eq_true rfl, Nat.le_of_ble_eq_true rfl⟩ (Nat.le_of_ble_eq_true rfl) rfl dX2_nextToSniff_1 (x_ki (fun r2 M1 h => ?_))
  refine x_istore_n C (L' := [(2, .int r2), (0, .ref (ga g 41)), (1, .int a0)]) rfl rfl (Nat.le_of_ble_eq_true rfl) dX2_nextToSniff_4 ?_
  refine x_bipush C (v1 := (-2)) dX2_nextToSniff_5 (by decide) ?_
  refine x_istore_n C (L' := [(3, .int (-2)), (2, .int r2), (0, .ref (ga g 41)), (1, .int a0)]) rfl rfl (Nat.le_of_ble_eq_true rfl) dX2_nextToSniff_7 ?_
  refine x_iload_n C 1 rfl rfl dX2_nextToSniff_8 ?_
  refine x_istore C (L' := [(4, .int r2), (3, .int (-2)), (2, .int r2), (0, .ref (ga g 41)), (1, .int a0)]) rfl (Nat.le_of_ble_eq_true rfl) dX2_nextToSniff_9 ?_
  refine x_iconst C (v1 := 0) dX2_nextToSniff_11 (by decide) ?_
  refine x_istore C (L' := [(5, .int 0), (4, .int r2), (3, .int (-2)), (2, .int r2), (0, .ref (ga g 41)), (1, .int a0)]) rfl (Nat.le_of_ble_eq_true rfl) dX2_nextToSniff_12 ?_
  refine x_loc (L' := [(0, .ref (ga g 41)), (1, .int a0), (2, .int r2), (3, .int (-2)), (4, .int r2), (5, .int 0)]) [4, 5, 3, 2, 1, 0] rfl ?_
  obtain ⟨n14, h⟩ := h
  exact tX2_nextToSniff_14 hg  C   _ _ _ _ _ _ _  h
set_option maxHeartbeats 4000000 in
set_option maxRecDepth 100000 in
theorem tX11_forged_73 {g : xG} (hg : x_inj (WC g))  {x : xCx}   {post : Int32 → xMem → Prop} (C : xOk (WC g) x cX11_forged RX11 7 (some .int) (rm_X11_forged) (pI post))   (x1 : Int32) (x2 : Int32) (x3 : Int32) (x4 : Int32) (M : xMem)  (h : wX11_forged_73 post x1 x2 x3 x4 M) : xW (WC g) x 7 73 [(0, .ref (ga g 0)), (1, .int x1), (2, .int x2), (3, .int x3), (4, .int x4)] [] M := by
  unfold wX11_forged_73 at h
  refine x_aload_n C 0 rfl rfl dX11_forged_73 ?_
  refine x_get C (c := 0) (ci := 11) (k1 := 7) (v1 := .ref (ga g 41)) (enC_11 (c := 0) rfl) (Nat.le_of_ble_eq_true rfl) rfl inX11 (by decide) wf_X11_50 rfl dX11_forged_74 ?_
  refine x_iload_n C 1 rfl rfl dX11_forged_77 ?_
  refine x_iload_n C 2 rfl rfl dX11_forged_78 ?_
  refine x_iload_n C 3 rfl rfl dX11_forged_79 ?_
  refine x_callVN C (st := []) (As := [.int x1, .int x2, .int x3]) (c := 41) (ci := 2) (enC_2 (c := 41) rfl) (Nat.le_of_ble_eq_true rfl) rfl (tX2_leftOf hg _ _ _ _ _ _  h) wmn_X11_344 wi_X2_leftOf wv_X2_leftOf wz_X2 wc_X2_leftOf yd_X2_leftOf rfl ⟨rfl, rfl⟩ ⟨Nat.le_of_ble_eq_true rfl, Nat.le_of_ble_eq_true rfl⟩ (Nat.le_of_ble_eq_true rfl) rfl dX11_forged_80 (x_ki (fun r2 M1 h => ?_))
  refine x_istore C (L' := [(6, .int r2), (0, .ref (ga g 0)), (1, .int x1), (2, .int x2), (3, .int x3), (4, .int x4)]) rfl (Nat.le_of_ble_eq_true rfl) dX11_forged_83 ?_
  refine x_iload C 5 rfl dX11_forged_85 ?_
  refine x_if_ne C (tgt := 95) dX11_forged_87 (by decide) (fun hq3 => ?_) (fun hq3 => ?_)
  · replace h := x_iff hq3 h
    refine x_aload_n C 1 rfl rfl dX11_forged_95 ?_
    refine x_get C (c := 0) (ci := 11) (k1 := 7) (v1 := .ref (ga g 41)) (enC_11 (c := 0) rfl) (Nat.le_of_ble_eq_true rfl) rfl inX11 (by decide) wf_X11_50 rfl dX11_forged_96 ?_
    refine x_iload C 0 rfl dX11_forged_99 ?_
    refine x_callVN C (st := []) (As := [.int r2]) (c := 41) (ci := 2) (enC_2 (c := 41) rfl) (Nat.le_of_ble_eq_true rfl) rfl (tX2_nextToSniff hg _ _ _ _  h) wmn_X11_347 wi_X2_nextToSniff wv_X2_nextToSniff wz_X2 wc_X2_nextToSniff yd_X2_nextToSniff rfl ⟨rfl, rfl⟩ ⟨Nat.le_of_ble_eq_true rfl, Nat.le_of_ble_eq_true rfl⟩ (Nat.le_of_ble_eq_true rfl) rfl dX11_forged_101 (x_ki (fun r5 M4 h => ?_))
    exact x_iret C dX11_forged_104 ⟨_, rfl, h⟩
  · replace h := x_ift hq3 h
    refine x_iload C 0 rfl dX11_forged_90 ?_
    refine x_goto C (tgt := 104) dX11_forged_92 (by decide) ?_
    exact x_iret C dX11_forged_104 ⟨_, rfl, h⟩
set_option maxHeartbeats 4000000 in
set_option maxRecDepth 100000 in
theorem tX11_forged_51 {g : xG} (hg : x_inj (WC g))  {x : xCx}   {post : Int32 → xMem → Prop} (C : xOk (WC g) x cX11_forged RX11 7 (some .int) (rm_X11_forged) (pI post))   (x1 : Int32) (x2 : Int32) (x3 : Int32) (x4 : Int32) (s0 : Int32) (M : xMem)  (h : wX11_forged_51 post x1 x2 x3 x4 s0 M) : xW (WC g) x 7 51 [(0, .ref (ga g 0)), (1, .int x1), (2, .int x2), (3, .int x3), (4, .int x4)] [.int s0] M := by
  unfold wX11_forged_51 at h
  refine x_istore C (L' := [(5, .int s0), (0, .ref (ga g 0)), (1, .int x1), (2, .int x2), (3, .int x3), (4, .int x4)]) rfl (Nat.le_of_ble_eq_true rfl) dX11_forged_51 ?_
  refine x_iload C 0 rfl dX11_forged_53 ?_
  refine x_if_eq C (tgt := 71) dX11_forged_55 (by decide) (fun hq1 => ?_) (fun hq1 => ?_)
  · replace h := x_ift hq1 h
    refine x_iconst C (v1 := (-1)) dX11_forged_71 (by decide) ?_
    exact x_iret C dX11_forged_72 ⟨_, rfl, h⟩
  · replace h := x_iff hq1 h
    refine x_iload_n C 4 rfl rfl dX11_forged_58 ?_
    refine x_iconst C (v1 := (-1)) dX11_forged_59 (by decide) ?_
    refine x_icmp_eq C (tgt := 73) dX11_forged_60 (by decide) (fun hq2 => ?_) (fun hq2 => ?_)
    · replace h := x_ift hq2 h
      refine x_loc (L' := [(0, .ref (ga g 0)), (1, .int x1), (2, .int x2), (3, .int x3), (4, .int x4)]) [1, 2, 3, 4, 5] rfl ?_
      exact tX11_forged_73 hg  C   _ _ _ _ _  h
    · replace h := x_iff hq2 h
      refine x_iload_n C 3 rfl rfl dX11_forged_63 ?_
      refine x_iload_n C 4 rfl rfl dX11_forged_64 ?_
      refine x_callS C (st := []) (As := [.int x2, .int x3]) (tX11_has hg _ _ _ _ _  h) wm_X11_164 wsm_X11_has wz_X11 wc_X11_has yd_X11_has rfl ⟨rfl, rfl⟩ ⟨Nat.le_of_ble_eq_true rfl, Nat.le_of_ble_eq_true rfl⟩ (Nat.le_of_ble_eq_true rfl) rfl dX11_forged_65 (x_ki (fun r4 M3 h => ?_))
      refine x_if_ne C (tgt := 73) dX11_forged_68 (by decide) (fun hq5 => ?_) (fun hq5 => ?_)
      · replace h := x_iff hq5 h
        refine x_loc (L' := [(0, .ref (ga g 0)), (1, .int x1), (2, .int x2), (3, .int x3), (4, .int x4)]) [1, 2, 3, 4, 5] rfl ?_
        exact tX11_forged_73 hg  C   _ _ _ _ _  h
      · replace h := x_ift hq5 h
        refine x_iconst C (v1 := (-1)) dX11_forged_71 (by decide) ?_
        exact x_iret C dX11_forged_72 ⟨_, rfl, h⟩
set_option maxHeartbeats 4000000 in
set_option maxRecDepth 100000 in
theorem tX11_forged_50 {g : xG} (hg : x_inj (WC g))  {x : xCx}   {post : Int32 → xMem → Prop} (C : xOk (WC g) x cX11_forged RX11 7 (some .int) (rm_X11_forged) (pI post))   (x1 : Int32) (x2 : Int32) (x3 : Int32) (x4 : Int32) (M : xMem)  (h : wX11_forged_50 post x1 x2 x3 x4 M) : xW (WC g) x 7 50 [(0, .ref (ga g 0)), (1, .int x1), (2, .int x2), (3, .int x3), (4, .int x4)] [] M := by
  unfold wX11_forged_50 at h
  refine x_iconst C (v1 := 0) dX11_forged_50 (by decide) ?_
  exact tX11_forged_51 hg  C   _ _ _ _ _ _  h
set_option maxHeartbeats 4000000 in
set_option maxRecDepth 100000 in
theorem tX11_forged {g : xG} (hg : x_inj (WC g))  (l : Launch) (a0 : Int32) (a1 : Int32) (a2 : Int32) (a3 : Int32) (M : xMem) (post : Int32 → xMem → Prop)  (h : wX11_forged a0 a1 a2 a3 M post) : xMet (WC g) l yX11_forged cX11_forged 7 (some .int) (rm_X11_forged) [.ref (ga g 0), .int a0, .int a1, .int a2, .int a3] M (pI post) := by
  refine x_enter (own := RX11) (L0 := [(0, .ref (ga g 0)), (1, .int a0), (2, .int a1), (3, .int a2), (4, .int a3)]) (by decide +kernel) rfl hg (x_stC g) (Nat.le_of_ble_eq_true rfl) rfl (fun x hl C => ?_)
  unfold wX11_forged at h
  refine x_iload_n C 1 rfl rfl dX11_forged_0 ?_
  refine x_iconst C (v1 := 1) dX11_forged_1 (by decide) ?_
  refine x_sipush C (v1 := 1023) dX11_forged_2 (by decide) ?_
  refine x_callS C (st := []) (As := [.int a0, .int 1, .int 1023]) (tX11_isWithin hg _ _ _ _ _ _  h) wm_X11_145 wsm_X11_isWithin wz_X11 wc_X11_isWithin yd_X11_isWithin rfl ⟨rfl, rfl⟩ ⟨Nat.le_of_ble_eq_true rfl, Nat.le_of_ble_eq_true rfl⟩ (Nat.le_of_ble_eq_true rfl) rfl dX11_forged_5 (x_ki (fun r2 M1 h => ?_))
  refine x_if_eq C (tgt := 50) dX11_forged_8 (by decide) (fun hq3 => ?_) (fun hq3 => ?_)
  · replace h := x_ift hq3 h
    exact tX11_forged_50 hg  C   _ _ _ _ _  h
  · replace h := x_iff hq3 h
    refine x_iload_n C 1 rfl rfl dX11_forged_11 ?_
    refine x_aload_n C 0 rfl rfl dX11_forged_12 ?_
    refine x_get C (c := 0) (ci := 11) (k1 := 7) (v1 := .ref (ga g 41)) (enC_11 (c := 0) rfl) (Nat.le_of_ble_eq_true rfl) rfl inX11 (by decide) wf_X11_50 rfl dX11_forged_13 ?_
    refine x_getN C (c := 41) (ci := 2) (k1 := 0) (v1 := .int (gi M1 41 0)) (enC_2 (c := 41) rfl) (Nat.le_of_ble_eq_true rfl) rfl inX2 (by decide) wfn_X11_314 rfl dX11_forged_16 ?_
    refine x_iconst C (v1 := (-1)) dX11_forged_19 (by decide) ?_
    refine x_ixor C dX11_forged_20 ?_
    refine x_iand C dX11_forged_21 ?_
    refine x_if_ne C (tgt := 50) dX11_forged_22 (by decide) (fun hq4 => ?_) (fun hq4 => ?_)
    · replace h := x_iff hq4 h
      exact tX11_forged_50 hg  C   _ _ _ _ _  h
    · replace h := x_ift hq4 h
      refine x_iload_n C 2 rfl rfl dX11_forged_25 ?_
      refine x_iconst C (v1 := 0) dX11_forged_26 (by decide) ?_
      refine x_sipush C (v1 := 1023) dX11_forged_27 (by decide) ?_
      refine x_callS C (st := []) (As := [.int a1, .int 0, .int 1023]) (tX11_isWithin hg _ _ _ _ _ _  h) wm_X11_145 wsm_X11_isWithin wz_X11 wc_X11_isWithin yd_X11_isWithin rfl ⟨rfl, rfl⟩ ⟨Nat.le_of_ble_eq_true rfl, Nat.le_of_ble_eq_true rfl⟩ (Nat.le_of_ble_eq_true rfl) rfl dX11_forged_30 (x_ki (fun r6 M5 h => ?_))
      refine x_if_eq C (tgt := 50) dX11_forged_33 (by decide) (fun hq7 => ?_) (fun hq7 => ?_)
      · replace h := x_ift hq7 h
        exact tX11_forged_50 hg  C   _ _ _ _ _  h
      · replace h := x_iff hq7 h
        refine x_iload C 4 rfl dX11_forged_36 ?_
        refine x_iconst C (v1 := 0) dX11_forged_38 (by decide) ?_
        refine x_iconst C (v1 := 1) dX11_forged_39 (by decide) ?_
        refine x_callS C (st := []) (As := [.int a3, .int 0, .int 1]) (tX11_isWithin hg _ _ _ _ _ _  h) wm_X11_145 wsm_X11_isWithin wz_X11 wc_X11_isWithin yd_X11_isWithin rfl ⟨rfl, rfl⟩ ⟨Nat.le_of_ble_eq_true rfl, Nat.le_of_ble_eq_true rfl⟩ (Nat.le_of_ble_eq_true rfl) rfl dX11_forged_40 (x_ki (fun r9 M8 h => ?_))
        refine x_if_eq C (tgt := 50) dX11_forged_43 (by decide) (fun hq10 => ?_) (fun hq10 => ?_)
        · replace h := x_ift hq10 h
          exact tX11_forged_50 hg  C   _ _ _ _ _  h
        · replace h := x_iff hq10 h
          refine x_iconst C (v1 := 1) dX11_forged_46 (by decide) ?_
          refine x_goto C (tgt := 51) dX11_forged_47 (by decide) ?_
          exact tX11_forged_51 hg  C   _ _ _ _ _ _  h
set_option maxHeartbeats 4000000 in
set_option maxRecDepth 100000 in
theorem tX11_yawns_135 {g : xG} (hg : x_inj (WC g))  {x : xCx}  {K60 : Int32 → Int32 → Nat → Int32 → Int32 → Int32 → xMem → Prop} {post : Int32 → xMem → Prop} (C : xOk (WC g) x cX11_yawns RX11 9 (some .int) (rm_X11_yawns) (pI post))  (hK60 : ∀ (x2 : Int32) (x3 : Int32) (c4 : Nat) (x5 : Int32) (x6 : Int32) (x7 : Int32) (M : xMem), kC c4 = 9 → K60 x2 x3 c4 x5 x6 x7 M → xW (WC g) x 9 60 [(0, .ref (ga g 0)), (2, .int x2), (3, .int x3), (4, .ref (ga g c4)), (5, .int x5), (6, .int x6), (7, .int x7)] [] M) (x2 : Int32) (x3 : Int32) (c4 : Nat) (x5 : Int32) (x6 : Int32) (x7 : Int32) (M : xMem) (hc4 : kC c4 = 9) (h : wX11_yawns_135 K60 post x2 x3 c4 x5 x6 x7 M) : xW (WC g) x 9 135 [(0, .ref (ga g 0)), (2, .int x2), (3, .int x3), (4, .ref (ga g c4)), (5, .int x5), (6, .int x6), (7, .int x7)] [] M := by
  unfold wX11_yawns_135 at h
  obtain ⟨v1, ev1⟩ : ∃ z : Int32, z = x7 + 1 := ⟨_, rfl⟩
  replace h := h v1 ev1
  refine x_iinc C 6 (v1 := v1) (L' := [(7, .int v1), (0, .ref (ga g 0)), (2, .int x2), (3, .int x3), (4, .ref (ga g c4)), (5, .int x5), (6, .int x6)]) rfl (by rw [ev1]; rfl) rfl (Nat.le_of_ble_eq_true rfl) dX11_yawns_135 ?_
  refine x_goto C (tgt := 60) dX11_yawns_138 (by decide) ?_
  refine x_loc (L' := [(0, .ref (ga g 0)), (2, .int x2), (3, .int x3), (4, .ref (ga g c4)), (5, .int x5), (6, .int x6), (7, .int v1)]) [1, 2, 3, 4, 5, 6, 0] rfl ?_
  exact hK60 _ _ _ _ _ _ _ hc4 h
set_option maxHeartbeats 4000000 in
set_option maxRecDepth 100000 in
theorem tX11_yawns_129 {g : xG} (hg : x_inj (WC g))  {x : xCx}  {K60 : Int32 → Int32 → Nat → Int32 → Int32 → Int32 → xMem → Prop} {K70 : Int32 → Int32 → Nat → Int32 → Int32 → Int32 → Int32 → xMem → Prop} {post : Int32 → xMem → Prop} (C : xOk (WC g) x cX11_yawns RX11 9 (some .int) (rm_X11_yawns) (pI post))  (hK60 : ∀ (x2 : Int32) (x3 : Int32) (c4 : Nat) (x5 : Int32) (x6 : Int32) (x7 : Int32) (M : xMem), kC c4 = 9 → K60 x2 x3 c4 x5 x6 x7 M → xW (WC g) x 9 60 [(0, .ref (ga g 0)), (2, .int x2), (3, .int x3), (4, .ref (ga g c4)), (5, .int x5), (6, .int x6), (7, .int x7)] [] M) (hK70 : ∀ (x2 : Int32) (x3 : Int32) (c4 : Nat) (x5 : Int32) (x6 : Int32) (x7 : Int32) (x8 : Int32) (M : xMem), kC c4 = 9 → K70 x2 x3 c4 x5 x6 x7 x8 M → xW (WC g) x 9 70 [(0, .ref (ga g 0)), (2, .int x2), (3, .int x3), (4, .ref (ga g c4)), (5, .int x5), (6, .int x6), (7, .int x7), (8, .int x8)] [] M) (x2 : Int32) (x3 : Int32) (c4 : Nat) (x5 : Int32) (x6 : Int32) (x7 : Int32) (x8 : Int32) (M : xMem) (hc4 : kC c4 = 9) (h : wX11_yawns_129 K60 K70 post x2 x3 c4 x5 x6 x7 x8 M) : xW (WC g) x 9 129 [(0, .ref (ga g 0)), (2, .int x2), (3, .int x3), (4, .ref (ga g c4)), (5, .int x5), (6, .int x6), (7, .int x7), (8, .int x8)] [] M := by
  unfold wX11_yawns_129 at h
  obtain ⟨v1, ev1⟩ : ∃ z : Int32, z = x8 + 1 := ⟨_, rfl⟩
  replace h := h v1 ev1
  refine x_iinc C 7 (v1 := v1) (L' := [(8, .int v1), (0, .ref (ga g 0)), (2, .int x2), (3, .int x3), (4, .ref (ga g c4)), (5, .int x5), (6, .int x6), (7, .int x7)]) rfl (by rw [ev1]; rfl) rfl (Nat.le_of_ble_eq_true rfl) dX11_yawns_129 ?_
  refine x_goto C (tgt := 70) dX11_yawns_132 (by decide) ?_
  refine x_loc (L' := [(0, .ref (ga g 0)), (2, .int x2), (3, .int x3), (4, .ref (ga g c4)), (5, .int x5), (6, .int x6), (7, .int x7), (8, .int v1)]) [1, 2, 3, 4, 5, 6, 7, 0] rfl ?_
  exact hK70 _ _ _ _ _ _ _ _ hc4 h
set_option maxHeartbeats 4000000 in
set_option maxRecDepth 100000 in
theorem tX11_yawns_70 {g : xG} (hg : x_inj (WC g))  {x : xCx}  {K60 : Int32 → Int32 → Nat → Int32 → Int32 → Int32 → xMem → Prop} {post : Int32 → xMem → Prop} (C : xOk (WC g) x cX11_yawns RX11 9 (some .int) (rm_X11_yawns) (pI post))  (hK60 : ∀ (x2 : Int32) (x3 : Int32) (c4 : Nat) (x5 : Int32) (x6 : Int32) (x7 : Int32) (M : xMem), kC c4 = 9 → K60 x2 x3 c4 x5 x6 x7 M → xW (WC g) x 9 60 [(0, .ref (ga g 0)), (2, .int x2), (3, .int x3), (4, .ref (ga g c4)), (5, .int x5), (6, .int x6), (7, .int x7)] [] M) : ∀ (n : Nat) (x2 : Int32) (x3 : Int32) (c4 : Nat) (x5 : Int32) (x6 : Int32) (x7 : Int32) (x8 : Int32) (M : xMem), kC c4 = 9 → wX11_yawns_70 K60 post n x2 x3 c4 x5 x6 x7 x8 M → xW (WC g) x 9 70 [(0, .ref (ga g 0)), (2, .int x2), (3, .int x3), (4, .ref (ga g c4)), (5, .int x5), (6, .int x6), (7, .int x7), (8, .int x8)] [] M := by
  intro n
  induction n with
  | zero =>
    intro x2 x3 c4 x5 x6 x7 x8 M hc4 h
    exact h.elim
  | succ n ih =>
    intro x2 x3 c4 x5 x6 x7 x8 M hc4 h
    rw [wX11_yawns_70] at h
    refine x_aload_n C 0 rfl rfl dX11_yawns_70 ?_
    refine x_get C (c := 0) (ci := 11) (k1 := 7) (v1 := .ref (ga g 41)) (enC_11 (c := 0) rfl) (Nat.le_of_ble_eq_true rfl) rfl inX11 (by decide) wf_X11_50 rfl dX11_yawns_71 ?_
    refine x_iload C 6 rfl dX11_yawns_74 ?_
    refine x_callVN C (st := []) (As := [.int x7]) (c := 41) (ci := 2) (enC_2 (c := 41) rfl) (Nat.le_of_ble_eq_true rfl) rfl (tX2_isTold hg _ _ _ _  h) wmn_X11_217 wi_X2_isTold wv_X2_isTold wz_X2 wc_X2_isTold yd_X2_isTold rfl ⟨rfl, rfl⟩ ⟨Nat.le_of_ble_eq_true rfl, Nat.le_of_ble_eq_true rfl⟩ (Nat.le_of_ble_eq_true rfl) rfl dX11_yawns_76 (x_ki (fun r2 M1 h => ?_))
    refine x_if_eq C (tgt := 135) dX11_yawns_79 (by decide) (fun hq3 => ?_) (fun hq3 => ?_)
    · replace h := x_ift hq3 h
      refine x_loc (L' := [(0, .ref (ga g 0)), (2, .int x2), (3, .int x3), (4, .ref (ga g c4)), (5, .int x5), (6, .int x6), (7, .int x7)]) [0, 1, 2, 3, 4, 5, 6] rfl ?_
      exact tX11_yawns_135 hg  C  hK60 _ _ _ _ _ _ _ hc4 h
    · replace h := x_iff hq3 h
      refine x_iload C 7 rfl dX11_yawns_82 ?_
      refine x_aload C 3 rfl dX11_yawns_84 ?_
      refine x_getN C (c := c4) (ci := 9) (k1 := 1) (v1 := .int (gi M1 c4 1)) (enC_9 (c := c4) hc4) (kC_lt hc4 (by decide)) rfl inX9 (by decide) wfn_X11_198 rfl dX11_yawns_86 ?_
      refine x_icmp_gt C (tgt := 135) dX11_yawns_89 (by decide) (fun hq4 => ?_) (fun hq4 => ?_)
      · replace h := x_ift hq4 h
        refine x_loc (L' := [(0, .ref (ga g 0)), (2, .int x2), (3, .int x3), (4, .ref (ga g c4)), (5, .int x5), (6, .int x6), (7, .int x7)]) [0, 1, 2, 3, 4, 5, 6] rfl ?_
        exact tX11_yawns_135 hg  C  hK60 _ _ _ _ _ _ _ hc4 h
      · replace h := x_iff hq4 h
        refine x_aload C 3 rfl dX11_yawns_92 ?_
        refine x_aload_n C 0 rfl rfl dX11_yawns_94 ?_
        refine x_get C (c := 0) (ci := 11) (k1 := 0) (v1 := .ref (ga g 1)) (enC_11 (c := 0) rfl) (Nat.le_of_ble_eq_true rfl) rfl inX11 (by decide) wf_X11_9 rfl dX11_yawns_95 ?_
        refine x_iload_n C 1 rfl rfl dX11_yawns_98 ?_
        refine x_iload C 7 rfl dX11_yawns_99 ?_
        refine x_aload_n C 0 rfl rfl dX11_yawns_101 ?_
        refine x_get C (c := 0) (ci := 11) (k1 := 7) (v1 := .ref (ga g 41)) (enC_11 (c := 0) rfl) (Nat.le_of_ble_eq_true rfl) rfl inX11 (by decide) wf_X11_50 rfl dX11_yawns_102 ?_
        refine x_getN C (c := 41) (ci := 2) (k1 := 1) (v1 := .ref (ga g 42)) (enC_2 (c := 41) rfl) (Nat.le_of_ble_eq_true rfl) rfl inX2 (by decide) wfn_X11_220 rfl dX11_yawns_105 ?_
        refine x_iload C 6 rfl dX11_yawns_108 ?_
        obtain ⟨hi5, h⟩ := h
        refine x_iald C 0 (c := 42) (enC_20n (c := 42) (n := 10) rfl rfl) (Nat.le_of_ble_eq_true rfl) rfl hi5 dX11_yawns_110 ?_
        refine x_callVN C (st := []) (As := [.ref (ga g 1), .int x2, .int x8, .int (gi M1 42 x7.toNatClampNeg)]) (c := c4) (ci := 9) (enC_9 (c := c4) hc4) (kC_lt hc4 (by decide)) rfl (tX9_yawnsLike hg _ _ _ _ _ _ _ hc4 h) wmn_X11_350 wi_X9_yawnsLike wv_X9_yawnsLike wz_X9 wc_X9_yawnsLike yd_X9_yawnsLike rfl ⟨rfl, rfl⟩ ⟨Nat.le_of_ble_eq_true rfl, Nat.le_of_ble_eq_true rfl⟩ (Nat.le_of_ble_eq_true rfl) rfl dX11_yawns_111 (x_ki (fun r7 M6 h => ?_))
        refine x_if_eq C (tgt := 129) dX11_yawns_114 (by decide) (fun hq8 => ?_) (fun hq8 => ?_)
        · replace h := x_ift hq8 h
          exact tX11_yawns_129 hg  C  hK60 ih _ _ _ _ _ _ _ _ hc4 h
        · replace h := x_iff hq8 h
          refine x_iload C 4 rfl dX11_yawns_117 ?_
          refine x_iconst C (v1 := 1) dX11_yawns_119 (by decide) ?_
          refine x_iload C 6 rfl dX11_yawns_120 ?_
          refine x_ishl C dX11_yawns_122 ?_
          refine x_ior C dX11_yawns_123 ?_
          refine x_nm (fun v9 ev9 => ?_)
          replace h := h v9 ev9
          refine x_istore C (L' := [(5, .int v9), (0, .ref (ga g 0)), (2, .int x2), (3, .int x3), (4, .ref (ga g c4)), (6, .int x6), (7, .int x7), (8, .int x8)]) rfl (Nat.le_of_ble_eq_true rfl) dX11_yawns_124 ?_
          obtain ⟨v10, ev10⟩ : ∃ z : Int32, z = x6 + 1 := ⟨_, rfl⟩
          replace h := h v10 ev10
          refine x_iinc C 5 (v1 := v10) (L' := [(6, .int v10), (5, .int v9), (0, .ref (ga g 0)), (2, .int x2), (3, .int x3), (4, .ref (ga g c4)), (7, .int x7), (8, .int x8)]) rfl (by rw [ev10]; rfl) rfl (Nat.le_of_ble_eq_true rfl) dX11_yawns_126 ?_
          refine x_loc (L' := [(0, .ref (ga g 0)), (2, .int x2), (3, .int x3), (4, .ref (ga g c4)), (5, .int v9), (6, .int v10), (7, .int x7), (8, .int x8)]) [2, 3, 4, 5, 1, 0, 6, 7] rfl ?_
          exact tX11_yawns_129 hg  C  hK60 ih _ _ _ _ _ _ _ _ hc4 h
set_option maxHeartbeats 4000000 in
set_option maxRecDepth 100000 in
theorem tX11_yawns_60 {g : xG} (hg : x_inj (WC g))  {x : xCx}   {post : Int32 → xMem → Prop} (C : xOk (WC g) x cX11_yawns RX11 9 (some .int) (rm_X11_yawns) (pI post))   : ∀ (n : Nat) (x2 : Int32) (x3 : Int32) (c4 : Nat) (x5 : Int32) (x6 : Int32) (x7 : Int32) (M : xMem), kC c4 = 9 → wX11_yawns_60 post n x2 x3 c4 x5 x6 x7 M → xW (WC g) x 9 60 [(0, .ref (ga g 0)), (2, .int x2), (3, .int x3), (4, .ref (ga g c4)), (5, .int x5), (6, .int x6), (7, .int x7)] [] M := by
  intro n
  induction n with
  | zero =>
    intro x2 x3 c4 x5 x6 x7 M hc4 h
    exact h.elim
  | succ n ih =>
    intro x2 x3 c4 x5 x6 x7 M hc4 h
    rw [wX11_yawns_60] at h
    refine x_iload C 6 rfl dX11_yawns_60 ?_
    refine x_bipush C (v1 := 10) dX11_yawns_62 (by decide) ?_
    refine x_icmp_ge C (tgt := 141) dX11_yawns_64 (by decide) (fun hq1 => ?_) (fun hq1 => ?_)
    · replace h := x_ift hq1 h
      refine x_iload_n C 2 rfl rfl dX11_yawns_141 ?_
      refine x_if_ne C (tgt := 150) dX11_yawns_142 (by decide) (fun hq2 => ?_) (fun hq2 => ?_)
      · replace h := x_iff hq2 h
        refine x_iload C 5 rfl dX11_yawns_150 ?_
        exact x_iret C dX11_yawns_152 ⟨_, rfl, h⟩
      · replace h := x_ift hq2 h
        refine x_iload C 4 rfl dX11_yawns_145 ?_
        refine x_goto C (tgt := 152) dX11_yawns_147 (by decide) ?_
        exact x_iret C dX11_yawns_152 ⟨_, rfl, h⟩
    · replace h := x_iff hq1 h
      refine x_iconst C (v1 := 1) dX11_yawns_67 (by decide) ?_
      refine x_istore C (L' := [(8, .int 1), (0, .ref (ga g 0)), (2, .int x2), (3, .int x3), (4, .ref (ga g c4)), (5, .int x5), (6, .int x6), (7, .int x7)]) rfl (Nat.le_of_ble_eq_true rfl) dX11_yawns_68 ?_
      refine x_loc (L' := [(0, .ref (ga g 0)), (2, .int x2), (3, .int x3), (4, .ref (ga g c4)), (5, .int x5), (6, .int x6), (7, .int x7), (8, .int 1)]) [1, 2, 3, 4, 5, 6, 7, 0] rfl ?_
      obtain ⟨n70, h⟩ := h
      exact tX11_yawns_70 hg  C  ih _ _ _ _ _ _ _ _ _ hc4 h
set_option maxHeartbeats 4000000 in
set_option maxRecDepth 100000 in
theorem tX11_yawns {g : xG} (hg : x_inj (WC g))  (l : Launch) (a0 : Int32) (a1 : Int32) (a2 : Int32) (M : xMem) (post : Int32 → xMem → Prop)  (h : wX11_yawns a0 a1 a2 M post) : xMet (WC g) l yX11_yawns cX11_yawns 9 (some .int) (rm_X11_yawns) [.ref (ga g 0), .int a0, .int a1, .int a2] M (pI post) := by
  refine x_enter (own := RX11) (L0 := [(0, .ref (ga g 0)), (1, .int a0), (2, .int a1), (3, .int a2)]) (by decide +kernel) rfl hg (x_stC g) (Nat.le_of_ble_eq_true rfl) rfl (fun x hl C => ?_)
  unfold wX11_yawns at h
  refine x_aload_n C 0 rfl rfl dX11_yawns_0 ?_
  refine x_iload_n C 1 rfl rfl dX11_yawns_1 ?_
  refine x_callV C (st := []) (As := [.int a0]) (c := 0) (ci := 11) (enC_11 (c := 0) rfl) (Nat.le_of_ble_eq_true rfl) rfl (tX11_toldStory hg _ _ _ _  h) wm_X11_154 wi_X11_toldStory wv_X11_toldStory wz_X11 wc_X11_toldStory rfl yd_X11_toldStory rfl ⟨rfl, rfl⟩ ⟨Nat.le_of_ble_eq_true rfl, Nat.le_of_ble_eq_true rfl⟩ (Nat.le_of_ble_eq_true rfl) rfl dX11_yawns_2 (x_kr (fun M1 h => ?_) (fun q2 M1 h0 hkq2 h => ?_))
  · replace h := x_ift rfl h
    refine x_astoreN C (L' := [(4, .null), (0, .ref (ga g 0)), (1, .int a0), (2, .int a1), (3, .int a2)]) rfl (Nat.le_of_ble_eq_true rfl) dX11_yawns_5 ?_
    refine x_aloadN C 0 rfl dX11_yawns_7 ?_
    refine x_ifnullN C (tgt := 32) dX11_yawns_9 (by decide) ?_
    refine x_iconst C (v1 := (-1)) dX11_yawns_32 (by decide) ?_
    exact x_iret C dX11_yawns_33 ⟨_, rfl, h⟩
  · replace h := x_iff h0 h
    refine x_astore C (L' := [(4, .ref (ga g q2)), (0, .ref (ga g 0)), (1, .int a0), (2, .int a1), (3, .int a2)]) rfl (Nat.le_of_ble_eq_true rfl) dX11_yawns_5 ?_
    refine x_aload C 0 rfl dX11_yawns_7 ?_
    refine x_ifnull_r C dX11_yawns_9 ?_
    refine x_iload_n C 4 rfl rfl dX11_yawns_12 ?_
    refine x_iconst C (v1 := 0) dX11_yawns_13 (by decide) ?_
    refine x_iconst C (v1 := 1) dX11_yawns_14 (by decide) ?_
    refine x_callS C (st := []) (As := [.int a2, .int 0, .int 1]) (tX11_isWithin hg _ _ _ _ _ _  h) wm_X11_145 wsm_X11_isWithin wz_X11 wc_X11_isWithin yd_X11_isWithin rfl ⟨rfl, rfl⟩ ⟨Nat.le_of_ble_eq_true rfl, Nat.le_of_ble_eq_true rfl⟩ (Nat.le_of_ble_eq_true rfl) rfl dX11_yawns_15 (x_ki (fun r4 M3 h => ?_))
    refine x_if_eq C (tgt := 32) dX11_yawns_18 (by decide) (fun hq5 => ?_) (fun hq5 => ?_)
    · replace h := x_ift hq5 h
      refine x_iconst C (v1 := (-1)) dX11_yawns_32 (by decide) ?_
      exact x_iret C dX11_yawns_33 ⟨_, rfl, h⟩
    · replace h := x_iff hq5 h
      refine x_aload_n C 1 rfl rfl dX11_yawns_21 ?_
      refine x_iload_n C 3 rfl rfl dX11_yawns_22 ?_
      refine x_iconst C (v1 := 1) dX11_yawns_23 (by decide) ?_
      refine x_bipush C (v1 := 20) dX11_yawns_24 (by decide) ?_
      refine x_callV C (st := []) (As := [.int a1, .int 1, .int 20]) (c := 0) (ci := 11) (enC_11 (c := 0) rfl) (Nat.le_of_ble_eq_true rfl) rfl (tX11_tapeGives hg _ _ _ _ _ _  h) wm_X11_119 wi_X11_tapeGives wv_X11_tapeGives wz_X11 wc_X11_tapeGives rfl yd_X11_tapeGives rfl ⟨rfl, rfl⟩ ⟨Nat.le_of_ble_eq_true rfl, Nat.le_of_ble_eq_true rfl⟩ (Nat.le_of_ble_eq_true rfl) rfl dX11_yawns_26 (x_ki (fun r7 M6 h => ?_))
      refine x_if_ne C (tgt := 34) dX11_yawns_29 (by decide) (fun hq8 => ?_) (fun hq8 => ?_)
      · replace h := x_iff hq8 h
        refine x_aload_n C 1 rfl rfl dX11_yawns_34 ?_
        refine x_iconst C (v1 := 0) dX11_yawns_35 (by decide) ?_
        refine x_put C (c := 0) (ci := 11) (k1 := 1) (u1 := 0) (v1 := .int 0) (ty := .int) (enC_11 (c := 0) rfl) (Nat.le_of_ble_eq_true rfl) rfl inX11 (by decide) (stX11_1 _ _ _) tyX11 tyX11_ok nmX11 wf_X11_13 rfl rfl rfl rfl (Nat.le_of_ble_eq_true rfl) dX11_yawns_36 ?_
        refine x_nmM (fun M9 eM9 => ?_)
        replace h := h M9 eM9
        refine x_aload C 0 rfl dX11_yawns_39 ?_
        refine x_getN C (c := q2) (ci := 9) (k1 := 1) (v1 := .int (gi M9 q2 1)) (enC_9 (c := q2) hkq2) (kC_lt hkq2 (by decide)) rfl inX9 (by decide) wfn_X11_198 rfl dX11_yawns_41 ?_
        refine x_iload_n C 3 rfl rfl dX11_yawns_44 ?_
        refine x_icmp_ge C (tgt := 51) dX11_yawns_45 (by decide) (fun hq10 => ?_) (fun hq10 => ?_)
        · replace h := x_ift hq10 h
          refine x_iconst C (v1 := 0) dX11_yawns_51 (by decide) ?_
          refine x_istore C (L' := [(5, .int 0), (4, .ref (ga g q2)), (0, .ref (ga g 0)), (1, .int a0), (2, .int a1), (3, .int a2)]) rfl (Nat.le_of_ble_eq_true rfl) dX11_yawns_52 ?_
          refine x_iconst C (v1 := 0) dX11_yawns_54 (by decide) ?_
          refine x_istore C (L' := [(6, .int 0), (5, .int 0), (4, .ref (ga g q2)), (0, .ref (ga g 0)), (1, .int a0), (2, .int a1), (3, .int a2)]) rfl (Nat.le_of_ble_eq_true rfl) dX11_yawns_55 ?_
          refine x_iconst C (v1 := 0) dX11_yawns_57 (by decide) ?_
          refine x_istore C (L' := [(7, .int 0), (6, .int 0), (5, .int 0), (4, .ref (ga g q2)), (0, .ref (ga g 0)), (1, .int a0), (2, .int a1), (3, .int a2)]) rfl (Nat.le_of_ble_eq_true rfl) dX11_yawns_58 ?_
          refine x_loc (L' := [(0, .ref (ga g 0)), (2, .int a1), (3, .int a2), (4, .ref (ga g q2)), (5, .int 0), (6, .int 0), (7, .int 0)]) [4, 6, 7, 3, 2, 1, 0] rfl ?_
          obtain ⟨n60, h⟩ := h
          exact tX11_yawns_60 hg  C   _ _ _ _ _ _ _ _ hkq2 h
        · replace h := x_iff hq10 h
          refine x_bipush C (v1 := (-2)) dX11_yawns_48 (by decide) ?_
          exact x_iret C dX11_yawns_50 ⟨_, rfl, h⟩
      · replace h := x_ift hq8 h
        refine x_iconst C (v1 := (-1)) dX11_yawns_32 (by decide) ?_
        exact x_iret C dX11_yawns_33 ⟨_, rfl, h⟩
set_option maxHeartbeats 4000000 in
set_option maxRecDepth 100000 in
theorem tX11_turnsOf_38 {g : xG} (hg : x_inj (WC g))  {x : xCx}  {K4 : Int32 → Int32 → Int32 → xMem → Prop} {post : Int32 → xMem → Prop} (C : xOk (WC g) x cX11_turnsOf RX11 5 (some .int) (rm_X11_turnsOf) (pI post))  (hK4 : ∀ (x1 : Int32) (x2 : Int32) (x3 : Int32) (M : xMem), K4 x1 x2 x3 M → xW (WC g) x 5 4 [(0, .ref (ga g 0)), (1, .int x1), (2, .int x2), (3, .int x3)] [] M) (x1 : Int32) (x2 : Int32) (x3 : Int32) (M : xMem)  (h : wX11_turnsOf_38 K4 post x1 x2 x3 M) : xW (WC g) x 5 38 [(0, .ref (ga g 0)), (1, .int x1), (2, .int x2), (3, .int x3)] [] M := by
  unfold wX11_turnsOf_38 at h
  obtain ⟨v1, ev1⟩ : ∃ z : Int32, z = x3 + 1 := ⟨_, rfl⟩
  replace h := h v1 ev1
  refine x_iinc C 3 (v1 := v1) (L' := [(3, .int v1), (0, .ref (ga g 0)), (1, .int x1), (2, .int x2)]) rfl (by rw [ev1]; rfl) rfl (Nat.le_of_ble_eq_true rfl) dX11_turnsOf_38 ?_
  refine x_goto C (tgt := 4) dX11_turnsOf_41 (by decide) ?_
  refine x_loc (L' := [(0, .ref (ga g 0)), (1, .int x1), (2, .int x2), (3, .int v1)]) [1, 2, 3, 0] rfl ?_
  exact hK4 _ _ _ _  h
set_option maxHeartbeats 4000000 in
set_option maxRecDepth 100000 in
theorem tX11_turnsOf_4 {g : xG} (hg : x_inj (WC g))  {x : xCx}   {post : Int32 → xMem → Prop} (C : xOk (WC g) x cX11_turnsOf RX11 5 (some .int) (rm_X11_turnsOf) (pI post))   : ∀ (n : Nat) (x1 : Int32) (x2 : Int32) (x3 : Int32) (M : xMem), wX11_turnsOf_4 post n x1 x2 x3 M → xW (WC g) x 5 4 [(0, .ref (ga g 0)), (1, .int x1), (2, .int x2), (3, .int x3)] [] M := by
  intro n
  induction n with
  | zero =>
    intro x1 x2 x3 M  h
    exact h.elim
  | succ n ih =>
    intro x1 x2 x3 M  h
    rw [wX11_turnsOf_4] at h
    refine x_iload_n C 3 rfl rfl dX11_turnsOf_4 ?_
    refine x_bipush C (v1 := 6) dX11_turnsOf_5 (by decide) ?_
    refine x_icmp_ge C (tgt := 44) dX11_turnsOf_7 (by decide) (fun hq1 => ?_) (fun hq1 => ?_)
    · replace h := x_ift hq1 h
      refine x_iload_n C 2 rfl rfl dX11_turnsOf_44 ?_
      exact x_iret C dX11_turnsOf_45 ⟨_, rfl, h⟩
    · replace h := x_iff hq1 h
      refine x_aload_n C 0 rfl rfl dX11_turnsOf_10 ?_
      refine x_iload_n C 3 rfl rfl dX11_turnsOf_11 ?_
      refine x_callV C (st := []) (As := [.int x3]) (c := 0) (ci := 11) (enC_11 (c := 0) rfl) (Nat.le_of_ble_eq_true rfl) rfl (tX11_toldStory hg _ _ _ _  h) wm_X11_154 wi_X11_toldStory wv_X11_toldStory wz_X11 wc_X11_toldStory rfl yd_X11_toldStory rfl ⟨rfl, rfl⟩ ⟨Nat.le_of_ble_eq_true rfl, Nat.le_of_ble_eq_true rfl⟩ (Nat.le_of_ble_eq_true rfl) rfl dX11_turnsOf_12 (x_kr (fun M2 h => ?_) (fun q3 M2 h0 hkq3 h => ?_))
      · replace h := x_ift rfl h
        refine x_astoreN C (L' := [(4, .null), (0, .ref (ga g 0)), (1, .int x1), (2, .int x2), (3, .int x3)]) rfl (Nat.le_of_ble_eq_true rfl) dX11_turnsOf_15 ?_
        refine x_aloadN C 0 rfl dX11_turnsOf_17 ?_
        refine x_ifnullN C (tgt := 38) dX11_turnsOf_19 (by decide) ?_
        refine x_loc (L' := [(0, .ref (ga g 0)), (1, .int x1), (2, .int x2), (3, .int x3)]) [1, 2, 3, 4] rfl ?_
        exact tX11_turnsOf_38 hg  C  ih _ _ _ _  h
      · replace h := x_iff h0 h
        refine x_astore C (L' := [(4, .ref (ga g q3)), (0, .ref (ga g 0)), (1, .int x1), (2, .int x2), (3, .int x3)]) rfl (Nat.le_of_ble_eq_true rfl) dX11_turnsOf_15 ?_
        refine x_aload C 0 rfl dX11_turnsOf_17 ?_
        refine x_ifnull_r C dX11_turnsOf_19 ?_
        refine x_iload_n C 2 rfl rfl dX11_turnsOf_22 ?_
        refine x_iload_n C 4 rfl rfl dX11_turnsOf_23 ?_
        refine x_callS C (st := []) (As := [.int x1, .int x3]) (tX11_has hg _ _ _ _ _  h) wm_X11_164 wsm_X11_has wz_X11 wc_X11_has yd_X11_has rfl ⟨rfl, rfl⟩ ⟨Nat.le_of_ble_eq_true rfl, Nat.le_of_ble_eq_true rfl⟩ (Nat.le_of_ble_eq_true rfl) rfl dX11_turnsOf_24 (x_ki (fun r5 M4 h => ?_))
        refine x_if_eq C (tgt := 38) dX11_turnsOf_27 (by decide) (fun hq6 => ?_) (fun hq6 => ?_)
        · replace h := x_ift hq6 h
          refine x_loc (L' := [(0, .ref (ga g 0)), (1, .int x1), (2, .int x2), (3, .int x3)]) [1, 2, 3, 4] rfl ?_
          exact tX11_turnsOf_38 hg  C  ih _ _ _ _  h
        · replace h := x_iff hq6 h
          refine x_iload_n C 3 rfl rfl dX11_turnsOf_30 ?_
          refine x_aload C 0 rfl dX11_turnsOf_31 ?_
          refine x_getN C (c := q3) (ci := 9) (k1 := 1) (v1 := .int (gi M4 q3 1)) (enC_9 (c := q3) hkq3) (kC_lt hkq3 (by decide)) rfl inX9 (by decide) wfn_X11_198 rfl dX11_turnsOf_33 ?_
          refine x_iadd C dX11_turnsOf_36 ?_
          refine x_nm (fun v7 ev7 => ?_)
          replace h := h v7 ev7
          refine x_istore_n C (L' := [(2, .int v7), (4, .ref (ga g q3)), (0, .ref (ga g 0)), (1, .int x1), (3, .int x3)]) rfl rfl (Nat.le_of_ble_eq_true rfl) dX11_turnsOf_37 ?_
          refine x_loc (L' := [(0, .ref (ga g 0)), (1, .int x1), (2, .int v7), (3, .int x3)]) [2, 3, 0, 4] rfl ?_
          exact tX11_turnsOf_38 hg  C  ih _ _ _ _  h
set_option maxHeartbeats 4000000 in
set_option maxRecDepth 100000 in
theorem tX11_turnsOf {g : xG} (hg : x_inj (WC g))  (l : Launch) (a0 : Int32) (M : xMem) (post : Int32 → xMem → Prop)  (h : wX11_turnsOf a0 M post) : xMet (WC g) l yX11_turnsOf cX11_turnsOf 5 (some .int) (rm_X11_turnsOf) [.ref (ga g 0), .int a0] M (pI post) := by
  refine x_enter (own := RX11) (L0 := [(0, .ref (ga g 0)), (1, .int a0)]) (by decide +kernel) rfl hg (x_stC g) (Nat.le_of_ble_eq_true rfl) rfl (fun x hl C => ?_)
  unfold wX11_turnsOf at h
  refine x_iconst C (v1 := 0) dX11_turnsOf_0 (by decide) ?_
  refine x_istore_n C (L' := [(2, .int 0), (0, .ref (ga g 0)), (1, .int a0)]) rfl rfl (Nat.le_of_ble_eq_true rfl) dX11_turnsOf_1 ?_
  refine x_iconst C (v1 := 0) dX11_turnsOf_2 (by decide) ?_
  refine x_istore_n C (L' := [(3, .int 0), (2, .int 0), (0, .ref (ga g 0)), (1, .int a0)]) rfl rfl (Nat.le_of_ble_eq_true rfl) dX11_turnsOf_3 ?_
  refine x_loc (L' := [(0, .ref (ga g 0)), (1, .int a0), (2, .int 0), (3, .int 0)]) [2, 3, 1, 0] rfl ?_
  obtain ⟨n4, h⟩ := h
  exact tX11_turnsOf_4 hg  C   _ _ _ _ _  h
set_option maxHeartbeats 4000000 in
set_option maxRecDepth 100000 in
theorem tX11_thickestCutAt {g : xG} (hg : x_inj (WC g))  (l : Launch) (a0 : Int32) (a1 : Int32) (a2 : Int32) (M : xMem) (post : Int32 → xMem → Prop)  (h : wX11_thickestCutAt a0 a1 a2 M post) : xMet (WC g) l yX11_thickestCutAt cX11_thickestCutAt 9 (some .int) (rm_X11_thickestCutAt) [.ref (ga g 0), .int a0, .int a1, .int a2] M (pI post) := by
  refine x_enter (own := RX11) (L0 := [(0, .ref (ga g 0)), (1, .int a0), (2, .int a1), (3, .int a2)]) (by decide +kernel) rfl hg (x_stC g) (Nat.le_of_ble_eq_true rfl) rfl (fun x hl C => ?_)
  unfold wX11_thickestCutAt at h
  refine x_iconst C (v1 := 1) dX11_thickestCutAt_0 (by decide) ?_
  refine x_iload_n C 2 rfl rfl dX11_thickestCutAt_1 ?_
  refine x_ishl C dX11_thickestCutAt_2 ?_
  refine x_iconst C (v1 := 1) dX11_thickestCutAt_3 (by decide) ?_
  refine x_isub C dX11_thickestCutAt_4 ?_
  refine x_nm (fun v1 ev1 => ?_)
  replace h := h v1 ev1
  refine x_istore C (L' := [(4, .int v1), (0, .ref (ga g 0)), (1, .int a0), (2, .int a1), (3, .int a2)]) rfl (Nat.le_of_ble_eq_true rfl) dX11_thickestCutAt_5 ?_
  refine x_iconst C (v1 := 1) dX11_thickestCutAt_7 (by decide) ?_
  refine x_iload_n C 4 rfl rfl dX11_thickestCutAt_8 ?_
  refine x_ishl C dX11_thickestCutAt_9 ?_
  refine x_iconst C (v1 := 1) dX11_thickestCutAt_10 (by decide) ?_
  refine x_isub C dX11_thickestCutAt_11 ?_
  refine x_nm (fun v2 ev2 => ?_)
  replace h := h v2 ev2
  refine x_istore C (L' := [(5, .int v2), (4, .int v1), (0, .ref (ga g 0)), (1, .int a0), (2, .int a1), (3, .int a2)]) rfl (Nat.le_of_ble_eq_true rfl) dX11_thickestCutAt_12 ?_
  refine x_aload_n C 2 rfl rfl dX11_thickestCutAt_14 ?_
  refine x_iload_n C 3 rfl rfl dX11_thickestCutAt_15 ?_
  refine x_iload C 1 rfl dX11_thickestCutAt_16 ?_
  refine x_iand C dX11_thickestCutAt_18 ?_
  refine x_callV C (st := []) (As := [.int (a0 &&& v1)]) (c := 0) (ci := 11) (enC_11 (c := 0) rfl) (Nat.le_of_ble_eq_true rfl) rfl (tX11_turnsOf hg _ _ _ _  h) wm_X11_380 wi_X11_turnsOf wv_X11_turnsOf wz_X11 wc_X11_turnsOf rfl yd_X11_turnsOf rfl ⟨rfl, rfl⟩ ⟨Nat.le_of_ble_eq_true rfl, Nat.le_of_ble_eq_true rfl⟩ (Nat.le_of_ble_eq_true rfl) rfl dX11_thickestCutAt_19 (x_ki (fun r4 M3 h => ?_))
  refine x_istore C (L' := [(6, .int r4), (5, .int v2), (4, .int v1), (0, .ref (ga g 0)), (1, .int a0), (2, .int a1), (3, .int a2)]) rfl (Nat.le_of_ble_eq_true rfl) dX11_thickestCutAt_22 ?_
  refine x_aload_n C 3 rfl rfl dX11_thickestCutAt_24 ?_
  refine x_iload_n C 4 rfl rfl dX11_thickestCutAt_25 ?_
  refine x_iload C 1 rfl dX11_thickestCutAt_26 ?_
  refine x_iand C dX11_thickestCutAt_28 ?_
  refine x_iload C 2 rfl dX11_thickestCutAt_29 ?_
  refine x_iconst C (v1 := (-1)) dX11_thickestCutAt_31 (by decide) ?_
  refine x_ixor C dX11_thickestCutAt_32 ?_
  refine x_iand C dX11_thickestCutAt_33 ?_
  refine x_callV C (st := []) (As := [.int ((a0 &&& v2) &&& (v1 ^^^ (-1)))]) (c := 0) (ci := 11) (enC_11 (c := 0) rfl) (Nat.le_of_ble_eq_true rfl) rfl (tX11_turnsOf hg _ _ _ _  h) wm_X11_380 wi_X11_turnsOf wv_X11_turnsOf wz_X11 wc_X11_turnsOf rfl yd_X11_turnsOf rfl ⟨rfl, rfl⟩ ⟨Nat.le_of_ble_eq_true rfl, Nat.le_of_ble_eq_true rfl⟩ (Nat.le_of_ble_eq_true rfl) rfl dX11_thickestCutAt_34 (x_ki (fun r6 M5 h => ?_))
  refine x_istore C (L' := [(7, .int r6), (6, .int r4), (5, .int v2), (4, .int v1), (0, .ref (ga g 0)), (1, .int a0), (2, .int a1), (3, .int a2)]) rfl (Nat.le_of_ble_eq_true rfl) dX11_thickestCutAt_37 ?_
  refine x_aload_n C 4 rfl rfl dX11_thickestCutAt_39 ?_
  refine x_iload_n C 5 rfl rfl dX11_thickestCutAt_40 ?_
  refine x_iload C 2 rfl dX11_thickestCutAt_41 ?_
  refine x_iconst C (v1 := (-1)) dX11_thickestCutAt_43 (by decide) ?_
  refine x_ixor C dX11_thickestCutAt_44 ?_
  refine x_iand C dX11_thickestCutAt_45 ?_
  refine x_callV C (st := []) (As := [.int (a0 &&& (v2 ^^^ (-1)))]) (c := 0) (ci := 11) (enC_11 (c := 0) rfl) (Nat.le_of_ble_eq_true rfl) rfl (tX11_turnsOf hg _ _ _ _  h) wm_X11_380 wi_X11_turnsOf wv_X11_turnsOf wz_X11 wc_X11_turnsOf rfl yd_X11_turnsOf rfl ⟨rfl, rfl⟩ ⟨Nat.le_of_ble_eq_true rfl, Nat.le_of_ble_eq_true rfl⟩ (Nat.le_of_ble_eq_true rfl) rfl dX11_thickestCutAt_46 (x_ki (fun r8 M7 h => ?_))
  refine x_istore C (L' := [(8, .int r8), (7, .int r6), (6, .int r4), (5, .int v2), (4, .int v1), (0, .ref (ga g 0)), (1, .int a0), (2, .int a1), (3, .int a2)]) rfl (Nat.le_of_ble_eq_true rfl) dX11_thickestCutAt_49 ?_
  refine x_iload C 2 rfl dX11_thickestCutAt_51 ?_
  refine x_iload C 1 rfl dX11_thickestCutAt_53 ?_
  refine x_iload C 0 rfl dX11_thickestCutAt_55 ?_
  refine x_callS C (st := [.int r4]) (As := [.int r6, .int r8]) (tJ9_max_7cf53 hg _ _ _ _ _  h) wm_X11_383 wsm_J9_max_7cf53 wz_J9 wc_J9_max_7cf53 yd_J9_max_7cf53 rfl ⟨rfl, rfl⟩ ⟨Nat.le_of_ble_eq_true rfl, Nat.le_of_ble_eq_true rfl⟩ (Nat.le_of_ble_eq_true rfl) rfl dX11_thickestCutAt_57 (x_ki (fun r10 M9 h => ?_))
  refine x_callS C (st := []) (As := [.int r4, .int r10]) (tJ9_max_7cf53 hg _ _ _ _ _  h) wm_X11_383 wsm_J9_max_7cf53 wz_J9 wc_J9_max_7cf53 yd_J9_max_7cf53 rfl ⟨rfl, rfl⟩ ⟨Nat.le_of_ble_eq_true rfl, Nat.le_of_ble_eq_true rfl⟩ (Nat.le_of_ble_eq_true rfl) rfl dX11_thickestCutAt_60 (x_ki (fun r12 M11 h => ?_))
  exact x_iret C dX11_thickestCutAt_63 ⟨_, rfl, h⟩
set_option maxHeartbeats 4000000 in
set_option maxRecDepth 100000 in
theorem tX11_volumesCutAt_97 {g : xG} (hg : x_inj (WC g))  {x : xCx}   {post : Int32 → xMem → Prop} (C : xOk (WC g) x cX11_volumesCutAt RX11 6 (some .int) (rm_X11_volumesCutAt) (pI post))   (x2 : Int32) (s0 : Int32) (s1 : Int32) (M : xMem)  (h : wX11_volumesCutAt_97 post x2 s0 s1 M) : xW (WC g) x 6 97 [(2, .int x2)] [.int s0, .int s1] M := by
  unfold wX11_volumesCutAt_97 at h
  refine x_iadd C dX11_volumesCutAt_97 ?_
  refine x_iload_n C 0 rfl rfl dX11_volumesCutAt_98 ?_
  refine x_bipush C (v1 := 6) dX11_volumesCutAt_99 (by decide) ?_
  refine x_icmp_ge C (tgt := 108) dX11_volumesCutAt_101 (by decide) (fun hq1 => ?_) (fun hq1 => ?_)
  · replace h := x_ift hq1 h
    refine x_iconst C (v1 := 0) dX11_volumesCutAt_108 (by decide) ?_
    refine x_iadd C dX11_volumesCutAt_109 ?_
    exact x_iret C dX11_volumesCutAt_110 ⟨_, rfl, h⟩
  · replace h := x_iff hq1 h
    refine x_iconst C (v1 := 1) dX11_volumesCutAt_104 (by decide) ?_
    refine x_goto C (tgt := 109) dX11_volumesCutAt_105 (by decide) ?_
    refine x_iadd C dX11_volumesCutAt_109 ?_
    exact x_iret C dX11_volumesCutAt_110 ⟨_, rfl, h⟩
set_option maxHeartbeats 4000000 in
set_option maxRecDepth 100000 in
theorem tX11_volumesCutAt_67 {g : xG} (hg : x_inj (WC g))  {x : xCx}   {post : Int32 → xMem → Prop} (C : xOk (WC g) x cX11_volumesCutAt RX11 6 (some .int) (rm_X11_volumesCutAt) (pI post))   (x1 : Int32) (x2 : Int32) (x3 : Int32) (x4 : Int32) (s0 : Int32) (M : xMem)  (h : wX11_volumesCutAt_67 post x1 x2 x3 x4 s0 M) : xW (WC g) x 6 67 [(1, .int x1), (2, .int x2), (3, .int x3), (4, .int x4)] [.int s0] M := by
  unfold wX11_volumesCutAt_67 at h
  refine x_istore C (L' := [(5, .int s0), (1, .int x1), (2, .int x2), (3, .int x3), (4, .int x4)]) rfl (Nat.le_of_ble_eq_true rfl) dX11_volumesCutAt_67 ?_
  refine x_iload_n C 3 rfl rfl dX11_volumesCutAt_69 ?_
  refine x_if_eq C (tgt := 83) dX11_volumesCutAt_70 (by decide) (fun hq1 => ?_) (fun hq1 => ?_)
  · replace h := x_ift hq1 h
    refine x_iconst C (v1 := 0) dX11_volumesCutAt_83 (by decide) ?_
    exact x_iret C dX11_volumesCutAt_84 ⟨_, rfl, h⟩
  · replace h := x_iff hq1 h
    refine x_iload C 4 rfl dX11_volumesCutAt_73 ?_
    refine x_if_eq C (tgt := 83) dX11_volumesCutAt_75 (by decide) (fun hq2 => ?_) (fun hq2 => ?_)
    · replace h := x_ift hq2 h
      refine x_iconst C (v1 := 0) dX11_volumesCutAt_83 (by decide) ?_
      exact x_iret C dX11_volumesCutAt_84 ⟨_, rfl, h⟩
    · replace h := x_iff hq2 h
      refine x_iload C 0 rfl dX11_volumesCutAt_78 ?_
      refine x_if_ne C (tgt := 85) dX11_volumesCutAt_80 (by decide) (fun hq3 => ?_) (fun hq3 => ?_)
      · replace h := x_iff hq3 h
        refine x_iconst C (v1 := 1) dX11_volumesCutAt_85 (by decide) ?_
        refine x_iload_n C 1 rfl rfl dX11_volumesCutAt_86 ?_
        refine x_bipush C (v1 := 6) dX11_volumesCutAt_87 (by decide) ?_
        refine x_icmp_ge C (tgt := 96) dX11_volumesCutAt_89 (by decide) (fun hq4 => ?_) (fun hq4 => ?_)
        · replace h := x_ift hq4 h
          refine x_iconst C (v1 := 0) dX11_volumesCutAt_96 (by decide) ?_
          refine x_loc (L' := [(2, .int x2)]) [2] rfl ?_
          exact tX11_volumesCutAt_97 hg  C   _ _ _ _  h
        · replace h := x_iff hq4 h
          refine x_iconst C (v1 := 1) dX11_volumesCutAt_92 (by decide) ?_
          refine x_goto C (tgt := 97) dX11_volumesCutAt_93 (by decide) ?_
          refine x_loc (L' := [(2, .int x2)]) [2] rfl ?_
          exact tX11_volumesCutAt_97 hg  C   _ _ _ _  h
      · replace h := x_ift hq3 h
        refine x_iconst C (v1 := 0) dX11_volumesCutAt_83 (by decide) ?_
        exact x_iret C dX11_volumesCutAt_84 ⟨_, rfl, h⟩
set_option maxHeartbeats 4000000 in
set_option maxRecDepth 100000 in
theorem tX11_volumesCutAt_50 {g : xG} (hg : x_inj (WC g))  {x : xCx}   {post : Int32 → xMem → Prop} (C : xOk (WC g) x cX11_volumesCutAt RX11 6 (some .int) (rm_X11_volumesCutAt) (pI post))   (x0 : Int32) (x1 : Int32) (x2 : Int32) (x3 : Int32) (s0 : Int32) (M : xMem)  (h : wX11_volumesCutAt_50 post x0 x1 x2 x3 s0 M) : xW (WC g) x 6 50 [(0, .int x0), (1, .int x1), (2, .int x2), (3, .int x3)] [.int s0] M := by
  unfold wX11_volumesCutAt_50 at h
  refine x_istore C (L' := [(4, .int s0), (0, .int x0), (1, .int x1), (2, .int x2), (3, .int x3)]) rfl (Nat.le_of_ble_eq_true rfl) dX11_volumesCutAt_50 ?_
  refine x_iload_n C 1 rfl rfl dX11_volumesCutAt_52 ?_
  refine x_iconst C (v1 := 1) dX11_volumesCutAt_53 (by decide) ?_
  refine x_iload_n C 2 rfl rfl dX11_volumesCutAt_54 ?_
  refine x_ishl C dX11_volumesCutAt_55 ?_
  refine x_iconst C (v1 := 1) dX11_volumesCutAt_56 (by decide) ?_
  refine x_isub C dX11_volumesCutAt_57 ?_
  refine x_iand C dX11_volumesCutAt_58 ?_
  refine x_if_eq C (tgt := 66) dX11_volumesCutAt_59 (by decide) (fun hq1 => ?_) (fun hq1 => ?_)
  · replace h := x_ift hq1 h
    refine x_iconst C (v1 := 0) dX11_volumesCutAt_66 (by decide) ?_
    refine x_loc (L' := [(1, .int x1), (2, .int x2), (3, .int x3), (4, .int s0)]) [2, 3, 4, 0] rfl ?_
    exact tX11_volumesCutAt_67 hg  C   _ _ _ _ _ _  h
  · replace h := x_iff hq1 h
    refine x_iconst C (v1 := 1) dX11_volumesCutAt_62 (by decide) ?_
    refine x_goto C (tgt := 67) dX11_volumesCutAt_63 (by decide) ?_
    refine x_loc (L' := [(1, .int x1), (2, .int x2), (3, .int x3), (4, .int s0)]) [2, 3, 4, 0] rfl ?_
    exact tX11_volumesCutAt_67 hg  C   _ _ _ _ _ _  h
set_option maxHeartbeats 4000000 in
set_option maxRecDepth 100000 in
theorem tX11_volumesCutAt_45 {g : xG} (hg : x_inj (WC g))  {x : xCx}   {post : Int32 → xMem → Prop} (C : xOk (WC g) x cX11_volumesCutAt RX11 6 (some .int) (rm_X11_volumesCutAt) (pI post))   (x0 : Int32) (x1 : Int32) (x2 : Int32) (x3 : Int32) (M : xMem)  (h : wX11_volumesCutAt_45 post x0 x1 x2 x3 M) : xW (WC g) x 6 45 [(0, .int x0), (1, .int x1), (2, .int x2), (3, .int x3)] [] M := by
  unfold wX11_volumesCutAt_45 at h
  refine x_iconst C (v1 := 1) dX11_volumesCutAt_45 (by decide) ?_
  refine x_goto C (tgt := 50) dX11_volumesCutAt_46 (by decide) ?_
  exact tX11_volumesCutAt_50 hg  C   _ _ _ _ _ _  h
set_option maxHeartbeats 4000000 in
set_option maxRecDepth 100000 in
theorem tX11_volumesCutAt_33 {g : xG} (hg : x_inj (WC g))  {x : xCx}   {post : Int32 → xMem → Prop} (C : xOk (WC g) x cX11_volumesCutAt RX11 6 (some .int) (rm_X11_volumesCutAt) (pI post))   (x0 : Int32) (x1 : Int32) (x2 : Int32) (s0 : Int32) (M : xMem)  (h : wX11_volumesCutAt_33 post x0 x1 x2 s0 M) : xW (WC g) x 6 33 [(0, .int x0), (1, .int x1), (2, .int x2)] [.int s0] M := by
  unfold wX11_volumesCutAt_33 at h
  refine x_istore_n C (L' := [(3, .int s0), (0, .int x0), (1, .int x1), (2, .int x2)]) rfl rfl (Nat.le_of_ble_eq_true rfl) dX11_volumesCutAt_33 ?_
  refine x_iload_n C 2 rfl rfl dX11_volumesCutAt_34 ?_
  refine x_iload_n C 3 rfl rfl dX11_volumesCutAt_35 ?_
  refine x_icmp_lt C (tgt := 45) dX11_volumesCutAt_36 (by decide) (fun hq1 => ?_) (fun hq1 => ?_)
  · replace h := x_ift hq1 h
    refine x_loc (L' := [(0, .int x0), (1, .int x1), (2, .int x2), (3, .int s0)]) [1, 2, 3, 0] rfl ?_
    exact tX11_volumesCutAt_45 hg  C   _ _ _ _ _  h
  · replace h := x_iff hq1 h
    refine x_iload_n C 2 rfl rfl dX11_volumesCutAt_39 ?_
    refine x_bipush C (v1 := 6) dX11_volumesCutAt_40 (by decide) ?_
    refine x_icmp_ne C (tgt := 49) dX11_volumesCutAt_42 (by decide) (fun hq2 => ?_) (fun hq2 => ?_)
    · replace h := x_iff hq2 h
      refine x_iconst C (v1 := 0) dX11_volumesCutAt_49 (by decide) ?_
      refine x_loc (L' := [(0, .int x0), (1, .int x1), (2, .int x2), (3, .int s0)]) [1, 2, 3, 0] rfl ?_
      exact tX11_volumesCutAt_50 hg  C   _ _ _ _ _ _  h
    · replace h := x_ift hq2 h
      refine x_loc (L' := [(0, .int x0), (1, .int x1), (2, .int x2), (3, .int s0)]) [1, 2, 3, 0] rfl ?_
      exact tX11_volumesCutAt_45 hg  C   _ _ _ _ _  h
set_option maxHeartbeats 4000000 in
set_option maxRecDepth 100000 in
theorem tX11_volumesCutAt_28 {g : xG} (hg : x_inj (WC g))  {x : xCx}   {post : Int32 → xMem → Prop} (C : xOk (WC g) x cX11_volumesCutAt RX11 6 (some .int) (rm_X11_volumesCutAt) (pI post))   (x0 : Int32) (x1 : Int32) (x2 : Int32) (M : xMem)  (h : wX11_volumesCutAt_28 post x0 x1 x2 M) : xW (WC g) x 6 28 [(0, .int x0), (1, .int x1), (2, .int x2)] [] M := by
  unfold wX11_volumesCutAt_28 at h
  refine x_iconst C (v1 := 1) dX11_volumesCutAt_28 (by decide) ?_
  refine x_goto C (tgt := 33) dX11_volumesCutAt_29 (by decide) ?_
  exact tX11_volumesCutAt_33 hg  C   _ _ _ _ _  h
set_option maxHeartbeats 4000000 in
set_option maxRecDepth 100000 in
theorem tX11_volumesCutAt_32 {g : xG} (hg : x_inj (WC g))  {x : xCx}   {post : Int32 → xMem → Prop} (C : xOk (WC g) x cX11_volumesCutAt RX11 6 (some .int) (rm_X11_volumesCutAt) (pI post))   (x0 : Int32) (x1 : Int32) (x2 : Int32) (M : xMem)  (h : wX11_volumesCutAt_32 post x0 x1 x2 M) : xW (WC g) x 6 32 [(0, .int x0), (1, .int x1), (2, .int x2)] [] M := by
  unfold wX11_volumesCutAt_32 at h
  refine x_iconst C (v1 := 0) dX11_volumesCutAt_32 (by decide) ?_
  exact tX11_volumesCutAt_33 hg  C   _ _ _ _ _  h
set_option maxHeartbeats 4000000 in
set_option maxRecDepth 100000 in
theorem tX11_volumesCutAt_14 {g : xG} (hg : x_inj (WC g))  {x : xCx}   {post : Int32 → xMem → Prop} (C : xOk (WC g) x cX11_volumesCutAt RX11 6 (some .int) (rm_X11_volumesCutAt) (pI post))   (x0 : Int32) (x1 : Int32) (x2 : Int32) (M : xMem)  (h : wX11_volumesCutAt_14 post x0 x1 x2 M) : xW (WC g) x 6 14 [(0, .int x0), (1, .int x1), (2, .int x2)] [] M := by
  unfold wX11_volumesCutAt_14 at h
  refine x_iload_n C 2 rfl rfl dX11_volumesCutAt_14 ?_
  refine x_bipush C (v1 := 6) dX11_volumesCutAt_15 (by decide) ?_
  refine x_icmp_eq C (tgt := 28) dX11_volumesCutAt_17 (by decide) (fun hq1 => ?_) (fun hq1 => ?_)
  · replace h := x_ift hq1 h
    exact tX11_volumesCutAt_28 hg  C   _ _ _ _  h
  · replace h := x_iff hq1 h
    refine x_iload_n C 0 rfl rfl dX11_volumesCutAt_20 ?_
    refine x_iload_n C 2 rfl rfl dX11_volumesCutAt_21 ?_
    refine x_callS C (st := []) (As := [.int x0, .int x2]) (tX11_has hg _ _ _ _ _  h) wm_X11_164 wsm_X11_has wz_X11 wc_X11_has yd_X11_has rfl ⟨rfl, rfl⟩ ⟨Nat.le_of_ble_eq_true rfl, Nat.le_of_ble_eq_true rfl⟩ (Nat.le_of_ble_eq_true rfl) rfl dX11_volumesCutAt_22 (x_ki (fun r3 M2 h => ?_))
    refine x_if_eq C (tgt := 32) dX11_volumesCutAt_25 (by decide) (fun hq4 => ?_) (fun hq4 => ?_)
    · replace h := x_ift hq4 h
      exact tX11_volumesCutAt_32 hg  C   _ _ _ _  h
    · replace h := x_iff hq4 h
      exact tX11_volumesCutAt_28 hg  C   _ _ _ _  h
set_option maxHeartbeats 4000000 in
set_option maxRecDepth 100000 in
theorem tX11_volumesCutAt {g : xG} (hg : x_inj (WC g))  (l : Launch) (a0 : Int32) (a1 : Int32) (a2 : Int32) (M : xMem) (post : Int32 → xMem → Prop)  (h : wX11_volumesCutAt a0 a1 a2 M post) : xMet (WC g) l yX11_volumesCutAt cX11_volumesCutAt 6 (some .int) (rm_X11_volumesCutAt) [.int a0, .int a1, .int a2] M (pI post) := by
  refine x_enter (own := RX11) (L0 := [(0, .int a0), (1, .int a1), (2, .int a2)]) (by decide +kernel) rfl hg (x_stC g) (Nat.le_of_ble_eq_true rfl) rfl (fun x hl C => ?_)
  unfold wX11_volumesCutAt at h
  refine x_iload_n C 1 rfl rfl dX11_volumesCutAt_0 ?_
  refine x_bipush C (v1 := 6) dX11_volumesCutAt_1 (by decide) ?_
  refine x_icmp_eq C (tgt := 14) dX11_volumesCutAt_3 (by decide) (fun hq1 => ?_) (fun hq1 => ?_)
  · replace h := x_ift hq1 h
    exact tX11_volumesCutAt_14 hg  C   _ _ _ _  h
  · replace h := x_iff hq1 h
    refine x_iload_n C 0 rfl rfl dX11_volumesCutAt_6 ?_
    refine x_iload_n C 1 rfl rfl dX11_volumesCutAt_7 ?_
    refine x_callS C (st := []) (As := [.int a0, .int a1]) (tX11_has hg _ _ _ _ _  h) wm_X11_164 wsm_X11_has wz_X11 wc_X11_has yd_X11_has rfl ⟨rfl, rfl⟩ ⟨Nat.le_of_ble_eq_true rfl, Nat.le_of_ble_eq_true rfl⟩ (Nat.le_of_ble_eq_true rfl) rfl dX11_volumesCutAt_8 (x_ki (fun r3 M2 h => ?_))
    refine x_if_eq C (tgt := 32) dX11_volumesCutAt_11 (by decide) (fun hq4 => ?_) (fun hq4 => ?_)
    · replace h := x_ift hq4 h
      exact tX11_volumesCutAt_32 hg  C   _ _ _ _  h
    · replace h := x_iff hq4 h
      exact tX11_volumesCutAt_14 hg  C   _ _ _ _  h
set_option maxHeartbeats 4000000 in
set_option maxRecDepth 100000 in
theorem tX11_book_170 {g : xG} (hg : x_inj (WC g))  {x : xCx}  {K73 : Int32 → Int32 → Int32 → Int32 → Int32 → Int32 → Int32 → xMem → Prop} {K84 : Int32 → Int32 → Int32 → Int32 → Int32 → Int32 → Int32 → Int32 → xMem → Prop} {post : Int32 → xMem → Prop} (C : xOk (WC g) x cX11_book RX11 13 (some .int) (rm_X11_book) (pI post))  (hK73 : ∀ (x1 : Int32) (x2 : Int32) (x3 : Int32) (x6 : Int32) (x7 : Int32) (x8 : Int32) (x9 : Int32) (M : xMem), K73 x1 x2 x3 x6 x7 x8 x9 M → xW (WC g) x 13 73 [(0, .ref (ga g 0)), (1, .int x1), (2, .int x2), (3, .int x3), (6, .int x6), (7, .int x7), (8, .int x8), (9, .int x9)] [] M) (hK84 : ∀ (x1 : Int32) (x2 : Int32) (x3 : Int32) (x6 : Int32) (x7 : Int32) (x8 : Int32) (x9 : Int32) (x10 : Int32) (M : xMem), K84 x1 x2 x3 x6 x7 x8 x9 x10 M → xW (WC g) x 13 84 [(0, .ref (ga g 0)), (1, .int x1), (2, .int x2), (3, .int x3), (6, .int x6), (7, .int x7), (8, .int x8), (9, .int x9), (10, .int x10)] [] M) (x1 : Int32) (x2 : Int32) (x3 : Int32) (x6 : Int32) (x7 : Int32) (x8 : Int32) (x9 : Int32) (x10 : Int32) (M : xMem)  (h : wX11_book_170 K73 K84 post x1 x2 x3 x6 x7 x8 x9 x10 M) : xW (WC g) x 13 170 [(0, .ref (ga g 0)), (1, .int x1), (2, .int x2), (3, .int x3), (6, .int x6), (7, .int x7), (8, .int x8), (9, .int x9), (10, .int x10)] [] M := by
  unfold wX11_book_170 at h
  obtain ⟨v1, ev1⟩ : ∃ z : Int32, z = x10 + 1 := ⟨_, rfl⟩
  replace h := h v1 ev1
  refine x_iinc C 8 (v1 := v1) (L' := [(10, .int v1), (0, .ref (ga g 0)), (1, .int x1), (2, .int x2), (3, .int x3), (6, .int x6), (7, .int x7), (8, .int x8), (9, .int x9)]) rfl (by rw [ev1]; rfl) rfl (Nat.le_of_ble_eq_true rfl) dX11_book_170 ?_
  refine x_goto C (tgt := 84) dX11_book_173 (by decide) ?_
  refine x_loc (L' := [(0, .ref (ga g 0)), (1, .int x1), (2, .int x2), (3, .int x3), (6, .int x6), (7, .int x7), (8, .int x8), (9, .int x9), (10, .int v1)]) [1, 2, 3, 4, 5, 6, 7, 8, 0] rfl ?_
  exact hK84 _ _ _ _ _ _ _ _ _  h
set_option maxHeartbeats 4000000 in
set_option maxRecDepth 100000 in
theorem tX11_book_168 {g : xG} (hg : x_inj (WC g))  {x : xCx}  {K73 : Int32 → Int32 → Int32 → Int32 → Int32 → Int32 → Int32 → xMem → Prop} {K84 : Int32 → Int32 → Int32 → Int32 → Int32 → Int32 → Int32 → Int32 → xMem → Prop} {post : Int32 → xMem → Prop} (C : xOk (WC g) x cX11_book RX11 13 (some .int) (rm_X11_book) (pI post))  (hK73 : ∀ (x1 : Int32) (x2 : Int32) (x3 : Int32) (x6 : Int32) (x7 : Int32) (x8 : Int32) (x9 : Int32) (M : xMem), K73 x1 x2 x3 x6 x7 x8 x9 M → xW (WC g) x 13 73 [(0, .ref (ga g 0)), (1, .int x1), (2, .int x2), (3, .int x3), (6, .int x6), (7, .int x7), (8, .int x8), (9, .int x9)] [] M) (hK84 : ∀ (x1 : Int32) (x2 : Int32) (x3 : Int32) (x6 : Int32) (x7 : Int32) (x8 : Int32) (x9 : Int32) (x10 : Int32) (M : xMem), K84 x1 x2 x3 x6 x7 x8 x9 x10 M → xW (WC g) x 13 84 [(0, .ref (ga g 0)), (1, .int x1), (2, .int x2), (3, .int x3), (6, .int x6), (7, .int x7), (8, .int x8), (9, .int x9), (10, .int x10)] [] M) (x1 : Int32) (x2 : Int32) (x3 : Int32) (x6 : Int32) (x7 : Int32) (x9 : Int32) (x10 : Int32) (s0 : Int32) (M : xMem)  (h : wX11_book_168 K73 K84 post x1 x2 x3 x6 x7 x9 x10 s0 M) : xW (WC g) x 13 168 [(0, .ref (ga g 0)), (1, .int x1), (2, .int x2), (3, .int x3), (6, .int x6), (7, .int x7), (9, .int x9), (10, .int x10)] [.int s0] M := by
  unfold wX11_book_168 at h
  refine x_istore C (L' := [(8, .int s0), (0, .ref (ga g 0)), (1, .int x1), (2, .int x2), (3, .int x3), (6, .int x6), (7, .int x7), (9, .int x9), (10, .int x10)]) rfl (Nat.le_of_ble_eq_true rfl) dX11_book_168 ?_
  refine x_loc (L' := [(0, .ref (ga g 0)), (1, .int x1), (2, .int x2), (3, .int x3), (6, .int x6), (7, .int x7), (8, .int s0), (9, .int x9), (10, .int x10)]) [1, 2, 3, 4, 5, 6, 0, 7, 8] rfl ?_
  exact tX11_book_170 hg  C  hK73 hK84 _ _ _ _ _ _ _ _ _  h
set_option maxHeartbeats 4000000 in
set_option maxRecDepth 100000 in
theorem tX11_book_154 {g : xG} (hg : x_inj (WC g))  {x : xCx}  {K73 : Int32 → Int32 → Int32 → Int32 → Int32 → Int32 → Int32 → xMem → Prop} {K84 : Int32 → Int32 → Int32 → Int32 → Int32 → Int32 → Int32 → Int32 → xMem → Prop} {post : Int32 → xMem → Prop} (C : xOk (WC g) x cX11_book RX11 13 (some .int) (rm_X11_book) (pI post))  (hK73 : ∀ (x1 : Int32) (x2 : Int32) (x3 : Int32) (x6 : Int32) (x7 : Int32) (x8 : Int32) (x9 : Int32) (M : xMem), K73 x1 x2 x3 x6 x7 x8 x9 M → xW (WC g) x 13 73 [(0, .ref (ga g 0)), (1, .int x1), (2, .int x2), (3, .int x3), (6, .int x6), (7, .int x7), (8, .int x8), (9, .int x9)] [] M) (hK84 : ∀ (x1 : Int32) (x2 : Int32) (x3 : Int32) (x6 : Int32) (x7 : Int32) (x8 : Int32) (x9 : Int32) (x10 : Int32) (M : xMem), K84 x1 x2 x3 x6 x7 x8 x9 x10 M → xW (WC g) x 13 84 [(0, .ref (ga g 0)), (1, .int x1), (2, .int x2), (3, .int x3), (6, .int x6), (7, .int x7), (8, .int x8), (9, .int x9), (10, .int x10)] [] M) (x1 : Int32) (x2 : Int32) (x3 : Int32) (x6 : Int32) (x9 : Int32) (x10 : Int32) (s0 : Int32) (M : xMem)  (h : wX11_book_154 K73 K84 post x1 x2 x3 x6 x9 x10 s0 M) : xW (WC g) x 13 154 [(0, .ref (ga g 0)), (1, .int x1), (2, .int x2), (3, .int x3), (6, .int x6), (9, .int x9), (10, .int x10)] [.int s0] M := by
  unfold wX11_book_154 at h
  refine x_istore C (L' := [(7, .int s0), (0, .ref (ga g 0)), (1, .int x1), (2, .int x2), (3, .int x3), (6, .int x6), (9, .int x9), (10, .int x10)]) rfl (Nat.le_of_ble_eq_true rfl) dX11_book_154 ?_
  refine x_iload_n C 3 rfl rfl dX11_book_156 ?_
  refine x_iconst C (v1 := 2) dX11_book_157 (by decide) ?_
  refine x_icmp_le C (tgt := 166) dX11_book_158 (by decide) (fun hq1 => ?_) (fun hq1 => ?_)
  · replace h := x_ift hq1 h
    refine x_bipush C (v1 := (-2)) dX11_book_166 (by decide) ?_
    refine x_loc (L' := [(0, .ref (ga g 0)), (1, .int x1), (2, .int x2), (3, .int x3), (6, .int x6), (7, .int s0), (9, .int x9), (10, .int x10)]) [1, 2, 3, 4, 5, 0, 6, 7] rfl ?_
    exact tX11_book_168 hg  C  hK73 hK84 _ _ _ _ _ _ _ _ _  h
  · replace h := x_iff hq1 h
    refine x_iload C 7 rfl dX11_book_161 ?_
    refine x_goto C (tgt := 168) dX11_book_163 (by decide) ?_
    refine x_loc (L' := [(0, .ref (ga g 0)), (1, .int x1), (2, .int x2), (3, .int x3), (6, .int x6), (7, .int s0), (9, .int x9), (10, .int x10)]) [1, 2, 3, 4, 5, 0, 6, 7] rfl ?_
    exact tX11_book_168 hg  C  hK73 hK84 _ _ _ _ _ _ _ _ _  h
set_option maxHeartbeats 4000000 in
set_option maxRecDepth 100000 in
theorem tX11_book_129 {g : xG} (hg : x_inj (WC g))  {x : xCx}  {K73 : Int32 → Int32 → Int32 → Int32 → Int32 → Int32 → Int32 → xMem → Prop} {K84 : Int32 → Int32 → Int32 → Int32 → Int32 → Int32 → Int32 → Int32 → xMem → Prop} {post : Int32 → xMem → Prop} (C : xOk (WC g) x cX11_book RX11 13 (some .int) (rm_X11_book) (pI post))  (hK73 : ∀ (x1 : Int32) (x2 : Int32) (x3 : Int32) (x6 : Int32) (x7 : Int32) (x8 : Int32) (x9 : Int32) (M : xMem), K73 x1 x2 x3 x6 x7 x8 x9 M → xW (WC g) x 13 73 [(0, .ref (ga g 0)), (1, .int x1), (2, .int x2), (3, .int x3), (6, .int x6), (7, .int x7), (8, .int x8), (9, .int x9)] [] M) (hK84 : ∀ (x1 : Int32) (x2 : Int32) (x3 : Int32) (x6 : Int32) (x7 : Int32) (x8 : Int32) (x9 : Int32) (x10 : Int32) (M : xMem), K84 x1 x2 x3 x6 x7 x8 x9 x10 M → xW (WC g) x 13 84 [(0, .ref (ga g 0)), (1, .int x1), (2, .int x2), (3, .int x3), (6, .int x6), (7, .int x7), (8, .int x8), (9, .int x9), (10, .int x10)] [] M) (x1 : Int32) (x2 : Int32) (x3 : Int32) (x6 : Int32) (x7 : Int32) (x8 : Int32) (x9 : Int32) (x10 : Int32) (s0 : Int32) (M : xMem)  (h : wX11_book_129 K73 K84 post x1 x2 x3 x6 x7 x8 x9 x10 s0 M) : xW (WC g) x 13 129 [(0, .ref (ga g 0)), (1, .int x1), (2, .int x2), (3, .int x3), (6, .int x6), (7, .int x7), (8, .int x8), (9, .int x9), (10, .int x10)] [.int s0] M := by
  unfold wX11_book_129 at h
  refine x_istore C (L' := [(12, .int s0), (0, .ref (ga g 0)), (1, .int x1), (2, .int x2), (3, .int x3), (6, .int x6), (7, .int x7), (8, .int x8), (9, .int x9), (10, .int x10)]) rfl (Nat.le_of_ble_eq_true rfl) dX11_book_129 ?_
  refine x_iload C 0 rfl dX11_book_131 ?_
  refine x_iload C 5 rfl dX11_book_133 ?_
  refine x_icmp_ge C (tgt := 170) dX11_book_135 (by decide) (fun hq1 => ?_) (fun hq1 => ?_)
  · replace h := x_ift hq1 h
    refine x_loc (L' := [(0, .ref (ga g 0)), (1, .int x1), (2, .int x2), (3, .int x3), (6, .int x6), (7, .int x7), (8, .int x8), (9, .int x9), (10, .int x10)]) [1, 2, 3, 4, 5, 6, 7, 8, 9] rfl ?_
    exact tX11_book_170 hg  C  hK73 hK84 _ _ _ _ _ _ _ _ _  h
  · replace h := x_iff hq1 h
    refine x_iload C 0 rfl dX11_book_138 ?_
    refine x_istore C (L' := [(6, .int s0), (12, .int s0), (0, .ref (ga g 0)), (1, .int x1), (2, .int x2), (3, .int x3), (7, .int x7), (8, .int x8), (9, .int x9), (10, .int x10)]) rfl (Nat.le_of_ble_eq_true rfl) dX11_book_140 ?_
    refine x_iload_n C 4 rfl rfl dX11_book_142 ?_
    refine x_iconst C (v1 := 1) dX11_book_143 (by decide) ?_
    refine x_icmp_le C (tgt := 152) dX11_book_144 (by decide) (fun hq2 => ?_) (fun hq2 => ?_)
    · replace h := x_ift hq2 h
      refine x_bipush C (v1 := (-2)) dX11_book_152 (by decide) ?_
      refine x_loc (L' := [(0, .ref (ga g 0)), (1, .int x1), (2, .int x2), (3, .int x3), (6, .int s0), (9, .int x9), (10, .int x10)]) [2, 3, 4, 5, 0, 8, 9] rfl ?_
      exact tX11_book_154 hg  C  hK73 hK84 _ _ _ _ _ _ _ _  h
    · replace h := x_iff hq2 h
      refine x_iload C 8 rfl dX11_book_147 ?_
      refine x_goto C (tgt := 154) dX11_book_149 (by decide) ?_
      refine x_loc (L' := [(0, .ref (ga g 0)), (1, .int x1), (2, .int x2), (3, .int x3), (6, .int s0), (9, .int x9), (10, .int x10)]) [2, 3, 4, 5, 0, 8, 9] rfl ?_
      exact tX11_book_154 hg  C  hK73 hK84 _ _ _ _ _ _ _ _  h
set_option maxHeartbeats 4000000 in
set_option maxRecDepth 100000 in
theorem tX11_book_108 {g : xG} (hg : x_inj (WC g))  {x : xCx}  {K73 : Int32 → Int32 → Int32 → Int32 → Int32 → Int32 → Int32 → xMem → Prop} {K84 : Int32 → Int32 → Int32 → Int32 → Int32 → Int32 → Int32 → Int32 → xMem → Prop} {post : Int32 → xMem → Prop} (C : xOk (WC g) x cX11_book RX11 13 (some .int) (rm_X11_book) (pI post))  (hK73 : ∀ (x1 : Int32) (x2 : Int32) (x3 : Int32) (x6 : Int32) (x7 : Int32) (x8 : Int32) (x9 : Int32) (M : xMem), K73 x1 x2 x3 x6 x7 x8 x9 M → xW (WC g) x 13 73 [(0, .ref (ga g 0)), (1, .int x1), (2, .int x2), (3, .int x3), (6, .int x6), (7, .int x7), (8, .int x8), (9, .int x9)] [] M) (hK84 : ∀ (x1 : Int32) (x2 : Int32) (x3 : Int32) (x6 : Int32) (x7 : Int32) (x8 : Int32) (x9 : Int32) (x10 : Int32) (M : xMem), K84 x1 x2 x3 x6 x7 x8 x9 x10 M → xW (WC g) x 13 84 [(0, .ref (ga g 0)), (1, .int x1), (2, .int x2), (3, .int x3), (6, .int x6), (7, .int x7), (8, .int x8), (9, .int x9), (10, .int x10)] [] M) (x1 : Int32) (x2 : Int32) (x3 : Int32) (x6 : Int32) (x7 : Int32) (x8 : Int32) (x9 : Int32) (x10 : Int32) (s0 : Int32) (M : xMem)  (h : wX11_book_108 K73 K84 post x1 x2 x3 x6 x7 x8 x9 x10 s0 M) : xW (WC g) x 13 108 [(0, .ref (ga g 0)), (1, .int x1), (2, .int x2), (3, .int x3), (6, .int x6), (7, .int x7), (8, .int x8), (9, .int x9), (10, .int x10)] [.int s0] M := by
  unfold wX11_book_108 at h
  refine x_istore C (L' := [(11, .int s0), (0, .ref (ga g 0)), (1, .int x1), (2, .int x2), (3, .int x3), (6, .int x6), (7, .int x7), (8, .int x8), (9, .int x9), (10, .int x10)]) rfl (Nat.le_of_ble_eq_true rfl) dX11_book_108 ?_
  refine x_iload C 0 rfl dX11_book_110 ?_
  refine x_if_eq C (tgt := 127) dX11_book_112 (by decide) (fun hq1 => ?_) (fun hq1 => ?_)
  · replace h := x_ift hq1 h
    refine x_iload C 5 rfl dX11_book_127 ?_
    refine x_loc (L' := [(0, .ref (ga g 0)), (1, .int x1), (2, .int x2), (3, .int x3), (6, .int x6), (7, .int x7), (8, .int x8), (9, .int x9), (10, .int x10)]) [1, 2, 3, 4, 5, 6, 7, 8, 9] rfl ?_
    exact tX11_book_129 hg  C  hK73 hK84 _ _ _ _ _ _ _ _ _ _  h
  · replace h := x_iff hq1 h
    refine x_aload_n C 1 rfl rfl dX11_book_115 ?_
    refine x_iload_n C 2 rfl rfl dX11_book_116 ?_
    refine x_iload C 8 rfl dX11_book_117 ?_
    refine x_iload C 9 rfl dX11_book_119 ?_
    refine x_callV C (st := []) (As := [.int x1, .int x9, .int x10]) (c := 0) (ci := 11) (enC_11 (c := 0) rfl) (Nat.le_of_ble_eq_true rfl) rfl (tX11_thickestCutAt hg _ _ _ _ _ _  h) wm_X11_363 wi_X11_thickestCutAt wv_X11_thickestCutAt wz_X11 wc_X11_thickestCutAt rfl yd_X11_thickestCutAt rfl ⟨rfl, rfl⟩ ⟨Nat.le_of_ble_eq_true rfl, Nat.le_of_ble_eq_true rfl⟩ (Nat.le_of_ble_eq_true rfl) rfl dX11_book_121 (x_ki (fun r3 M2 h => ?_))
    refine x_goto C (tgt := 129) dX11_book_124 (by decide) ?_
    refine x_loc (L' := [(0, .ref (ga g 0)), (1, .int x1), (2, .int x2), (3, .int x3), (6, .int x6), (7, .int x7), (8, .int x8), (9, .int x9), (10, .int x10)]) [1, 2, 3, 4, 5, 6, 7, 8, 9] rfl ?_
    exact tX11_book_129 hg  C  hK73 hK84 _ _ _ _ _ _ _ _ _ _  h
set_option maxHeartbeats 4000000 in
set_option maxRecDepth 100000 in
theorem tX11_book_84 {g : xG} (hg : x_inj (WC g))  {x : xCx}  {K73 : Int32 → Int32 → Int32 → Int32 → Int32 → Int32 → Int32 → xMem → Prop} {post : Int32 → xMem → Prop} (C : xOk (WC g) x cX11_book RX11 13 (some .int) (rm_X11_book) (pI post))  (hK73 : ∀ (x1 : Int32) (x2 : Int32) (x3 : Int32) (x6 : Int32) (x7 : Int32) (x8 : Int32) (x9 : Int32) (M : xMem), K73 x1 x2 x3 x6 x7 x8 x9 M → xW (WC g) x 13 73 [(0, .ref (ga g 0)), (1, .int x1), (2, .int x2), (3, .int x3), (6, .int x6), (7, .int x7), (8, .int x8), (9, .int x9)] [] M) : ∀ (n : Nat) (x1 : Int32) (x2 : Int32) (x3 : Int32) (x6 : Int32) (x7 : Int32) (x8 : Int32) (x9 : Int32) (x10 : Int32) (M : xMem), wX11_book_84 K73 post n x1 x2 x3 x6 x7 x8 x9 x10 M → xW (WC g) x 13 84 [(0, .ref (ga g 0)), (1, .int x1), (2, .int x2), (3, .int x3), (6, .int x6), (7, .int x7), (8, .int x8), (9, .int x9), (10, .int x10)] [] M := by
  intro n
  induction n with
  | zero =>
    intro x1 x2 x3 x6 x7 x8 x9 x10 M  h
    exact h.elim
  | succ n ih =>
    intro x1 x2 x3 x6 x7 x8 x9 x10 M  h
    rw [wX11_book_84] at h
    refine x_iload C 8 rfl dX11_book_84 ?_
    refine x_bipush C (v1 := 6) dX11_book_86 (by decide) ?_
    refine x_icmp_gt C (tgt := 176) dX11_book_88 (by decide) (fun hq1 => ?_) (fun hq1 => ?_)
    · replace h := x_ift hq1 h
      obtain ⟨v2, ev2⟩ : ∃ z : Int32, z = x9 + 1 := ⟨_, rfl⟩
      replace h := h v2 ev2
      refine x_iinc C 7 (v1 := v2) (L' := [(9, .int v2), (0, .ref (ga g 0)), (1, .int x1), (2, .int x2), (3, .int x3), (6, .int x6), (7, .int x7), (8, .int x8), (10, .int x10)]) rfl (by rw [ev2]; rfl) rfl (Nat.le_of_ble_eq_true rfl) dX11_book_176 ?_
      refine x_goto C (tgt := 73) dX11_book_179 (by decide) ?_
      refine x_loc (L' := [(0, .ref (ga g 0)), (1, .int x1), (2, .int x2), (3, .int x3), (6, .int x6), (7, .int x7), (8, .int x8), (9, .int v2)]) [1, 2, 3, 4, 5, 6, 7, 0] rfl ?_
      exact hK73 _ _ _ _ _ _ _ _  h
    · replace h := x_iff hq1 h
      refine x_iload_n C 1 rfl rfl dX11_book_91 ?_
      refine x_iload C 7 rfl dX11_book_92 ?_
      refine x_iload C 8 rfl dX11_book_94 ?_
      refine x_callS C (st := []) (As := [.int x1, .int x9, .int x10]) (tX11_volumesCutAt hg _ _ _ _ _ _  h) wm_X11_360 wsm_X11_volumesCutAt wz_X11 wc_X11_volumesCutAt yd_X11_volumesCutAt rfl ⟨rfl, rfl⟩ ⟨Nat.le_of_ble_eq_true rfl, Nat.le_of_ble_eq_true rfl⟩ (Nat.le_of_ble_eq_true rfl) rfl dX11_book_96 (x_ki (fun r4 M3 h => ?_))
      refine x_iload_n C 2 rfl rfl dX11_book_99 ?_
      refine x_icmp_ne C (tgt := 107) dX11_book_100 (by decide) (fun hq5 => ?_) (fun hq5 => ?_)
      · replace h := x_iff hq5 h
        refine x_iconst C (v1 := 0) dX11_book_107 (by decide) ?_
        exact tX11_book_108 hg  C  hK73 ih _ _ _ _ _ _ _ _ _ _  h
      · replace h := x_ift hq5 h
        refine x_iconst C (v1 := 1) dX11_book_103 (by decide) ?_
        refine x_goto C (tgt := 108) dX11_book_104 (by decide) ?_
        exact tX11_book_108 hg  C  hK73 ih _ _ _ _ _ _ _ _ _ _  h
set_option maxHeartbeats 4000000 in
set_option maxRecDepth 100000 in
theorem tX11_book_73 {g : xG} (hg : x_inj (WC g))  {x : xCx}   {post : Int32 → xMem → Prop} (C : xOk (WC g) x cX11_book RX11 13 (some .int) (rm_X11_book) (pI post))   : ∀ (n : Nat) (x1 : Int32) (x2 : Int32) (x3 : Int32) (x6 : Int32) (x7 : Int32) (x8 : Int32) (x9 : Int32) (M : xMem), wX11_book_73 post n x1 x2 x3 x6 x7 x8 x9 M → xW (WC g) x 13 73 [(0, .ref (ga g 0)), (1, .int x1), (2, .int x2), (3, .int x3), (6, .int x6), (7, .int x7), (8, .int x8), (9, .int x9)] [] M := by
  intro n
  induction n with
  | zero =>
    intro x1 x2 x3 x6 x7 x8 x9 M  h
    exact h.elim
  | succ n ih =>
    intro x1 x2 x3 x6 x7 x8 x9 M  h
    rw [wX11_book_73] at h
    refine x_iload C 7 rfl dX11_book_73 ?_
    refine x_bipush C (v1 := 6) dX11_book_75 (by decide) ?_
    refine x_icmp_gt C (tgt := 182) dX11_book_77 (by decide) (fun hq1 => ?_) (fun hq1 => ?_)
    · replace h := x_ift hq1 h
      refine x_iload_n C 3 rfl rfl dX11_book_182 ?_
      refine x_if_ne C (tgt := 189) dX11_book_183 (by decide) (fun hq2 => ?_) (fun hq2 => ?_)
      · replace h := x_iff hq2 h
        refine x_iload_n C 3 rfl rfl dX11_book_189 ?_
        refine x_iconst C (v1 := 1) dX11_book_190 (by decide) ?_
        refine x_icmp_ne C (tgt := 199) dX11_book_191 (by decide) (fun hq3 => ?_) (fun hq3 => ?_)
        · replace h := x_iff hq3 h
          refine x_iload C 6 rfl dX11_book_199 ?_
          exact x_iret C dX11_book_201 ⟨_, rfl, h⟩
        · replace h := x_ift hq3 h
          refine x_iload C 5 rfl dX11_book_194 ?_
          refine x_goto C (tgt := 201) dX11_book_196 (by decide) ?_
          exact x_iret C dX11_book_201 ⟨_, rfl, h⟩
      · replace h := x_ift hq2 h
        refine x_iload C 4 rfl dX11_book_186 ?_
        exact x_iret C dX11_book_188 ⟨_, rfl, h⟩
    · replace h := x_iff hq1 h
      refine x_iload C 7 rfl dX11_book_80 ?_
      refine x_istore C (L' := [(10, .int x9), (0, .ref (ga g 0)), (1, .int x1), (2, .int x2), (3, .int x3), (6, .int x6), (7, .int x7), (8, .int x8), (9, .int x9)]) rfl (Nat.le_of_ble_eq_true rfl) dX11_book_82 ?_
      refine x_loc (L' := [(0, .ref (ga g 0)), (1, .int x1), (2, .int x2), (3, .int x3), (6, .int x6), (7, .int x7), (8, .int x8), (9, .int x9), (10, .int x9)]) [1, 2, 3, 4, 5, 6, 7, 8, 0] rfl ?_
      obtain ⟨n84, h⟩ := h
      exact tX11_book_84 hg  C  ih _ _ _ _ _ _ _ _ _ _  h
set_option maxHeartbeats 4000000 in
set_option maxRecDepth 100000 in
theorem tX11_book_39 {g : xG} (hg : x_inj (WC g))  {x : xCx}   {post : Int32 → xMem → Prop} (C : xOk (WC g) x cX11_book RX11 13 (some .int) (rm_X11_book) (pI post))   (x1 : Int32) (x2 : Int32) (x3 : Int32) (s0 : Int32) (M : xMem)  (h : wX11_book_39 post x1 x2 x3 s0 M) : xW (WC g) x 13 39 [(0, .ref (ga g 0)), (1, .int x1), (2, .int x2), (3, .int x3)] [.int s0] M := by
  unfold wX11_book_39 at h
  refine x_istore C (L' := [(5, .int s0), (0, .ref (ga g 0)), (1, .int x1), (2, .int x2), (3, .int x3)]) rfl (Nat.le_of_ble_eq_true rfl) dX11_book_39 ?_
  refine x_iload C 0 rfl dX11_book_41 ?_
  refine x_if_eq C (tgt := 55) dX11_book_43 (by decide) (fun hq1 => ?_) (fun hq1 => ?_)
  · replace h := x_ift hq1 h
    refine x_iconst C (v1 := (-1)) dX11_book_55 (by decide) ?_
    exact x_iret C dX11_book_56 ⟨_, rfl, h⟩
  · replace h := x_iff hq1 h
    refine x_iload_n C 4 rfl rfl dX11_book_46 ?_
    refine x_iconst C (v1 := 0) dX11_book_47 (by decide) ?_
    refine x_iconst C (v1 := 2) dX11_book_48 (by decide) ?_
    refine x_callS C (st := []) (As := [.int x3, .int 0, .int 2]) (tX11_isWithin hg _ _ _ _ _ _  h) wm_X11_145 wsm_X11_isWithin wz_X11 wc_X11_isWithin yd_X11_isWithin rfl ⟨rfl, rfl⟩ ⟨Nat.le_of_ble_eq_true rfl, Nat.le_of_ble_eq_true rfl⟩ (Nat.le_of_ble_eq_true rfl) rfl dX11_book_49 (x_ki (fun r3 M2 h => ?_))
    refine x_if_ne C (tgt := 57) dX11_book_52 (by decide) (fun hq4 => ?_) (fun hq4 => ?_)
    · replace h := x_iff hq4 h
      refine x_sipush C (v1 := 433) dX11_book_57 (by decide) ?_
      refine x_istore C (L' := [(6, .int 433), (5, .int s0), (0, .ref (ga g 0)), (1, .int x1), (2, .int x2), (3, .int x3)]) rfl (Nat.le_of_ble_eq_true rfl) dX11_book_60 ?_
      refine x_bipush C (v1 := (-2)) dX11_book_62 (by decide) ?_
      refine x_istore C (L' := [(7, .int (-2)), (6, .int 433), (5, .int s0), (0, .ref (ga g 0)), (1, .int x1), (2, .int x2), (3, .int x3)]) rfl (Nat.le_of_ble_eq_true rfl) dX11_book_64 ?_
      refine x_bipush C (v1 := (-2)) dX11_book_66 (by decide) ?_
      refine x_istore C (L' := [(8, .int (-2)), (7, .int (-2)), (6, .int 433), (5, .int s0), (0, .ref (ga g 0)), (1, .int x1), (2, .int x2), (3, .int x3)]) rfl (Nat.le_of_ble_eq_true rfl) dX11_book_68 ?_
      refine x_iconst C (v1 := 1) dX11_book_70 (by decide) ?_
      refine x_istore C (L' := [(9, .int 1), (8, .int (-2)), (7, .int (-2)), (6, .int 433), (5, .int s0), (0, .ref (ga g 0)), (1, .int x1), (2, .int x2), (3, .int x3)]) rfl (Nat.le_of_ble_eq_true rfl) dX11_book_71 ?_
      refine x_loc (L' := [(0, .ref (ga g 0)), (1, .int x1), (2, .int x2), (3, .int x3), (6, .int 433), (7, .int (-2)), (8, .int (-2)), (9, .int 1)]) [5, 6, 7, 8, 3, 2, 1, 0] rfl ?_
      obtain ⟨n73, h⟩ := h
      exact tX11_book_73 hg  C   _ _ _ _ _ _ _ _ _  h
    · replace h := x_ift hq4 h
      refine x_iconst C (v1 := (-1)) dX11_book_55 (by decide) ?_
      exact x_iret C dX11_book_56 ⟨_, rfl, h⟩
set_option maxHeartbeats 4000000 in
set_option maxRecDepth 100000 in
theorem tX11_book_38 {g : xG} (hg : x_inj (WC g))  {x : xCx}   {post : Int32 → xMem → Prop} (C : xOk (WC g) x cX11_book RX11 13 (some .int) (rm_X11_book) (pI post))   (x1 : Int32) (x2 : Int32) (x3 : Int32) (M : xMem)  (h : wX11_book_38 post x1 x2 x3 M) : xW (WC g) x 13 38 [(0, .ref (ga g 0)), (1, .int x1), (2, .int x2), (3, .int x3)] [] M := by
  unfold wX11_book_38 at h
  refine x_iconst C (v1 := 0) dX11_book_38 (by decide) ?_
  exact tX11_book_39 hg  C   _ _ _ _ _  h
set_option maxHeartbeats 4000000 in
set_option maxRecDepth 100000 in
theorem tX11_book {g : xG} (hg : x_inj (WC g))  (l : Launch) (a0 : Int32) (a1 : Int32) (a2 : Int32) (M : xMem) (post : Int32 → xMem → Prop)  (h : wX11_book a0 a1 a2 M post) : xMet (WC g) l yX11_book cX11_book 13 (some .int) (rm_X11_book) [.ref (ga g 0), .int a0, .int a1, .int a2] M (pI post) := by
  refine x_enter (own := RX11) (L0 := [(0, .ref (ga g 0)), (1, .int a0), (2, .int a1), (3, .int a2)]) (by decide +kernel) rfl hg (x_stC g) (Nat.le_of_ble_eq_true rfl) rfl (fun x hl C => ?_)
  unfold wX11_book at h
  refine x_iload_n C 1 rfl rfl dX11_book_0 ?_
  refine x_callS C (st := []) (As := [.int a0]) (tJ6_bitCount_0f7a4 hg _ _ _ _  h) wm_X11_290 wsm_J6_bitCount_0f7a4 wz_J6 wc_J6_bitCount_0f7a4 yd_J6_bitCount_0f7a4 rfl ⟨rfl, rfl⟩ ⟨Nat.le_of_ble_eq_true rfl, Nat.le_of_ble_eq_true rfl⟩ (Nat.le_of_ble_eq_true rfl) rfl dX11_book_1 (x_ki (fun r2 M1 h => ?_))
  refine x_istore C (L' := [(4, .int r2), (0, .ref (ga g 0)), (1, .int a0), (2, .int a1), (3, .int a2)]) rfl (Nat.le_of_ble_eq_true rfl) dX11_book_4 ?_
  refine x_iload C 0 rfl dX11_book_6 ?_
  refine x_iconst C (v1 := 1) dX11_book_8 (by decide) ?_
  refine x_icmp_lt C (tgt := 38) dX11_book_9 (by decide) (fun hq3 => ?_) (fun hq3 => ?_)
  · replace h := x_ift hq3 h
    refine x_loc (L' := [(0, .ref (ga g 0)), (1, .int a0), (2, .int a1), (3, .int a2)]) [1, 2, 3, 4] rfl ?_
    exact tX11_book_38 hg  C   _ _ _ _  h
  · replace h := x_iff hq3 h
    refine x_aload_n C 1 rfl rfl dX11_book_12 ?_
    refine x_iload_n C 2 rfl rfl dX11_book_13 ?_
    refine x_callV C (st := []) (As := [.int a0]) (c := 0) (ci := 11) (enC_11 (c := 0) rfl) (Nat.le_of_ble_eq_true rfl) rfl (tX11_areTold hg _ _ _ _  h) wm_X11_295 wi_X11_areTold wv_X11_areTold wz_X11 wc_X11_areTold rfl yd_X11_areTold rfl ⟨rfl, rfl⟩ ⟨Nat.le_of_ble_eq_true rfl, Nat.le_of_ble_eq_true rfl⟩ (Nat.le_of_ble_eq_true rfl) rfl dX11_book_14 (x_ki (fun r5 M4 h => ?_))
    refine x_if_eq C (tgt := 38) dX11_book_17 (by decide) (fun hq6 => ?_) (fun hq6 => ?_)
    · replace h := x_ift hq6 h
      refine x_loc (L' := [(0, .ref (ga g 0)), (1, .int a0), (2, .int a1), (3, .int a2)]) [1, 2, 3, 4] rfl ?_
      exact tX11_book_38 hg  C   _ _ _ _  h
    · replace h := x_iff hq6 h
      refine x_iload_n C 3 rfl rfl dX11_book_20 ?_
      refine x_iconst C (v1 := 1) dX11_book_21 (by decide) ?_
      refine x_iconst C (v1 := 3) dX11_book_22 (by decide) ?_
      refine x_iload C 0 rfl dX11_book_23 ?_
      refine x_callS C (st := [.int 1, .int a1]) (As := [.int 3, .int r2]) (tJ9_min_7cf53 hg _ _ _ _ _  h) wm_X11_354 wsm_J9_min_7cf53 wz_J9 wc_J9_min_7cf53 yd_J9_min_7cf53 rfl ⟨rfl, rfl⟩ ⟨Nat.le_of_ble_eq_true rfl, Nat.le_of_ble_eq_true rfl⟩ (Nat.le_of_ble_eq_true rfl) rfl dX11_book_25 (x_ki (fun r8 M7 h => ?_))
      refine x_callS C (st := []) (As := [.int a1, .int 1, .int r8]) (tX11_isWithin hg _ _ _ _ _ _  h) wm_X11_145 wsm_X11_isWithin wz_X11 wc_X11_isWithin yd_X11_isWithin rfl ⟨rfl, rfl⟩ ⟨Nat.le_of_ble_eq_true rfl, Nat.le_of_ble_eq_true rfl⟩ (Nat.le_of_ble_eq_true rfl) rfl dX11_book_28 (x_ki (fun r10 M9 h => ?_))
      refine x_if_eq C (tgt := 38) dX11_book_31 (by decide) (fun hq11 => ?_) (fun hq11 => ?_)
      · replace h := x_ift hq11 h
        refine x_loc (L' := [(0, .ref (ga g 0)), (1, .int a0), (2, .int a1), (3, .int a2)]) [1, 2, 3, 4] rfl ?_
        exact tX11_book_38 hg  C   _ _ _ _  h
      · replace h := x_iff hq11 h
        refine x_iconst C (v1 := 1) dX11_book_34 (by decide) ?_
        refine x_goto C (tgt := 39) dX11_book_35 (by decide) ?_
        refine x_loc (L' := [(0, .ref (ga g 0)), (1, .int a0), (2, .int a1), (3, .int a2)]) [1, 2, 3, 4] rfl ?_
        exact tX11_book_39 hg  C   _ _ _ _ _  h
set_option maxHeartbeats 4000000 in
set_option maxRecDepth 100000 in
theorem tX11_seed {g : xG} (hg : x_inj (WC g))  (l : Launch) (a0 : Int32) (M : xMem) (post : Int32 → xMem → Prop)  (h : wX11_seed a0 M post) : xMet (WC g) l yX11_seed cX11_seed 3 (some .boolean) (rm_X11_seed) [.ref (ga g 0), .int a0] M (pI post) := by
  refine x_enter (own := RX11) (L0 := [(0, .ref (ga g 0)), (1, .int a0)]) (by decide +kernel) rfl hg (x_stC g) (Nat.le_of_ble_eq_true rfl) rfl (fun x hl C => ?_)
  unfold wX11_seed at h
  refine x_iload_n C 1 rfl rfl dX11_seed_0 ?_
  refine x_iconst C (v1 := 0) dX11_seed_1 (by decide) ?_
  refine x_ldc_w C (v1 := 65535) (wco_X11_366) dX11_seed_2 ?_
  refine x_callS C (st := []) (As := [.int a0, .int 0, .int 65535]) (tX11_isWithin hg _ _ _ _ _ _  h) wm_X11_145 wsm_X11_isWithin wz_X11 wc_X11_isWithin yd_X11_isWithin rfl ⟨rfl, rfl⟩ ⟨Nat.le_of_ble_eq_true rfl, Nat.le_of_ble_eq_true rfl⟩ (Nat.le_of_ble_eq_true rfl) rfl dX11_seed_5 (x_ki (fun r2 M1 h => ?_))
  refine x_istore_n C (L' := [(2, .int r2), (0, .ref (ga g 0)), (1, .int a0)]) rfl rfl (Nat.le_of_ble_eq_true rfl) dX11_seed_8 ?_
  refine x_iload_n C 0 rfl rfl dX11_seed_9 ?_
  refine x_if_eq C (tgt := 21) dX11_seed_10 (by decide) (fun hq3 => ?_) (fun hq3 => ?_)
  · replace h := x_ift hq3 h
    refine x_iload_n C 0 rfl rfl dX11_seed_21 ?_
    exact x_zret C h.1.1 dX11_seed_22 ⟨_, rfl, h.2⟩
  · replace h := x_iff hq3 h
    refine x_aload_n C 1 rfl rfl dX11_seed_13 ?_
    refine x_get C (c := 0) (ci := 11) (k1 := 8) (v1 := .ref (ga g 49)) (enC_11 (c := 0) rfl) (Nat.le_of_ble_eq_true rfl) rfl inX11 (by decide) wf_X11_57 rfl dX11_seed_14 ?_
    refine x_iload_n C 2 rfl rfl dX11_seed_17 ?_
    refine x_putN C (c := 49) (ci := 4) (k1 := 13) (u1 := a0) (v1 := .int a0) (ty := .int) (enC_4 (c := 49) rfl) (Nat.le_of_ble_eq_true rfl) rfl inX4 (by decide) (stX4_13 _ _ _) tyX4 tyX4_ok nmX4 wfn_X11_367 rfl rfl rfl rfl (Nat.le_of_ble_eq_true rfl) dX11_seed_18 ?_
    refine x_nmM (fun M4 eM4 => ?_)
    replace h := h M4 eM4
    refine x_iload_n C 0 rfl rfl dX11_seed_21 ?_
    exact x_zret C h.1.1 dX11_seed_22 ⟨_, rfl, h.2⟩
set_option maxHeartbeats 4000000 in
set_option maxRecDepth 100000 in
theorem tX11_keep {g : xG} (hg : x_inj (WC g))  (l : Launch)  (M : xMem) (post : Int32 → xMem → Prop)  (h : wX11_keep  M post) : xMet (WC g) l yX11_keep cX11_keep 1 (some .int) (rm_X11_keep) [.ref (ga g 0)] M (pI post) := by
  refine x_enter (own := RX11) (L0 := [(0, .ref (ga g 0))]) (by decide +kernel) rfl hg (x_stC g) (Nat.le_of_ble_eq_true rfl) rfl (fun x hl C => ?_)
  unfold wX11_keep at h
  refine x_aload_n C 0 rfl rfl dX11_keep_0 ?_
  refine x_get C (c := 0) (ci := 11) (k1 := 9) (v1 := .ref (ga g 58)) (enC_11 (c := 0) rfl) (Nat.le_of_ble_eq_true rfl) rfl inX11 (by decide) wf_X11_61 rfl dX11_keep_1 ?_
  refine x_aload_n C 0 rfl rfl dX11_keep_4 ?_
  refine x_get C (c := 0) (ci := 11) (k1 := 8) (v1 := .ref (ga g 49)) (enC_11 (c := 0) rfl) (Nat.le_of_ble_eq_true rfl) rfl inX11 (by decide) wf_X11_57 rfl dX11_keep_5 ?_
  refine x_callVN C (st := []) (As := [.ref (ga g 49)]) (c := 58) (ci := 4) (enC_4 (c := 58) rfl) (Nat.le_of_ble_eq_true rfl) rfl (tX4_takeFrom hg _ _ _ _ _ rfl rfl h) wmn_X11_182 wi_X4_takeFrom wv_X4_takeFrom wz_X4 wc_X4_takeFrom yd_X4_takeFrom rfl ⟨rfl, rfl⟩ ⟨Nat.le_of_ble_eq_true rfl, Nat.le_of_ble_eq_true rfl⟩ (Nat.le_of_ble_eq_true rfl) rfl dX11_keep_8 (x_kv (fun M1 h => ?_))
  refine x_aload_n C 0 rfl rfl dX11_keep_11 ?_
  refine x_iconst C (v1 := 1) dX11_keep_12 (by decide) ?_
  refine x_put C (c := 0) (ci := 11) (k1 := 11) (u1 := 1) (v1 := .int 1) (ty := .boolean) (enC_11 (c := 0) rfl) (Nat.le_of_ble_eq_true rfl) rfl inX11 (by decide) (stX11_11 _ _ _) tyX11 tyX11_ok nmX11 wf_X11_67 rfl rfl rfl rfl (Nat.le_of_ble_eq_true rfl) dX11_keep_13 ?_
  refine x_nmM (fun M2 eM2 => ?_)
  replace h := h M2 eM2
  refine x_aload_n C 0 rfl rfl dX11_keep_16 ?_
  refine x_get C (c := 0) (ci := 11) (k1 := 8) (v1 := .ref (ga g 49)) (enC_11 (c := 0) rfl) (Nat.le_of_ble_eq_true rfl) rfl inX11 (by decide) wf_X11_57 rfl dX11_keep_17 ?_
  refine x_getN C (c := 49) (ci := 4) (k1 := 10) (v1 := .int (gi M2 49 10)) (enC_4 (c := 49) rfl) (Nat.le_of_ble_eq_true rfl) rfl inX4 (by decide) wfn_X11_370 rfl dX11_keep_20 ?_
  exact x_iret C dX11_keep_23 ⟨_, rfl, h⟩
set_option maxHeartbeats 4000000 in
set_option maxRecDepth 100000 in
theorem tX11_undo_71 {g : xG} (hg : x_inj (WC g))  {x : xCx}  {K20 : Int32 → xMem → Prop} {post : Int32 → xMem → Prop} (C : xOk (WC g) x cX11_undo RX11 3 (some .boolean) (rm_X11_undo) (pI post))  (hK20 : ∀ (x1 : Int32) (M : xMem), K20 x1 M → xW (WC g) x 3 20 [(0, .ref (ga g 0)), (1, .int x1)] [] M) (x1 : Int32) (s0 : Int32) (s1 : Int32) (M : xMem)  (h : wX11_undo_71 K20 post x1 s0 s1 M) : xW (WC g) x 3 71 [(0, .ref (ga g 0)), (1, .int x1)] [.int s0, .int s1, .ref (ga g 52)] M := by
  unfold wX11_undo_71 at h
  obtain ⟨hi1, h⟩ := h
  refine x_iast C 0 (c := 52) (enC_20n (c := 52) (n := 4) rfl rfl) (Nat.le_of_ble_eq_true rfl) rfl hi1 dX11_undo_71 ?_
  refine x_nmM (fun M2 eM2 => ?_)
  replace h := h M2 eM2
  obtain ⟨v3, ev3⟩ : ∃ z : Int32, z = x1 + 1 := ⟨_, rfl⟩
  replace h := h v3 ev3
  refine x_iinc C 1 (v1 := v3) (L' := [(1, .int v3), (0, .ref (ga g 0))]) rfl (by rw [ev3]; rfl) rfl (Nat.le_of_ble_eq_true rfl) dX11_undo_72 ?_
  refine x_goto C (tgt := 20) dX11_undo_75 (by decide) ?_
  refine x_loc (L' := [(0, .ref (ga g 0)), (1, .int v3)]) [1, 0] rfl ?_
  exact hK20 _ _  h
set_option maxHeartbeats 4000000 in
set_option maxRecDepth 100000 in
theorem tX11_undo_20 {g : xG} (hg : x_inj (WC g))  {x : xCx}   {post : Int32 → xMem → Prop} (C : xOk (WC g) x cX11_undo RX11 3 (some .boolean) (rm_X11_undo) (pI post))   : ∀ (n : Nat) (x1 : Int32) (M : xMem), wX11_undo_20 post n x1 M → xW (WC g) x 3 20 [(0, .ref (ga g 0)), (1, .int x1)] [] M := by
  intro n
  induction n with
  | zero =>
    intro x1 M  h
    exact h.elim
  | succ n ih =>
    intro x1 M  h
    rw [wX11_undo_20] at h
    refine x_iload_n C 1 rfl rfl dX11_undo_20 ?_
    refine x_iconst C (v1 := 4) dX11_undo_21 (by decide) ?_
    refine x_icmp_ge C (tgt := 78) dX11_undo_22 (by decide) (fun hq1 => ?_) (fun hq1 => ?_)
    · replace h := x_ift hq1 h
      refine x_aload_n C 0 rfl rfl dX11_undo_78 ?_
      refine x_get C (c := 0) (ci := 11) (k1 := 11) (v1 := .int (gi M 0 11)) (enC_11 (c := 0) rfl) (Nat.le_of_ble_eq_true rfl) rfl inX11 (by decide) wf_X11_67 rfl dX11_undo_79 ?_
      exact x_zret C h.1.1 dX11_undo_82 ⟨_, rfl, h.2⟩
    · replace h := x_iff hq1 h
      refine x_aload_n C 0 rfl rfl dX11_undo_25 ?_
      refine x_aload_n C 0 rfl rfl dX11_undo_26 ?_
      refine x_get C (c := 0) (ci := 11) (k1 := 8) (v1 := .ref (ga g 49)) (enC_11 (c := 0) rfl) (Nat.le_of_ble_eq_true rfl) rfl inX11 (by decide) wf_X11_57 rfl dX11_undo_27 ?_
      refine x_getN C (c := 49) (ci := 4) (k1 := 1) (v1 := .ref (ga g 50)) (enC_4 (c := 49) rfl) (Nat.le_of_ble_eq_true rfl) rfl inX4 (by decide) wfn_X11_233 rfl dX11_undo_30 ?_
      refine x_iload_n C 1 rfl rfl dX11_undo_33 ?_
      obtain ⟨hi2, h⟩ := h
      refine x_iald C 0 (c := 50) (enC_20n (c := 50) (n := 4) rfl rfl) (Nat.le_of_ble_eq_true rfl) rfl hi2 dX11_undo_34 ?_
      refine x_callV C (st := []) (As := [.int (gi M 50 x1.toNatClampNeg)]) (c := 0) (ci := 11) (enC_11 (c := 0) rfl) (Nat.le_of_ble_eq_true rfl) rfl (tX11_storyAt hg _ _ _ _  h) wm_X11_115 wi_X11_storyAt wv_X11_storyAt wz_X11 wc_X11_storyAt rfl yd_X11_storyAt rfl ⟨rfl, rfl⟩ ⟨Nat.le_of_ble_eq_true rfl, Nat.le_of_ble_eq_true rfl⟩ (Nat.le_of_ble_eq_true rfl) rfl dX11_undo_35 (x_kr (fun M3 h => ?_) (fun q4 M3 h0 hkq4 h => ?_))
      · replace h := x_ift rfl h
        refine x_astore_nN C (L' := [(2, .null), (0, .ref (ga g 0)), (1, .int x1)]) rfl rfl (Nat.le_of_ble_eq_true rfl) dX11_undo_38 ?_
        refine x_aload_n C 1 rfl rfl dX11_undo_39 ?_
        refine x_get C (c := 0) (ci := 11) (k1 := 8) (v1 := .ref (ga g 49)) (enC_11 (c := 0) rfl) (Nat.le_of_ble_eq_true rfl) rfl inX11 (by decide) wf_X11_57 rfl dX11_undo_40 ?_
        refine x_getN C (c := 49) (ci := 4) (k1 := 3) (v1 := .ref (ga g 52)) (enC_4 (c := 49) rfl) (Nat.le_of_ble_eq_true rfl) rfl inX4 (by decide) wfn_X11_239 rfl dX11_undo_43 ?_
        refine x_iload_n C 2 rfl rfl dX11_undo_46 ?_
        refine x_aload_nN C 0 rfl rfl dX11_undo_47 ?_
        refine x_ifnonnullN C dX11_undo_48 ?_
        refine x_iconst C (v1 := 0) dX11_undo_51 (by decide) ?_
        refine x_goto C (tgt := 71) dX11_undo_52 (by decide) ?_
        refine x_loc (L' := [(0, .ref (ga g 0)), (1, .int x1)]) [1, 2] rfl ?_
        exact tX11_undo_71 hg  C  ih _ _ _ _  h
      · replace h := x_iff h0 h
        refine x_astore_n C (L' := [(2, .ref (ga g q4)), (0, .ref (ga g 0)), (1, .int x1)]) rfl rfl (Nat.le_of_ble_eq_true rfl) dX11_undo_38 ?_
        refine x_aload_n C 1 rfl rfl dX11_undo_39 ?_
        refine x_get C (c := 0) (ci := 11) (k1 := 8) (v1 := .ref (ga g 49)) (enC_11 (c := 0) rfl) (Nat.le_of_ble_eq_true rfl) rfl inX11 (by decide) wf_X11_57 rfl dX11_undo_40 ?_
        refine x_getN C (c := 49) (ci := 4) (k1 := 3) (v1 := .ref (ga g 52)) (enC_4 (c := 49) rfl) (Nat.le_of_ble_eq_true rfl) rfl inX4 (by decide) wfn_X11_239 rfl dX11_undo_43 ?_
        refine x_iload_n C 2 rfl rfl dX11_undo_46 ?_
        refine x_aload_n C 0 rfl rfl dX11_undo_47 ?_
        refine x_ifnonnull_r C (tgt := 55) dX11_undo_48 (by decide) ?_
        refine x_aload_n C 1 rfl rfl dX11_undo_55 ?_
        refine x_get C (c := 0) (ci := 11) (k1 := 8) (v1 := .ref (ga g 49)) (enC_11 (c := 0) rfl) (Nat.le_of_ble_eq_true rfl) rfl inX11 (by decide) wf_X11_57 rfl dX11_undo_56 ?_
        refine x_getN C (c := 49) (ci := 4) (k1 := 3) (v1 := .ref (ga g 52)) (enC_4 (c := 49) rfl) (Nat.le_of_ble_eq_true rfl) rfl inX4 (by decide) wfn_X11_239 rfl dX11_undo_59 ?_
        refine x_iload_n C 2 rfl rfl dX11_undo_62 ?_
        obtain ⟨hi5, h⟩ := h
        refine x_iald C 0 (c := 52) (enC_20n (c := 52) (n := 4) rfl rfl) (Nat.le_of_ble_eq_true rfl) rfl hi5 dX11_undo_63 ?_
        refine x_aload_n C 0 rfl rfl dX11_undo_64 ?_
        refine x_getN C (c := q4) (ci := 9) (k1 := 1) (v1 := .int (gi M3 q4 1)) (enC_9 (c := q4) hkq4) (kC_lt hkq4 (by decide)) rfl inX9 (by decide) wfn_X11_198 rfl dX11_undo_65 ?_
        refine x_callS C (st := [.int x1, .ref (ga g 52)]) (As := [.int (gi M3 52 x1.toNatClampNeg), .int (gi M3 q4 1)]) (tJ9_min_7cf53 hg _ _ _ _ _  h) wm_X11_354 wsm_J9_min_7cf53 wz_J9 wc_J9_min_7cf53 yd_J9_min_7cf53 rfl ⟨rfl, rfl⟩ ⟨Nat.le_of_ble_eq_true rfl, Nat.le_of_ble_eq_true rfl⟩ (Nat.le_of_ble_eq_true rfl) rfl dX11_undo_68 (x_ki (fun r7 M6 h => ?_))
        refine x_loc (L' := [(0, .ref (ga g 0)), (1, .int x1)]) [1, 2] rfl ?_
        exact tX11_undo_71 hg  C  ih _ _ _ _  h
set_option maxHeartbeats 4000000 in
set_option maxRecDepth 100000 in
theorem tX11_undo {g : xG} (hg : x_inj (WC g))  (l : Launch)  (M : xMem) (post : Int32 → xMem → Prop)  (h : wX11_undo  M post) : xMet (WC g) l yX11_undo cX11_undo 3 (some .boolean) (rm_X11_undo) [.ref (ga g 0)] M (pI post) := by
  refine x_enter (own := RX11) (L0 := [(0, .ref (ga g 0))]) (by decide +kernel) rfl hg (x_stC g) (Nat.le_of_ble_eq_true rfl) rfl (fun x hl C => ?_)
  unfold wX11_undo at h
  refine x_aload_n C 0 rfl rfl dX11_undo_0 ?_
  refine x_get C (c := 0) (ci := 11) (k1 := 11) (v1 := .int (gi M 0 11)) (enC_11 (c := 0) rfl) (Nat.le_of_ble_eq_true rfl) rfl inX11 (by decide) wf_X11_67 rfl dX11_undo_1 ?_
  refine x_if_eq C (tgt := 78) dX11_undo_4 (by decide) (fun hq1 => ?_) (fun hq1 => ?_)
  · replace h := x_ift hq1 h
    refine x_aload_n C 0 rfl rfl dX11_undo_78 ?_
    refine x_get C (c := 0) (ci := 11) (k1 := 11) (v1 := .int (gi M 0 11)) (enC_11 (c := 0) rfl) (Nat.le_of_ble_eq_true rfl) rfl inX11 (by decide) wf_X11_67 rfl dX11_undo_79 ?_
    exact x_zret C h.1.1 dX11_undo_82 ⟨_, rfl, h.2⟩
  · replace h := x_iff hq1 h
    refine x_aload_n C 0 rfl rfl dX11_undo_7 ?_
    refine x_get C (c := 0) (ci := 11) (k1 := 8) (v1 := .ref (ga g 49)) (enC_11 (c := 0) rfl) (Nat.le_of_ble_eq_true rfl) rfl inX11 (by decide) wf_X11_57 rfl dX11_undo_8 ?_
    refine x_aload_n C 0 rfl rfl dX11_undo_11 ?_
    refine x_get C (c := 0) (ci := 11) (k1 := 9) (v1 := .ref (ga g 58)) (enC_11 (c := 0) rfl) (Nat.le_of_ble_eq_true rfl) rfl inX11 (by decide) wf_X11_61 rfl dX11_undo_12 ?_
    refine x_callVN C (st := []) (As := [.ref (ga g 58)]) (c := 49) (ci := 4) (enC_4 (c := 49) rfl) (Nat.le_of_ble_eq_true rfl) rfl (tX4_takeFrom hg _ _ _ _ _ rfl rfl h) wmn_X11_182 wi_X4_takeFrom wv_X4_takeFrom wz_X4 wc_X4_takeFrom yd_X4_takeFrom rfl ⟨rfl, rfl⟩ ⟨Nat.le_of_ble_eq_true rfl, Nat.le_of_ble_eq_true rfl⟩ (Nat.le_of_ble_eq_true rfl) rfl dX11_undo_15 (x_kv (fun M2 h => ?_))
    refine x_iconst C (v1 := 0) dX11_undo_18 (by decide) ?_
    refine x_istore_n C (L' := [(1, .int 0), (0, .ref (ga g 0))]) rfl rfl (Nat.le_of_ble_eq_true rfl) dX11_undo_19 ?_
    refine x_loc (L' := [(0, .ref (ga g 0)), (1, .int 0)]) [1, 0] rfl ?_
    obtain ⟨n20, h⟩ := h
    exact tX11_undo_20 hg  C   _ _ _  h
set_option maxHeartbeats 4000000 in
set_option maxRecDepth 100000 in
theorem tX11_check_21 {g : xG} (hg : x_inj (WC g))  {x : xCx}   {post : Int32 → xMem → Prop} (C : xOk (WC g) x cX11_check RX11 3 (some .int) (rm_X11_check) (pI post))   : ∀ (n : Nat) (x1 : Int32) (x2 : Int32) (M : xMem), wX11_check_21 post n x1 x2 M → xW (WC g) x 3 21 [(0, .ref (ga g 0)), (1, .int x1), (2, .int x2)] [] M := by
  intro n
  induction n with
  | zero =>
    intro x1 x2 M  h
    exact h.elim
  | succ n ih =>
    intro x1 x2 M  h
    rw [wX11_check_21] at h
    refine x_iload_n C 2 rfl rfl dX11_check_21 ?_
    refine x_iload_n C 1 rfl rfl dX11_check_22 ?_
    refine x_icmp_ge C (tgt := 52) dX11_check_23 (by decide) (fun hq1 => ?_) (fun hq1 => ?_)
    · replace h := x_ift hq1 h
      refine x_iconst C (v1 := (-1)) dX11_check_52 (by decide) ?_
      exact x_iret C dX11_check_53 ⟨_, rfl, h⟩
    · replace h := x_iff hq1 h
      refine x_aload_n C 0 rfl rfl dX11_check_26 ?_
      refine x_get C (c := 0) (ci := 11) (k1 := 0) (v1 := .ref (ga g 1)) (enC_11 (c := 0) rfl) (Nat.le_of_ble_eq_true rfl) rfl inX11 (by decide) wf_X11_9 rfl dX11_check_27 ?_
      refine x_iload_n C 2 rfl rfl dX11_check_30 ?_
      obtain ⟨hi2, h⟩ := h
      refine x_iald C 0 (c := 1) (enC_20n (c := 1) (n := 260) rfl rfl) (Nat.le_of_ble_eq_true rfl) rfl hi2 dX11_check_31 ?_
      refine x_aload_n C 0 rfl rfl dX11_check_32 ?_
      refine x_get C (c := 0) (ci := 11) (k1 := 8) (v1 := .ref (ga g 49)) (enC_11 (c := 0) rfl) (Nat.le_of_ble_eq_true rfl) rfl inX11 (by decide) wf_X11_57 rfl dX11_check_33 ?_
      refine x_getN C (c := 49) (ci := 4) (k1 := 8) (v1 := .ref (ga g 56)) (enC_4 (c := 49) rfl) (Nat.le_of_ble_eq_true rfl) rfl inX4 (by decide) wfn_X11_260 rfl dX11_check_36 ?_
      refine x_iload_n C 2 rfl rfl dX11_check_39 ?_
      obtain ⟨hi3, h⟩ := h
      refine x_iald C 0 (c := 56) (enC_20n (c := 56) (n := 10) rfl rfl) (Nat.le_of_ble_eq_true rfl) rfl hi3 dX11_check_40 ?_
      refine x_icmp_eq C (tgt := 46) dX11_check_41 (by decide) (fun hq4 => ?_) (fun hq4 => ?_)
      · replace h := x_ift hq4 h
        obtain ⟨v5, ev5⟩ : ∃ z : Int32, z = x2 + 1 := ⟨_, rfl⟩
        replace h := h v5 ev5
        refine x_iinc C 2 (v1 := v5) (L' := [(2, .int v5), (0, .ref (ga g 0)), (1, .int x1)]) rfl (by rw [ev5]; rfl) rfl (Nat.le_of_ble_eq_true rfl) dX11_check_46 ?_
        refine x_goto C (tgt := 21) dX11_check_49 (by decide) ?_
        refine x_loc (L' := [(0, .ref (ga g 0)), (1, .int x1), (2, .int v5)]) [1, 2, 0] rfl ?_
        exact ih _ _ _  h
      · replace h := x_iff hq4 h
        refine x_iload_n C 2 rfl rfl dX11_check_44 ?_
        exact x_iret C dX11_check_45 ⟨_, rfl, h⟩
set_option maxHeartbeats 4000000 in
set_option maxRecDepth 100000 in
theorem tX11_check {g : xG} (hg : x_inj (WC g))  (l : Launch) (a0 : Int32) (M : xMem) (post : Int32 → xMem → Prop)  (h : wX11_check a0 M post) : xMet (WC g) l yX11_check cX11_check 3 (some .int) (rm_X11_check) [.ref (ga g 0), .int a0] M (pI post) := by
  refine x_enter (own := RX11) (L0 := [(0, .ref (ga g 0)), (1, .int a0)]) (by decide +kernel) rfl hg (x_stC g) (Nat.le_of_ble_eq_true rfl) rfl (fun x hl C => ?_)
  unfold wX11_check at h
  refine x_aload_n C 0 rfl rfl dX11_check_0 ?_
  refine x_iload_n C 1 rfl rfl dX11_check_1 ?_
  refine x_iconst C (v1 := 0) dX11_check_2 (by decide) ?_
  refine x_bipush C (v1 := 10) dX11_check_3 (by decide) ?_
  refine x_callV C (st := []) (As := [.int a0, .int 0, .int 10]) (c := 0) (ci := 11) (enC_11 (c := 0) rfl) (Nat.le_of_ble_eq_true rfl) rfl (tX11_tapeGives hg _ _ _ _ _ _  h) wm_X11_119 wi_X11_tapeGives wv_X11_tapeGives wz_X11 wc_X11_tapeGives rfl yd_X11_tapeGives rfl ⟨rfl, rfl⟩ ⟨Nat.le_of_ble_eq_true rfl, Nat.le_of_ble_eq_true rfl⟩ (Nat.le_of_ble_eq_true rfl) rfl dX11_check_5 (x_ki (fun r2 M1 h => ?_))
  refine x_if_ne C (tgt := 14) dX11_check_8 (by decide) (fun hq3 => ?_) (fun hq3 => ?_)
  · replace h := x_iff hq3 h
    refine x_aload_n C 0 rfl rfl dX11_check_14 ?_
    refine x_iconst C (v1 := 0) dX11_check_15 (by decide) ?_
    refine x_put C (c := 0) (ci := 11) (k1 := 1) (u1 := 0) (v1 := .int 0) (ty := .int) (enC_11 (c := 0) rfl) (Nat.le_of_ble_eq_true rfl) rfl inX11 (by decide) (stX11_1 _ _ _) tyX11 tyX11_ok nmX11 wf_X11_13 rfl rfl rfl rfl (Nat.le_of_ble_eq_true rfl) dX11_check_16 ?_
    refine x_nmM (fun M4 eM4 => ?_)
    replace h := h M4 eM4
    refine x_iconst C (v1 := 0) dX11_check_19 (by decide) ?_
    refine x_istore_n C (L' := [(2, .int 0), (0, .ref (ga g 0)), (1, .int a0)]) rfl rfl (Nat.le_of_ble_eq_true rfl) dX11_check_20 ?_
    refine x_loc (L' := [(0, .ref (ga g 0)), (1, .int a0), (2, .int 0)]) [1, 2, 0] rfl ?_
    obtain ⟨n21, h⟩ := h
    exact tX11_check_21 hg  C   _ _ _ _  h
  · replace h := x_ift hq3 h
    refine x_bipush C (v1 := (-2)) dX11_check_11 (by decide) ?_
    exact x_iret C dX11_check_13 ⟨_, rfl, h⟩
set_option maxHeartbeats 4000000 in
set_option maxRecDepth 100000 in
theorem tX11_count {g : xG} (hg : x_inj (WC g))  (l : Launch) (a0 : Int32) (M : xMem) (post : Int32 → xMem → Prop)  (h : wX11_count a0 M post) : xMet (WC g) l yX11_count cX11_count 2 (some .int) (rm_X11_count) [.ref (ga g 0), .int a0] M (pI post) := by
  refine x_enter (own := RX11) (L0 := [(0, .ref (ga g 0)), (1, .int a0)]) (by decide +kernel) rfl hg (x_stC g) (Nat.le_of_ble_eq_true rfl) rfl (fun x hl C => ?_)
  unfold wX11_count at h
  refine x_iload_n C 1 rfl rfl dX11_count_0 ?_
  by_cases hq1 : a0 = 0
  · replace h := x_ift hq1 h
    refine x_tabIn C hq1 (tgt := 56) dX11_count_1 (by decide) (by decide) rfl (by decide) ?_
    refine x_aload_n C 0 rfl rfl dX11_count_56 ?_
    refine x_get C (c := 0) (ci := 11) (k1 := 8) (v1 := .ref (ga g 49)) (enC_11 (c := 0) rfl) (Nat.le_of_ble_eq_true rfl) rfl inX11 (by decide) wf_X11_57 rfl dX11_count_57 ?_
    refine x_getN C (c := 49) (ci := 4) (k1 := 10) (v1 := .int (gi M 49 10)) (enC_4 (c := 49) rfl) (Nat.le_of_ble_eq_true rfl) rfl inX4 (by decide) wfn_X11_370 rfl dX11_count_60 ?_
    exact x_iret C dX11_count_63 ⟨_, rfl, h⟩
  · replace h := x_iff hq1 h
    by_cases hq2 : a0 = 1
    · replace h := x_ift hq2 h
      refine x_tabIn C hq2 (tgt := 64) dX11_count_1 (by decide) (by decide) rfl (by decide) ?_
      refine x_aload_n C 0 rfl rfl dX11_count_64 ?_
      refine x_get C (c := 0) (ci := 11) (k1 := 8) (v1 := .ref (ga g 49)) (enC_11 (c := 0) rfl) (Nat.le_of_ble_eq_true rfl) rfl inX11 (by decide) wf_X11_57 rfl dX11_count_65 ?_
      refine x_getN C (c := 49) (ci := 4) (k1 := 11) (v1 := .int (gi M 49 11)) (enC_4 (c := 49) rfl) (Nat.le_of_ble_eq_true rfl) rfl inX4 (by decide) wfn_X11_373 rfl dX11_count_68 ?_
      exact x_iret C dX11_count_71 ⟨_, rfl, h⟩
    · replace h := x_iff hq2 h
      by_cases hq3 : a0 = 2
      · replace h := x_ift hq3 h
        refine x_tabIn C hq3 (tgt := 72) dX11_count_1 (by decide) (by decide) rfl (by decide) ?_
        refine x_aload_n C 0 rfl rfl dX11_count_72 ?_
        refine x_get C (c := 0) (ci := 11) (k1 := 8) (v1 := .ref (ga g 49)) (enC_11 (c := 0) rfl) (Nat.le_of_ble_eq_true rfl) rfl inX11 (by decide) wf_X11_57 rfl dX11_count_73 ?_
        refine x_getN C (c := 49) (ci := 4) (k1 := 12) (v1 := .int (gi M 49 12)) (enC_4 (c := 49) rfl) (Nat.le_of_ble_eq_true rfl) rfl inX4 (by decide) wfn_X11_376 rfl dX11_count_76 ?_
        exact x_iret C dX11_count_79 ⟨_, rfl, h⟩
      · replace h := x_iff hq3 h
        by_cases hq4 : a0 = 3
        · replace h := x_ift hq4 h
          refine x_tabIn C hq4 (tgt := 80) dX11_count_1 (by decide) (by decide) rfl (by decide) ?_
          refine x_aload_n C 0 rfl rfl dX11_count_80 ?_
          refine x_callV C (st := []) (As := []) (c := 0) (ci := 11) (enC_11 (c := 0) rfl) (Nat.le_of_ble_eq_true rfl) rfl (tX11_toldStories hg _  _ _  h) wm_X11_310 wi_X11_toldStories wv_X11_toldStories wz_X11 wc_X11_toldStories rfl yd_X11_toldStories rfl ⟨rfl, rfl⟩ ⟨Nat.le_of_ble_eq_true rfl, Nat.le_of_ble_eq_true rfl⟩ (Nat.le_of_ble_eq_true rfl) rfl dX11_count_81 (x_ki (fun r6 M5 h => ?_))
          exact x_iret C dX11_count_84 ⟨_, rfl, h⟩
        · replace h := x_iff hq4 h
          by_cases hq7 : a0 = 4
          · replace h := x_ift hq7 h
            refine x_tabIn C hq7 (tgt := 85) dX11_count_1 (by decide) (by decide) rfl (by decide) ?_
            refine x_aload_n C 0 rfl rfl dX11_count_85 ?_
            refine x_get C (c := 0) (ci := 11) (k1 := 7) (v1 := .ref (ga g 41)) (enC_11 (c := 0) rfl) (Nat.le_of_ble_eq_true rfl) rfl inX11 (by decide) wf_X11_50 rfl dX11_count_86 ?_
            refine x_getN C (c := 41) (ci := 2) (k1 := 0) (v1 := .int (gi M 41 0)) (enC_2 (c := 41) rfl) (Nat.le_of_ble_eq_true rfl) rfl inX2 (by decide) wfn_X11_314 rfl dX11_count_89 ?_
            exact x_iret C dX11_count_92 ⟨_, rfl, h⟩
          · replace h := x_iff hq7 h
            by_cases hq8 : a0 = 5
            · replace h := x_ift hq8 h
              refine x_tabIn C hq8 (tgt := 93) dX11_count_1 (by decide) (by decide) rfl (by decide) ?_
              refine x_aload_n C 0 rfl rfl dX11_count_93 ?_
              refine x_get C (c := 0) (ci := 11) (k1 := 8) (v1 := .ref (ga g 49)) (enC_11 (c := 0) rfl) (Nat.le_of_ble_eq_true rfl) rfl inX11 (by decide) wf_X11_57 rfl dX11_count_94 ?_
              refine x_getN C (c := 49) (ci := 4) (k1 := 0) (v1 := .int (gi M 49 0)) (enC_4 (c := 49) rfl) (Nat.le_of_ble_eq_true rfl) rfl inX4 (by decide) wfn_X11_161 rfl dX11_count_97 ?_
              exact x_iret C dX11_count_100 ⟨_, rfl, h⟩
            · replace h := x_iff hq8 h
              by_cases hq9 : a0 = 6
              · replace h := x_ift hq9 h
                refine x_tabIn C hq9 (tgt := 101) dX11_count_1 (by decide) (by decide) rfl (by decide) ?_
                refine x_aload_n C 0 rfl rfl dX11_count_101 ?_
                refine x_get C (c := 0) (ci := 11) (k1 := 8) (v1 := .ref (ga g 49)) (enC_11 (c := 0) rfl) (Nat.le_of_ble_eq_true rfl) rfl inX11 (by decide) wf_X11_57 rfl dX11_count_102 ?_
                refine x_getN C (c := 49) (ci := 4) (k1 := 5) (v1 := .int (gi M 49 5)) (enC_4 (c := 49) rfl) (Nat.le_of_ble_eq_true rfl) rfl inX4 (by decide) wfn_X11_251 rfl dX11_count_105 ?_
                exact x_iret C dX11_count_108 ⟨_, rfl, h⟩
              · replace h := x_iff hq9 h
                by_cases hq10 : a0 = 7
                · replace h := x_ift hq10 h
                  refine x_tabIn C hq10 (tgt := 109) dX11_count_1 (by decide) (by decide) rfl (by decide) ?_
                  refine x_aload_n C 0 rfl rfl dX11_count_109 ?_
                  refine x_get C (c := 0) (ci := 11) (k1 := 4) (v1 := .ref (ga g 18)) (enC_11 (c := 0) rfl) (Nat.le_of_ble_eq_true rfl) rfl inX11 (by decide) wf_X11_33 rfl dX11_count_110 ?_
                  refine x_getN C (c := 18) (ci := 5) (k1 := 0) (v1 := .int (gi M 18 0)) (enC_5 (c := 18) rfl) (Nat.le_of_ble_eq_true rfl) rfl inX5 (by decide) wfn_X11_189 rfl dX11_count_113 ?_
                  exact x_iret C dX11_count_116 ⟨_, rfl, h⟩
                · replace h := x_iff hq10 h
                  by_cases hq11 : a0 = 8
                  · replace h := x_ift hq11 h
                    refine x_tabIn C hq11 (tgt := 117) dX11_count_1 (by decide) (by decide) rfl (by decide) ?_
                    refine x_aload_n C 0 rfl rfl dX11_count_117 ?_
                    refine x_get C (c := 0) (ci := 11) (k1 := 1) (v1 := .int (gi M 0 1)) (enC_11 (c := 0) rfl) (Nat.le_of_ble_eq_true rfl) rfl inX11 (by decide) wf_X11_13 rfl dX11_count_118 ?_
                    exact x_iret C dX11_count_121 ⟨_, rfl, h⟩
                  · replace h := x_iff hq11 h
                    by_cases hq12 : a0 = 9
                    · replace h := x_ift hq12 h
                      refine x_tabIn C hq12 (tgt := 122) dX11_count_1 (by decide) (by decide) rfl (by decide) ?_
                      refine x_aload_n C 0 rfl rfl dX11_count_122 ?_
                      refine x_get C (c := 0) (ci := 11) (k1 := 8) (v1 := .ref (ga g 49)) (enC_11 (c := 0) rfl) (Nat.le_of_ble_eq_true rfl) rfl inX11 (by decide) wf_X11_57 rfl dX11_count_123 ?_
                      refine x_getN C (c := 49) (ci := 4) (k1 := 13) (v1 := .int (gi M 49 13)) (enC_4 (c := 49) rfl) (Nat.le_of_ble_eq_true rfl) rfl inX4 (by decide) wfn_X11_367 rfl dX11_count_126 ?_
                      exact x_iret C dX11_count_129 ⟨_, rfl, h⟩
                    · replace h := x_iff hq12 h
                      refine x_tabOut C (tgt := 130) dX11_count_1 (by have t0 := x_i32ne hq1; have u0 : (0 : Int32).toInt = 0 := (by decide); have t1 := x_i32ne hq2; have u1 : (1 : Int32).toInt = 1 := (by decide); have t2 := x_i32ne hq3; have u2 : (2 : Int32).toInt = 2 := (by decide); have t3 := x_i32ne hq4; have u3 : (3 : Int32).toInt = 3 := (by decide); have t4 := x_i32ne hq7; have u4 : (4 : Int32).toInt = 4 := (by decide); have t5 := x_i32ne hq8; have u5 : (5 : Int32).toInt = 5 := (by decide); have t6 := x_i32ne hq9; have u6 : (6 : Int32).toInt = 6 := (by decide); have t7 := x_i32ne hq10; have u7 : (7 : Int32).toInt = 7 := (by decide); have t8 := x_i32ne hq11; have u8 : (8 : Int32).toInt = 8 := (by decide); have t9 := x_i32ne hq12; have u9 : (9 : Int32).toInt = 9 := (by decide); omega) (by decide) ?_
                      refine x_iconst C (v1 := (-1)) dX11_count_130 (by decide) ?_
                      exact x_iret C dX11_count_131 ⟨_, rfl, h⟩
