abbrev rm_X12_goesBehind : Room := { frames := 3, cells := 0, slots := 0, locals := 63 }
theorem yd_X12_goesBehind : yX12_goesBehind.cls ≠ "java/lang/invoke/MethodHandle" ∧ yX12_goesBehind.cls ≠ "java/lang/invoke/VarHandle" ∧ (parseMethodDescriptor yX12_goesBehind.desc).map (fun d => d.parameters.length) = some 0 := by decide +kernel
def wX12_goesBehind_29    (post : Int32 → xMem → Prop) (x1 : Int32) (s0 : Int32) (M : xMem) : Prop :=
    wX12_joins s0 M (fun M1 =>
      wX12_puts x1 M1 (fun M2 =>
        post 1 M2))
def wX12_goesBehind_17    (post : Int32 → xMem → Prop) (x1 : Int32) (M : xMem) : Prop :=
    if x1 = 124 then (
      wX12_goesBehind_29 post x1 1 M)
    else (
      wX12_goesBehind_29 post x1 0 M)
def wX12_goesBehind_104    (post : Int32 → xMem → Prop) (s0 : Int32) (M : xMem) : Prop :=
    bz s0 ∧
    ∀ M1 : xMem, M1 = si M 0 35 s0 →
    if (gi M1 0 35) = 0 then (
      wX12_ends  M1 (fun M4 =>
        post 0 M4))
    else (
      post 0 M1)
def wX12_goesBehind   (M : xMem) (post : Int32 → xMem → Prop) : Prop :=
    wX12_here  M (fun r2 M1 =>
      if r2 = 38 then (
        wX12_goesBehind_17 post r2 M1)
      else (
        if r2 = 124 then (
          wX12_goesBehind_17 post r2 M1)
        else (
          if r2 = 41 then (
            wX12_joins 1 M1 (fun M6 =>
              ∀ M7 : xMem, M7 = si M6 0 9 ((gi M6 0 9) - 1) →
              ∀ M8 : xMem, M8 = si M7 0 8 ((gi M7 0 8) - 1) →
              ∀ M9 : xMem, M9 = si M8 0 3 ((gi M8 0 3) + 1) →
              if (gi M9 0 9) = 0 then (
                wX12_goesBehind_104 post 1 M9)
              else (
                wX12_goesBehind_104 post 0 M9)))
          else (
            wX12_wrongs 1 (gi M1 0 3) M1 (fun M11 =>
              post 0 M11)))))
abbrev rm_X12_condition : Room := { frames := 6, cells := 0, slots := 0, locals := 129 }
theorem yd_X12_condition : yX12_condition.cls ≠ "java/lang/invoke/MethodHandle" ∧ yX12_condition.cls ≠ "java/lang/invoke/VarHandle" ∧ (parseMethodDescriptor yX12_condition.desc).map (fun d => d.parameters.length) = some 0 := by decide +kernel
def wX12_condition_59   (K37 : Int32 → xMem → Prop) (post : xMem → Prop) (x1 : Int32) (M : xMem) : Prop :=
    wX12_isGood  M (fun r2 M1 =>
      if r2 = 0 then (
        K37 x1 M1)
      else (
        wX12_goesBehind  M1 (fun r5 M4 =>
          K37 r5 M4)))
def wX12_condition_37    (post : xMem → Prop) : Nat → Int32 → xMem → Prop
  | 0 => fun _ _ => False
  | n + 1 => fun x1 M =>
      wX12_isGood  M (fun r2 M1 =>
        if r2 = 0 then (
          post M1)
        else (
          if (gi M1 0 35) = 0 then (
            if x1 = 0 then (
              wX12_condition_59 (wX12_condition_37 post n) post x1 M1)
            else (
              wX12_pieceOfC  M1 (fun M6 =>
                wX12_condition_59 (wX12_condition_37 post n) post x1 M6)))
          else (
            post M1)))
def wX12_condition_23    (post : xMem → Prop)  (M : xMem) : Prop :=
    wX12_isGood  M (fun r2 M1 =>
      if r2 = 0 then (
        post M1)
      else (
        wX12_opens  M1 (fun M4 =>
          ∃ n37 : Nat, wX12_condition_37 post n37 1 M4)))
def wX12_condition   (M : xMem) (post : xMem → Prop) : Prop :=
    ∀ M1 : xMem, M1 = si M 0 35 0 →
    wX12_here  M1 (fun r3 M2 =>
      if r3 = 40 then (
        wX12_condition_23 post M2)
      else (
        wX12_wrongs 1 (gi M2 0 3) M2 (fun M5 =>
          wX12_condition_23 post M5)))
abbrev rm_X12_isClause : Room := { frames := 0, cells := 0, slots := 0, locals := 0 }
theorem yd_X12_isClause : yX12_isClause.cls ≠ "java/lang/invoke/MethodHandle" ∧ yX12_isClause.cls ≠ "java/lang/invoke/VarHandle" ∧ (parseMethodDescriptor yX12_isClause.desc).map (fun d => d.parameters.length) = some 1 := by decide +kernel
def wX12_isClause  (a0 : Int32) (M : xMem) (post : Int32 → xMem → Prop) : Prop :=
    if a0 = 110 then (
      post 1 M)
    else (
      if a0 = 112 then (
        post 1 M)
      else (
        if a0 = 116 then (
          post 1 M)
        else (
          if a0 = 115 then (
            post 1 M)
          else (
            if a0 = 102 then (
              post 1 M)
            else (
              if a0 = 103 then (
                post 1 M)
              else (
                if a0 = 120 then (
                  post 1 M)
                else (
                  post 0 M)))))))
abbrev rm_X12_clause : Room := { frames := 7, cells := 0, slots := 0, locals := 150 }
theorem yd_X12_clause : yX12_clause.cls ≠ "java/lang/invoke/MethodHandle" ∧ yX12_clause.cls ≠ "java/lang/invoke/VarHandle" ∧ (parseMethodDescriptor yX12_clause.desc).map (fun d => d.parameters.length) = some 0 := by decide +kernel
def wX12_clause_127    (post : xMem → Prop)  (M : xMem) : Prop :=
    vp_in (gi M 0 6) 16 ∧
    ∀ M2 : xMem, M2 = si M 19 (gi M 0 6).toNatClampNeg (gi M 0 7) →
    ∀ M3 : xMem, M3 = si M2 0 6 ((gi M2 0 6) + 1) →
    post M3
def wX12_clause_103    (post : xMem → Prop)  (M : xMem) : Prop :=
    vp_in (gi M 0 6) 16 ∧
    ∀ M2 : xMem, M2 = si M 18 (gi M 0 6).toNatClampNeg (gi M 0 7) →
    wX12_isGood  M2 (fun r4 M3 =>
      if r4 = 0 then (
        wX12_clause_127 post M3)
      else (
        wX12_condition  M3 (fun M6 =>
          wX12_clause_127 post M6)))
def wX12_clause_42    (post : xMem → Prop) (x1 : Int32) (M : xMem) : Prop :=
    wX12_isGood  M (fun r2 M1 =>
      if r2 = 0 then (
        post M1)
      else (
        vp_in (gi M1 0 6) 16 ∧
        ∀ M5 : xMem, M5 = si M1 16 (gi M1 0 6).toNatClampNeg x1 →
        vp_in (gi M5 0 6) 16 ∧
        ∀ M7 : xMem, M7 = si M5 17 (gi M5 0 6).toNatClampNeg (gi M5 0 7) →
        ∀ M8 : xMem, M8 = si M7 0 3 ((gi M7 0 3) + 1) →
        ∀ M9 : xMem, M9 = si M8 0 9 0 →
        ∀ M10 : xMem, M10 = si M9 0 8 0 →
        if x1 = 120 then (
          wX12_clause_103 post M10)
        else (
          wX12_value  M10 (fun M12 =>
            wX12_clause_103 post M12))))
def wX12_clause   (M : xMem) (post : xMem → Prop) : Prop :=
    wX12_here  M (fun r2 M1 =>
      wX12_isClause r2 M1 (fun r4 M3 =>
        if r4 = 0 then (
          wX12_wrongs 1 (gi M3 0 3) M3 (fun M8 =>
            wX12_clause_42 post r2 M8))
        else (
          if (gi M3 0 6) = 16 then (
            wX12_wrongs 4 (gi M3 0 3) M3 (fun M7 =>
              wX12_clause_42 post r2 M7))
          else (
            wX12_clause_42 post r2 M3))))
abbrev rm_X12_law : Room := { frames := 8, cells := 0, slots := 0, locals := 171 }
theorem yd_X12_law : yX12_law.cls ≠ "java/lang/invoke/MethodHandle" ∧ yX12_law.cls ≠ "java/lang/invoke/VarHandle" ∧ (parseMethodDescriptor yX12_law.desc).map (fun d => d.parameters.length) = some 1 := by decide +kernel
def wX12_law_191    (post : Int32 → xMem → Prop) : Nat → Int32 → xMem → Prop
  | 0 => fun _ _ => False
  | n + 1 => fun x3 M =>
      if (gi M 0 7) ≤ x3 then (
        vp_in 0 2 ∧
        ∀ M3 : xMem, M3 = si M 15 0 (gi M 0 6) →
        ∀ M4 : xMem, M4 = si M3 0 28 (gi M3 0 7) →
        post (gi M4 0 6) M4)
      else (
        vp_in x3 240 ∧
        vp_in x3 480 ∧
        ∀ M7 : xMem, M7 = si M 13 x3.toNatClampNeg (gi M 20 x3.toNatClampNeg) →
        vp_in x3 240 ∧
        vp_in x3 480 ∧
        ∀ M10 : xMem, M10 = si M7 14 x3.toNatClampNeg (gi M7 21 x3.toNatClampNeg) →
        ∀ v11 : Int32, v11 = x3 + 1 →
        wX12_law_191 post n v11 M10)
def wX12_law_127    (post : Int32 → xMem → Prop) : Nat → Int32 → xMem → Prop
  | 0 => fun _ _ => False
  | n + 1 => fun x3 M =>
      if (gi M 0 6) ≤ x3 then (
        ∃ n191 : Nat, wX12_law_191 post n191 0 M)
      else (
        vp_in x3 16 ∧
        vp_in x3 32 ∧
        ∀ M4 : xMem, M4 = si M 9 x3.toNatClampNeg (gi M 16 x3.toNatClampNeg) →
        vp_in x3 16 ∧
        vp_in x3 32 ∧
        ∀ M7 : xMem, M7 = si M4 10 x3.toNatClampNeg (gi M4 17 x3.toNatClampNeg) →
        vp_in x3 16 ∧
        vp_in x3 32 ∧
        ∀ M10 : xMem, M10 = si M7 11 x3.toNatClampNeg (gi M7 18 x3.toNatClampNeg) →
        vp_in x3 16 ∧
        vp_in x3 32 ∧
        ∀ M13 : xMem, M13 = si M10 12 x3.toNatClampNeg (gi M10 19 x3.toNatClampNeg) →
        ∀ v14 : Int32, v14 = x3 + 1 →
        wX12_law_127 post n v14 M13)
def wX12_law_113    (post : Int32 → xMem → Prop)  (M : xMem) : Prop :=
    if 0 ≤ (gi M 0 5) then (
      ∃ n127 : Nat, wX12_law_127 post n127 0 M)
    else (
      post (gi M 0 5) M)
def wX12_law_100   (K39 : Int32 → xMem → Prop) (post : Int32 → xMem → Prop) (x2 : Int32) (M : xMem) : Prop :=
    ∀ M1 : xMem, M1 = si M 0 3 ((gi M 0 3) + 1) →
    K39 x2 M1
def wX12_law_77   (K39 : Int32 → xMem → Prop) (post : Int32 → xMem → Prop) (s0 : Int32) (M : xMem) : Prop :=
    if s0 = 0 then (
      K39 s0 M)
    else (
      wX12_here  M (fun r3 M2 =>
        if r3 = 59 then (
          wX12_law_100 K39 post s0 M2)
        else (
          wX12_wrongs 1 (gi M2 0 3) M2 (fun M5 =>
            wX12_law_100 K39 post s0 M5))))
def wX12_law_76   (K39 : Int32 → xMem → Prop) (post : Int32 → xMem → Prop)  (M : xMem) : Prop :=
    wX12_law_77 K39 post 0 M
def wX12_law_39    (post : Int32 → xMem → Prop) : Nat → Int32 → xMem → Prop
  | 0 => fun _ _ => False
  | n + 1 => fun x2 M =>
      if x2 = 0 then (
        wX12_law_113 post M)
      else (
        wX12_isGood  M (fun r3 M2 =>
          if r3 = 0 then (
            wX12_law_113 post M2)
          else (
            wX12_clause  M2 (fun M5 =>
              wX12_isGood  M5 (fun r7 M6 =>
                if r7 = 0 then (
                  wX12_law_76 (wX12_law_39 post n) post M6)
                else (
                  if (gi M6 0 4) ≤ (gi M6 0 3) then (
                    wX12_law_76 (wX12_law_39 post n) post M6)
                  else (
                    wX12_law_77 (wX12_law_39 post n) post 1 M6)))))))
def wX12_law  (a0 : Int32) (M : xMem) (post : Int32 → xMem → Prop) : Prop :=
    wX12_lies ((a0 : Int32).toInt64) 1 240 M (fun r2 M1 =>
      if r2 = 0 then (
        post (-1) M1)
      else (
        if a0 ≤ (gi M1 0 1) then (
          wX12_begins a0 M1 (fun M5 =>
            ∀ M6 : xMem, M6 = si M5 0 6 0 →
            ∀ M7 : xMem, M7 = si M6 0 7 0 →
            ∃ n39 : Nat, wX12_law_39 post n39 1 M7))
        else (
          post (-1) M1)))
abbrev rm_X12_copy : Room := { frames := 0, cells := 0, slots := 0, locals := 0 }
theorem yd_X12_copy : yX12_copy.cls ≠ "java/lang/invoke/MethodHandle" ∧ yX12_copy.cls ≠ "java/lang/invoke/VarHandle" ∧ (parseMethodDescriptor yX12_copy.desc).map (fun d => d.parameters.length) = some 0 := by decide +kernel
def wX12_copy_92    (post : Int32 → xMem → Prop) : Nat → Int32 → xMem → Prop
  | 0 => fun _ _ => False
  | n + 1 => fun x1 M =>
      if (gi M 0 28) ≤ x1 then (
        vp_in 0 2 ∧
        vp_in 1 2 ∧
        ∀ M4 : xMem, M4 = si M 15 1 (gi M 15 0) →
        vp_in 1 2 ∧
        post (gi M4 15 1) M4)
      else (
        vp_in x1 480 ∧
        vp_in (240 + x1) 480 ∧
        ∀ M8 : xMem, M8 = si M 13 (240 + x1).toNatClampNeg (gi M 13 x1.toNatClampNeg) →
        vp_in x1 480 ∧
        vp_in (240 + x1) 480 ∧
        ∀ M11 : xMem, M11 = si M8 14 (240 + x1).toNatClampNeg (gi M8 14 x1.toNatClampNeg) →
        ∀ v12 : Int32, v12 = x1 + 1 →
        wX12_copy_92 post n v12 M11)
def wX12_copy_2    (post : Int32 → xMem → Prop) : Nat → Int32 → xMem → Prop
  | 0 => fun _ _ => False
  | n + 1 => fun x1 M =>
      vp_in 0 2 ∧
      if (gi M 15 0) ≤ x1 then (
        ∃ n92 : Nat, wX12_copy_92 post n92 0 M)
      else (
        vp_in x1 32 ∧
        vp_in (16 + x1) 32 ∧
        ∀ M5 : xMem, M5 = si M 9 (16 + x1).toNatClampNeg (gi M 9 x1.toNatClampNeg) →
        vp_in x1 32 ∧
        vp_in (16 + x1) 32 ∧
        ∀ M8 : xMem, M8 = si M5 10 (16 + x1).toNatClampNeg (240 + (gi M5 10 x1.toNatClampNeg)) →
        vp_in x1 32 ∧
        vp_in (16 + x1) 32 ∧
        ∀ M11 : xMem, M11 = si M8 11 (16 + x1).toNatClampNeg (240 + (gi M8 11 x1.toNatClampNeg)) →
        vp_in x1 32 ∧
        vp_in (16 + x1) 32 ∧
        ∀ M14 : xMem, M14 = si M11 12 (16 + x1).toNatClampNeg (240 + (gi M11 12 x1.toNatClampNeg)) →
        ∀ v15 : Int32, v15 = x1 + 1 →
        wX12_copy_2 post n v15 M14)
def wX12_copy   (M : xMem) (post : Int32 → xMem → Prop) : Prop :=
    ∃ n2 : Nat, wX12_copy_2 post n2 0 M
abbrev rm_X12_valueOf : Room := { frames := 0, cells := 0, slots := 0, locals := 0 }
theorem yd_X12_valueOf : yX12_valueOf.cls ≠ "java/lang/invoke/MethodHandle" ∧ yX12_valueOf.cls ≠ "java/lang/invoke/VarHandle" ∧ (parseMethodDescriptor yX12_valueOf.desc).map (fun d => d.parameters.length) = some 1 := by decide +kernel
def wX12_valueOf  (a0 : Int32) (M : xMem) (post : Int32 → xMem → Prop) : Prop :=
    if a0 = 97 then (
      post (gi M 0 43) M)
    else
    if a0 = 98 then (
      post (gi M 0 65) M)
    else
    if a0 = 99 then (
      post (gi M 0 46) M)
    else
    if a0 = 100 then (
      post (gi M 0 65) M)
    else
    if a0 = 101 then (
      post (gi M 0 45) M)
    else
    if a0 = 102 then (
      post (gi M 0 65) M)
    else
    if a0 = 103 then (
      post (gi M 0 65) M)
    else
    if a0 = 104 then (
      post (gi M 0 48) M)
    else
    if a0 = 105 then (
      post (gi M 0 65) M)
    else
    if a0 = 106 then (
      post (gi M 0 65) M)
    else
    if a0 = 107 then (
      post (gi M 0 38) M)
    else
    if a0 = 108 then (
      post (gi M 0 42) M)
    else
    if a0 = 109 then (
      post (gi M 0 40) M)
    else
    if a0 = 110 then (
      post (gi M 0 65) M)
    else
    if a0 = 111 then (
      post (gi M 0 41) M)
    else
    if a0 = 112 then (
      post (gi M 0 65) M)
    else
    if a0 = 113 then (
      post (gi M 0 65) M)
    else
    if a0 = 114 then (
      post (gi M 0 44) M)
    else
    if a0 = 115 then (
      post (gi M 0 65) M)
    else
    if a0 = 116 then (
      post (gi M 0 65) M)
    else
    if a0 = 117 then (
      post (gi M 0 39) M)
    else
    if a0 = 118 then (
      post (gi M 0 65) M)
    else
    if a0 = 119 then (
      post (gi M 0 65) M)
    else
    if a0 = 120 then (
      post (gi M 0 65) M)
    else
    if a0 = 121 then (
      post (gi M 0 65) M)
    else
    if a0 = 122 then (
      post (gi M 0 47) M)
    else (
      post (gi M 0 65) M)
abbrev rm_X12_worked : Room := { frames := 0, cells := 0, slots := 0, locals := 0 }
theorem yd_X12_worked : yX12_worked.cls ≠ "java/lang/invoke/MethodHandle" ∧ yX12_worked.cls ≠ "java/lang/invoke/VarHandle" ∧ (parseMethodDescriptor yX12_worked.desc).map (fun d => d.parameters.length) = some 3 := by decide +kernel
def wX12_worked  (a0 : Int32) (a1 : Int32) (a2 : Int32) (M : xMem) (post : Int32 → xMem → Prop) : Prop :=
    if a0 = 37 then (
      if a2 = 0 then (
        post 0 M)
      else (
        ¬ (a2 : Int32) = 0 ∧
        post (a1 - a1 / a2 * a2) M))
    else
    if a0 = 42 then (
      post (a1 * a2) M)
    else
    if a0 = 43 then (
      post (a1 + a2) M)
    else
    if a0 = 45 then (
      post (a1 - a2) M)
    else
    if a0 = 47 then (
      if a2 = 0 then (
        post 0 M)
      else (
        ¬ (a2 : Int32) = 0 ∧
        post (a1 / a2) M))
    else
    if a0 = 60 then (
      if a2 ≤ a1 then (
        post 0 M)
      else (
        post 1 M))
    else
    if a0 = 62 then (
      if a1 ≤ a2 then (
        post 0 M)
      else (
        post 1 M))
    else (
      if a1 = a2 then (
        post 1 M)
      else (
        post 0 M))
abbrev rm_X12_does : Room := { frames := 1, cells := 0, slots := 0, locals := 22 }
theorem yd_X12_does : yX12_does.cls ≠ "java/lang/invoke/MethodHandle" ∧ yX12_does.cls ≠ "java/lang/invoke/VarHandle" ∧ (parseMethodDescriptor yX12_does.desc).map (fun d => d.parameters.length) = some 2 := by decide +kernel
def wX12_does_42    (post : xMem → Prop) (x2 : Int32) (x3 : Int32) (s0 : Int32) (s1 : Int32) (M : xMem) : Prop :=
    if s1 = s0 then (
      vp_in x3 240 ∧
      vp_in x2 240 ∧
      ∀ M4 : xMem, M4 = si M 23 x2.toNatClampNeg (gi M 23 x3.toNatClampNeg) →
      vp_in x3 240 ∧
      vp_in x2 240 ∧
      ∀ M7 : xMem, M7 = si M4 24 x2.toNatClampNeg (vp_nar .boolean (gi M4 24 x3.toNatClampNeg)) →
      post M7)
    else (
      post M)
def wX12_does_16    (post : xMem → Prop) (x1 : Int32) (x2 : Int32) (x3 : Int32) (M : xMem) : Prop :=
    vp_in x2 240 ∧
    if (gi M 24 x2.toNatClampNeg) = 0 then (
      vp_in x2 240 ∧
      if x1 = 38 then (
        wX12_does_42 post x2 x3 1 (gi M 23 x2.toNatClampNeg) M)
      else (
        wX12_does_42 post x2 x3 0 (gi M 23 x2.toNatClampNeg) M))
    else (
      post M)
def wX12_does_120    (post : xMem → Prop) (x1 : Int32) (x2 : Int32) (x3 : Int32) (s0 : Int32) (s1 : Int32) (M : xMem) : Prop :=
    vp_in s1 240 ∧
    ∀ M2 : xMem, M2 = si M 24 s1.toNatClampNeg (vp_nar .boolean s0) →
    vp_in x2 240 ∧
    vp_in x3 240 ∧
    wX12_worked x1 (gi M2 23 x2.toNatClampNeg) (gi M2 23 x3.toNatClampNeg) M2 (fun r6 M5 =>
      vp_in x2 240 ∧
      ∀ M8 : xMem, M8 = si M5 23 x2.toNatClampNeg r6 →
      post M8)
def wX12_does_115    (post : xMem → Prop) (x1 : Int32) (x2 : Int32) (x3 : Int32) (s0 : Int32) (M : xMem) : Prop :=
    wX12_does_120 post x1 x2 x3 1 s0 M
def wX12_does_119    (post : xMem → Prop) (x1 : Int32) (x2 : Int32) (x3 : Int32) (s0 : Int32) (M : xMem) : Prop :=
    wX12_does_120 post x1 x2 x3 0 s0 M
def wX12_does_106    (post : xMem → Prop) (x1 : Int32) (x2 : Int32) (x3 : Int32) (s0 : Int32) (M : xMem) : Prop :=
    vp_in x3 240 ∧
    if (gi M 23 x3.toNatClampNeg) = 0 then (
      wX12_does_115 post x1 x2 x3 s0 M)
    else (
      wX12_does_119 post x1 x2 x3 s0 M)
def wX12_does  (a0 : Int32) (a1 : Int32) (M : xMem) (post : xMem → Prop) : Prop :=
    ∀ v1 : Int32, v1 = a1 + 1 →
    if a0 = 38 then (
      wX12_does_16 post a0 a1 v1 M)
    else (
      if a0 = 124 then (
        wX12_does_16 post a0 a1 v1 M)
      else (
        vp_in a1 240 ∧
        if (gi M 24 a1.toNatClampNeg) = 0 then (
          vp_in v1 240 ∧
          if (gi M 24 v1.toNatClampNeg) = 0 then (
            if a0 = 47 then (
              wX12_does_106 post a0 a1 v1 a1 M)
            else (
              if a0 = 37 then (
                wX12_does_106 post a0 a1 v1 a1 M)
              else (
                wX12_does_119 post a0 a1 v1 a1 M)))
          else (
            wX12_does_115 post a0 a1 v1 a1 M))
        else (
          wX12_does_115 post a0 a1 v1 a1 M)))
abbrev rm_X12_works : Room := { frames := 2, cells := 0, slots := 0, locals := 45 }
theorem yd_X12_works : yX12_works.cls ≠ "java/lang/invoke/MethodHandle" ∧ yX12_works.cls ≠ "java/lang/invoke/VarHandle" ∧ (parseMethodDescriptor yX12_works.desc).map (fun d => d.parameters.length) = some 2 := by decide +kernel
def wX12_works_121   (K5 : Int32 → Int32 → Int32 → xMem → Prop) (post : xMem → Prop) (x2 : Int32) (x3 : Int32) (x4 : Int32) (M : xMem) : Prop :=
    ∀ v1 : Int32, v1 = x4 + 1 →
    K5 x2 x3 v1 M
def wX12_works_117   (K5 : Int32 → Int32 → Int32 → xMem → Prop) (post : xMem → Prop) (x2 : Int32) (x3 : Int32) (x4 : Int32) (s0 : Int32) (s1 : Int32) (M : xMem) : Prop :=
    vp_in s1 240 ∧
    ∀ M2 : xMem, M2 = si M 23 s1.toNatClampNeg s0 →
    ∀ v3 : Int32, v3 = x3 + 1 →
    wX12_works_121 K5 post x2 v3 x4 M2
def wX12_works_5    (post : xMem → Prop) : Nat → Int32 → Int32 → Int32 → xMem → Prop
  | 0 => fun _ _ _ _ => False
  | n + 1 => fun x2 x3 x4 M =>
      if x2 ≤ x4 then (
        post M)
      else (
        vp_in x4 480 ∧
        if (gi M 13 x4.toNatClampNeg) ≤ 2 then (
          vp_in x4 480 ∧
          if (gi M 13 x4.toNatClampNeg) = 2 then (
            vp_in (x3 - 1) 240 ∧
            vp_in (x3 - 1) 240 ∧
            ∀ M16 : xMem, M16 = si M 23 (x3 - 1).toNatClampNeg (1 - (gi M 23 (x3 - 1).toNatClampNeg)) →
            wX12_works_121 (wX12_works_5 post n) post x2 x3 x4 M16)
          else (
            vp_in x3 240 ∧
            ∀ M7 : xMem, M7 = si M 24 x3.toNatClampNeg (vp_nar .boolean 0) →
            vp_in x4 480 ∧
            if (gi M7 13 x4.toNatClampNeg) = 0 then (
              vp_in x4 480 ∧
              wX12_works_117 (wX12_works_5 post n) post x2 x3 x4 (gi M7 14 x4.toNatClampNeg) x3 M7)
            else (
              vp_in x4 480 ∧
              wX12_valueOf (gi M7 14 x4.toNatClampNeg) M7 (fun r12 M11 =>
                wX12_works_117 (wX12_works_5 post n) post x2 x3 x4 r12 x3 M11))))
        else (
          ∀ v17 : Int32, v17 = x3 + (-1) →
          vp_in x4 480 ∧
          wX12_does (gi M 13 x4.toNatClampNeg) (v17 - 1) M (fun M19 =>
            wX12_works_121 (wX12_works_5 post n) post x2 v17 x4 M19)))
def wX12_works  (a0 : Int32) (a1 : Int32) (M : xMem) (post : xMem → Prop) : Prop :=
    ∃ n5 : Nat, wX12_works_5 post n5 a1 0 a0 M
abbrev rm_X12_isSo : Room := { frames := 3, cells := 0, slots := 0, locals := 69 }
theorem yd_X12_isSo : yX12_isSo.cls ≠ "java/lang/invoke/MethodHandle" ∧ yX12_isSo.cls ≠ "java/lang/invoke/VarHandle" ∧ (parseMethodDescriptor yX12_isSo.desc).map (fun d => d.parameters.length) = some 1 := by decide +kernel
def wX12_isSo  (a0 : Int32) (M : xMem) (post : Int32 → xMem → Prop) : Prop :=
    vp_in a0 32 ∧
    vp_in a0 32 ∧
    wX12_works (gi M 11 a0.toNatClampNeg) (gi M 12 a0.toNatClampNeg) M (fun M3 =>
      vp_in 0 240 ∧
      if (gi M3 24 0) = 0 then (
        vp_in 0 240 ∧
        if (gi M3 23 0) = 1 then (
          post 1 M3)
        else (
          post 0 M3))
      else (
        post 0 M3))
abbrev rm_X12_tells : Room := { frames := 4, cells := 0, slots := 0, locals := 90 }
theorem yd_X12_tells : yX12_tells.cls ≠ "java/lang/invoke/MethodHandle" ∧ yX12_tells.cls ≠ "java/lang/invoke/VarHandle" ∧ (parseMethodDescriptor yX12_tells.desc).map (fun d => d.parameters.length) = some 2 := by decide +kernel
def wX12_tells_92   (K11 : Int32 → Int32 → Int32 → Int32 → xMem → Prop) (post : Int32 → xMem → Prop) (x1 : Int32) (x2 : Int32) (x3 : Int32) (x4 : Int32) (M : xMem) : Prop :=
    ∀ v1 : Int32, v1 = x4 + 1 →
    K11 x1 x2 x3 v1 M
def wX12_tells_11    (post : Int32 → xMem → Prop) : Nat → Int32 → Int32 → Int32 → Int32 → xMem → Prop
  | 0 => fun _ _ _ _ _ => False
  | n + 1 => fun x1 x2 x3 x4 M =>
      vp_in (gi M 0 27) 2 ∧
      if (x3 + (gi M 15 (gi M 0 27).toNatClampNeg)) ≤ x4 then (
        post 0 M)
      else (
        vp_in x4 32 ∧
        if (gi M 9 x4.toNatClampNeg) = x1 then (
          wX12_isSo x4 M (fun r6 M5 =>
            if r6 = 0 then (
              wX12_tells_92 (wX12_tells_11 post n) post x1 x2 x3 x4 M5)
            else (
              vp_in x4 32 ∧
              vp_in x4 32 ∧
              wX12_works (gi M5 10 x4.toNatClampNeg) (gi M5 11 x4.toNatClampNeg) M5 (fun M10 =>
                vp_in 0 240 ∧
                if (gi M10 24 0) = 0 then (
                  vp_in 0 240 ∧
                  wX12_held (gi M10 23 0) x2 M10 (fun r15 M14 =>
                    post r15 M14))
                else (
                  post 0 M10)))))
        else (
          wX12_tells_92 (wX12_tells_11 post n) post x1 x2 x3 x4 M))
def wX12_tells  (a0 : Int32) (a1 : Int32) (M : xMem) (post : Int32 → xMem → Prop) : Prop :=
    ∀ v1 : Int32, v1 = 16 * (gi M 0 27) →
    ∃ n11 : Nat, wX12_tells_11 post n11 a0 a1 v1 v1 M
abbrev rm_X12_goesAway : Room := { frames := 4, cells := 0, slots := 0, locals := 90 }
theorem yd_X12_goesAway : yX12_goesAway.cls ≠ "java/lang/invoke/MethodHandle" ∧ yX12_goesAway.cls ≠ "java/lang/invoke/VarHandle" ∧ (parseMethodDescriptor yX12_goesAway.desc).map (fun d => d.parameters.length) = some 0 := by decide +kernel
def wX12_goesAway_46   (K10 : Int32 → Int32 → xMem → Prop) (post : Int32 → xMem → Prop) (x1 : Int32) (x2 : Int32) (M : xMem) : Prop :=
    ∀ v1 : Int32, v1 = x2 + 1 →
    K10 x1 v1 M
def wX12_goesAway_10    (post : Int32 → xMem → Prop) : Nat → Int32 → Int32 → xMem → Prop
  | 0 => fun _ _ _ => False
  | n + 1 => fun x1 x2 M =>
      vp_in (gi M 0 27) 2 ∧
      if (x1 + (gi M 15 (gi M 0 27).toNatClampNeg)) ≤ x2 then (
        post 0 M)
      else (
        vp_in x2 32 ∧
        if (gi M 9 x2.toNatClampNeg) = 120 then (
          wX12_isSo x2 M (fun r6 M5 =>
            if r6 = 0 then (
              wX12_goesAway_46 (wX12_goesAway_10 post n) post x1 x2 M5)
            else (
              post 1 M5)))
        else (
          wX12_goesAway_46 (wX12_goesAway_10 post n) post x1 x2 M))
def wX12_goesAway   (M : xMem) (post : Int32 → xMem → Prop) : Prop :=
    ∀ v1 : Int32, v1 = 16 * (gi M 0 27) →
    ∃ n10 : Nat, wX12_goesAway_10 post n10 v1 v1 M
abbrev rm_X12_tellerStands : Room := { frames := 1, cells := 0, slots := 0, locals := 22 }
theorem yd_X12_tellerStands : yX12_tellerStands.cls ≠ "java/lang/invoke/MethodHandle" ∧ yX12_tellerStands.cls ≠ "java/lang/invoke/VarHandle" ∧ (parseMethodDescriptor yX12_tellerStands.desc).map (fun d => d.parameters.length) = some 1 := by decide +kernel
def wX12_tellerStands  (a0 : Int32) (M : xMem) (post : xMem → Prop) : Prop :=
    ∀ M1 : xMem, M1 = si M 0 38 a0 →
    vp_in a0 4 ∧
    ∀ M3 : xMem, M3 = si M1 0 39 (gi M1 33 a0.toNatClampNeg) →
    vp_in a0 4 ∧
    ∀ M5 : xMem, M5 = si M3 0 40 (gi M3 32 a0.toNatClampNeg) →
    vp_in a0 4 ∧
    wX12_sizeOf (gi M5 34 a0.toNatClampNeg) M5 (fun r8 M7 =>
      ∀ M9 : xMem, M9 = si M7 0 41 r8 →
      ∀ M10 : xMem, M10 = si M9 0 42 0 →
      ∀ M11 : xMem, M11 = si M10 0 43 0 →
      ∀ M12 : xMem, M12 = si M11 0 44 0 →
      ∀ M13 : xMem, M13 = si M12 0 45 0 →
      ∀ M14 : xMem, M14 = si M13 0 46 0 →
      ∀ M15 : xMem, M15 = si M14 0 47 0 →
      ∀ M16 : xMem, M16 = si M15 0 48 0 →
      post M16)
abbrev rm_X12_listenerStands : Room := { frames := 2, cells := 0, slots := 0, locals := 43 }
theorem yd_X12_listenerStands : yX12_listenerStands.cls ≠ "java/lang/invoke/MethodHandle" ∧ yX12_listenerStands.cls ≠ "java/lang/invoke/VarHandle" ∧ (parseMethodDescriptor yX12_listenerStands.desc).map (fun d => d.parameters.length) = some 1 := by decide +kernel
def wX12_listenerStands  (a0 : Int32) (M : xMem) (post : xMem → Prop) : Prop :=
    vp_in a0 10 ∧
    wX12_tellerStands (gi M 36 a0.toNatClampNeg) M (fun M2 =>
      ∀ M3 : xMem, M3 = si M2 0 42 a0 →
      vp_in a0 10 ∧
      ∀ M5 : xMem, M5 = si M3 0 43 (gi M3 37 a0.toNatClampNeg) →
      vp_in a0 10 ∧
      ∀ M7 : xMem, M7 = si M5 0 44 (gi M5 38 a0.toNatClampNeg) →
      post M7)
abbrev rm_X12_endStands : Room := { frames := 1, cells := 0, slots := 0, locals := 22 }
theorem yd_X12_endStands : yX12_endStands.cls ≠ "java/lang/invoke/MethodHandle" ∧ yX12_endStands.cls ≠ "java/lang/invoke/VarHandle" ∧ (parseMethodDescriptor yX12_endStands.desc).map (fun d => d.parameters.length) = some 1 := by decide +kernel
def wX12_endStands  (a0 : Int32) (M : xMem) (post : xMem → Prop) : Prop :=
    ∀ M1 : xMem, M1 = si M 0 38 0 →
    ∀ M2 : xMem, M2 = si M1 0 39 0 →
    ∀ M3 : xMem, M3 = si M2 0 40 0 →
    ∀ M4 : xMem, M4 = si M3 0 41 0 →
    ∀ M5 : xMem, M5 = si M4 0 42 0 →
    ∀ M6 : xMem, M6 = si M5 0 43 0 →
    ∀ M7 : xMem, M7 = si M6 0 44 0 →
    ∀ M8 : xMem, M8 = si M7 0 45 a0 →
    vp_in a0 10 ∧
    ∀ M10 : xMem, M10 = si M8 0 46 (gi M8 27 a0.toNatClampNeg) →
    vp_in a0 10 ∧
    ∀ M12 : xMem, M12 = si M10 0 47 (gi M10 28 a0.toNatClampNeg) →
    vp_in a0 10 ∧
    wX12_sizeOf (gi M12 26 a0.toNatClampNeg) M12 (fun r15 M14 =>
      ∀ M16 : xMem, M16 = si M14 0 48 r15 →
      post M16)
abbrev rm_X12_speedOf : Room := { frames := 5, cells := 0, slots := 0, locals := 114 }
theorem yd_X12_speedOf : yX12_speedOf.cls ≠ "java/lang/invoke/MethodHandle" ∧ yX12_speedOf.cls ≠ "java/lang/invoke/VarHandle" ∧ (parseMethodDescriptor yX12_speedOf.desc).map (fun d => d.parameters.length) = some 1 := by decide +kernel
def wX12_speedOf  (a0 : Int32) (M : xMem) (post : Int32 → xMem → Prop) : Prop :=
    wX12_tellerStands a0 M (fun M1 =>
      wX12_tells 110 20 M1 (fun r3 M2 =>
        post r3 M2))
abbrev rm_X12_costOf : Room := { frames := 5, cells := 0, slots := 0, locals := 114 }
theorem yd_X12_costOf : yX12_costOf.cls ≠ "java/lang/invoke/MethodHandle" ∧ yX12_costOf.cls ≠ "java/lang/invoke/VarHandle" ∧ (parseMethodDescriptor yX12_costOf.desc).map (fun d => d.parameters.length) = some 1 := by decide +kernel
def wX12_costOf  (a0 : Int32) (M : xMem) (post : Int32 → xMem → Prop) : Prop :=
    wX12_endStands a0 M (fun M1 =>
      wX12_tells 112 999 M1 (fun r3 M2 =>
        post r3 M2))
abbrev rm_X12_forgingOf : Room := { frames := 5, cells := 0, slots := 0, locals := 114 }
theorem yd_X12_forgingOf : yX12_forgingOf.cls ≠ "java/lang/invoke/MethodHandle" ∧ yX12_forgingOf.cls ≠ "java/lang/invoke/VarHandle" ∧ (parseMethodDescriptor yX12_forgingOf.desc).map (fun d => d.parameters.length) = some 1 := by decide +kernel
def wX12_forgingOf  (a0 : Int32) (M : xMem) (post : Int32 → xMem → Prop) : Prop :=
    wX12_endStands a0 M (fun M1 =>
      wX12_tells 103 10 M1 (fun r3 M2 =>
        post r3 M2))
abbrev rm_X12_isThere : Room := { frames := 1, cells := 0, slots := 0, locals := 25 }
theorem yd_X12_isThere : yX12_isThere.cls ≠ "java/lang/invoke/MethodHandle" ∧ yX12_isThere.cls ≠ "java/lang/invoke/VarHandle" ∧ (parseMethodDescriptor yX12_isThere.desc).map (fun d => d.parameters.length) = some 1 := by decide +kernel
def wX12_isThere  (a0 : Int32) (M : xMem) (post : Int32 → xMem → Prop) : Prop :=
    wX12_lies ((a0 : Int32).toInt64) 0 9 M (fun r2 M1 =>
      if r2 = 0 then (
        post 0 M1)
      else (
        vp_in a0 10 ∧
        if (gi M1 25 a0.toNatClampNeg) = 0 then (
          post 0 M1)
        else (
          post 1 M1)))
abbrev rm_X12_isTelling : Room := { frames := 1, cells := 0, slots := 0, locals := 25 }
theorem yd_X12_isTelling : yX12_isTelling.cls ≠ "java/lang/invoke/MethodHandle" ∧ yX12_isTelling.cls ≠ "java/lang/invoke/VarHandle" ∧ (parseMethodDescriptor yX12_isTelling.desc).map (fun d => d.parameters.length) = some 1 := by decide +kernel
def wX12_isTelling  (a0 : Int32) (M : xMem) (post : Int32 → xMem → Prop) : Prop :=
    wX12_lies ((a0 : Int32).toInt64) 0 3 M (fun r2 M1 =>
      if r2 = 0 then (
        post 0 M1)
      else (
        vp_in a0 4 ∧
        if (gi M1 30 a0.toNatClampNeg) = 0 then (
          post 0 M1)
        else (
          post 1 M1)))
abbrev rm_X12_isListening : Room := { frames := 1, cells := 0, slots := 0, locals := 25 }
theorem yd_X12_isListening : yX12_isListening.cls ≠ "java/lang/invoke/MethodHandle" ∧ yX12_isListening.cls ≠ "java/lang/invoke/VarHandle" ∧ (parseMethodDescriptor yX12_isListening.desc).map (fun d => d.parameters.length) = some 1 := by decide +kernel
def wX12_isListening  (a0 : Int32) (M : xMem) (post : Int32 → xMem → Prop) : Prop :=
    wX12_lies ((a0 : Int32).toInt64) 0 9 M (fun r2 M1 =>
      if r2 = 0 then (
        post 0 M1)
      else (
        vp_in a0 10 ∧
        if (gi M1 35 a0.toNatClampNeg) = 0 then (
          post 0 M1)
        else (
          post 1 M1)))
abbrev rm_X12_end : Room := { frames := 1, cells := 0, slots := 0, locals := 25 }
theorem yd_X12_end : yX12_end.cls ≠ "java/lang/invoke/MethodHandle" ∧ yX12_end.cls ≠ "java/lang/invoke/VarHandle" ∧ (parseMethodDescriptor yX12_end.desc).map (fun d => d.parameters.length) = some 5 := by decide +kernel
def wX12_end  (a0 : Int32) (a1 : Int32) (a2 : Int32) (a3 : Int32) (a4 : Int32) (M : xMem) (post : Int32 → xMem → Prop) : Prop :=
    wX12_lies ((a0 : Int32).toInt64) 0 9 M (fun r2 M1 =>
      if r2 = 0 then (
        post 0 M1)
      else (
        wX12_lies ((a1 : Int32).toInt64) 1 1023 M1 (fun r5 M4 =>
          if r5 = 0 then (
            post 0 M4)
          else (
            wX12_lies ((a2 : Int32).toInt64) 0 99 M4 (fun r8 M7 =>
              if r8 = 0 then (
                post 0 M7)
              else (
                wX12_lies ((a3 : Int32).toInt64) 0 9 M7 (fun r11 M10 =>
                  if r11 = 0 then (
                    post 0 M10)
                  else (
                    wX12_lies ((a4 : Int32).toInt64) 1 30 M10 (fun r14 M13 =>
                      if r14 = 0 then (
                        post 0 M13)
                      else (
                        vp_in a0 10 ∧
                        ∀ M17 : xMem, M17 = si M13 25 a0.toNatClampNeg (vp_nar .boolean 1) →
                        vp_in a0 10 ∧
                        ∀ M19 : xMem, M19 = si M17 26 a0.toNatClampNeg a1 →
                        vp_in a0 10 ∧
                        ∀ M21 : xMem, M21 = si M19 27 a0.toNatClampNeg a2 →
                        vp_in a0 10 ∧
                        ∀ M23 : xMem, M23 = si M21 28 a0.toNatClampNeg a3 →
                        vp_in a0 10 ∧
                        ∀ M25 : xMem, M25 = si M23 29 a0.toNatClampNeg a4 →
                        post 1 M25))))))))))
abbrev rm_X12_teller : Room := { frames := 2, cells := 0, slots := 0, locals := 46 }
theorem yd_X12_teller : yX12_teller.cls ≠ "java/lang/invoke/MethodHandle" ∧ yX12_teller.cls ≠ "java/lang/invoke/VarHandle" ∧ (parseMethodDescriptor yX12_teller.desc).map (fun d => d.parameters.length) = some 3 := by decide +kernel
def wX12_teller  (a0 : Int32) (a1 : Int32) (a2 : Int32) (M : xMem) (post : Int32 → xMem → Prop) : Prop :=
    wX12_lies ((a0 : Int32).toInt64) 0 3 M (fun r2 M1 =>
      if r2 = 0 then (
        post 0 M1)
      else (
        wX12_isTold a1 M1 (fun r5 M4 =>
          if r5 = 0 then (
            post 0 M4)
          else (
            wX12_lies ((a2 : Int32).toInt64) 0 9999 M4 (fun r8 M7 =>
              if r8 = 0 then (
                post 0 M7)
              else (
                vp_in a0 4 ∧
                ∀ M11 : xMem, M11 = si M7 30 a0.toNatClampNeg (vp_nar .boolean 1) →
                vp_in a0 4 ∧
                ∀ M13 : xMem, M13 = si M11 31 a0.toNatClampNeg a1 →
                vp_in a0 4 ∧
                ∀ M15 : xMem, M15 = si M13 32 a0.toNatClampNeg a2 →
                vp_in a0 4 ∧
                ∀ M17 : xMem, M17 = si M15 33 a0.toNatClampNeg 0 →
                vp_in a0 4 ∧
                ∀ M19 : xMem, M19 = si M17 34 a0.toNatClampNeg 0 →
                post 1 M19))))))
abbrev rm_X12_listener : Room := { frames := 2, cells := 0, slots := 0, locals := 46 }
theorem yd_X12_listener : yX12_listener.cls ≠ "java/lang/invoke/MethodHandle" ∧ yX12_listener.cls ≠ "java/lang/invoke/VarHandle" ∧ (parseMethodDescriptor yX12_listener.desc).map (fun d => d.parameters.length) = some 3 := by decide +kernel
def wX12_listener  (a0 : Int32) (a1 : Int32) (a2 : Int32) (M : xMem) (post : Int32 → xMem → Prop) : Prop :=
    wX12_lies ((a0 : Int32).toInt64) 0 9 M (fun r2 M1 =>
      if r2 = 0 then (
        post 0 M1)
      else (
        wX12_isTelling a1 M1 (fun r5 M4 =>
          if r5 = 0 then (
            post 0 M4)
          else (
            wX12_lies ((a2 : Int32).toInt64) 0 99 M4 (fun r8 M7 =>
              if r8 = 0 then (
                post 0 M7)
              else (
                vp_in a0 10 ∧
                ∀ M11 : xMem, M11 = si M7 35 a0.toNatClampNeg (vp_nar .boolean 1) →
                vp_in a0 10 ∧
                ∀ M13 : xMem, M13 = si M11 36 a0.toNatClampNeg a1 →
                vp_in a0 10 ∧
                ∀ M15 : xMem, M15 = si M13 37 a0.toNatClampNeg a2 →
                vp_in a0 10 ∧
                ∀ M17 : xMem, M17 = si M15 38 a0.toNatClampNeg 0 →
                post 1 M17))))))
abbrev rm_X12_laysCheapest : Room := { frames := 6, cells := 0, slots := 0, locals := 135 }
theorem yd_X12_laysCheapest : yX12_laysCheapest.cls ≠ "java/lang/invoke/MethodHandle" ∧ yX12_laysCheapest.cls ≠ "java/lang/invoke/VarHandle" ∧ (parseMethodDescriptor yX12_laysCheapest.desc).map (fun d => d.parameters.length) = some 1 := by decide +kernel
def wX12_laysCheapest_197   (K68 : Int32 → Int32 → Int32 → xMem → Prop) (post : Int32 → xMem → Prop) (x1 : Int32) (x2 : Int32) (x3 : Int32) (M : xMem) : Prop :=
    ∀ v1 : Int32, v1 = x3 + 1 →
    K68 x1 x2 v1 M
def wX12_laysCheapest_186   (K68 : Int32 → Int32 → Int32 → xMem → Prop) (post : Int32 → xMem → Prop) (x1 : Int32) (x2 : Int32) (x3 : Int32) (x5 : Int32) (M : xMem) : Prop :=
    ∀ M1 : xMem, M1 = si M 0 69 x3 →
    ∀ M2 : xMem, M2 = si M1 0 70 x5 →
    wX12_laysCheapest_197 K68 post x1 x2 x3 M2
def wX12_laysCheapest_136   (K68 : Int32 → Int32 → Int32 → xMem → Prop) (K93 : Int32 → Int32 → Int32 → Int32 → Int32 → Int32 → xMem → Prop) (post : Int32 → xMem → Prop) (x1 : Int32) (x2 : Int32) (x3 : Int32) (x4 : Int32) (x5 : Int32) (x6 : Int32) (M : xMem) : Prop :=
    ∀ v1 : Int32, v1 = x6 + 1 →
    K93 x1 x2 x3 x4 x5 v1 M
def wX12_laysCheapest_93   (K68 : Int32 → Int32 → Int32 → xMem → Prop) (post : Int32 → xMem → Prop) : Nat → Int32 → Int32 → Int32 → Int32 → Int32 → Int32 → xMem → Prop
  | 0 => fun _ _ _ _ _ _ _ => False
  | n + 1 => fun x1 x2 x3 x4 x5 x6 M =>
      if 10 ≤ x6 then (
        if (x1 &&& (x4 ^^^ (-1))) = 0 then (
          if (gi M 0 70) < x5 then (
            wX12_laysCheapest_197 K68 post x1 x2 x3 M)
          else (
            if x5 = (gi M 0 70) then (
              wX12_sizeOf x3 M (fun r6 M5 =>
                wX12_sizeOf (gi M5 0 69) M5 (fun r8 M7 =>
                  if r6 < r8 then (
                    wX12_laysCheapest_186 K68 post x1 x2 x3 x5 M7)
                  else (
                    wX12_laysCheapest_197 K68 post x1 x2 x3 M7))))
            else (
              wX12_laysCheapest_186 K68 post x1 x2 x3 x5 M)))
        else (
          wX12_laysCheapest_197 K68 post x1 x2 x3 M))
      else (
        wX12_has x3 x6 M (fun r11 M10 =>
          if r11 = 0 then (
            wX12_laysCheapest_136 K68 (wX12_laysCheapest_93 K68 post n) post x1 x2 x3 x4 x5 x6 M10)
          else (
            vp_in x6 10 ∧
            ∀ v14 : Int32, v14 = x4 ||| (gi M10 26 x6.toNatClampNeg) →
            vp_in x6 10 ∧
            ∀ v16 : Int32, v16 = x5 + (gi M10 39 x6.toNatClampNeg) →
            wX12_laysCheapest_136 K68 (wX12_laysCheapest_93 K68 post n) post x1 x2 x3 v14 v16 x6 M10)))
def wX12_laysCheapest_68    (post : Int32 → xMem → Prop) : Nat → Int32 → Int32 → Int32 → xMem → Prop
  | 0 => fun _ _ _ _ => False
  | n + 1 => fun x1 x2 x3 M =>
      if x2 < x3 then (
        if (gi M 0 69) = (-1) then (
          post 0 M)
        else (
          post 1 M))
      else (
        if (x3 &&& (x2 ^^^ (-1))) = 0 then (
          ∃ n93 : Nat, wX12_laysCheapest_93 (wX12_laysCheapest_68 post n) post n93 x1 x2 x3 0 0 0 M)
        else (
          wX12_laysCheapest_197 (wX12_laysCheapest_68 post n) post x1 x2 x3 M))
def wX12_laysCheapest_48   (K4 : Int32 → Int32 → Int32 → xMem → Prop) (post : Int32 → xMem → Prop) (x1 : Int32) (x2 : Int32) (x3 : Int32) (M : xMem) : Prop :=
    ∀ v1 : Int32, v1 = x3 + 1 →
    K4 x1 x2 v1 M
def wX12_laysCheapest_4    (post : Int32 → xMem → Prop) : Nat → Int32 → Int32 → Int32 → xMem → Prop
  | 0 => fun _ _ _ _ => False
  | n + 1 => fun x1 x2 x3 M =>
      if 10 ≤ x3 then (
        ∀ M2 : xMem, M2 = si M 0 69 (-1) →
        ∀ M3 : xMem, M3 = si M2 0 70 1000000000 →
        ∃ n68 : Nat, wX12_laysCheapest_68 post n68 x1 x2 1 M3)
      else (
        vp_in x3 10 ∧
        if (gi M 25 x3.toNatClampNeg) = 0 then (
          wX12_laysCheapest_48 (wX12_laysCheapest_4 post n) post x1 x2 x3 M)
        else (
          vp_in x3 10 ∧
          if (gi M 28 x3.toNatClampNeg) = 0 then (
            wX12_laysCheapest_48 (wX12_laysCheapest_4 post n) post x1 x2 x3 M)
          else (
            ∀ v8 : Int32, v8 = x2 ||| (1 <<< (x3 &&& 31)) →
            wX12_costOf x3 M (fun r10 M9 =>
              vp_in x3 10 ∧
              ∀ M12 : xMem, M12 = si M9 39 x3.toNatClampNeg r10 →
              wX12_laysCheapest_48 (wX12_laysCheapest_4 post n) post x1 v8 x3 M12))))
def wX12_laysCheapest  (a0 : Int32) (M : xMem) (post : Int32 → xMem → Prop) : Prop :=
    ∃ n4 : Nat, wX12_laysCheapest_4 post n4 a0 0 0 M
abbrev rm_X12_cheapest : Room := { frames := 7, cells := 0, slots := 0, locals := 161 }
theorem yd_X12_cheapest : yX12_cheapest.cls ≠ "java/lang/invoke/MethodHandle" ∧ yX12_cheapest.cls ≠ "java/lang/invoke/VarHandle" ∧ (parseMethodDescriptor yX12_cheapest.desc).map (fun d => d.parameters.length) = some 2 := by decide +kernel
def wX12_cheapest  (a0 : Int32) (a1 : Int32) (M : xMem) (post : Int32 → xMem → Prop) : Prop :=
    wX12_lies ((a0 : Int32).toInt64) 1 1023 M (fun r2 M1 =>
      if r2 = 0 then (
        post (-1) M1)
      else (
        wX12_lies ((a1 : Int32).toInt64) 0 1 M1 (fun r5 M4 =>
          if r5 = 0 then (
            post (-1) M4)
          else (
            wX12_laysCheapest a0 M4 (fun r8 M7 =>
              if r8 = 0 then (
                post (-2) M7)
              else (
                if a1 = 0 then (
                  post (gi M7 0 70) M7)
                else (
                  post (gi M7 0 69) M7)))))))
abbrev rm_X12_draw : Room := { frames := 0, cells := 0, slots := 0, locals := 0 }
theorem yd_X12_draw : yX12_draw.cls ≠ "java/lang/invoke/MethodHandle" ∧ yX12_draw.cls ≠ "java/lang/invoke/VarHandle" ∧ (parseMethodDescriptor yX12_draw.desc).map (fun d => d.parameters.length) = some 0 := by decide +kernel
def wX12_draw   (M : xMem) (post : Int32 → xMem → Prop) : Prop :=
    ¬ (65536 : Int32) = 0 ∧
    ∀ M2 : xMem, M2 = si M 0 2 (((25173 * (gi M 0 2)) + 13849) - ((25173 * (gi M 0 2)) + 13849) / 65536 * 65536) →
    ¬ (10 : Int32) = 0 ∧
    post ((gi M2 0 2) - (gi M2 0 2) / 10 * 10) M2
abbrev rm_X12_buying : Room := { frames := 6, cells := 0, slots := 0, locals := 135 }
theorem yd_X12_buying : yX12_buying.cls ≠ "java/lang/invoke/MethodHandle" ∧ yX12_buying.cls ≠ "java/lang/invoke/VarHandle" ∧ (parseMethodDescriptor yX12_buying.desc).map (fun d => d.parameters.length) = some 3 := by decide +kernel
def wX12_buying_117    (post : Int32 → xMem → Prop) (x1 : Int32) (s0 : Int32) (s1 : Int32) (M : xMem) : Prop :=
    ∀ v1 : Int32, v1 = s1 &&& s0 →
    vp_in x1 4 ∧
    vp_in x1 4 ∧
    ∀ M4 : xMem, M4 = si M 34 x1.toNatClampNeg ((gi M 34 x1.toNatClampNeg) &&& (v1 ^^^ (-1))) →
    post v1 M4
def wX12_buying_78    (post : Int32 → xMem → Prop) (x1 : Int32) (x2 : Int32) (x5 : Int32) (s0 : Int32) (s1 : Int32) (M : xMem) : Prop :=
    ∀ M1 : xMem, M1 = si M 0 73 (s1 + s0) →
    vp_in x1 4 ∧
    if x5 = 0 then (
      vp_in x2 10 ∧
      wX12_buying_117 post x1 (gi M1 26 x2.toNatClampNeg) (gi M1 34 x1.toNatClampNeg) M1)
    else (
      vp_in x2 10 ∧
      vp_in x2 10 ∧
      wX12_buying_117 post x1 ((gi M1 26 x2.toNatClampNeg) &&& ((gi M1 26 x2.toNatClampNeg) - 1)) (gi M1 34 x1.toNatClampNeg) M1)
def wX12_buying_61    (post : Int32 → xMem → Prop) (x1 : Int32) (x2 : Int32) (s0 : Int32) (M : xMem) : Prop :=
    if s0 = 0 then (
      wX12_buying_78 post x1 x2 s0 0 (gi M 0 73) M)
    else (
      wX12_buying_78 post x1 x2 s0 1 (gi M 0 73) M)
def wX12_buying  (a0 : Int32) (a1 : Int32) (a2 : Int32) (M : xMem) (post : Int32 → xMem → Prop) : Prop :=
    wX12_forgingOf a1 M (fun r2 M1 =>
      vp_in a0 4 ∧
      vp_in a0 4 ∧
      ∀ M5 : xMem, M5 = si M1 32 a0.toNatClampNeg ((gi M1 32 a0.toNatClampNeg) - a2) →
      vp_in a1 10 ∧
      vp_in a1 10 ∧
      ∀ M8 : xMem, M8 = si M5 28 a1.toNatClampNeg ((gi M5 28 a1.toNatClampNeg) - 1) →
      ∀ M9 : xMem, M9 = si M8 0 71 ((gi M8 0 71) + a2) →
      ∀ M10 : xMem, M10 = si M9 0 72 ((gi M9 0 72) + 1) →
      wX12_draw  M10 (fun r12 M11 =>
        if r2 ≤ r12 then (
          wX12_buying_61 post a0 a1 0 M11)
        else (
          wX12_buying_61 post a0 a1 1 M11)))
set_option maxHeartbeats 4000000 in
set_option maxRecDepth 100000 in
theorem tX12_goesBehind_29 {g : xG} (hg : x_inj (WM g))  {x : xCx}   {post : Int32 → xMem → Prop} (C : xOk (WM g) x cX12_goesBehind RX12 2 (some .boolean) (rm_X12_goesBehind) (pI post))   (x1 : Int32) (s0 : Int32) (M : xMem)  (h : wX12_goesBehind_29 post x1 s0 M) : xW (WM g) x 2 29 [(0, .ref (ga g 0)), (1, .int x1)] [.int s0, .ref (ga g 0)] M := by
  unfold wX12_goesBehind_29 at h
  refine x_callV C (st := []) (As := [.int s0]) (c := 0) (ci := 12) (enM_12 (c := 0) rfl) (Nat.le_of_ble_eq_true rfl) rfl (tX12_joins hg _ _ _ _  h) wm_X12_362 wi_X12_joins wv_X12_joins wz_X12 wc_X12_joins rfl yd_X12_joins rfl ⟨rfl, rfl⟩ ⟨Nat.le_of_ble_eq_true rfl, Nat.le_of_ble_eq_true rfl⟩ (Nat.le_of_ble_eq_true rfl) rfl dX12_goesBehind_29 (x_kv (fun M1 h => ?_))
  refine x_aload_n C 0 rfl rfl dX12_goesBehind_32 ?_
  refine x_iload_n C 1 rfl rfl dX12_goesBehind_33 ?_
  refine x_callV C (st := []) (As := [.int x1]) (c := 0) (ci := 12) (enM_12 (c := 0) rfl) (Nat.le_of_ble_eq_true rfl) rfl (tX12_puts hg _ _ _ _  h) wm_X12_313 wi_X12_puts wv_X12_puts wz_X12 wc_X12_puts rfl yd_X12_puts rfl ⟨rfl, rfl⟩ ⟨Nat.le_of_ble_eq_true rfl, Nat.le_of_ble_eq_true rfl⟩ (Nat.le_of_ble_eq_true rfl) rfl dX12_goesBehind_34 (x_kv (fun M2 h => ?_))
  refine x_iconst C (v1 := 1) dX12_goesBehind_37 (by decide) ?_
  exact x_zret C rfl dX12_goesBehind_38 ⟨_, rfl, h⟩
set_option maxHeartbeats 4000000 in
set_option maxRecDepth 100000 in
theorem tX12_goesBehind_17 {g : xG} (hg : x_inj (WM g))  {x : xCx}   {post : Int32 → xMem → Prop} (C : xOk (WM g) x cX12_goesBehind RX12 2 (some .boolean) (rm_X12_goesBehind) (pI post))   (x1 : Int32) (M : xMem)  (h : wX12_goesBehind_17 post x1 M) : xW (WM g) x 2 17 [(0, .ref (ga g 0)), (1, .int x1)] [] M := by
  unfold wX12_goesBehind_17 at h
  refine x_aload_n C 0 rfl rfl dX12_goesBehind_17 ?_
  refine x_iload_n C 1 rfl rfl dX12_goesBehind_18 ?_
  refine x_bipush C (v1 := 124) dX12_goesBehind_19 (by decide) ?_
  refine x_icmp_ne C (tgt := 28) dX12_goesBehind_21 (by decide) (fun hq1 => ?_) (fun hq1 => ?_)
  · replace h := x_iff hq1 h
    refine x_iconst C (v1 := 0) dX12_goesBehind_28 (by decide) ?_
    exact tX12_goesBehind_29 hg  C   _ _ _  h
  · replace h := x_ift hq1 h
    refine x_iconst C (v1 := 1) dX12_goesBehind_24 (by decide) ?_
    refine x_goto C (tgt := 29) dX12_goesBehind_25 (by decide) ?_
    exact tX12_goesBehind_29 hg  C   _ _ _  h
set_option maxHeartbeats 4000000 in
set_option maxRecDepth 100000 in
theorem tX12_goesBehind_104 {g : xG} (hg : x_inj (WM g))  {x : xCx}   {post : Int32 → xMem → Prop} (C : xOk (WM g) x cX12_goesBehind RX12 2 (some .boolean) (rm_X12_goesBehind) (pI post))   (s0 : Int32) (M : xMem)  (h : wX12_goesBehind_104 post s0 M) : xW (WM g) x 2 104 [(0, .ref (ga g 0))] [.int s0, .ref (ga g 0)] M := by
  unfold wX12_goesBehind_104 at h
  obtain ⟨hb2, h⟩ := h
  refine x_put C (c := 0) (ci := 12) (k1 := 35) (u1 := s0) (v1 := .int s0) (ty := .boolean) (enM_12 (c := 0) rfl) (Nat.le_of_ble_eq_true rfl) rfl inX12 (by decide) (stX12_35 _ _ _) tyX12 tyX12_ok nmX12 wf_X12_365 rfl rfl hb2.1 hb2.2 (Nat.le_of_ble_eq_true rfl) dX12_goesBehind_104 ?_
  refine x_nmM (fun M1 eM1 => ?_)
  replace h := h M1 eM1
  refine x_aload_n C 0 rfl rfl dX12_goesBehind_107 ?_
  refine x_get C (c := 0) (ci := 12) (k1 := 35) (v1 := .int (gi M1 0 35)) (enM_12 (c := 0) rfl) (Nat.le_of_ble_eq_true rfl) rfl inX12 (by decide) wf_X12_365 rfl dX12_goesBehind_108 ?_
  refine x_if_ne C (tgt := 118) dX12_goesBehind_111 (by decide) (fun hq3 => ?_) (fun hq3 => ?_)
  · replace h := x_iff hq3 h
    refine x_iconst C (v1 := 0) dX12_goesBehind_118 (by decide) ?_
    exact x_zret C rfl dX12_goesBehind_119 ⟨_, rfl, h⟩
  · replace h := x_ift hq3 h
    refine x_aload_n C 0 rfl rfl dX12_goesBehind_114 ?_
    refine x_callV C (st := []) (As := []) (c := 0) (ci := 12) (enM_12 (c := 0) rfl) (Nat.le_of_ble_eq_true rfl) rfl (tX12_ends hg _  _ _  h) wm_X12_359 wi_X12_ends wv_X12_ends wz_X12 wc_X12_ends rfl yd_X12_ends rfl ⟨rfl, rfl⟩ ⟨Nat.le_of_ble_eq_true rfl, Nat.le_of_ble_eq_true rfl⟩ (Nat.le_of_ble_eq_true rfl) rfl dX12_goesBehind_115 (x_kv (fun M4 h => ?_))
    refine x_iconst C (v1 := 0) dX12_goesBehind_118 (by decide) ?_
    exact x_zret C rfl dX12_goesBehind_119 ⟨_, rfl, h⟩
set_option maxHeartbeats 4000000 in
set_option maxRecDepth 100000 in
theorem tX12_goesBehind {g : xG} (hg : x_inj (WM g))  (l : Launch)  (M : xMem) (post : Int32 → xMem → Prop)  (h : wX12_goesBehind  M post) : xMet (WM g) l yX12_goesBehind cX12_goesBehind 2 (some .boolean) (rm_X12_goesBehind) [.ref (ga g 0)] M (pI post) := by
  refine x_enter (own := RX12) (L0 := [(0, .ref (ga g 0))]) (by decide +kernel) rfl hg (x_stM g) (Nat.le_of_ble_eq_true rfl) rfl (fun x hl C => ?_)
  unfold wX12_goesBehind at h
  refine x_aload_n C 0 rfl rfl dX12_goesBehind_0 ?_
  refine x_callV C (st := []) (As := []) (c := 0) (ci := 12) (enM_12 (c := 0) rfl) (Nat.le_of_ble_eq_true rfl) rfl (tX12_here hg _  _ _  h) wm_X12_214 wi_X12_here wv_X12_here wz_X12 wc_X12_here rfl yd_X12_here rfl ⟨rfl, rfl⟩ ⟨Nat.le_of_ble_eq_true rfl, Nat.le_of_ble_eq_true rfl⟩ (Nat.le_of_ble_eq_true rfl) rfl dX12_goesBehind_1 (x_ki (fun r2 M1 h => ?_))
  refine x_istore_n C (L' := [(1, .int r2), (0, .ref (ga g 0))]) rfl rfl (Nat.le_of_ble_eq_true rfl) dX12_goesBehind_4 ?_
  refine x_iload_n C 0 rfl rfl dX12_goesBehind_5 ?_
  refine x_bipush C (v1 := 38) dX12_goesBehind_6 (by decide) ?_
  refine x_icmp_eq C (tgt := 17) dX12_goesBehind_8 (by decide) (fun hq3 => ?_) (fun hq3 => ?_)
  · replace h := x_ift hq3 h
    refine x_loc (L' := [(0, .ref (ga g 0)), (1, .int r2)]) [1, 0] rfl ?_
    exact tX12_goesBehind_17 hg  C   _ _  h
  · replace h := x_iff hq3 h
    refine x_iload_n C 0 rfl rfl dX12_goesBehind_11 ?_
    refine x_bipush C (v1 := 124) dX12_goesBehind_12 (by decide) ?_
    refine x_icmp_ne C (tgt := 39) dX12_goesBehind_14 (by decide) (fun hq4 => ?_) (fun hq4 => ?_)
    · replace h := x_iff hq4 h
      refine x_iload_n C 0 rfl rfl dX12_goesBehind_39 ?_
      refine x_bipush C (v1 := 41) dX12_goesBehind_40 (by decide) ?_
      refine x_icmp_eq C (tgt := 56) dX12_goesBehind_42 (by decide) (fun hq5 => ?_) (fun hq5 => ?_)
      · replace h := x_ift hq5 h
        refine x_aload_n C 1 rfl rfl dX12_goesBehind_56 ?_
        refine x_iconst C (v1 := 1) dX12_goesBehind_57 (by decide) ?_
        refine x_callV C (st := []) (As := [.int 1]) (c := 0) (ci := 12) (enM_12 (c := 0) rfl) (Nat.le_of_ble_eq_true rfl) rfl (tX12_joins hg _ _ _ _  h) wm_X12_362 wi_X12_joins wv_X12_joins wz_X12 wc_X12_joins rfl yd_X12_joins rfl ⟨rfl, rfl⟩ ⟨Nat.le_of_ble_eq_true rfl, Nat.le_of_ble_eq_true rfl⟩ (Nat.le_of_ble_eq_true rfl) rfl dX12_goesBehind_58 (x_kv (fun M6 h => ?_))
        refine x_aload_n C 1 rfl rfl dX12_goesBehind_61 ?_
        refine x_dup C rfl dX12_goesBehind_62 ?_
        refine x_get C (c := 0) (ci := 12) (k1 := 9) (v1 := .int (gi M6 0 9)) (enM_12 (c := 0) rfl) (Nat.le_of_ble_eq_true rfl) rfl inX12 (by decide) wf_X12_307 rfl dX12_goesBehind_63 ?_
        refine x_iconst C (v1 := 1) dX12_goesBehind_66 (by decide) ?_
        refine x_isub C dX12_goesBehind_67 ?_
        refine x_put C (c := 0) (ci := 12) (k1 := 9) (u1 := ((gi M6 0 9) - 1)) (v1 := .int ((gi M6 0 9) - 1)) (ty := .int) (enM_12 (c := 0) rfl) (Nat.le_of_ble_eq_true rfl) rfl inX12 (by decide) (stX12_9 _ _ _) tyX12 tyX12_ok nmX12 wf_X12_307 rfl rfl rfl rfl (Nat.le_of_ble_eq_true rfl) dX12_goesBehind_68 ?_
        refine x_nmM (fun M7 eM7 => ?_)
        replace h := h M7 eM7
        refine x_aload_n C 1 rfl rfl dX12_goesBehind_71 ?_
        refine x_dup C rfl dX12_goesBehind_72 ?_
        refine x_get C (c := 0) (ci := 12) (k1 := 8) (v1 := .int (gi M7 0 8)) (enM_12 (c := 0) rfl) (Nat.le_of_ble_eq_true rfl) rfl inX12 (by decide) wf_X12_310 rfl dX12_goesBehind_73 ?_
        refine x_iconst C (v1 := 1) dX12_goesBehind_76 (by decide) ?_
        refine x_isub C dX12_goesBehind_77 ?_
        refine x_put C (c := 0) (ci := 12) (k1 := 8) (u1 := ((gi M7 0 8) - 1)) (v1 := .int ((gi M7 0 8) - 1)) (ty := .int) (enM_12 (c := 0) rfl) (Nat.le_of_ble_eq_true rfl) rfl inX12 (by decide) (stX12_8 _ _ _) tyX12 tyX12_ok nmX12 wf_X12_310 rfl rfl rfl rfl (Nat.le_of_ble_eq_true rfl) dX12_goesBehind_78 ?_
        refine x_nmM (fun M8 eM8 => ?_)
        replace h := h M8 eM8
        refine x_aload_n C 1 rfl rfl dX12_goesBehind_81 ?_
        refine x_dup C rfl dX12_goesBehind_82 ?_
        refine x_get C (c := 0) (ci := 12) (k1 := 3) (v1 := .int (gi M8 0 3)) (enM_12 (c := 0) rfl) (Nat.le_of_ble_eq_true rfl) rfl inX12 (by decide) wf_X12_205 rfl dX12_goesBehind_83 ?_
        refine x_iconst C (v1 := 1) dX12_goesBehind_86 (by decide) ?_
        refine x_iadd C dX12_goesBehind_87 ?_
        refine x_put C (c := 0) (ci := 12) (k1 := 3) (u1 := ((gi M8 0 3) + 1)) (v1 := .int ((gi M8 0 3) + 1)) (ty := .int) (enM_12 (c := 0) rfl) (Nat.le_of_ble_eq_true rfl) rfl inX12 (by decide) (stX12_3 _ _ _) tyX12 tyX12_ok nmX12 wf_X12_205 rfl rfl rfl rfl (Nat.le_of_ble_eq_true rfl) dX12_goesBehind_88 ?_
        refine x_nmM (fun M9 eM9 => ?_)
        replace h := h M9 eM9
        refine x_aload_n C 1 rfl rfl dX12_goesBehind_91 ?_
        refine x_aload_n C 1 rfl rfl dX12_goesBehind_92 ?_
        refine x_get C (c := 0) (ci := 12) (k1 := 9) (v1 := .int (gi M9 0 9)) (enM_12 (c := 0) rfl) (Nat.le_of_ble_eq_true rfl) rfl inX12 (by decide) wf_X12_307 rfl dX12_goesBehind_93 ?_
        refine x_if_ne C (tgt := 103) dX12_goesBehind_96 (by decide) (fun hq10 => ?_) (fun hq10 => ?_)
        · replace h := x_iff hq10 h
          refine x_iconst C (v1 := 0) dX12_goesBehind_103 (by decide) ?_
          refine x_loc (L' := [(0, .ref (ga g 0))]) [1] rfl ?_
          exact tX12_goesBehind_104 hg  C   _ _  h
        · replace h := x_ift hq10 h
          refine x_iconst C (v1 := 1) dX12_goesBehind_99 (by decide) ?_
          refine x_goto C (tgt := 104) dX12_goesBehind_100 (by decide) ?_
          refine x_loc (L' := [(0, .ref (ga g 0))]) [1] rfl ?_
          exact tX12_goesBehind_104 hg  C   _ _  h
      · replace h := x_iff hq5 h
        refine x_aload_n C 1 rfl rfl dX12_goesBehind_45 ?_
        refine x_iconst C (v1 := 1) dX12_goesBehind_46 (by decide) ?_
        refine x_aload_n C 1 rfl rfl dX12_goesBehind_47 ?_
        refine x_get C (c := 0) (ci := 12) (k1 := 3) (v1 := .int (gi M1 0 3)) (enM_12 (c := 0) rfl) (Nat.le_of_ble_eq_true rfl) rfl inX12 (by decide) wf_X12_205 rfl dX12_goesBehind_48 ?_
        refine x_callV C (st := []) (As := [.int 1, .int (gi M1 0 3)]) (c := 0) (ci := 12) (enM_12 (c := 0) rfl) (Nat.le_of_ble_eq_true rfl) rfl (tX12_wrongs hg _ _ _ _ _  h) wm_X12_229 wi_X12_wrongs wv_X12_wrongs wz_X12 wc_X12_wrongs rfl yd_X12_wrongs rfl ⟨rfl, rfl⟩ ⟨Nat.le_of_ble_eq_true rfl, Nat.le_of_ble_eq_true rfl⟩ (Nat.le_of_ble_eq_true rfl) rfl dX12_goesBehind_51 (x_kv (fun M11 h => ?_))
        refine x_iconst C (v1 := 0) dX12_goesBehind_54 (by decide) ?_
        exact x_zret C rfl dX12_goesBehind_55 ⟨_, rfl, h⟩
    · replace h := x_ift hq4 h
      refine x_loc (L' := [(0, .ref (ga g 0)), (1, .int r2)]) [1, 0] rfl ?_
      exact tX12_goesBehind_17 hg  C   _ _  h
set_option maxHeartbeats 4000000 in
set_option maxRecDepth 100000 in
theorem tX12_condition_59 {g : xG} (hg : x_inj (WM g))  {x : xCx}  {K37 : Int32 → xMem → Prop} {post : xMem → Prop} (C : xOk (WM g) x cX12_condition RX12 2 none (rm_X12_condition) (pV post))  (hK37 : ∀ (x1 : Int32) (M : xMem), K37 x1 M → xW (WM g) x 2 37 [(0, .ref (ga g 0)), (1, .int x1)] [] M) (x1 : Int32) (M : xMem)  (h : wX12_condition_59 K37 post x1 M) : xW (WM g) x 2 59 [(0, .ref (ga g 0)), (1, .int x1)] [] M := by
  unfold wX12_condition_59 at h
  refine x_aload_n C 0 rfl rfl dX12_condition_59 ?_
  refine x_callV C (st := []) (As := []) (c := 0) (ci := 12) (enM_12 (c := 0) rfl) (Nat.le_of_ble_eq_true rfl) rfl (tX12_isGood hg _  _ _  h) wm_X12_233 wi_X12_isGood wv_X12_isGood wz_X12 wc_X12_isGood rfl yd_X12_isGood rfl ⟨rfl, rfl⟩ ⟨Nat.le_of_ble_eq_true rfl, Nat.le_of_ble_eq_true rfl⟩ (Nat.le_of_ble_eq_true rfl) rfl dX12_condition_60 (x_ki (fun r2 M1 h => ?_))
  refine x_if_eq C (tgt := 37) dX12_condition_63 (by decide) (fun hq3 => ?_) (fun hq3 => ?_)
  · replace h := x_ift hq3 h
    exact hK37 _ _  h
  · replace h := x_iff hq3 h
    refine x_aload_n C 0 rfl rfl dX12_condition_66 ?_
    refine x_callV C (st := []) (As := []) (c := 0) (ci := 12) (enM_12 (c := 0) rfl) (Nat.le_of_ble_eq_true rfl) rfl (tX12_goesBehind hg _  _ _  h) wm_X12_371 wi_X12_goesBehind wv_X12_goesBehind wz_X12 wc_X12_goesBehind rfl yd_X12_goesBehind rfl ⟨rfl, rfl⟩ ⟨Nat.le_of_ble_eq_true rfl, Nat.le_of_ble_eq_true rfl⟩ (Nat.le_of_ble_eq_true rfl) rfl dX12_condition_67 (x_ki (fun r5 M4 h => ?_))
    refine x_istore_n C (L' := [(1, .int r5), (0, .ref (ga g 0))]) rfl rfl (Nat.le_of_ble_eq_true rfl) dX12_condition_70 ?_
    refine x_goto C (tgt := 37) dX12_condition_71 (by decide) ?_
    refine x_loc (L' := [(0, .ref (ga g 0)), (1, .int r5)]) [1, 0] rfl ?_
    exact hK37 _ _  h
set_option maxHeartbeats 4000000 in
set_option maxRecDepth 100000 in
theorem tX12_condition_37 {g : xG} (hg : x_inj (WM g))  {x : xCx}   {post : xMem → Prop} (C : xOk (WM g) x cX12_condition RX12 2 none (rm_X12_condition) (pV post))   : ∀ (n : Nat) (x1 : Int32) (M : xMem), wX12_condition_37 post n x1 M → xW (WM g) x 2 37 [(0, .ref (ga g 0)), (1, .int x1)] [] M := by
  intro n
  induction n with
  | zero =>
    intro x1 M  h
    exact h.elim
  | succ n ih =>
    intro x1 M  h
    rw [wX12_condition_37] at h
    refine x_aload_n C 0 rfl rfl dX12_condition_37 ?_
    refine x_callV C (st := []) (As := []) (c := 0) (ci := 12) (enM_12 (c := 0) rfl) (Nat.le_of_ble_eq_true rfl) rfl (tX12_isGood hg _  _ _  h) wm_X12_233 wi_X12_isGood wv_X12_isGood wz_X12 wc_X12_isGood rfl yd_X12_isGood rfl ⟨rfl, rfl⟩ ⟨Nat.le_of_ble_eq_true rfl, Nat.le_of_ble_eq_true rfl⟩ (Nat.le_of_ble_eq_true rfl) rfl dX12_condition_38 (x_ki (fun r2 M1 h => ?_))
    refine x_if_eq C (tgt := 74) dX12_condition_41 (by decide) (fun hq3 => ?_) (fun hq3 => ?_)
    · replace h := x_ift hq3 h
      exact x_vret C dX12_condition_74 ⟨rfl, h⟩
    · replace h := x_iff hq3 h
      refine x_aload_n C 0 rfl rfl dX12_condition_44 ?_
      refine x_get C (c := 0) (ci := 12) (k1 := 35) (v1 := .int (gi M1 0 35)) (enM_12 (c := 0) rfl) (Nat.le_of_ble_eq_true rfl) rfl inX12 (by decide) wf_X12_365 rfl dX12_condition_45 ?_
      refine x_if_ne C (tgt := 74) dX12_condition_48 (by decide) (fun hq4 => ?_) (fun hq4 => ?_)
      · replace h := x_iff hq4 h
        exact x_vret C dX12_condition_74 ⟨rfl, h⟩
      · replace h := x_ift hq4 h
        refine x_iload_n C 1 rfl rfl dX12_condition_51 ?_
        refine x_if_eq C (tgt := 59) dX12_condition_52 (by decide) (fun hq5 => ?_) (fun hq5 => ?_)
        · replace h := x_ift hq5 h
          exact tX12_condition_59 hg  C  ih _ _  h
        · replace h := x_iff hq5 h
          refine x_aload_n C 0 rfl rfl dX12_condition_55 ?_
          refine x_callV C (st := []) (As := []) (c := 0) (ci := 12) (enM_12 (c := 0) rfl) (Nat.le_of_ble_eq_true rfl) rfl (tX12_pieceOfC hg _  _ _  h) wm_X12_368 wi_X12_pieceOfC wv_X12_pieceOfC wz_X12 wc_X12_pieceOfC rfl yd_X12_pieceOfC rfl ⟨rfl, rfl⟩ ⟨Nat.le_of_ble_eq_true rfl, Nat.le_of_ble_eq_true rfl⟩ (Nat.le_of_ble_eq_true rfl) rfl dX12_condition_56 (x_kv (fun M6 h => ?_))
          exact tX12_condition_59 hg  C  ih _ _  h
set_option maxHeartbeats 4000000 in
set_option maxRecDepth 100000 in
theorem tX12_condition_23 {g : xG} (hg : x_inj (WM g))  {x : xCx}   {post : xMem → Prop} (C : xOk (WM g) x cX12_condition RX12 2 none (rm_X12_condition) (pV post))    (M : xMem)  (h : wX12_condition_23 post  M) : xW (WM g) x 2 23 [(0, .ref (ga g 0))] [] M := by
  unfold wX12_condition_23 at h
  refine x_aload_n C 0 rfl rfl dX12_condition_23 ?_
  refine x_callV C (st := []) (As := []) (c := 0) (ci := 12) (enM_12 (c := 0) rfl) (Nat.le_of_ble_eq_true rfl) rfl (tX12_isGood hg _  _ _  h) wm_X12_233 wi_X12_isGood wv_X12_isGood wz_X12 wc_X12_isGood rfl yd_X12_isGood rfl ⟨rfl, rfl⟩ ⟨Nat.le_of_ble_eq_true rfl, Nat.le_of_ble_eq_true rfl⟩ (Nat.le_of_ble_eq_true rfl) rfl dX12_condition_24 (x_ki (fun r2 M1 h => ?_))
  refine x_if_ne C (tgt := 31) dX12_condition_27 (by decide) (fun hq3 => ?_) (fun hq3 => ?_)
  · replace h := x_iff hq3 h
    refine x_aload_n C 0 rfl rfl dX12_condition_31 ?_
    refine x_callV C (st := []) (As := []) (c := 0) (ci := 12) (enM_12 (c := 0) rfl) (Nat.le_of_ble_eq_true rfl) rfl (tX12_opens hg _  _ _  h) wm_X12_331 wi_X12_opens wv_X12_opens wz_X12 wc_X12_opens rfl yd_X12_opens rfl ⟨rfl, rfl⟩ ⟨Nat.le_of_ble_eq_true rfl, Nat.le_of_ble_eq_true rfl⟩ (Nat.le_of_ble_eq_true rfl) rfl dX12_condition_32 (x_kv (fun M4 h => ?_))
    refine x_iconst C (v1 := 1) dX12_condition_35 (by decide) ?_
    refine x_istore_n C (L' := [(1, .int 1), (0, .ref (ga g 0))]) rfl rfl (Nat.le_of_ble_eq_true rfl) dX12_condition_36 ?_
    refine x_loc (L' := [(0, .ref (ga g 0)), (1, .int 1)]) [1, 0] rfl ?_
    obtain ⟨n37, h⟩ := h
    exact tX12_condition_37 hg  C   _ _ _  h
  · replace h := x_ift hq3 h
    exact x_vret C dX12_condition_30 ⟨rfl, h⟩
set_option maxHeartbeats 4000000 in
set_option maxRecDepth 100000 in
theorem tX12_condition {g : xG} (hg : x_inj (WM g))  (l : Launch)  (M : xMem) (post : xMem → Prop)  (h : wX12_condition  M post) : xMet (WM g) l yX12_condition cX12_condition 2 none (rm_X12_condition) [.ref (ga g 0)] M (pV post) := by
  refine x_enter (own := RX12) (L0 := [(0, .ref (ga g 0))]) (by decide +kernel) rfl hg (x_stM g) (Nat.le_of_ble_eq_true rfl) rfl (fun x hl C => ?_)
  unfold wX12_condition at h
  refine x_aload_n C 0 rfl rfl dX12_condition_0 ?_
  refine x_iconst C (v1 := 0) dX12_condition_1 (by decide) ?_
  refine x_put C (c := 0) (ci := 12) (k1 := 35) (u1 := 0) (v1 := .int 0) (ty := .boolean) (enM_12 (c := 0) rfl) (Nat.le_of_ble_eq_true rfl) rfl inX12 (by decide) (stX12_35 _ _ _) tyX12 tyX12_ok nmX12 wf_X12_365 rfl rfl rfl rfl (Nat.le_of_ble_eq_true rfl) dX12_condition_2 ?_
  refine x_nmM (fun M1 eM1 => ?_)
  replace h := h M1 eM1
  refine x_aload_n C 0 rfl rfl dX12_condition_5 ?_
  refine x_callV C (st := []) (As := []) (c := 0) (ci := 12) (enM_12 (c := 0) rfl) (Nat.le_of_ble_eq_true rfl) rfl (tX12_here hg _  _ _  h) wm_X12_214 wi_X12_here wv_X12_here wz_X12 wc_X12_here rfl yd_X12_here rfl ⟨rfl, rfl⟩ ⟨Nat.le_of_ble_eq_true rfl, Nat.le_of_ble_eq_true rfl⟩ (Nat.le_of_ble_eq_true rfl) rfl dX12_condition_6 (x_ki (fun r3 M2 h => ?_))
  refine x_bipush C (v1 := 40) dX12_condition_9 (by decide) ?_
  refine x_icmp_eq C (tgt := 23) dX12_condition_11 (by decide) (fun hq4 => ?_) (fun hq4 => ?_)
  · replace h := x_ift hq4 h
    exact tX12_condition_23 hg  C   _  h
  · replace h := x_iff hq4 h
    refine x_aload_n C 0 rfl rfl dX12_condition_14 ?_
    refine x_iconst C (v1 := 1) dX12_condition_15 (by decide) ?_
    refine x_aload_n C 0 rfl rfl dX12_condition_16 ?_
    refine x_get C (c := 0) (ci := 12) (k1 := 3) (v1 := .int (gi M2 0 3)) (enM_12 (c := 0) rfl) (Nat.le_of_ble_eq_true rfl) rfl inX12 (by decide) wf_X12_205 rfl dX12_condition_17 ?_
    refine x_callV C (st := []) (As := [.int 1, .int (gi M2 0 3)]) (c := 0) (ci := 12) (enM_12 (c := 0) rfl) (Nat.le_of_ble_eq_true rfl) rfl (tX12_wrongs hg _ _ _ _ _  h) wm_X12_229 wi_X12_wrongs wv_X12_wrongs wz_X12 wc_X12_wrongs rfl yd_X12_wrongs rfl ⟨rfl, rfl⟩ ⟨Nat.le_of_ble_eq_true rfl, Nat.le_of_ble_eq_true rfl⟩ (Nat.le_of_ble_eq_true rfl) rfl dX12_condition_20 (x_kv (fun M5 h => ?_))
    exact tX12_condition_23 hg  C   _  h
set_option maxHeartbeats 4000000 in
set_option maxRecDepth 100000 in
theorem tX12_isClause {g : xG} (hg : x_inj (WM g))  (l : Launch) (a0 : Int32) (M : xMem) (post : Int32 → xMem → Prop)  (h : wX12_isClause a0 M post) : xMet (WM g) l yX12_isClause cX12_isClause 1 (some .boolean) (rm_X12_isClause) [.int a0] M (pI post) := by
  refine x_enter (own := RX12) (L0 := [(0, .int a0)]) (by decide +kernel) rfl hg (x_stM g) (Nat.le_of_ble_eq_true rfl) rfl (fun x hl C => ?_)
  unfold wX12_isClause at h
  refine x_iload_n C 0 rfl rfl dX12_isClause_0 ?_
  refine x_bipush C (v1 := 110) dX12_isClause_1 (by decide) ?_
  refine x_icmp_eq C (tgt := 42) dX12_isClause_3 (by decide) (fun hq1 => ?_) (fun hq1 => ?_)
  · replace h := x_ift hq1 h
    refine x_iconst C (v1 := 1) dX12_isClause_42 (by decide) ?_
    refine x_goto C (tgt := 47) dX12_isClause_43 (by decide) ?_
    exact x_zret C rfl dX12_isClause_47 ⟨_, rfl, h⟩
  · replace h := x_iff hq1 h
    refine x_iload_n C 0 rfl rfl dX12_isClause_6 ?_
    refine x_bipush C (v1 := 112) dX12_isClause_7 (by decide) ?_
    refine x_icmp_eq C (tgt := 42) dX12_isClause_9 (by decide) (fun hq2 => ?_) (fun hq2 => ?_)
    · replace h := x_ift hq2 h
      refine x_iconst C (v1 := 1) dX12_isClause_42 (by decide) ?_
      refine x_goto C (tgt := 47) dX12_isClause_43 (by decide) ?_
      exact x_zret C rfl dX12_isClause_47 ⟨_, rfl, h⟩
    · replace h := x_iff hq2 h
      refine x_iload_n C 0 rfl rfl dX12_isClause_12 ?_
      refine x_bipush C (v1 := 116) dX12_isClause_13 (by decide) ?_
      refine x_icmp_eq C (tgt := 42) dX12_isClause_15 (by decide) (fun hq3 => ?_) (fun hq3 => ?_)
      · replace h := x_ift hq3 h
        refine x_iconst C (v1 := 1) dX12_isClause_42 (by decide) ?_
        refine x_goto C (tgt := 47) dX12_isClause_43 (by decide) ?_
        exact x_zret C rfl dX12_isClause_47 ⟨_, rfl, h⟩
      · replace h := x_iff hq3 h
        refine x_iload_n C 0 rfl rfl dX12_isClause_18 ?_
        refine x_bipush C (v1 := 115) dX12_isClause_19 (by decide) ?_
        refine x_icmp_eq C (tgt := 42) dX12_isClause_21 (by decide) (fun hq4 => ?_) (fun hq4 => ?_)
        · replace h := x_ift hq4 h
          refine x_iconst C (v1 := 1) dX12_isClause_42 (by decide) ?_
          refine x_goto C (tgt := 47) dX12_isClause_43 (by decide) ?_
          exact x_zret C rfl dX12_isClause_47 ⟨_, rfl, h⟩
        · replace h := x_iff hq4 h
          refine x_iload_n C 0 rfl rfl dX12_isClause_24 ?_
          refine x_bipush C (v1 := 102) dX12_isClause_25 (by decide) ?_
          refine x_icmp_eq C (tgt := 42) dX12_isClause_27 (by decide) (fun hq5 => ?_) (fun hq5 => ?_)
          · replace h := x_ift hq5 h
            refine x_iconst C (v1 := 1) dX12_isClause_42 (by decide) ?_
            refine x_goto C (tgt := 47) dX12_isClause_43 (by decide) ?_
            exact x_zret C rfl dX12_isClause_47 ⟨_, rfl, h⟩
          · replace h := x_iff hq5 h
            refine x_iload_n C 0 rfl rfl dX12_isClause_30 ?_
            refine x_bipush C (v1 := 103) dX12_isClause_31 (by decide) ?_
            refine x_icmp_eq C (tgt := 42) dX12_isClause_33 (by decide) (fun hq6 => ?_) (fun hq6 => ?_)
            · replace h := x_ift hq6 h
              refine x_iconst C (v1 := 1) dX12_isClause_42 (by decide) ?_
              refine x_goto C (tgt := 47) dX12_isClause_43 (by decide) ?_
              exact x_zret C rfl dX12_isClause_47 ⟨_, rfl, h⟩
            · replace h := x_iff hq6 h
              refine x_iload_n C 0 rfl rfl dX12_isClause_36 ?_
              refine x_bipush C (v1 := 120) dX12_isClause_37 (by decide) ?_
              refine x_icmp_ne C (tgt := 46) dX12_isClause_39 (by decide) (fun hq7 => ?_) (fun hq7 => ?_)
              · replace h := x_iff hq7 h
                refine x_iconst C (v1 := 0) dX12_isClause_46 (by decide) ?_
                exact x_zret C rfl dX12_isClause_47 ⟨_, rfl, h⟩
              · replace h := x_ift hq7 h
                refine x_iconst C (v1 := 1) dX12_isClause_42 (by decide) ?_
                refine x_goto C (tgt := 47) dX12_isClause_43 (by decide) ?_
                exact x_zret C rfl dX12_isClause_47 ⟨_, rfl, h⟩
set_option maxHeartbeats 4000000 in
set_option maxRecDepth 100000 in
theorem tX12_clause_127 {g : xG} (hg : x_inj (WM g))  {x : xCx}   {post : xMem → Prop} (C : xOk (WM g) x cX12_clause RX12 2 none (rm_X12_clause) (pV post))    (M : xMem)  (h : wX12_clause_127 post  M) : xW (WM g) x 2 127 [(0, .ref (ga g 0))] [] M := by
  unfold wX12_clause_127 at h
  refine x_aload_n C 0 rfl rfl dX12_clause_127 ?_
  refine x_get C (c := 0) (ci := 12) (k1 := 32) (v1 := .ref (ga g 19)) (enM_12 (c := 0) rfl) (Nat.le_of_ble_eq_true rfl) rfl inX12 (by decide) wf_X12_70 rfl dX12_clause_128 ?_
  refine x_aload_n C 0 rfl rfl dX12_clause_131 ?_
  refine x_get C (c := 0) (ci := 12) (k1 := 6) (v1 := .int (gi M 0 6)) (enM_12 (c := 0) rfl) (Nat.le_of_ble_eq_true rfl) rfl inX12 (by decide) wf_X12_377 rfl dX12_clause_132 ?_
  refine x_aload_n C 0 rfl rfl dX12_clause_135 ?_
  refine x_get C (c := 0) (ci := 12) (k1 := 7) (v1 := .int (gi M 0 7)) (enM_12 (c := 0) rfl) (Nat.le_of_ble_eq_true rfl) rfl inX12 (by decide) wf_X12_304 rfl dX12_clause_136 ?_
  obtain ⟨hi1, h⟩ := h
  refine x_iast C 0 (c := 19) (enM_20n (c := 19) (n := 16) rfl rfl) (Nat.le_of_ble_eq_true rfl) rfl hi1 dX12_clause_139 ?_
  refine x_nmM (fun M2 eM2 => ?_)
  replace h := h M2 eM2
  refine x_aload_n C 0 rfl rfl dX12_clause_140 ?_
  refine x_dup C rfl dX12_clause_141 ?_
  refine x_get C (c := 0) (ci := 12) (k1 := 6) (v1 := .int (gi M2 0 6)) (enM_12 (c := 0) rfl) (Nat.le_of_ble_eq_true rfl) rfl inX12 (by decide) wf_X12_377 rfl dX12_clause_142 ?_
  refine x_iconst C (v1 := 1) dX12_clause_145 (by decide) ?_
  refine x_iadd C dX12_clause_146 ?_
  refine x_put C (c := 0) (ci := 12) (k1 := 6) (u1 := ((gi M2 0 6) + 1)) (v1 := .int ((gi M2 0 6) + 1)) (ty := .int) (enM_12 (c := 0) rfl) (Nat.le_of_ble_eq_true rfl) rfl inX12 (by decide) (stX12_6 _ _ _) tyX12 tyX12_ok nmX12 wf_X12_377 rfl rfl rfl rfl (Nat.le_of_ble_eq_true rfl) dX12_clause_147 ?_
  refine x_nmM (fun M3 eM3 => ?_)
  replace h := h M3 eM3
  exact x_vret C dX12_clause_150 ⟨rfl, h⟩
set_option maxHeartbeats 4000000 in
set_option maxRecDepth 100000 in
theorem tX12_clause_103 {g : xG} (hg : x_inj (WM g))  {x : xCx}   {post : xMem → Prop} (C : xOk (WM g) x cX12_clause RX12 2 none (rm_X12_clause) (pV post))    (M : xMem)  (h : wX12_clause_103 post  M) : xW (WM g) x 2 103 [(0, .ref (ga g 0))] [] M := by
  unfold wX12_clause_103 at h
  refine x_aload_n C 0 rfl rfl dX12_clause_103 ?_
  refine x_get C (c := 0) (ci := 12) (k1 := 31) (v1 := .ref (ga g 18)) (enM_12 (c := 0) rfl) (Nat.le_of_ble_eq_true rfl) rfl inX12 (by decide) wf_X12_67 rfl dX12_clause_104 ?_
  refine x_aload_n C 0 rfl rfl dX12_clause_107 ?_
  refine x_get C (c := 0) (ci := 12) (k1 := 6) (v1 := .int (gi M 0 6)) (enM_12 (c := 0) rfl) (Nat.le_of_ble_eq_true rfl) rfl inX12 (by decide) wf_X12_377 rfl dX12_clause_108 ?_
  refine x_aload_n C 0 rfl rfl dX12_clause_111 ?_
  refine x_get C (c := 0) (ci := 12) (k1 := 7) (v1 := .int (gi M 0 7)) (enM_12 (c := 0) rfl) (Nat.le_of_ble_eq_true rfl) rfl inX12 (by decide) wf_X12_304 rfl dX12_clause_112 ?_
  obtain ⟨hi1, h⟩ := h
  refine x_iast C 0 (c := 18) (enM_20n (c := 18) (n := 16) rfl rfl) (Nat.le_of_ble_eq_true rfl) rfl hi1 dX12_clause_115 ?_
  refine x_nmM (fun M2 eM2 => ?_)
  replace h := h M2 eM2
  refine x_aload_n C 0 rfl rfl dX12_clause_116 ?_
  refine x_callV C (st := []) (As := []) (c := 0) (ci := 12) (enM_12 (c := 0) rfl) (Nat.le_of_ble_eq_true rfl) rfl (tX12_isGood hg _  _ _  h) wm_X12_233 wi_X12_isGood wv_X12_isGood wz_X12 wc_X12_isGood rfl yd_X12_isGood rfl ⟨rfl, rfl⟩ ⟨Nat.le_of_ble_eq_true rfl, Nat.le_of_ble_eq_true rfl⟩ (Nat.le_of_ble_eq_true rfl) rfl dX12_clause_117 (x_ki (fun r4 M3 h => ?_))
  refine x_if_eq C (tgt := 127) dX12_clause_120 (by decide) (fun hq5 => ?_) (fun hq5 => ?_)
  · replace h := x_ift hq5 h
    exact tX12_clause_127 hg  C   _  h
  · replace h := x_iff hq5 h
    refine x_aload_n C 0 rfl rfl dX12_clause_123 ?_
    refine x_callV C (st := []) (As := []) (c := 0) (ci := 12) (enM_12 (c := 0) rfl) (Nat.le_of_ble_eq_true rfl) rfl (tX12_condition hg _  _ _  h) wm_X12_380 wi_X12_condition wv_X12_condition wz_X12 wc_X12_condition rfl yd_X12_condition rfl ⟨rfl, rfl⟩ ⟨Nat.le_of_ble_eq_true rfl, Nat.le_of_ble_eq_true rfl⟩ (Nat.le_of_ble_eq_true rfl) rfl dX12_clause_124 (x_kv (fun M6 h => ?_))
    exact tX12_clause_127 hg  C   _  h
set_option maxHeartbeats 4000000 in
set_option maxRecDepth 100000 in
theorem tX12_clause_42 {g : xG} (hg : x_inj (WM g))  {x : xCx}   {post : xMem → Prop} (C : xOk (WM g) x cX12_clause RX12 2 none (rm_X12_clause) (pV post))   (x1 : Int32) (M : xMem)  (h : wX12_clause_42 post x1 M) : xW (WM g) x 2 42 [(0, .ref (ga g 0)), (1, .int x1)] [] M := by
  unfold wX12_clause_42 at h
  refine x_aload_n C 0 rfl rfl dX12_clause_42 ?_
  refine x_callV C (st := []) (As := []) (c := 0) (ci := 12) (enM_12 (c := 0) rfl) (Nat.le_of_ble_eq_true rfl) rfl (tX12_isGood hg _  _ _  h) wm_X12_233 wi_X12_isGood wv_X12_isGood wz_X12 wc_X12_isGood rfl yd_X12_isGood rfl ⟨rfl, rfl⟩ ⟨Nat.le_of_ble_eq_true rfl, Nat.le_of_ble_eq_true rfl⟩ (Nat.le_of_ble_eq_true rfl) rfl dX12_clause_43 (x_ki (fun r2 M1 h => ?_))
  refine x_if_ne C (tgt := 50) dX12_clause_46 (by decide) (fun hq3 => ?_) (fun hq3 => ?_)
  · replace h := x_iff hq3 h
    refine x_aload_n C 0 rfl rfl dX12_clause_50 ?_
    refine x_get C (c := 0) (ci := 12) (k1 := 29) (v1 := .ref (ga g 16)) (enM_12 (c := 0) rfl) (Nat.le_of_ble_eq_true rfl) rfl inX12 (by decide) wf_X12_61 rfl dX12_clause_51 ?_
    refine x_aload_n C 0 rfl rfl dX12_clause_54 ?_
    refine x_get C (c := 0) (ci := 12) (k1 := 6) (v1 := .int (gi M1 0 6)) (enM_12 (c := 0) rfl) (Nat.le_of_ble_eq_true rfl) rfl inX12 (by decide) wf_X12_377 rfl dX12_clause_55 ?_
    refine x_iload_n C 1 rfl rfl dX12_clause_58 ?_
    obtain ⟨hi4, h⟩ := h
    refine x_iast C 0 (c := 16) (enM_20n (c := 16) (n := 16) rfl rfl) (Nat.le_of_ble_eq_true rfl) rfl hi4 dX12_clause_59 ?_
    refine x_nmM (fun M5 eM5 => ?_)
    replace h := h M5 eM5
    refine x_aload_n C 0 rfl rfl dX12_clause_60 ?_
    refine x_get C (c := 0) (ci := 12) (k1 := 30) (v1 := .ref (ga g 17)) (enM_12 (c := 0) rfl) (Nat.le_of_ble_eq_true rfl) rfl inX12 (by decide) wf_X12_64 rfl dX12_clause_61 ?_
    refine x_aload_n C 0 rfl rfl dX12_clause_64 ?_
    refine x_get C (c := 0) (ci := 12) (k1 := 6) (v1 := .int (gi M5 0 6)) (enM_12 (c := 0) rfl) (Nat.le_of_ble_eq_true rfl) rfl inX12 (by decide) wf_X12_377 rfl dX12_clause_65 ?_
    refine x_aload_n C 0 rfl rfl dX12_clause_68 ?_
    refine x_get C (c := 0) (ci := 12) (k1 := 7) (v1 := .int (gi M5 0 7)) (enM_12 (c := 0) rfl) (Nat.le_of_ble_eq_true rfl) rfl inX12 (by decide) wf_X12_304 rfl dX12_clause_69 ?_
    obtain ⟨hi6, h⟩ := h
    refine x_iast C 0 (c := 17) (enM_20n (c := 17) (n := 16) rfl rfl) (Nat.le_of_ble_eq_true rfl) rfl hi6 dX12_clause_72 ?_
    refine x_nmM (fun M7 eM7 => ?_)
    replace h := h M7 eM7
    refine x_aload_n C 0 rfl rfl dX12_clause_73 ?_
    refine x_dup C rfl dX12_clause_74 ?_
    refine x_get C (c := 0) (ci := 12) (k1 := 3) (v1 := .int (gi M7 0 3)) (enM_12 (c := 0) rfl) (Nat.le_of_ble_eq_true rfl) rfl inX12 (by decide) wf_X12_205 rfl dX12_clause_75 ?_
    refine x_iconst C (v1 := 1) dX12_clause_78 (by decide) ?_
    refine x_iadd C dX12_clause_79 ?_
    refine x_put C (c := 0) (ci := 12) (k1 := 3) (u1 := ((gi M7 0 3) + 1)) (v1 := .int ((gi M7 0 3) + 1)) (ty := .int) (enM_12 (c := 0) rfl) (Nat.le_of_ble_eq_true rfl) rfl inX12 (by decide) (stX12_3 _ _ _) tyX12 tyX12_ok nmX12 wf_X12_205 rfl rfl rfl rfl (Nat.le_of_ble_eq_true rfl) dX12_clause_80 ?_
    refine x_nmM (fun M8 eM8 => ?_)
    replace h := h M8 eM8
    refine x_aload_n C 0 rfl rfl dX12_clause_83 ?_
    refine x_iconst C (v1 := 0) dX12_clause_84 (by decide) ?_
    refine x_put C (c := 0) (ci := 12) (k1 := 9) (u1 := 0) (v1 := .int 0) (ty := .int) (enM_12 (c := 0) rfl) (Nat.le_of_ble_eq_true rfl) rfl inX12 (by decide) (stX12_9 _ _ _) tyX12 tyX12_ok nmX12 wf_X12_307 rfl rfl rfl rfl (Nat.le_of_ble_eq_true rfl) dX12_clause_85 ?_
    refine x_nmM (fun M9 eM9 => ?_)
    replace h := h M9 eM9
    refine x_aload_n C 0 rfl rfl dX12_clause_88 ?_
    refine x_iconst C (v1 := 0) dX12_clause_89 (by decide) ?_
    refine x_put C (c := 0) (ci := 12) (k1 := 8) (u1 := 0) (v1 := .int 0) (ty := .int) (enM_12 (c := 0) rfl) (Nat.le_of_ble_eq_true rfl) rfl inX12 (by decide) (stX12_8 _ _ _) tyX12 tyX12_ok nmX12 wf_X12_310 rfl rfl rfl rfl (Nat.le_of_ble_eq_true rfl) dX12_clause_90 ?_
    refine x_nmM (fun M10 eM10 => ?_)
    replace h := h M10 eM10
    refine x_iload_n C 1 rfl rfl dX12_clause_93 ?_
    refine x_bipush C (v1 := 120) dX12_clause_94 (by decide) ?_
    refine x_icmp_eq C (tgt := 103) dX12_clause_96 (by decide) (fun hq11 => ?_) (fun hq11 => ?_)
    · replace h := x_ift hq11 h
      refine x_loc (L' := [(0, .ref (ga g 0))]) [0] rfl ?_
      exact tX12_clause_103 hg  C   _  h
    · replace h := x_iff hq11 h
      refine x_aload_n C 0 rfl rfl dX12_clause_99 ?_
      refine x_callV C (st := []) (As := []) (c := 0) (ci := 12) (enM_12 (c := 0) rfl) (Nat.le_of_ble_eq_true rfl) rfl (tX12_value hg _  _ _  h) wm_X12_353 wi_X12_value wv_X12_value wz_X12 wc_X12_value rfl yd_X12_value rfl ⟨rfl, rfl⟩ ⟨Nat.le_of_ble_eq_true rfl, Nat.le_of_ble_eq_true rfl⟩ (Nat.le_of_ble_eq_true rfl) rfl dX12_clause_100 (x_kv (fun M12 h => ?_))
      refine x_loc (L' := [(0, .ref (ga g 0))]) [0] rfl ?_
      exact tX12_clause_103 hg  C   _  h
  · replace h := x_ift hq3 h
    exact x_vret C dX12_clause_49 ⟨rfl, h⟩
set_option maxHeartbeats 4000000 in
set_option maxRecDepth 100000 in
theorem tX12_clause {g : xG} (hg : x_inj (WM g))  (l : Launch)  (M : xMem) (post : xMem → Prop)  (h : wX12_clause  M post) : xMet (WM g) l yX12_clause cX12_clause 2 none (rm_X12_clause) [.ref (ga g 0)] M (pV post) := by
  refine x_enter (own := RX12) (L0 := [(0, .ref (ga g 0))]) (by decide +kernel) rfl hg (x_stM g) (Nat.le_of_ble_eq_true rfl) rfl (fun x hl C => ?_)
  unfold wX12_clause at h
  refine x_aload_n C 0 rfl rfl dX12_clause_0 ?_
  refine x_callV C (st := []) (As := []) (c := 0) (ci := 12) (enM_12 (c := 0) rfl) (Nat.le_of_ble_eq_true rfl) rfl (tX12_here hg _  _ _  h) wm_X12_214 wi_X12_here wv_X12_here wz_X12 wc_X12_here rfl yd_X12_here rfl ⟨rfl, rfl⟩ ⟨Nat.le_of_ble_eq_true rfl, Nat.le_of_ble_eq_true rfl⟩ (Nat.le_of_ble_eq_true rfl) rfl dX12_clause_1 (x_ki (fun r2 M1 h => ?_))
  refine x_istore_n C (L' := [(1, .int r2), (0, .ref (ga g 0))]) rfl rfl (Nat.le_of_ble_eq_true rfl) dX12_clause_4 ?_
  refine x_iload_n C 0 rfl rfl dX12_clause_5 ?_
  refine x_callS C (st := []) (As := [.int r2]) (tX12_isClause hg _ _ _ _  h) wm_X12_374 wsm_X12_isClause wz_X12 wc_X12_isClause yd_X12_isClause rfl ⟨rfl, rfl⟩ ⟨Nat.le_of_ble_eq_true rfl, Nat.le_of_ble_eq_true rfl⟩ (Nat.le_of_ble_eq_true rfl) rfl dX12_clause_6 (x_ki (fun r4 M3 h => ?_))
  refine x_if_ne C (tgt := 24) dX12_clause_9 (by decide) (fun hq5 => ?_) (fun hq5 => ?_)
  · replace h := x_iff hq5 h
    refine x_aload_n C 1 rfl rfl dX12_clause_24 ?_
    refine x_get C (c := 0) (ci := 12) (k1 := 6) (v1 := .int (gi M3 0 6)) (enM_12 (c := 0) rfl) (Nat.le_of_ble_eq_true rfl) rfl inX12 (by decide) wf_X12_377 rfl dX12_clause_25 ?_
    refine x_bipush C (v1 := 16) dX12_clause_28 (by decide) ?_
    refine x_icmp_ne C (tgt := 42) dX12_clause_30 (by decide) (fun hq6 => ?_) (fun hq6 => ?_)
    · replace h := x_iff hq6 h
      refine x_loc (L' := [(0, .ref (ga g 0)), (1, .int r2)]) [1, 0] rfl ?_
      exact tX12_clause_42 hg  C   _ _  h
    · replace h := x_ift hq6 h
      refine x_aload_n C 1 rfl rfl dX12_clause_33 ?_
      refine x_iconst C (v1 := 4) dX12_clause_34 (by decide) ?_
      refine x_aload_n C 1 rfl rfl dX12_clause_35 ?_
      refine x_get C (c := 0) (ci := 12) (k1 := 3) (v1 := .int (gi M3 0 3)) (enM_12 (c := 0) rfl) (Nat.le_of_ble_eq_true rfl) rfl inX12 (by decide) wf_X12_205 rfl dX12_clause_36 ?_
      refine x_callV C (st := []) (As := [.int 4, .int (gi M3 0 3)]) (c := 0) (ci := 12) (enM_12 (c := 0) rfl) (Nat.le_of_ble_eq_true rfl) rfl (tX12_wrongs hg _ _ _ _ _  h) wm_X12_229 wi_X12_wrongs wv_X12_wrongs wz_X12 wc_X12_wrongs rfl yd_X12_wrongs rfl ⟨rfl, rfl⟩ ⟨Nat.le_of_ble_eq_true rfl, Nat.le_of_ble_eq_true rfl⟩ (Nat.le_of_ble_eq_true rfl) rfl dX12_clause_39 (x_kv (fun M7 h => ?_))
      refine x_loc (L' := [(0, .ref (ga g 0)), (1, .int r2)]) [1, 0] rfl ?_
      exact tX12_clause_42 hg  C   _ _  h
  · replace h := x_ift hq5 h
    refine x_aload_n C 1 rfl rfl dX12_clause_12 ?_
    refine x_iconst C (v1 := 1) dX12_clause_13 (by decide) ?_
    refine x_aload_n C 1 rfl rfl dX12_clause_14 ?_
    refine x_get C (c := 0) (ci := 12) (k1 := 3) (v1 := .int (gi M3 0 3)) (enM_12 (c := 0) rfl) (Nat.le_of_ble_eq_true rfl) rfl inX12 (by decide) wf_X12_205 rfl dX12_clause_15 ?_
    refine x_callV C (st := []) (As := [.int 1, .int (gi M3 0 3)]) (c := 0) (ci := 12) (enM_12 (c := 0) rfl) (Nat.le_of_ble_eq_true rfl) rfl (tX12_wrongs hg _ _ _ _ _  h) wm_X12_229 wi_X12_wrongs wv_X12_wrongs wz_X12 wc_X12_wrongs rfl yd_X12_wrongs rfl ⟨rfl, rfl⟩ ⟨Nat.le_of_ble_eq_true rfl, Nat.le_of_ble_eq_true rfl⟩ (Nat.le_of_ble_eq_true rfl) rfl dX12_clause_18 (x_kv (fun M8 h => ?_))
    refine x_goto C (tgt := 42) dX12_clause_21 (by decide) ?_
    refine x_loc (L' := [(0, .ref (ga g 0)), (1, .int r2)]) [1, 0] rfl ?_
    exact tX12_clause_42 hg  C   _ _  h
set_option maxHeartbeats 4000000 in
set_option maxRecDepth 100000 in
theorem tX12_law_191 {g : xG} (hg : x_inj (WM g))  {x : xCx}   {post : Int32 → xMem → Prop} (C : xOk (WM g) x cX12_law RX12 4 (some .int) (rm_X12_law) (pI post))   : ∀ (n : Nat) (x3 : Int32) (M : xMem), wX12_law_191 post n x3 M → xW (WM g) x 4 191 [(0, .ref (ga g 0)), (3, .int x3)] [] M := by
  intro n
  induction n with
  | zero =>
    intro x3 M  h
    exact h.elim
  | succ n ih =>
    intro x3 M  h
    rw [wX12_law_191] at h
    refine x_iload_n C 1 rfl rfl dX12_law_191 ?_
    refine x_aload_n C 0 rfl rfl dX12_law_192 ?_
    refine x_get C (c := 0) (ci := 12) (k1 := 7) (v1 := .int (gi M 0 7)) (enM_12 (c := 0) rfl) (Nat.le_of_ble_eq_true rfl) rfl inX12 (by decide) wf_X12_304 rfl dX12_law_193 ?_
    refine x_icmp_ge C (tgt := 229) dX12_law_196 (by decide) (fun hq1 => ?_) (fun hq1 => ?_)
    · replace h := x_ift hq1 h
      refine x_aload_n C 0 rfl rfl dX12_law_229 ?_
      refine x_get C (c := 0) (ci := 12) (k1 := 26) (v1 := .ref (ga g 15)) (enM_12 (c := 0) rfl) (Nat.le_of_ble_eq_true rfl) rfl inX12 (by decide) wf_X12_58 rfl dX12_law_230 ?_
      refine x_iconst C (v1 := 0) dX12_law_233 (by decide) ?_
      refine x_aload_n C 0 rfl rfl dX12_law_234 ?_
      refine x_get C (c := 0) (ci := 12) (k1 := 6) (v1 := .int (gi M 0 6)) (enM_12 (c := 0) rfl) (Nat.le_of_ble_eq_true rfl) rfl inX12 (by decide) wf_X12_377 rfl dX12_law_235 ?_
      obtain ⟨hi2, h⟩ := h
      refine x_iast C 0 (c := 15) (enM_20n (c := 15) (n := 2) rfl rfl) (Nat.le_of_ble_eq_true rfl) rfl hi2 dX12_law_238 ?_
      refine x_nmM (fun M3 eM3 => ?_)
      replace h := h M3 eM3
      refine x_aload_n C 0 rfl rfl dX12_law_239 ?_
      refine x_aload_n C 0 rfl rfl dX12_law_240 ?_
      refine x_get C (c := 0) (ci := 12) (k1 := 7) (v1 := .int (gi M3 0 7)) (enM_12 (c := 0) rfl) (Nat.le_of_ble_eq_true rfl) rfl inX12 (by decide) wf_X12_304 rfl dX12_law_241 ?_
      refine x_put C (c := 0) (ci := 12) (k1 := 28) (u1 := (gi M3 0 7)) (v1 := .int (gi M3 0 7)) (ty := .int) (enM_12 (c := 0) rfl) (Nat.le_of_ble_eq_true rfl) rfl inX12 (by decide) (stX12_28 _ _ _) tyX12 tyX12_ok nmX12 wf_X12_388 rfl rfl rfl rfl (Nat.le_of_ble_eq_true rfl) dX12_law_244 ?_
      refine x_nmM (fun M4 eM4 => ?_)
      replace h := h M4 eM4
      refine x_aload_n C 0 rfl rfl dX12_law_247 ?_
      refine x_get C (c := 0) (ci := 12) (k1 := 6) (v1 := .int (gi M4 0 6)) (enM_12 (c := 0) rfl) (Nat.le_of_ble_eq_true rfl) rfl inX12 (by decide) wf_X12_377 rfl dX12_law_248 ?_
      exact x_iret C dX12_law_251 ⟨_, rfl, h⟩
    · replace h := x_iff hq1 h
      refine x_aload_n C 0 rfl rfl dX12_law_199 ?_
      refine x_get C (c := 0) (ci := 12) (k1 := 24) (v1 := .ref (ga g 13)) (enM_12 (c := 0) rfl) (Nat.le_of_ble_eq_true rfl) rfl inX12 (by decide) wf_X12_52 rfl dX12_law_200 ?_
      refine x_iload_n C 1 rfl rfl dX12_law_203 ?_
      refine x_aload_n C 0 rfl rfl dX12_law_204 ?_
      refine x_get C (c := 0) (ci := 12) (k1 := 33) (v1 := .ref (ga g 20)) (enM_12 (c := 0) rfl) (Nat.le_of_ble_eq_true rfl) rfl inX12 (by decide) wf_X12_73 rfl dX12_law_205 ?_
      refine x_iload_n C 1 rfl rfl dX12_law_208 ?_
      obtain ⟨hi5, h⟩ := h
      refine x_iald C 0 (c := 20) (enM_20n (c := 20) (n := 240) rfl rfl) (Nat.le_of_ble_eq_true rfl) rfl hi5 dX12_law_209 ?_
      obtain ⟨hi6, h⟩ := h
      refine x_iast C 0 (c := 13) (enM_20n (c := 13) (n := 480) rfl rfl) (Nat.le_of_ble_eq_true rfl) rfl hi6 dX12_law_210 ?_
      refine x_nmM (fun M7 eM7 => ?_)
      replace h := h M7 eM7
      refine x_aload_n C 0 rfl rfl dX12_law_211 ?_
      refine x_get C (c := 0) (ci := 12) (k1 := 25) (v1 := .ref (ga g 14)) (enM_12 (c := 0) rfl) (Nat.le_of_ble_eq_true rfl) rfl inX12 (by decide) wf_X12_55 rfl dX12_law_212 ?_
      refine x_iload_n C 1 rfl rfl dX12_law_215 ?_
      refine x_aload_n C 0 rfl rfl dX12_law_216 ?_
      refine x_get C (c := 0) (ci := 12) (k1 := 34) (v1 := .ref (ga g 21)) (enM_12 (c := 0) rfl) (Nat.le_of_ble_eq_true rfl) rfl inX12 (by decide) wf_X12_76 rfl dX12_law_217 ?_
      refine x_iload_n C 1 rfl rfl dX12_law_220 ?_
      obtain ⟨hi8, h⟩ := h
      refine x_iald C 0 (c := 21) (enM_20n (c := 21) (n := 240) rfl rfl) (Nat.le_of_ble_eq_true rfl) rfl hi8 dX12_law_221 ?_
      obtain ⟨hi9, h⟩ := h
      refine x_iast C 0 (c := 14) (enM_20n (c := 14) (n := 480) rfl rfl) (Nat.le_of_ble_eq_true rfl) rfl hi9 dX12_law_222 ?_
      refine x_nmM (fun M10 eM10 => ?_)
      replace h := h M10 eM10
      obtain ⟨v11, ev11⟩ : ∃ z : Int32, z = x3 + 1 := ⟨_, rfl⟩
      replace h := h v11 ev11
      refine x_iinc C 1 (v1 := v11) (L' := [(3, .int v11), (0, .ref (ga g 0))]) rfl (by rw [ev11]; rfl) rfl (Nat.le_of_ble_eq_true rfl) dX12_law_223 ?_
      refine x_goto C (tgt := 191) dX12_law_226 (by decide) ?_
      refine x_loc (L' := [(0, .ref (ga g 0)), (3, .int v11)]) [1, 0] rfl ?_
      exact ih _ _  h
set_option maxHeartbeats 4000000 in
set_option maxRecDepth 100000 in
theorem tX12_law_127 {g : xG} (hg : x_inj (WM g))  {x : xCx}   {post : Int32 → xMem → Prop} (C : xOk (WM g) x cX12_law RX12 4 (some .int) (rm_X12_law) (pI post))   : ∀ (n : Nat) (x3 : Int32) (M : xMem), wX12_law_127 post n x3 M → xW (WM g) x 4 127 [(0, .ref (ga g 0)), (3, .int x3)] [] M := by
  intro n
  induction n with
  | zero =>
    intro x3 M  h
    exact h.elim
  | succ n ih =>
    intro x3 M  h
    rw [wX12_law_127] at h
    refine x_iload_n C 1 rfl rfl dX12_law_127 ?_
    refine x_aload_n C 0 rfl rfl dX12_law_128 ?_
    refine x_get C (c := 0) (ci := 12) (k1 := 6) (v1 := .int (gi M 0 6)) (enM_12 (c := 0) rfl) (Nat.le_of_ble_eq_true rfl) rfl inX12 (by decide) wf_X12_377 rfl dX12_law_129 ?_
    refine x_icmp_ge C (tgt := 189) dX12_law_132 (by decide) (fun hq1 => ?_) (fun hq1 => ?_)
    · replace h := x_ift hq1 h
      refine x_iconst C (v1 := 0) dX12_law_189 (by decide) ?_
      refine x_istore_n C (L' := [(3, .int 0), (0, .ref (ga g 0))]) rfl rfl (Nat.le_of_ble_eq_true rfl) dX12_law_190 ?_
      refine x_loc (L' := [(0, .ref (ga g 0)), (3, .int 0)]) [1, 0] rfl ?_
      obtain ⟨n191, h⟩ := h
      exact tX12_law_191 hg  C   _ _ _  h
    · replace h := x_iff hq1 h
      refine x_aload_n C 0 rfl rfl dX12_law_135 ?_
      refine x_get C (c := 0) (ci := 12) (k1 := 20) (v1 := .ref (ga g 9)) (enM_12 (c := 0) rfl) (Nat.le_of_ble_eq_true rfl) rfl inX12 (by decide) wf_X12_40 rfl dX12_law_136 ?_
      refine x_iload_n C 1 rfl rfl dX12_law_139 ?_
      refine x_aload_n C 0 rfl rfl dX12_law_140 ?_
      refine x_get C (c := 0) (ci := 12) (k1 := 29) (v1 := .ref (ga g 16)) (enM_12 (c := 0) rfl) (Nat.le_of_ble_eq_true rfl) rfl inX12 (by decide) wf_X12_61 rfl dX12_law_141 ?_
      refine x_iload_n C 1 rfl rfl dX12_law_144 ?_
      obtain ⟨hi2, h⟩ := h
      refine x_iald C 0 (c := 16) (enM_20n (c := 16) (n := 16) rfl rfl) (Nat.le_of_ble_eq_true rfl) rfl hi2 dX12_law_145 ?_
      obtain ⟨hi3, h⟩ := h
      refine x_iast C 0 (c := 9) (enM_20n (c := 9) (n := 32) rfl rfl) (Nat.le_of_ble_eq_true rfl) rfl hi3 dX12_law_146 ?_
      refine x_nmM (fun M4 eM4 => ?_)
      replace h := h M4 eM4
      refine x_aload_n C 0 rfl rfl dX12_law_147 ?_
      refine x_get C (c := 0) (ci := 12) (k1 := 21) (v1 := .ref (ga g 10)) (enM_12 (c := 0) rfl) (Nat.le_of_ble_eq_true rfl) rfl inX12 (by decide) wf_X12_43 rfl dX12_law_148 ?_
      refine x_iload_n C 1 rfl rfl dX12_law_151 ?_
      refine x_aload_n C 0 rfl rfl dX12_law_152 ?_
      refine x_get C (c := 0) (ci := 12) (k1 := 30) (v1 := .ref (ga g 17)) (enM_12 (c := 0) rfl) (Nat.le_of_ble_eq_true rfl) rfl inX12 (by decide) wf_X12_64 rfl dX12_law_153 ?_
      refine x_iload_n C 1 rfl rfl dX12_law_156 ?_
      obtain ⟨hi5, h⟩ := h
      refine x_iald C 0 (c := 17) (enM_20n (c := 17) (n := 16) rfl rfl) (Nat.le_of_ble_eq_true rfl) rfl hi5 dX12_law_157 ?_
      obtain ⟨hi6, h⟩ := h
      refine x_iast C 0 (c := 10) (enM_20n (c := 10) (n := 32) rfl rfl) (Nat.le_of_ble_eq_true rfl) rfl hi6 dX12_law_158 ?_
      refine x_nmM (fun M7 eM7 => ?_)
      replace h := h M7 eM7
      refine x_aload_n C 0 rfl rfl dX12_law_159 ?_
      refine x_get C (c := 0) (ci := 12) (k1 := 22) (v1 := .ref (ga g 11)) (enM_12 (c := 0) rfl) (Nat.le_of_ble_eq_true rfl) rfl inX12 (by decide) wf_X12_46 rfl dX12_law_160 ?_
      refine x_iload_n C 1 rfl rfl dX12_law_163 ?_
      refine x_aload_n C 0 rfl rfl dX12_law_164 ?_
      refine x_get C (c := 0) (ci := 12) (k1 := 31) (v1 := .ref (ga g 18)) (enM_12 (c := 0) rfl) (Nat.le_of_ble_eq_true rfl) rfl inX12 (by decide) wf_X12_67 rfl dX12_law_165 ?_
      refine x_iload_n C 1 rfl rfl dX12_law_168 ?_
      obtain ⟨hi8, h⟩ := h
      refine x_iald C 0 (c := 18) (enM_20n (c := 18) (n := 16) rfl rfl) (Nat.le_of_ble_eq_true rfl) rfl hi8 dX12_law_169 ?_
      obtain ⟨hi9, h⟩ := h
      refine x_iast C 0 (c := 11) (enM_20n (c := 11) (n := 32) rfl rfl) (Nat.le_of_ble_eq_true rfl) rfl hi9 dX12_law_170 ?_
      refine x_nmM (fun M10 eM10 => ?_)
      replace h := h M10 eM10
      refine x_aload_n C 0 rfl rfl dX12_law_171 ?_
      refine x_get C (c := 0) (ci := 12) (k1 := 23) (v1 := .ref (ga g 12)) (enM_12 (c := 0) rfl) (Nat.le_of_ble_eq_true rfl) rfl inX12 (by decide) wf_X12_49 rfl dX12_law_172 ?_
      refine x_iload_n C 1 rfl rfl dX12_law_175 ?_
      refine x_aload_n C 0 rfl rfl dX12_law_176 ?_
      refine x_get C (c := 0) (ci := 12) (k1 := 32) (v1 := .ref (ga g 19)) (enM_12 (c := 0) rfl) (Nat.le_of_ble_eq_true rfl) rfl inX12 (by decide) wf_X12_70 rfl dX12_law_177 ?_
      refine x_iload_n C 1 rfl rfl dX12_law_180 ?_
      obtain ⟨hi11, h⟩ := h
      refine x_iald C 0 (c := 19) (enM_20n (c := 19) (n := 16) rfl rfl) (Nat.le_of_ble_eq_true rfl) rfl hi11 dX12_law_181 ?_
      obtain ⟨hi12, h⟩ := h
      refine x_iast C 0 (c := 12) (enM_20n (c := 12) (n := 32) rfl rfl) (Nat.le_of_ble_eq_true rfl) rfl hi12 dX12_law_182 ?_
      refine x_nmM (fun M13 eM13 => ?_)
      replace h := h M13 eM13
      obtain ⟨v14, ev14⟩ : ∃ z : Int32, z = x3 + 1 := ⟨_, rfl⟩
      replace h := h v14 ev14
      refine x_iinc C 1 (v1 := v14) (L' := [(3, .int v14), (0, .ref (ga g 0))]) rfl (by rw [ev14]; rfl) rfl (Nat.le_of_ble_eq_true rfl) dX12_law_183 ?_
      refine x_goto C (tgt := 127) dX12_law_186 (by decide) ?_
      refine x_loc (L' := [(0, .ref (ga g 0)), (3, .int v14)]) [1, 0] rfl ?_
      exact ih _ _  h
set_option maxHeartbeats 4000000 in
set_option maxRecDepth 100000 in
theorem tX12_law_113 {g : xG} (hg : x_inj (WM g))  {x : xCx}   {post : Int32 → xMem → Prop} (C : xOk (WM g) x cX12_law RX12 4 (some .int) (rm_X12_law) (pI post))    (M : xMem)  (h : wX12_law_113 post  M) : xW (WM g) x 4 113 [(0, .ref (ga g 0))] [] M := by
  unfold wX12_law_113 at h
  refine x_aload_n C 0 rfl rfl dX12_law_113 ?_
  refine x_get C (c := 0) (ci := 12) (k1 := 5) (v1 := .int (gi M 0 5)) (enM_12 (c := 0) rfl) (Nat.le_of_ble_eq_true rfl) rfl inX12 (by decide) wf_X12_211 rfl dX12_law_114 ?_
  refine x_if_ge C (tgt := 125) dX12_law_117 (by decide) (fun hq1 => ?_) (fun hq1 => ?_)
  · replace h := x_ift hq1 h
    refine x_iconst C (v1 := 0) dX12_law_125 (by decide) ?_
    refine x_istore_n C (L' := [(3, .int 0), (0, .ref (ga g 0))]) rfl rfl (Nat.le_of_ble_eq_true rfl) dX12_law_126 ?_
    refine x_loc (L' := [(0, .ref (ga g 0)), (3, .int 0)]) [1, 0] rfl ?_
    obtain ⟨n127, h⟩ := h
    exact tX12_law_127 hg  C   _ _ _  h
  · replace h := x_iff hq1 h
    refine x_aload_n C 0 rfl rfl dX12_law_120 ?_
    refine x_get C (c := 0) (ci := 12) (k1 := 5) (v1 := .int (gi M 0 5)) (enM_12 (c := 0) rfl) (Nat.le_of_ble_eq_true rfl) rfl inX12 (by decide) wf_X12_211 rfl dX12_law_121 ?_
    exact x_iret C dX12_law_124 ⟨_, rfl, h⟩
set_option maxHeartbeats 4000000 in
set_option maxRecDepth 100000 in
theorem tX12_law_100 {g : xG} (hg : x_inj (WM g))  {x : xCx}  {K39 : Int32 → xMem → Prop} {post : Int32 → xMem → Prop} (C : xOk (WM g) x cX12_law RX12 4 (some .int) (rm_X12_law) (pI post))  (hK39 : ∀ (x2 : Int32) (M : xMem), K39 x2 M → xW (WM g) x 4 39 [(0, .ref (ga g 0)), (2, .int x2)] [] M) (x2 : Int32) (M : xMem)  (h : wX12_law_100 K39 post x2 M) : xW (WM g) x 4 100 [(0, .ref (ga g 0)), (2, .int x2)] [] M := by
  unfold wX12_law_100 at h
  refine x_aload_n C 0 rfl rfl dX12_law_100 ?_
  refine x_dup C rfl dX12_law_101 ?_
  refine x_get C (c := 0) (ci := 12) (k1 := 3) (v1 := .int (gi M 0 3)) (enM_12 (c := 0) rfl) (Nat.le_of_ble_eq_true rfl) rfl inX12 (by decide) wf_X12_205 rfl dX12_law_102 ?_
  refine x_iconst C (v1 := 1) dX12_law_105 (by decide) ?_
  refine x_iadd C dX12_law_106 ?_
  refine x_put C (c := 0) (ci := 12) (k1 := 3) (u1 := ((gi M 0 3) + 1)) (v1 := .int ((gi M 0 3) + 1)) (ty := .int) (enM_12 (c := 0) rfl) (Nat.le_of_ble_eq_true rfl) rfl inX12 (by decide) (stX12_3 _ _ _) tyX12 tyX12_ok nmX12 wf_X12_205 rfl rfl rfl rfl (Nat.le_of_ble_eq_true rfl) dX12_law_107 ?_
  refine x_nmM (fun M1 eM1 => ?_)
  replace h := h M1 eM1
  refine x_goto C (tgt := 39) dX12_law_110 (by decide) ?_
  exact hK39 _ _  h
set_option maxHeartbeats 4000000 in
set_option maxRecDepth 100000 in
theorem tX12_law_77 {g : xG} (hg : x_inj (WM g))  {x : xCx}  {K39 : Int32 → xMem → Prop} {post : Int32 → xMem → Prop} (C : xOk (WM g) x cX12_law RX12 4 (some .int) (rm_X12_law) (pI post))  (hK39 : ∀ (x2 : Int32) (M : xMem), K39 x2 M → xW (WM g) x 4 39 [(0, .ref (ga g 0)), (2, .int x2)] [] M) (s0 : Int32) (M : xMem)  (h : wX12_law_77 K39 post s0 M) : xW (WM g) x 4 77 [(0, .ref (ga g 0))] [.int s0] M := by
  unfold wX12_law_77 at h
  refine x_istore_n C (L' := [(2, .int s0), (0, .ref (ga g 0))]) rfl rfl (Nat.le_of_ble_eq_true rfl) dX12_law_77 ?_
  refine x_iload_n C 0 rfl rfl dX12_law_78 ?_
  refine x_if_eq C (tgt := 39) dX12_law_79 (by decide) (fun hq1 => ?_) (fun hq1 => ?_)
  · replace h := x_ift hq1 h
    refine x_loc (L' := [(0, .ref (ga g 0)), (2, .int s0)]) [1, 0] rfl ?_
    exact hK39 _ _  h
  · replace h := x_iff hq1 h
    refine x_aload_n C 1 rfl rfl dX12_law_82 ?_
    refine x_callV C (st := []) (As := []) (c := 0) (ci := 12) (enM_12 (c := 0) rfl) (Nat.le_of_ble_eq_true rfl) rfl (tX12_here hg _  _ _  h) wm_X12_214 wi_X12_here wv_X12_here wz_X12 wc_X12_here rfl yd_X12_here rfl ⟨rfl, rfl⟩ ⟨Nat.le_of_ble_eq_true rfl, Nat.le_of_ble_eq_true rfl⟩ (Nat.le_of_ble_eq_true rfl) rfl dX12_law_83 (x_ki (fun r3 M2 h => ?_))
    refine x_bipush C (v1 := 59) dX12_law_86 (by decide) ?_
    refine x_icmp_eq C (tgt := 100) dX12_law_88 (by decide) (fun hq4 => ?_) (fun hq4 => ?_)
    · replace h := x_ift hq4 h
      refine x_loc (L' := [(0, .ref (ga g 0)), (2, .int s0)]) [1, 0] rfl ?_
      exact tX12_law_100 hg  C  hK39 _ _  h
    · replace h := x_iff hq4 h
      refine x_aload_n C 1 rfl rfl dX12_law_91 ?_
      refine x_iconst C (v1 := 1) dX12_law_92 (by decide) ?_
      refine x_aload_n C 1 rfl rfl dX12_law_93 ?_
      refine x_get C (c := 0) (ci := 12) (k1 := 3) (v1 := .int (gi M2 0 3)) (enM_12 (c := 0) rfl) (Nat.le_of_ble_eq_true rfl) rfl inX12 (by decide) wf_X12_205 rfl dX12_law_94 ?_
      refine x_callV C (st := []) (As := [.int 1, .int (gi M2 0 3)]) (c := 0) (ci := 12) (enM_12 (c := 0) rfl) (Nat.le_of_ble_eq_true rfl) rfl (tX12_wrongs hg _ _ _ _ _  h) wm_X12_229 wi_X12_wrongs wv_X12_wrongs wz_X12 wc_X12_wrongs rfl yd_X12_wrongs rfl ⟨rfl, rfl⟩ ⟨Nat.le_of_ble_eq_true rfl, Nat.le_of_ble_eq_true rfl⟩ (Nat.le_of_ble_eq_true rfl) rfl dX12_law_97 (x_kv (fun M5 h => ?_))
      refine x_loc (L' := [(0, .ref (ga g 0)), (2, .int s0)]) [1, 0] rfl ?_
      exact tX12_law_100 hg  C  hK39 _ _  h
set_option maxHeartbeats 4000000 in
set_option maxRecDepth 100000 in
theorem tX12_law_76 {g : xG} (hg : x_inj (WM g))  {x : xCx}  {K39 : Int32 → xMem → Prop} {post : Int32 → xMem → Prop} (C : xOk (WM g) x cX12_law RX12 4 (some .int) (rm_X12_law) (pI post))  (hK39 : ∀ (x2 : Int32) (M : xMem), K39 x2 M → xW (WM g) x 4 39 [(0, .ref (ga g 0)), (2, .int x2)] [] M)  (M : xMem)  (h : wX12_law_76 K39 post  M) : xW (WM g) x 4 76 [(0, .ref (ga g 0))] [] M := by
  unfold wX12_law_76 at h
  refine x_iconst C (v1 := 0) dX12_law_76 (by decide) ?_
  exact tX12_law_77 hg  C  hK39 _ _  h
set_option maxHeartbeats 4000000 in
set_option maxRecDepth 100000 in
theorem tX12_law_39 {g : xG} (hg : x_inj (WM g))  {x : xCx}   {post : Int32 → xMem → Prop} (C : xOk (WM g) x cX12_law RX12 4 (some .int) (rm_X12_law) (pI post))   : ∀ (n : Nat) (x2 : Int32) (M : xMem), wX12_law_39 post n x2 M → xW (WM g) x 4 39 [(0, .ref (ga g 0)), (2, .int x2)] [] M := by
  intro n
  induction n with
  | zero =>
    intro x2 M  h
    exact h.elim
  | succ n ih =>
    intro x2 M  h
    rw [wX12_law_39] at h
    refine x_iload_n C 1 rfl rfl dX12_law_39 ?_
    refine x_if_eq C (tgt := 113) dX12_law_40 (by decide) (fun hq1 => ?_) (fun hq1 => ?_)
    · replace h := x_ift hq1 h
      refine x_loc (L' := [(0, .ref (ga g 0))]) [0] rfl ?_
      exact tX12_law_113 hg  C   _  h
    · replace h := x_iff hq1 h
      refine x_aload_n C 0 rfl rfl dX12_law_43 ?_
      refine x_callV C (st := []) (As := []) (c := 0) (ci := 12) (enM_12 (c := 0) rfl) (Nat.le_of_ble_eq_true rfl) rfl (tX12_isGood hg _  _ _  h) wm_X12_233 wi_X12_isGood wv_X12_isGood wz_X12 wc_X12_isGood rfl yd_X12_isGood rfl ⟨rfl, rfl⟩ ⟨Nat.le_of_ble_eq_true rfl, Nat.le_of_ble_eq_true rfl⟩ (Nat.le_of_ble_eq_true rfl) rfl dX12_law_44 (x_ki (fun r3 M2 h => ?_))
      refine x_if_eq C (tgt := 113) dX12_law_47 (by decide) (fun hq4 => ?_) (fun hq4 => ?_)
      · replace h := x_ift hq4 h
        refine x_loc (L' := [(0, .ref (ga g 0))]) [0] rfl ?_
        exact tX12_law_113 hg  C   _  h
      · replace h := x_iff hq4 h
        refine x_aload_n C 0 rfl rfl dX12_law_50 ?_
        refine x_callV C (st := []) (As := []) (c := 0) (ci := 12) (enM_12 (c := 0) rfl) (Nat.le_of_ble_eq_true rfl) rfl (tX12_clause hg _  _ _  h) wm_X12_385 wi_X12_clause wv_X12_clause wz_X12 wc_X12_clause rfl yd_X12_clause rfl ⟨rfl, rfl⟩ ⟨Nat.le_of_ble_eq_true rfl, Nat.le_of_ble_eq_true rfl⟩ (Nat.le_of_ble_eq_true rfl) rfl dX12_law_51 (x_kv (fun M5 h => ?_))
        refine x_aload_n C 0 rfl rfl dX12_law_54 ?_
        refine x_callV C (st := []) (As := []) (c := 0) (ci := 12) (enM_12 (c := 0) rfl) (Nat.le_of_ble_eq_true rfl) rfl (tX12_isGood hg _  _ _  h) wm_X12_233 wi_X12_isGood wv_X12_isGood wz_X12 wc_X12_isGood rfl yd_X12_isGood rfl ⟨rfl, rfl⟩ ⟨Nat.le_of_ble_eq_true rfl, Nat.le_of_ble_eq_true rfl⟩ (Nat.le_of_ble_eq_true rfl) rfl dX12_law_55 (x_ki (fun r7 M6 h => ?_))
        refine x_if_eq C (tgt := 76) dX12_law_58 (by decide) (fun hq8 => ?_) (fun hq8 => ?_)
        · replace h := x_ift hq8 h
          refine x_loc (L' := [(0, .ref (ga g 0))]) [0] rfl ?_
          exact tX12_law_76 hg  C  ih _  h
        · replace h := x_iff hq8 h
          refine x_aload_n C 0 rfl rfl dX12_law_61 ?_
          refine x_get C (c := 0) (ci := 12) (k1 := 3) (v1 := .int (gi M6 0 3)) (enM_12 (c := 0) rfl) (Nat.le_of_ble_eq_true rfl) rfl inX12 (by decide) wf_X12_205 rfl dX12_law_62 ?_
          refine x_aload_n C 0 rfl rfl dX12_law_65 ?_
          refine x_get C (c := 0) (ci := 12) (k1 := 4) (v1 := .int (gi M6 0 4)) (enM_12 (c := 0) rfl) (Nat.le_of_ble_eq_true rfl) rfl inX12 (by decide) wf_X12_208 rfl dX12_law_66 ?_
          refine x_icmp_ge C (tgt := 76) dX12_law_69 (by decide) (fun hq9 => ?_) (fun hq9 => ?_)
          · replace h := x_ift hq9 h
            refine x_loc (L' := [(0, .ref (ga g 0))]) [0] rfl ?_
            exact tX12_law_76 hg  C  ih _  h
          · replace h := x_iff hq9 h
            refine x_iconst C (v1 := 1) dX12_law_72 (by decide) ?_
            refine x_goto C (tgt := 77) dX12_law_73 (by decide) ?_
            refine x_loc (L' := [(0, .ref (ga g 0))]) [0] rfl ?_
            exact tX12_law_77 hg  C  ih _ _  h
set_option maxHeartbeats 4000000 in
set_option maxRecDepth 100000 in
theorem tX12_law {g : xG} (hg : x_inj (WM g))  (l : Launch) (a0 : Int32) (M : xMem) (post : Int32 → xMem → Prop)  (h : wX12_law a0 M post) : xMet (WM g) l yX12_law cX12_law 4 (some .int) (rm_X12_law) [.ref (ga g 0), .int a0] M (pI post) := by
  refine x_enter (own := RX12) (L0 := [(0, .ref (ga g 0)), (1, .int a0)]) (by decide +kernel) rfl hg (x_stM g) (Nat.le_of_ble_eq_true rfl) rfl (fun x hl C => ?_)
  unfold wX12_law at h
  refine x_iload_n C 1 rfl rfl dX12_law_0 ?_
  refine x_i2l C dX12_law_1 ?_
  refine x_lconst C (v1 := 1) dX12_law_2 (by decide) ?_
  refine x_ldc2 C (v1 := 240) (wcl_X12_383) dX12_law_3 ?_
  refine x_callS C (st := []) (As := [.long ((a0 : Int32).toInt64), .long 1, .long 240]) (tX12_lies hg _ _ _ _ _ _  h) wm_X12_222 wsm_X12_lies wz_X12 wc_X12_lies yd_X12_lies rfl ⟨rfl, rfl⟩ ⟨Nat.le_of_ble_eq_true rfl, Nat.le_of_ble_eq_true rfl⟩ (Nat.le_of_ble_eq_true rfl) rfl dX12_law_6 (x_ki (fun r2 M1 h => ?_))
  refine x_if_eq C (tgt := 20) dX12_law_9 (by decide) (fun hq3 => ?_) (fun hq3 => ?_)
  · replace h := x_ift hq3 h
    refine x_iconst C (v1 := (-1)) dX12_law_20 (by decide) ?_
    exact x_iret C dX12_law_21 ⟨_, rfl, h⟩
  · replace h := x_iff hq3 h
    refine x_iload_n C 1 rfl rfl dX12_law_12 ?_
    refine x_aload_n C 0 rfl rfl dX12_law_13 ?_
    refine x_get C (c := 0) (ci := 12) (k1 := 1) (v1 := .int (gi M1 0 1)) (enM_12 (c := 0) rfl) (Nat.le_of_ble_eq_true rfl) rfl inX12 (by decide) wf_X12_198 rfl dX12_law_14 ?_
    refine x_icmp_le C (tgt := 22) dX12_law_17 (by decide) (fun hq4 => ?_) (fun hq4 => ?_)
    · replace h := x_ift hq4 h
      refine x_aload_n C 0 rfl rfl dX12_law_22 ?_
      refine x_iload_n C 1 rfl rfl dX12_law_23 ?_
      refine x_callV C (st := []) (As := [.int a0]) (c := 0) (ci := 12) (enM_12 (c := 0) rfl) (Nat.le_of_ble_eq_true rfl) rfl (tX12_begins hg _ _ _ _  h) wm_X12_269 wi_X12_begins wv_X12_begins wz_X12 wc_X12_begins rfl yd_X12_begins rfl ⟨rfl, rfl⟩ ⟨Nat.le_of_ble_eq_true rfl, Nat.le_of_ble_eq_true rfl⟩ (Nat.le_of_ble_eq_true rfl) rfl dX12_law_24 (x_kv (fun M5 h => ?_))
      refine x_aload_n C 0 rfl rfl dX12_law_27 ?_
      refine x_iconst C (v1 := 0) dX12_law_28 (by decide) ?_
      refine x_put C (c := 0) (ci := 12) (k1 := 6) (u1 := 0) (v1 := .int 0) (ty := .int) (enM_12 (c := 0) rfl) (Nat.le_of_ble_eq_true rfl) rfl inX12 (by decide) (stX12_6 _ _ _) tyX12 tyX12_ok nmX12 wf_X12_377 rfl rfl rfl rfl (Nat.le_of_ble_eq_true rfl) dX12_law_29 ?_
      refine x_nmM (fun M6 eM6 => ?_)
      replace h := h M6 eM6
      refine x_aload_n C 0 rfl rfl dX12_law_32 ?_
      refine x_iconst C (v1 := 0) dX12_law_33 (by decide) ?_
      refine x_put C (c := 0) (ci := 12) (k1 := 7) (u1 := 0) (v1 := .int 0) (ty := .int) (enM_12 (c := 0) rfl) (Nat.le_of_ble_eq_true rfl) rfl inX12 (by decide) (stX12_7 _ _ _) tyX12 tyX12_ok nmX12 wf_X12_304 rfl rfl rfl rfl (Nat.le_of_ble_eq_true rfl) dX12_law_34 ?_
      refine x_nmM (fun M7 eM7 => ?_)
      replace h := h M7 eM7
      refine x_iconst C (v1 := 1) dX12_law_37 (by decide) ?_
      refine x_istore_n C (L' := [(2, .int 1), (0, .ref (ga g 0)), (1, .int a0)]) rfl rfl (Nat.le_of_ble_eq_true rfl) dX12_law_38 ?_
      refine x_loc (L' := [(0, .ref (ga g 0)), (2, .int 1)]) [1, 0] rfl ?_
      obtain ⟨n39, h⟩ := h
      exact tX12_law_39 hg  C   _ _ _  h
    · replace h := x_iff hq4 h
      refine x_iconst C (v1 := (-1)) dX12_law_20 (by decide) ?_
      exact x_iret C dX12_law_21 ⟨_, rfl, h⟩
set_option maxHeartbeats 4000000 in
set_option maxRecDepth 100000 in
theorem tX12_copy_92 {g : xG} (hg : x_inj (WM g))  {x : xCx}   {post : Int32 → xMem → Prop} (C : xOk (WM g) x cX12_copy RX12 2 (some .int) (rm_X12_copy) (pI post))   : ∀ (n : Nat) (x1 : Int32) (M : xMem), wX12_copy_92 post n x1 M → xW (WM g) x 2 92 [(0, .ref (ga g 0)), (1, .int x1)] [] M := by
  intro n
  induction n with
  | zero =>
    intro x1 M  h
    exact h.elim
  | succ n ih =>
    intro x1 M  h
    rw [wX12_copy_92] at h
    refine x_iload_n C 1 rfl rfl dX12_copy_92 ?_
    refine x_aload_n C 0 rfl rfl dX12_copy_93 ?_
    refine x_get C (c := 0) (ci := 12) (k1 := 28) (v1 := .int (gi M 0 28)) (enM_12 (c := 0) rfl) (Nat.le_of_ble_eq_true rfl) rfl inX12 (by decide) wf_X12_388 rfl dX12_copy_94 ?_
    refine x_icmp_ge C (tgt := 138) dX12_copy_97 (by decide) (fun hq1 => ?_) (fun hq1 => ?_)
    · replace h := x_ift hq1 h
      refine x_aload_n C 0 rfl rfl dX12_copy_138 ?_
      refine x_get C (c := 0) (ci := 12) (k1 := 26) (v1 := .ref (ga g 15)) (enM_12 (c := 0) rfl) (Nat.le_of_ble_eq_true rfl) rfl inX12 (by decide) wf_X12_58 rfl dX12_copy_139 ?_
      refine x_iconst C (v1 := 1) dX12_copy_142 (by decide) ?_
      refine x_aload_n C 0 rfl rfl dX12_copy_143 ?_
      refine x_get C (c := 0) (ci := 12) (k1 := 26) (v1 := .ref (ga g 15)) (enM_12 (c := 0) rfl) (Nat.le_of_ble_eq_true rfl) rfl inX12 (by decide) wf_X12_58 rfl dX12_copy_144 ?_
      refine x_iconst C (v1 := 0) dX12_copy_147 (by decide) ?_
      obtain ⟨hi2, h⟩ := h
      refine x_iald C 0 (c := 15) (enM_20n (c := 15) (n := 2) rfl rfl) (Nat.le_of_ble_eq_true rfl) rfl hi2 dX12_copy_148 ?_
      obtain ⟨hi3, h⟩ := h
      refine x_iast C 0 (c := 15) (enM_20n (c := 15) (n := 2) rfl rfl) (Nat.le_of_ble_eq_true rfl) rfl hi3 dX12_copy_149 ?_
      refine x_nmM (fun M4 eM4 => ?_)
      replace h := h M4 eM4
      refine x_aload_n C 0 rfl rfl dX12_copy_150 ?_
      refine x_get C (c := 0) (ci := 12) (k1 := 26) (v1 := .ref (ga g 15)) (enM_12 (c := 0) rfl) (Nat.le_of_ble_eq_true rfl) rfl inX12 (by decide) wf_X12_58 rfl dX12_copy_151 ?_
      refine x_iconst C (v1 := 1) dX12_copy_154 (by decide) ?_
      obtain ⟨hi5, h⟩ := h
      refine x_iald C 0 (c := 15) (enM_20n (c := 15) (n := 2) rfl rfl) (Nat.le_of_ble_eq_true rfl) rfl hi5 dX12_copy_155 ?_
      exact x_iret C dX12_copy_156 ⟨_, rfl, h⟩
    · replace h := x_iff hq1 h
      refine x_aload_n C 0 rfl rfl dX12_copy_100 ?_
      refine x_get C (c := 0) (ci := 12) (k1 := 24) (v1 := .ref (ga g 13)) (enM_12 (c := 0) rfl) (Nat.le_of_ble_eq_true rfl) rfl inX12 (by decide) wf_X12_52 rfl dX12_copy_101 ?_
      refine x_sipush C (v1 := 240) dX12_copy_104 (by decide) ?_
      refine x_iload_n C 1 rfl rfl dX12_copy_107 ?_
      refine x_iadd C dX12_copy_108 ?_
      refine x_aload_n C 0 rfl rfl dX12_copy_109 ?_
      refine x_get C (c := 0) (ci := 12) (k1 := 24) (v1 := .ref (ga g 13)) (enM_12 (c := 0) rfl) (Nat.le_of_ble_eq_true rfl) rfl inX12 (by decide) wf_X12_52 rfl dX12_copy_110 ?_
      refine x_iload_n C 1 rfl rfl dX12_copy_113 ?_
      obtain ⟨hi6, h⟩ := h
      refine x_iald C 0 (c := 13) (enM_20n (c := 13) (n := 480) rfl rfl) (Nat.le_of_ble_eq_true rfl) rfl hi6 dX12_copy_114 ?_
      obtain ⟨hi7, h⟩ := h
      refine x_iast C 0 (c := 13) (enM_20n (c := 13) (n := 480) rfl rfl) (Nat.le_of_ble_eq_true rfl) rfl hi7 dX12_copy_115 ?_
      refine x_nmM (fun M8 eM8 => ?_)
      replace h := h M8 eM8
      refine x_aload_n C 0 rfl rfl dX12_copy_116 ?_
      refine x_get C (c := 0) (ci := 12) (k1 := 25) (v1 := .ref (ga g 14)) (enM_12 (c := 0) rfl) (Nat.le_of_ble_eq_true rfl) rfl inX12 (by decide) wf_X12_55 rfl dX12_copy_117 ?_
      refine x_sipush C (v1 := 240) dX12_copy_120 (by decide) ?_
      refine x_iload_n C 1 rfl rfl dX12_copy_123 ?_
      refine x_iadd C dX12_copy_124 ?_
      refine x_aload_n C 0 rfl rfl dX12_copy_125 ?_
      refine x_get C (c := 0) (ci := 12) (k1 := 25) (v1 := .ref (ga g 14)) (enM_12 (c := 0) rfl) (Nat.le_of_ble_eq_true rfl) rfl inX12 (by decide) wf_X12_55 rfl dX12_copy_126 ?_
      refine x_iload_n C 1 rfl rfl dX12_copy_129 ?_
      obtain ⟨hi9, h⟩ := h
      refine x_iald C 0 (c := 14) (enM_20n (c := 14) (n := 480) rfl rfl) (Nat.le_of_ble_eq_true rfl) rfl hi9 dX12_copy_130 ?_
      obtain ⟨hi10, h⟩ := h
      refine x_iast C 0 (c := 14) (enM_20n (c := 14) (n := 480) rfl rfl) (Nat.le_of_ble_eq_true rfl) rfl hi10 dX12_copy_131 ?_
      refine x_nmM (fun M11 eM11 => ?_)
      replace h := h M11 eM11
      obtain ⟨v12, ev12⟩ : ∃ z : Int32, z = x1 + 1 := ⟨_, rfl⟩
      replace h := h v12 ev12
      refine x_iinc C 1 (v1 := v12) (L' := [(1, .int v12), (0, .ref (ga g 0))]) rfl (by rw [ev12]; rfl) rfl (Nat.le_of_ble_eq_true rfl) dX12_copy_132 ?_
      refine x_goto C (tgt := 92) dX12_copy_135 (by decide) ?_
      refine x_loc (L' := [(0, .ref (ga g 0)), (1, .int v12)]) [1, 0] rfl ?_
      exact ih _ _  h
set_option maxHeartbeats 4000000 in
set_option maxRecDepth 100000 in
theorem tX12_copy_2 {g : xG} (hg : x_inj (WM g))  {x : xCx}   {post : Int32 → xMem → Prop} (C : xOk (WM g) x cX12_copy RX12 2 (some .int) (rm_X12_copy) (pI post))   : ∀ (n : Nat) (x1 : Int32) (M : xMem), wX12_copy_2 post n x1 M → xW (WM g) x 2 2 [(0, .ref (ga g 0)), (1, .int x1)] [] M := by
  intro n
  induction n with
  | zero =>
    intro x1 M  h
    exact h.elim
  | succ n ih =>
    intro x1 M  h
    rw [wX12_copy_2] at h
    refine x_iload_n C 1 rfl rfl dX12_copy_2 ?_
    refine x_aload_n C 0 rfl rfl dX12_copy_3 ?_
    refine x_get C (c := 0) (ci := 12) (k1 := 26) (v1 := .ref (ga g 15)) (enM_12 (c := 0) rfl) (Nat.le_of_ble_eq_true rfl) rfl inX12 (by decide) wf_X12_58 rfl dX12_copy_4 ?_
    refine x_iconst C (v1 := 0) dX12_copy_7 (by decide) ?_
    obtain ⟨hi1, h⟩ := h
    refine x_iald C 0 (c := 15) (enM_20n (c := 15) (n := 2) rfl rfl) (Nat.le_of_ble_eq_true rfl) rfl hi1 dX12_copy_8 ?_
    refine x_icmp_ge C (tgt := 90) dX12_copy_9 (by decide) (fun hq2 => ?_) (fun hq2 => ?_)
    · replace h := x_ift hq2 h
      refine x_iconst C (v1 := 0) dX12_copy_90 (by decide) ?_
      refine x_istore_n C (L' := [(1, .int 0), (0, .ref (ga g 0))]) rfl rfl (Nat.le_of_ble_eq_true rfl) dX12_copy_91 ?_
      refine x_loc (L' := [(0, .ref (ga g 0)), (1, .int 0)]) [1, 0] rfl ?_
      obtain ⟨n92, h⟩ := h
      exact tX12_copy_92 hg  C   _ _ _  h
    · replace h := x_iff hq2 h
      refine x_aload_n C 0 rfl rfl dX12_copy_12 ?_
      refine x_get C (c := 0) (ci := 12) (k1 := 20) (v1 := .ref (ga g 9)) (enM_12 (c := 0) rfl) (Nat.le_of_ble_eq_true rfl) rfl inX12 (by decide) wf_X12_40 rfl dX12_copy_13 ?_
      refine x_bipush C (v1 := 16) dX12_copy_16 (by decide) ?_
      refine x_iload_n C 1 rfl rfl dX12_copy_18 ?_
      refine x_iadd C dX12_copy_19 ?_
      refine x_aload_n C 0 rfl rfl dX12_copy_20 ?_
      refine x_get C (c := 0) (ci := 12) (k1 := 20) (v1 := .ref (ga g 9)) (enM_12 (c := 0) rfl) (Nat.le_of_ble_eq_true rfl) rfl inX12 (by decide) wf_X12_40 rfl dX12_copy_21 ?_
      refine x_iload_n C 1 rfl rfl dX12_copy_24 ?_
      obtain ⟨hi3, h⟩ := h
      refine x_iald C 0 (c := 9) (enM_20n (c := 9) (n := 32) rfl rfl) (Nat.le_of_ble_eq_true rfl) rfl hi3 dX12_copy_25 ?_
      obtain ⟨hi4, h⟩ := h
      refine x_iast C 0 (c := 9) (enM_20n (c := 9) (n := 32) rfl rfl) (Nat.le_of_ble_eq_true rfl) rfl hi4 dX12_copy_26 ?_
      refine x_nmM (fun M5 eM5 => ?_)
      replace h := h M5 eM5
      refine x_aload_n C 0 rfl rfl dX12_copy_27 ?_
      refine x_get C (c := 0) (ci := 12) (k1 := 21) (v1 := .ref (ga g 10)) (enM_12 (c := 0) rfl) (Nat.le_of_ble_eq_true rfl) rfl inX12 (by decide) wf_X12_43 rfl dX12_copy_28 ?_
      refine x_bipush C (v1 := 16) dX12_copy_31 (by decide) ?_
      refine x_iload_n C 1 rfl rfl dX12_copy_33 ?_
      refine x_iadd C dX12_copy_34 ?_
      refine x_sipush C (v1 := 240) dX12_copy_35 (by decide) ?_
      refine x_aload_n C 0 rfl rfl dX12_copy_38 ?_
      refine x_get C (c := 0) (ci := 12) (k1 := 21) (v1 := .ref (ga g 10)) (enM_12 (c := 0) rfl) (Nat.le_of_ble_eq_true rfl) rfl inX12 (by decide) wf_X12_43 rfl dX12_copy_39 ?_
      refine x_iload_n C 1 rfl rfl dX12_copy_42 ?_
      obtain ⟨hi6, h⟩ := h
      refine x_iald C 0 (c := 10) (enM_20n (c := 10) (n := 32) rfl rfl) (Nat.le_of_ble_eq_true rfl) rfl hi6 dX12_copy_43 ?_
      refine x_iadd C dX12_copy_44 ?_
      obtain ⟨hi7, h⟩ := h
      refine x_iast C 0 (c := 10) (enM_20n (c := 10) (n := 32) rfl rfl) (Nat.le_of_ble_eq_true rfl) rfl hi7 dX12_copy_45 ?_
      refine x_nmM (fun M8 eM8 => ?_)
      replace h := h M8 eM8
      refine x_aload_n C 0 rfl rfl dX12_copy_46 ?_
      refine x_get C (c := 0) (ci := 12) (k1 := 22) (v1 := .ref (ga g 11)) (enM_12 (c := 0) rfl) (Nat.le_of_ble_eq_true rfl) rfl inX12 (by decide) wf_X12_46 rfl dX12_copy_47 ?_
      refine x_bipush C (v1 := 16) dX12_copy_50 (by decide) ?_
      refine x_iload_n C 1 rfl rfl dX12_copy_52 ?_
      refine x_iadd C dX12_copy_53 ?_
      refine x_sipush C (v1 := 240) dX12_copy_54 (by decide) ?_
      refine x_aload_n C 0 rfl rfl dX12_copy_57 ?_
      refine x_get C (c := 0) (ci := 12) (k1 := 22) (v1 := .ref (ga g 11)) (enM_12 (c := 0) rfl) (Nat.le_of_ble_eq_true rfl) rfl inX12 (by decide) wf_X12_46 rfl dX12_copy_58 ?_
      refine x_iload_n C 1 rfl rfl dX12_copy_61 ?_
      obtain ⟨hi9, h⟩ := h
      refine x_iald C 0 (c := 11) (enM_20n (c := 11) (n := 32) rfl rfl) (Nat.le_of_ble_eq_true rfl) rfl hi9 dX12_copy_62 ?_
      refine x_iadd C dX12_copy_63 ?_
      obtain ⟨hi10, h⟩ := h
      refine x_iast C 0 (c := 11) (enM_20n (c := 11) (n := 32) rfl rfl) (Nat.le_of_ble_eq_true rfl) rfl hi10 dX12_copy_64 ?_
      refine x_nmM (fun M11 eM11 => ?_)
      replace h := h M11 eM11
      refine x_aload_n C 0 rfl rfl dX12_copy_65 ?_
      refine x_get C (c := 0) (ci := 12) (k1 := 23) (v1 := .ref (ga g 12)) (enM_12 (c := 0) rfl) (Nat.le_of_ble_eq_true rfl) rfl inX12 (by decide) wf_X12_49 rfl dX12_copy_66 ?_
      refine x_bipush C (v1 := 16) dX12_copy_69 (by decide) ?_
      refine x_iload_n C 1 rfl rfl dX12_copy_71 ?_
      refine x_iadd C dX12_copy_72 ?_
      refine x_sipush C (v1 := 240) dX12_copy_73 (by decide) ?_
      refine x_aload_n C 0 rfl rfl dX12_copy_76 ?_
      refine x_get C (c := 0) (ci := 12) (k1 := 23) (v1 := .ref (ga g 12)) (enM_12 (c := 0) rfl) (Nat.le_of_ble_eq_true rfl) rfl inX12 (by decide) wf_X12_49 rfl dX12_copy_77 ?_
      refine x_iload_n C 1 rfl rfl dX12_copy_80 ?_
      obtain ⟨hi12, h⟩ := h
      refine x_iald C 0 (c := 12) (enM_20n (c := 12) (n := 32) rfl rfl) (Nat.le_of_ble_eq_true rfl) rfl hi12 dX12_copy_81 ?_
      refine x_iadd C dX12_copy_82 ?_
      obtain ⟨hi13, h⟩ := h
      refine x_iast C 0 (c := 12) (enM_20n (c := 12) (n := 32) rfl rfl) (Nat.le_of_ble_eq_true rfl) rfl hi13 dX12_copy_83 ?_
      refine x_nmM (fun M14 eM14 => ?_)
      replace h := h M14 eM14
      obtain ⟨v15, ev15⟩ : ∃ z : Int32, z = x1 + 1 := ⟨_, rfl⟩
      replace h := h v15 ev15
      refine x_iinc C 1 (v1 := v15) (L' := [(1, .int v15), (0, .ref (ga g 0))]) rfl (by rw [ev15]; rfl) rfl (Nat.le_of_ble_eq_true rfl) dX12_copy_84 ?_
      refine x_goto C (tgt := 2) dX12_copy_87 (by decide) ?_
      refine x_loc (L' := [(0, .ref (ga g 0)), (1, .int v15)]) [1, 0] rfl ?_
      exact ih _ _  h
set_option maxHeartbeats 4000000 in
set_option maxRecDepth 100000 in
theorem tX12_copy {g : xG} (hg : x_inj (WM g))  (l : Launch)  (M : xMem) (post : Int32 → xMem → Prop)  (h : wX12_copy  M post) : xMet (WM g) l yX12_copy cX12_copy 2 (some .int) (rm_X12_copy) [.ref (ga g 0)] M (pI post) := by
  refine x_enter (own := RX12) (L0 := [(0, .ref (ga g 0))]) (by decide +kernel) rfl hg (x_stM g) (Nat.le_of_ble_eq_true rfl) rfl (fun x hl C => ?_)
  unfold wX12_copy at h
  refine x_iconst C (v1 := 0) dX12_copy_0 (by decide) ?_
  refine x_istore_n C (L' := [(1, .int 0), (0, .ref (ga g 0))]) rfl rfl (Nat.le_of_ble_eq_true rfl) dX12_copy_1 ?_
  refine x_loc (L' := [(0, .ref (ga g 0)), (1, .int 0)]) [1, 0] rfl ?_
  obtain ⟨n2, h⟩ := h
  exact tX12_copy_2 hg  C   _ _ _  h
set_option maxHeartbeats 4000000 in
set_option maxRecDepth 100000 in
theorem tX12_valueOf {g : xG} (hg : x_inj (WM g))  (l : Launch) (a0 : Int32) (M : xMem) (post : Int32 → xMem → Prop)  (h : wX12_valueOf a0 M post) : xMet (WM g) l yX12_valueOf cX12_valueOf 2 (some .int) (rm_X12_valueOf) [.ref (ga g 0), .int a0] M (pI post) := by
  refine x_enter (own := RX12) (L0 := [(0, .ref (ga g 0)), (1, .int a0)]) (by decide +kernel) rfl hg (x_stM g) (Nat.le_of_ble_eq_true rfl) rfl (fun x hl C => ?_)
  unfold wX12_valueOf at h
  refine x_iload_n C 1 rfl rfl dX12_valueOf_0 ?_
  by_cases hq1 : a0 = 97
  · replace h := x_ift hq1 h
    refine x_tabIn C hq1 (tgt := 145) dX12_valueOf_1 (by decide) (by decide) rfl (by decide) ?_
    refine x_aload_n C 0 rfl rfl dX12_valueOf_145 ?_
    refine x_get C (c := 0) (ci := 12) (k1 := 43) (v1 := .int (gi M 0 43)) (enM_12 (c := 0) rfl) (Nat.le_of_ble_eq_true rfl) rfl inX12 (by decide) wf_X12_406 rfl dX12_valueOf_146 ?_
    exact x_iret C dX12_valueOf_149 ⟨_, rfl, h⟩
  · replace h := x_iff hq1 h
    by_cases hq2 : a0 = 98
    · replace h := x_ift hq2 h
      refine x_tabIn C hq2 (tgt := 175) dX12_valueOf_1 (by decide) (by decide) rfl (by decide) ?_
      refine x_aload_n C 0 rfl rfl dX12_valueOf_175 ?_
      refine x_get C (c := 0) (ci := 12) (k1 := 65) (v1 := .int (gi M 0 65)) (enM_12 (c := 0) rfl) (Nat.le_of_ble_eq_true rfl) rfl inX12 (by decide) wf_X12_424 rfl dX12_valueOf_176 ?_
      exact x_iret C dX12_valueOf_179 ⟨_, rfl, h⟩
    · replace h := x_iff hq2 h
      by_cases hq3 : a0 = 99
      · replace h := x_ift hq3 h
        refine x_tabIn C hq3 (tgt := 160) dX12_valueOf_1 (by decide) (by decide) rfl (by decide) ?_
        refine x_aload_n C 0 rfl rfl dX12_valueOf_160 ?_
        refine x_get C (c := 0) (ci := 12) (k1 := 46) (v1 := .int (gi M 0 46)) (enM_12 (c := 0) rfl) (Nat.le_of_ble_eq_true rfl) rfl inX12 (by decide) wf_X12_415 rfl dX12_valueOf_161 ?_
        exact x_iret C dX12_valueOf_164 ⟨_, rfl, h⟩
      · replace h := x_iff hq3 h
        by_cases hq4 : a0 = 100
        · replace h := x_ift hq4 h
          refine x_tabIn C hq4 (tgt := 175) dX12_valueOf_1 (by decide) (by decide) rfl (by decide) ?_
          refine x_aload_n C 0 rfl rfl dX12_valueOf_175 ?_
          refine x_get C (c := 0) (ci := 12) (k1 := 65) (v1 := .int (gi M 0 65)) (enM_12 (c := 0) rfl) (Nat.le_of_ble_eq_true rfl) rfl inX12 (by decide) wf_X12_424 rfl dX12_valueOf_176 ?_
          exact x_iret C dX12_valueOf_179 ⟨_, rfl, h⟩
        · replace h := x_iff hq4 h
          by_cases hq5 : a0 = 101
          · replace h := x_ift hq5 h
            refine x_tabIn C hq5 (tgt := 155) dX12_valueOf_1 (by decide) (by decide) rfl (by decide) ?_
            refine x_aload_n C 0 rfl rfl dX12_valueOf_155 ?_
            refine x_get C (c := 0) (ci := 12) (k1 := 45) (v1 := .int (gi M 0 45)) (enM_12 (c := 0) rfl) (Nat.le_of_ble_eq_true rfl) rfl inX12 (by decide) wf_X12_412 rfl dX12_valueOf_156 ?_
            exact x_iret C dX12_valueOf_159 ⟨_, rfl, h⟩
          · replace h := x_iff hq5 h
            by_cases hq6 : a0 = 102
            · replace h := x_ift hq6 h
              refine x_tabIn C hq6 (tgt := 175) dX12_valueOf_1 (by decide) (by decide) rfl (by decide) ?_
              refine x_aload_n C 0 rfl rfl dX12_valueOf_175 ?_
              refine x_get C (c := 0) (ci := 12) (k1 := 65) (v1 := .int (gi M 0 65)) (enM_12 (c := 0) rfl) (Nat.le_of_ble_eq_true rfl) rfl inX12 (by decide) wf_X12_424 rfl dX12_valueOf_176 ?_
              exact x_iret C dX12_valueOf_179 ⟨_, rfl, h⟩
            · replace h := x_iff hq6 h
              by_cases hq7 : a0 = 103
              · replace h := x_ift hq7 h
                refine x_tabIn C hq7 (tgt := 175) dX12_valueOf_1 (by decide) (by decide) rfl (by decide) ?_
                refine x_aload_n C 0 rfl rfl dX12_valueOf_175 ?_
                refine x_get C (c := 0) (ci := 12) (k1 := 65) (v1 := .int (gi M 0 65)) (enM_12 (c := 0) rfl) (Nat.le_of_ble_eq_true rfl) rfl inX12 (by decide) wf_X12_424 rfl dX12_valueOf_176 ?_
                exact x_iret C dX12_valueOf_179 ⟨_, rfl, h⟩
              · replace h := x_iff hq7 h
                by_cases hq8 : a0 = 104
                · replace h := x_ift hq8 h
                  refine x_tabIn C hq8 (tgt := 170) dX12_valueOf_1 (by decide) (by decide) rfl (by decide) ?_
                  refine x_aload_n C 0 rfl rfl dX12_valueOf_170 ?_
                  refine x_get C (c := 0) (ci := 12) (k1 := 48) (v1 := .int (gi M 0 48)) (enM_12 (c := 0) rfl) (Nat.le_of_ble_eq_true rfl) rfl inX12 (by decide) wf_X12_421 rfl dX12_valueOf_171 ?_
                  exact x_iret C dX12_valueOf_174 ⟨_, rfl, h⟩
                · replace h := x_iff hq8 h
                  by_cases hq9 : a0 = 105
                  · replace h := x_ift hq9 h
                    refine x_tabIn C hq9 (tgt := 175) dX12_valueOf_1 (by decide) (by decide) rfl (by decide) ?_
                    refine x_aload_n C 0 rfl rfl dX12_valueOf_175 ?_
                    refine x_get C (c := 0) (ci := 12) (k1 := 65) (v1 := .int (gi M 0 65)) (enM_12 (c := 0) rfl) (Nat.le_of_ble_eq_true rfl) rfl inX12 (by decide) wf_X12_424 rfl dX12_valueOf_176 ?_
                    exact x_iret C dX12_valueOf_179 ⟨_, rfl, h⟩
                  · replace h := x_iff hq9 h
                    by_cases hq10 : a0 = 106
                    · replace h := x_ift hq10 h
                      refine x_tabIn C hq10 (tgt := 175) dX12_valueOf_1 (by decide) (by decide) rfl (by decide) ?_
                      refine x_aload_n C 0 rfl rfl dX12_valueOf_175 ?_
                      refine x_get C (c := 0) (ci := 12) (k1 := 65) (v1 := .int (gi M 0 65)) (enM_12 (c := 0) rfl) (Nat.le_of_ble_eq_true rfl) rfl inX12 (by decide) wf_X12_424 rfl dX12_valueOf_176 ?_
                      exact x_iret C dX12_valueOf_179 ⟨_, rfl, h⟩
                    · replace h := x_iff hq10 h
                      by_cases hq11 : a0 = 107
                      · replace h := x_ift hq11 h
                        refine x_tabIn C hq11 (tgt := 120) dX12_valueOf_1 (by decide) (by decide) rfl (by decide) ?_
                        refine x_aload_n C 0 rfl rfl dX12_valueOf_120 ?_
                        refine x_get C (c := 0) (ci := 12) (k1 := 38) (v1 := .int (gi M 0 38)) (enM_12 (c := 0) rfl) (Nat.le_of_ble_eq_true rfl) rfl inX12 (by decide) wf_X12_391 rfl dX12_valueOf_121 ?_
                        exact x_iret C dX12_valueOf_124 ⟨_, rfl, h⟩
                      · replace h := x_iff hq11 h
                        by_cases hq12 : a0 = 108
                        · replace h := x_ift hq12 h
                          refine x_tabIn C hq12 (tgt := 140) dX12_valueOf_1 (by decide) (by decide) rfl (by decide) ?_
                          refine x_aload_n C 0 rfl rfl dX12_valueOf_140 ?_
                          refine x_get C (c := 0) (ci := 12) (k1 := 42) (v1 := .int (gi M 0 42)) (enM_12 (c := 0) rfl) (Nat.le_of_ble_eq_true rfl) rfl inX12 (by decide) wf_X12_403 rfl dX12_valueOf_141 ?_
                          exact x_iret C dX12_valueOf_144 ⟨_, rfl, h⟩
                        · replace h := x_iff hq12 h
                          by_cases hq13 : a0 = 109
                          · replace h := x_ift hq13 h
                            refine x_tabIn C hq13 (tgt := 130) dX12_valueOf_1 (by decide) (by decide) rfl (by decide) ?_
                            refine x_aload_n C 0 rfl rfl dX12_valueOf_130 ?_
                            refine x_get C (c := 0) (ci := 12) (k1 := 40) (v1 := .int (gi M 0 40)) (enM_12 (c := 0) rfl) (Nat.le_of_ble_eq_true rfl) rfl inX12 (by decide) wf_X12_397 rfl dX12_valueOf_131 ?_
                            exact x_iret C dX12_valueOf_134 ⟨_, rfl, h⟩
                          · replace h := x_iff hq13 h
                            by_cases hq14 : a0 = 110
                            · replace h := x_ift hq14 h
                              refine x_tabIn C hq14 (tgt := 175) dX12_valueOf_1 (by decide) (by decide) rfl (by decide) ?_
                              refine x_aload_n C 0 rfl rfl dX12_valueOf_175 ?_
                              refine x_get C (c := 0) (ci := 12) (k1 := 65) (v1 := .int (gi M 0 65)) (enM_12 (c := 0) rfl) (Nat.le_of_ble_eq_true rfl) rfl inX12 (by decide) wf_X12_424 rfl dX12_valueOf_176 ?_
                              exact x_iret C dX12_valueOf_179 ⟨_, rfl, h⟩
                            · replace h := x_iff hq14 h
                              by_cases hq15 : a0 = 111
                              · replace h := x_ift hq15 h
                                refine x_tabIn C hq15 (tgt := 135) dX12_valueOf_1 (by decide) (by decide) rfl (by decide) ?_
                                refine x_aload_n C 0 rfl rfl dX12_valueOf_135 ?_
                                refine x_get C (c := 0) (ci := 12) (k1 := 41) (v1 := .int (gi M 0 41)) (enM_12 (c := 0) rfl) (Nat.le_of_ble_eq_true rfl) rfl inX12 (by decide) wf_X12_400 rfl dX12_valueOf_136 ?_
                                exact x_iret C dX12_valueOf_139 ⟨_, rfl, h⟩
                              · replace h := x_iff hq15 h
                                by_cases hq16 : a0 = 112
                                · replace h := x_ift hq16 h
                                  refine x_tabIn C hq16 (tgt := 175) dX12_valueOf_1 (by decide) (by decide) rfl (by decide) ?_
                                  refine x_aload_n C 0 rfl rfl dX12_valueOf_175 ?_
                                  refine x_get C (c := 0) (ci := 12) (k1 := 65) (v1 := .int (gi M 0 65)) (enM_12 (c := 0) rfl) (Nat.le_of_ble_eq_true rfl) rfl inX12 (by decide) wf_X12_424 rfl dX12_valueOf_176 ?_
                                  exact x_iret C dX12_valueOf_179 ⟨_, rfl, h⟩
                                · replace h := x_iff hq16 h
                                  by_cases hq17 : a0 = 113
                                  · replace h := x_ift hq17 h
                                    refine x_tabIn C hq17 (tgt := 175) dX12_valueOf_1 (by decide) (by decide) rfl (by decide) ?_
                                    refine x_aload_n C 0 rfl rfl dX12_valueOf_175 ?_
                                    refine x_get C (c := 0) (ci := 12) (k1 := 65) (v1 := .int (gi M 0 65)) (enM_12 (c := 0) rfl) (Nat.le_of_ble_eq_true rfl) rfl inX12 (by decide) wf_X12_424 rfl dX12_valueOf_176 ?_
                                    exact x_iret C dX12_valueOf_179 ⟨_, rfl, h⟩
                                  · replace h := x_iff hq17 h
                                    by_cases hq18 : a0 = 114
                                    · replace h := x_ift hq18 h
                                      refine x_tabIn C hq18 (tgt := 150) dX12_valueOf_1 (by decide) (by decide) rfl (by decide) ?_
                                      refine x_aload_n C 0 rfl rfl dX12_valueOf_150 ?_
                                      refine x_get C (c := 0) (ci := 12) (k1 := 44) (v1 := .int (gi M 0 44)) (enM_12 (c := 0) rfl) (Nat.le_of_ble_eq_true rfl) rfl inX12 (by decide) wf_X12_409 rfl dX12_valueOf_151 ?_
                                      exact x_iret C dX12_valueOf_154 ⟨_, rfl, h⟩
                                    · replace h := x_iff hq18 h
                                      by_cases hq19 : a0 = 115
                                      · replace h := x_ift hq19 h
                                        refine x_tabIn C hq19 (tgt := 175) dX12_valueOf_1 (by decide) (by decide) rfl (by decide) ?_
                                        refine x_aload_n C 0 rfl rfl dX12_valueOf_175 ?_
                                        refine x_get C (c := 0) (ci := 12) (k1 := 65) (v1 := .int (gi M 0 65)) (enM_12 (c := 0) rfl) (Nat.le_of_ble_eq_true rfl) rfl inX12 (by decide) wf_X12_424 rfl dX12_valueOf_176 ?_
                                        exact x_iret C dX12_valueOf_179 ⟨_, rfl, h⟩
                                      · replace h := x_iff hq19 h
                                        by_cases hq20 : a0 = 116
                                        · replace h := x_ift hq20 h
                                          refine x_tabIn C hq20 (tgt := 175) dX12_valueOf_1 (by decide) (by decide) rfl (by decide) ?_
                                          refine x_aload_n C 0 rfl rfl dX12_valueOf_175 ?_
                                          refine x_get C (c := 0) (ci := 12) (k1 := 65) (v1 := .int (gi M 0 65)) (enM_12 (c := 0) rfl) (Nat.le_of_ble_eq_true rfl) rfl inX12 (by decide) wf_X12_424 rfl dX12_valueOf_176 ?_
                                          exact x_iret C dX12_valueOf_179 ⟨_, rfl, h⟩
                                        · replace h := x_iff hq20 h
                                          by_cases hq21 : a0 = 117
                                          · replace h := x_ift hq21 h
                                            refine x_tabIn C hq21 (tgt := 125) dX12_valueOf_1 (by decide) (by decide) rfl (by decide) ?_
                                            refine x_aload_n C 0 rfl rfl dX12_valueOf_125 ?_
                                            refine x_get C (c := 0) (ci := 12) (k1 := 39) (v1 := .int (gi M 0 39)) (enM_12 (c := 0) rfl) (Nat.le_of_ble_eq_true rfl) rfl inX12 (by decide) wf_X12_394 rfl dX12_valueOf_126 ?_
                                            exact x_iret C dX12_valueOf_129 ⟨_, rfl, h⟩
                                          · replace h := x_iff hq21 h
                                            by_cases hq22 : a0 = 118
                                            · replace h := x_ift hq22 h
                                              refine x_tabIn C hq22 (tgt := 175) dX12_valueOf_1 (by decide) (by decide) rfl (by decide) ?_
                                              refine x_aload_n C 0 rfl rfl dX12_valueOf_175 ?_
                                              refine x_get C (c := 0) (ci := 12) (k1 := 65) (v1 := .int (gi M 0 65)) (enM_12 (c := 0) rfl) (Nat.le_of_ble_eq_true rfl) rfl inX12 (by decide) wf_X12_424 rfl dX12_valueOf_176 ?_
                                              exact x_iret C dX12_valueOf_179 ⟨_, rfl, h⟩
                                            · replace h := x_iff hq22 h
                                              by_cases hq23 : a0 = 119
                                              · replace h := x_ift hq23 h
                                                refine x_tabIn C hq23 (tgt := 175) dX12_valueOf_1 (by decide) (by decide) rfl (by decide) ?_
                                                refine x_aload_n C 0 rfl rfl dX12_valueOf_175 ?_
                                                refine x_get C (c := 0) (ci := 12) (k1 := 65) (v1 := .int (gi M 0 65)) (enM_12 (c := 0) rfl) (Nat.le_of_ble_eq_true rfl) rfl inX12 (by decide) wf_X12_424 rfl dX12_valueOf_176 ?_
                                                exact x_iret C dX12_valueOf_179 ⟨_, rfl, h⟩
                                              · replace h := x_iff hq23 h
                                                by_cases hq24 : a0 = 120
                                                · replace h := x_ift hq24 h
                                                  refine x_tabIn C hq24 (tgt := 175) dX12_valueOf_1 (by decide) (by decide) rfl (by decide) ?_
                                                  refine x_aload_n C 0 rfl rfl dX12_valueOf_175 ?_
                                                  refine x_get C (c := 0) (ci := 12) (k1 := 65) (v1 := .int (gi M 0 65)) (enM_12 (c := 0) rfl) (Nat.le_of_ble_eq_true rfl) rfl inX12 (by decide) wf_X12_424 rfl dX12_valueOf_176 ?_
                                                  exact x_iret C dX12_valueOf_179 ⟨_, rfl, h⟩
                                                · replace h := x_iff hq24 h
                                                  by_cases hq25 : a0 = 121
                                                  · replace h := x_ift hq25 h
                                                    refine x_tabIn C hq25 (tgt := 175) dX12_valueOf_1 (by decide) (by decide) rfl (by decide) ?_
                                                    refine x_aload_n C 0 rfl rfl dX12_valueOf_175 ?_
                                                    refine x_get C (c := 0) (ci := 12) (k1 := 65) (v1 := .int (gi M 0 65)) (enM_12 (c := 0) rfl) (Nat.le_of_ble_eq_true rfl) rfl inX12 (by decide) wf_X12_424 rfl dX12_valueOf_176 ?_
                                                    exact x_iret C dX12_valueOf_179 ⟨_, rfl, h⟩
                                                  · replace h := x_iff hq25 h
                                                    by_cases hq26 : a0 = 122
                                                    · replace h := x_ift hq26 h
                                                      refine x_tabIn C hq26 (tgt := 165) dX12_valueOf_1 (by decide) (by decide) rfl (by decide) ?_
                                                      refine x_aload_n C 0 rfl rfl dX12_valueOf_165 ?_
                                                      refine x_get C (c := 0) (ci := 12) (k1 := 47) (v1 := .int (gi M 0 47)) (enM_12 (c := 0) rfl) (Nat.le_of_ble_eq_true rfl) rfl inX12 (by decide) wf_X12_418 rfl dX12_valueOf_166 ?_
                                                      exact x_iret C dX12_valueOf_169 ⟨_, rfl, h⟩
                                                    · replace h := x_iff hq26 h
                                                      refine x_tabOut C (tgt := 175) dX12_valueOf_1 (by have t0 := x_i32ne hq1; have u0 : (97 : Int32).toInt = 97 := (by decide); have t1 := x_i32ne hq2; have u1 : (98 : Int32).toInt = 98 := (by decide); have t2 := x_i32ne hq3; have u2 : (99 : Int32).toInt = 99 := (by decide); have t3 := x_i32ne hq4; have u3 : (100 : Int32).toInt = 100 := (by decide); have t4 := x_i32ne hq5; have u4 : (101 : Int32).toInt = 101 := (by decide); have t5 := x_i32ne hq6; have u5 : (102 : Int32).toInt = 102 := (by decide); have t6 := x_i32ne hq7; have u6 : (103 : Int32).toInt = 103 := (by decide); have t7 := x_i32ne hq8; have u7 : (104 : Int32).toInt = 104 := (by decide); have t8 := x_i32ne hq9; have u8 : (105 : Int32).toInt = 105 := (by decide); have t9 := x_i32ne hq10; have u9 : (106 : Int32).toInt = 106 := (by decide); have t10 := x_i32ne hq11; have u10 : (107 : Int32).toInt = 107 := (by decide); have t11 := x_i32ne hq12; have u11 : (108 : Int32).toInt = 108 := (by decide); have t12 := x_i32ne hq13; have u12 : (109 : Int32).toInt = 109 := (by decide); have t13 := x_i32ne hq14; have u13 : (110 : Int32).toInt = 110 := (by decide); have t14 := x_i32ne hq15; have u14 : (111 : Int32).toInt = 111 := (by decide); have t15 := x_i32ne hq16; have u15 : (112 : Int32).toInt = 112 := (by decide); have t16 := x_i32ne hq17; have u16 : (113 : Int32).toInt = 113 := (by decide); have t17 := x_i32ne hq18; have u17 : (114 : Int32).toInt = 114 := (by decide); have t18 := x_i32ne hq19; have u18 : (115 : Int32).toInt = 115 := (by decide); have t19 := x_i32ne hq20; have u19 : (116 : Int32).toInt = 116 := (by decide); have t20 := x_i32ne hq21; have u20 : (117 : Int32).toInt = 117 := (by decide); have t21 := x_i32ne hq22; have u21 : (118 : Int32).toInt = 118 := (by decide); have t22 := x_i32ne hq23; have u22 : (119 : Int32).toInt = 119 := (by decide); have t23 := x_i32ne hq24; have u23 : (120 : Int32).toInt = 120 := (by decide); have t24 := x_i32ne hq25; have u24 : (121 : Int32).toInt = 121 := (by decide); have t25 := x_i32ne hq26; have u25 : (122 : Int32).toInt = 122 := (by decide); omega) (by decide) ?_
                                                      refine x_aload_n C 0 rfl rfl dX12_valueOf_175 ?_
                                                      refine x_get C (c := 0) (ci := 12) (k1 := 65) (v1 := .int (gi M 0 65)) (enM_12 (c := 0) rfl) (Nat.le_of_ble_eq_true rfl) rfl inX12 (by decide) wf_X12_424 rfl dX12_valueOf_176 ?_
                                                      exact x_iret C dX12_valueOf_179 ⟨_, rfl, h⟩
set_option maxHeartbeats 4000000 in
set_option maxRecDepth 100000 in
theorem tX12_worked {g : xG} (hg : x_inj (WM g))  (l : Launch) (a0 : Int32) (a1 : Int32) (a2 : Int32) (M : xMem) (post : Int32 → xMem → Prop)  (h : wX12_worked a0 a1 a2 M post) : xMet (WM g) l yX12_worked cX12_worked 3 (some .int) (rm_X12_worked) [.int a0, .int a1, .int a2] M (pI post) := by
  refine x_enter (own := RX12) (L0 := [(0, .int a0), (1, .int a1), (2, .int a2)]) (by decide +kernel) rfl hg (x_stM g) (Nat.le_of_ble_eq_true rfl) rfl (fun x hl C => ?_)
  unfold wX12_worked at h
  refine x_iload_n C 0 rfl rfl dX12_worked_0 ?_
  by_cases hq1 : a0 = 37
  · replace h := x_ift hq1 h
    refine x_lookup C (tgt := 92) dX12_worked_1 (by decide) (by rw [hq1]) (by decide) ?_
    refine x_iload_n C 2 rfl rfl dX12_worked_92 ?_
    refine x_if_ne C (tgt := 100) dX12_worked_93 (by decide) (fun hq2 => ?_) (fun hq2 => ?_)
    · replace h := x_iff hq2 h
      refine x_iload_n C 1 rfl rfl dX12_worked_100 ?_
      refine x_iload_n C 2 rfl rfl dX12_worked_101 ?_
      obtain ⟨hz3, h⟩ := h
      refine x_irem C hz3 dX12_worked_102 ?_
      exact x_iret C dX12_worked_103 ⟨_, rfl, h⟩
    · replace h := x_ift hq2 h
      refine x_iconst C (v1 := 0) dX12_worked_96 (by decide) ?_
      refine x_goto C (tgt := 103) dX12_worked_97 (by decide) ?_
      exact x_iret C dX12_worked_103 ⟨_, rfl, h⟩
  · replace h := x_iff hq1 h
    by_cases hq4 : a0 = 42
    · replace h := x_ift hq4 h
      refine x_lookup C (tgt := 76) dX12_worked_1 (by decide) (by rw [hq4]) (by decide) ?_
      refine x_iload_n C 1 rfl rfl dX12_worked_76 ?_
      refine x_iload_n C 2 rfl rfl dX12_worked_77 ?_
      refine x_imul C dX12_worked_78 ?_
      exact x_iret C dX12_worked_79 ⟨_, rfl, h⟩
    · replace h := x_iff hq4 h
      by_cases hq5 : a0 = 43
      · replace h := x_ift hq5 h
        refine x_lookup C (tgt := 68) dX12_worked_1 (by decide) (by rw [hq5]) (by decide) ?_
        refine x_iload_n C 1 rfl rfl dX12_worked_68 ?_
        refine x_iload_n C 2 rfl rfl dX12_worked_69 ?_
        refine x_iadd C dX12_worked_70 ?_
        exact x_iret C dX12_worked_71 ⟨_, rfl, h⟩
      · replace h := x_iff hq5 h
        by_cases hq6 : a0 = 45
        · replace h := x_ift hq6 h
          refine x_lookup C (tgt := 72) dX12_worked_1 (by decide) (by rw [hq6]) (by decide) ?_
          refine x_iload_n C 1 rfl rfl dX12_worked_72 ?_
          refine x_iload_n C 2 rfl rfl dX12_worked_73 ?_
          refine x_isub C dX12_worked_74 ?_
          exact x_iret C dX12_worked_75 ⟨_, rfl, h⟩
        · replace h := x_iff hq6 h
          by_cases hq7 : a0 = 47
          · replace h := x_ift hq7 h
            refine x_lookup C (tgt := 80) dX12_worked_1 (by decide) (by rw [hq7]) (by decide) ?_
            refine x_iload_n C 2 rfl rfl dX12_worked_80 ?_
            refine x_if_ne C (tgt := 88) dX12_worked_81 (by decide) (fun hq8 => ?_) (fun hq8 => ?_)
            · replace h := x_iff hq8 h
              refine x_iload_n C 1 rfl rfl dX12_worked_88 ?_
              refine x_iload_n C 2 rfl rfl dX12_worked_89 ?_
              obtain ⟨hz9, h⟩ := h
              refine x_idiv C hz9 dX12_worked_90 ?_
              exact x_iret C dX12_worked_91 ⟨_, rfl, h⟩
            · replace h := x_ift hq8 h
              refine x_iconst C (v1 := 0) dX12_worked_84 (by decide) ?_
              refine x_goto C (tgt := 91) dX12_worked_85 (by decide) ?_
              exact x_iret C dX12_worked_91 ⟨_, rfl, h⟩
          · replace h := x_iff hq7 h
            by_cases hq10 : a0 = 60
            · replace h := x_ift hq10 h
              refine x_lookup C (tgt := 104) dX12_worked_1 (by decide) (by rw [hq10]) (by decide) ?_
              refine x_iload_n C 1 rfl rfl dX12_worked_104 ?_
              refine x_iload_n C 2 rfl rfl dX12_worked_105 ?_
              refine x_icmp_ge C (tgt := 113) dX12_worked_106 (by decide) (fun hq11 => ?_) (fun hq11 => ?_)
              · replace h := x_ift hq11 h
                refine x_iconst C (v1 := 0) dX12_worked_113 (by decide) ?_
                exact x_iret C dX12_worked_114 ⟨_, rfl, h⟩
              · replace h := x_iff hq11 h
                refine x_iconst C (v1 := 1) dX12_worked_109 (by decide) ?_
                refine x_goto C (tgt := 114) dX12_worked_110 (by decide) ?_
                exact x_iret C dX12_worked_114 ⟨_, rfl, h⟩
            · replace h := x_iff hq10 h
              by_cases hq12 : a0 = 62
              · replace h := x_ift hq12 h
                refine x_lookup C (tgt := 115) dX12_worked_1 (by decide) (by rw [hq12]) (by decide) ?_
                refine x_iload_n C 1 rfl rfl dX12_worked_115 ?_
                refine x_iload_n C 2 rfl rfl dX12_worked_116 ?_
                refine x_icmp_le C (tgt := 124) dX12_worked_117 (by decide) (fun hq13 => ?_) (fun hq13 => ?_)
                · replace h := x_ift hq13 h
                  refine x_iconst C (v1 := 0) dX12_worked_124 (by decide) ?_
                  exact x_iret C dX12_worked_125 ⟨_, rfl, h⟩
                · replace h := x_iff hq13 h
                  refine x_iconst C (v1 := 1) dX12_worked_120 (by decide) ?_
                  refine x_goto C (tgt := 125) dX12_worked_121 (by decide) ?_
                  exact x_iret C dX12_worked_125 ⟨_, rfl, h⟩
              · replace h := x_iff hq12 h
                refine x_lookup C (tgt := 126) (off := 125) dX12_worked_1 (by decide) (by have t0 := x_i32ne hq1; have u0 : (37 : Int32).toInt = 37 := (by decide); rw [u0] at t0; replace t0 : ¬ (37 : Int) = a0.toInt := (fun q => t0 q.symm); have t1 := x_i32ne hq4; have u1 : (42 : Int32).toInt = 42 := (by decide); rw [u1] at t1; replace t1 : ¬ (42 : Int) = a0.toInt := (fun q => t1 q.symm); have t2 := x_i32ne hq5; have u2 : (43 : Int32).toInt = 43 := (by decide); rw [u2] at t2; replace t2 : ¬ (43 : Int) = a0.toInt := (fun q => t2 q.symm); have t3 := x_i32ne hq6; have u3 : (45 : Int32).toInt = 45 := (by decide); rw [u3] at t3; replace t3 : ¬ (45 : Int) = a0.toInt := (fun q => t3 q.symm); have t4 := x_i32ne hq7; have u4 : (47 : Int32).toInt = 47 := (by decide); rw [u4] at t4; replace t4 : ¬ (47 : Int) = a0.toInt := (fun q => t4 q.symm); have t5 := x_i32ne hq10; have u5 : (60 : Int32).toInt = 60 := (by decide); rw [u5] at t5; replace t5 : ¬ (60 : Int) = a0.toInt := (fun q => t5 q.symm); have t6 := x_i32ne hq12; have u6 : (62 : Int32).toInt = 62 := (by decide); rw [u6] at t6; replace t6 : ¬ (62 : Int) = a0.toInt := (fun q => t6 q.symm); simp [Op.lookupswitch.offset, t0, t1, t2, t3, t4, t5, t6]) (by decide) ?_
                refine x_iload_n C 1 rfl rfl dX12_worked_126 ?_
                refine x_iload_n C 2 rfl rfl dX12_worked_127 ?_
                refine x_icmp_ne C (tgt := 135) dX12_worked_128 (by decide) (fun hq14 => ?_) (fun hq14 => ?_)
                · replace h := x_iff hq14 h
                  refine x_iconst C (v1 := 0) dX12_worked_135 (by decide) ?_
                  exact x_iret C dX12_worked_136 ⟨_, rfl, h⟩
                · replace h := x_ift hq14 h
                  refine x_iconst C (v1 := 1) dX12_worked_131 (by decide) ?_
                  refine x_goto C (tgt := 136) dX12_worked_132 (by decide) ?_
                  exact x_iret C dX12_worked_136 ⟨_, rfl, h⟩
set_option maxHeartbeats 4000000 in
set_option maxRecDepth 100000 in
theorem tX12_does_42 {g : xG} (hg : x_inj (WM g))  {x : xCx}   {post : xMem → Prop} (C : xOk (WM g) x cX12_does RX12 4 none (rm_X12_does) (pV post))   (x2 : Int32) (x3 : Int32) (s0 : Int32) (s1 : Int32) (M : xMem)  (h : wX12_does_42 post x2 x3 s0 s1 M) : xW (WM g) x 4 42 [(0, .ref (ga g 0)), (2, .int x2), (3, .int x3)] [.int s0, .int s1] M := by
  unfold wX12_does_42 at h
  refine x_icmp_eq C (tgt := 46) dX12_does_42 (by decide) (fun hq1 => ?_) (fun hq1 => ?_)
  · replace h := x_ift hq1 h
    refine x_aload_n C 0 rfl rfl dX12_does_46 ?_
    refine x_get C (c := 0) (ci := 12) (k1 := 49) (v1 := .ref (ga g 23)) (enM_12 (c := 0) rfl) (Nat.le_of_ble_eq_true rfl) rfl inX12 (by decide) wf_X12_82 rfl dX12_does_47 ?_
    refine x_iload_n C 1 rfl rfl dX12_does_50 ?_
    refine x_aload_n C 0 rfl rfl dX12_does_51 ?_
    refine x_get C (c := 0) (ci := 12) (k1 := 49) (v1 := .ref (ga g 23)) (enM_12 (c := 0) rfl) (Nat.le_of_ble_eq_true rfl) rfl inX12 (by decide) wf_X12_82 rfl dX12_does_52 ?_
    refine x_iload_n C 2 rfl rfl dX12_does_55 ?_
    obtain ⟨hi2, h⟩ := h
    refine x_iald C 0 (c := 23) (enM_20n (c := 23) (n := 240) rfl rfl) (Nat.le_of_ble_eq_true rfl) rfl hi2 dX12_does_56 ?_
    obtain ⟨hi3, h⟩ := h
    refine x_iast C 0 (c := 23) (enM_20n (c := 23) (n := 240) rfl rfl) (Nat.le_of_ble_eq_true rfl) rfl hi3 dX12_does_57 ?_
    refine x_nmM (fun M4 eM4 => ?_)
    replace h := h M4 eM4
    refine x_aload_n C 0 rfl rfl dX12_does_58 ?_
    refine x_get C (c := 0) (ci := 12) (k1 := 50) (v1 := .ref (ga g 24)) (enM_12 (c := 0) rfl) (Nat.le_of_ble_eq_true rfl) rfl inX12 (by decide) wf_X12_85 rfl dX12_does_59 ?_
    refine x_iload_n C 1 rfl rfl dX12_does_62 ?_
    refine x_aload_n C 0 rfl rfl dX12_does_63 ?_
    refine x_get C (c := 0) (ci := 12) (k1 := 50) (v1 := .ref (ga g 24)) (enM_12 (c := 0) rfl) (Nat.le_of_ble_eq_true rfl) rfl inX12 (by decide) wf_X12_85 rfl dX12_does_64 ?_
    refine x_iload_n C 2 rfl rfl dX12_does_67 ?_
    obtain ⟨hi5, h⟩ := h
    refine x_zald C 2 (c := 24) (enM_24n (c := 24) (n := 240) rfl rfl) (Nat.le_of_ble_eq_true rfl) rfl hi5 dX12_does_68 ?_
    obtain ⟨hi6, h⟩ := h
    refine x_zast C 2 (c := 24) (enM_24n (c := 24) (n := 240) rfl rfl) (Nat.le_of_ble_eq_true rfl) rfl hi6 dX12_does_69 ?_
    refine x_nmM (fun M7 eM7 => ?_)
    replace h := h M7 eM7
    exact x_vret C dX12_does_70 ⟨rfl, h⟩
  · replace h := x_iff hq1 h
    exact x_vret C dX12_does_45 ⟨rfl, h⟩
set_option maxHeartbeats 4000000 in
set_option maxRecDepth 100000 in
theorem tX12_does_16 {g : xG} (hg : x_inj (WM g))  {x : xCx}   {post : xMem → Prop} (C : xOk (WM g) x cX12_does RX12 4 none (rm_X12_does) (pV post))   (x1 : Int32) (x2 : Int32) (x3 : Int32) (M : xMem)  (h : wX12_does_16 post x1 x2 x3 M) : xW (WM g) x 4 16 [(0, .ref (ga g 0)), (1, .int x1), (2, .int x2), (3, .int x3)] [] M := by
  unfold wX12_does_16 at h
  refine x_aload_n C 0 rfl rfl dX12_does_16 ?_
  refine x_get C (c := 0) (ci := 12) (k1 := 50) (v1 := .ref (ga g 24)) (enM_12 (c := 0) rfl) (Nat.le_of_ble_eq_true rfl) rfl inX12 (by decide) wf_X12_85 rfl dX12_does_17 ?_
  refine x_iload_n C 2 rfl rfl dX12_does_20 ?_
  obtain ⟨hi1, h⟩ := h
  refine x_zald C 2 (c := 24) (enM_24n (c := 24) (n := 240) rfl rfl) (Nat.le_of_ble_eq_true rfl) rfl hi1 dX12_does_21 ?_
  refine x_if_ne C (tgt := 45) dX12_does_22 (by decide) (fun hq2 => ?_) (fun hq2 => ?_)
  · replace h := x_iff hq2 h
    exact x_vret C dX12_does_45 ⟨rfl, h⟩
  · replace h := x_ift hq2 h
    refine x_aload_n C 0 rfl rfl dX12_does_25 ?_
    refine x_get C (c := 0) (ci := 12) (k1 := 49) (v1 := .ref (ga g 23)) (enM_12 (c := 0) rfl) (Nat.le_of_ble_eq_true rfl) rfl inX12 (by decide) wf_X12_82 rfl dX12_does_26 ?_
    refine x_iload_n C 2 rfl rfl dX12_does_29 ?_
    obtain ⟨hi3, h⟩ := h
    refine x_iald C 0 (c := 23) (enM_20n (c := 23) (n := 240) rfl rfl) (Nat.le_of_ble_eq_true rfl) rfl hi3 dX12_does_30 ?_
    refine x_iload_n C 1 rfl rfl dX12_does_31 ?_
    refine x_bipush C (v1 := 38) dX12_does_32 (by decide) ?_
    refine x_icmp_ne C (tgt := 41) dX12_does_34 (by decide) (fun hq4 => ?_) (fun hq4 => ?_)
    · replace h := x_iff hq4 h
      refine x_iconst C (v1 := 0) dX12_does_41 (by decide) ?_
      refine x_loc (L' := [(0, .ref (ga g 0)), (2, .int x2), (3, .int x3)]) [0, 2, 3] rfl ?_
      exact tX12_does_42 hg  C   _ _ _ _ _  h
    · replace h := x_ift hq4 h
      refine x_iconst C (v1 := 1) dX12_does_37 (by decide) ?_
      refine x_goto C (tgt := 42) dX12_does_38 (by decide) ?_
      refine x_loc (L' := [(0, .ref (ga g 0)), (2, .int x2), (3, .int x3)]) [0, 2, 3] rfl ?_
      exact tX12_does_42 hg  C   _ _ _ _ _  h
set_option maxHeartbeats 4000000 in
set_option maxRecDepth 100000 in
theorem tX12_does_120 {g : xG} (hg : x_inj (WM g))  {x : xCx}   {post : xMem → Prop} (C : xOk (WM g) x cX12_does RX12 4 none (rm_X12_does) (pV post))   (x1 : Int32) (x2 : Int32) (x3 : Int32) (s0 : Int32) (s1 : Int32) (M : xMem)  (h : wX12_does_120 post x1 x2 x3 s0 s1 M) : xW (WM g) x 4 120 [(0, .ref (ga g 0)), (1, .int x1), (2, .int x2), (3, .int x3)] [.int s0, .int s1, .ref (ga g 24)] M := by
  unfold wX12_does_120 at h
  obtain ⟨hi1, h⟩ := h
  refine x_zast C 2 (c := 24) (enM_24n (c := 24) (n := 240) rfl rfl) (Nat.le_of_ble_eq_true rfl) rfl hi1 dX12_does_120 ?_
  refine x_nmM (fun M2 eM2 => ?_)
  replace h := h M2 eM2
  refine x_aload_n C 0 rfl rfl dX12_does_121 ?_
  refine x_get C (c := 0) (ci := 12) (k1 := 49) (v1 := .ref (ga g 23)) (enM_12 (c := 0) rfl) (Nat.le_of_ble_eq_true rfl) rfl inX12 (by decide) wf_X12_82 rfl dX12_does_122 ?_
  refine x_iload_n C 2 rfl rfl dX12_does_125 ?_
  refine x_iload_n C 1 rfl rfl dX12_does_126 ?_
  refine x_aload_n C 0 rfl rfl dX12_does_127 ?_
  refine x_get C (c := 0) (ci := 12) (k1 := 49) (v1 := .ref (ga g 23)) (enM_12 (c := 0) rfl) (Nat.le_of_ble_eq_true rfl) rfl inX12 (by decide) wf_X12_82 rfl dX12_does_128 ?_
  refine x_iload_n C 2 rfl rfl dX12_does_131 ?_
  obtain ⟨hi3, h⟩ := h
  refine x_iald C 0 (c := 23) (enM_20n (c := 23) (n := 240) rfl rfl) (Nat.le_of_ble_eq_true rfl) rfl hi3 dX12_does_132 ?_
  refine x_aload_n C 0 rfl rfl dX12_does_133 ?_
  refine x_get C (c := 0) (ci := 12) (k1 := 49) (v1 := .ref (ga g 23)) (enM_12 (c := 0) rfl) (Nat.le_of_ble_eq_true rfl) rfl inX12 (by decide) wf_X12_82 rfl dX12_does_134 ?_
  refine x_iload_n C 3 rfl rfl dX12_does_137 ?_
  obtain ⟨hi4, h⟩ := h
  refine x_iald C 0 (c := 23) (enM_20n (c := 23) (n := 240) rfl rfl) (Nat.le_of_ble_eq_true rfl) rfl hi4 dX12_does_138 ?_
  refine x_callS C (st := [.int x2, .ref (ga g 23)]) (As := [.int x1, .int (gi M2 23 x2.toNatClampNeg), .int (gi M2 23 x3.toNatClampNeg)]) (tX12_worked hg _ _ _ _ _ _  h) wm_X12_427 wsm_X12_worked wz_X12 wc_X12_worked yd_X12_worked rfl ⟨rfl, rfl⟩ ⟨Nat.le_of_ble_eq_true rfl, Nat.le_of_ble_eq_true rfl⟩ (Nat.le_of_ble_eq_true rfl) rfl dX12_does_139 (x_ki (fun r6 M5 h => ?_))
  obtain ⟨hi7, h⟩ := h
  refine x_iast C 0 (c := 23) (enM_20n (c := 23) (n := 240) rfl rfl) (Nat.le_of_ble_eq_true rfl) rfl hi7 dX12_does_142 ?_
  refine x_nmM (fun M8 eM8 => ?_)
  replace h := h M8 eM8
  exact x_vret C dX12_does_143 ⟨rfl, h⟩
set_option maxHeartbeats 4000000 in
set_option maxRecDepth 100000 in
theorem tX12_does_115 {g : xG} (hg : x_inj (WM g))  {x : xCx}   {post : xMem → Prop} (C : xOk (WM g) x cX12_does RX12 4 none (rm_X12_does) (pV post))   (x1 : Int32) (x2 : Int32) (x3 : Int32) (s0 : Int32) (M : xMem)  (h : wX12_does_115 post x1 x2 x3 s0 M) : xW (WM g) x 4 115 [(0, .ref (ga g 0)), (1, .int x1), (2, .int x2), (3, .int x3)] [.int s0, .ref (ga g 24)] M := by
  unfold wX12_does_115 at h
  refine x_iconst C (v1 := 1) dX12_does_115 (by decide) ?_
  refine x_goto C (tgt := 120) dX12_does_116 (by decide) ?_
  exact tX12_does_120 hg  C   _ _ _ _ _ _  h
set_option maxHeartbeats 4000000 in
set_option maxRecDepth 100000 in
theorem tX12_does_119 {g : xG} (hg : x_inj (WM g))  {x : xCx}   {post : xMem → Prop} (C : xOk (WM g) x cX12_does RX12 4 none (rm_X12_does) (pV post))   (x1 : Int32) (x2 : Int32) (x3 : Int32) (s0 : Int32) (M : xMem)  (h : wX12_does_119 post x1 x2 x3 s0 M) : xW (WM g) x 4 119 [(0, .ref (ga g 0)), (1, .int x1), (2, .int x2), (3, .int x3)] [.int s0, .ref (ga g 24)] M := by
  unfold wX12_does_119 at h
  refine x_iconst C (v1 := 0) dX12_does_119 (by decide) ?_
  exact tX12_does_120 hg  C   _ _ _ _ _ _  h
set_option maxHeartbeats 4000000 in
set_option maxRecDepth 100000 in
theorem tX12_does_106 {g : xG} (hg : x_inj (WM g))  {x : xCx}   {post : xMem → Prop} (C : xOk (WM g) x cX12_does RX12 4 none (rm_X12_does) (pV post))   (x1 : Int32) (x2 : Int32) (x3 : Int32) (s0 : Int32) (M : xMem)  (h : wX12_does_106 post x1 x2 x3 s0 M) : xW (WM g) x 4 106 [(0, .ref (ga g 0)), (1, .int x1), (2, .int x2), (3, .int x3)] [.int s0, .ref (ga g 24)] M := by
  unfold wX12_does_106 at h
  refine x_aload_n C 0 rfl rfl dX12_does_106 ?_
  refine x_get C (c := 0) (ci := 12) (k1 := 49) (v1 := .ref (ga g 23)) (enM_12 (c := 0) rfl) (Nat.le_of_ble_eq_true rfl) rfl inX12 (by decide) wf_X12_82 rfl dX12_does_107 ?_
  refine x_iload_n C 3 rfl rfl dX12_does_110 ?_
  obtain ⟨hi1, h⟩ := h
  refine x_iald C 0 (c := 23) (enM_20n (c := 23) (n := 240) rfl rfl) (Nat.le_of_ble_eq_true rfl) rfl hi1 dX12_does_111 ?_
  refine x_if_ne C (tgt := 119) dX12_does_112 (by decide) (fun hq2 => ?_) (fun hq2 => ?_)
  · replace h := x_iff hq2 h
    exact tX12_does_119 hg  C   _ _ _ _ _  h
  · replace h := x_ift hq2 h
    exact tX12_does_115 hg  C   _ _ _ _ _  h
set_option maxHeartbeats 4000000 in
set_option maxRecDepth 100000 in
theorem tX12_does {g : xG} (hg : x_inj (WM g))  (l : Launch) (a0 : Int32) (a1 : Int32) (M : xMem) (post : xMem → Prop)  (h : wX12_does a0 a1 M post) : xMet (WM g) l yX12_does cX12_does 4 none (rm_X12_does) [.ref (ga g 0), .int a0, .int a1] M (pV post) := by
  refine x_enter (own := RX12) (L0 := [(0, .ref (ga g 0)), (1, .int a0), (2, .int a1)]) (by decide +kernel) rfl hg (x_stM g) (Nat.le_of_ble_eq_true rfl) rfl (fun x hl C => ?_)
  unfold wX12_does at h
  refine x_iload_n C 2 rfl rfl dX12_does_0 ?_
  refine x_iconst C (v1 := 1) dX12_does_1 (by decide) ?_
  refine x_iadd C dX12_does_2 ?_
  refine x_nm (fun v1 ev1 => ?_)
  replace h := h v1 ev1
  refine x_istore_n C (L' := [(3, .int v1), (0, .ref (ga g 0)), (1, .int a0), (2, .int a1)]) rfl rfl (Nat.le_of_ble_eq_true rfl) dX12_does_3 ?_
  refine x_iload_n C 2 rfl rfl dX12_does_4 ?_
  refine x_bipush C (v1 := 38) dX12_does_5 (by decide) ?_
  refine x_icmp_eq C (tgt := 16) dX12_does_7 (by decide) (fun hq2 => ?_) (fun hq2 => ?_)
  · replace h := x_ift hq2 h
    refine x_loc (L' := [(0, .ref (ga g 0)), (1, .int a0), (2, .int a1), (3, .int v1)]) [1, 2, 3, 0] rfl ?_
    exact tX12_does_16 hg  C   _ _ _ _  h
  · replace h := x_iff hq2 h
    refine x_iload_n C 2 rfl rfl dX12_does_10 ?_
    refine x_bipush C (v1 := 124) dX12_does_11 (by decide) ?_
    refine x_icmp_ne C (tgt := 71) dX12_does_13 (by decide) (fun hq3 => ?_) (fun hq3 => ?_)
    · replace h := x_iff hq3 h
      refine x_aload_n C 1 rfl rfl dX12_does_71 ?_
      refine x_get C (c := 0) (ci := 12) (k1 := 50) (v1 := .ref (ga g 24)) (enM_12 (c := 0) rfl) (Nat.le_of_ble_eq_true rfl) rfl inX12 (by decide) wf_X12_85 rfl dX12_does_72 ?_
      refine x_iload_n C 3 rfl rfl dX12_does_75 ?_
      refine x_aload_n C 1 rfl rfl dX12_does_76 ?_
      refine x_get C (c := 0) (ci := 12) (k1 := 50) (v1 := .ref (ga g 24)) (enM_12 (c := 0) rfl) (Nat.le_of_ble_eq_true rfl) rfl inX12 (by decide) wf_X12_85 rfl dX12_does_77 ?_
      refine x_iload_n C 3 rfl rfl dX12_does_80 ?_
      obtain ⟨hi4, h⟩ := h
      refine x_zald C 2 (c := 24) (enM_24n (c := 24) (n := 240) rfl rfl) (Nat.le_of_ble_eq_true rfl) rfl hi4 dX12_does_81 ?_
      refine x_if_ne C (tgt := 115) dX12_does_82 (by decide) (fun hq5 => ?_) (fun hq5 => ?_)
      · replace h := x_iff hq5 h
        refine x_loc (L' := [(0, .ref (ga g 0)), (1, .int a0), (2, .int a1), (3, .int v1)]) [1, 2, 3, 0] rfl ?_
        exact tX12_does_115 hg  C   _ _ _ _ _  h
      · replace h := x_ift hq5 h
        refine x_aload_n C 1 rfl rfl dX12_does_85 ?_
        refine x_get C (c := 0) (ci := 12) (k1 := 50) (v1 := .ref (ga g 24)) (enM_12 (c := 0) rfl) (Nat.le_of_ble_eq_true rfl) rfl inX12 (by decide) wf_X12_85 rfl dX12_does_86 ?_
        refine x_iload_n C 0 rfl rfl dX12_does_89 ?_
        obtain ⟨hi6, h⟩ := h
        refine x_zald C 2 (c := 24) (enM_24n (c := 24) (n := 240) rfl rfl) (Nat.le_of_ble_eq_true rfl) rfl hi6 dX12_does_90 ?_
        refine x_if_ne C (tgt := 115) dX12_does_91 (by decide) (fun hq7 => ?_) (fun hq7 => ?_)
        · replace h := x_iff hq7 h
          refine x_loc (L' := [(0, .ref (ga g 0)), (1, .int a0), (2, .int a1), (3, .int v1)]) [1, 2, 3, 0] rfl ?_
          exact tX12_does_115 hg  C   _ _ _ _ _  h
        · replace h := x_ift hq7 h
          refine x_iload_n C 2 rfl rfl dX12_does_94 ?_
          refine x_bipush C (v1 := 47) dX12_does_95 (by decide) ?_
          refine x_icmp_eq C (tgt := 106) dX12_does_97 (by decide) (fun hq8 => ?_) (fun hq8 => ?_)
          · replace h := x_ift hq8 h
            refine x_loc (L' := [(0, .ref (ga g 0)), (1, .int a0), (2, .int a1), (3, .int v1)]) [1, 2, 3, 0] rfl ?_
            exact tX12_does_106 hg  C   _ _ _ _ _  h
          · replace h := x_iff hq8 h
            refine x_iload_n C 2 rfl rfl dX12_does_100 ?_
            refine x_bipush C (v1 := 37) dX12_does_101 (by decide) ?_
            refine x_icmp_ne C (tgt := 119) dX12_does_103 (by decide) (fun hq9 => ?_) (fun hq9 => ?_)
            · replace h := x_iff hq9 h
              refine x_loc (L' := [(0, .ref (ga g 0)), (1, .int a0), (2, .int a1), (3, .int v1)]) [1, 2, 3, 0] rfl ?_
              exact tX12_does_119 hg  C   _ _ _ _ _  h
            · replace h := x_ift hq9 h
              refine x_loc (L' := [(0, .ref (ga g 0)), (1, .int a0), (2, .int a1), (3, .int v1)]) [1, 2, 3, 0] rfl ?_
              exact tX12_does_106 hg  C   _ _ _ _ _  h
    · replace h := x_ift hq3 h
      refine x_loc (L' := [(0, .ref (ga g 0)), (1, .int a0), (2, .int a1), (3, .int v1)]) [1, 2, 3, 0] rfl ?_
      exact tX12_does_16 hg  C   _ _ _ _  h
set_option maxHeartbeats 4000000 in
set_option maxRecDepth 100000 in
theorem tX12_works_121 {g : xG} (hg : x_inj (WM g))  {x : xCx}  {K5 : Int32 → Int32 → Int32 → xMem → Prop} {post : xMem → Prop} (C : xOk (WM g) x cX12_works RX12 5 none (rm_X12_works) (pV post))  (hK5 : ∀ (x2 : Int32) (x3 : Int32) (x4 : Int32) (M : xMem), K5 x2 x3 x4 M → xW (WM g) x 5 5 [(0, .ref (ga g 0)), (2, .int x2), (3, .int x3), (4, .int x4)] [] M) (x2 : Int32) (x3 : Int32) (x4 : Int32) (M : xMem)  (h : wX12_works_121 K5 post x2 x3 x4 M) : xW (WM g) x 5 121 [(0, .ref (ga g 0)), (2, .int x2), (3, .int x3), (4, .int x4)] [] M := by
  unfold wX12_works_121 at h
  obtain ⟨v1, ev1⟩ : ∃ z : Int32, z = x4 + 1 := ⟨_, rfl⟩
  replace h := h v1 ev1
  refine x_iinc C 3 (v1 := v1) (L' := [(4, .int v1), (0, .ref (ga g 0)), (2, .int x2), (3, .int x3)]) rfl (by rw [ev1]; rfl) rfl (Nat.le_of_ble_eq_true rfl) dX12_works_121 ?_
  refine x_goto C (tgt := 5) dX12_works_124 (by decide) ?_
  refine x_loc (L' := [(0, .ref (ga g 0)), (2, .int x2), (3, .int x3), (4, .int v1)]) [1, 2, 3, 0] rfl ?_
  exact hK5 _ _ _ _  h
set_option maxHeartbeats 4000000 in
set_option maxRecDepth 100000 in
theorem tX12_works_117 {g : xG} (hg : x_inj (WM g))  {x : xCx}  {K5 : Int32 → Int32 → Int32 → xMem → Prop} {post : xMem → Prop} (C : xOk (WM g) x cX12_works RX12 5 none (rm_X12_works) (pV post))  (hK5 : ∀ (x2 : Int32) (x3 : Int32) (x4 : Int32) (M : xMem), K5 x2 x3 x4 M → xW (WM g) x 5 5 [(0, .ref (ga g 0)), (2, .int x2), (3, .int x3), (4, .int x4)] [] M) (x2 : Int32) (x3 : Int32) (x4 : Int32) (s0 : Int32) (s1 : Int32) (M : xMem)  (h : wX12_works_117 K5 post x2 x3 x4 s0 s1 M) : xW (WM g) x 5 117 [(0, .ref (ga g 0)), (2, .int x2), (3, .int x3), (4, .int x4)] [.int s0, .int s1, .ref (ga g 23)] M := by
  unfold wX12_works_117 at h
  obtain ⟨hi1, h⟩ := h
  refine x_iast C 0 (c := 23) (enM_20n (c := 23) (n := 240) rfl rfl) (Nat.le_of_ble_eq_true rfl) rfl hi1 dX12_works_117 ?_
  refine x_nmM (fun M2 eM2 => ?_)
  replace h := h M2 eM2
  obtain ⟨v3, ev3⟩ : ∃ z : Int32, z = x3 + 1 := ⟨_, rfl⟩
  replace h := h v3 ev3
  refine x_iinc C 2 (v1 := v3) (L' := [(3, .int v3), (0, .ref (ga g 0)), (2, .int x2), (4, .int x4)]) rfl (by rw [ev3]; rfl) rfl (Nat.le_of_ble_eq_true rfl) dX12_works_118 ?_
  refine x_loc (L' := [(0, .ref (ga g 0)), (2, .int x2), (3, .int v3), (4, .int x4)]) [1, 2, 0, 3] rfl ?_
  exact tX12_works_121 hg  C  hK5 _ _ _ _  h
set_option maxHeartbeats 4000000 in
set_option maxRecDepth 100000 in
theorem tX12_works_5 {g : xG} (hg : x_inj (WM g))  {x : xCx}   {post : xMem → Prop} (C : xOk (WM g) x cX12_works RX12 5 none (rm_X12_works) (pV post))   : ∀ (n : Nat) (x2 : Int32) (x3 : Int32) (x4 : Int32) (M : xMem), wX12_works_5 post n x2 x3 x4 M → xW (WM g) x 5 5 [(0, .ref (ga g 0)), (2, .int x2), (3, .int x3), (4, .int x4)] [] M := by
  intro n
  induction n with
  | zero =>
    intro x2 x3 x4 M  h
    exact h.elim
  | succ n ih =>
    intro x2 x3 x4 M  h
    rw [wX12_works_5] at h
    refine x_iload C 3 rfl dX12_works_5 ?_
    refine x_iload_n C 1 rfl rfl dX12_works_7 ?_
    refine x_icmp_ge C (tgt := 127) dX12_works_8 (by decide) (fun hq1 => ?_) (fun hq1 => ?_)
    · replace h := x_ift hq1 h
      exact x_vret C dX12_works_127 ⟨rfl, h⟩
    · replace h := x_iff hq1 h
      refine x_aload_n C 0 rfl rfl dX12_works_11 ?_
      refine x_get C (c := 0) (ci := 12) (k1 := 24) (v1 := .ref (ga g 13)) (enM_12 (c := 0) rfl) (Nat.le_of_ble_eq_true rfl) rfl inX12 (by decide) wf_X12_52 rfl dX12_works_12 ?_
      refine x_iload C 3 rfl dX12_works_15 ?_
      obtain ⟨hi2, h⟩ := h
      refine x_iald C 0 (c := 13) (enM_20n (c := 13) (n := 480) rfl rfl) (Nat.le_of_ble_eq_true rfl) rfl hi2 dX12_works_17 ?_
      refine x_iconst C (v1 := 2) dX12_works_18 (by decide) ?_
      refine x_icmp_le C (tgt := 42) dX12_works_19 (by decide) (fun hq3 => ?_) (fun hq3 => ?_)
      · replace h := x_ift hq3 h
        refine x_aload_n C 0 rfl rfl dX12_works_42 ?_
        refine x_get C (c := 0) (ci := 12) (k1 := 24) (v1 := .ref (ga g 13)) (enM_12 (c := 0) rfl) (Nat.le_of_ble_eq_true rfl) rfl inX12 (by decide) wf_X12_52 rfl dX12_works_43 ?_
        refine x_iload C 3 rfl dX12_works_46 ?_
        obtain ⟨hi4, h⟩ := h
        refine x_iald C 0 (c := 13) (enM_20n (c := 13) (n := 480) rfl rfl) (Nat.le_of_ble_eq_true rfl) rfl hi4 dX12_works_48 ?_
        refine x_iconst C (v1 := 2) dX12_works_49 (by decide) ?_
        refine x_icmp_ne C (tgt := 74) dX12_works_50 (by decide) (fun hq5 => ?_) (fun hq5 => ?_)
        · replace h := x_iff hq5 h
          refine x_aload_n C 0 rfl rfl dX12_works_74 ?_
          refine x_get C (c := 0) (ci := 12) (k1 := 50) (v1 := .ref (ga g 24)) (enM_12 (c := 0) rfl) (Nat.le_of_ble_eq_true rfl) rfl inX12 (by decide) wf_X12_85 rfl dX12_works_75 ?_
          refine x_iload_n C 2 rfl rfl dX12_works_78 ?_
          refine x_iconst C (v1 := 0) dX12_works_79 (by decide) ?_
          obtain ⟨hi6, h⟩ := h
          refine x_zast C 2 (c := 24) (enM_24n (c := 24) (n := 240) rfl rfl) (Nat.le_of_ble_eq_true rfl) rfl hi6 dX12_works_80 ?_
          refine x_nmM (fun M7 eM7 => ?_)
          replace h := h M7 eM7
          refine x_aload_n C 0 rfl rfl dX12_works_81 ?_
          refine x_get C (c := 0) (ci := 12) (k1 := 49) (v1 := .ref (ga g 23)) (enM_12 (c := 0) rfl) (Nat.le_of_ble_eq_true rfl) rfl inX12 (by decide) wf_X12_82 rfl dX12_works_82 ?_
          refine x_iload_n C 2 rfl rfl dX12_works_85 ?_
          refine x_aload_n C 0 rfl rfl dX12_works_86 ?_
          refine x_get C (c := 0) (ci := 12) (k1 := 24) (v1 := .ref (ga g 13)) (enM_12 (c := 0) rfl) (Nat.le_of_ble_eq_true rfl) rfl inX12 (by decide) wf_X12_52 rfl dX12_works_87 ?_
          refine x_iload C 3 rfl dX12_works_90 ?_
          obtain ⟨hi8, h⟩ := h
          refine x_iald C 0 (c := 13) (enM_20n (c := 13) (n := 480) rfl rfl) (Nat.le_of_ble_eq_true rfl) rfl hi8 dX12_works_92 ?_
          refine x_if_ne C (tgt := 106) dX12_works_93 (by decide) (fun hq9 => ?_) (fun hq9 => ?_)
          · replace h := x_iff hq9 h
            refine x_aload_n C 0 rfl rfl dX12_works_106 ?_
            refine x_aload_n C 0 rfl rfl dX12_works_107 ?_
            refine x_get C (c := 0) (ci := 12) (k1 := 25) (v1 := .ref (ga g 14)) (enM_12 (c := 0) rfl) (Nat.le_of_ble_eq_true rfl) rfl inX12 (by decide) wf_X12_55 rfl dX12_works_108 ?_
            refine x_iload C 3 rfl dX12_works_111 ?_
            obtain ⟨hi10, h⟩ := h
            refine x_iald C 0 (c := 14) (enM_20n (c := 14) (n := 480) rfl rfl) (Nat.le_of_ble_eq_true rfl) rfl hi10 dX12_works_113 ?_
            refine x_callV C (st := [.int x3, .ref (ga g 23)]) (As := [.int (gi M7 14 x4.toNatClampNeg)]) (c := 0) (ci := 12) (enM_12 (c := 0) rfl) (Nat.le_of_ble_eq_true rfl) rfl (tX12_valueOf hg _ _ _ _  h) wm_X12_433 wi_X12_valueOf wv_X12_valueOf wz_X12 wc_X12_valueOf rfl yd_X12_valueOf rfl ⟨rfl, rfl⟩ ⟨Nat.le_of_ble_eq_true rfl, Nat.le_of_ble_eq_true rfl⟩ (Nat.le_of_ble_eq_true rfl) rfl dX12_works_114 (x_ki (fun r12 M11 h => ?_))
            exact tX12_works_117 hg  C  ih _ _ _ _ _ _  h
          · replace h := x_ift hq9 h
            refine x_aload_n C 0 rfl rfl dX12_works_96 ?_
            refine x_get C (c := 0) (ci := 12) (k1 := 25) (v1 := .ref (ga g 14)) (enM_12 (c := 0) rfl) (Nat.le_of_ble_eq_true rfl) rfl inX12 (by decide) wf_X12_55 rfl dX12_works_97 ?_
            refine x_iload C 3 rfl dX12_works_100 ?_
            obtain ⟨hi13, h⟩ := h
            refine x_iald C 0 (c := 14) (enM_20n (c := 14) (n := 480) rfl rfl) (Nat.le_of_ble_eq_true rfl) rfl hi13 dX12_works_102 ?_
            refine x_goto C (tgt := 117) dX12_works_103 (by decide) ?_
            exact tX12_works_117 hg  C  ih _ _ _ _ _ _  h
        · replace h := x_ift hq5 h
          refine x_aload_n C 0 rfl rfl dX12_works_53 ?_
          refine x_get C (c := 0) (ci := 12) (k1 := 49) (v1 := .ref (ga g 23)) (enM_12 (c := 0) rfl) (Nat.le_of_ble_eq_true rfl) rfl inX12 (by decide) wf_X12_82 rfl dX12_works_54 ?_
          refine x_iload_n C 2 rfl rfl dX12_works_57 ?_
          refine x_iconst C (v1 := 1) dX12_works_58 (by decide) ?_
          refine x_isub C dX12_works_59 ?_
          refine x_iconst C (v1 := 1) dX12_works_60 (by decide) ?_
          refine x_aload_n C 0 rfl rfl dX12_works_61 ?_
          refine x_get C (c := 0) (ci := 12) (k1 := 49) (v1 := .ref (ga g 23)) (enM_12 (c := 0) rfl) (Nat.le_of_ble_eq_true rfl) rfl inX12 (by decide) wf_X12_82 rfl dX12_works_62 ?_
          refine x_iload_n C 2 rfl rfl dX12_works_65 ?_
          refine x_iconst C (v1 := 1) dX12_works_66 (by decide) ?_
          refine x_isub C dX12_works_67 ?_
          obtain ⟨hi14, h⟩ := h
          refine x_iald C 0 (c := 23) (enM_20n (c := 23) (n := 240) rfl rfl) (Nat.le_of_ble_eq_true rfl) rfl hi14 dX12_works_68 ?_
          refine x_isub C dX12_works_69 ?_
          obtain ⟨hi15, h⟩ := h
          refine x_iast C 0 (c := 23) (enM_20n (c := 23) (n := 240) rfl rfl) (Nat.le_of_ble_eq_true rfl) rfl hi15 dX12_works_70 ?_
          refine x_nmM (fun M16 eM16 => ?_)
          replace h := h M16 eM16
          refine x_goto C (tgt := 121) dX12_works_71 (by decide) ?_
          exact tX12_works_121 hg  C  ih _ _ _ _  h
      · replace h := x_iff hq3 h
        obtain ⟨v17, ev17⟩ : ∃ z : Int32, z = x3 + (-1) := ⟨_, rfl⟩
        replace h := h v17 ev17
        refine x_iinc C 2 (v1 := v17) (L' := [(3, .int v17), (0, .ref (ga g 0)), (2, .int x2), (4, .int x4)]) rfl (by rw [ev17]; rfl) rfl (Nat.le_of_ble_eq_true rfl) dX12_works_22 ?_
        refine x_aload_n C 1 rfl rfl dX12_works_25 ?_
        refine x_aload_n C 1 rfl rfl dX12_works_26 ?_
        refine x_get C (c := 0) (ci := 12) (k1 := 24) (v1 := .ref (ga g 13)) (enM_12 (c := 0) rfl) (Nat.le_of_ble_eq_true rfl) rfl inX12 (by decide) wf_X12_52 rfl dX12_works_27 ?_
        refine x_iload C 3 rfl dX12_works_30 ?_
        obtain ⟨hi18, h⟩ := h
        refine x_iald C 0 (c := 13) (enM_20n (c := 13) (n := 480) rfl rfl) (Nat.le_of_ble_eq_true rfl) rfl hi18 dX12_works_32 ?_
        refine x_iload_n C 0 rfl rfl dX12_works_33 ?_
        refine x_iconst C (v1 := 1) dX12_works_34 (by decide) ?_
        refine x_isub C dX12_works_35 ?_
        refine x_callV C (st := []) (As := [.int (gi M 13 x4.toNatClampNeg), .int (v17 - 1)]) (c := 0) (ci := 12) (enM_12 (c := 0) rfl) (Nat.le_of_ble_eq_true rfl) rfl (tX12_does hg _ _ _ _ _  h) wm_X12_430 wi_X12_does wv_X12_does wz_X12 wc_X12_does rfl yd_X12_does rfl ⟨rfl, rfl⟩ ⟨Nat.le_of_ble_eq_true rfl, Nat.le_of_ble_eq_true rfl⟩ (Nat.le_of_ble_eq_true rfl) rfl dX12_works_36 (x_kv (fun M19 h => ?_))
        refine x_goto C (tgt := 121) dX12_works_39 (by decide) ?_
        refine x_loc (L' := [(0, .ref (ga g 0)), (2, .int x2), (3, .int v17), (4, .int x4)]) [1, 2, 0, 3] rfl ?_
        exact tX12_works_121 hg  C  ih _ _ _ _  h
set_option maxHeartbeats 4000000 in
set_option maxRecDepth 100000 in
theorem tX12_works {g : xG} (hg : x_inj (WM g))  (l : Launch) (a0 : Int32) (a1 : Int32) (M : xMem) (post : xMem → Prop)  (h : wX12_works a0 a1 M post) : xMet (WM g) l yX12_works cX12_works 5 none (rm_X12_works) [.ref (ga g 0), .int a0, .int a1] M (pV post) := by
  refine x_enter (own := RX12) (L0 := [(0, .ref (ga g 0)), (1, .int a0), (2, .int a1)]) (by decide +kernel) rfl hg (x_stM g) (Nat.le_of_ble_eq_true rfl) rfl (fun x hl C => ?_)
  unfold wX12_works at h
  refine x_iconst C (v1 := 0) dX12_works_0 (by decide) ?_
  refine x_istore_n C (L' := [(3, .int 0), (0, .ref (ga g 0)), (1, .int a0), (2, .int a1)]) rfl rfl (Nat.le_of_ble_eq_true rfl) dX12_works_1 ?_
  refine x_iload_n C 2 rfl rfl dX12_works_2 ?_
  refine x_istore C (L' := [(4, .int a0), (3, .int 0), (0, .ref (ga g 0)), (1, .int a0), (2, .int a1)]) rfl (Nat.le_of_ble_eq_true rfl) dX12_works_3 ?_
  refine x_loc (L' := [(0, .ref (ga g 0)), (2, .int a1), (3, .int 0), (4, .int a0)]) [2, 4, 1, 0] rfl ?_
  obtain ⟨n5, h⟩ := h
  exact tX12_works_5 hg  C   _ _ _ _ _  h
set_option maxHeartbeats 4000000 in
set_option maxRecDepth 100000 in
theorem tX12_isSo {g : xG} (hg : x_inj (WM g))  (l : Launch) (a0 : Int32) (M : xMem) (post : Int32 → xMem → Prop)  (h : wX12_isSo a0 M post) : xMet (WM g) l yX12_isSo cX12_isSo 2 (some .boolean) (rm_X12_isSo) [.ref (ga g 0), .int a0] M (pI post) := by
  refine x_enter (own := RX12) (L0 := [(0, .ref (ga g 0)), (1, .int a0)]) (by decide +kernel) rfl hg (x_stM g) (Nat.le_of_ble_eq_true rfl) rfl (fun x hl C => ?_)
  unfold wX12_isSo at h
  refine x_aload_n C 0 rfl rfl dX12_isSo_0 ?_
  refine x_aload_n C 0 rfl rfl dX12_isSo_1 ?_
  refine x_get C (c := 0) (ci := 12) (k1 := 22) (v1 := .ref (ga g 11)) (enM_12 (c := 0) rfl) (Nat.le_of_ble_eq_true rfl) rfl inX12 (by decide) wf_X12_46 rfl dX12_isSo_2 ?_
  refine x_iload_n C 1 rfl rfl dX12_isSo_5 ?_
  obtain ⟨hi1, h⟩ := h
  refine x_iald C 0 (c := 11) (enM_20n (c := 11) (n := 32) rfl rfl) (Nat.le_of_ble_eq_true rfl) rfl hi1 dX12_isSo_6 ?_
  refine x_aload_n C 0 rfl rfl dX12_isSo_7 ?_
  refine x_get C (c := 0) (ci := 12) (k1 := 23) (v1 := .ref (ga g 12)) (enM_12 (c := 0) rfl) (Nat.le_of_ble_eq_true rfl) rfl inX12 (by decide) wf_X12_49 rfl dX12_isSo_8 ?_
  refine x_iload_n C 1 rfl rfl dX12_isSo_11 ?_
  obtain ⟨hi2, h⟩ := h
  refine x_iald C 0 (c := 12) (enM_20n (c := 12) (n := 32) rfl rfl) (Nat.le_of_ble_eq_true rfl) rfl hi2 dX12_isSo_12 ?_
  refine x_callV C (st := []) (As := [.int (gi M 11 a0.toNatClampNeg), .int (gi M 12 a0.toNatClampNeg)]) (c := 0) (ci := 12) (enM_12 (c := 0) rfl) (Nat.le_of_ble_eq_true rfl) rfl (tX12_works hg _ _ _ _ _  h) wm_X12_436 wi_X12_works wv_X12_works wz_X12 wc_X12_works rfl yd_X12_works rfl ⟨rfl, rfl⟩ ⟨Nat.le_of_ble_eq_true rfl, Nat.le_of_ble_eq_true rfl⟩ (Nat.le_of_ble_eq_true rfl) rfl dX12_isSo_13 (x_kv (fun M3 h => ?_))
  refine x_aload_n C 0 rfl rfl dX12_isSo_16 ?_
  refine x_get C (c := 0) (ci := 12) (k1 := 50) (v1 := .ref (ga g 24)) (enM_12 (c := 0) rfl) (Nat.le_of_ble_eq_true rfl) rfl inX12 (by decide) wf_X12_85 rfl dX12_isSo_17 ?_
  refine x_iconst C (v1 := 0) dX12_isSo_20 (by decide) ?_
  obtain ⟨hi4, h⟩ := h
  refine x_zald C 2 (c := 24) (enM_24n (c := 24) (n := 240) rfl rfl) (Nat.le_of_ble_eq_true rfl) rfl hi4 dX12_isSo_21 ?_
  refine x_if_ne C (tgt := 39) dX12_isSo_22 (by decide) (fun hq5 => ?_) (fun hq5 => ?_)
  · replace h := x_iff hq5 h
    refine x_iconst C (v1 := 0) dX12_isSo_39 (by decide) ?_
    exact x_zret C rfl dX12_isSo_40 ⟨_, rfl, h⟩
  · replace h := x_ift hq5 h
    refine x_aload_n C 0 rfl rfl dX12_isSo_25 ?_
    refine x_get C (c := 0) (ci := 12) (k1 := 49) (v1 := .ref (ga g 23)) (enM_12 (c := 0) rfl) (Nat.le_of_ble_eq_true rfl) rfl inX12 (by decide) wf_X12_82 rfl dX12_isSo_26 ?_
    refine x_iconst C (v1 := 0) dX12_isSo_29 (by decide) ?_
    obtain ⟨hi6, h⟩ := h
    refine x_iald C 0 (c := 23) (enM_20n (c := 23) (n := 240) rfl rfl) (Nat.le_of_ble_eq_true rfl) rfl hi6 dX12_isSo_30 ?_
    refine x_iconst C (v1 := 1) dX12_isSo_31 (by decide) ?_
    refine x_icmp_ne C (tgt := 39) dX12_isSo_32 (by decide) (fun hq7 => ?_) (fun hq7 => ?_)
    · replace h := x_iff hq7 h
      refine x_iconst C (v1 := 0) dX12_isSo_39 (by decide) ?_
      exact x_zret C rfl dX12_isSo_40 ⟨_, rfl, h⟩
    · replace h := x_ift hq7 h
      refine x_iconst C (v1 := 1) dX12_isSo_35 (by decide) ?_
      refine x_goto C (tgt := 40) dX12_isSo_36 (by decide) ?_
      exact x_zret C rfl dX12_isSo_40 ⟨_, rfl, h⟩
set_option maxHeartbeats 4000000 in
set_option maxRecDepth 100000 in
theorem tX12_tells_92 {g : xG} (hg : x_inj (WM g))  {x : xCx}  {K11 : Int32 → Int32 → Int32 → Int32 → xMem → Prop} {post : Int32 → xMem → Prop} (C : xOk (WM g) x cX12_tells RX12 5 (some .int) (rm_X12_tells) (pI post))  (hK11 : ∀ (x1 : Int32) (x2 : Int32) (x3 : Int32) (x4 : Int32) (M : xMem), K11 x1 x2 x3 x4 M → xW (WM g) x 5 11 [(0, .ref (ga g 0)), (1, .int x1), (2, .int x2), (3, .int x3), (4, .int x4)] [] M) (x1 : Int32) (x2 : Int32) (x3 : Int32) (x4 : Int32) (M : xMem)  (h : wX12_tells_92 K11 post x1 x2 x3 x4 M) : xW (WM g) x 5 92 [(0, .ref (ga g 0)), (1, .int x1), (2, .int x2), (3, .int x3), (4, .int x4)] [] M := by
  unfold wX12_tells_92 at h
  obtain ⟨v1, ev1⟩ : ∃ z : Int32, z = x4 + 1 := ⟨_, rfl⟩
  replace h := h v1 ev1
  refine x_iinc C 4 (v1 := v1) (L' := [(4, .int v1), (0, .ref (ga g 0)), (1, .int x1), (2, .int x2), (3, .int x3)]) rfl (by rw [ev1]; rfl) rfl (Nat.le_of_ble_eq_true rfl) dX12_tells_92 ?_
  refine x_goto C (tgt := 11) dX12_tells_95 (by decide) ?_
  refine x_loc (L' := [(0, .ref (ga g 0)), (1, .int x1), (2, .int x2), (3, .int x3), (4, .int v1)]) [1, 2, 3, 4, 0] rfl ?_
  exact hK11 _ _ _ _ _  h
set_option maxHeartbeats 4000000 in
set_option maxRecDepth 100000 in
theorem tX12_tells_11 {g : xG} (hg : x_inj (WM g))  {x : xCx}   {post : Int32 → xMem → Prop} (C : xOk (WM g) x cX12_tells RX12 5 (some .int) (rm_X12_tells) (pI post))   : ∀ (n : Nat) (x1 : Int32) (x2 : Int32) (x3 : Int32) (x4 : Int32) (M : xMem), wX12_tells_11 post n x1 x2 x3 x4 M → xW (WM g) x 5 11 [(0, .ref (ga g 0)), (1, .int x1), (2, .int x2), (3, .int x3), (4, .int x4)] [] M := by
  intro n
  induction n with
  | zero =>
    intro x1 x2 x3 x4 M  h
    exact h.elim
  | succ n ih =>
    intro x1 x2 x3 x4 M  h
    rw [wX12_tells_11] at h
    refine x_iload C 4 rfl dX12_tells_11 ?_
    refine x_iload_n C 3 rfl rfl dX12_tells_13 ?_
    refine x_aload_n C 0 rfl rfl dX12_tells_14 ?_
    refine x_get C (c := 0) (ci := 12) (k1 := 26) (v1 := .ref (ga g 15)) (enM_12 (c := 0) rfl) (Nat.le_of_ble_eq_true rfl) rfl inX12 (by decide) wf_X12_58 rfl dX12_tells_15 ?_
    refine x_aload_n C 0 rfl rfl dX12_tells_18 ?_
    refine x_get C (c := 0) (ci := 12) (k1 := 27) (v1 := .int (gi M 0 27)) (enM_12 (c := 0) rfl) (Nat.le_of_ble_eq_true rfl) rfl inX12 (by decide) wf_X12_439 rfl dX12_tells_19 ?_
    obtain ⟨hi1, h⟩ := h
    refine x_iald C 0 (c := 15) (enM_20n (c := 15) (n := 2) rfl rfl) (Nat.le_of_ble_eq_true rfl) rfl hi1 dX12_tells_22 ?_
    refine x_iadd C dX12_tells_23 ?_
    refine x_icmp_ge C (tgt := 98) dX12_tells_24 (by decide) (fun hq2 => ?_) (fun hq2 => ?_)
    · replace h := x_ift hq2 h
      refine x_iconst C (v1 := 0) dX12_tells_98 (by decide) ?_
      exact x_iret C dX12_tells_99 ⟨_, rfl, h⟩
    · replace h := x_iff hq2 h
      refine x_aload_n C 0 rfl rfl dX12_tells_27 ?_
      refine x_get C (c := 0) (ci := 12) (k1 := 20) (v1 := .ref (ga g 9)) (enM_12 (c := 0) rfl) (Nat.le_of_ble_eq_true rfl) rfl inX12 (by decide) wf_X12_40 rfl dX12_tells_28 ?_
      refine x_iload C 4 rfl dX12_tells_31 ?_
      obtain ⟨hi3, h⟩ := h
      refine x_iald C 0 (c := 9) (enM_20n (c := 9) (n := 32) rfl rfl) (Nat.le_of_ble_eq_true rfl) rfl hi3 dX12_tells_33 ?_
      refine x_iload_n C 1 rfl rfl dX12_tells_34 ?_
      refine x_icmp_ne C (tgt := 92) dX12_tells_35 (by decide) (fun hq4 => ?_) (fun hq4 => ?_)
      · replace h := x_iff hq4 h
        exact tX12_tells_92 hg  C  ih _ _ _ _ _  h
      · replace h := x_ift hq4 h
        refine x_aload_n C 0 rfl rfl dX12_tells_38 ?_
        refine x_iload C 4 rfl dX12_tells_39 ?_
        refine x_callV C (st := []) (As := [.int x4]) (c := 0) (ci := 12) (enM_12 (c := 0) rfl) (Nat.le_of_ble_eq_true rfl) rfl (tX12_isSo hg _ _ _ _  h) wm_X12_442 wi_X12_isSo wv_X12_isSo wz_X12 wc_X12_isSo rfl yd_X12_isSo rfl ⟨rfl, rfl⟩ ⟨Nat.le_of_ble_eq_true rfl, Nat.le_of_ble_eq_true rfl⟩ (Nat.le_of_ble_eq_true rfl) rfl dX12_tells_41 (x_ki (fun r6 M5 h => ?_))
        refine x_if_ne C (tgt := 50) dX12_tells_44 (by decide) (fun hq7 => ?_) (fun hq7 => ?_)
        · replace h := x_iff hq7 h
          refine x_aload_n C 0 rfl rfl dX12_tells_50 ?_
          refine x_aload_n C 0 rfl rfl dX12_tells_51 ?_
          refine x_get C (c := 0) (ci := 12) (k1 := 21) (v1 := .ref (ga g 10)) (enM_12 (c := 0) rfl) (Nat.le_of_ble_eq_true rfl) rfl inX12 (by decide) wf_X12_43 rfl dX12_tells_52 ?_
          refine x_iload C 4 rfl dX12_tells_55 ?_
          obtain ⟨hi8, h⟩ := h
          refine x_iald C 0 (c := 10) (enM_20n (c := 10) (n := 32) rfl rfl) (Nat.le_of_ble_eq_true rfl) rfl hi8 dX12_tells_57 ?_
          refine x_aload_n C 0 rfl rfl dX12_tells_58 ?_
          refine x_get C (c := 0) (ci := 12) (k1 := 22) (v1 := .ref (ga g 11)) (enM_12 (c := 0) rfl) (Nat.le_of_ble_eq_true rfl) rfl inX12 (by decide) wf_X12_46 rfl dX12_tells_59 ?_
          refine x_iload C 4 rfl dX12_tells_62 ?_
          obtain ⟨hi9, h⟩ := h
          refine x_iald C 0 (c := 11) (enM_20n (c := 11) (n := 32) rfl rfl) (Nat.le_of_ble_eq_true rfl) rfl hi9 dX12_tells_64 ?_
          refine x_callV C (st := []) (As := [.int (gi M5 10 x4.toNatClampNeg), .int (gi M5 11 x4.toNatClampNeg)]) (c := 0) (ci := 12) (enM_12 (c := 0) rfl) (Nat.le_of_ble_eq_true rfl) rfl (tX12_works hg _ _ _ _ _  h) wm_X12_436 wi_X12_works wv_X12_works wz_X12 wc_X12_works rfl yd_X12_works rfl ⟨rfl, rfl⟩ ⟨Nat.le_of_ble_eq_true rfl, Nat.le_of_ble_eq_true rfl⟩ (Nat.le_of_ble_eq_true rfl) rfl dX12_tells_65 (x_kv (fun M10 h => ?_))
          refine x_aload_n C 0 rfl rfl dX12_tells_68 ?_
          refine x_get C (c := 0) (ci := 12) (k1 := 50) (v1 := .ref (ga g 24)) (enM_12 (c := 0) rfl) (Nat.le_of_ble_eq_true rfl) rfl inX12 (by decide) wf_X12_85 rfl dX12_tells_69 ?_
          refine x_iconst C (v1 := 0) dX12_tells_72 (by decide) ?_
          obtain ⟨hi11, h⟩ := h
          refine x_zald C 2 (c := 24) (enM_24n (c := 24) (n := 240) rfl rfl) (Nat.le_of_ble_eq_true rfl) rfl hi11 dX12_tells_73 ?_
          refine x_if_eq C (tgt := 81) dX12_tells_74 (by decide) (fun hq12 => ?_) (fun hq12 => ?_)
          · replace h := x_ift hq12 h
            refine x_aload_n C 0 rfl rfl dX12_tells_81 ?_
            refine x_get C (c := 0) (ci := 12) (k1 := 49) (v1 := .ref (ga g 23)) (enM_12 (c := 0) rfl) (Nat.le_of_ble_eq_true rfl) rfl inX12 (by decide) wf_X12_82 rfl dX12_tells_82 ?_
            refine x_iconst C (v1 := 0) dX12_tells_85 (by decide) ?_
            obtain ⟨hi13, h⟩ := h
            refine x_iald C 0 (c := 23) (enM_20n (c := 23) (n := 240) rfl rfl) (Nat.le_of_ble_eq_true rfl) rfl hi13 dX12_tells_86 ?_
            refine x_iload_n C 2 rfl rfl dX12_tells_87 ?_
            refine x_callS C (st := []) (As := [.int (gi M10 23 0), .int x2]) (tX12_held hg _ _ _ _ _  h) wm_X12_445 wsm_X12_held wz_X12 wc_X12_held yd_X12_held rfl ⟨rfl, rfl⟩ ⟨Nat.le_of_ble_eq_true rfl, Nat.le_of_ble_eq_true rfl⟩ (Nat.le_of_ble_eq_true rfl) rfl dX12_tells_88 (x_ki (fun r15 M14 h => ?_))
            exact x_iret C dX12_tells_91 ⟨_, rfl, h⟩
          · replace h := x_iff hq12 h
            refine x_iconst C (v1 := 0) dX12_tells_77 (by decide) ?_
            refine x_goto C (tgt := 91) dX12_tells_78 (by decide) ?_
            exact x_iret C dX12_tells_91 ⟨_, rfl, h⟩
        · replace h := x_ift hq7 h
          refine x_goto C (tgt := 92) dX12_tells_47 (by decide) ?_
          exact tX12_tells_92 hg  C  ih _ _ _ _ _  h
set_option maxHeartbeats 4000000 in
set_option maxRecDepth 100000 in
theorem tX12_tells {g : xG} (hg : x_inj (WM g))  (l : Launch) (a0 : Int32) (a1 : Int32) (M : xMem) (post : Int32 → xMem → Prop)  (h : wX12_tells a0 a1 M post) : xMet (WM g) l yX12_tells cX12_tells 5 (some .int) (rm_X12_tells) [.ref (ga g 0), .int a0, .int a1] M (pI post) := by
  refine x_enter (own := RX12) (L0 := [(0, .ref (ga g 0)), (1, .int a0), (2, .int a1)]) (by decide +kernel) rfl hg (x_stM g) (Nat.le_of_ble_eq_true rfl) rfl (fun x hl C => ?_)
  unfold wX12_tells at h
  refine x_bipush C (v1 := 16) dX12_tells_0 (by decide) ?_
  refine x_aload_n C 0 rfl rfl dX12_tells_2 ?_
  refine x_get C (c := 0) (ci := 12) (k1 := 27) (v1 := .int (gi M 0 27)) (enM_12 (c := 0) rfl) (Nat.le_of_ble_eq_true rfl) rfl inX12 (by decide) wf_X12_439 rfl dX12_tells_3 ?_
  refine x_imul C dX12_tells_6 ?_
  refine x_nm (fun v1 ev1 => ?_)
  replace h := h v1 ev1
  refine x_istore_n C (L' := [(3, .int v1), (0, .ref (ga g 0)), (1, .int a0), (2, .int a1)]) rfl rfl (Nat.le_of_ble_eq_true rfl) dX12_tells_7 ?_
  refine x_iload_n C 0 rfl rfl dX12_tells_8 ?_
  refine x_istore C (L' := [(4, .int v1), (3, .int v1), (0, .ref (ga g 0)), (1, .int a0), (2, .int a1)]) rfl (Nat.le_of_ble_eq_true rfl) dX12_tells_9 ?_
  refine x_loc (L' := [(0, .ref (ga g 0)), (1, .int a0), (2, .int a1), (3, .int v1), (4, .int v1)]) [2, 3, 4, 1, 0] rfl ?_
  obtain ⟨n11, h⟩ := h
  exact tX12_tells_11 hg  C   _ _ _ _ _ _  h
set_option maxHeartbeats 4000000 in
set_option maxRecDepth 100000 in
theorem tX12_goesAway_46 {g : xG} (hg : x_inj (WM g))  {x : xCx}  {K10 : Int32 → Int32 → xMem → Prop} {post : Int32 → xMem → Prop} (C : xOk (WM g) x cX12_goesAway RX12 3 (some .boolean) (rm_X12_goesAway) (pI post))  (hK10 : ∀ (x1 : Int32) (x2 : Int32) (M : xMem), K10 x1 x2 M → xW (WM g) x 3 10 [(0, .ref (ga g 0)), (1, .int x1), (2, .int x2)] [] M) (x1 : Int32) (x2 : Int32) (M : xMem)  (h : wX12_goesAway_46 K10 post x1 x2 M) : xW (WM g) x 3 46 [(0, .ref (ga g 0)), (1, .int x1), (2, .int x2)] [] M := by
  unfold wX12_goesAway_46 at h
  obtain ⟨v1, ev1⟩ : ∃ z : Int32, z = x2 + 1 := ⟨_, rfl⟩
  replace h := h v1 ev1
  refine x_iinc C 2 (v1 := v1) (L' := [(2, .int v1), (0, .ref (ga g 0)), (1, .int x1)]) rfl (by rw [ev1]; rfl) rfl (Nat.le_of_ble_eq_true rfl) dX12_goesAway_46 ?_
  refine x_goto C (tgt := 10) dX12_goesAway_49 (by decide) ?_
  refine x_loc (L' := [(0, .ref (ga g 0)), (1, .int x1), (2, .int v1)]) [1, 2, 0] rfl ?_
  exact hK10 _ _ _  h
set_option maxHeartbeats 4000000 in
set_option maxRecDepth 100000 in
theorem tX12_goesAway_10 {g : xG} (hg : x_inj (WM g))  {x : xCx}   {post : Int32 → xMem → Prop} (C : xOk (WM g) x cX12_goesAway RX12 3 (some .boolean) (rm_X12_goesAway) (pI post))   : ∀ (n : Nat) (x1 : Int32) (x2 : Int32) (M : xMem), wX12_goesAway_10 post n x1 x2 M → xW (WM g) x 3 10 [(0, .ref (ga g 0)), (1, .int x1), (2, .int x2)] [] M := by
  intro n
  induction n with
  | zero =>
    intro x1 x2 M  h
    exact h.elim
  | succ n ih =>
    intro x1 x2 M  h
    rw [wX12_goesAway_10] at h
    refine x_iload_n C 2 rfl rfl dX12_goesAway_10 ?_
    refine x_iload_n C 1 rfl rfl dX12_goesAway_11 ?_
    refine x_aload_n C 0 rfl rfl dX12_goesAway_12 ?_
    refine x_get C (c := 0) (ci := 12) (k1 := 26) (v1 := .ref (ga g 15)) (enM_12 (c := 0) rfl) (Nat.le_of_ble_eq_true rfl) rfl inX12 (by decide) wf_X12_58 rfl dX12_goesAway_13 ?_
    refine x_aload_n C 0 rfl rfl dX12_goesAway_16 ?_
    refine x_get C (c := 0) (ci := 12) (k1 := 27) (v1 := .int (gi M 0 27)) (enM_12 (c := 0) rfl) (Nat.le_of_ble_eq_true rfl) rfl inX12 (by decide) wf_X12_439 rfl dX12_goesAway_17 ?_
    obtain ⟨hi1, h⟩ := h
    refine x_iald C 0 (c := 15) (enM_20n (c := 15) (n := 2) rfl rfl) (Nat.le_of_ble_eq_true rfl) rfl hi1 dX12_goesAway_20 ?_
    refine x_iadd C dX12_goesAway_21 ?_
    refine x_icmp_ge C (tgt := 52) dX12_goesAway_22 (by decide) (fun hq2 => ?_) (fun hq2 => ?_)
    · replace h := x_ift hq2 h
      refine x_iconst C (v1 := 0) dX12_goesAway_52 (by decide) ?_
      exact x_zret C rfl dX12_goesAway_53 ⟨_, rfl, h⟩
    · replace h := x_iff hq2 h
      refine x_aload_n C 0 rfl rfl dX12_goesAway_25 ?_
      refine x_get C (c := 0) (ci := 12) (k1 := 20) (v1 := .ref (ga g 9)) (enM_12 (c := 0) rfl) (Nat.le_of_ble_eq_true rfl) rfl inX12 (by decide) wf_X12_40 rfl dX12_goesAway_26 ?_
      refine x_iload_n C 2 rfl rfl dX12_goesAway_29 ?_
      obtain ⟨hi3, h⟩ := h
      refine x_iald C 0 (c := 9) (enM_20n (c := 9) (n := 32) rfl rfl) (Nat.le_of_ble_eq_true rfl) rfl hi3 dX12_goesAway_30 ?_
      refine x_bipush C (v1 := 120) dX12_goesAway_31 (by decide) ?_
      refine x_icmp_ne C (tgt := 46) dX12_goesAway_33 (by decide) (fun hq4 => ?_) (fun hq4 => ?_)
      · replace h := x_iff hq4 h
        exact tX12_goesAway_46 hg  C  ih _ _ _  h
      · replace h := x_ift hq4 h
        refine x_aload_n C 0 rfl rfl dX12_goesAway_36 ?_
        refine x_iload_n C 2 rfl rfl dX12_goesAway_37 ?_
        refine x_callV C (st := []) (As := [.int x2]) (c := 0) (ci := 12) (enM_12 (c := 0) rfl) (Nat.le_of_ble_eq_true rfl) rfl (tX12_isSo hg _ _ _ _  h) wm_X12_442 wi_X12_isSo wv_X12_isSo wz_X12 wc_X12_isSo rfl yd_X12_isSo rfl ⟨rfl, rfl⟩ ⟨Nat.le_of_ble_eq_true rfl, Nat.le_of_ble_eq_true rfl⟩ (Nat.le_of_ble_eq_true rfl) rfl dX12_goesAway_38 (x_ki (fun r6 M5 h => ?_))
        refine x_if_eq C (tgt := 46) dX12_goesAway_41 (by decide) (fun hq7 => ?_) (fun hq7 => ?_)
        · replace h := x_ift hq7 h
          exact tX12_goesAway_46 hg  C  ih _ _ _  h
        · replace h := x_iff hq7 h
          refine x_iconst C (v1 := 1) dX12_goesAway_44 (by decide) ?_
          exact x_zret C rfl dX12_goesAway_45 ⟨_, rfl, h⟩
set_option maxHeartbeats 4000000 in
set_option maxRecDepth 100000 in
theorem tX12_goesAway {g : xG} (hg : x_inj (WM g))  (l : Launch)  (M : xMem) (post : Int32 → xMem → Prop)  (h : wX12_goesAway  M post) : xMet (WM g) l yX12_goesAway cX12_goesAway 3 (some .boolean) (rm_X12_goesAway) [.ref (ga g 0)] M (pI post) := by
  refine x_enter (own := RX12) (L0 := [(0, .ref (ga g 0))]) (by decide +kernel) rfl hg (x_stM g) (Nat.le_of_ble_eq_true rfl) rfl (fun x hl C => ?_)
  unfold wX12_goesAway at h
  refine x_bipush C (v1 := 16) dX12_goesAway_0 (by decide) ?_
  refine x_aload_n C 0 rfl rfl dX12_goesAway_2 ?_
  refine x_get C (c := 0) (ci := 12) (k1 := 27) (v1 := .int (gi M 0 27)) (enM_12 (c := 0) rfl) (Nat.le_of_ble_eq_true rfl) rfl inX12 (by decide) wf_X12_439 rfl dX12_goesAway_3 ?_
  refine x_imul C dX12_goesAway_6 ?_
  refine x_nm (fun v1 ev1 => ?_)
  replace h := h v1 ev1
  refine x_istore_n C (L' := [(1, .int v1), (0, .ref (ga g 0))]) rfl rfl (Nat.le_of_ble_eq_true rfl) dX12_goesAway_7 ?_
  refine x_iload_n C 0 rfl rfl dX12_goesAway_8 ?_
  refine x_istore_n C (L' := [(2, .int v1), (1, .int v1), (0, .ref (ga g 0))]) rfl rfl (Nat.le_of_ble_eq_true rfl) dX12_goesAway_9 ?_
  refine x_loc (L' := [(0, .ref (ga g 0)), (1, .int v1), (2, .int v1)]) [2, 1, 0] rfl ?_
  obtain ⟨n10, h⟩ := h
  exact tX12_goesAway_10 hg  C   _ _ _ _  h
set_option maxHeartbeats 4000000 in
set_option maxRecDepth 100000 in
theorem tX12_tellerStands {g : xG} (hg : x_inj (WM g))  (l : Launch) (a0 : Int32) (M : xMem) (post : xMem → Prop)  (h : wX12_tellerStands a0 M post) : xMet (WM g) l yX12_tellerStands cX12_tellerStands 2 none (rm_X12_tellerStands) [.ref (ga g 0), .int a0] M (pV post) := by
  refine x_enter (own := RX12) (L0 := [(0, .ref (ga g 0)), (1, .int a0)]) (by decide +kernel) rfl hg (x_stM g) (Nat.le_of_ble_eq_true rfl) rfl (fun x hl C => ?_)
  unfold wX12_tellerStands at h
  refine x_aload_n C 0 rfl rfl dX12_tellerStands_0 ?_
  refine x_iload_n C 1 rfl rfl dX12_tellerStands_1 ?_
  refine x_put C (c := 0) (ci := 12) (k1 := 38) (u1 := a0) (v1 := .int a0) (ty := .int) (enM_12 (c := 0) rfl) (Nat.le_of_ble_eq_true rfl) rfl inX12 (by decide) (stX12_38 _ _ _) tyX12 tyX12_ok nmX12 wf_X12_391 rfl rfl rfl rfl (Nat.le_of_ble_eq_true rfl) dX12_tellerStands_2 ?_
  refine x_nmM (fun M1 eM1 => ?_)
  replace h := h M1 eM1
  refine x_aload_n C 0 rfl rfl dX12_tellerStands_5 ?_
  refine x_aload_n C 0 rfl rfl dX12_tellerStands_6 ?_
  refine x_get C (c := 0) (ci := 12) (k1 := 59) (v1 := .ref (ga g 33)) (enM_12 (c := 0) rfl) (Nat.le_of_ble_eq_true rfl) rfl inX12 (by decide) wf_X12_112 rfl dX12_tellerStands_7 ?_
  refine x_iload_n C 1 rfl rfl dX12_tellerStands_10 ?_
  obtain ⟨hi2, h⟩ := h
  refine x_iald C 0 (c := 33) (enM_20n (c := 33) (n := 4) rfl rfl) (Nat.le_of_ble_eq_true rfl) rfl hi2 dX12_tellerStands_11 ?_
  refine x_put C (c := 0) (ci := 12) (k1 := 39) (u1 := (gi M1 33 a0.toNatClampNeg)) (v1 := .int (gi M1 33 a0.toNatClampNeg)) (ty := .int) (enM_12 (c := 0) rfl) (Nat.le_of_ble_eq_true rfl) rfl inX12 (by decide) (stX12_39 _ _ _) tyX12 tyX12_ok nmX12 wf_X12_394 rfl rfl rfl rfl (Nat.le_of_ble_eq_true rfl) dX12_tellerStands_12 ?_
  refine x_nmM (fun M3 eM3 => ?_)
  replace h := h M3 eM3
  refine x_aload_n C 0 rfl rfl dX12_tellerStands_15 ?_
  refine x_aload_n C 0 rfl rfl dX12_tellerStands_16 ?_
  refine x_get C (c := 0) (ci := 12) (k1 := 58) (v1 := .ref (ga g 32)) (enM_12 (c := 0) rfl) (Nat.le_of_ble_eq_true rfl) rfl inX12 (by decide) wf_X12_109 rfl dX12_tellerStands_17 ?_
  refine x_iload_n C 1 rfl rfl dX12_tellerStands_20 ?_
  obtain ⟨hi4, h⟩ := h
  refine x_iald C 0 (c := 32) (enM_20n (c := 32) (n := 4) rfl rfl) (Nat.le_of_ble_eq_true rfl) rfl hi4 dX12_tellerStands_21 ?_
  refine x_put C (c := 0) (ci := 12) (k1 := 40) (u1 := (gi M3 32 a0.toNatClampNeg)) (v1 := .int (gi M3 32 a0.toNatClampNeg)) (ty := .int) (enM_12 (c := 0) rfl) (Nat.le_of_ble_eq_true rfl) rfl inX12 (by decide) (stX12_40 _ _ _) tyX12 tyX12_ok nmX12 wf_X12_397 rfl rfl rfl rfl (Nat.le_of_ble_eq_true rfl) dX12_tellerStands_22 ?_
  refine x_nmM (fun M5 eM5 => ?_)
  replace h := h M5 eM5
  refine x_aload_n C 0 rfl rfl dX12_tellerStands_25 ?_
  refine x_aload_n C 0 rfl rfl dX12_tellerStands_26 ?_
  refine x_get C (c := 0) (ci := 12) (k1 := 60) (v1 := .ref (ga g 34)) (enM_12 (c := 0) rfl) (Nat.le_of_ble_eq_true rfl) rfl inX12 (by decide) wf_X12_115 rfl dX12_tellerStands_27 ?_
  refine x_iload_n C 1 rfl rfl dX12_tellerStands_30 ?_
  obtain ⟨hi6, h⟩ := h
  refine x_iald C 0 (c := 34) (enM_20n (c := 34) (n := 4) rfl rfl) (Nat.le_of_ble_eq_true rfl) rfl hi6 dX12_tellerStands_31 ?_
  refine x_callS C (st := [.ref (ga g 0)]) (As := [.int (gi M5 34 a0.toNatClampNeg)]) (tX12_sizeOf hg _ _ _ _  h) wm_X12_289 wsm_X12_sizeOf wz_X12 wc_X12_sizeOf yd_X12_sizeOf rfl ⟨rfl, rfl⟩ ⟨Nat.le_of_ble_eq_true rfl, Nat.le_of_ble_eq_true rfl⟩ (Nat.le_of_ble_eq_true rfl) rfl dX12_tellerStands_32 (x_ki (fun r8 M7 h => ?_))
  refine x_put C (c := 0) (ci := 12) (k1 := 41) (u1 := r8) (v1 := .int r8) (ty := .int) (enM_12 (c := 0) rfl) (Nat.le_of_ble_eq_true rfl) rfl inX12 (by decide) (stX12_41 _ _ _) tyX12 tyX12_ok nmX12 wf_X12_400 rfl rfl rfl rfl (Nat.le_of_ble_eq_true rfl) dX12_tellerStands_35 ?_
  refine x_nmM (fun M9 eM9 => ?_)
  replace h := h M9 eM9
  refine x_aload_n C 0 rfl rfl dX12_tellerStands_38 ?_
  refine x_iconst C (v1 := 0) dX12_tellerStands_39 (by decide) ?_
  refine x_put C (c := 0) (ci := 12) (k1 := 42) (u1 := 0) (v1 := .int 0) (ty := .int) (enM_12 (c := 0) rfl) (Nat.le_of_ble_eq_true rfl) rfl inX12 (by decide) (stX12_42 _ _ _) tyX12 tyX12_ok nmX12 wf_X12_403 rfl rfl rfl rfl (Nat.le_of_ble_eq_true rfl) dX12_tellerStands_40 ?_
  refine x_nmM (fun M10 eM10 => ?_)
  replace h := h M10 eM10
  refine x_aload_n C 0 rfl rfl dX12_tellerStands_43 ?_
  refine x_iconst C (v1 := 0) dX12_tellerStands_44 (by decide) ?_
  refine x_put C (c := 0) (ci := 12) (k1 := 43) (u1 := 0) (v1 := .int 0) (ty := .int) (enM_12 (c := 0) rfl) (Nat.le_of_ble_eq_true rfl) rfl inX12 (by decide) (stX12_43 _ _ _) tyX12 tyX12_ok nmX12 wf_X12_406 rfl rfl rfl rfl (Nat.le_of_ble_eq_true rfl) dX12_tellerStands_45 ?_
  refine x_nmM (fun M11 eM11 => ?_)
  replace h := h M11 eM11
  refine x_aload_n C 0 rfl rfl dX12_tellerStands_48 ?_
  refine x_iconst C (v1 := 0) dX12_tellerStands_49 (by decide) ?_
  refine x_put C (c := 0) (ci := 12) (k1 := 44) (u1 := 0) (v1 := .int 0) (ty := .int) (enM_12 (c := 0) rfl) (Nat.le_of_ble_eq_true rfl) rfl inX12 (by decide) (stX12_44 _ _ _) tyX12 tyX12_ok nmX12 wf_X12_409 rfl rfl rfl rfl (Nat.le_of_ble_eq_true rfl) dX12_tellerStands_50 ?_
  refine x_nmM (fun M12 eM12 => ?_)
  replace h := h M12 eM12
  refine x_aload_n C 0 rfl rfl dX12_tellerStands_53 ?_
  refine x_iconst C (v1 := 0) dX12_tellerStands_54 (by decide) ?_
  refine x_put C (c := 0) (ci := 12) (k1 := 45) (u1 := 0) (v1 := .int 0) (ty := .int) (enM_12 (c := 0) rfl) (Nat.le_of_ble_eq_true rfl) rfl inX12 (by decide) (stX12_45 _ _ _) tyX12 tyX12_ok nmX12 wf_X12_412 rfl rfl rfl rfl (Nat.le_of_ble_eq_true rfl) dX12_tellerStands_55 ?_
  refine x_nmM (fun M13 eM13 => ?_)
  replace h := h M13 eM13
  refine x_aload_n C 0 rfl rfl dX12_tellerStands_58 ?_
  refine x_iconst C (v1 := 0) dX12_tellerStands_59 (by decide) ?_
  refine x_put C (c := 0) (ci := 12) (k1 := 46) (u1 := 0) (v1 := .int 0) (ty := .int) (enM_12 (c := 0) rfl) (Nat.le_of_ble_eq_true rfl) rfl inX12 (by decide) (stX12_46 _ _ _) tyX12 tyX12_ok nmX12 wf_X12_415 rfl rfl rfl rfl (Nat.le_of_ble_eq_true rfl) dX12_tellerStands_60 ?_
  refine x_nmM (fun M14 eM14 => ?_)
  replace h := h M14 eM14
  refine x_aload_n C 0 rfl rfl dX12_tellerStands_63 ?_
  refine x_iconst C (v1 := 0) dX12_tellerStands_64 (by decide) ?_
  refine x_put C (c := 0) (ci := 12) (k1 := 47) (u1 := 0) (v1 := .int 0) (ty := .int) (enM_12 (c := 0) rfl) (Nat.le_of_ble_eq_true rfl) rfl inX12 (by decide) (stX12_47 _ _ _) tyX12 tyX12_ok nmX12 wf_X12_418 rfl rfl rfl rfl (Nat.le_of_ble_eq_true rfl) dX12_tellerStands_65 ?_
  refine x_nmM (fun M15 eM15 => ?_)
  replace h := h M15 eM15
  refine x_aload_n C 0 rfl rfl dX12_tellerStands_68 ?_
  refine x_iconst C (v1 := 0) dX12_tellerStands_69 (by decide) ?_
  refine x_put C (c := 0) (ci := 12) (k1 := 48) (u1 := 0) (v1 := .int 0) (ty := .int) (enM_12 (c := 0) rfl) (Nat.le_of_ble_eq_true rfl) rfl inX12 (by decide) (stX12_48 _ _ _) tyX12 tyX12_ok nmX12 wf_X12_421 rfl rfl rfl rfl (Nat.le_of_ble_eq_true rfl) dX12_tellerStands_70 ?_
  refine x_nmM (fun M16 eM16 => ?_)
  replace h := h M16 eM16
  exact x_vret C dX12_tellerStands_73 ⟨rfl, h⟩
set_option maxHeartbeats 4000000 in
set_option maxRecDepth 100000 in
theorem tX12_listenerStands {g : xG} (hg : x_inj (WM g))  (l : Launch) (a0 : Int32) (M : xMem) (post : xMem → Prop)  (h : wX12_listenerStands a0 M post) : xMet (WM g) l yX12_listenerStands cX12_listenerStands 2 none (rm_X12_listenerStands) [.ref (ga g 0), .int a0] M (pV post) := by
  refine x_enter (own := RX12) (L0 := [(0, .ref (ga g 0)), (1, .int a0)]) (by decide +kernel) rfl hg (x_stM g) (Nat.le_of_ble_eq_true rfl) rfl (fun x hl C => ?_)
  unfold wX12_listenerStands at h
  refine x_aload_n C 0 rfl rfl dX12_listenerStands_0 ?_
  refine x_aload_n C 0 rfl rfl dX12_listenerStands_1 ?_
  refine x_get C (c := 0) (ci := 12) (k1 := 62) (v1 := .ref (ga g 36)) (enM_12 (c := 0) rfl) (Nat.le_of_ble_eq_true rfl) rfl inX12 (by decide) wf_X12_121 rfl dX12_listenerStands_2 ?_
  refine x_iload_n C 1 rfl rfl dX12_listenerStands_5 ?_
  obtain ⟨hi1, h⟩ := h
  refine x_iald C 0 (c := 36) (enM_20n (c := 36) (n := 10) rfl rfl) (Nat.le_of_ble_eq_true rfl) rfl hi1 dX12_listenerStands_6 ?_
  refine x_callV C (st := []) (As := [.int (gi M 36 a0.toNatClampNeg)]) (c := 0) (ci := 12) (enM_12 (c := 0) rfl) (Nat.le_of_ble_eq_true rfl) rfl (tX12_tellerStands hg _ _ _ _  h) wm_X12_448 wi_X12_tellerStands wv_X12_tellerStands wz_X12 wc_X12_tellerStands rfl yd_X12_tellerStands rfl ⟨rfl, rfl⟩ ⟨Nat.le_of_ble_eq_true rfl, Nat.le_of_ble_eq_true rfl⟩ (Nat.le_of_ble_eq_true rfl) rfl dX12_listenerStands_7 (x_kv (fun M2 h => ?_))
  refine x_aload_n C 0 rfl rfl dX12_listenerStands_10 ?_
  refine x_iload_n C 1 rfl rfl dX12_listenerStands_11 ?_
  refine x_put C (c := 0) (ci := 12) (k1 := 42) (u1 := a0) (v1 := .int a0) (ty := .int) (enM_12 (c := 0) rfl) (Nat.le_of_ble_eq_true rfl) rfl inX12 (by decide) (stX12_42 _ _ _) tyX12 tyX12_ok nmX12 wf_X12_403 rfl rfl rfl rfl (Nat.le_of_ble_eq_true rfl) dX12_listenerStands_12 ?_
  refine x_nmM (fun M3 eM3 => ?_)
  replace h := h M3 eM3
  refine x_aload_n C 0 rfl rfl dX12_listenerStands_15 ?_
  refine x_aload_n C 0 rfl rfl dX12_listenerStands_16 ?_
  refine x_get C (c := 0) (ci := 12) (k1 := 63) (v1 := .ref (ga g 37)) (enM_12 (c := 0) rfl) (Nat.le_of_ble_eq_true rfl) rfl inX12 (by decide) wf_X12_124 rfl dX12_listenerStands_17 ?_
  refine x_iload_n C 1 rfl rfl dX12_listenerStands_20 ?_
  obtain ⟨hi4, h⟩ := h
  refine x_iald C 0 (c := 37) (enM_20n (c := 37) (n := 10) rfl rfl) (Nat.le_of_ble_eq_true rfl) rfl hi4 dX12_listenerStands_21 ?_
  refine x_put C (c := 0) (ci := 12) (k1 := 43) (u1 := (gi M3 37 a0.toNatClampNeg)) (v1 := .int (gi M3 37 a0.toNatClampNeg)) (ty := .int) (enM_12 (c := 0) rfl) (Nat.le_of_ble_eq_true rfl) rfl inX12 (by decide) (stX12_43 _ _ _) tyX12 tyX12_ok nmX12 wf_X12_406 rfl rfl rfl rfl (Nat.le_of_ble_eq_true rfl) dX12_listenerStands_22 ?_
  refine x_nmM (fun M5 eM5 => ?_)
  replace h := h M5 eM5
  refine x_aload_n C 0 rfl rfl dX12_listenerStands_25 ?_
  refine x_aload_n C 0 rfl rfl dX12_listenerStands_26 ?_
  refine x_get C (c := 0) (ci := 12) (k1 := 64) (v1 := .ref (ga g 38)) (enM_12 (c := 0) rfl) (Nat.le_of_ble_eq_true rfl) rfl inX12 (by decide) wf_X12_127 rfl dX12_listenerStands_27 ?_
  refine x_iload_n C 1 rfl rfl dX12_listenerStands_30 ?_
  obtain ⟨hi6, h⟩ := h
  refine x_iald C 0 (c := 38) (enM_20n (c := 38) (n := 10) rfl rfl) (Nat.le_of_ble_eq_true rfl) rfl hi6 dX12_listenerStands_31 ?_
  refine x_put C (c := 0) (ci := 12) (k1 := 44) (u1 := (gi M5 38 a0.toNatClampNeg)) (v1 := .int (gi M5 38 a0.toNatClampNeg)) (ty := .int) (enM_12 (c := 0) rfl) (Nat.le_of_ble_eq_true rfl) rfl inX12 (by decide) (stX12_44 _ _ _) tyX12 tyX12_ok nmX12 wf_X12_409 rfl rfl rfl rfl (Nat.le_of_ble_eq_true rfl) dX12_listenerStands_32 ?_
  refine x_nmM (fun M7 eM7 => ?_)
  replace h := h M7 eM7
  exact x_vret C dX12_listenerStands_35 ⟨rfl, h⟩
set_option maxHeartbeats 4000000 in
set_option maxRecDepth 100000 in
theorem tX12_endStands {g : xG} (hg : x_inj (WM g))  (l : Launch) (a0 : Int32) (M : xMem) (post : xMem → Prop)  (h : wX12_endStands a0 M post) : xMet (WM g) l yX12_endStands cX12_endStands 2 none (rm_X12_endStands) [.ref (ga g 0), .int a0] M (pV post) := by
  refine x_enter (own := RX12) (L0 := [(0, .ref (ga g 0)), (1, .int a0)]) (by decide +kernel) rfl hg (x_stM g) (Nat.le_of_ble_eq_true rfl) rfl (fun x hl C => ?_)
  unfold wX12_endStands at h
  refine x_aload_n C 0 rfl rfl dX12_endStands_0 ?_
  refine x_iconst C (v1 := 0) dX12_endStands_1 (by decide) ?_
  refine x_put C (c := 0) (ci := 12) (k1 := 38) (u1 := 0) (v1 := .int 0) (ty := .int) (enM_12 (c := 0) rfl) (Nat.le_of_ble_eq_true rfl) rfl inX12 (by decide) (stX12_38 _ _ _) tyX12 tyX12_ok nmX12 wf_X12_391 rfl rfl rfl rfl (Nat.le_of_ble_eq_true rfl) dX12_endStands_2 ?_
  refine x_nmM (fun M1 eM1 => ?_)
  replace h := h M1 eM1
  refine x_aload_n C 0 rfl rfl dX12_endStands_5 ?_
  refine x_iconst C (v1 := 0) dX12_endStands_6 (by decide) ?_
  refine x_put C (c := 0) (ci := 12) (k1 := 39) (u1 := 0) (v1 := .int 0) (ty := .int) (enM_12 (c := 0) rfl) (Nat.le_of_ble_eq_true rfl) rfl inX12 (by decide) (stX12_39 _ _ _) tyX12 tyX12_ok nmX12 wf_X12_394 rfl rfl rfl rfl (Nat.le_of_ble_eq_true rfl) dX12_endStands_7 ?_
  refine x_nmM (fun M2 eM2 => ?_)
  replace h := h M2 eM2
  refine x_aload_n C 0 rfl rfl dX12_endStands_10 ?_
  refine x_iconst C (v1 := 0) dX12_endStands_11 (by decide) ?_
  refine x_put C (c := 0) (ci := 12) (k1 := 40) (u1 := 0) (v1 := .int 0) (ty := .int) (enM_12 (c := 0) rfl) (Nat.le_of_ble_eq_true rfl) rfl inX12 (by decide) (stX12_40 _ _ _) tyX12 tyX12_ok nmX12 wf_X12_397 rfl rfl rfl rfl (Nat.le_of_ble_eq_true rfl) dX12_endStands_12 ?_
  refine x_nmM (fun M3 eM3 => ?_)
  replace h := h M3 eM3
  refine x_aload_n C 0 rfl rfl dX12_endStands_15 ?_
  refine x_iconst C (v1 := 0) dX12_endStands_16 (by decide) ?_
  refine x_put C (c := 0) (ci := 12) (k1 := 41) (u1 := 0) (v1 := .int 0) (ty := .int) (enM_12 (c := 0) rfl) (Nat.le_of_ble_eq_true rfl) rfl inX12 (by decide) (stX12_41 _ _ _) tyX12 tyX12_ok nmX12 wf_X12_400 rfl rfl rfl rfl (Nat.le_of_ble_eq_true rfl) dX12_endStands_17 ?_
  refine x_nmM (fun M4 eM4 => ?_)
  replace h := h M4 eM4
  refine x_aload_n C 0 rfl rfl dX12_endStands_20 ?_
  refine x_iconst C (v1 := 0) dX12_endStands_21 (by decide) ?_
  refine x_put C (c := 0) (ci := 12) (k1 := 42) (u1 := 0) (v1 := .int 0) (ty := .int) (enM_12 (c := 0) rfl) (Nat.le_of_ble_eq_true rfl) rfl inX12 (by decide) (stX12_42 _ _ _) tyX12 tyX12_ok nmX12 wf_X12_403 rfl rfl rfl rfl (Nat.le_of_ble_eq_true rfl) dX12_endStands_22 ?_
  refine x_nmM (fun M5 eM5 => ?_)
  replace h := h M5 eM5
  refine x_aload_n C 0 rfl rfl dX12_endStands_25 ?_
  refine x_iconst C (v1 := 0) dX12_endStands_26 (by decide) ?_
  refine x_put C (c := 0) (ci := 12) (k1 := 43) (u1 := 0) (v1 := .int 0) (ty := .int) (enM_12 (c := 0) rfl) (Nat.le_of_ble_eq_true rfl) rfl inX12 (by decide) (stX12_43 _ _ _) tyX12 tyX12_ok nmX12 wf_X12_406 rfl rfl rfl rfl (Nat.le_of_ble_eq_true rfl) dX12_endStands_27 ?_
  refine x_nmM (fun M6 eM6 => ?_)
  replace h := h M6 eM6
  refine x_aload_n C 0 rfl rfl dX12_endStands_30 ?_
  refine x_iconst C (v1 := 0) dX12_endStands_31 (by decide) ?_
  refine x_put C (c := 0) (ci := 12) (k1 := 44) (u1 := 0) (v1 := .int 0) (ty := .int) (enM_12 (c := 0) rfl) (Nat.le_of_ble_eq_true rfl) rfl inX12 (by decide) (stX12_44 _ _ _) tyX12 tyX12_ok nmX12 wf_X12_409 rfl rfl rfl rfl (Nat.le_of_ble_eq_true rfl) dX12_endStands_32 ?_
  refine x_nmM (fun M7 eM7 => ?_)
  replace h := h M7 eM7
  refine x_aload_n C 0 rfl rfl dX12_endStands_35 ?_
  refine x_iload_n C 1 rfl rfl dX12_endStands_36 ?_
  refine x_put C (c := 0) (ci := 12) (k1 := 45) (u1 := a0) (v1 := .int a0) (ty := .int) (enM_12 (c := 0) rfl) (Nat.le_of_ble_eq_true rfl) rfl inX12 (by decide) (stX12_45 _ _ _) tyX12 tyX12_ok nmX12 wf_X12_412 rfl rfl rfl rfl (Nat.le_of_ble_eq_true rfl) dX12_endStands_37 ?_
  refine x_nmM (fun M8 eM8 => ?_)
  replace h := h M8 eM8
  refine x_aload_n C 0 rfl rfl dX12_endStands_40 ?_
  refine x_aload_n C 0 rfl rfl dX12_endStands_41 ?_
  refine x_get C (c := 0) (ci := 12) (k1 := 53) (v1 := .ref (ga g 27)) (enM_12 (c := 0) rfl) (Nat.le_of_ble_eq_true rfl) rfl inX12 (by decide) wf_X12_94 rfl dX12_endStands_42 ?_
  refine x_iload_n C 1 rfl rfl dX12_endStands_45 ?_
  obtain ⟨hi9, h⟩ := h
  refine x_iald C 0 (c := 27) (enM_20n (c := 27) (n := 10) rfl rfl) (Nat.le_of_ble_eq_true rfl) rfl hi9 dX12_endStands_46 ?_
  refine x_put C (c := 0) (ci := 12) (k1 := 46) (u1 := (gi M8 27 a0.toNatClampNeg)) (v1 := .int (gi M8 27 a0.toNatClampNeg)) (ty := .int) (enM_12 (c := 0) rfl) (Nat.le_of_ble_eq_true rfl) rfl inX12 (by decide) (stX12_46 _ _ _) tyX12 tyX12_ok nmX12 wf_X12_415 rfl rfl rfl rfl (Nat.le_of_ble_eq_true rfl) dX12_endStands_47 ?_
  refine x_nmM (fun M10 eM10 => ?_)
  replace h := h M10 eM10
  refine x_aload_n C 0 rfl rfl dX12_endStands_50 ?_
  refine x_aload_n C 0 rfl rfl dX12_endStands_51 ?_
  refine x_get C (c := 0) (ci := 12) (k1 := 54) (v1 := .ref (ga g 28)) (enM_12 (c := 0) rfl) (Nat.le_of_ble_eq_true rfl) rfl inX12 (by decide) wf_X12_97 rfl dX12_endStands_52 ?_
  refine x_iload_n C 1 rfl rfl dX12_endStands_55 ?_
  obtain ⟨hi11, h⟩ := h
  refine x_iald C 0 (c := 28) (enM_20n (c := 28) (n := 10) rfl rfl) (Nat.le_of_ble_eq_true rfl) rfl hi11 dX12_endStands_56 ?_
  refine x_put C (c := 0) (ci := 12) (k1 := 47) (u1 := (gi M10 28 a0.toNatClampNeg)) (v1 := .int (gi M10 28 a0.toNatClampNeg)) (ty := .int) (enM_12 (c := 0) rfl) (Nat.le_of_ble_eq_true rfl) rfl inX12 (by decide) (stX12_47 _ _ _) tyX12 tyX12_ok nmX12 wf_X12_418 rfl rfl rfl rfl (Nat.le_of_ble_eq_true rfl) dX12_endStands_57 ?_
  refine x_nmM (fun M12 eM12 => ?_)
  replace h := h M12 eM12
  refine x_aload_n C 0 rfl rfl dX12_endStands_60 ?_
  refine x_aload_n C 0 rfl rfl dX12_endStands_61 ?_
  refine x_get C (c := 0) (ci := 12) (k1 := 52) (v1 := .ref (ga g 26)) (enM_12 (c := 0) rfl) (Nat.le_of_ble_eq_true rfl) rfl inX12 (by decide) wf_X12_91 rfl dX12_endStands_62 ?_
  refine x_iload_n C 1 rfl rfl dX12_endStands_65 ?_
  obtain ⟨hi13, h⟩ := h
  refine x_iald C 0 (c := 26) (enM_20n (c := 26) (n := 10) rfl rfl) (Nat.le_of_ble_eq_true rfl) rfl hi13 dX12_endStands_66 ?_
  refine x_callS C (st := [.ref (ga g 0)]) (As := [.int (gi M12 26 a0.toNatClampNeg)]) (tX12_sizeOf hg _ _ _ _  h) wm_X12_289 wsm_X12_sizeOf wz_X12 wc_X12_sizeOf yd_X12_sizeOf rfl ⟨rfl, rfl⟩ ⟨Nat.le_of_ble_eq_true rfl, Nat.le_of_ble_eq_true rfl⟩ (Nat.le_of_ble_eq_true rfl) rfl dX12_endStands_67 (x_ki (fun r15 M14 h => ?_))
  refine x_put C (c := 0) (ci := 12) (k1 := 48) (u1 := r15) (v1 := .int r15) (ty := .int) (enM_12 (c := 0) rfl) (Nat.le_of_ble_eq_true rfl) rfl inX12 (by decide) (stX12_48 _ _ _) tyX12 tyX12_ok nmX12 wf_X12_421 rfl rfl rfl rfl (Nat.le_of_ble_eq_true rfl) dX12_endStands_70 ?_
  refine x_nmM (fun M16 eM16 => ?_)
  replace h := h M16 eM16
  exact x_vret C dX12_endStands_73 ⟨rfl, h⟩
set_option maxHeartbeats 4000000 in
set_option maxRecDepth 100000 in
theorem tX12_speedOf {g : xG} (hg : x_inj (WM g))  (l : Launch) (a0 : Int32) (M : xMem) (post : Int32 → xMem → Prop)  (h : wX12_speedOf a0 M post) : xMet (WM g) l yX12_speedOf cX12_speedOf 2 (some .int) (rm_X12_speedOf) [.ref (ga g 0), .int a0] M (pI post) := by
  refine x_enter (own := RX12) (L0 := [(0, .ref (ga g 0)), (1, .int a0)]) (by decide +kernel) rfl hg (x_stM g) (Nat.le_of_ble_eq_true rfl) rfl (fun x hl C => ?_)
  unfold wX12_speedOf at h
  refine x_aload_n C 0 rfl rfl dX12_speedOf_0 ?_
  refine x_iload_n C 1 rfl rfl dX12_speedOf_1 ?_
  refine x_callV C (st := []) (As := [.int a0]) (c := 0) (ci := 12) (enM_12 (c := 0) rfl) (Nat.le_of_ble_eq_true rfl) rfl (tX12_tellerStands hg _ _ _ _  h) wm_X12_448 wi_X12_tellerStands wv_X12_tellerStands wz_X12 wc_X12_tellerStands rfl yd_X12_tellerStands rfl ⟨rfl, rfl⟩ ⟨Nat.le_of_ble_eq_true rfl, Nat.le_of_ble_eq_true rfl⟩ (Nat.le_of_ble_eq_true rfl) rfl dX12_speedOf_2 (x_kv (fun M1 h => ?_))
  refine x_aload_n C 0 rfl rfl dX12_speedOf_5 ?_
  refine x_bipush C (v1 := 110) dX12_speedOf_6 (by decide) ?_
  refine x_bipush C (v1 := 20) dX12_speedOf_8 (by decide) ?_
  refine x_callV C (st := []) (As := [.int 110, .int 20]) (c := 0) (ci := 12) (enM_12 (c := 0) rfl) (Nat.le_of_ble_eq_true rfl) rfl (tX12_tells hg _ _ _ _ _  h) wm_X12_451 wi_X12_tells wv_X12_tells wz_X12 wc_X12_tells rfl yd_X12_tells rfl ⟨rfl, rfl⟩ ⟨Nat.le_of_ble_eq_true rfl, Nat.le_of_ble_eq_true rfl⟩ (Nat.le_of_ble_eq_true rfl) rfl dX12_speedOf_10 (x_ki (fun r3 M2 h => ?_))
  exact x_iret C dX12_speedOf_13 ⟨_, rfl, h⟩
set_option maxHeartbeats 4000000 in
set_option maxRecDepth 100000 in
theorem tX12_costOf {g : xG} (hg : x_inj (WM g))  (l : Launch) (a0 : Int32) (M : xMem) (post : Int32 → xMem → Prop)  (h : wX12_costOf a0 M post) : xMet (WM g) l yX12_costOf cX12_costOf 2 (some .int) (rm_X12_costOf) [.ref (ga g 0), .int a0] M (pI post) := by
  refine x_enter (own := RX12) (L0 := [(0, .ref (ga g 0)), (1, .int a0)]) (by decide +kernel) rfl hg (x_stM g) (Nat.le_of_ble_eq_true rfl) rfl (fun x hl C => ?_)
  unfold wX12_costOf at h
  refine x_aload_n C 0 rfl rfl dX12_costOf_0 ?_
  refine x_iload_n C 1 rfl rfl dX12_costOf_1 ?_
  refine x_callV C (st := []) (As := [.int a0]) (c := 0) (ci := 12) (enM_12 (c := 0) rfl) (Nat.le_of_ble_eq_true rfl) rfl (tX12_endStands hg _ _ _ _  h) wm_X12_454 wi_X12_endStands wv_X12_endStands wz_X12 wc_X12_endStands rfl yd_X12_endStands rfl ⟨rfl, rfl⟩ ⟨Nat.le_of_ble_eq_true rfl, Nat.le_of_ble_eq_true rfl⟩ (Nat.le_of_ble_eq_true rfl) rfl dX12_costOf_2 (x_kv (fun M1 h => ?_))
  refine x_aload_n C 0 rfl rfl dX12_costOf_5 ?_
  refine x_bipush C (v1 := 112) dX12_costOf_6 (by decide) ?_
  refine x_sipush C (v1 := 999) dX12_costOf_8 (by decide) ?_
  refine x_callV C (st := []) (As := [.int 112, .int 999]) (c := 0) (ci := 12) (enM_12 (c := 0) rfl) (Nat.le_of_ble_eq_true rfl) rfl (tX12_tells hg _ _ _ _ _  h) wm_X12_451 wi_X12_tells wv_X12_tells wz_X12 wc_X12_tells rfl yd_X12_tells rfl ⟨rfl, rfl⟩ ⟨Nat.le_of_ble_eq_true rfl, Nat.le_of_ble_eq_true rfl⟩ (Nat.le_of_ble_eq_true rfl) rfl dX12_costOf_11 (x_ki (fun r3 M2 h => ?_))
  exact x_iret C dX12_costOf_14 ⟨_, rfl, h⟩
set_option maxHeartbeats 4000000 in
set_option maxRecDepth 100000 in
theorem tX12_forgingOf {g : xG} (hg : x_inj (WM g))  (l : Launch) (a0 : Int32) (M : xMem) (post : Int32 → xMem → Prop)  (h : wX12_forgingOf a0 M post) : xMet (WM g) l yX12_forgingOf cX12_forgingOf 2 (some .int) (rm_X12_forgingOf) [.ref (ga g 0), .int a0] M (pI post) := by
  refine x_enter (own := RX12) (L0 := [(0, .ref (ga g 0)), (1, .int a0)]) (by decide +kernel) rfl hg (x_stM g) (Nat.le_of_ble_eq_true rfl) rfl (fun x hl C => ?_)
  unfold wX12_forgingOf at h
  refine x_aload_n C 0 rfl rfl dX12_forgingOf_0 ?_
  refine x_iload_n C 1 rfl rfl dX12_forgingOf_1 ?_
  refine x_callV C (st := []) (As := [.int a0]) (c := 0) (ci := 12) (enM_12 (c := 0) rfl) (Nat.le_of_ble_eq_true rfl) rfl (tX12_endStands hg _ _ _ _  h) wm_X12_454 wi_X12_endStands wv_X12_endStands wz_X12 wc_X12_endStands rfl yd_X12_endStands rfl ⟨rfl, rfl⟩ ⟨Nat.le_of_ble_eq_true rfl, Nat.le_of_ble_eq_true rfl⟩ (Nat.le_of_ble_eq_true rfl) rfl dX12_forgingOf_2 (x_kv (fun M1 h => ?_))
  refine x_aload_n C 0 rfl rfl dX12_forgingOf_5 ?_
  refine x_bipush C (v1 := 103) dX12_forgingOf_6 (by decide) ?_
  refine x_bipush C (v1 := 10) dX12_forgingOf_8 (by decide) ?_
  refine x_callV C (st := []) (As := [.int 103, .int 10]) (c := 0) (ci := 12) (enM_12 (c := 0) rfl) (Nat.le_of_ble_eq_true rfl) rfl (tX12_tells hg _ _ _ _ _  h) wm_X12_451 wi_X12_tells wv_X12_tells wz_X12 wc_X12_tells rfl yd_X12_tells rfl ⟨rfl, rfl⟩ ⟨Nat.le_of_ble_eq_true rfl, Nat.le_of_ble_eq_true rfl⟩ (Nat.le_of_ble_eq_true rfl) rfl dX12_forgingOf_10 (x_ki (fun r3 M2 h => ?_))
  exact x_iret C dX12_forgingOf_13 ⟨_, rfl, h⟩
set_option maxHeartbeats 4000000 in
set_option maxRecDepth 100000 in
theorem tX12_isThere {g : xG} (hg : x_inj (WM g))  (l : Launch) (a0 : Int32) (M : xMem) (post : Int32 → xMem → Prop)  (h : wX12_isThere a0 M post) : xMet (WM g) l yX12_isThere cX12_isThere 2 (some .boolean) (rm_X12_isThere) [.ref (ga g 0), .int a0] M (pI post) := by
  refine x_enter (own := RX12) (L0 := [(0, .ref (ga g 0)), (1, .int a0)]) (by decide +kernel) rfl hg (x_stM g) (Nat.le_of_ble_eq_true rfl) rfl (fun x hl C => ?_)
  unfold wX12_isThere at h
  refine x_iload_n C 1 rfl rfl dX12_isThere_0 ?_
  refine x_i2l C dX12_isThere_1 ?_
  refine x_lconst C (v1 := 0) dX12_isThere_2 (by decide) ?_
  refine x_ldc2 C (v1 := 9) (wcl_X12_457) dX12_isThere_3 ?_
  refine x_callS C (st := []) (As := [.long ((a0 : Int32).toInt64), .long 0, .long 9]) (tX12_lies hg _ _ _ _ _ _  h) wm_X12_222 wsm_X12_lies wz_X12 wc_X12_lies yd_X12_lies rfl ⟨rfl, rfl⟩ ⟨Nat.le_of_ble_eq_true rfl, Nat.le_of_ble_eq_true rfl⟩ (Nat.le_of_ble_eq_true rfl) rfl dX12_isThere_6 (x_ki (fun r2 M1 h => ?_))
  refine x_if_eq C (tgt := 25) dX12_isThere_9 (by decide) (fun hq3 => ?_) (fun hq3 => ?_)
  · replace h := x_ift hq3 h
    refine x_iconst C (v1 := 0) dX12_isThere_25 (by decide) ?_
    exact x_zret C rfl dX12_isThere_26 ⟨_, rfl, h⟩
  · replace h := x_iff hq3 h
    refine x_aload_n C 0 rfl rfl dX12_isThere_12 ?_
    refine x_get C (c := 0) (ci := 12) (k1 := 51) (v1 := .ref (ga g 25)) (enM_12 (c := 0) rfl) (Nat.le_of_ble_eq_true rfl) rfl inX12 (by decide) wf_X12_88 rfl dX12_isThere_13 ?_
    refine x_iload_n C 1 rfl rfl dX12_isThere_16 ?_
    obtain ⟨hi4, h⟩ := h
    refine x_zald C 2 (c := 25) (enM_24n (c := 25) (n := 10) rfl rfl) (Nat.le_of_ble_eq_true rfl) rfl hi4 dX12_isThere_17 ?_
    refine x_if_eq C (tgt := 25) dX12_isThere_18 (by decide) (fun hq5 => ?_) (fun hq5 => ?_)
    · replace h := x_ift hq5 h
      refine x_iconst C (v1 := 0) dX12_isThere_25 (by decide) ?_
      exact x_zret C rfl dX12_isThere_26 ⟨_, rfl, h⟩
    · replace h := x_iff hq5 h
      refine x_iconst C (v1 := 1) dX12_isThere_21 (by decide) ?_
      refine x_goto C (tgt := 26) dX12_isThere_22 (by decide) ?_
      exact x_zret C rfl dX12_isThere_26 ⟨_, rfl, h⟩
set_option maxHeartbeats 4000000 in
set_option maxRecDepth 100000 in
theorem tX12_isTelling {g : xG} (hg : x_inj (WM g))  (l : Launch) (a0 : Int32) (M : xMem) (post : Int32 → xMem → Prop)  (h : wX12_isTelling a0 M post) : xMet (WM g) l yX12_isTelling cX12_isTelling 2 (some .boolean) (rm_X12_isTelling) [.ref (ga g 0), .int a0] M (pI post) := by
  refine x_enter (own := RX12) (L0 := [(0, .ref (ga g 0)), (1, .int a0)]) (by decide +kernel) rfl hg (x_stM g) (Nat.le_of_ble_eq_true rfl) rfl (fun x hl C => ?_)
  unfold wX12_isTelling at h
  refine x_iload_n C 1 rfl rfl dX12_isTelling_0 ?_
  refine x_i2l C dX12_isTelling_1 ?_
  refine x_lconst C (v1 := 0) dX12_isTelling_2 (by decide) ?_
  refine x_ldc2 C (v1 := 3) (wcl_X12_459) dX12_isTelling_3 ?_
  refine x_callS C (st := []) (As := [.long ((a0 : Int32).toInt64), .long 0, .long 3]) (tX12_lies hg _ _ _ _ _ _  h) wm_X12_222 wsm_X12_lies wz_X12 wc_X12_lies yd_X12_lies rfl ⟨rfl, rfl⟩ ⟨Nat.le_of_ble_eq_true rfl, Nat.le_of_ble_eq_true rfl⟩ (Nat.le_of_ble_eq_true rfl) rfl dX12_isTelling_6 (x_ki (fun r2 M1 h => ?_))
  refine x_if_eq C (tgt := 25) dX12_isTelling_9 (by decide) (fun hq3 => ?_) (fun hq3 => ?_)
  · replace h := x_ift hq3 h
    refine x_iconst C (v1 := 0) dX12_isTelling_25 (by decide) ?_
    exact x_zret C rfl dX12_isTelling_26 ⟨_, rfl, h⟩
  · replace h := x_iff hq3 h
    refine x_aload_n C 0 rfl rfl dX12_isTelling_12 ?_
    refine x_get C (c := 0) (ci := 12) (k1 := 56) (v1 := .ref (ga g 30)) (enM_12 (c := 0) rfl) (Nat.le_of_ble_eq_true rfl) rfl inX12 (by decide) wf_X12_103 rfl dX12_isTelling_13 ?_
    refine x_iload_n C 1 rfl rfl dX12_isTelling_16 ?_
    obtain ⟨hi4, h⟩ := h
    refine x_zald C 2 (c := 30) (enM_24n (c := 30) (n := 4) rfl rfl) (Nat.le_of_ble_eq_true rfl) rfl hi4 dX12_isTelling_17 ?_
    refine x_if_eq C (tgt := 25) dX12_isTelling_18 (by decide) (fun hq5 => ?_) (fun hq5 => ?_)
    · replace h := x_ift hq5 h
      refine x_iconst C (v1 := 0) dX12_isTelling_25 (by decide) ?_
      exact x_zret C rfl dX12_isTelling_26 ⟨_, rfl, h⟩
    · replace h := x_iff hq5 h
      refine x_iconst C (v1 := 1) dX12_isTelling_21 (by decide) ?_
      refine x_goto C (tgt := 26) dX12_isTelling_22 (by decide) ?_
      exact x_zret C rfl dX12_isTelling_26 ⟨_, rfl, h⟩
set_option maxHeartbeats 4000000 in
set_option maxRecDepth 100000 in
theorem tX12_isListening {g : xG} (hg : x_inj (WM g))  (l : Launch) (a0 : Int32) (M : xMem) (post : Int32 → xMem → Prop)  (h : wX12_isListening a0 M post) : xMet (WM g) l yX12_isListening cX12_isListening 2 (some .boolean) (rm_X12_isListening) [.ref (ga g 0), .int a0] M (pI post) := by
  refine x_enter (own := RX12) (L0 := [(0, .ref (ga g 0)), (1, .int a0)]) (by decide +kernel) rfl hg (x_stM g) (Nat.le_of_ble_eq_true rfl) rfl (fun x hl C => ?_)
  unfold wX12_isListening at h
  refine x_iload_n C 1 rfl rfl dX12_isListening_0 ?_
  refine x_i2l C dX12_isListening_1 ?_
  refine x_lconst C (v1 := 0) dX12_isListening_2 (by decide) ?_
  refine x_ldc2 C (v1 := 9) (wcl_X12_457) dX12_isListening_3 ?_
  refine x_callS C (st := []) (As := [.long ((a0 : Int32).toInt64), .long 0, .long 9]) (tX12_lies hg _ _ _ _ _ _  h) wm_X12_222 wsm_X12_lies wz_X12 wc_X12_lies yd_X12_lies rfl ⟨rfl, rfl⟩ ⟨Nat.le_of_ble_eq_true rfl, Nat.le_of_ble_eq_true rfl⟩ (Nat.le_of_ble_eq_true rfl) rfl dX12_isListening_6 (x_ki (fun r2 M1 h => ?_))
  refine x_if_eq C (tgt := 25) dX12_isListening_9 (by decide) (fun hq3 => ?_) (fun hq3 => ?_)
  · replace h := x_ift hq3 h
    refine x_iconst C (v1 := 0) dX12_isListening_25 (by decide) ?_
    exact x_zret C rfl dX12_isListening_26 ⟨_, rfl, h⟩
  · replace h := x_iff hq3 h
    refine x_aload_n C 0 rfl rfl dX12_isListening_12 ?_
    refine x_get C (c := 0) (ci := 12) (k1 := 61) (v1 := .ref (ga g 35)) (enM_12 (c := 0) rfl) (Nat.le_of_ble_eq_true rfl) rfl inX12 (by decide) wf_X12_118 rfl dX12_isListening_13 ?_
    refine x_iload_n C 1 rfl rfl dX12_isListening_16 ?_
    obtain ⟨hi4, h⟩ := h
    refine x_zald C 2 (c := 35) (enM_24n (c := 35) (n := 10) rfl rfl) (Nat.le_of_ble_eq_true rfl) rfl hi4 dX12_isListening_17 ?_
    refine x_if_eq C (tgt := 25) dX12_isListening_18 (by decide) (fun hq5 => ?_) (fun hq5 => ?_)
    · replace h := x_ift hq5 h
      refine x_iconst C (v1 := 0) dX12_isListening_25 (by decide) ?_
      exact x_zret C rfl dX12_isListening_26 ⟨_, rfl, h⟩
    · replace h := x_iff hq5 h
      refine x_iconst C (v1 := 1) dX12_isListening_21 (by decide) ?_
      refine x_goto C (tgt := 26) dX12_isListening_22 (by decide) ?_
      exact x_zret C rfl dX12_isListening_26 ⟨_, rfl, h⟩
set_option maxHeartbeats 4000000 in
set_option maxRecDepth 100000 in
theorem tX12_end {g : xG} (hg : x_inj (WM g))  (l : Launch) (a0 : Int32) (a1 : Int32) (a2 : Int32) (a3 : Int32) (a4 : Int32) (M : xMem) (post : Int32 → xMem → Prop)  (h : wX12_end a0 a1 a2 a3 a4 M post) : xMet (WM g) l yX12_end cX12_end 6 (some .boolean) (rm_X12_end) [.ref (ga g 0), .int a0, .int a1, .int a2, .int a3, .int a4] M (pI post) := by
  refine x_enter (own := RX12) (L0 := [(0, .ref (ga g 0)), (1, .int a0), (2, .int a1), (3, .int a2), (4, .int a3), (5, .int a4)]) (by decide +kernel) rfl hg (x_stM g) (Nat.le_of_ble_eq_true rfl) rfl (fun x hl C => ?_)
  unfold wX12_end at h
  refine x_iload_n C 1 rfl rfl dX12_end_0 ?_
  refine x_i2l C dX12_end_1 ?_
  refine x_lconst C (v1 := 0) dX12_end_2 (by decide) ?_
  refine x_ldc2 C (v1 := 9) (wcl_X12_457) dX12_end_3 ?_
  refine x_callS C (st := []) (As := [.long ((a0 : Int32).toInt64), .long 0, .long 9]) (tX12_lies hg _ _ _ _ _ _  h) wm_X12_222 wsm_X12_lies wz_X12 wc_X12_lies yd_X12_lies rfl ⟨rfl, rfl⟩ ⟨Nat.le_of_ble_eq_true rfl, Nat.le_of_ble_eq_true rfl⟩ (Nat.le_of_ble_eq_true rfl) rfl dX12_end_6 (x_ki (fun r2 M1 h => ?_))
  refine x_if_eq C (tgt := 62) dX12_end_9 (by decide) (fun hq3 => ?_) (fun hq3 => ?_)
  · replace h := x_ift hq3 h
    refine x_iconst C (v1 := 0) dX12_end_62 (by decide) ?_
    exact x_zret C rfl dX12_end_63 ⟨_, rfl, h⟩
  · replace h := x_iff hq3 h
    refine x_iload_n C 2 rfl rfl dX12_end_12 ?_
    refine x_i2l C dX12_end_13 ?_
    refine x_lconst C (v1 := 1) dX12_end_14 (by decide) ?_
    refine x_ldc2 C (v1 := 1023) (wcl_X12_283) dX12_end_15 ?_
    refine x_callS C (st := []) (As := [.long ((a1 : Int32).toInt64), .long 1, .long 1023]) (tX12_lies hg _ _ _ _ _ _  h) wm_X12_222 wsm_X12_lies wz_X12 wc_X12_lies yd_X12_lies rfl ⟨rfl, rfl⟩ ⟨Nat.le_of_ble_eq_true rfl, Nat.le_of_ble_eq_true rfl⟩ (Nat.le_of_ble_eq_true rfl) rfl dX12_end_18 (x_ki (fun r5 M4 h => ?_))
    refine x_if_eq C (tgt := 62) dX12_end_21 (by decide) (fun hq6 => ?_) (fun hq6 => ?_)
    · replace h := x_ift hq6 h
      refine x_iconst C (v1 := 0) dX12_end_62 (by decide) ?_
      exact x_zret C rfl dX12_end_63 ⟨_, rfl, h⟩
    · replace h := x_iff hq6 h
      refine x_iload_n C 3 rfl rfl dX12_end_24 ?_
      refine x_i2l C dX12_end_25 ?_
      refine x_lconst C (v1 := 0) dX12_end_26 (by decide) ?_
      refine x_ldc2 C (v1 := 99) (wcl_X12_461) dX12_end_27 ?_
      refine x_callS C (st := []) (As := [.long ((a2 : Int32).toInt64), .long 0, .long 99]) (tX12_lies hg _ _ _ _ _ _  h) wm_X12_222 wsm_X12_lies wz_X12 wc_X12_lies yd_X12_lies rfl ⟨rfl, rfl⟩ ⟨Nat.le_of_ble_eq_true rfl, Nat.le_of_ble_eq_true rfl⟩ (Nat.le_of_ble_eq_true rfl) rfl dX12_end_30 (x_ki (fun r8 M7 h => ?_))
      refine x_if_eq C (tgt := 62) dX12_end_33 (by decide) (fun hq9 => ?_) (fun hq9 => ?_)
      · replace h := x_ift hq9 h
        refine x_iconst C (v1 := 0) dX12_end_62 (by decide) ?_
        exact x_zret C rfl dX12_end_63 ⟨_, rfl, h⟩
      · replace h := x_iff hq9 h
        refine x_iload C 4 rfl dX12_end_36 ?_
        refine x_i2l C dX12_end_38 ?_
        refine x_lconst C (v1 := 0) dX12_end_39 (by decide) ?_
        refine x_ldc2 C (v1 := 9) (wcl_X12_457) dX12_end_40 ?_
        refine x_callS C (st := []) (As := [.long ((a3 : Int32).toInt64), .long 0, .long 9]) (tX12_lies hg _ _ _ _ _ _  h) wm_X12_222 wsm_X12_lies wz_X12 wc_X12_lies yd_X12_lies rfl ⟨rfl, rfl⟩ ⟨Nat.le_of_ble_eq_true rfl, Nat.le_of_ble_eq_true rfl⟩ (Nat.le_of_ble_eq_true rfl) rfl dX12_end_43 (x_ki (fun r11 M10 h => ?_))
        refine x_if_eq C (tgt := 62) dX12_end_46 (by decide) (fun hq12 => ?_) (fun hq12 => ?_)
        · replace h := x_ift hq12 h
          refine x_iconst C (v1 := 0) dX12_end_62 (by decide) ?_
          exact x_zret C rfl dX12_end_63 ⟨_, rfl, h⟩
        · replace h := x_iff hq12 h
          refine x_iload C 5 rfl dX12_end_49 ?_
          refine x_i2l C dX12_end_51 ?_
          refine x_lconst C (v1 := 1) dX12_end_52 (by decide) ?_
          refine x_ldc2 C (v1 := 30) (wcl_X12_463) dX12_end_53 ?_
          refine x_callS C (st := []) (As := [.long ((a4 : Int32).toInt64), .long 1, .long 30]) (tX12_lies hg _ _ _ _ _ _  h) wm_X12_222 wsm_X12_lies wz_X12 wc_X12_lies yd_X12_lies rfl ⟨rfl, rfl⟩ ⟨Nat.le_of_ble_eq_true rfl, Nat.le_of_ble_eq_true rfl⟩ (Nat.le_of_ble_eq_true rfl) rfl dX12_end_56 (x_ki (fun r14 M13 h => ?_))
          refine x_if_ne C (tgt := 64) dX12_end_59 (by decide) (fun hq15 => ?_) (fun hq15 => ?_)
          · replace h := x_iff hq15 h
            refine x_aload_n C 0 rfl rfl dX12_end_64 ?_
            refine x_get C (c := 0) (ci := 12) (k1 := 51) (v1 := .ref (ga g 25)) (enM_12 (c := 0) rfl) (Nat.le_of_ble_eq_true rfl) rfl inX12 (by decide) wf_X12_88 rfl dX12_end_65 ?_
            refine x_iload_n C 1 rfl rfl dX12_end_68 ?_
            refine x_iconst C (v1 := 1) dX12_end_69 (by decide) ?_
            obtain ⟨hi16, h⟩ := h
            refine x_zast C 2 (c := 25) (enM_24n (c := 25) (n := 10) rfl rfl) (Nat.le_of_ble_eq_true rfl) rfl hi16 dX12_end_70 ?_
            refine x_nmM (fun M17 eM17 => ?_)
            replace h := h M17 eM17
            refine x_aload_n C 0 rfl rfl dX12_end_71 ?_
            refine x_get C (c := 0) (ci := 12) (k1 := 52) (v1 := .ref (ga g 26)) (enM_12 (c := 0) rfl) (Nat.le_of_ble_eq_true rfl) rfl inX12 (by decide) wf_X12_91 rfl dX12_end_72 ?_
            refine x_iload_n C 1 rfl rfl dX12_end_75 ?_
            refine x_iload_n C 2 rfl rfl dX12_end_76 ?_
            obtain ⟨hi18, h⟩ := h
            refine x_iast C 0 (c := 26) (enM_20n (c := 26) (n := 10) rfl rfl) (Nat.le_of_ble_eq_true rfl) rfl hi18 dX12_end_77 ?_
            refine x_nmM (fun M19 eM19 => ?_)
            replace h := h M19 eM19
            refine x_aload_n C 0 rfl rfl dX12_end_78 ?_
            refine x_get C (c := 0) (ci := 12) (k1 := 53) (v1 := .ref (ga g 27)) (enM_12 (c := 0) rfl) (Nat.le_of_ble_eq_true rfl) rfl inX12 (by decide) wf_X12_94 rfl dX12_end_79 ?_
            refine x_iload_n C 1 rfl rfl dX12_end_82 ?_
            refine x_iload_n C 3 rfl rfl dX12_end_83 ?_
            obtain ⟨hi20, h⟩ := h
            refine x_iast C 0 (c := 27) (enM_20n (c := 27) (n := 10) rfl rfl) (Nat.le_of_ble_eq_true rfl) rfl hi20 dX12_end_84 ?_
            refine x_nmM (fun M21 eM21 => ?_)
            replace h := h M21 eM21
            refine x_aload_n C 0 rfl rfl dX12_end_85 ?_
            refine x_get C (c := 0) (ci := 12) (k1 := 54) (v1 := .ref (ga g 28)) (enM_12 (c := 0) rfl) (Nat.le_of_ble_eq_true rfl) rfl inX12 (by decide) wf_X12_97 rfl dX12_end_86 ?_
            refine x_iload_n C 1 rfl rfl dX12_end_89 ?_
            refine x_iload C 4 rfl dX12_end_90 ?_
            obtain ⟨hi22, h⟩ := h
            refine x_iast C 0 (c := 28) (enM_20n (c := 28) (n := 10) rfl rfl) (Nat.le_of_ble_eq_true rfl) rfl hi22 dX12_end_92 ?_
            refine x_nmM (fun M23 eM23 => ?_)
            replace h := h M23 eM23
            refine x_aload_n C 0 rfl rfl dX12_end_93 ?_
            refine x_get C (c := 0) (ci := 12) (k1 := 55) (v1 := .ref (ga g 29)) (enM_12 (c := 0) rfl) (Nat.le_of_ble_eq_true rfl) rfl inX12 (by decide) wf_X12_100 rfl dX12_end_94 ?_
            refine x_iload_n C 1 rfl rfl dX12_end_97 ?_
            refine x_iload C 5 rfl dX12_end_98 ?_
            obtain ⟨hi24, h⟩ := h
            refine x_iast C 0 (c := 29) (enM_20n (c := 29) (n := 10) rfl rfl) (Nat.le_of_ble_eq_true rfl) rfl hi24 dX12_end_100 ?_
            refine x_nmM (fun M25 eM25 => ?_)
            replace h := h M25 eM25
            refine x_iconst C (v1 := 1) dX12_end_101 (by decide) ?_
            exact x_zret C rfl dX12_end_102 ⟨_, rfl, h⟩
          · replace h := x_ift hq15 h
            refine x_iconst C (v1 := 0) dX12_end_62 (by decide) ?_
            exact x_zret C rfl dX12_end_63 ⟨_, rfl, h⟩
set_option maxHeartbeats 4000000 in
set_option maxRecDepth 100000 in
theorem tX12_teller {g : xG} (hg : x_inj (WM g))  (l : Launch) (a0 : Int32) (a1 : Int32) (a2 : Int32) (M : xMem) (post : Int32 → xMem → Prop)  (h : wX12_teller a0 a1 a2 M post) : xMet (WM g) l yX12_teller cX12_teller 4 (some .boolean) (rm_X12_teller) [.ref (ga g 0), .int a0, .int a1, .int a2] M (pI post) := by
  refine x_enter (own := RX12) (L0 := [(0, .ref (ga g 0)), (1, .int a0), (2, .int a1), (3, .int a2)]) (by decide +kernel) rfl hg (x_stM g) (Nat.le_of_ble_eq_true rfl) rfl (fun x hl C => ?_)
  unfold wX12_teller at h
  refine x_iload_n C 1 rfl rfl dX12_teller_0 ?_
  refine x_i2l C dX12_teller_1 ?_
  refine x_lconst C (v1 := 0) dX12_teller_2 (by decide) ?_
  refine x_ldc2 C (v1 := 3) (wcl_X12_459) dX12_teller_3 ?_
  refine x_callS C (st := []) (As := [.long ((a0 : Int32).toInt64), .long 0, .long 3]) (tX12_lies hg _ _ _ _ _ _  h) wm_X12_222 wsm_X12_lies wz_X12 wc_X12_lies yd_X12_lies rfl ⟨rfl, rfl⟩ ⟨Nat.le_of_ble_eq_true rfl, Nat.le_of_ble_eq_true rfl⟩ (Nat.le_of_ble_eq_true rfl) rfl dX12_teller_6 (x_ki (fun r2 M1 h => ?_))
  refine x_if_eq C (tgt := 32) dX12_teller_9 (by decide) (fun hq3 => ?_) (fun hq3 => ?_)
  · replace h := x_ift hq3 h
    refine x_iconst C (v1 := 0) dX12_teller_32 (by decide) ?_
    exact x_zret C rfl dX12_teller_33 ⟨_, rfl, h⟩
  · replace h := x_iff hq3 h
    refine x_aload_n C 0 rfl rfl dX12_teller_12 ?_
    refine x_iload_n C 2 rfl rfl dX12_teller_13 ?_
    refine x_callV C (st := []) (As := [.int a1]) (c := 0) (ci := 12) (enM_12 (c := 0) rfl) (Nat.le_of_ble_eq_true rfl) rfl (tX12_isTold hg _ _ _ _  h) wm_X12_279 wi_X12_isTold wv_X12_isTold wz_X12 wc_X12_isTold rfl yd_X12_isTold rfl ⟨rfl, rfl⟩ ⟨Nat.le_of_ble_eq_true rfl, Nat.le_of_ble_eq_true rfl⟩ (Nat.le_of_ble_eq_true rfl) rfl dX12_teller_14 (x_ki (fun r5 M4 h => ?_))
    refine x_if_eq C (tgt := 32) dX12_teller_17 (by decide) (fun hq6 => ?_) (fun hq6 => ?_)
    · replace h := x_ift hq6 h
      refine x_iconst C (v1 := 0) dX12_teller_32 (by decide) ?_
      exact x_zret C rfl dX12_teller_33 ⟨_, rfl, h⟩
    · replace h := x_iff hq6 h
      refine x_iload_n C 3 rfl rfl dX12_teller_20 ?_
      refine x_i2l C dX12_teller_21 ?_
      refine x_lconst C (v1 := 0) dX12_teller_22 (by decide) ?_
      refine x_ldc2 C (v1 := 9999) (wcl_X12_465) dX12_teller_23 ?_
      refine x_callS C (st := []) (As := [.long ((a2 : Int32).toInt64), .long 0, .long 9999]) (tX12_lies hg _ _ _ _ _ _  h) wm_X12_222 wsm_X12_lies wz_X12 wc_X12_lies yd_X12_lies rfl ⟨rfl, rfl⟩ ⟨Nat.le_of_ble_eq_true rfl, Nat.le_of_ble_eq_true rfl⟩ (Nat.le_of_ble_eq_true rfl) rfl dX12_teller_26 (x_ki (fun r8 M7 h => ?_))
      refine x_if_ne C (tgt := 34) dX12_teller_29 (by decide) (fun hq9 => ?_) (fun hq9 => ?_)
      · replace h := x_iff hq9 h
        refine x_aload_n C 0 rfl rfl dX12_teller_34 ?_
        refine x_get C (c := 0) (ci := 12) (k1 := 56) (v1 := .ref (ga g 30)) (enM_12 (c := 0) rfl) (Nat.le_of_ble_eq_true rfl) rfl inX12 (by decide) wf_X12_103 rfl dX12_teller_35 ?_
        refine x_iload_n C 1 rfl rfl dX12_teller_38 ?_
        refine x_iconst C (v1 := 1) dX12_teller_39 (by decide) ?_
        obtain ⟨hi10, h⟩ := h
        refine x_zast C 2 (c := 30) (enM_24n (c := 30) (n := 4) rfl rfl) (Nat.le_of_ble_eq_true rfl) rfl hi10 dX12_teller_40 ?_
        refine x_nmM (fun M11 eM11 => ?_)
        replace h := h M11 eM11
        refine x_aload_n C 0 rfl rfl dX12_teller_41 ?_
        refine x_get C (c := 0) (ci := 12) (k1 := 57) (v1 := .ref (ga g 31)) (enM_12 (c := 0) rfl) (Nat.le_of_ble_eq_true rfl) rfl inX12 (by decide) wf_X12_106 rfl dX12_teller_42 ?_
        refine x_iload_n C 1 rfl rfl dX12_teller_45 ?_
        refine x_iload_n C 2 rfl rfl dX12_teller_46 ?_
        obtain ⟨hi12, h⟩ := h
        refine x_iast C 0 (c := 31) (enM_20n (c := 31) (n := 4) rfl rfl) (Nat.le_of_ble_eq_true rfl) rfl hi12 dX12_teller_47 ?_
        refine x_nmM (fun M13 eM13 => ?_)
        replace h := h M13 eM13
        refine x_aload_n C 0 rfl rfl dX12_teller_48 ?_
        refine x_get C (c := 0) (ci := 12) (k1 := 58) (v1 := .ref (ga g 32)) (enM_12 (c := 0) rfl) (Nat.le_of_ble_eq_true rfl) rfl inX12 (by decide) wf_X12_109 rfl dX12_teller_49 ?_
        refine x_iload_n C 1 rfl rfl dX12_teller_52 ?_
        refine x_iload_n C 3 rfl rfl dX12_teller_53 ?_
        obtain ⟨hi14, h⟩ := h
        refine x_iast C 0 (c := 32) (enM_20n (c := 32) (n := 4) rfl rfl) (Nat.le_of_ble_eq_true rfl) rfl hi14 dX12_teller_54 ?_
        refine x_nmM (fun M15 eM15 => ?_)
        replace h := h M15 eM15
        refine x_aload_n C 0 rfl rfl dX12_teller_55 ?_
        refine x_get C (c := 0) (ci := 12) (k1 := 59) (v1 := .ref (ga g 33)) (enM_12 (c := 0) rfl) (Nat.le_of_ble_eq_true rfl) rfl inX12 (by decide) wf_X12_112 rfl dX12_teller_56 ?_
        refine x_iload_n C 1 rfl rfl dX12_teller_59 ?_
        refine x_iconst C (v1 := 0) dX12_teller_60 (by decide) ?_
        obtain ⟨hi16, h⟩ := h
        refine x_iast C 0 (c := 33) (enM_20n (c := 33) (n := 4) rfl rfl) (Nat.le_of_ble_eq_true rfl) rfl hi16 dX12_teller_61 ?_
        refine x_nmM (fun M17 eM17 => ?_)
        replace h := h M17 eM17
        refine x_aload_n C 0 rfl rfl dX12_teller_62 ?_
        refine x_get C (c := 0) (ci := 12) (k1 := 60) (v1 := .ref (ga g 34)) (enM_12 (c := 0) rfl) (Nat.le_of_ble_eq_true rfl) rfl inX12 (by decide) wf_X12_115 rfl dX12_teller_63 ?_
        refine x_iload_n C 1 rfl rfl dX12_teller_66 ?_
        refine x_iconst C (v1 := 0) dX12_teller_67 (by decide) ?_
        obtain ⟨hi18, h⟩ := h
        refine x_iast C 0 (c := 34) (enM_20n (c := 34) (n := 4) rfl rfl) (Nat.le_of_ble_eq_true rfl) rfl hi18 dX12_teller_68 ?_
        refine x_nmM (fun M19 eM19 => ?_)
        replace h := h M19 eM19
        refine x_iconst C (v1 := 1) dX12_teller_69 (by decide) ?_
        exact x_zret C rfl dX12_teller_70 ⟨_, rfl, h⟩
      · replace h := x_ift hq9 h
        refine x_iconst C (v1 := 0) dX12_teller_32 (by decide) ?_
        exact x_zret C rfl dX12_teller_33 ⟨_, rfl, h⟩
set_option maxHeartbeats 4000000 in
set_option maxRecDepth 100000 in
theorem tX12_listener {g : xG} (hg : x_inj (WM g))  (l : Launch) (a0 : Int32) (a1 : Int32) (a2 : Int32) (M : xMem) (post : Int32 → xMem → Prop)  (h : wX12_listener a0 a1 a2 M post) : xMet (WM g) l yX12_listener cX12_listener 4 (some .boolean) (rm_X12_listener) [.ref (ga g 0), .int a0, .int a1, .int a2] M (pI post) := by
  refine x_enter (own := RX12) (L0 := [(0, .ref (ga g 0)), (1, .int a0), (2, .int a1), (3, .int a2)]) (by decide +kernel) rfl hg (x_stM g) (Nat.le_of_ble_eq_true rfl) rfl (fun x hl C => ?_)
  unfold wX12_listener at h
  refine x_iload_n C 1 rfl rfl dX12_listener_0 ?_
  refine x_i2l C dX12_listener_1 ?_
  refine x_lconst C (v1 := 0) dX12_listener_2 (by decide) ?_
  refine x_ldc2 C (v1 := 9) (wcl_X12_457) dX12_listener_3 ?_
  refine x_callS C (st := []) (As := [.long ((a0 : Int32).toInt64), .long 0, .long 9]) (tX12_lies hg _ _ _ _ _ _  h) wm_X12_222 wsm_X12_lies wz_X12 wc_X12_lies yd_X12_lies rfl ⟨rfl, rfl⟩ ⟨Nat.le_of_ble_eq_true rfl, Nat.le_of_ble_eq_true rfl⟩ (Nat.le_of_ble_eq_true rfl) rfl dX12_listener_6 (x_ki (fun r2 M1 h => ?_))
  refine x_if_eq C (tgt := 32) dX12_listener_9 (by decide) (fun hq3 => ?_) (fun hq3 => ?_)
  · replace h := x_ift hq3 h
    refine x_iconst C (v1 := 0) dX12_listener_32 (by decide) ?_
    exact x_zret C rfl dX12_listener_33 ⟨_, rfl, h⟩
  · replace h := x_iff hq3 h
    refine x_aload_n C 0 rfl rfl dX12_listener_12 ?_
    refine x_iload_n C 2 rfl rfl dX12_listener_13 ?_
    refine x_callV C (st := []) (As := [.int a1]) (c := 0) (ci := 12) (enM_12 (c := 0) rfl) (Nat.le_of_ble_eq_true rfl) rfl (tX12_isTelling hg _ _ _ _  h) wm_X12_467 wi_X12_isTelling wv_X12_isTelling wz_X12 wc_X12_isTelling rfl yd_X12_isTelling rfl ⟨rfl, rfl⟩ ⟨Nat.le_of_ble_eq_true rfl, Nat.le_of_ble_eq_true rfl⟩ (Nat.le_of_ble_eq_true rfl) rfl dX12_listener_14 (x_ki (fun r5 M4 h => ?_))
    refine x_if_eq C (tgt := 32) dX12_listener_17 (by decide) (fun hq6 => ?_) (fun hq6 => ?_)
    · replace h := x_ift hq6 h
      refine x_iconst C (v1 := 0) dX12_listener_32 (by decide) ?_
      exact x_zret C rfl dX12_listener_33 ⟨_, rfl, h⟩
    · replace h := x_iff hq6 h
      refine x_iload_n C 3 rfl rfl dX12_listener_20 ?_
      refine x_i2l C dX12_listener_21 ?_
      refine x_lconst C (v1 := 0) dX12_listener_22 (by decide) ?_
      refine x_ldc2 C (v1 := 99) (wcl_X12_461) dX12_listener_23 ?_
      refine x_callS C (st := []) (As := [.long ((a2 : Int32).toInt64), .long 0, .long 99]) (tX12_lies hg _ _ _ _ _ _  h) wm_X12_222 wsm_X12_lies wz_X12 wc_X12_lies yd_X12_lies rfl ⟨rfl, rfl⟩ ⟨Nat.le_of_ble_eq_true rfl, Nat.le_of_ble_eq_true rfl⟩ (Nat.le_of_ble_eq_true rfl) rfl dX12_listener_26 (x_ki (fun r8 M7 h => ?_))
      refine x_if_ne C (tgt := 34) dX12_listener_29 (by decide) (fun hq9 => ?_) (fun hq9 => ?_)
      · replace h := x_iff hq9 h
        refine x_aload_n C 0 rfl rfl dX12_listener_34 ?_
        refine x_get C (c := 0) (ci := 12) (k1 := 61) (v1 := .ref (ga g 35)) (enM_12 (c := 0) rfl) (Nat.le_of_ble_eq_true rfl) rfl inX12 (by decide) wf_X12_118 rfl dX12_listener_35 ?_
        refine x_iload_n C 1 rfl rfl dX12_listener_38 ?_
        refine x_iconst C (v1 := 1) dX12_listener_39 (by decide) ?_
        obtain ⟨hi10, h⟩ := h
        refine x_zast C 2 (c := 35) (enM_24n (c := 35) (n := 10) rfl rfl) (Nat.le_of_ble_eq_true rfl) rfl hi10 dX12_listener_40 ?_
        refine x_nmM (fun M11 eM11 => ?_)
        replace h := h M11 eM11
        refine x_aload_n C 0 rfl rfl dX12_listener_41 ?_
        refine x_get C (c := 0) (ci := 12) (k1 := 62) (v1 := .ref (ga g 36)) (enM_12 (c := 0) rfl) (Nat.le_of_ble_eq_true rfl) rfl inX12 (by decide) wf_X12_121 rfl dX12_listener_42 ?_
        refine x_iload_n C 1 rfl rfl dX12_listener_45 ?_
        refine x_iload_n C 2 rfl rfl dX12_listener_46 ?_
        obtain ⟨hi12, h⟩ := h
        refine x_iast C 0 (c := 36) (enM_20n (c := 36) (n := 10) rfl rfl) (Nat.le_of_ble_eq_true rfl) rfl hi12 dX12_listener_47 ?_
        refine x_nmM (fun M13 eM13 => ?_)
        replace h := h M13 eM13
        refine x_aload_n C 0 rfl rfl dX12_listener_48 ?_
        refine x_get C (c := 0) (ci := 12) (k1 := 63) (v1 := .ref (ga g 37)) (enM_12 (c := 0) rfl) (Nat.le_of_ble_eq_true rfl) rfl inX12 (by decide) wf_X12_124 rfl dX12_listener_49 ?_
        refine x_iload_n C 1 rfl rfl dX12_listener_52 ?_
        refine x_iload_n C 3 rfl rfl dX12_listener_53 ?_
        obtain ⟨hi14, h⟩ := h
        refine x_iast C 0 (c := 37) (enM_20n (c := 37) (n := 10) rfl rfl) (Nat.le_of_ble_eq_true rfl) rfl hi14 dX12_listener_54 ?_
        refine x_nmM (fun M15 eM15 => ?_)
        replace h := h M15 eM15
        refine x_aload_n C 0 rfl rfl dX12_listener_55 ?_
        refine x_get C (c := 0) (ci := 12) (k1 := 64) (v1 := .ref (ga g 38)) (enM_12 (c := 0) rfl) (Nat.le_of_ble_eq_true rfl) rfl inX12 (by decide) wf_X12_127 rfl dX12_listener_56 ?_
        refine x_iload_n C 1 rfl rfl dX12_listener_59 ?_
        refine x_iconst C (v1 := 0) dX12_listener_60 (by decide) ?_
        obtain ⟨hi16, h⟩ := h
        refine x_iast C 0 (c := 38) (enM_20n (c := 38) (n := 10) rfl rfl) (Nat.le_of_ble_eq_true rfl) rfl hi16 dX12_listener_61 ?_
        refine x_nmM (fun M17 eM17 => ?_)
        replace h := h M17 eM17
        refine x_iconst C (v1 := 1) dX12_listener_62 (by decide) ?_
        exact x_zret C rfl dX12_listener_63 ⟨_, rfl, h⟩
      · replace h := x_ift hq9 h
        refine x_iconst C (v1 := 0) dX12_listener_32 (by decide) ?_
        exact x_zret C rfl dX12_listener_33 ⟨_, rfl, h⟩
set_option maxHeartbeats 4000000 in
set_option maxRecDepth 100000 in
theorem tX12_laysCheapest_197 {g : xG} (hg : x_inj (WM g))  {x : xCx}  {K68 : Int32 → Int32 → Int32 → xMem → Prop} {post : Int32 → xMem → Prop} (C : xOk (WM g) x cX12_laysCheapest RX12 7 (some .boolean) (rm_X12_laysCheapest) (pI post))  (hK68 : ∀ (x1 : Int32) (x2 : Int32) (x3 : Int32) (M : xMem), K68 x1 x2 x3 M → xW (WM g) x 7 68 [(0, .ref (ga g 0)), (1, .int x1), (2, .int x2), (3, .int x3)] [] M) (x1 : Int32) (x2 : Int32) (x3 : Int32) (M : xMem)  (h : wX12_laysCheapest_197 K68 post x1 x2 x3 M) : xW (WM g) x 7 197 [(0, .ref (ga g 0)), (1, .int x1), (2, .int x2), (3, .int x3)] [] M := by
  unfold wX12_laysCheapest_197 at h
  obtain ⟨v1, ev1⟩ : ∃ z : Int32, z = x3 + 1 := ⟨_, rfl⟩
  replace h := h v1 ev1
  refine x_iinc C 3 (v1 := v1) (L' := [(3, .int v1), (0, .ref (ga g 0)), (1, .int x1), (2, .int x2)]) rfl (by rw [ev1]; rfl) rfl (Nat.le_of_ble_eq_true rfl) dX12_laysCheapest_197 ?_
  refine x_goto C (tgt := 68) dX12_laysCheapest_200 (by decide) ?_
  refine x_loc (L' := [(0, .ref (ga g 0)), (1, .int x1), (2, .int x2), (3, .int v1)]) [1, 2, 3, 0] rfl ?_
  exact hK68 _ _ _ _  h
set_option maxHeartbeats 4000000 in
set_option maxRecDepth 100000 in
theorem tX12_laysCheapest_186 {g : xG} (hg : x_inj (WM g))  {x : xCx}  {K68 : Int32 → Int32 → Int32 → xMem → Prop} {post : Int32 → xMem → Prop} (C : xOk (WM g) x cX12_laysCheapest RX12 7 (some .boolean) (rm_X12_laysCheapest) (pI post))  (hK68 : ∀ (x1 : Int32) (x2 : Int32) (x3 : Int32) (M : xMem), K68 x1 x2 x3 M → xW (WM g) x 7 68 [(0, .ref (ga g 0)), (1, .int x1), (2, .int x2), (3, .int x3)] [] M) (x1 : Int32) (x2 : Int32) (x3 : Int32) (x5 : Int32) (M : xMem)  (h : wX12_laysCheapest_186 K68 post x1 x2 x3 x5 M) : xW (WM g) x 7 186 [(0, .ref (ga g 0)), (1, .int x1), (2, .int x2), (3, .int x3), (5, .int x5)] [] M := by
  unfold wX12_laysCheapest_186 at h
  refine x_aload_n C 0 rfl rfl dX12_laysCheapest_186 ?_
  refine x_iload_n C 3 rfl rfl dX12_laysCheapest_187 ?_
  refine x_put C (c := 0) (ci := 12) (k1 := 69) (u1 := x3) (v1 := .int x3) (ty := .int) (enM_12 (c := 0) rfl) (Nat.le_of_ble_eq_true rfl) rfl inX12 (by decide) (stX12_69 _ _ _) tyX12 tyX12_ok nmX12 wf_X12_473 rfl rfl rfl rfl (Nat.le_of_ble_eq_true rfl) dX12_laysCheapest_188 ?_
  refine x_nmM (fun M1 eM1 => ?_)
  replace h := h M1 eM1
  refine x_aload_n C 0 rfl rfl dX12_laysCheapest_191 ?_
  refine x_iload C 4 rfl dX12_laysCheapest_192 ?_
  refine x_put C (c := 0) (ci := 12) (k1 := 70) (u1 := x5) (v1 := .int x5) (ty := .int) (enM_12 (c := 0) rfl) (Nat.le_of_ble_eq_true rfl) rfl inX12 (by decide) (stX12_70 _ _ _) tyX12 tyX12_ok nmX12 wf_X12_477 rfl rfl rfl rfl (Nat.le_of_ble_eq_true rfl) dX12_laysCheapest_194 ?_
  refine x_nmM (fun M2 eM2 => ?_)
  replace h := h M2 eM2
  refine x_loc (L' := [(0, .ref (ga g 0)), (1, .int x1), (2, .int x2), (3, .int x3)]) [0, 1, 2, 3] rfl ?_
  exact tX12_laysCheapest_197 hg  C  hK68 _ _ _ _  h
set_option maxHeartbeats 4000000 in
set_option maxRecDepth 100000 in
theorem tX12_laysCheapest_136 {g : xG} (hg : x_inj (WM g))  {x : xCx}  {K68 : Int32 → Int32 → Int32 → xMem → Prop} {K93 : Int32 → Int32 → Int32 → Int32 → Int32 → Int32 → xMem → Prop} {post : Int32 → xMem → Prop} (C : xOk (WM g) x cX12_laysCheapest RX12 7 (some .boolean) (rm_X12_laysCheapest) (pI post))  (hK68 : ∀ (x1 : Int32) (x2 : Int32) (x3 : Int32) (M : xMem), K68 x1 x2 x3 M → xW (WM g) x 7 68 [(0, .ref (ga g 0)), (1, .int x1), (2, .int x2), (3, .int x3)] [] M) (hK93 : ∀ (x1 : Int32) (x2 : Int32) (x3 : Int32) (x4 : Int32) (x5 : Int32) (x6 : Int32) (M : xMem), K93 x1 x2 x3 x4 x5 x6 M → xW (WM g) x 7 93 [(0, .ref (ga g 0)), (1, .int x1), (2, .int x2), (3, .int x3), (4, .int x4), (5, .int x5), (6, .int x6)] [] M) (x1 : Int32) (x2 : Int32) (x3 : Int32) (x4 : Int32) (x5 : Int32) (x6 : Int32) (M : xMem)  (h : wX12_laysCheapest_136 K68 K93 post x1 x2 x3 x4 x5 x6 M) : xW (WM g) x 7 136 [(0, .ref (ga g 0)), (1, .int x1), (2, .int x2), (3, .int x3), (4, .int x4), (5, .int x5), (6, .int x6)] [] M := by
  unfold wX12_laysCheapest_136 at h
  obtain ⟨v1, ev1⟩ : ∃ z : Int32, z = x6 + 1 := ⟨_, rfl⟩
  replace h := h v1 ev1
  refine x_iinc C 6 (v1 := v1) (L' := [(6, .int v1), (0, .ref (ga g 0)), (1, .int x1), (2, .int x2), (3, .int x3), (4, .int x4), (5, .int x5)]) rfl (by rw [ev1]; rfl) rfl (Nat.le_of_ble_eq_true rfl) dX12_laysCheapest_136 ?_
  refine x_goto C (tgt := 93) dX12_laysCheapest_139 (by decide) ?_
  refine x_loc (L' := [(0, .ref (ga g 0)), (1, .int x1), (2, .int x2), (3, .int x3), (4, .int x4), (5, .int x5), (6, .int v1)]) [1, 2, 3, 4, 5, 6, 0] rfl ?_
  exact hK93 _ _ _ _ _ _ _  h
set_option maxHeartbeats 4000000 in
set_option maxRecDepth 100000 in
theorem tX12_laysCheapest_93 {g : xG} (hg : x_inj (WM g))  {x : xCx}  {K68 : Int32 → Int32 → Int32 → xMem → Prop} {post : Int32 → xMem → Prop} (C : xOk (WM g) x cX12_laysCheapest RX12 7 (some .boolean) (rm_X12_laysCheapest) (pI post))  (hK68 : ∀ (x1 : Int32) (x2 : Int32) (x3 : Int32) (M : xMem), K68 x1 x2 x3 M → xW (WM g) x 7 68 [(0, .ref (ga g 0)), (1, .int x1), (2, .int x2), (3, .int x3)] [] M) : ∀ (n : Nat) (x1 : Int32) (x2 : Int32) (x3 : Int32) (x4 : Int32) (x5 : Int32) (x6 : Int32) (M : xMem), wX12_laysCheapest_93 K68 post n x1 x2 x3 x4 x5 x6 M → xW (WM g) x 7 93 [(0, .ref (ga g 0)), (1, .int x1), (2, .int x2), (3, .int x3), (4, .int x4), (5, .int x5), (6, .int x6)] [] M := by
  intro n
  induction n with
  | zero =>
    intro x1 x2 x3 x4 x5 x6 M  h
    exact h.elim
  | succ n ih =>
    intro x1 x2 x3 x4 x5 x6 M  h
    rw [wX12_laysCheapest_93] at h
    refine x_iload C 6 rfl dX12_laysCheapest_93 ?_
    refine x_bipush C (v1 := 10) dX12_laysCheapest_95 (by decide) ?_
    refine x_icmp_ge C (tgt := 142) dX12_laysCheapest_97 (by decide) (fun hq1 => ?_) (fun hq1 => ?_)
    · replace h := x_ift hq1 h
      refine x_iload_n C 1 rfl rfl dX12_laysCheapest_142 ?_
      refine x_iload C 4 rfl dX12_laysCheapest_143 ?_
      refine x_iconst C (v1 := (-1)) dX12_laysCheapest_145 (by decide) ?_
      refine x_ixor C dX12_laysCheapest_146 ?_
      refine x_iand C dX12_laysCheapest_147 ?_
      refine x_if_ne C (tgt := 197) dX12_laysCheapest_148 (by decide) (fun hq2 => ?_) (fun hq2 => ?_)
      · replace h := x_iff hq2 h
        refine x_loc (L' := [(0, .ref (ga g 0)), (1, .int x1), (2, .int x2), (3, .int x3)]) [0, 1, 2, 3] rfl ?_
        exact tX12_laysCheapest_197 hg  C  hK68 _ _ _ _  h
      · replace h := x_ift hq2 h
        refine x_iload C 5 rfl dX12_laysCheapest_151 ?_
        refine x_aload_n C 0 rfl rfl dX12_laysCheapest_153 ?_
        refine x_get C (c := 0) (ci := 12) (k1 := 70) (v1 := .int (gi M 0 70)) (enM_12 (c := 0) rfl) (Nat.le_of_ble_eq_true rfl) rfl inX12 (by decide) wf_X12_477 rfl dX12_laysCheapest_154 ?_
        refine x_icmp_gt C (tgt := 197) dX12_laysCheapest_157 (by decide) (fun hq3 => ?_) (fun hq3 => ?_)
        · replace h := x_ift hq3 h
          refine x_loc (L' := [(0, .ref (ga g 0)), (1, .int x1), (2, .int x2), (3, .int x3)]) [0, 1, 2, 3] rfl ?_
          exact tX12_laysCheapest_197 hg  C  hK68 _ _ _ _  h
        · replace h := x_iff hq3 h
          refine x_iload C 5 rfl dX12_laysCheapest_160 ?_
          refine x_aload_n C 0 rfl rfl dX12_laysCheapest_162 ?_
          refine x_get C (c := 0) (ci := 12) (k1 := 70) (v1 := .int (gi M 0 70)) (enM_12 (c := 0) rfl) (Nat.le_of_ble_eq_true rfl) rfl inX12 (by decide) wf_X12_477 rfl dX12_laysCheapest_163 ?_
          refine x_icmp_ne C (tgt := 186) dX12_laysCheapest_166 (by decide) (fun hq4 => ?_) (fun hq4 => ?_)
          · replace h := x_iff hq4 h
            refine x_loc (L' := [(0, .ref (ga g 0)), (1, .int x1), (2, .int x2), (3, .int x3), (5, .int x5)]) [0, 1, 2, 3, 5] rfl ?_
            exact tX12_laysCheapest_186 hg  C  hK68 _ _ _ _ _  h
          · replace h := x_ift hq4 h
            refine x_iload_n C 3 rfl rfl dX12_laysCheapest_169 ?_
            refine x_callS C (st := []) (As := [.int x3]) (tX12_sizeOf hg _ _ _ _  h) wm_X12_289 wsm_X12_sizeOf wz_X12 wc_X12_sizeOf yd_X12_sizeOf rfl ⟨rfl, rfl⟩ ⟨Nat.le_of_ble_eq_true rfl, Nat.le_of_ble_eq_true rfl⟩ (Nat.le_of_ble_eq_true rfl) rfl dX12_laysCheapest_170 (x_ki (fun r6 M5 h => ?_))
            refine x_aload_n C 0 rfl rfl dX12_laysCheapest_173 ?_
            refine x_get C (c := 0) (ci := 12) (k1 := 69) (v1 := .int (gi M5 0 69)) (enM_12 (c := 0) rfl) (Nat.le_of_ble_eq_true rfl) rfl inX12 (by decide) wf_X12_473 rfl dX12_laysCheapest_174 ?_
            refine x_callS C (st := [.int r6]) (As := [.int (gi M5 0 69)]) (tX12_sizeOf hg _ _ _ _  h) wm_X12_289 wsm_X12_sizeOf wz_X12 wc_X12_sizeOf yd_X12_sizeOf rfl ⟨rfl, rfl⟩ ⟨Nat.le_of_ble_eq_true rfl, Nat.le_of_ble_eq_true rfl⟩ (Nat.le_of_ble_eq_true rfl) rfl dX12_laysCheapest_177 (x_ki (fun r8 M7 h => ?_))
            refine x_icmp_lt C (tgt := 186) dX12_laysCheapest_180 (by decide) (fun hq9 => ?_) (fun hq9 => ?_)
            · replace h := x_ift hq9 h
              refine x_loc (L' := [(0, .ref (ga g 0)), (1, .int x1), (2, .int x2), (3, .int x3), (5, .int x5)]) [0, 1, 2, 3, 5] rfl ?_
              exact tX12_laysCheapest_186 hg  C  hK68 _ _ _ _ _  h
            · replace h := x_iff hq9 h
              refine x_goto C (tgt := 197) dX12_laysCheapest_183 (by decide) ?_
              refine x_loc (L' := [(0, .ref (ga g 0)), (1, .int x1), (2, .int x2), (3, .int x3)]) [0, 1, 2, 3] rfl ?_
              exact tX12_laysCheapest_197 hg  C  hK68 _ _ _ _  h
    · replace h := x_iff hq1 h
      refine x_iload_n C 3 rfl rfl dX12_laysCheapest_100 ?_
      refine x_iload C 6 rfl dX12_laysCheapest_101 ?_
      refine x_callS C (st := []) (As := [.int x3, .int x6]) (tX12_has hg _ _ _ _ _  h) wm_X12_194 wsm_X12_has wz_X12 wc_X12_has yd_X12_has rfl ⟨rfl, rfl⟩ ⟨Nat.le_of_ble_eq_true rfl, Nat.le_of_ble_eq_true rfl⟩ (Nat.le_of_ble_eq_true rfl) rfl dX12_laysCheapest_103 (x_ki (fun r11 M10 h => ?_))
      refine x_if_ne C (tgt := 112) dX12_laysCheapest_106 (by decide) (fun hq12 => ?_) (fun hq12 => ?_)
      · replace h := x_iff hq12 h
        refine x_iload C 4 rfl dX12_laysCheapest_112 ?_
        refine x_aload_n C 0 rfl rfl dX12_laysCheapest_114 ?_
        refine x_get C (c := 0) (ci := 12) (k1 := 52) (v1 := .ref (ga g 26)) (enM_12 (c := 0) rfl) (Nat.le_of_ble_eq_true rfl) rfl inX12 (by decide) wf_X12_91 rfl dX12_laysCheapest_115 ?_
        refine x_iload C 6 rfl dX12_laysCheapest_118 ?_
        obtain ⟨hi13, h⟩ := h
        refine x_iald C 0 (c := 26) (enM_20n (c := 26) (n := 10) rfl rfl) (Nat.le_of_ble_eq_true rfl) rfl hi13 dX12_laysCheapest_120 ?_
        refine x_ior C dX12_laysCheapest_121 ?_
        refine x_nm (fun v14 ev14 => ?_)
        replace h := h v14 ev14
        refine x_istore C (L' := [(4, .int v14), (0, .ref (ga g 0)), (1, .int x1), (2, .int x2), (3, .int x3), (5, .int x5), (6, .int x6)]) rfl (Nat.le_of_ble_eq_true rfl) dX12_laysCheapest_122 ?_
        refine x_iload C 5 rfl dX12_laysCheapest_124 ?_
        refine x_aload_n C 1 rfl rfl dX12_laysCheapest_126 ?_
        refine x_get C (c := 0) (ci := 12) (k1 := 68) (v1 := .ref (ga g 39)) (enM_12 (c := 0) rfl) (Nat.le_of_ble_eq_true rfl) rfl inX12 (by decide) wf_X12_130 rfl dX12_laysCheapest_127 ?_
        refine x_iload C 6 rfl dX12_laysCheapest_130 ?_
        obtain ⟨hi15, h⟩ := h
        refine x_iald C 0 (c := 39) (enM_20n (c := 39) (n := 10) rfl rfl) (Nat.le_of_ble_eq_true rfl) rfl hi15 dX12_laysCheapest_132 ?_
        refine x_iadd C dX12_laysCheapest_133 ?_
        refine x_nm (fun v16 ev16 => ?_)
        replace h := h v16 ev16
        refine x_istore C (L' := [(5, .int v16), (4, .int v14), (0, .ref (ga g 0)), (1, .int x1), (2, .int x2), (3, .int x3), (6, .int x6)]) rfl (Nat.le_of_ble_eq_true rfl) dX12_laysCheapest_134 ?_
        refine x_loc (L' := [(0, .ref (ga g 0)), (1, .int x1), (2, .int x2), (3, .int x3), (4, .int v14), (5, .int v16), (6, .int x6)]) [2, 3, 4, 5, 1, 0, 6] rfl ?_
        exact tX12_laysCheapest_136 hg  C  hK68 ih _ _ _ _ _ _ _  h
      · replace h := x_ift hq12 h
        refine x_goto C (tgt := 136) dX12_laysCheapest_109 (by decide) ?_
        exact tX12_laysCheapest_136 hg  C  hK68 ih _ _ _ _ _ _ _  h
set_option maxHeartbeats 4000000 in
set_option maxRecDepth 100000 in
theorem tX12_laysCheapest_68 {g : xG} (hg : x_inj (WM g))  {x : xCx}   {post : Int32 → xMem → Prop} (C : xOk (WM g) x cX12_laysCheapest RX12 7 (some .boolean) (rm_X12_laysCheapest) (pI post))   : ∀ (n : Nat) (x1 : Int32) (x2 : Int32) (x3 : Int32) (M : xMem), wX12_laysCheapest_68 post n x1 x2 x3 M → xW (WM g) x 7 68 [(0, .ref (ga g 0)), (1, .int x1), (2, .int x2), (3, .int x3)] [] M := by
  intro n
  induction n with
  | zero =>
    intro x1 x2 x3 M  h
    exact h.elim
  | succ n ih =>
    intro x1 x2 x3 M  h
    rw [wX12_laysCheapest_68] at h
    refine x_iload_n C 3 rfl rfl dX12_laysCheapest_68 ?_
    refine x_iload_n C 2 rfl rfl dX12_laysCheapest_69 ?_
    refine x_icmp_gt C (tgt := 203) dX12_laysCheapest_70 (by decide) (fun hq1 => ?_) (fun hq1 => ?_)
    · replace h := x_ift hq1 h
      refine x_aload_n C 0 rfl rfl dX12_laysCheapest_203 ?_
      refine x_get C (c := 0) (ci := 12) (k1 := 69) (v1 := .int (gi M 0 69)) (enM_12 (c := 0) rfl) (Nat.le_of_ble_eq_true rfl) rfl inX12 (by decide) wf_X12_473 rfl dX12_laysCheapest_204 ?_
      refine x_iconst C (v1 := (-1)) dX12_laysCheapest_207 (by decide) ?_
      refine x_icmp_eq C (tgt := 215) dX12_laysCheapest_208 (by decide) (fun hq2 => ?_) (fun hq2 => ?_)
      · replace h := x_ift hq2 h
        refine x_iconst C (v1 := 0) dX12_laysCheapest_215 (by decide) ?_
        exact x_zret C rfl dX12_laysCheapest_216 ⟨_, rfl, h⟩
      · replace h := x_iff hq2 h
        refine x_iconst C (v1 := 1) dX12_laysCheapest_211 (by decide) ?_
        refine x_goto C (tgt := 216) dX12_laysCheapest_212 (by decide) ?_
        exact x_zret C rfl dX12_laysCheapest_216 ⟨_, rfl, h⟩
    · replace h := x_iff hq1 h
      refine x_iload_n C 3 rfl rfl dX12_laysCheapest_73 ?_
      refine x_iload_n C 2 rfl rfl dX12_laysCheapest_74 ?_
      refine x_iconst C (v1 := (-1)) dX12_laysCheapest_75 (by decide) ?_
      refine x_ixor C dX12_laysCheapest_76 ?_
      refine x_iand C dX12_laysCheapest_77 ?_
      refine x_if_eq C (tgt := 84) dX12_laysCheapest_78 (by decide) (fun hq3 => ?_) (fun hq3 => ?_)
      · replace h := x_ift hq3 h
        refine x_iconst C (v1 := 0) dX12_laysCheapest_84 (by decide) ?_
        refine x_istore C (L' := [(4, .int 0), (0, .ref (ga g 0)), (1, .int x1), (2, .int x2), (3, .int x3)]) rfl (Nat.le_of_ble_eq_true rfl) dX12_laysCheapest_85 ?_
        refine x_iconst C (v1 := 0) dX12_laysCheapest_87 (by decide) ?_
        refine x_istore C (L' := [(5, .int 0), (4, .int 0), (0, .ref (ga g 0)), (1, .int x1), (2, .int x2), (3, .int x3)]) rfl (Nat.le_of_ble_eq_true rfl) dX12_laysCheapest_88 ?_
        refine x_iconst C (v1 := 0) dX12_laysCheapest_90 (by decide) ?_
        refine x_istore C (L' := [(6, .int 0), (5, .int 0), (4, .int 0), (0, .ref (ga g 0)), (1, .int x1), (2, .int x2), (3, .int x3)]) rfl (Nat.le_of_ble_eq_true rfl) dX12_laysCheapest_91 ?_
        refine x_loc (L' := [(0, .ref (ga g 0)), (1, .int x1), (2, .int x2), (3, .int x3), (4, .int 0), (5, .int 0), (6, .int 0)]) [3, 4, 5, 6, 2, 1, 0] rfl ?_
        obtain ⟨n93, h⟩ := h
        exact tX12_laysCheapest_93 hg  C  ih _ _ _ _ _ _ _ _  h
      · replace h := x_iff hq3 h
        refine x_goto C (tgt := 197) dX12_laysCheapest_81 (by decide) ?_
        exact tX12_laysCheapest_197 hg  C  ih _ _ _ _  h
set_option maxHeartbeats 4000000 in
set_option maxRecDepth 100000 in
theorem tX12_laysCheapest_48 {g : xG} (hg : x_inj (WM g))  {x : xCx}  {K4 : Int32 → Int32 → Int32 → xMem → Prop} {post : Int32 → xMem → Prop} (C : xOk (WM g) x cX12_laysCheapest RX12 7 (some .boolean) (rm_X12_laysCheapest) (pI post))  (hK4 : ∀ (x1 : Int32) (x2 : Int32) (x3 : Int32) (M : xMem), K4 x1 x2 x3 M → xW (WM g) x 7 4 [(0, .ref (ga g 0)), (1, .int x1), (2, .int x2), (3, .int x3)] [] M) (x1 : Int32) (x2 : Int32) (x3 : Int32) (M : xMem)  (h : wX12_laysCheapest_48 K4 post x1 x2 x3 M) : xW (WM g) x 7 48 [(0, .ref (ga g 0)), (1, .int x1), (2, .int x2), (3, .int x3)] [] M := by
  unfold wX12_laysCheapest_48 at h
  obtain ⟨v1, ev1⟩ : ∃ z : Int32, z = x3 + 1 := ⟨_, rfl⟩
  replace h := h v1 ev1
  refine x_iinc C 3 (v1 := v1) (L' := [(3, .int v1), (0, .ref (ga g 0)), (1, .int x1), (2, .int x2)]) rfl (by rw [ev1]; rfl) rfl (Nat.le_of_ble_eq_true rfl) dX12_laysCheapest_48 ?_
  refine x_goto C (tgt := 4) dX12_laysCheapest_51 (by decide) ?_
  refine x_loc (L' := [(0, .ref (ga g 0)), (1, .int x1), (2, .int x2), (3, .int v1)]) [1, 2, 3, 0] rfl ?_
  exact hK4 _ _ _ _  h
set_option maxHeartbeats 4000000 in
set_option maxRecDepth 100000 in
theorem tX12_laysCheapest_4 {g : xG} (hg : x_inj (WM g))  {x : xCx}   {post : Int32 → xMem → Prop} (C : xOk (WM g) x cX12_laysCheapest RX12 7 (some .boolean) (rm_X12_laysCheapest) (pI post))   : ∀ (n : Nat) (x1 : Int32) (x2 : Int32) (x3 : Int32) (M : xMem), wX12_laysCheapest_4 post n x1 x2 x3 M → xW (WM g) x 7 4 [(0, .ref (ga g 0)), (1, .int x1), (2, .int x2), (3, .int x3)] [] M := by
  intro n
  induction n with
  | zero =>
    intro x1 x2 x3 M  h
    exact h.elim
  | succ n ih =>
    intro x1 x2 x3 M  h
    rw [wX12_laysCheapest_4] at h
    refine x_iload_n C 3 rfl rfl dX12_laysCheapest_4 ?_
    refine x_bipush C (v1 := 10) dX12_laysCheapest_5 (by decide) ?_
    refine x_icmp_ge C (tgt := 54) dX12_laysCheapest_7 (by decide) (fun hq1 => ?_) (fun hq1 => ?_)
    · replace h := x_ift hq1 h
      refine x_aload_n C 0 rfl rfl dX12_laysCheapest_54 ?_
      refine x_iconst C (v1 := (-1)) dX12_laysCheapest_55 (by decide) ?_
      refine x_put C (c := 0) (ci := 12) (k1 := 69) (u1 := (-1)) (v1 := .int (-1)) (ty := .int) (enM_12 (c := 0) rfl) (Nat.le_of_ble_eq_true rfl) rfl inX12 (by decide) (stX12_69 _ _ _) tyX12 tyX12_ok nmX12 wf_X12_473 rfl rfl rfl rfl (Nat.le_of_ble_eq_true rfl) dX12_laysCheapest_56 ?_
      refine x_nmM (fun M2 eM2 => ?_)
      replace h := h M2 eM2
      refine x_aload_n C 0 rfl rfl dX12_laysCheapest_59 ?_
      refine x_ldc_w C (v1 := 1000000000) (wco_X12_476) dX12_laysCheapest_60 ?_
      refine x_put C (c := 0) (ci := 12) (k1 := 70) (u1 := 1000000000) (v1 := .int 1000000000) (ty := .int) (enM_12 (c := 0) rfl) (Nat.le_of_ble_eq_true rfl) rfl inX12 (by decide) (stX12_70 _ _ _) tyX12 tyX12_ok nmX12 wf_X12_477 rfl rfl rfl rfl (Nat.le_of_ble_eq_true rfl) dX12_laysCheapest_63 ?_
      refine x_nmM (fun M3 eM3 => ?_)
      replace h := h M3 eM3
      refine x_iconst C (v1 := 1) dX12_laysCheapest_66 (by decide) ?_
      refine x_istore_n C (L' := [(3, .int 1), (0, .ref (ga g 0)), (1, .int x1), (2, .int x2)]) rfl rfl (Nat.le_of_ble_eq_true rfl) dX12_laysCheapest_67 ?_
      refine x_loc (L' := [(0, .ref (ga g 0)), (1, .int x1), (2, .int x2), (3, .int 1)]) [1, 2, 3, 0] rfl ?_
      obtain ⟨n68, h⟩ := h
      exact tX12_laysCheapest_68 hg  C   _ _ _ _ _  h
    · replace h := x_iff hq1 h
      refine x_aload_n C 0 rfl rfl dX12_laysCheapest_10 ?_
      refine x_get C (c := 0) (ci := 12) (k1 := 51) (v1 := .ref (ga g 25)) (enM_12 (c := 0) rfl) (Nat.le_of_ble_eq_true rfl) rfl inX12 (by decide) wf_X12_88 rfl dX12_laysCheapest_11 ?_
      refine x_iload_n C 3 rfl rfl dX12_laysCheapest_14 ?_
      obtain ⟨hi4, h⟩ := h
      refine x_zald C 2 (c := 25) (enM_24n (c := 25) (n := 10) rfl rfl) (Nat.le_of_ble_eq_true rfl) rfl hi4 dX12_laysCheapest_15 ?_
      refine x_if_eq C (tgt := 48) dX12_laysCheapest_16 (by decide) (fun hq5 => ?_) (fun hq5 => ?_)
      · replace h := x_ift hq5 h
        exact tX12_laysCheapest_48 hg  C  ih _ _ _ _  h
      · replace h := x_iff hq5 h
        refine x_aload_n C 0 rfl rfl dX12_laysCheapest_19 ?_
        refine x_get C (c := 0) (ci := 12) (k1 := 54) (v1 := .ref (ga g 28)) (enM_12 (c := 0) rfl) (Nat.le_of_ble_eq_true rfl) rfl inX12 (by decide) wf_X12_97 rfl dX12_laysCheapest_20 ?_
        refine x_iload_n C 3 rfl rfl dX12_laysCheapest_23 ?_
        obtain ⟨hi6, h⟩ := h
        refine x_iald C 0 (c := 28) (enM_20n (c := 28) (n := 10) rfl rfl) (Nat.le_of_ble_eq_true rfl) rfl hi6 dX12_laysCheapest_24 ?_
        refine x_if_ne C (tgt := 31) dX12_laysCheapest_25 (by decide) (fun hq7 => ?_) (fun hq7 => ?_)
        · replace h := x_iff hq7 h
          refine x_iload_n C 2 rfl rfl dX12_laysCheapest_31 ?_
          refine x_iconst C (v1 := 1) dX12_laysCheapest_32 (by decide) ?_
          refine x_iload_n C 3 rfl rfl dX12_laysCheapest_33 ?_
          refine x_ishl C dX12_laysCheapest_34 ?_
          refine x_ior C dX12_laysCheapest_35 ?_
          refine x_nm (fun v8 ev8 => ?_)
          replace h := h v8 ev8
          refine x_istore_n C (L' := [(2, .int v8), (0, .ref (ga g 0)), (1, .int x1), (3, .int x3)]) rfl rfl (Nat.le_of_ble_eq_true rfl) dX12_laysCheapest_36 ?_
          refine x_aload_n C 1 rfl rfl dX12_laysCheapest_37 ?_
          refine x_get C (c := 0) (ci := 12) (k1 := 68) (v1 := .ref (ga g 39)) (enM_12 (c := 0) rfl) (Nat.le_of_ble_eq_true rfl) rfl inX12 (by decide) wf_X12_130 rfl dX12_laysCheapest_38 ?_
          refine x_iload_n C 3 rfl rfl dX12_laysCheapest_41 ?_
          refine x_aload_n C 1 rfl rfl dX12_laysCheapest_42 ?_
          refine x_iload_n C 3 rfl rfl dX12_laysCheapest_43 ?_
          refine x_callV C (st := [.int x3, .ref (ga g 39)]) (As := [.int x3]) (c := 0) (ci := 12) (enM_12 (c := 0) rfl) (Nat.le_of_ble_eq_true rfl) rfl (tX12_costOf hg _ _ _ _  h) wm_X12_470 wi_X12_costOf wv_X12_costOf wz_X12 wc_X12_costOf rfl yd_X12_costOf rfl ⟨rfl, rfl⟩ ⟨Nat.le_of_ble_eq_true rfl, Nat.le_of_ble_eq_true rfl⟩ (Nat.le_of_ble_eq_true rfl) rfl dX12_laysCheapest_44 (x_ki (fun r10 M9 h => ?_))
          obtain ⟨hi11, h⟩ := h
          refine x_iast C 0 (c := 39) (enM_20n (c := 39) (n := 10) rfl rfl) (Nat.le_of_ble_eq_true rfl) rfl hi11 dX12_laysCheapest_47 ?_
          refine x_nmM (fun M12 eM12 => ?_)
          replace h := h M12 eM12
          refine x_loc (L' := [(0, .ref (ga g 0)), (1, .int x1), (2, .int v8), (3, .int x3)]) [1, 2, 0, 3] rfl ?_
          exact tX12_laysCheapest_48 hg  C  ih _ _ _ _  h
        · replace h := x_ift hq7 h
          refine x_goto C (tgt := 48) dX12_laysCheapest_28 (by decide) ?_
          exact tX12_laysCheapest_48 hg  C  ih _ _ _ _  h
set_option maxHeartbeats 4000000 in
set_option maxRecDepth 100000 in
theorem tX12_laysCheapest {g : xG} (hg : x_inj (WM g))  (l : Launch) (a0 : Int32) (M : xMem) (post : Int32 → xMem → Prop)  (h : wX12_laysCheapest a0 M post) : xMet (WM g) l yX12_laysCheapest cX12_laysCheapest 7 (some .boolean) (rm_X12_laysCheapest) [.ref (ga g 0), .int a0] M (pI post) := by
  refine x_enter (own := RX12) (L0 := [(0, .ref (ga g 0)), (1, .int a0)]) (by decide +kernel) rfl hg (x_stM g) (Nat.le_of_ble_eq_true rfl) rfl (fun x hl C => ?_)
  unfold wX12_laysCheapest at h
  refine x_iconst C (v1 := 0) dX12_laysCheapest_0 (by decide) ?_
  refine x_istore_n C (L' := [(2, .int 0), (0, .ref (ga g 0)), (1, .int a0)]) rfl rfl (Nat.le_of_ble_eq_true rfl) dX12_laysCheapest_1 ?_
  refine x_iconst C (v1 := 0) dX12_laysCheapest_2 (by decide) ?_
  refine x_istore_n C (L' := [(3, .int 0), (2, .int 0), (0, .ref (ga g 0)), (1, .int a0)]) rfl rfl (Nat.le_of_ble_eq_true rfl) dX12_laysCheapest_3 ?_
  refine x_loc (L' := [(0, .ref (ga g 0)), (1, .int a0), (2, .int 0), (3, .int 0)]) [2, 3, 1, 0] rfl ?_
  obtain ⟨n4, h⟩ := h
  exact tX12_laysCheapest_4 hg  C   _ _ _ _ _  h
set_option maxHeartbeats 4000000 in
set_option maxRecDepth 100000 in
theorem tX12_cheapest {g : xG} (hg : x_inj (WM g))  (l : Launch) (a0 : Int32) (a1 : Int32) (M : xMem) (post : Int32 → xMem → Prop)  (h : wX12_cheapest a0 a1 M post) : xMet (WM g) l yX12_cheapest cX12_cheapest 3 (some .int) (rm_X12_cheapest) [.ref (ga g 0), .int a0, .int a1] M (pI post) := by
  refine x_enter (own := RX12) (L0 := [(0, .ref (ga g 0)), (1, .int a0), (2, .int a1)]) (by decide +kernel) rfl hg (x_stM g) (Nat.le_of_ble_eq_true rfl) rfl (fun x hl C => ?_)
  unfold wX12_cheapest at h
  refine x_iload_n C 1 rfl rfl dX12_cheapest_0 ?_
  refine x_i2l C dX12_cheapest_1 ?_
  refine x_lconst C (v1 := 1) dX12_cheapest_2 (by decide) ?_
  refine x_ldc2 C (v1 := 1023) (wcl_X12_283) dX12_cheapest_3 ?_
  refine x_callS C (st := []) (As := [.long ((a0 : Int32).toInt64), .long 1, .long 1023]) (tX12_lies hg _ _ _ _ _ _  h) wm_X12_222 wsm_X12_lies wz_X12 wc_X12_lies yd_X12_lies rfl ⟨rfl, rfl⟩ ⟨Nat.le_of_ble_eq_true rfl, Nat.le_of_ble_eq_true rfl⟩ (Nat.le_of_ble_eq_true rfl) rfl dX12_cheapest_6 (x_ki (fun r2 M1 h => ?_))
  refine x_if_eq C (tgt := 22) dX12_cheapest_9 (by decide) (fun hq3 => ?_) (fun hq3 => ?_)
  · replace h := x_ift hq3 h
    refine x_iconst C (v1 := (-1)) dX12_cheapest_22 (by decide) ?_
    exact x_iret C dX12_cheapest_23 ⟨_, rfl, h⟩
  · replace h := x_iff hq3 h
    refine x_iload_n C 2 rfl rfl dX12_cheapest_12 ?_
    refine x_i2l C dX12_cheapest_13 ?_
    refine x_lconst C (v1 := 0) dX12_cheapest_14 (by decide) ?_
    refine x_lconst C (v1 := 1) dX12_cheapest_15 (by decide) ?_
    refine x_callS C (st := []) (As := [.long ((a1 : Int32).toInt64), .long 0, .long 1]) (tX12_lies hg _ _ _ _ _ _  h) wm_X12_222 wsm_X12_lies wz_X12 wc_X12_lies yd_X12_lies rfl ⟨rfl, rfl⟩ ⟨Nat.le_of_ble_eq_true rfl, Nat.le_of_ble_eq_true rfl⟩ (Nat.le_of_ble_eq_true rfl) rfl dX12_cheapest_16 (x_ki (fun r5 M4 h => ?_))
    refine x_if_ne C (tgt := 24) dX12_cheapest_19 (by decide) (fun hq6 => ?_) (fun hq6 => ?_)
    · replace h := x_iff hq6 h
      refine x_aload_n C 0 rfl rfl dX12_cheapest_24 ?_
      refine x_iload_n C 1 rfl rfl dX12_cheapest_25 ?_
      refine x_callV C (st := []) (As := [.int a0]) (c := 0) (ci := 12) (enM_12 (c := 0) rfl) (Nat.le_of_ble_eq_true rfl) rfl (tX12_laysCheapest hg _ _ _ _  h) wm_X12_480 wi_X12_laysCheapest wv_X12_laysCheapest wz_X12 wc_X12_laysCheapest rfl yd_X12_laysCheapest rfl ⟨rfl, rfl⟩ ⟨Nat.le_of_ble_eq_true rfl, Nat.le_of_ble_eq_true rfl⟩ (Nat.le_of_ble_eq_true rfl) rfl dX12_cheapest_26 (x_ki (fun r8 M7 h => ?_))
      refine x_if_ne C (tgt := 35) dX12_cheapest_29 (by decide) (fun hq9 => ?_) (fun hq9 => ?_)
      · replace h := x_iff hq9 h
        refine x_iload_n C 2 rfl rfl dX12_cheapest_35 ?_
        refine x_if_ne C (tgt := 46) dX12_cheapest_36 (by decide) (fun hq10 => ?_) (fun hq10 => ?_)
        · replace h := x_iff hq10 h
          refine x_aload_n C 0 rfl rfl dX12_cheapest_46 ?_
          refine x_get C (c := 0) (ci := 12) (k1 := 69) (v1 := .int (gi M7 0 69)) (enM_12 (c := 0) rfl) (Nat.le_of_ble_eq_true rfl) rfl inX12 (by decide) wf_X12_473 rfl dX12_cheapest_47 ?_
          exact x_iret C dX12_cheapest_50 ⟨_, rfl, h⟩
        · replace h := x_ift hq10 h
          refine x_aload_n C 0 rfl rfl dX12_cheapest_39 ?_
          refine x_get C (c := 0) (ci := 12) (k1 := 70) (v1 := .int (gi M7 0 70)) (enM_12 (c := 0) rfl) (Nat.le_of_ble_eq_true rfl) rfl inX12 (by decide) wf_X12_477 rfl dX12_cheapest_40 ?_
          refine x_goto C (tgt := 50) dX12_cheapest_43 (by decide) ?_
          exact x_iret C dX12_cheapest_50 ⟨_, rfl, h⟩
      · replace h := x_ift hq9 h
        refine x_bipush C (v1 := (-2)) dX12_cheapest_32 (by decide) ?_
        exact x_iret C dX12_cheapest_34 ⟨_, rfl, h⟩
    · replace h := x_ift hq6 h
      refine x_iconst C (v1 := (-1)) dX12_cheapest_22 (by decide) ?_
      exact x_iret C dX12_cheapest_23 ⟨_, rfl, h⟩
set_option maxHeartbeats 4000000 in
set_option maxRecDepth 100000 in
theorem tX12_draw {g : xG} (hg : x_inj (WM g))  (l : Launch)  (M : xMem) (post : Int32 → xMem → Prop)  (h : wX12_draw  M post) : xMet (WM g) l yX12_draw cX12_draw 1 (some .int) (rm_X12_draw) [.ref (ga g 0)] M (pI post) := by
  refine x_enter (own := RX12) (L0 := [(0, .ref (ga g 0))]) (by decide +kernel) rfl hg (x_stM g) (Nat.le_of_ble_eq_true rfl) rfl (fun x hl C => ?_)
  unfold wX12_draw at h
  refine x_aload_n C 0 rfl rfl dX12_draw_0 ?_
  refine x_sipush C (v1 := 25173) dX12_draw_1 (by decide) ?_
  refine x_aload_n C 0 rfl rfl dX12_draw_4 ?_
  refine x_get C (c := 0) (ci := 12) (k1 := 2) (v1 := .int (gi M 0 2)) (enM_12 (c := 0) rfl) (Nat.le_of_ble_eq_true rfl) rfl inX12 (by decide) wf_X12_13 rfl dX12_draw_5 ?_
  refine x_imul C dX12_draw_8 ?_
  refine x_sipush C (v1 := 13849) dX12_draw_9 (by decide) ?_
  refine x_iadd C dX12_draw_12 ?_
  refine x_ldc_w C (v1 := 65536) (wco_X12_483) dX12_draw_13 ?_
  obtain ⟨hz1, h⟩ := h
  refine x_irem C hz1 dX12_draw_16 ?_
  refine x_put C (c := 0) (ci := 12) (k1 := 2) (u1 := (((25173 * (gi M 0 2)) + 13849) - ((25173 * (gi M 0 2)) + 13849) / 65536 * 65536)) (v1 := .int (((25173 * (gi M 0 2)) + 13849) - ((25173 * (gi M 0 2)) + 13849) / 65536 * 65536)) (ty := .int) (enM_12 (c := 0) rfl) (Nat.le_of_ble_eq_true rfl) rfl inX12 (by decide) (stX12_2 _ _ _) tyX12 tyX12_ok nmX12 wf_X12_13 rfl rfl rfl rfl (Nat.le_of_ble_eq_true rfl) dX12_draw_17 ?_
  refine x_nmM (fun M2 eM2 => ?_)
  replace h := h M2 eM2
  refine x_aload_n C 0 rfl rfl dX12_draw_20 ?_
  refine x_get C (c := 0) (ci := 12) (k1 := 2) (v1 := .int (gi M2 0 2)) (enM_12 (c := 0) rfl) (Nat.le_of_ble_eq_true rfl) rfl inX12 (by decide) wf_X12_13 rfl dX12_draw_21 ?_
  refine x_bipush C (v1 := 10) dX12_draw_24 (by decide) ?_
  obtain ⟨hz3, h⟩ := h
  refine x_irem C hz3 dX12_draw_26 ?_
  exact x_iret C dX12_draw_27 ⟨_, rfl, h⟩
set_option maxHeartbeats 4000000 in
set_option maxRecDepth 100000 in
theorem tX12_buying_117 {g : xG} (hg : x_inj (WM g))  {x : xCx}   {post : Int32 → xMem → Prop} (C : xOk (WM g) x cX12_buying RX12 7 (some .int) (rm_X12_buying) (pI post))   (x1 : Int32) (s0 : Int32) (s1 : Int32) (M : xMem)  (h : wX12_buying_117 post x1 s0 s1 M) : xW (WM g) x 7 117 [(0, .ref (ga g 0)), (1, .int x1)] [.int s0, .int s1] M := by
  unfold wX12_buying_117 at h
  refine x_iand C dX12_buying_117 ?_
  refine x_nm (fun v1 ev1 => ?_)
  replace h := h v1 ev1
  refine x_istore C (L' := [(6, .int v1), (0, .ref (ga g 0)), (1, .int x1)]) rfl (Nat.le_of_ble_eq_true rfl) dX12_buying_118 ?_
  refine x_aload_n C 1 rfl rfl dX12_buying_120 ?_
  refine x_get C (c := 0) (ci := 12) (k1 := 60) (v1 := .ref (ga g 34)) (enM_12 (c := 0) rfl) (Nat.le_of_ble_eq_true rfl) rfl inX12 (by decide) wf_X12_115 rfl dX12_buying_121 ?_
  refine x_iload_n C 2 rfl rfl dX12_buying_124 ?_
  refine x_dup2 C rfl rfl dX12_buying_125 ?_
  obtain ⟨hi2, h⟩ := h
  refine x_iald C 0 (c := 34) (enM_20n (c := 34) (n := 4) rfl rfl) (Nat.le_of_ble_eq_true rfl) rfl hi2 dX12_buying_126 ?_
  refine x_iload C 0 rfl dX12_buying_127 ?_
  refine x_iconst C (v1 := (-1)) dX12_buying_129 (by decide) ?_
  refine x_ixor C dX12_buying_130 ?_
  refine x_iand C dX12_buying_131 ?_
  obtain ⟨hi3, h⟩ := h
  refine x_iast C 0 (c := 34) (enM_20n (c := 34) (n := 4) rfl rfl) (Nat.le_of_ble_eq_true rfl) rfl hi3 dX12_buying_132 ?_
  refine x_nmM (fun M4 eM4 => ?_)
  replace h := h M4 eM4
  refine x_iload C 0 rfl dX12_buying_133 ?_
  exact x_iret C dX12_buying_135 ⟨_, rfl, h⟩
set_option maxHeartbeats 4000000 in
set_option maxRecDepth 100000 in
theorem tX12_buying_78 {g : xG} (hg : x_inj (WM g))  {x : xCx}   {post : Int32 → xMem → Prop} (C : xOk (WM g) x cX12_buying RX12 7 (some .int) (rm_X12_buying) (pI post))   (x1 : Int32) (x2 : Int32) (x5 : Int32) (s0 : Int32) (s1 : Int32) (M : xMem)  (h : wX12_buying_78 post x1 x2 x5 s0 s1 M) : xW (WM g) x 7 78 [(0, .ref (ga g 0)), (1, .int x1), (2, .int x2), (5, .int x5)] [.int s0, .int s1, .ref (ga g 0)] M := by
  unfold wX12_buying_78 at h
  refine x_iadd C dX12_buying_78 ?_
  refine x_put C (c := 0) (ci := 12) (k1 := 73) (u1 := (s1 + s0)) (v1 := .int (s1 + s0)) (ty := .int) (enM_12 (c := 0) rfl) (Nat.le_of_ble_eq_true rfl) rfl inX12 (by decide) (stX12_73 _ _ _) tyX12 tyX12_ok nmX12 wf_X12_496 rfl rfl rfl rfl (Nat.le_of_ble_eq_true rfl) dX12_buying_79 ?_
  refine x_nmM (fun M1 eM1 => ?_)
  replace h := h M1 eM1
  refine x_aload_n C 0 rfl rfl dX12_buying_82 ?_
  refine x_get C (c := 0) (ci := 12) (k1 := 60) (v1 := .ref (ga g 34)) (enM_12 (c := 0) rfl) (Nat.le_of_ble_eq_true rfl) rfl inX12 (by decide) wf_X12_115 rfl dX12_buying_83 ?_
  refine x_iload_n C 1 rfl rfl dX12_buying_86 ?_
  obtain ⟨hi2, h⟩ := h
  refine x_iald C 0 (c := 34) (enM_20n (c := 34) (n := 4) rfl rfl) (Nat.le_of_ble_eq_true rfl) rfl hi2 dX12_buying_87 ?_
  refine x_iload C 3 rfl dX12_buying_88 ?_
  refine x_if_eq C (tgt := 111) dX12_buying_90 (by decide) (fun hq3 => ?_) (fun hq3 => ?_)
  · replace h := x_ift hq3 h
    refine x_aload_n C 0 rfl rfl dX12_buying_111 ?_
    refine x_get C (c := 0) (ci := 12) (k1 := 52) (v1 := .ref (ga g 26)) (enM_12 (c := 0) rfl) (Nat.le_of_ble_eq_true rfl) rfl inX12 (by decide) wf_X12_91 rfl dX12_buying_112 ?_
    refine x_iload_n C 2 rfl rfl dX12_buying_115 ?_
    obtain ⟨hi4, h⟩ := h
    refine x_iald C 0 (c := 26) (enM_20n (c := 26) (n := 10) rfl rfl) (Nat.le_of_ble_eq_true rfl) rfl hi4 dX12_buying_116 ?_
    refine x_loc (L' := [(0, .ref (ga g 0)), (1, .int x1)]) [0, 1] rfl ?_
    exact tX12_buying_117 hg  C   _ _ _ _  h
  · replace h := x_iff hq3 h
    refine x_aload_n C 0 rfl rfl dX12_buying_93 ?_
    refine x_get C (c := 0) (ci := 12) (k1 := 52) (v1 := .ref (ga g 26)) (enM_12 (c := 0) rfl) (Nat.le_of_ble_eq_true rfl) rfl inX12 (by decide) wf_X12_91 rfl dX12_buying_94 ?_
    refine x_iload_n C 2 rfl rfl dX12_buying_97 ?_
    obtain ⟨hi5, h⟩ := h
    refine x_iald C 0 (c := 26) (enM_20n (c := 26) (n := 10) rfl rfl) (Nat.le_of_ble_eq_true rfl) rfl hi5 dX12_buying_98 ?_
    refine x_aload_n C 0 rfl rfl dX12_buying_99 ?_
    refine x_get C (c := 0) (ci := 12) (k1 := 52) (v1 := .ref (ga g 26)) (enM_12 (c := 0) rfl) (Nat.le_of_ble_eq_true rfl) rfl inX12 (by decide) wf_X12_91 rfl dX12_buying_100 ?_
    refine x_iload_n C 2 rfl rfl dX12_buying_103 ?_
    obtain ⟨hi6, h⟩ := h
    refine x_iald C 0 (c := 26) (enM_20n (c := 26) (n := 10) rfl rfl) (Nat.le_of_ble_eq_true rfl) rfl hi6 dX12_buying_104 ?_
    refine x_iconst C (v1 := 1) dX12_buying_105 (by decide) ?_
    refine x_isub C dX12_buying_106 ?_
    refine x_iand C dX12_buying_107 ?_
    refine x_goto C (tgt := 117) dX12_buying_108 (by decide) ?_
    refine x_loc (L' := [(0, .ref (ga g 0)), (1, .int x1)]) [0, 1] rfl ?_
    exact tX12_buying_117 hg  C   _ _ _ _  h
set_option maxHeartbeats 4000000 in
set_option maxRecDepth 100000 in
theorem tX12_buying_61 {g : xG} (hg : x_inj (WM g))  {x : xCx}   {post : Int32 → xMem → Prop} (C : xOk (WM g) x cX12_buying RX12 7 (some .int) (rm_X12_buying) (pI post))   (x1 : Int32) (x2 : Int32) (s0 : Int32) (M : xMem)  (h : wX12_buying_61 post x1 x2 s0 M) : xW (WM g) x 7 61 [(0, .ref (ga g 0)), (1, .int x1), (2, .int x2)] [.int s0] M := by
  unfold wX12_buying_61 at h
  refine x_istore C (L' := [(5, .int s0), (0, .ref (ga g 0)), (1, .int x1), (2, .int x2)]) rfl (Nat.le_of_ble_eq_true rfl) dX12_buying_61 ?_
  refine x_aload_n C 1 rfl rfl dX12_buying_63 ?_
  refine x_dup C rfl dX12_buying_64 ?_
  refine x_get C (c := 0) (ci := 12) (k1 := 73) (v1 := .int (gi M 0 73)) (enM_12 (c := 0) rfl) (Nat.le_of_ble_eq_true rfl) rfl inX12 (by decide) wf_X12_496 rfl dX12_buying_65 ?_
  refine x_iload C 0 rfl dX12_buying_68 ?_
  refine x_if_eq C (tgt := 77) dX12_buying_70 (by decide) (fun hq1 => ?_) (fun hq1 => ?_)
  · replace h := x_ift hq1 h
    refine x_iconst C (v1 := 0) dX12_buying_77 (by decide) ?_
    refine x_loc (L' := [(0, .ref (ga g 0)), (1, .int x1), (2, .int x2), (5, .int s0)]) [1, 2, 3, 0] rfl ?_
    exact tX12_buying_78 hg  C   _ _ _ _ _ _  h
  · replace h := x_iff hq1 h
    refine x_iconst C (v1 := 1) dX12_buying_73 (by decide) ?_
    refine x_goto C (tgt := 78) dX12_buying_74 (by decide) ?_
    refine x_loc (L' := [(0, .ref (ga g 0)), (1, .int x1), (2, .int x2), (5, .int s0)]) [1, 2, 3, 0] rfl ?_
    exact tX12_buying_78 hg  C   _ _ _ _ _ _  h
set_option maxHeartbeats 4000000 in
set_option maxRecDepth 100000 in
theorem tX12_buying {g : xG} (hg : x_inj (WM g))  (l : Launch) (a0 : Int32) (a1 : Int32) (a2 : Int32) (M : xMem) (post : Int32 → xMem → Prop)  (h : wX12_buying a0 a1 a2 M post) : xMet (WM g) l yX12_buying cX12_buying 7 (some .int) (rm_X12_buying) [.ref (ga g 0), .int a0, .int a1, .int a2] M (pI post) := by
  refine x_enter (own := RX12) (L0 := [(0, .ref (ga g 0)), (1, .int a0), (2, .int a1), (3, .int a2)]) (by decide +kernel) rfl hg (x_stM g) (Nat.le_of_ble_eq_true rfl) rfl (fun x hl C => ?_)
  unfold wX12_buying at h
  refine x_aload_n C 0 rfl rfl dX12_buying_0 ?_
  refine x_iload_n C 2 rfl rfl dX12_buying_1 ?_
  refine x_callV C (st := []) (As := [.int a1]) (c := 0) (ci := 12) (enM_12 (c := 0) rfl) (Nat.le_of_ble_eq_true rfl) rfl (tX12_forgingOf hg _ _ _ _  h) wm_X12_484 wi_X12_forgingOf wv_X12_forgingOf wz_X12 wc_X12_forgingOf rfl yd_X12_forgingOf rfl ⟨rfl, rfl⟩ ⟨Nat.le_of_ble_eq_true rfl, Nat.le_of_ble_eq_true rfl⟩ (Nat.le_of_ble_eq_true rfl) rfl dX12_buying_2 (x_ki (fun r2 M1 h => ?_))
  refine x_istore C (L' := [(4, .int r2), (0, .ref (ga g 0)), (1, .int a0), (2, .int a1), (3, .int a2)]) rfl (Nat.le_of_ble_eq_true rfl) dX12_buying_5 ?_
  refine x_aload_n C 1 rfl rfl dX12_buying_7 ?_
  refine x_get C (c := 0) (ci := 12) (k1 := 58) (v1 := .ref (ga g 32)) (enM_12 (c := 0) rfl) (Nat.le_of_ble_eq_true rfl) rfl inX12 (by decide) wf_X12_109 rfl dX12_buying_8 ?_
  refine x_iload_n C 2 rfl rfl dX12_buying_11 ?_
  refine x_dup2 C rfl rfl dX12_buying_12 ?_
  obtain ⟨hi3, h⟩ := h
  refine x_iald C 0 (c := 32) (enM_20n (c := 32) (n := 4) rfl rfl) (Nat.le_of_ble_eq_true rfl) rfl hi3 dX12_buying_13 ?_
  refine x_iload_n C 4 rfl rfl dX12_buying_14 ?_
  refine x_isub C dX12_buying_15 ?_
  obtain ⟨hi4, h⟩ := h
  refine x_iast C 0 (c := 32) (enM_20n (c := 32) (n := 4) rfl rfl) (Nat.le_of_ble_eq_true rfl) rfl hi4 dX12_buying_16 ?_
  refine x_nmM (fun M5 eM5 => ?_)
  replace h := h M5 eM5
  refine x_aload_n C 1 rfl rfl dX12_buying_17 ?_
  refine x_get C (c := 0) (ci := 12) (k1 := 54) (v1 := .ref (ga g 28)) (enM_12 (c := 0) rfl) (Nat.le_of_ble_eq_true rfl) rfl inX12 (by decide) wf_X12_97 rfl dX12_buying_18 ?_
  refine x_iload_n C 3 rfl rfl dX12_buying_21 ?_
  refine x_dup2 C rfl rfl dX12_buying_22 ?_
  obtain ⟨hi6, h⟩ := h
  refine x_iald C 0 (c := 28) (enM_20n (c := 28) (n := 10) rfl rfl) (Nat.le_of_ble_eq_true rfl) rfl hi6 dX12_buying_23 ?_
  refine x_iconst C (v1 := 1) dX12_buying_24 (by decide) ?_
  refine x_isub C dX12_buying_25 ?_
  obtain ⟨hi7, h⟩ := h
  refine x_iast C 0 (c := 28) (enM_20n (c := 28) (n := 10) rfl rfl) (Nat.le_of_ble_eq_true rfl) rfl hi7 dX12_buying_26 ?_
  refine x_nmM (fun M8 eM8 => ?_)
  replace h := h M8 eM8
  refine x_aload_n C 1 rfl rfl dX12_buying_27 ?_
  refine x_dup C rfl dX12_buying_28 ?_
  refine x_get C (c := 0) (ci := 12) (k1 := 71) (v1 := .int (gi M8 0 71)) (enM_12 (c := 0) rfl) (Nat.le_of_ble_eq_true rfl) rfl inX12 (by decide) wf_X12_487 rfl dX12_buying_29 ?_
  refine x_iload_n C 4 rfl rfl dX12_buying_32 ?_
  refine x_iadd C dX12_buying_33 ?_
  refine x_put C (c := 0) (ci := 12) (k1 := 71) (u1 := ((gi M8 0 71) + a2)) (v1 := .int ((gi M8 0 71) + a2)) (ty := .int) (enM_12 (c := 0) rfl) (Nat.le_of_ble_eq_true rfl) rfl inX12 (by decide) (stX12_71 _ _ _) tyX12 tyX12_ok nmX12 wf_X12_487 rfl rfl rfl rfl (Nat.le_of_ble_eq_true rfl) dX12_buying_34 ?_
  refine x_nmM (fun M9 eM9 => ?_)
  replace h := h M9 eM9
  refine x_aload_n C 1 rfl rfl dX12_buying_37 ?_
  refine x_dup C rfl dX12_buying_38 ?_
  refine x_get C (c := 0) (ci := 12) (k1 := 72) (v1 := .int (gi M9 0 72)) (enM_12 (c := 0) rfl) (Nat.le_of_ble_eq_true rfl) rfl inX12 (by decide) wf_X12_490 rfl dX12_buying_39 ?_
  refine x_iconst C (v1 := 1) dX12_buying_42 (by decide) ?_
  refine x_iadd C dX12_buying_43 ?_
  refine x_put C (c := 0) (ci := 12) (k1 := 72) (u1 := ((gi M9 0 72) + 1)) (v1 := .int ((gi M9 0 72) + 1)) (ty := .int) (enM_12 (c := 0) rfl) (Nat.le_of_ble_eq_true rfl) rfl inX12 (by decide) (stX12_72 _ _ _) tyX12 tyX12_ok nmX12 wf_X12_490 rfl rfl rfl rfl (Nat.le_of_ble_eq_true rfl) dX12_buying_44 ?_
  refine x_nmM (fun M10 eM10 => ?_)
  replace h := h M10 eM10
  refine x_aload_n C 1 rfl rfl dX12_buying_47 ?_
  refine x_callV C (st := []) (As := []) (c := 0) (ci := 12) (enM_12 (c := 0) rfl) (Nat.le_of_ble_eq_true rfl) rfl (tX12_draw hg _  _ _  h) wm_X12_493 wi_X12_draw wv_X12_draw wz_X12 wc_X12_draw rfl yd_X12_draw rfl ⟨rfl, rfl⟩ ⟨Nat.le_of_ble_eq_true rfl, Nat.le_of_ble_eq_true rfl⟩ (Nat.le_of_ble_eq_true rfl) rfl dX12_buying_48 (x_ki (fun r12 M11 h => ?_))
  refine x_iload C 0 rfl dX12_buying_51 ?_
  refine x_icmp_ge C (tgt := 60) dX12_buying_53 (by decide) (fun hq13 => ?_) (fun hq13 => ?_)
  · replace h := x_ift hq13 h
    refine x_iconst C (v1 := 0) dX12_buying_60 (by decide) ?_
    refine x_loc (L' := [(0, .ref (ga g 0)), (1, .int a0), (2, .int a1)]) [1, 2, 3] rfl ?_
    exact tX12_buying_61 hg  C   _ _ _ _  h
  · replace h := x_iff hq13 h
    refine x_iconst C (v1 := 1) dX12_buying_56 (by decide) ?_
    refine x_goto C (tgt := 61) dX12_buying_57 (by decide) ?_
    refine x_loc (L' := [(0, .ref (ga g 0)), (1, .int a0), (2, .int a1)]) [1, 2, 3] rfl ?_
    exact tX12_buying_61 hg  C   _ _ _ _  h
