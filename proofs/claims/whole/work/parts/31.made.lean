theorem wi_objinit : Cond.instanceMethod objectInit ∈ lw_tbl := x_tb1 29 rfl
theorem wc_objinit : Cond.code objectInit ⟨#[0xb1]⟩ 1 none ∈ lw_tbl := x_tb1 30 rfl
def z0_X9 : List Value := [.null, .int 0, .int 0, .int 0, .int 0]
theorem zf_X9 : ∀ j, j < 5 → defaultValue (tyX9 j) = vp_V z0_X9 j := fun j h => match j, h with
  | 0, _ => rfl
  | 1, _ => rfl
  | 2, _ => rfl
  | 3, _ => rfl
  | 4, _ => rfl
  | j + 5, h => absurd h (by omega)
def zw_X9 (T : zT5)  (a : Nat → Nat) : List Value × va_W := ([.ref (a 0), .int 0, .int 0, .int 0, .int 0], [((a 0), .inl (T.1, 72, .inl (fun _ => 0)))])
abbrev rmz_X9 : Room := { frames := 1, cells := 1, slots := 72, locals := 40 }
theorem yd_X9_init : yX9_init.cls ≠ "java/lang/invoke/MethodHandle" ∧ yX9_init.cls ≠ "java/lang/invoke/VarHandle" ∧ (parseMethodDescriptor yX9_init.desc).map (fun d => d.parameters.length) = some 0 := by decide +kernel
set_option maxHeartbeats 4000000 in
set_option maxRecDepth 100000 in
theorem zt_X9 (D : va_G) (T : zT5) (l : Launch) (h0 : Nat)  : zMet D T l yX9_init cX9_init 1 rmz_X9 [] h0 9 z0_X9 (zw_X9 T ) 1 72 := by
  refine z_enter (own := RX9) (L0 := [(0, .ref h0)]) (by decide +kernel) rfl rfl (Nat.le_of_ble_eq_true rfl) rfl (fun x sz hl C => ?_)
  refine z_aload_n C 0 rfl rfl dX9_init_0 ?_
  refine z_obj C wm_X9_3 wi_objinit wc_objinit ⟨Nat.le_of_ble_eq_true rfl, Nat.le_of_ble_eq_true rfl⟩ (Nat.le_of_ble_eq_true rfl) dX9_init_1 ?_
  refine z_aload_n C 0 rfl rfl dX9_init_4 ?_
  refine z_bipush C (v1 := 72) dX9_init_5 (by decide) ?_
  refine z_newa C 0 (atype := .int) (ty := .int) (N' := 72) (a0 := (72, .inl (fun _ => 0))) wa_int rfl rfl (fun _ => vp_cell_i _ _ _) (by decide) (by decide) (Nat.le_of_ble_eq_true rfl) (Nat.le_of_ble_eq_true rfl) (Nat.le_of_ble_eq_true rfl) dX9_init_7 (fun q0 => ?_)
  refine z_tl (tl2 := [(q0, .inl (T.1, 72, .inl (fun _ => 0)))]) rfl ?_
  refine z_putF C (k1 := 0) (v1 := .ref q0) (ty := (.array .int)) rfl inX9 tyX9 tyX9_ok nmX9 (by decide) wf_X9_9 rfl rfl rfl rfl rfl (Nat.le_of_ble_eq_true rfl) dX9_init_9 ?_
  refine z_fs (fs2 := [.ref q0, .int 0, .int 0, .int 0, .int 0]) rfl ?_
  refine z_aload_n C 0 rfl rfl dX9_init_12 ?_
  refine z_iconst C (v1 := 0) dX9_init_13 (by decide) ?_
  refine z_put C (k1 := 1) (v1 := .int 0) (ty := .int) rfl inX9 tyX9 tyX9_ok nmX9 (by decide) wf_X9_15 rfl rfl rfl rfl (Nat.le_of_ble_eq_true rfl) dX9_init_14 ?_
  refine z_fs (fs2 := [.ref q0, .int 0, .int 0, .int 0, .int 0]) rfl ?_
  refine z_aload_n C 0 rfl rfl dX9_init_17 ?_
  refine z_iconst C (v1 := 0) dX9_init_18 (by decide) ?_
  refine z_put C (k1 := 2) (v1 := .int 0) (ty := .int) rfl inX9 tyX9 tyX9_ok nmX9 (by decide) wf_X9_19 rfl rfl rfl rfl (Nat.le_of_ble_eq_true rfl) dX9_init_19 ?_
  refine z_fs (fs2 := [.ref q0, .int 0, .int 0, .int 0, .int 0]) rfl ?_
  refine z_aload_n C 0 rfl rfl dX9_init_22 ?_
  refine z_iconst C (v1 := 0) dX9_init_23 (by decide) ?_
  refine z_put C (k1 := 3) (v1 := .int 0) (ty := .int) rfl inX9 tyX9 tyX9_ok nmX9 (by decide) wf_X9_22 rfl rfl rfl rfl (Nat.le_of_ble_eq_true rfl) dX9_init_24 ?_
  refine z_fs (fs2 := [.ref q0, .int 0, .int 0, .int 0, .int 0]) rfl ?_
  refine z_aload_n C 0 rfl rfl dX9_init_27 ?_
  refine z_iconst C (v1 := 0) dX9_init_28 (by decide) ?_
  refine z_put C (k1 := 4) (v1 := .int 0) (ty := .int) rfl inX9 tyX9 tyX9_ok nmX9 (by decide) wf_X9_25 rfl rfl rfl rfl (Nat.le_of_ble_eq_true rfl) dX9_init_29 ?_
  refine z_fs (fs2 := [.ref q0, .int 0, .int 0, .int 0, .int 0]) rfl ?_
  exact z_vret C (fun j => match j / 100 with | 0 => ([q0] : List Nat).getD j 0 | _ => 0) rfl rfl (Nat.le_refl _) (Nat.le_refl _) dX9_init_32
def z0_X10 : List Value := [.null, .int 0, .null, .int 0, .int 0, .int 0]
theorem zf_X10 : ∀ j, j < 6 → defaultValue (tyX10 j) = vp_V z0_X10 j := fun j h => match j, h with
  | 0, _ => rfl
  | 1, _ => rfl
  | 2, _ => rfl
  | 3, _ => rfl
  | 4, _ => rfl
  | 5, _ => rfl
  | j + 6, h => absurd h (by omega)
def zw_X10 (T : zT5)  (a : Nat → Nat) : List Value × va_W := ([.ref (a 0), .int 0, .ref (a 1), .int 0, .int 0, .int 0], [((a 0), .inl (T.1, 73, .inl (fun _ => 0))), ((a 1), .inl (T.1, 0, .inl (fun _ => 0)))])
abbrev rmz_X10 : Room := { frames := 1, cells := 2, slots := 73, locals := 40 }
theorem yd_X10_init : yX10_init.cls ≠ "java/lang/invoke/MethodHandle" ∧ yX10_init.cls ≠ "java/lang/invoke/VarHandle" ∧ (parseMethodDescriptor yX10_init.desc).map (fun d => d.parameters.length) = some 0 := by decide +kernel
set_option maxHeartbeats 4000000 in
set_option maxRecDepth 100000 in
theorem zt_X10 (D : va_G) (T : zT5) (l : Launch) (h0 : Nat)  : zMet D T l yX10_init cX10_init 1 rmz_X10 [] h0 10 z0_X10 (zw_X10 T ) 2 73 := by
  refine z_enter (own := RX10) (L0 := [(0, .ref h0)]) (by decide +kernel) rfl rfl (Nat.le_of_ble_eq_true rfl) rfl (fun x sz hl C => ?_)
  refine z_aload_n C 0 rfl rfl dX10_init_0 ?_
  refine z_obj C wm_X10_3 wi_objinit wc_objinit ⟨Nat.le_of_ble_eq_true rfl, Nat.le_of_ble_eq_true rfl⟩ (Nat.le_of_ble_eq_true rfl) dX10_init_1 ?_
  refine z_aload_n C 0 rfl rfl dX10_init_4 ?_
  refine z_bipush C (v1 := 73) dX10_init_5 (by decide) ?_
  refine z_newa C 0 (atype := .int) (ty := .int) (N' := 73) (a0 := (73, .inl (fun _ => 0))) wa_int rfl rfl (fun _ => vp_cell_i _ _ _) (by decide) (by decide) (Nat.le_of_ble_eq_true rfl) (Nat.le_of_ble_eq_true rfl) (Nat.le_of_ble_eq_true rfl) dX10_init_7 (fun q0 => ?_)
  refine z_tl (tl2 := [(q0, .inl (T.1, 73, .inl (fun _ => 0)))]) rfl ?_
  refine z_putF C (k1 := 0) (v1 := .ref q0) (ty := (.array .int)) rfl inX10 tyX10 tyX10_ok nmX10 (by decide) wf_X10_9 rfl rfl rfl rfl rfl (Nat.le_of_ble_eq_true rfl) dX10_init_9 ?_
  refine z_fs (fs2 := [.ref q0, .int 0, .null, .int 0, .int 0, .int 0]) rfl ?_
  refine z_aload_n C 0 rfl rfl dX10_init_12 ?_
  refine z_iconst C (v1 := 0) dX10_init_13 (by decide) ?_
  refine z_put C (k1 := 1) (v1 := .int 0) (ty := .int) rfl inX10 tyX10 tyX10_ok nmX10 (by decide) wf_X10_15 rfl rfl rfl rfl (Nat.le_of_ble_eq_true rfl) dX10_init_14 ?_
  refine z_fs (fs2 := [.ref q0, .int 0, .null, .int 0, .int 0, .int 0]) rfl ?_
  refine z_aload_n C 0 rfl rfl dX10_init_17 ?_
  refine z_iconst C (v1 := 0) dX10_init_18 (by decide) ?_
  refine z_newa C 0 (atype := .int) (ty := .int) (N' := 0) (a0 := (0, .inl (fun _ => 0))) wa_int rfl rfl (fun _ => vp_cell_i _ _ _) (by decide) (by decide) (Nat.le_of_ble_eq_true rfl) (Nat.le_of_ble_eq_true rfl) (Nat.le_of_ble_eq_true rfl) dX10_init_19 (fun q1 => ?_)
  refine z_tl (tl2 := [(q0, .inl (T.1, 73, .inl (fun _ => 0))), (q1, .inl (T.1, 0, .inl (fun _ => 0)))]) rfl ?_
  refine z_put C (k1 := 2) (v1 := .ref q1) (ty := (.array .int)) rfl inX10 tyX10 tyX10_ok nmX10 (by decide) wf_X10_19 rfl rfl rfl rfl (Nat.le_of_ble_eq_true rfl) dX10_init_21 ?_
  refine z_fs (fs2 := [.ref q0, .int 0, .ref q1, .int 0, .int 0, .int 0]) rfl ?_
  refine z_aload_n C 0 rfl rfl dX10_init_24 ?_
  refine z_iconst C (v1 := 0) dX10_init_25 (by decide) ?_
  refine z_put C (k1 := 3) (v1 := .int 0) (ty := .int) rfl inX10 tyX10 tyX10_ok nmX10 (by decide) wf_X10_22 rfl rfl rfl rfl (Nat.le_of_ble_eq_true rfl) dX10_init_26 ?_
  refine z_fs (fs2 := [.ref q0, .int 0, .ref q1, .int 0, .int 0, .int 0]) rfl ?_
  refine z_aload_n C 0 rfl rfl dX10_init_29 ?_
  refine z_iconst C (v1 := 0) dX10_init_30 (by decide) ?_
  refine z_put C (k1 := 4) (v1 := .int 0) (ty := .int) rfl inX10 tyX10 tyX10_ok nmX10 (by decide) wf_X10_25 rfl rfl rfl rfl (Nat.le_of_ble_eq_true rfl) dX10_init_31 ?_
  refine z_fs (fs2 := [.ref q0, .int 0, .ref q1, .int 0, .int 0, .int 0]) rfl ?_
  refine z_aload_n C 0 rfl rfl dX10_init_34 ?_
  refine z_iconst C (v1 := 0) dX10_init_35 (by decide) ?_
  refine z_put C (k1 := 5) (v1 := .int 0) (ty := .int) rfl inX10 tyX10 tyX10_ok nmX10 (by decide) wf_X10_28 rfl rfl rfl rfl (Nat.le_of_ble_eq_true rfl) dX10_init_36 ?_
  refine z_fs (fs2 := [.ref q0, .int 0, .ref q1, .int 0, .int 0, .int 0]) rfl ?_
  exact z_vret C (fun j => match j / 100 with | 0 => ([q0, q1] : List Nat).getD j 0 | _ => 0) rfl rfl (Nat.le_refl _) (Nat.le_refl _) dX10_init_39
def z0_X5 : List Value := [.int 0, .null, .null, .null, .null, .int 0, .null, .null, .int 0]
theorem zf_X5 : ∀ j, j < 9 → defaultValue (tyX5 j) = vp_V z0_X5 j := fun j h => match j, h with
  | 0, _ => rfl
  | 1, _ => rfl
  | 2, _ => rfl
  | 3, _ => rfl
  | 4, _ => rfl
  | 5, _ => rfl
  | 6, _ => rfl
  | 7, _ => rfl
  | 8, _ => rfl
  | j + 9, h => absurd h (by omega)
def zw_X5 (T : zT5)  (a : Nat → Nat) : List Value × va_W := ([.int 0, .ref (a 0), .ref (a 1), .ref (a 2), .ref (a 3), .int 0, .ref (a 4), .ref (a 5), .int 0], [((a 0), .inl (T.1, 16, .inl (fun _ => 0))), ((a 1), .inl (T.1, 16, .inl (fun _ => 0))), ((a 2), .inl (T.1, 16, .inl (fun _ => 0))), ((a 3), .inl (T.1, 16, .inl (fun _ => 0))), ((a 4), .inl (T.1, 240, .inl (fun _ => 0))), ((a 5), .inl (T.1, 64, .inl (fun _ => 0)))])
abbrev rmz_X5 : Room := { frames := 1, cells := 6, slots := 368, locals := 40 }
theorem yd_X5_init : yX5_init.cls ≠ "java/lang/invoke/MethodHandle" ∧ yX5_init.cls ≠ "java/lang/invoke/VarHandle" ∧ (parseMethodDescriptor yX5_init.desc).map (fun d => d.parameters.length) = some 0 := by decide +kernel
set_option maxHeartbeats 4000000 in
set_option maxRecDepth 100000 in
theorem zt_X5 (D : va_G) (T : zT5) (l : Launch) (h0 : Nat)  : zMet D T l yX5_init cX5_init 1 rmz_X5 [] h0 5 z0_X5 (zw_X5 T ) 6 368 := by
  refine z_enter (own := RX5) (L0 := [(0, .ref h0)]) (by decide +kernel) rfl rfl (Nat.le_of_ble_eq_true rfl) rfl (fun x sz hl C => ?_)
  refine z_aload_n C 0 rfl rfl dX5_init_0 ?_
  refine z_obj C wm_X5_3 wi_objinit wc_objinit ⟨Nat.le_of_ble_eq_true rfl, Nat.le_of_ble_eq_true rfl⟩ (Nat.le_of_ble_eq_true rfl) dX5_init_1 ?_
  refine z_aload_n C 0 rfl rfl dX5_init_4 ?_
  refine z_iconst C (v1 := 0) dX5_init_5 (by decide) ?_
  refine z_put C (k1 := 0) (v1 := .int 0) (ty := .int) rfl inX5 tyX5 tyX5_ok nmX5 (by decide) wf_X5_9 rfl rfl rfl rfl (Nat.le_of_ble_eq_true rfl) dX5_init_6 ?_
  refine z_fs (fs2 := [.int 0, .null, .null, .null, .null, .int 0, .null, .null, .int 0]) rfl ?_
  refine z_aload_n C 0 rfl rfl dX5_init_9 ?_
  refine z_bipush C (v1 := 16) dX5_init_10 (by decide) ?_
  refine z_newa C 0 (atype := .int) (ty := .int) (N' := 16) (a0 := (16, .inl (fun _ => 0))) wa_int rfl rfl (fun _ => vp_cell_i _ _ _) (by decide) (by decide) (Nat.le_of_ble_eq_true rfl) (Nat.le_of_ble_eq_true rfl) (Nat.le_of_ble_eq_true rfl) dX5_init_12 (fun q0 => ?_)
  refine z_tl (tl2 := [(q0, .inl (T.1, 16, .inl (fun _ => 0)))]) rfl ?_
  refine z_putF C (k1 := 1) (v1 := .ref q0) (ty := (.array .int)) rfl inX5 tyX5 tyX5_ok nmX5 (by decide) wf_X5_15 rfl rfl rfl rfl rfl (Nat.le_of_ble_eq_true rfl) dX5_init_14 ?_
  refine z_fs (fs2 := [.int 0, .ref q0, .null, .null, .null, .int 0, .null, .null, .int 0]) rfl ?_
  refine z_aload_n C 0 rfl rfl dX5_init_17 ?_
  refine z_bipush C (v1 := 16) dX5_init_18 (by decide) ?_
  refine z_newa C 0 (atype := .int) (ty := .int) (N' := 16) (a0 := (16, .inl (fun _ => 0))) wa_int rfl rfl (fun _ => vp_cell_i _ _ _) (by decide) (by decide) (Nat.le_of_ble_eq_true rfl) (Nat.le_of_ble_eq_true rfl) (Nat.le_of_ble_eq_true rfl) dX5_init_20 (fun q1 => ?_)
  refine z_tl (tl2 := [(q0, .inl (T.1, 16, .inl (fun _ => 0))), (q1, .inl (T.1, 16, .inl (fun _ => 0)))]) rfl ?_
  refine z_putF C (k1 := 2) (v1 := .ref q1) (ty := (.array .int)) rfl inX5 tyX5 tyX5_ok nmX5 (by decide) wf_X5_19 rfl rfl rfl rfl rfl (Nat.le_of_ble_eq_true rfl) dX5_init_22 ?_
  refine z_fs (fs2 := [.int 0, .ref q0, .ref q1, .null, .null, .int 0, .null, .null, .int 0]) rfl ?_
  refine z_aload_n C 0 rfl rfl dX5_init_25 ?_
  refine z_bipush C (v1 := 16) dX5_init_26 (by decide) ?_
  refine z_newa C 0 (atype := .int) (ty := .int) (N' := 16) (a0 := (16, .inl (fun _ => 0))) wa_int rfl rfl (fun _ => vp_cell_i _ _ _) (by decide) (by decide) (Nat.le_of_ble_eq_true rfl) (Nat.le_of_ble_eq_true rfl) (Nat.le_of_ble_eq_true rfl) dX5_init_28 (fun q2 => ?_)
  refine z_tl (tl2 := [(q0, .inl (T.1, 16, .inl (fun _ => 0))), (q1, .inl (T.1, 16, .inl (fun _ => 0))), (q2, .inl (T.1, 16, .inl (fun _ => 0)))]) rfl ?_
  refine z_putF C (k1 := 3) (v1 := .ref q2) (ty := (.array .int)) rfl inX5 tyX5 tyX5_ok nmX5 (by decide) wf_X5_22 rfl rfl rfl rfl rfl (Nat.le_of_ble_eq_true rfl) dX5_init_30 ?_
  refine z_fs (fs2 := [.int 0, .ref q0, .ref q1, .ref q2, .null, .int 0, .null, .null, .int 0]) rfl ?_
  refine z_aload_n C 0 rfl rfl dX5_init_33 ?_
  refine z_bipush C (v1 := 16) dX5_init_34 (by decide) ?_
  refine z_newa C 0 (atype := .int) (ty := .int) (N' := 16) (a0 := (16, .inl (fun _ => 0))) wa_int rfl rfl (fun _ => vp_cell_i _ _ _) (by decide) (by decide) (Nat.le_of_ble_eq_true rfl) (Nat.le_of_ble_eq_true rfl) (Nat.le_of_ble_eq_true rfl) dX5_init_36 (fun q3 => ?_)
  refine z_tl (tl2 := [(q0, .inl (T.1, 16, .inl (fun _ => 0))), (q1, .inl (T.1, 16, .inl (fun _ => 0))), (q2, .inl (T.1, 16, .inl (fun _ => 0))), (q3, .inl (T.1, 16, .inl (fun _ => 0)))]) rfl ?_
  refine z_putF C (k1 := 4) (v1 := .ref q3) (ty := (.array .int)) rfl inX5 tyX5 tyX5_ok nmX5 (by decide) wf_X5_25 rfl rfl rfl rfl rfl (Nat.le_of_ble_eq_true rfl) dX5_init_38 ?_
  refine z_fs (fs2 := [.int 0, .ref q0, .ref q1, .ref q2, .ref q3, .int 0, .null, .null, .int 0]) rfl ?_
  refine z_aload_n C 0 rfl rfl dX5_init_41 ?_
  refine z_iconst C (v1 := 0) dX5_init_42 (by decide) ?_
  refine z_put C (k1 := 5) (v1 := .int 0) (ty := .int) rfl inX5 tyX5 tyX5_ok nmX5 (by decide) wf_X5_28 rfl rfl rfl rfl (Nat.le_of_ble_eq_true rfl) dX5_init_43 ?_
  refine z_fs (fs2 := [.int 0, .ref q0, .ref q1, .ref q2, .ref q3, .int 0, .null, .null, .int 0]) rfl ?_
  refine z_aload_n C 0 rfl rfl dX5_init_46 ?_
  refine z_sipush C (v1 := 240) dX5_init_47 (by decide) ?_
  refine z_newa C 0 (atype := .int) (ty := .int) (N' := 240) (a0 := (240, .inl (fun _ => 0))) wa_int rfl rfl (fun _ => vp_cell_i _ _ _) (by decide) (by decide) (Nat.le_of_ble_eq_true rfl) (Nat.le_of_ble_eq_true rfl) (Nat.le_of_ble_eq_true rfl) dX5_init_50 (fun q4 => ?_)
  refine z_tl (tl2 := [(q0, .inl (T.1, 16, .inl (fun _ => 0))), (q1, .inl (T.1, 16, .inl (fun _ => 0))), (q2, .inl (T.1, 16, .inl (fun _ => 0))), (q3, .inl (T.1, 16, .inl (fun _ => 0))), (q4, .inl (T.1, 240, .inl (fun _ => 0)))]) rfl ?_
  refine z_putF C (k1 := 6) (v1 := .ref q4) (ty := (.array .int)) rfl inX5 tyX5 tyX5_ok nmX5 (by decide) wf_X5_31 rfl rfl rfl rfl rfl (Nat.le_of_ble_eq_true rfl) dX5_init_52 ?_
  refine z_fs (fs2 := [.int 0, .ref q0, .ref q1, .ref q2, .ref q3, .int 0, .ref q4, .null, .int 0]) rfl ?_
  refine z_aload_n C 0 rfl rfl dX5_init_55 ?_
  refine z_bipush C (v1 := 64) dX5_init_56 (by decide) ?_
  refine z_newa C 0 (atype := .int) (ty := .int) (N' := 64) (a0 := (64, .inl (fun _ => 0))) wa_int rfl rfl (fun _ => vp_cell_i _ _ _) (by decide) (by decide) (Nat.le_of_ble_eq_true rfl) (Nat.le_of_ble_eq_true rfl) (Nat.le_of_ble_eq_true rfl) dX5_init_58 (fun q5 => ?_)
  refine z_tl (tl2 := [(q0, .inl (T.1, 16, .inl (fun _ => 0))), (q1, .inl (T.1, 16, .inl (fun _ => 0))), (q2, .inl (T.1, 16, .inl (fun _ => 0))), (q3, .inl (T.1, 16, .inl (fun _ => 0))), (q4, .inl (T.1, 240, .inl (fun _ => 0))), (q5, .inl (T.1, 64, .inl (fun _ => 0)))]) rfl ?_
  refine z_putF C (k1 := 7) (v1 := .ref q5) (ty := (.array .int)) rfl inX5 tyX5 tyX5_ok nmX5 (by decide) wf_X5_34 rfl rfl rfl rfl rfl (Nat.le_of_ble_eq_true rfl) dX5_init_60 ?_
  refine z_fs (fs2 := [.int 0, .ref q0, .ref q1, .ref q2, .ref q3, .int 0, .ref q4, .ref q5, .int 0]) rfl ?_
  refine z_aload_n C 0 rfl rfl dX5_init_63 ?_
  refine z_iconst C (v1 := 0) dX5_init_64 (by decide) ?_
  refine z_put C (k1 := 8) (v1 := .int 0) (ty := .boolean) rfl inX5 tyX5 tyX5_ok nmX5 (by decide) wf_X5_37 rfl rfl rfl rfl (Nat.le_of_ble_eq_true rfl) dX5_init_65 ?_
  refine z_fs (fs2 := [.int 0, .ref q0, .ref q1, .ref q2, .ref q3, .int 0, .ref q4, .ref q5, .int 0]) rfl ?_
  exact z_vret C (fun j => match j / 100 with | 0 => ([q0, q1, q2, q3, q4, q5] : List Nat).getD j 0 | _ => 0) rfl rfl (Nat.le_refl _) (Nat.le_refl _) dX5_init_68
def z0_X6 : List Value := [.null, .null, .int 0, .int 0, .int 0]
theorem zf_X6 : ∀ j, j < 5 → defaultValue (tyX6 j) = vp_V z0_X6 j := fun j h => match j, h with
  | 0, _ => rfl
  | 1, _ => rfl
  | 2, _ => rfl
  | 3, _ => rfl
  | 4, _ => rfl
  | j + 5, h => absurd h (by omega)
def zw_X6 (T : zT5)  (a : Nat → Nat) : List Value × va_W := ([.ref (a 0), .ref (a 1), .int 0, .int 0, .int 0], [((a 0), .inr (5, [.int 0, .ref (a 100), .ref (a 101), .ref (a 102), .ref (a 103), .int 0, .ref (a 104), .ref (a 105), .int 0])), ((a 100), .inl (T.1, 16, .inl (fun _ => 0))), ((a 101), .inl (T.1, 16, .inl (fun _ => 0))), ((a 102), .inl (T.1, 16, .inl (fun _ => 0))), ((a 103), .inl (T.1, 16, .inl (fun _ => 0))), ((a 104), .inl (T.1, 240, .inl (fun _ => 0))), ((a 105), .inl (T.1, 64, .inl (fun _ => 0))), ((a 1), .inl (T.1, 0, .inl (fun _ => 0)))])
abbrev rmz_X6 : Room := { frames := 2, cells := 8, slots := 377, locals := 60 }
theorem yd_X6_init : yX6_init.cls ≠ "java/lang/invoke/MethodHandle" ∧ yX6_init.cls ≠ "java/lang/invoke/VarHandle" ∧ (parseMethodDescriptor yX6_init.desc).map (fun d => d.parameters.length) = some 0 := by decide +kernel
set_option maxHeartbeats 4000000 in
set_option maxRecDepth 100000 in
theorem zt_X6 (D : va_G) (T : zT5) (l : Launch) (h0 : Nat)  : zMet D T l yX6_init cX6_init 1 rmz_X6 [] h0 6 z0_X6 (zw_X6 T ) 8 377 := by
  refine z_enter (own := RX6) (L0 := [(0, .ref h0)]) (by decide +kernel) rfl rfl (Nat.le_of_ble_eq_true rfl) rfl (fun x sz hl C => ?_)
  refine z_aload_n C 0 rfl rfl dX6_init_0 ?_
  refine z_obj C wm_X6_3 wi_objinit wc_objinit ⟨Nat.le_of_ble_eq_true rfl, Nat.le_of_ble_eq_true rfl⟩ (Nat.le_of_ble_eq_true rfl) dX6_init_1 ?_
  refine z_aload_n C 0 rfl rfl dX6_init_4 ?_
  refine z_new C (ci2 := 5) (fs2 := z0_X5) inX5 tyX5 tyX5_ok wk_X6_9 wn_X5 wz_X5 rfl zf_X5 (Nat.le_of_ble_eq_true rfl) (Nat.le_of_ble_eq_true rfl) dX6_init_5 (fun q0 => ?_)
  refine z_dup C rfl dX6_init_8 ?_
  refine z_call C (As := []) (st := [.ref q0, .ref h0]) (zt_X5 D T _ q0 ) wmn_X6_11 wi_X5_init wz_X5 wc_X5_init rfl yd_X5_init rfl ⟨rfl, rfl⟩ ⟨Nat.le_of_ble_eq_true rfl, Nat.le_of_ble_eq_true rfl⟩ (Nat.le_of_ble_eq_true rfl) rfl (Nat.le_of_ble_eq_true rfl) (Nat.le_of_ble_eq_true rfl) dX6_init_9 (fun a0 => ?_)
  refine z_tl (tl2 := [(q0, .inr (5, [.int 0, .ref (a0 0), .ref (a0 1), .ref (a0 2), .ref (a0 3), .int 0, .ref (a0 4), .ref (a0 5), .int 0])), ((a0 0), .inl (T.1, 16, .inl (fun _ => 0))), ((a0 1), .inl (T.1, 16, .inl (fun _ => 0))), ((a0 2), .inl (T.1, 16, .inl (fun _ => 0))), ((a0 3), .inl (T.1, 16, .inl (fun _ => 0))), ((a0 4), .inl (T.1, 240, .inl (fun _ => 0))), ((a0 5), .inl (T.1, 64, .inl (fun _ => 0)))]) rfl ?_
  refine z_putF C (k1 := 0) (v1 := .ref q0) (ty := (.object "LineGuild$Law")) rfl inX6 tyX6 tyX6_ok nmX6 (by decide) wf_X6_12 rfl rfl rfl rfl rfl (Nat.le_of_ble_eq_true rfl) dX6_init_12 ?_
  refine z_fs (fs2 := [.ref q0, .null, .int 0, .int 0, .int 0]) rfl ?_
  refine z_aload_n C 0 rfl rfl dX6_init_15 ?_
  refine z_iconst C (v1 := 0) dX6_init_16 (by decide) ?_
  refine z_newa C 0 (atype := .int) (ty := .int) (N' := 0) (a0 := (0, .inl (fun _ => 0))) wa_int rfl rfl (fun _ => vp_cell_i _ _ _) (by decide) (by decide) (Nat.le_of_ble_eq_true rfl) (Nat.le_of_ble_eq_true rfl) (Nat.le_of_ble_eq_true rfl) dX6_init_17 (fun q1 => ?_)
  refine z_tl (tl2 := [(q0, .inr (5, [.int 0, .ref (a0 0), .ref (a0 1), .ref (a0 2), .ref (a0 3), .int 0, .ref (a0 4), .ref (a0 5), .int 0])), ((a0 0), .inl (T.1, 16, .inl (fun _ => 0))), ((a0 1), .inl (T.1, 16, .inl (fun _ => 0))), ((a0 2), .inl (T.1, 16, .inl (fun _ => 0))), ((a0 3), .inl (T.1, 16, .inl (fun _ => 0))), ((a0 4), .inl (T.1, 240, .inl (fun _ => 0))), ((a0 5), .inl (T.1, 64, .inl (fun _ => 0))), (q1, .inl (T.1, 0, .inl (fun _ => 0)))]) rfl ?_
  refine z_put C (k1 := 1) (v1 := .ref q1) (ty := (.array .int)) rfl inX6 tyX6 tyX6_ok nmX6 (by decide) wf_X6_18 rfl rfl rfl rfl (Nat.le_of_ble_eq_true rfl) dX6_init_19 ?_
  refine z_fs (fs2 := [.ref q0, .ref q1, .int 0, .int 0, .int 0]) rfl ?_
  refine z_aload_n C 0 rfl rfl dX6_init_22 ?_
  refine z_iconst C (v1 := 0) dX6_init_23 (by decide) ?_
  refine z_put C (k1 := 2) (v1 := .int 0) (ty := .int) rfl inX6 tyX6 tyX6_ok nmX6 (by decide) wf_X6_22 rfl rfl rfl rfl (Nat.le_of_ble_eq_true rfl) dX6_init_24 ?_
  refine z_fs (fs2 := [.ref q0, .ref q1, .int 0, .int 0, .int 0]) rfl ?_
  refine z_aload_n C 0 rfl rfl dX6_init_27 ?_
  refine z_iconst C (v1 := 0) dX6_init_28 (by decide) ?_
  refine z_put C (k1 := 3) (v1 := .int 0) (ty := .int) rfl inX6 tyX6 tyX6_ok nmX6 (by decide) wf_X6_26 rfl rfl rfl rfl (Nat.le_of_ble_eq_true rfl) dX6_init_29 ?_
  refine z_fs (fs2 := [.ref q0, .ref q1, .int 0, .int 0, .int 0]) rfl ?_
  refine z_aload_n C 0 rfl rfl dX6_init_32 ?_
  refine z_iconst C (v1 := 0) dX6_init_33 (by decide) ?_
  refine z_put C (k1 := 4) (v1 := .int 0) (ty := .int) rfl inX6 tyX6 tyX6_ok nmX6 (by decide) wf_X6_29 rfl rfl rfl rfl (Nat.le_of_ble_eq_true rfl) dX6_init_34 ?_
  refine z_fs (fs2 := [.ref q0, .ref q1, .int 0, .int 0, .int 0]) rfl ?_
  exact z_vret C (fun j => match j / 100 with | 0 => ([q0, q1] : List Nat).getD j 0 | 1 => a0 (j % 100) | _ => 0) rfl rfl (Nat.le_refl _) (Nat.le_refl _) dX6_init_37
def z0_X2 : List Value := [.int 0, .null, .null, .null, .null, .null, .null, .null, .int 0, .int 0, .int 0, .int 0, .int 0]
theorem zf_X2 : ∀ j, j < 13 → defaultValue (tyX2 j) = vp_V z0_X2 j := fun j h => match j, h with
  | 0, _ => rfl
  | 1, _ => rfl
  | 2, _ => rfl
  | 3, _ => rfl
  | 4, _ => rfl
  | 5, _ => rfl
  | 6, _ => rfl
  | 7, _ => rfl
  | 8, _ => rfl
  | 9, _ => rfl
  | 10, _ => rfl
  | 11, _ => rfl
  | 12, _ => rfl
  | j + 13, h => absurd h (by omega)
def zw_X2 (T : zT5)  (a : Nat → Nat) : List Value × va_W := ([.int 0, .ref (a 0), .ref (a 1), .ref (a 2), .ref (a 3), .ref (a 4), .ref (a 5), .ref (a 6), .int 0, .int 0, .int 0, .int 0, .int 0], [((a 0), .inl (T.1, 10, .inl (fun _ => 0))), ((a 1), .inl (T.1, 10, .inl (fun _ => 0))), ((a 2), .inl (T.1, 10, .inl (fun _ => 0))), ((a 3), .inl (T.1, 10, .inl (fun _ => 0))), ((a 4), .inl (T.1, 10, .inl (fun _ => 0))), ((a 5), .inl (T.1, 1024, .inl (fun _ => 0))), ((a 6), .inl (T.1, 1024, .inl (fun _ => 0)))])
abbrev rmz_X2 : Room := { frames := 1, cells := 7, slots := 2098, locals := 40 }
theorem yd_X2_init : yX2_init.cls ≠ "java/lang/invoke/MethodHandle" ∧ yX2_init.cls ≠ "java/lang/invoke/VarHandle" ∧ (parseMethodDescriptor yX2_init.desc).map (fun d => d.parameters.length) = some 0 := by decide +kernel
set_option maxHeartbeats 4000000 in
set_option maxRecDepth 100000 in
theorem zt_X2 (D : va_G) (T : zT5) (l : Launch) (h0 : Nat)  : zMet D T l yX2_init cX2_init 1 rmz_X2 [] h0 2 z0_X2 (zw_X2 T ) 7 2098 := by
  refine z_enter (own := RX2) (L0 := [(0, .ref h0)]) (by decide +kernel) rfl rfl (Nat.le_of_ble_eq_true rfl) rfl (fun x sz hl C => ?_)
  refine z_aload_n C 0 rfl rfl dX2_init_0 ?_
  refine z_obj C wm_X2_3 wi_objinit wc_objinit ⟨Nat.le_of_ble_eq_true rfl, Nat.le_of_ble_eq_true rfl⟩ (Nat.le_of_ble_eq_true rfl) dX2_init_1 ?_
  refine z_aload_n C 0 rfl rfl dX2_init_4 ?_
  refine z_iconst C (v1 := 0) dX2_init_5 (by decide) ?_
  refine z_put C (k1 := 0) (v1 := .int 0) (ty := .int) rfl inX2 tyX2 tyX2_ok nmX2 (by decide) wf_X2_9 rfl rfl rfl rfl (Nat.le_of_ble_eq_true rfl) dX2_init_6 ?_
  refine z_fs (fs2 := [.int 0, .null, .null, .null, .null, .null, .null, .null, .int 0, .int 0, .int 0, .int 0, .int 0]) rfl ?_
  refine z_aload_n C 0 rfl rfl dX2_init_9 ?_
  refine z_bipush C (v1 := 10) dX2_init_10 (by decide) ?_
  refine z_newa C 0 (atype := .int) (ty := .int) (N' := 10) (a0 := (10, .inl (fun _ => 0))) wa_int rfl rfl (fun _ => vp_cell_i _ _ _) (by decide) (by decide) (Nat.le_of_ble_eq_true rfl) (Nat.le_of_ble_eq_true rfl) (Nat.le_of_ble_eq_true rfl) dX2_init_12 (fun q0 => ?_)
  refine z_tl (tl2 := [(q0, .inl (T.1, 10, .inl (fun _ => 0)))]) rfl ?_
  refine z_putF C (k1 := 1) (v1 := .ref q0) (ty := (.array .int)) rfl inX2 tyX2 tyX2_ok nmX2 (by decide) wf_X2_15 rfl rfl rfl rfl rfl (Nat.le_of_ble_eq_true rfl) dX2_init_14 ?_
  refine z_fs (fs2 := [.int 0, .ref q0, .null, .null, .null, .null, .null, .null, .int 0, .int 0, .int 0, .int 0, .int 0]) rfl ?_
  refine z_aload_n C 0 rfl rfl dX2_init_17 ?_
  refine z_bipush C (v1 := 10) dX2_init_18 (by decide) ?_
  refine z_newa C 0 (atype := .int) (ty := .int) (N' := 10) (a0 := (10, .inl (fun _ => 0))) wa_int rfl rfl (fun _ => vp_cell_i _ _ _) (by decide) (by decide) (Nat.le_of_ble_eq_true rfl) (Nat.le_of_ble_eq_true rfl) (Nat.le_of_ble_eq_true rfl) dX2_init_20 (fun q1 => ?_)
  refine z_tl (tl2 := [(q0, .inl (T.1, 10, .inl (fun _ => 0))), (q1, .inl (T.1, 10, .inl (fun _ => 0)))]) rfl ?_
  refine z_putF C (k1 := 2) (v1 := .ref q1) (ty := (.array .int)) rfl inX2 tyX2 tyX2_ok nmX2 (by decide) wf_X2_19 rfl rfl rfl rfl rfl (Nat.le_of_ble_eq_true rfl) dX2_init_22 ?_
  refine z_fs (fs2 := [.int 0, .ref q0, .ref q1, .null, .null, .null, .null, .null, .int 0, .int 0, .int 0, .int 0, .int 0]) rfl ?_
  refine z_aload_n C 0 rfl rfl dX2_init_25 ?_
  refine z_bipush C (v1 := 10) dX2_init_26 (by decide) ?_
  refine z_newa C 0 (atype := .int) (ty := .int) (N' := 10) (a0 := (10, .inl (fun _ => 0))) wa_int rfl rfl (fun _ => vp_cell_i _ _ _) (by decide) (by decide) (Nat.le_of_ble_eq_true rfl) (Nat.le_of_ble_eq_true rfl) (Nat.le_of_ble_eq_true rfl) dX2_init_28 (fun q2 => ?_)
  refine z_tl (tl2 := [(q0, .inl (T.1, 10, .inl (fun _ => 0))), (q1, .inl (T.1, 10, .inl (fun _ => 0))), (q2, .inl (T.1, 10, .inl (fun _ => 0)))]) rfl ?_
  refine z_putF C (k1 := 3) (v1 := .ref q2) (ty := (.array .int)) rfl inX2 tyX2 tyX2_ok nmX2 (by decide) wf_X2_22 rfl rfl rfl rfl rfl (Nat.le_of_ble_eq_true rfl) dX2_init_30 ?_
  refine z_fs (fs2 := [.int 0, .ref q0, .ref q1, .ref q2, .null, .null, .null, .null, .int 0, .int 0, .int 0, .int 0, .int 0]) rfl ?_
  refine z_aload_n C 0 rfl rfl dX2_init_33 ?_
  refine z_bipush C (v1 := 10) dX2_init_34 (by decide) ?_
  refine z_newa C 0 (atype := .int) (ty := .int) (N' := 10) (a0 := (10, .inl (fun _ => 0))) wa_int rfl rfl (fun _ => vp_cell_i _ _ _) (by decide) (by decide) (Nat.le_of_ble_eq_true rfl) (Nat.le_of_ble_eq_true rfl) (Nat.le_of_ble_eq_true rfl) dX2_init_36 (fun q3 => ?_)
  refine z_tl (tl2 := [(q0, .inl (T.1, 10, .inl (fun _ => 0))), (q1, .inl (T.1, 10, .inl (fun _ => 0))), (q2, .inl (T.1, 10, .inl (fun _ => 0))), (q3, .inl (T.1, 10, .inl (fun _ => 0)))]) rfl ?_
  refine z_putF C (k1 := 4) (v1 := .ref q3) (ty := (.array .int)) rfl inX2 tyX2 tyX2_ok nmX2 (by decide) wf_X2_25 rfl rfl rfl rfl rfl (Nat.le_of_ble_eq_true rfl) dX2_init_38 ?_
  refine z_fs (fs2 := [.int 0, .ref q0, .ref q1, .ref q2, .ref q3, .null, .null, .null, .int 0, .int 0, .int 0, .int 0, .int 0]) rfl ?_
  refine z_aload_n C 0 rfl rfl dX2_init_41 ?_
  refine z_bipush C (v1 := 10) dX2_init_42 (by decide) ?_
  refine z_newa C 0 (atype := .int) (ty := .int) (N' := 10) (a0 := (10, .inl (fun _ => 0))) wa_int rfl rfl (fun _ => vp_cell_i _ _ _) (by decide) (by decide) (Nat.le_of_ble_eq_true rfl) (Nat.le_of_ble_eq_true rfl) (Nat.le_of_ble_eq_true rfl) dX2_init_44 (fun q4 => ?_)
  refine z_tl (tl2 := [(q0, .inl (T.1, 10, .inl (fun _ => 0))), (q1, .inl (T.1, 10, .inl (fun _ => 0))), (q2, .inl (T.1, 10, .inl (fun _ => 0))), (q3, .inl (T.1, 10, .inl (fun _ => 0))), (q4, .inl (T.1, 10, .inl (fun _ => 0)))]) rfl ?_
  refine z_putF C (k1 := 5) (v1 := .ref q4) (ty := (.array .int)) rfl inX2 tyX2 tyX2_ok nmX2 (by decide) wf_X2_28 rfl rfl rfl rfl rfl (Nat.le_of_ble_eq_true rfl) dX2_init_46 ?_
  refine z_fs (fs2 := [.int 0, .ref q0, .ref q1, .ref q2, .ref q3, .ref q4, .null, .null, .int 0, .int 0, .int 0, .int 0, .int 0]) rfl ?_
  refine z_aload_n C 0 rfl rfl dX2_init_49 ?_
  refine z_sipush C (v1 := 1024) dX2_init_50 (by decide) ?_
  refine z_newa C 0 (atype := .int) (ty := .int) (N' := 1024) (a0 := (1024, .inl (fun _ => 0))) wa_int rfl rfl (fun _ => vp_cell_i _ _ _) (by decide) (by decide) (Nat.le_of_ble_eq_true rfl) (Nat.le_of_ble_eq_true rfl) (Nat.le_of_ble_eq_true rfl) dX2_init_53 (fun q5 => ?_)
  refine z_tl (tl2 := [(q0, .inl (T.1, 10, .inl (fun _ => 0))), (q1, .inl (T.1, 10, .inl (fun _ => 0))), (q2, .inl (T.1, 10, .inl (fun _ => 0))), (q3, .inl (T.1, 10, .inl (fun _ => 0))), (q4, .inl (T.1, 10, .inl (fun _ => 0))), (q5, .inl (T.1, 1024, .inl (fun _ => 0)))]) rfl ?_
  refine z_putF C (k1 := 6) (v1 := .ref q5) (ty := (.array .int)) rfl inX2 tyX2 tyX2_ok nmX2 (by decide) wf_X2_31 rfl rfl rfl rfl rfl (Nat.le_of_ble_eq_true rfl) dX2_init_55 ?_
  refine z_fs (fs2 := [.int 0, .ref q0, .ref q1, .ref q2, .ref q3, .ref q4, .ref q5, .null, .int 0, .int 0, .int 0, .int 0, .int 0]) rfl ?_
  refine z_aload_n C 0 rfl rfl dX2_init_58 ?_
  refine z_sipush C (v1 := 1024) dX2_init_59 (by decide) ?_
  refine z_newa C 0 (atype := .int) (ty := .int) (N' := 1024) (a0 := (1024, .inl (fun _ => 0))) wa_int rfl rfl (fun _ => vp_cell_i _ _ _) (by decide) (by decide) (Nat.le_of_ble_eq_true rfl) (Nat.le_of_ble_eq_true rfl) (Nat.le_of_ble_eq_true rfl) dX2_init_62 (fun q6 => ?_)
  refine z_tl (tl2 := [(q0, .inl (T.1, 10, .inl (fun _ => 0))), (q1, .inl (T.1, 10, .inl (fun _ => 0))), (q2, .inl (T.1, 10, .inl (fun _ => 0))), (q3, .inl (T.1, 10, .inl (fun _ => 0))), (q4, .inl (T.1, 10, .inl (fun _ => 0))), (q5, .inl (T.1, 1024, .inl (fun _ => 0))), (q6, .inl (T.1, 1024, .inl (fun _ => 0)))]) rfl ?_
  refine z_putF C (k1 := 7) (v1 := .ref q6) (ty := (.array .int)) rfl inX2 tyX2 tyX2_ok nmX2 (by decide) wf_X2_34 rfl rfl rfl rfl rfl (Nat.le_of_ble_eq_true rfl) dX2_init_64 ?_
  refine z_fs (fs2 := [.int 0, .ref q0, .ref q1, .ref q2, .ref q3, .ref q4, .ref q5, .ref q6, .int 0, .int 0, .int 0, .int 0, .int 0]) rfl ?_
  refine z_aload_n C 0 rfl rfl dX2_init_67 ?_
  refine z_iconst C (v1 := 0) dX2_init_68 (by decide) ?_
  refine z_put C (k1 := 8) (v1 := .int 0) (ty := .int) rfl inX2 tyX2 tyX2_ok nmX2 (by decide) wf_X2_37 rfl rfl rfl rfl (Nat.le_of_ble_eq_true rfl) dX2_init_69 ?_
  refine z_fs (fs2 := [.int 0, .ref q0, .ref q1, .ref q2, .ref q3, .ref q4, .ref q5, .ref q6, .int 0, .int 0, .int 0, .int 0, .int 0]) rfl ?_
  refine z_aload_n C 0 rfl rfl dX2_init_72 ?_
  refine z_iconst C (v1 := 0) dX2_init_73 (by decide) ?_
  refine z_put C (k1 := 9) (v1 := .int 0) (ty := .int) rfl inX2 tyX2 tyX2_ok nmX2 (by decide) wf_X2_40 rfl rfl rfl rfl (Nat.le_of_ble_eq_true rfl) dX2_init_74 ?_
  refine z_fs (fs2 := [.int 0, .ref q0, .ref q1, .ref q2, .ref q3, .ref q4, .ref q5, .ref q6, .int 0, .int 0, .int 0, .int 0, .int 0]) rfl ?_
  refine z_aload_n C 0 rfl rfl dX2_init_77 ?_
  refine z_iconst C (v1 := 0) dX2_init_78 (by decide) ?_
  refine z_put C (k1 := 10) (v1 := .int 0) (ty := .int) rfl inX2 tyX2 tyX2_ok nmX2 (by decide) wf_X2_43 rfl rfl rfl rfl (Nat.le_of_ble_eq_true rfl) dX2_init_79 ?_
  refine z_fs (fs2 := [.int 0, .ref q0, .ref q1, .ref q2, .ref q3, .ref q4, .ref q5, .ref q6, .int 0, .int 0, .int 0, .int 0, .int 0]) rfl ?_
  refine z_aload_n C 0 rfl rfl dX2_init_82 ?_
  refine z_iconst C (v1 := 0) dX2_init_83 (by decide) ?_
  refine z_put C (k1 := 11) (v1 := .int 0) (ty := .int) rfl inX2 tyX2 tyX2_ok nmX2 (by decide) wf_X2_46 rfl rfl rfl rfl (Nat.le_of_ble_eq_true rfl) dX2_init_84 ?_
  refine z_fs (fs2 := [.int 0, .ref q0, .ref q1, .ref q2, .ref q3, .ref q4, .ref q5, .ref q6, .int 0, .int 0, .int 0, .int 0, .int 0]) rfl ?_
  refine z_aload_n C 0 rfl rfl dX2_init_87 ?_
  refine z_iconst C (v1 := 0) dX2_init_88 (by decide) ?_
  refine z_put C (k1 := 12) (v1 := .int 0) (ty := .int) rfl inX2 tyX2 tyX2_ok nmX2 (by decide) wf_X2_49 rfl rfl rfl rfl (Nat.le_of_ble_eq_true rfl) dX2_init_89 ?_
  refine z_fs (fs2 := [.int 0, .ref q0, .ref q1, .ref q2, .ref q3, .ref q4, .ref q5, .ref q6, .int 0, .int 0, .int 0, .int 0, .int 0]) rfl ?_
  exact z_vret C (fun j => match j / 100 with | 0 => ([q0, q1, q2, q3, q4, q5, q6] : List Nat).getD j 0 | _ => 0) rfl rfl (Nat.le_refl _) (Nat.le_refl _) dX2_init_92
def z0_X4 : List Value := [.int 0, .null, .null, .null, .null, .int 0, .null, .null, .null, .null, .int 0, .int 0, .int 0, .int 0]
theorem zf_X4 : ∀ j, j < 14 → defaultValue (tyX4 j) = vp_V z0_X4 j := fun j h => match j, h with
  | 0, _ => rfl
  | 1, _ => rfl
  | 2, _ => rfl
  | 3, _ => rfl
  | 4, _ => rfl
  | 5, _ => rfl
  | 6, _ => rfl
  | 7, _ => rfl
  | 8, _ => rfl
  | 9, _ => rfl
  | 10, _ => rfl
  | 11, _ => rfl
  | 12, _ => rfl
  | 13, _ => rfl
  | j + 14, h => absurd h (by omega)
def zw_X4 (T : zT5)  (a : Nat → Nat) : List Value × va_W := ([.int 0, .ref (a 0), .ref (a 1), .ref (a 2), .ref (a 3), .int 0, .ref (a 4), .ref (a 5), .ref (a 6), .ref (a 7), .int 0, .int 0, .int 0, .int 1], [((a 0), .inl (T.1, 4, .inl (fun _ => 0))), ((a 1), .inl (T.1, 4, .inl (fun _ => 0))), ((a 2), .inl (T.1, 4, .inl (fun _ => 0))), ((a 3), .inl (T.1, 4, .inl (fun _ => 0))), ((a 4), .inl (T.1, 10, .inl (fun _ => 0))), ((a 5), .inl (T.1, 10, .inl (fun _ => 0))), ((a 6), .inl (T.1, 10, .inl (fun _ => 0))), ((a 7), .inl (T.1, 10, .inl (fun _ => 0)))])
abbrev rmz_X4 : Room := { frames := 1, cells := 8, slots := 56, locals := 40 }
theorem yd_X4_init : yX4_init.cls ≠ "java/lang/invoke/MethodHandle" ∧ yX4_init.cls ≠ "java/lang/invoke/VarHandle" ∧ (parseMethodDescriptor yX4_init.desc).map (fun d => d.parameters.length) = some 0 := by decide +kernel
set_option maxHeartbeats 4000000 in
set_option maxRecDepth 100000 in
theorem zt_X4 (D : va_G) (T : zT5) (l : Launch) (h0 : Nat)  : zMet D T l yX4_init cX4_init 1 rmz_X4 [] h0 4 z0_X4 (zw_X4 T ) 8 56 := by
  refine z_enter (own := RX4) (L0 := [(0, .ref h0)]) (by decide +kernel) rfl rfl (Nat.le_of_ble_eq_true rfl) rfl (fun x sz hl C => ?_)
  refine z_aload_n C 0 rfl rfl dX4_init_0 ?_
  refine z_obj C wm_X4_3 wi_objinit wc_objinit ⟨Nat.le_of_ble_eq_true rfl, Nat.le_of_ble_eq_true rfl⟩ (Nat.le_of_ble_eq_true rfl) dX4_init_1 ?_
  refine z_aload_n C 0 rfl rfl dX4_init_4 ?_
  refine z_iconst C (v1 := 0) dX4_init_5 (by decide) ?_
  refine z_put C (k1 := 0) (v1 := .int 0) (ty := .int) rfl inX4 tyX4 tyX4_ok nmX4 (by decide) wf_X4_9 rfl rfl rfl rfl (Nat.le_of_ble_eq_true rfl) dX4_init_6 ?_
  refine z_fs (fs2 := [.int 0, .null, .null, .null, .null, .int 0, .null, .null, .null, .null, .int 0, .int 0, .int 0, .int 0]) rfl ?_
  refine z_aload_n C 0 rfl rfl dX4_init_9 ?_
  refine z_iconst C (v1 := 4) dX4_init_10 (by decide) ?_
  refine z_newa C 0 (atype := .int) (ty := .int) (N' := 4) (a0 := (4, .inl (fun _ => 0))) wa_int rfl rfl (fun _ => vp_cell_i _ _ _) (by decide) (by decide) (Nat.le_of_ble_eq_true rfl) (Nat.le_of_ble_eq_true rfl) (Nat.le_of_ble_eq_true rfl) dX4_init_11 (fun q0 => ?_)
  refine z_tl (tl2 := [(q0, .inl (T.1, 4, .inl (fun _ => 0)))]) rfl ?_
  refine z_putF C (k1 := 1) (v1 := .ref q0) (ty := (.array .int)) rfl inX4 tyX4 tyX4_ok nmX4 (by decide) wf_X4_15 rfl rfl rfl rfl rfl (Nat.le_of_ble_eq_true rfl) dX4_init_13 ?_
  refine z_fs (fs2 := [.int 0, .ref q0, .null, .null, .null, .int 0, .null, .null, .null, .null, .int 0, .int 0, .int 0, .int 0]) rfl ?_
  refine z_aload_n C 0 rfl rfl dX4_init_16 ?_
  refine z_iconst C (v1 := 4) dX4_init_17 (by decide) ?_
  refine z_newa C 0 (atype := .int) (ty := .int) (N' := 4) (a0 := (4, .inl (fun _ => 0))) wa_int rfl rfl (fun _ => vp_cell_i _ _ _) (by decide) (by decide) (Nat.le_of_ble_eq_true rfl) (Nat.le_of_ble_eq_true rfl) (Nat.le_of_ble_eq_true rfl) dX4_init_18 (fun q1 => ?_)
  refine z_tl (tl2 := [(q0, .inl (T.1, 4, .inl (fun _ => 0))), (q1, .inl (T.1, 4, .inl (fun _ => 0)))]) rfl ?_
  refine z_putF C (k1 := 2) (v1 := .ref q1) (ty := (.array .int)) rfl inX4 tyX4 tyX4_ok nmX4 (by decide) wf_X4_19 rfl rfl rfl rfl rfl (Nat.le_of_ble_eq_true rfl) dX4_init_20 ?_
  refine z_fs (fs2 := [.int 0, .ref q0, .ref q1, .null, .null, .int 0, .null, .null, .null, .null, .int 0, .int 0, .int 0, .int 0]) rfl ?_
  refine z_aload_n C 0 rfl rfl dX4_init_23 ?_
  refine z_iconst C (v1 := 4) dX4_init_24 (by decide) ?_
  refine z_newa C 0 (atype := .int) (ty := .int) (N' := 4) (a0 := (4, .inl (fun _ => 0))) wa_int rfl rfl (fun _ => vp_cell_i _ _ _) (by decide) (by decide) (Nat.le_of_ble_eq_true rfl) (Nat.le_of_ble_eq_true rfl) (Nat.le_of_ble_eq_true rfl) dX4_init_25 (fun q2 => ?_)
  refine z_tl (tl2 := [(q0, .inl (T.1, 4, .inl (fun _ => 0))), (q1, .inl (T.1, 4, .inl (fun _ => 0))), (q2, .inl (T.1, 4, .inl (fun _ => 0)))]) rfl ?_
  refine z_putF C (k1 := 3) (v1 := .ref q2) (ty := (.array .int)) rfl inX4 tyX4 tyX4_ok nmX4 (by decide) wf_X4_22 rfl rfl rfl rfl rfl (Nat.le_of_ble_eq_true rfl) dX4_init_27 ?_
  refine z_fs (fs2 := [.int 0, .ref q0, .ref q1, .ref q2, .null, .int 0, .null, .null, .null, .null, .int 0, .int 0, .int 0, .int 0]) rfl ?_
  refine z_aload_n C 0 rfl rfl dX4_init_30 ?_
  refine z_iconst C (v1 := 4) dX4_init_31 (by decide) ?_
  refine z_newa C 0 (atype := .int) (ty := .int) (N' := 4) (a0 := (4, .inl (fun _ => 0))) wa_int rfl rfl (fun _ => vp_cell_i _ _ _) (by decide) (by decide) (Nat.le_of_ble_eq_true rfl) (Nat.le_of_ble_eq_true rfl) (Nat.le_of_ble_eq_true rfl) dX4_init_32 (fun q3 => ?_)
  refine z_tl (tl2 := [(q0, .inl (T.1, 4, .inl (fun _ => 0))), (q1, .inl (T.1, 4, .inl (fun _ => 0))), (q2, .inl (T.1, 4, .inl (fun _ => 0))), (q3, .inl (T.1, 4, .inl (fun _ => 0)))]) rfl ?_
  refine z_putF C (k1 := 4) (v1 := .ref q3) (ty := (.array .int)) rfl inX4 tyX4 tyX4_ok nmX4 (by decide) wf_X4_25 rfl rfl rfl rfl rfl (Nat.le_of_ble_eq_true rfl) dX4_init_34 ?_
  refine z_fs (fs2 := [.int 0, .ref q0, .ref q1, .ref q2, .ref q3, .int 0, .null, .null, .null, .null, .int 0, .int 0, .int 0, .int 0]) rfl ?_
  refine z_aload_n C 0 rfl rfl dX4_init_37 ?_
  refine z_iconst C (v1 := 0) dX4_init_38 (by decide) ?_
  refine z_put C (k1 := 5) (v1 := .int 0) (ty := .int) rfl inX4 tyX4 tyX4_ok nmX4 (by decide) wf_X4_28 rfl rfl rfl rfl (Nat.le_of_ble_eq_true rfl) dX4_init_39 ?_
  refine z_fs (fs2 := [.int 0, .ref q0, .ref q1, .ref q2, .ref q3, .int 0, .null, .null, .null, .null, .int 0, .int 0, .int 0, .int 0]) rfl ?_
  refine z_aload_n C 0 rfl rfl dX4_init_42 ?_
  refine z_bipush C (v1 := 10) dX4_init_43 (by decide) ?_
  refine z_newa C 0 (atype := .int) (ty := .int) (N' := 10) (a0 := (10, .inl (fun _ => 0))) wa_int rfl rfl (fun _ => vp_cell_i _ _ _) (by decide) (by decide) (Nat.le_of_ble_eq_true rfl) (Nat.le_of_ble_eq_true rfl) (Nat.le_of_ble_eq_true rfl) dX4_init_45 (fun q4 => ?_)
  refine z_tl (tl2 := [(q0, .inl (T.1, 4, .inl (fun _ => 0))), (q1, .inl (T.1, 4, .inl (fun _ => 0))), (q2, .inl (T.1, 4, .inl (fun _ => 0))), (q3, .inl (T.1, 4, .inl (fun _ => 0))), (q4, .inl (T.1, 10, .inl (fun _ => 0)))]) rfl ?_
  refine z_putF C (k1 := 6) (v1 := .ref q4) (ty := (.array .int)) rfl inX4 tyX4 tyX4_ok nmX4 (by decide) wf_X4_31 rfl rfl rfl rfl rfl (Nat.le_of_ble_eq_true rfl) dX4_init_47 ?_
  refine z_fs (fs2 := [.int 0, .ref q0, .ref q1, .ref q2, .ref q3, .int 0, .ref q4, .null, .null, .null, .int 0, .int 0, .int 0, .int 0]) rfl ?_
  refine z_aload_n C 0 rfl rfl dX4_init_50 ?_
  refine z_bipush C (v1 := 10) dX4_init_51 (by decide) ?_
  refine z_newa C 0 (atype := .int) (ty := .int) (N' := 10) (a0 := (10, .inl (fun _ => 0))) wa_int rfl rfl (fun _ => vp_cell_i _ _ _) (by decide) (by decide) (Nat.le_of_ble_eq_true rfl) (Nat.le_of_ble_eq_true rfl) (Nat.le_of_ble_eq_true rfl) dX4_init_53 (fun q5 => ?_)
  refine z_tl (tl2 := [(q0, .inl (T.1, 4, .inl (fun _ => 0))), (q1, .inl (T.1, 4, .inl (fun _ => 0))), (q2, .inl (T.1, 4, .inl (fun _ => 0))), (q3, .inl (T.1, 4, .inl (fun _ => 0))), (q4, .inl (T.1, 10, .inl (fun _ => 0))), (q5, .inl (T.1, 10, .inl (fun _ => 0)))]) rfl ?_
  refine z_putF C (k1 := 7) (v1 := .ref q5) (ty := (.array .int)) rfl inX4 tyX4 tyX4_ok nmX4 (by decide) wf_X4_34 rfl rfl rfl rfl rfl (Nat.le_of_ble_eq_true rfl) dX4_init_55 ?_
  refine z_fs (fs2 := [.int 0, .ref q0, .ref q1, .ref q2, .ref q3, .int 0, .ref q4, .ref q5, .null, .null, .int 0, .int 0, .int 0, .int 0]) rfl ?_
  refine z_aload_n C 0 rfl rfl dX4_init_58 ?_
  refine z_bipush C (v1 := 10) dX4_init_59 (by decide) ?_
  refine z_newa C 0 (atype := .int) (ty := .int) (N' := 10) (a0 := (10, .inl (fun _ => 0))) wa_int rfl rfl (fun _ => vp_cell_i _ _ _) (by decide) (by decide) (Nat.le_of_ble_eq_true rfl) (Nat.le_of_ble_eq_true rfl) (Nat.le_of_ble_eq_true rfl) dX4_init_61 (fun q6 => ?_)
  refine z_tl (tl2 := [(q0, .inl (T.1, 4, .inl (fun _ => 0))), (q1, .inl (T.1, 4, .inl (fun _ => 0))), (q2, .inl (T.1, 4, .inl (fun _ => 0))), (q3, .inl (T.1, 4, .inl (fun _ => 0))), (q4, .inl (T.1, 10, .inl (fun _ => 0))), (q5, .inl (T.1, 10, .inl (fun _ => 0))), (q6, .inl (T.1, 10, .inl (fun _ => 0)))]) rfl ?_
  refine z_putF C (k1 := 8) (v1 := .ref q6) (ty := (.array .int)) rfl inX4 tyX4 tyX4_ok nmX4 (by decide) wf_X4_37 rfl rfl rfl rfl rfl (Nat.le_of_ble_eq_true rfl) dX4_init_63 ?_
  refine z_fs (fs2 := [.int 0, .ref q0, .ref q1, .ref q2, .ref q3, .int 0, .ref q4, .ref q5, .ref q6, .null, .int 0, .int 0, .int 0, .int 0]) rfl ?_
  refine z_aload_n C 0 rfl rfl dX4_init_66 ?_
  refine z_bipush C (v1 := 10) dX4_init_67 (by decide) ?_
  refine z_newa C 0 (atype := .int) (ty := .int) (N' := 10) (a0 := (10, .inl (fun _ => 0))) wa_int rfl rfl (fun _ => vp_cell_i _ _ _) (by decide) (by decide) (Nat.le_of_ble_eq_true rfl) (Nat.le_of_ble_eq_true rfl) (Nat.le_of_ble_eq_true rfl) dX4_init_69 (fun q7 => ?_)
  refine z_tl (tl2 := [(q0, .inl (T.1, 4, .inl (fun _ => 0))), (q1, .inl (T.1, 4, .inl (fun _ => 0))), (q2, .inl (T.1, 4, .inl (fun _ => 0))), (q3, .inl (T.1, 4, .inl (fun _ => 0))), (q4, .inl (T.1, 10, .inl (fun _ => 0))), (q5, .inl (T.1, 10, .inl (fun _ => 0))), (q6, .inl (T.1, 10, .inl (fun _ => 0))), (q7, .inl (T.1, 10, .inl (fun _ => 0)))]) rfl ?_
  refine z_putF C (k1 := 9) (v1 := .ref q7) (ty := (.array .int)) rfl inX4 tyX4 tyX4_ok nmX4 (by decide) wf_X4_40 rfl rfl rfl rfl rfl (Nat.le_of_ble_eq_true rfl) dX4_init_71 ?_
  refine z_fs (fs2 := [.int 0, .ref q0, .ref q1, .ref q2, .ref q3, .int 0, .ref q4, .ref q5, .ref q6, .ref q7, .int 0, .int 0, .int 0, .int 0]) rfl ?_
  refine z_aload_n C 0 rfl rfl dX4_init_74 ?_
  refine z_iconst C (v1 := 0) dX4_init_75 (by decide) ?_
  refine z_put C (k1 := 10) (v1 := .int 0) (ty := .int) rfl inX4 tyX4 tyX4_ok nmX4 (by decide) wf_X4_43 rfl rfl rfl rfl (Nat.le_of_ble_eq_true rfl) dX4_init_76 ?_
  refine z_fs (fs2 := [.int 0, .ref q0, .ref q1, .ref q2, .ref q3, .int 0, .ref q4, .ref q5, .ref q6, .ref q7, .int 0, .int 0, .int 0, .int 0]) rfl ?_
  refine z_aload_n C 0 rfl rfl dX4_init_79 ?_
  refine z_iconst C (v1 := 0) dX4_init_80 (by decide) ?_
  refine z_put C (k1 := 11) (v1 := .int 0) (ty := .int) rfl inX4 tyX4 tyX4_ok nmX4 (by decide) wf_X4_46 rfl rfl rfl rfl (Nat.le_of_ble_eq_true rfl) dX4_init_81 ?_
  refine z_fs (fs2 := [.int 0, .ref q0, .ref q1, .ref q2, .ref q3, .int 0, .ref q4, .ref q5, .ref q6, .ref q7, .int 0, .int 0, .int 0, .int 0]) rfl ?_
  refine z_aload_n C 0 rfl rfl dX4_init_84 ?_
  refine z_iconst C (v1 := 0) dX4_init_85 (by decide) ?_
  refine z_put C (k1 := 12) (v1 := .int 0) (ty := .int) rfl inX4 tyX4 tyX4_ok nmX4 (by decide) wf_X4_49 rfl rfl rfl rfl (Nat.le_of_ble_eq_true rfl) dX4_init_86 ?_
  refine z_fs (fs2 := [.int 0, .ref q0, .ref q1, .ref q2, .ref q3, .int 0, .ref q4, .ref q5, .ref q6, .ref q7, .int 0, .int 0, .int 0, .int 0]) rfl ?_
  refine z_aload_n C 0 rfl rfl dX4_init_89 ?_
  refine z_iconst C (v1 := 1) dX4_init_90 (by decide) ?_
  refine z_put C (k1 := 13) (v1 := .int 1) (ty := .int) rfl inX4 tyX4 tyX4_ok nmX4 (by decide) wf_X4_52 rfl rfl rfl rfl (Nat.le_of_ble_eq_true rfl) dX4_init_91 ?_
  refine z_fs (fs2 := [.int 0, .ref q0, .ref q1, .ref q2, .ref q3, .int 0, .ref q4, .ref q5, .ref q6, .ref q7, .int 0, .int 0, .int 0, .int 1]) rfl ?_
  exact z_vret C (fun j => match j / 100 with | 0 => ([q0, q1, q2, q3, q4, q5, q6, q7] : List Nat).getD j 0 | _ => 0) rfl rfl (Nat.le_refl _) (Nat.le_refl _) dX4_init_94
def z0_X0 : List Value := [.null, .null]
theorem zf_X0 : ∀ j, j < 2 → defaultValue (tyX0 j) = vp_V z0_X0 j := fun j h => match j, h with
  | 0, _ => rfl
  | 1, _ => rfl
  | j + 2, h => absurd h (by omega)
def zw_X0 (T : zT5) (p0 : Nat) (a : Nat → Nat) : List Value × va_W := ([.ref p0, .ref (a 0)], [((a 0), .inl (T.1, 12, .inl (fun _ => 0)))])
abbrev rmz_X0 : Room := { frames := 1, cells := 1, slots := 12, locals := 40 }
theorem yd_X0_init : yX0_init.cls ≠ "java/lang/invoke/MethodHandle" ∧ yX0_init.cls ≠ "java/lang/invoke/VarHandle" ∧ (parseMethodDescriptor yX0_init.desc).map (fun d => d.parameters.length) = some 1 := by decide +kernel
set_option maxHeartbeats 4000000 in
set_option maxRecDepth 100000 in
theorem zt_X0 (D : va_G) (T : zT5) (l : Launch) (h0 : Nat) (p0 : Nat) : zMet D T l yX0_init cX0_init 2 rmz_X0 [.ref p0] h0 0 z0_X0 (zw_X0 T p0) 1 12 := by
  refine z_enter (own := RX0) (L0 := [(0, .ref h0), (1, .ref p0)]) (by decide +kernel) rfl rfl (Nat.le_of_ble_eq_true rfl) rfl (fun x sz hl C => ?_)
  refine z_aload_n C 0 rfl rfl dX0_init_0 ?_
  refine z_obj C wm_X0_1 wi_objinit wc_objinit ⟨Nat.le_of_ble_eq_true rfl, Nat.le_of_ble_eq_true rfl⟩ (Nat.le_of_ble_eq_true rfl) dX0_init_1 ?_
  refine z_aload_n C 0 rfl rfl dX0_init_4 ?_
  refine z_bipush C (v1 := 12) dX0_init_5 (by decide) ?_
  refine z_newa C 0 (atype := .int) (ty := .int) (N' := 12) (a0 := (12, .inl (fun _ => 0))) wa_int rfl rfl (fun _ => vp_cell_i _ _ _) (by decide) (by decide) (Nat.le_of_ble_eq_true rfl) (Nat.le_of_ble_eq_true rfl) (Nat.le_of_ble_eq_true rfl) dX0_init_7 (fun q0 => ?_)
  refine z_tl (tl2 := [(q0, .inl (T.1, 12, .inl (fun _ => 0)))]) rfl ?_
  refine z_putF C (k1 := 1) (v1 := .ref q0) (ty := (.array .int)) rfl inX0 tyX0 tyX0_ok nmX0 (by decide) wf_X0_7 rfl rfl rfl rfl rfl (Nat.le_of_ble_eq_true rfl) dX0_init_9 ?_
  refine z_fs (fs2 := [.null, .ref q0]) rfl ?_
  refine z_aload_n C 0 rfl rfl dX0_init_12 ?_
  refine z_aload_n C 1 rfl rfl dX0_init_13 ?_
  refine z_putF C (k1 := 0) (v1 := .ref p0) (ty := (.object "LineGuild$Ends")) rfl inX0 tyX0 tyX0_ok nmX0 (by decide) wf_X0_13 rfl rfl rfl rfl rfl (Nat.le_of_ble_eq_true rfl) dX0_init_14 ?_
  refine z_fs (fs2 := [.ref p0, .ref q0]) rfl ?_
  exact z_vret C (fun j => match j / 100 with | 0 => ([q0] : List Nat).getD j 0 | _ => 0) rfl rfl (Nat.le_refl _) (Nat.le_refl _) dX0_init_17
def z0_X1 : List Value := [.null, .null, .null, .null, .null, .int 0, .int 0, .int 0, .int 0, .int 0, .int 0, .int 0, .int 0, .int 0, .int 0]
theorem zf_X1 : ∀ j, j < 15 → defaultValue (tyX1 j) = vp_V z0_X1 j := fun j h => match j, h with
  | 0, _ => rfl
  | 1, _ => rfl
  | 2, _ => rfl
  | 3, _ => rfl
  | 4, _ => rfl
  | 5, _ => rfl
  | 6, _ => rfl
  | 7, _ => rfl
  | 8, _ => rfl
  | 9, _ => rfl
  | 10, _ => rfl
  | 11, _ => rfl
  | 12, _ => rfl
  | 13, _ => rfl
  | 14, _ => rfl
  | j + 15, h => absurd h (by omega)
def zw_X1 (T : zT5) (p0 : Nat) (p1 : Nat) (p2 : Nat) (p3 : Nat) (p4 : Nat) (a : Nat → Nat) : List Value × va_W := ([.ref p0, .ref p1, .ref p2, .ref p3, .ref p4, .int 0, .int 0, .int 0, .int 0, .int 0, .int 0, .int 0, .int 0, .int (-2), .int (-2)], [])
abbrev rmz_X1 : Room := { frames := 1, cells := 0, slots := 0, locals := 40 }
theorem yd_X1_init : yX1_init.cls ≠ "java/lang/invoke/MethodHandle" ∧ yX1_init.cls ≠ "java/lang/invoke/VarHandle" ∧ (parseMethodDescriptor yX1_init.desc).map (fun d => d.parameters.length) = some 5 := by decide +kernel
set_option maxHeartbeats 4000000 in
set_option maxRecDepth 100000 in
theorem zt_X1 (D : va_G) (T : zT5) (l : Launch) (h0 : Nat) (p0 : Nat) (p1 : Nat) (p2 : Nat) (p3 : Nat) (p4 : Nat) : zMet D T l yX1_init cX1_init 6 rmz_X1 [.ref p0, .ref p1, .ref p2, .ref p3, .ref p4] h0 1 z0_X1 (zw_X1 T p0 p1 p2 p3 p4) 0 0 := by
  refine z_enter (own := RX1) (L0 := [(0, .ref h0), (1, .ref p0), (2, .ref p1), (3, .ref p2), (4, .ref p3), (5, .ref p4)]) (by decide +kernel) rfl rfl (Nat.le_of_ble_eq_true rfl) rfl (fun x sz hl C => ?_)
  refine z_aload_n C 0 rfl rfl dX1_init_0 ?_
  refine z_obj C wm_X1_3 wi_objinit wc_objinit ⟨Nat.le_of_ble_eq_true rfl, Nat.le_of_ble_eq_true rfl⟩ (Nat.le_of_ble_eq_true rfl) dX1_init_1 ?_
  refine z_aload_n C 0 rfl rfl dX1_init_4 ?_
  refine z_iconst C (v1 := 0) dX1_init_5 (by decide) ?_
  refine z_put C (k1 := 5) (v1 := .int 0) (ty := .int) rfl inX1 tyX1 tyX1_ok nmX1 (by decide) wf_X1_9 rfl rfl rfl rfl (Nat.le_of_ble_eq_true rfl) dX1_init_6 ?_
  refine z_fs (fs2 := [.null, .null, .null, .null, .null, .int 0, .int 0, .int 0, .int 0, .int 0, .int 0, .int 0, .int 0, .int 0, .int 0]) rfl ?_
  refine z_aload_n C 0 rfl rfl dX1_init_9 ?_
  refine z_iconst C (v1 := 0) dX1_init_10 (by decide) ?_
  refine z_put C (k1 := 6) (v1 := .int 0) (ty := .int) rfl inX1 tyX1 tyX1_ok nmX1 (by decide) wf_X1_15 rfl rfl rfl rfl (Nat.le_of_ble_eq_true rfl) dX1_init_11 ?_
  refine z_fs (fs2 := [.null, .null, .null, .null, .null, .int 0, .int 0, .int 0, .int 0, .int 0, .int 0, .int 0, .int 0, .int 0, .int 0]) rfl ?_
  refine z_aload_n C 0 rfl rfl dX1_init_14 ?_
  refine z_iconst C (v1 := 0) dX1_init_15 (by decide) ?_
  refine z_put C (k1 := 7) (v1 := .int 0) (ty := .int) rfl inX1 tyX1 tyX1_ok nmX1 (by decide) wf_X1_18 rfl rfl rfl rfl (Nat.le_of_ble_eq_true rfl) dX1_init_16 ?_
  refine z_fs (fs2 := [.null, .null, .null, .null, .null, .int 0, .int 0, .int 0, .int 0, .int 0, .int 0, .int 0, .int 0, .int 0, .int 0]) rfl ?_
  refine z_aload_n C 0 rfl rfl dX1_init_19 ?_
  refine z_iconst C (v1 := 0) dX1_init_20 (by decide) ?_
  refine z_put C (k1 := 8) (v1 := .int 0) (ty := .int) rfl inX1 tyX1 tyX1_ok nmX1 (by decide) wf_X1_21 rfl rfl rfl rfl (Nat.le_of_ble_eq_true rfl) dX1_init_21 ?_
  refine z_fs (fs2 := [.null, .null, .null, .null, .null, .int 0, .int 0, .int 0, .int 0, .int 0, .int 0, .int 0, .int 0, .int 0, .int 0]) rfl ?_
  refine z_aload_n C 0 rfl rfl dX1_init_24 ?_
  refine z_iconst C (v1 := 0) dX1_init_25 (by decide) ?_
  refine z_put C (k1 := 9) (v1 := .int 0) (ty := .int) rfl inX1 tyX1 tyX1_ok nmX1 (by decide) wf_X1_24 rfl rfl rfl rfl (Nat.le_of_ble_eq_true rfl) dX1_init_26 ?_
  refine z_fs (fs2 := [.null, .null, .null, .null, .null, .int 0, .int 0, .int 0, .int 0, .int 0, .int 0, .int 0, .int 0, .int 0, .int 0]) rfl ?_
  refine z_aload_n C 0 rfl rfl dX1_init_29 ?_
  refine z_iconst C (v1 := 0) dX1_init_30 (by decide) ?_
  refine z_put C (k1 := 10) (v1 := .int 0) (ty := .int) rfl inX1 tyX1 tyX1_ok nmX1 (by decide) wf_X1_27 rfl rfl rfl rfl (Nat.le_of_ble_eq_true rfl) dX1_init_31 ?_
  refine z_fs (fs2 := [.null, .null, .null, .null, .null, .int 0, .int 0, .int 0, .int 0, .int 0, .int 0, .int 0, .int 0, .int 0, .int 0]) rfl ?_
  refine z_aload_n C 0 rfl rfl dX1_init_34 ?_
  refine z_iconst C (v1 := 0) dX1_init_35 (by decide) ?_
  refine z_put C (k1 := 11) (v1 := .int 0) (ty := .int) rfl inX1 tyX1 tyX1_ok nmX1 (by decide) wf_X1_30 rfl rfl rfl rfl (Nat.le_of_ble_eq_true rfl) dX1_init_36 ?_
  refine z_fs (fs2 := [.null, .null, .null, .null, .null, .int 0, .int 0, .int 0, .int 0, .int 0, .int 0, .int 0, .int 0, .int 0, .int 0]) rfl ?_
  refine z_aload_n C 0 rfl rfl dX1_init_39 ?_
  refine z_iconst C (v1 := 0) dX1_init_40 (by decide) ?_
  refine z_put C (k1 := 12) (v1 := .int 0) (ty := .int) rfl inX1 tyX1 tyX1_ok nmX1 (by decide) wf_X1_33 rfl rfl rfl rfl (Nat.le_of_ble_eq_true rfl) dX1_init_41 ?_
  refine z_fs (fs2 := [.null, .null, .null, .null, .null, .int 0, .int 0, .int 0, .int 0, .int 0, .int 0, .int 0, .int 0, .int 0, .int 0]) rfl ?_
  refine z_aload_n C 0 rfl rfl dX1_init_44 ?_
  refine z_bipush C (v1 := (-2)) dX1_init_45 (by decide) ?_
  refine z_put C (k1 := 13) (v1 := .int (-2)) (ty := .int) rfl inX1 tyX1 tyX1_ok nmX1 (by decide) wf_X1_36 rfl rfl rfl rfl (Nat.le_of_ble_eq_true rfl) dX1_init_47 ?_
  refine z_fs (fs2 := [.null, .null, .null, .null, .null, .int 0, .int 0, .int 0, .int 0, .int 0, .int 0, .int 0, .int 0, .int (-2), .int 0]) rfl ?_
  refine z_aload_n C 0 rfl rfl dX1_init_50 ?_
  refine z_bipush C (v1 := (-2)) dX1_init_51 (by decide) ?_
  refine z_put C (k1 := 14) (v1 := .int (-2)) (ty := .int) rfl inX1 tyX1 tyX1_ok nmX1 (by decide) wf_X1_39 rfl rfl rfl rfl (Nat.le_of_ble_eq_true rfl) dX1_init_53 ?_
  refine z_fs (fs2 := [.null, .null, .null, .null, .null, .int 0, .int 0, .int 0, .int 0, .int 0, .int 0, .int 0, .int 0, .int (-2), .int (-2)]) rfl ?_
  refine z_aload_n C 0 rfl rfl dX1_init_56 ?_
  refine z_aload_n C 1 rfl rfl dX1_init_57 ?_
  refine z_putF C (k1 := 0) (v1 := .ref p0) (ty := (.array (.object "LineGuild$Story"))) rfl inX1 tyX1 tyX1_ok nmX1 (by decide) wf_X1_42 rfl rfl rfl rfl rfl (Nat.le_of_ble_eq_true rfl) dX1_init_58 ?_
  refine z_fs (fs2 := [.ref p0, .null, .null, .null, .null, .int 0, .int 0, .int 0, .int 0, .int 0, .int 0, .int 0, .int 0, .int (-2), .int (-2)]) rfl ?_
  refine z_aload_n C 0 rfl rfl dX1_init_61 ?_
  refine z_aload_n C 2 rfl rfl dX1_init_62 ?_
  refine z_putF C (k1 := 1) (v1 := .ref p1) (ty := (.object "LineGuild$Ends")) rfl inX1 tyX1 tyX1_ok nmX1 (by decide) wf_X1_46 rfl rfl rfl rfl rfl (Nat.le_of_ble_eq_true rfl) dX1_init_63 ?_
  refine z_fs (fs2 := [.ref p0, .ref p1, .null, .null, .null, .int 0, .int 0, .int 0, .int 0, .int 0, .int 0, .int 0, .int 0, .int (-2), .int (-2)]) rfl ?_
  refine z_aload_n C 0 rfl rfl dX1_init_66 ?_
  refine z_aload_n C 3 rfl rfl dX1_init_67 ?_
  refine z_putF C (k1 := 2) (v1 := .ref p2) (ty := (.object "LineGuild$Asking")) rfl inX1 tyX1 tyX1_ok nmX1 (by decide) wf_X1_50 rfl rfl rfl rfl rfl (Nat.le_of_ble_eq_true rfl) dX1_init_68 ?_
  refine z_fs (fs2 := [.ref p0, .ref p1, .ref p2, .null, .null, .int 0, .int 0, .int 0, .int 0, .int 0, .int 0, .int 0, .int 0, .int (-2), .int (-2)]) rfl ?_
  refine z_aload_n C 0 rfl rfl dX1_init_71 ?_
  refine z_aload C 4 rfl dX1_init_72 ?_
  refine z_put C (k1 := 3) (v1 := .ref p3) (ty := (.object "LineGuild$Hall")) rfl inX1 tyX1 tyX1_ok nmX1 (by decide) wf_X1_54 rfl rfl rfl rfl (Nat.le_of_ble_eq_true rfl) dX1_init_74 ?_
  refine z_fs (fs2 := [.ref p0, .ref p1, .ref p2, .ref p3, .null, .int 0, .int 0, .int 0, .int 0, .int 0, .int 0, .int 0, .int 0, .int (-2), .int (-2)]) rfl ?_
  refine z_aload_n C 0 rfl rfl dX1_init_77 ?_
  refine z_aload C 5 rfl dX1_init_78 ?_
  refine z_put C (k1 := 4) (v1 := .ref p4) (ty := (.object "LineGuild$Law")) rfl inX1 tyX1 tyX1_ok nmX1 (by decide) wf_X1_58 rfl rfl rfl rfl (Nat.le_of_ble_eq_true rfl) dX1_init_80 ?_
  refine z_fs (fs2 := [.ref p0, .ref p1, .ref p2, .ref p3, .ref p4, .int 0, .int 0, .int 0, .int 0, .int 0, .int 0, .int 0, .int 0, .int (-2), .int (-2)]) rfl ?_
  exact z_vret C (fun j => match j / 100 with | 0 => ([] : List Nat).getD j 0 | _ => 0) rfl rfl (Nat.le_refl _) (Nat.le_refl _) dX1_init_83
def z0_X3 : List Value := [.null, .int 0, .null, .null, .null, .null, .null, .int 0]
theorem zf_X3 : ∀ j, j < 8 → defaultValue (tyX3 j) = vp_V z0_X3 j := fun j h => match j, h with
  | 0, _ => rfl
  | 1, _ => rfl
  | 2, _ => rfl
  | 3, _ => rfl
  | 4, _ => rfl
  | 5, _ => rfl
  | 6, _ => rfl
  | 7, _ => rfl
  | j + 8, h => absurd h (by omega)
def zw_X3 (T : zT5)  (a : Nat → Nat) : List Value × va_W := ([.ref (a 0), .int 0, .ref (a 1), .ref (a 2), .ref (a 3), .ref (a 4), .ref (a 5), .int 0], [((a 0), .inl (T.1, 1024, .inl (fun _ => 0))), ((a 1), .inl (T.1, 1024, .inl (fun _ => 0))), ((a 2), .inl (T.1, 1024, .inl (fun _ => 0))), ((a 3), .inl (T.2.1, 1024, .inr (.inl (fun _ => 0)))), ((a 4), .inl (T.2.1, 1024, .inr (.inl (fun _ => 0)))), ((a 5), .inl (T.1, 72, .inl (fun _ => 0)))])
abbrev rmz_X3 : Room := { frames := 1, cells := 6, slots := 5192, locals := 40 }
theorem yd_X3_init : yX3_init.cls ≠ "java/lang/invoke/MethodHandle" ∧ yX3_init.cls ≠ "java/lang/invoke/VarHandle" ∧ (parseMethodDescriptor yX3_init.desc).map (fun d => d.parameters.length) = some 0 := by decide +kernel
set_option maxHeartbeats 4000000 in
set_option maxRecDepth 100000 in
theorem zt_X3 (D : va_G) (T : zT5) (l : Launch) (h0 : Nat)  : zMet D T l yX3_init cX3_init 1 rmz_X3 [] h0 3 z0_X3 (zw_X3 T ) 6 5192 := by
  refine z_enter (own := RX3) (L0 := [(0, .ref h0)]) (by decide +kernel) rfl rfl (Nat.le_of_ble_eq_true rfl) rfl (fun x sz hl C => ?_)
  refine z_aload_n C 0 rfl rfl dX3_init_0 ?_
  refine z_obj C wm_X3_3 wi_objinit wc_objinit ⟨Nat.le_of_ble_eq_true rfl, Nat.le_of_ble_eq_true rfl⟩ (Nat.le_of_ble_eq_true rfl) dX3_init_1 ?_
  refine z_aload_n C 0 rfl rfl dX3_init_4 ?_
  refine z_sipush C (v1 := 1024) dX3_init_5 (by decide) ?_
  refine z_newa C 0 (atype := .int) (ty := .int) (N' := 1024) (a0 := (1024, .inl (fun _ => 0))) wa_int rfl rfl (fun _ => vp_cell_i _ _ _) (by decide) (by decide) (Nat.le_of_ble_eq_true rfl) (Nat.le_of_ble_eq_true rfl) (Nat.le_of_ble_eq_true rfl) dX3_init_8 (fun q0 => ?_)
  refine z_tl (tl2 := [(q0, .inl (T.1, 1024, .inl (fun _ => 0)))]) rfl ?_
  refine z_putF C (k1 := 0) (v1 := .ref q0) (ty := (.array .int)) rfl inX3 tyX3 tyX3_ok nmX3 (by decide) wf_X3_9 rfl rfl rfl rfl rfl (Nat.le_of_ble_eq_true rfl) dX3_init_10 ?_
  refine z_fs (fs2 := [.ref q0, .int 0, .null, .null, .null, .null, .null, .int 0]) rfl ?_
  refine z_aload_n C 0 rfl rfl dX3_init_13 ?_
  refine z_iconst C (v1 := 0) dX3_init_14 (by decide) ?_
  refine z_put C (k1 := 1) (v1 := .int 0) (ty := .int) rfl inX3 tyX3 tyX3_ok nmX3 (by decide) wf_X3_15 rfl rfl rfl rfl (Nat.le_of_ble_eq_true rfl) dX3_init_15 ?_
  refine z_fs (fs2 := [.ref q0, .int 0, .null, .null, .null, .null, .null, .int 0]) rfl ?_
  refine z_aload_n C 0 rfl rfl dX3_init_18 ?_
  refine z_sipush C (v1 := 1024) dX3_init_19 (by decide) ?_
  refine z_newa C 0 (atype := .int) (ty := .int) (N' := 1024) (a0 := (1024, .inl (fun _ => 0))) wa_int rfl rfl (fun _ => vp_cell_i _ _ _) (by decide) (by decide) (Nat.le_of_ble_eq_true rfl) (Nat.le_of_ble_eq_true rfl) (Nat.le_of_ble_eq_true rfl) dX3_init_22 (fun q1 => ?_)
  refine z_tl (tl2 := [(q0, .inl (T.1, 1024, .inl (fun _ => 0))), (q1, .inl (T.1, 1024, .inl (fun _ => 0)))]) rfl ?_
  refine z_put C (k1 := 2) (v1 := .ref q1) (ty := (.array .int)) rfl inX3 tyX3 tyX3_ok nmX3 (by decide) wf_X3_19 rfl rfl rfl rfl (Nat.le_of_ble_eq_true rfl) dX3_init_24 ?_
  refine z_fs (fs2 := [.ref q0, .int 0, .ref q1, .null, .null, .null, .null, .int 0]) rfl ?_
  refine z_aload_n C 0 rfl rfl dX3_init_27 ?_
  refine z_sipush C (v1 := 1024) dX3_init_28 (by decide) ?_
  refine z_newa C 0 (atype := .int) (ty := .int) (N' := 1024) (a0 := (1024, .inl (fun _ => 0))) wa_int rfl rfl (fun _ => vp_cell_i _ _ _) (by decide) (by decide) (Nat.le_of_ble_eq_true rfl) (Nat.le_of_ble_eq_true rfl) (Nat.le_of_ble_eq_true rfl) dX3_init_31 (fun q2 => ?_)
  refine z_tl (tl2 := [(q0, .inl (T.1, 1024, .inl (fun _ => 0))), (q1, .inl (T.1, 1024, .inl (fun _ => 0))), (q2, .inl (T.1, 1024, .inl (fun _ => 0)))]) rfl ?_
  refine z_put C (k1 := 3) (v1 := .ref q2) (ty := (.array .int)) rfl inX3 tyX3 tyX3_ok nmX3 (by decide) wf_X3_22 rfl rfl rfl rfl (Nat.le_of_ble_eq_true rfl) dX3_init_33 ?_
  refine z_fs (fs2 := [.ref q0, .int 0, .ref q1, .ref q2, .null, .null, .null, .int 0]) rfl ?_
  refine z_aload_n C 0 rfl rfl dX3_init_36 ?_
  refine z_sipush C (v1 := 1024) dX3_init_37 (by decide) ?_
  refine z_newa C 1 (atype := .long) (ty := .long) (N' := 1024) (a0 := (1024, .inr (.inl (fun _ => 0)))) wa_long rfl rfl (fun _ => vp_cell_l _ _ _) (by decide) (by decide) (Nat.le_of_ble_eq_true rfl) (Nat.le_of_ble_eq_true rfl) (Nat.le_of_ble_eq_true rfl) dX3_init_40 (fun q3 => ?_)
  refine z_tl (tl2 := [(q0, .inl (T.1, 1024, .inl (fun _ => 0))), (q1, .inl (T.1, 1024, .inl (fun _ => 0))), (q2, .inl (T.1, 1024, .inl (fun _ => 0))), (q3, .inl (T.2.1, 1024, .inr (.inl (fun _ => 0))))]) rfl ?_
  refine z_putF C (k1 := 4) (v1 := .ref q3) (ty := (.array .long)) rfl inX3 tyX3 tyX3_ok nmX3 (by decide) wf_X3_25 rfl rfl rfl rfl rfl (Nat.le_of_ble_eq_true rfl) dX3_init_42 ?_
  refine z_fs (fs2 := [.ref q0, .int 0, .ref q1, .ref q2, .ref q3, .null, .null, .int 0]) rfl ?_
  refine z_aload_n C 0 rfl rfl dX3_init_45 ?_
  refine z_sipush C (v1 := 1024) dX3_init_46 (by decide) ?_
  refine z_newa C 1 (atype := .long) (ty := .long) (N' := 1024) (a0 := (1024, .inr (.inl (fun _ => 0)))) wa_long rfl rfl (fun _ => vp_cell_l _ _ _) (by decide) (by decide) (Nat.le_of_ble_eq_true rfl) (Nat.le_of_ble_eq_true rfl) (Nat.le_of_ble_eq_true rfl) dX3_init_49 (fun q4 => ?_)
  refine z_tl (tl2 := [(q0, .inl (T.1, 1024, .inl (fun _ => 0))), (q1, .inl (T.1, 1024, .inl (fun _ => 0))), (q2, .inl (T.1, 1024, .inl (fun _ => 0))), (q3, .inl (T.2.1, 1024, .inr (.inl (fun _ => 0)))), (q4, .inl (T.2.1, 1024, .inr (.inl (fun _ => 0))))]) rfl ?_
  refine z_putF C (k1 := 5) (v1 := .ref q4) (ty := (.array .long)) rfl inX3 tyX3 tyX3_ok nmX3 (by decide) wf_X3_29 rfl rfl rfl rfl rfl (Nat.le_of_ble_eq_true rfl) dX3_init_51 ?_
  refine z_fs (fs2 := [.ref q0, .int 0, .ref q1, .ref q2, .ref q3, .ref q4, .null, .int 0]) rfl ?_
  refine z_aload_n C 0 rfl rfl dX3_init_54 ?_
  refine z_bipush C (v1 := 72) dX3_init_55 (by decide) ?_
  refine z_newa C 0 (atype := .int) (ty := .int) (N' := 72) (a0 := (72, .inl (fun _ => 0))) wa_int rfl rfl (fun _ => vp_cell_i _ _ _) (by decide) (by decide) (Nat.le_of_ble_eq_true rfl) (Nat.le_of_ble_eq_true rfl) (Nat.le_of_ble_eq_true rfl) dX3_init_57 (fun q5 => ?_)
  refine z_tl (tl2 := [(q0, .inl (T.1, 1024, .inl (fun _ => 0))), (q1, .inl (T.1, 1024, .inl (fun _ => 0))), (q2, .inl (T.1, 1024, .inl (fun _ => 0))), (q3, .inl (T.2.1, 1024, .inr (.inl (fun _ => 0)))), (q4, .inl (T.2.1, 1024, .inr (.inl (fun _ => 0)))), (q5, .inl (T.1, 72, .inl (fun _ => 0)))]) rfl ?_
  refine z_putF C (k1 := 6) (v1 := .ref q5) (ty := (.array .int)) rfl inX3 tyX3 tyX3_ok nmX3 (by decide) wf_X3_32 rfl rfl rfl rfl rfl (Nat.le_of_ble_eq_true rfl) dX3_init_59 ?_
  refine z_fs (fs2 := [.ref q0, .int 0, .ref q1, .ref q2, .ref q3, .ref q4, .ref q5, .int 0]) rfl ?_
  refine z_aload_n C 0 rfl rfl dX3_init_62 ?_
  refine z_iconst C (v1 := 0) dX3_init_63 (by decide) ?_
  refine z_put C (k1 := 7) (v1 := .int 0) (ty := .int) rfl inX3 tyX3 tyX3_ok nmX3 (by decide) wf_X3_35 rfl rfl rfl rfl (Nat.le_of_ble_eq_true rfl) dX3_init_64 ?_
  refine z_fs (fs2 := [.ref q0, .int 0, .ref q1, .ref q2, .ref q3, .ref q4, .ref q5, .int 0]) rfl ?_
  exact z_vret C (fun j => match j / 100 with | 0 => ([q0, q1, q2, q3, q4, q5] : List Nat).getD j 0 | _ => 0) rfl rfl (Nat.le_refl _) (Nat.le_refl _) dX3_init_67
def z0_X8 : List Value := [.null, .null, .int 0, .int 0]
theorem zf_X8 : ∀ j, j < 4 → defaultValue (tyX8 j) = vp_V z0_X8 j := fun j h => match j, h with
  | 0, _ => rfl
  | 1, _ => rfl
  | 2, _ => rfl
  | 3, _ => rfl
  | j + 4, h => absurd h (by omega)
def zw_X8 (T : zT5)  (a : Nat → Nat) : List Value × va_W := ([.ref (a 0), .ref (a 1), .int 0, .int 0], [((a 0), .inl (T.1, 5, .inl (fun _ => 0))), ((a 1), .inl (T.1, 5, .inl (fun _ => 0)))])
abbrev rmz_X8 : Room := { frames := 1, cells := 2, slots := 10, locals := 40 }
theorem yd_X8_init : yX8_init.cls ≠ "java/lang/invoke/MethodHandle" ∧ yX8_init.cls ≠ "java/lang/invoke/VarHandle" ∧ (parseMethodDescriptor yX8_init.desc).map (fun d => d.parameters.length) = some 0 := by decide +kernel
set_option maxHeartbeats 4000000 in
set_option maxRecDepth 100000 in
theorem zt_X8 (D : va_G) (T : zT5) (l : Launch) (h0 : Nat)  : zMet D T l yX8_init cX8_init 1 rmz_X8 [] h0 8 z0_X8 (zw_X8 T ) 2 10 := by
  refine z_enter (own := RX8) (L0 := [(0, .ref h0)]) (by decide +kernel) rfl rfl (Nat.le_of_ble_eq_true rfl) rfl (fun x sz hl C => ?_)
  refine z_aload_n C 0 rfl rfl dX8_init_0 ?_
  refine z_obj C wm_X8_3 wi_objinit wc_objinit ⟨Nat.le_of_ble_eq_true rfl, Nat.le_of_ble_eq_true rfl⟩ (Nat.le_of_ble_eq_true rfl) dX8_init_1 ?_
  refine z_aload_n C 0 rfl rfl dX8_init_4 ?_
  refine z_iconst C (v1 := 5) dX8_init_5 (by decide) ?_
  refine z_newa C 0 (atype := .int) (ty := .int) (N' := 5) (a0 := (5, .inl (fun _ => 0))) wa_int rfl rfl (fun _ => vp_cell_i _ _ _) (by decide) (by decide) (Nat.le_of_ble_eq_true rfl) (Nat.le_of_ble_eq_true rfl) (Nat.le_of_ble_eq_true rfl) dX8_init_6 (fun q0 => ?_)
  refine z_tl (tl2 := [(q0, .inl (T.1, 5, .inl (fun _ => 0)))]) rfl ?_
  refine z_putF C (k1 := 0) (v1 := .ref q0) (ty := (.array .int)) rfl inX8 tyX8 tyX8_ok nmX8 (by decide) wf_X8_9 rfl rfl rfl rfl rfl (Nat.le_of_ble_eq_true rfl) dX8_init_8 ?_
  refine z_fs (fs2 := [.ref q0, .null, .int 0, .int 0]) rfl ?_
  refine z_aload_n C 0 rfl rfl dX8_init_11 ?_
  refine z_iconst C (v1 := 5) dX8_init_12 (by decide) ?_
  refine z_newa C 0 (atype := .int) (ty := .int) (N' := 5) (a0 := (5, .inl (fun _ => 0))) wa_int rfl rfl (fun _ => vp_cell_i _ _ _) (by decide) (by decide) (Nat.le_of_ble_eq_true rfl) (Nat.le_of_ble_eq_true rfl) (Nat.le_of_ble_eq_true rfl) dX8_init_13 (fun q1 => ?_)
  refine z_tl (tl2 := [(q0, .inl (T.1, 5, .inl (fun _ => 0))), (q1, .inl (T.1, 5, .inl (fun _ => 0)))]) rfl ?_
  refine z_putF C (k1 := 1) (v1 := .ref q1) (ty := (.array .int)) rfl inX8 tyX8 tyX8_ok nmX8 (by decide) wf_X8_15 rfl rfl rfl rfl rfl (Nat.le_of_ble_eq_true rfl) dX8_init_15 ?_
  refine z_fs (fs2 := [.ref q0, .ref q1, .int 0, .int 0]) rfl ?_
  refine z_aload_n C 0 rfl rfl dX8_init_18 ?_
  refine z_iconst C (v1 := 0) dX8_init_19 (by decide) ?_
  refine z_put C (k1 := 2) (v1 := .int 0) (ty := .int) rfl inX8 tyX8 tyX8_ok nmX8 (by decide) wf_X8_18 rfl rfl rfl rfl (Nat.le_of_ble_eq_true rfl) dX8_init_20 ?_
  refine z_fs (fs2 := [.ref q0, .ref q1, .int 0, .int 0]) rfl ?_
  refine z_aload_n C 0 rfl rfl dX8_init_23 ?_
  refine z_iconst C (v1 := 0) dX8_init_24 (by decide) ?_
  refine z_put C (k1 := 3) (v1 := .int 0) (ty := .int) rfl inX8 tyX8 tyX8_ok nmX8 (by decide) wf_X8_22 rfl rfl rfl rfl (Nat.le_of_ble_eq_true rfl) dX8_init_25 ?_
  refine z_fs (fs2 := [.ref q0, .ref q1, .int 0, .int 0]) rfl ?_
  exact z_vret C (fun j => match j / 100 with | 0 => ([q0, q1] : List Nat).getD j 0 | _ => 0) rfl rfl (Nat.le_refl _) (Nat.le_refl _) dX8_init_28
def z0_X7 : List Value := [.null, .null, .null, .null, .int 0, .int 0]
theorem zf_X7 : ∀ j, j < 6 → defaultValue (tyX7 j) = vp_V z0_X7 j := fun j h => match j, h with
  | 0, _ => rfl
  | 1, _ => rfl
  | 2, _ => rfl
  | 3, _ => rfl
  | 4, _ => rfl
  | 5, _ => rfl
  | j + 6, h => absurd h (by omega)
def zw_X7 (T : zT5)  (a : Nat → Nat) : List Value × va_W := ([.ref (a 0), .ref (a 1), .ref (a 2), .ref (a 3), .int 0, .int 0], [((a 0), .inl (T.1, 8, .inl (fun _ => 0))), ((a 1), .inl (T.1, 8, .inl (fun _ => 0))), ((a 2), .inl (T.1, 8, .inl (fun _ => 0))), ((a 3), .inl (T.1, 100, .inl (fun _ => 0)))])
abbrev rmz_X7 : Room := { frames := 1, cells := 4, slots := 124, locals := 40 }
theorem yd_X7_init : yX7_init.cls ≠ "java/lang/invoke/MethodHandle" ∧ yX7_init.cls ≠ "java/lang/invoke/VarHandle" ∧ (parseMethodDescriptor yX7_init.desc).map (fun d => d.parameters.length) = some 0 := by decide +kernel
set_option maxHeartbeats 4000000 in
set_option maxRecDepth 100000 in
theorem zt_X7 (D : va_G) (T : zT5) (l : Launch) (h0 : Nat)  : zMet D T l yX7_init cX7_init 1 rmz_X7 [] h0 7 z0_X7 (zw_X7 T ) 4 124 := by
  refine z_enter (own := RX7) (L0 := [(0, .ref h0)]) (by decide +kernel) rfl rfl (Nat.le_of_ble_eq_true rfl) rfl (fun x sz hl C => ?_)
  refine z_aload_n C 0 rfl rfl dX7_init_0 ?_
  refine z_obj C wm_X7_3 wi_objinit wc_objinit ⟨Nat.le_of_ble_eq_true rfl, Nat.le_of_ble_eq_true rfl⟩ (Nat.le_of_ble_eq_true rfl) dX7_init_1 ?_
  refine z_aload_n C 0 rfl rfl dX7_init_4 ?_
  refine z_bipush C (v1 := 8) dX7_init_5 (by decide) ?_
  refine z_newa C 0 (atype := .int) (ty := .int) (N' := 8) (a0 := (8, .inl (fun _ => 0))) wa_int rfl rfl (fun _ => vp_cell_i _ _ _) (by decide) (by decide) (Nat.le_of_ble_eq_true rfl) (Nat.le_of_ble_eq_true rfl) (Nat.le_of_ble_eq_true rfl) dX7_init_7 (fun q0 => ?_)
  refine z_tl (tl2 := [(q0, .inl (T.1, 8, .inl (fun _ => 0)))]) rfl ?_
  refine z_putF C (k1 := 0) (v1 := .ref q0) (ty := (.array .int)) rfl inX7 tyX7 tyX7_ok nmX7 (by decide) wf_X7_9 rfl rfl rfl rfl rfl (Nat.le_of_ble_eq_true rfl) dX7_init_9 ?_
  refine z_fs (fs2 := [.ref q0, .null, .null, .null, .int 0, .int 0]) rfl ?_
  refine z_aload_n C 0 rfl rfl dX7_init_12 ?_
  refine z_bipush C (v1 := 8) dX7_init_13 (by decide) ?_
  refine z_newa C 0 (atype := .int) (ty := .int) (N' := 8) (a0 := (8, .inl (fun _ => 0))) wa_int rfl rfl (fun _ => vp_cell_i _ _ _) (by decide) (by decide) (Nat.le_of_ble_eq_true rfl) (Nat.le_of_ble_eq_true rfl) (Nat.le_of_ble_eq_true rfl) dX7_init_15 (fun q1 => ?_)
  refine z_tl (tl2 := [(q0, .inl (T.1, 8, .inl (fun _ => 0))), (q1, .inl (T.1, 8, .inl (fun _ => 0)))]) rfl ?_
  refine z_putF C (k1 := 1) (v1 := .ref q1) (ty := (.array .int)) rfl inX7 tyX7 tyX7_ok nmX7 (by decide) wf_X7_15 rfl rfl rfl rfl rfl (Nat.le_of_ble_eq_true rfl) dX7_init_17 ?_
  refine z_fs (fs2 := [.ref q0, .ref q1, .null, .null, .int 0, .int 0]) rfl ?_
  refine z_aload_n C 0 rfl rfl dX7_init_20 ?_
  refine z_bipush C (v1 := 8) dX7_init_21 (by decide) ?_
  refine z_newa C 0 (atype := .int) (ty := .int) (N' := 8) (a0 := (8, .inl (fun _ => 0))) wa_int rfl rfl (fun _ => vp_cell_i _ _ _) (by decide) (by decide) (Nat.le_of_ble_eq_true rfl) (Nat.le_of_ble_eq_true rfl) (Nat.le_of_ble_eq_true rfl) dX7_init_23 (fun q2 => ?_)
  refine z_tl (tl2 := [(q0, .inl (T.1, 8, .inl (fun _ => 0))), (q1, .inl (T.1, 8, .inl (fun _ => 0))), (q2, .inl (T.1, 8, .inl (fun _ => 0)))]) rfl ?_
  refine z_putF C (k1 := 2) (v1 := .ref q2) (ty := (.array .int)) rfl inX7 tyX7 tyX7_ok nmX7 (by decide) wf_X7_18 rfl rfl rfl rfl rfl (Nat.le_of_ble_eq_true rfl) dX7_init_25 ?_
  refine z_fs (fs2 := [.ref q0, .ref q1, .ref q2, .null, .int 0, .int 0]) rfl ?_
  refine z_aload_n C 0 rfl rfl dX7_init_28 ?_
  refine z_bipush C (v1 := 100) dX7_init_29 (by decide) ?_
  refine z_newa C 0 (atype := .int) (ty := .int) (N' := 100) (a0 := (100, .inl (fun _ => 0))) wa_int rfl rfl (fun _ => vp_cell_i _ _ _) (by decide) (by decide) (Nat.le_of_ble_eq_true rfl) (Nat.le_of_ble_eq_true rfl) (Nat.le_of_ble_eq_true rfl) dX7_init_31 (fun q3 => ?_)
  refine z_tl (tl2 := [(q0, .inl (T.1, 8, .inl (fun _ => 0))), (q1, .inl (T.1, 8, .inl (fun _ => 0))), (q2, .inl (T.1, 8, .inl (fun _ => 0))), (q3, .inl (T.1, 100, .inl (fun _ => 0)))]) rfl ?_
  refine z_putF C (k1 := 3) (v1 := .ref q3) (ty := (.array .int)) rfl inX7 tyX7 tyX7_ok nmX7 (by decide) wf_X7_21 rfl rfl rfl rfl rfl (Nat.le_of_ble_eq_true rfl) dX7_init_33 ?_
  refine z_fs (fs2 := [.ref q0, .ref q1, .ref q2, .ref q3, .int 0, .int 0]) rfl ?_
  refine z_aload_n C 0 rfl rfl dX7_init_36 ?_
  refine z_iconst C (v1 := 0) dX7_init_37 (by decide) ?_
  refine z_put C (k1 := 4) (v1 := .int 0) (ty := .int) rfl inX7 tyX7 tyX7_ok nmX7 (by decide) wf_X7_24 rfl rfl rfl rfl (Nat.le_of_ble_eq_true rfl) dX7_init_38 ?_
  refine z_fs (fs2 := [.ref q0, .ref q1, .ref q2, .ref q3, .int 0, .int 0]) rfl ?_
  refine z_aload_n C 0 rfl rfl dX7_init_41 ?_
  refine z_iconst C (v1 := 0) dX7_init_42 (by decide) ?_
  refine z_put C (k1 := 5) (v1 := .int 0) (ty := .int) rfl inX7 tyX7 tyX7_ok nmX7 (by decide) wf_X7_28 rfl rfl rfl rfl (Nat.le_of_ble_eq_true rfl) dX7_init_43 ?_
  refine z_fs (fs2 := [.ref q0, .ref q1, .ref q2, .ref q3, .int 0, .int 0]) rfl ?_
  exact z_vret C (fun j => match j / 100 with | 0 => ([q0, q1, q2, q3] : List Nat).getD j 0 | _ => 0) rfl rfl (Nat.le_refl _) (Nat.le_refl _) dX7_init_46
