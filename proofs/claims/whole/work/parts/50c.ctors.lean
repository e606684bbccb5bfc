abbrev wX0c (κ : Kp) (h0 : Nat) (u : Nat → Nat) : va_W := [(h0, .inr (0, [.ref (u 0), .ref (u 1)])), ((u 0), .inl (κ.2.1, 100, .inl Z0)), ((u 1), .inl (κ.2.1, 100, .inl Z0))]
set_option maxHeartbeats 4000000 in
set_option maxRecDepth 100000 in
theorem kX0_init (l : Launch) (κ : Kp) (h0 sz : Nat) : Met l yX0_init (Cond.code yX0_init cX0_init 1 none :: TB) (rmC 1 2 200 12) (PcC κ [(h0, .inr (0, [.null, .null]))] sz [.ref h0] (fun _ => True)) (QvC κ [(h0, .inr (0, [.null, .null]))] sz (fun _ : Nat → Nat => True) (wX0c κ h0)) 2 200 (va_A [(h0, .inr (0, [.null, .null]))] sz) := by
  refine mkC (by decide +kernel) (Nat.le_of_ble_eq_true rfl) (fun p e s m args below meth c Q ls A hC hin hsz hAe hP hD hA hX hret hl => ?_)
  obtain ⟨hx, hb, hml, hown, hts, hE⟩ := hC
  have hS : va_S A s.heap s.heap [] := va_S.rf
  have hl : lv_has ls 1 [(0, .ref h0)] := hl
  refine lv_aload_n hx hb dX0_init_0 rfl (lv_at hl 0 rfl) ?_
  refine y_oinit hx hb (hml.trans hl.1.symm) hts hown oi_X0 w_oi (Nat.le_of_ble_eq_true rfl) (Nat.le_of_ble_eq_true rfl) dX0_init_1 ?_
  refine lv_aload_n hx hb dX0_init_4 rfl (lv_at hl 0 rfl) ?_
  refine lv_bipush (v := 100) hx hb dX0_init_5 nb_100 ?_
  refine y_newi hx hb hts hE hP hD hS hA 100 (by decide) (by decide) (by decide) (Nat.le_of_ble_eq_true rfl) (Nat.le_of_ble_eq_true rfl) dX0_init_7 (fun q0 H hP hD hS => ?_)
  have hP : va_P κ.1 vwCl [(h0, .inr (0, [.null, .null])), (q0, .inl (κ.2.1, 100, .inl Z0))] H := hP
  have hD : va_D A [(h0, .inr (0, [.null, .null])), (q0, .inl (κ.2.1, 100, .inl Z0))] := hD
  refine y_putF hx hb hts hown hin hE hP hD hS fn_X0_9 0 rfl rfl rfl (Nat.le_of_ble_eq_true rfl) dX0_init_9 (fun H locs hP hD hS => ?_)
  have hP : va_P κ.1 vwCl [(h0, .inr (0, [.ref q0, .null])), (q0, .inl (κ.2.1, 100, .inl Z0))] H := hP
  have hD : va_D A [(h0, .inr (0, [.ref q0, .null])), (q0, .inl (κ.2.1, 100, .inl Z0))] := hD
  refine lv_aload_n hx hb dX0_init_12 rfl (lv_at hl 0 rfl) ?_
  refine lv_bipush (v := 100) hx hb dX0_init_13 nb_100 ?_
  refine y_newi hx hb hts hE hP hD hS hA 100 (by decide) (by decide) (by decide) (Nat.le_of_ble_eq_true rfl) (Nat.le_of_ble_eq_true rfl) dX0_init_15 (fun q1 H hP hD hS => ?_)
  have hP : va_P κ.1 vwCl [(h0, .inr (0, [.ref q0, .null])), (q0, .inl (κ.2.1, 100, .inl Z0)), (q1, .inl (κ.2.1, 100, .inl Z0))] H := hP
  have hD : va_D A [(h0, .inr (0, [.ref q0, .null])), (q0, .inl (κ.2.1, 100, .inl Z0)), (q1, .inl (κ.2.1, 100, .inl Z0))] := hD
  refine y_putF hx hb hts hown hin hE hP hD hS fn_X0_15 0 rfl rfl rfl (Nat.le_of_ble_eq_true rfl) dX0_init_17 (fun H locs hP hD hS => ?_)
  have hP : va_P κ.1 vwCl [(h0, .inr (0, [.ref q0, .ref q1])), (q0, .inl (κ.2.1, 100, .inl Z0)), (q1, .inl (κ.2.1, 100, .inl Z0))] H := hP
  have hD : va_D A [(h0, .inr (0, [.ref q0, .ref q1])), (q0, .inl (κ.2.1, 100, .inl Z0)), (q1, .inl (κ.2.1, 100, .inl Z0))] := hD
  exact hret _ _ _ _ (fun k => match k with | 0 => q0 | _ => q1) dX0_init_20 trivial hP hD hS
abbrev wX1c (κ : Kp) (h0 : Nat) (u : Nat → Nat) : va_W := [(h0, .inr (1, [.ref (u 0), .ref (u 1), .ref (u 2), .int 0])), ((u 0), .inl (κ.2.1, 8, .inl Z0)), ((u 1), .inl (κ.2.1, 8, .inl Z0)), ((u 2), .inl (κ.2.1, 8, .inl Z0))]
set_option maxHeartbeats 4000000 in
set_option maxRecDepth 100000 in
theorem kX1_init (l : Launch) (κ : Kp) (h0 sz : Nat) : Met l yX1_init (Cond.code yX1_init cX1_init 1 none :: TB) (rmC 1 3 24 12) (PcC κ [(h0, .inr (1, [.null, .null, .null, .int 0]))] sz [.ref h0] (fun _ => True)) (QvC κ [(h0, .inr (1, [.null, .null, .null, .int 0]))] sz (fun _ : Nat → Nat => True) (wX1c κ h0)) 3 24 (va_A [(h0, .inr (1, [.null, .null, .null, .int 0]))] sz) := by
  refine mkC (by decide +kernel) (Nat.le_of_ble_eq_true rfl) (fun p e s m args below meth c Q ls A hC hin hsz hAe hP hD hA hX hret hl => ?_)
  obtain ⟨hx, hb, hml, hown, hts, hE⟩ := hC
  have hS : va_S A s.heap s.heap [] := va_S.rf
  have hl : lv_has ls 1 [(0, .ref h0)] := hl
  refine lv_aload_n hx hb dX1_init_0 rfl (lv_at hl 0 rfl) ?_
  refine y_oinit hx hb (hml.trans hl.1.symm) hts hown oi_X1 w_oi (Nat.le_of_ble_eq_true rfl) (Nat.le_of_ble_eq_true rfl) dX1_init_1 ?_
  refine lv_aload_n hx hb dX1_init_4 rfl (lv_at hl 0 rfl) ?_
  refine lv_bipush (v := 8) hx hb dX1_init_5 nb_8 ?_
  refine y_newi hx hb hts hE hP hD hS hA 8 (by decide) (by decide) (by decide) (Nat.le_of_ble_eq_true rfl) (Nat.le_of_ble_eq_true rfl) dX1_init_7 (fun q0 H hP hD hS => ?_)
  have hP : va_P κ.1 vwCl [(h0, .inr (1, [.null, .null, .null, .int 0])), (q0, .inl (κ.2.1, 8, .inl Z0))] H := hP
  have hD : va_D A [(h0, .inr (1, [.null, .null, .null, .int 0])), (q0, .inl (κ.2.1, 8, .inl Z0))] := hD
  refine y_putF hx hb hts hown hin hE hP hD hS fn_X1_9 0 rfl rfl rfl (Nat.le_of_ble_eq_true rfl) dX1_init_9 (fun H locs hP hD hS => ?_)
  have hP : va_P κ.1 vwCl [(h0, .inr (1, [.ref q0, .null, .null, .int 0])), (q0, .inl (κ.2.1, 8, .inl Z0))] H := hP
  have hD : va_D A [(h0, .inr (1, [.ref q0, .null, .null, .int 0])), (q0, .inl (κ.2.1, 8, .inl Z0))] := hD
  refine lv_aload_n hx hb dX1_init_12 rfl (lv_at hl 0 rfl) ?_
  refine lv_bipush (v := 8) hx hb dX1_init_13 nb_8 ?_
  refine y_newi hx hb hts hE hP hD hS hA 8 (by decide) (by decide) (by decide) (Nat.le_of_ble_eq_true rfl) (Nat.le_of_ble_eq_true rfl) dX1_init_15 (fun q1 H hP hD hS => ?_)
  have hP : va_P κ.1 vwCl [(h0, .inr (1, [.ref q0, .null, .null, .int 0])), (q0, .inl (κ.2.1, 8, .inl Z0)), (q1, .inl (κ.2.1, 8, .inl Z0))] H := hP
  have hD : va_D A [(h0, .inr (1, [.ref q0, .null, .null, .int 0])), (q0, .inl (κ.2.1, 8, .inl Z0)), (q1, .inl (κ.2.1, 8, .inl Z0))] := hD
  refine y_putF hx hb hts hown hin hE hP hD hS fn_X1_15 0 rfl rfl rfl (Nat.le_of_ble_eq_true rfl) dX1_init_17 (fun H locs hP hD hS => ?_)
  have hP : va_P κ.1 vwCl [(h0, .inr (1, [.ref q0, .ref q1, .null, .int 0])), (q0, .inl (κ.2.1, 8, .inl Z0)), (q1, .inl (κ.2.1, 8, .inl Z0))] H := hP
  have hD : va_D A [(h0, .inr (1, [.ref q0, .ref q1, .null, .int 0])), (q0, .inl (κ.2.1, 8, .inl Z0)), (q1, .inl (κ.2.1, 8, .inl Z0))] := hD
  refine lv_aload_n hx hb dX1_init_20 rfl (lv_at hl 0 rfl) ?_
  refine lv_bipush (v := 8) hx hb dX1_init_21 nb_8 ?_
  refine y_newi hx hb hts hE hP hD hS hA 8 (by decide) (by decide) (by decide) (Nat.le_of_ble_eq_true rfl) (Nat.le_of_ble_eq_true rfl) dX1_init_23 (fun q2 H hP hD hS => ?_)
  have hP : va_P κ.1 vwCl [(h0, .inr (1, [.ref q0, .ref q1, .null, .int 0])), (q0, .inl (κ.2.1, 8, .inl Z0)), (q1, .inl (κ.2.1, 8, .inl Z0)), (q2, .inl (κ.2.1, 8, .inl Z0))] H := hP
  have hD : va_D A [(h0, .inr (1, [.ref q0, .ref q1, .null, .int 0])), (q0, .inl (κ.2.1, 8, .inl Z0)), (q1, .inl (κ.2.1, 8, .inl Z0)), (q2, .inl (κ.2.1, 8, .inl Z0))] := hD
  refine y_putF hx hb hts hown hin hE hP hD hS fn_X1_18 0 rfl rfl rfl (Nat.le_of_ble_eq_true rfl) dX1_init_25 (fun H locs hP hD hS => ?_)
  have hP : va_P κ.1 vwCl [(h0, .inr (1, [.ref q0, .ref q1, .ref q2, .int 0])), (q0, .inl (κ.2.1, 8, .inl Z0)), (q1, .inl (κ.2.1, 8, .inl Z0)), (q2, .inl (κ.2.1, 8, .inl Z0))] H := hP
  have hD : va_D A [(h0, .inr (1, [.ref q0, .ref q1, .ref q2, .int 0])), (q0, .inl (κ.2.1, 8, .inl Z0)), (q1, .inl (κ.2.1, 8, .inl Z0)), (q2, .inl (κ.2.1, 8, .inl Z0))] := hD
  refine lv_aload_n hx hb dX1_init_28 rfl (lv_at hl 0 rfl) ?_
  refine lv_iconst (v := 0) hx hb dX1_init_29 nc_0 ?_
  refine y_put hx hb hts hown hE hP hD hS fp_X1_21 0 rfl rfl rfl (Nat.le_of_ble_eq_true rfl) dX1_init_30 (fun H locs hP hD hS => ?_)
  have hP : va_P κ.1 vwCl [(h0, .inr (1, [.ref q0, .ref q1, .ref q2, .int 0])), (q0, .inl (κ.2.1, 8, .inl Z0)), (q1, .inl (κ.2.1, 8, .inl Z0)), (q2, .inl (κ.2.1, 8, .inl Z0))] H := hP
  have hD : va_D A [(h0, .inr (1, [.ref q0, .ref q1, .ref q2, .int 0])), (q0, .inl (κ.2.1, 8, .inl Z0)), (q1, .inl (κ.2.1, 8, .inl Z0)), (q2, .inl (κ.2.1, 8, .inl Z0))] := hD
  exact hret _ _ _ _ (fun k => match k with | 0 => q0 | 1 => q1 | _ => q2) dX1_init_33 trivial hP hD hS
abbrev wX2c (κ : Kp) (h0 : Nat) (u : Nat → Nat) : va_W := [(h0, .inr (2, [.ref (u 0)])), ((u 0), .inl (κ.2.1, 256, .inl Z0))]
set_option maxHeartbeats 4000000 in
set_option maxRecDepth 100000 in
theorem kX2_init (l : Launch) (κ : Kp) (h0 sz : Nat) : Met l yX2_init (Cond.code yX2_init cX2_init 1 none :: TB) (rmC 1 1 256 12) (PcC κ [(h0, .inr (2, [.null]))] sz [.ref h0] (fun _ => True)) (QvC κ [(h0, .inr (2, [.null]))] sz (fun _ : Nat → Nat => True) (wX2c κ h0)) 1 256 (va_A [(h0, .inr (2, [.null]))] sz) := by
  refine mkC (by decide +kernel) (Nat.le_of_ble_eq_true rfl) (fun p e s m args below meth c Q ls A hC hin hsz hAe hP hD hA hX hret hl => ?_)
  obtain ⟨hx, hb, hml, hown, hts, hE⟩ := hC
  have hS : va_S A s.heap s.heap [] := va_S.rf
  have hl : lv_has ls 1 [(0, .ref h0)] := hl
  refine lv_aload_n hx hb dX2_init_0 rfl (lv_at hl 0 rfl) ?_
  refine y_oinit hx hb (hml.trans hl.1.symm) hts hown oi_X2 w_oi (Nat.le_of_ble_eq_true rfl) (Nat.le_of_ble_eq_true rfl) dX2_init_1 ?_
  refine lv_aload_n hx hb dX2_init_4 rfl (lv_at hl 0 rfl) ?_
  refine lv_sipush (v := 256) hx hb dX2_init_5 ns_256 ?_
  refine y_newi hx hb hts hE hP hD hS hA 256 (by decide) (by decide) (by decide) (Nat.le_of_ble_eq_true rfl) (Nat.le_of_ble_eq_true rfl) dX2_init_8 (fun q0 H hP hD hS => ?_)
  have hP : va_P κ.1 vwCl [(h0, .inr (2, [.null])), (q0, .inl (κ.2.1, 256, .inl Z0))] H := hP
  have hD : va_D A [(h0, .inr (2, [.null])), (q0, .inl (κ.2.1, 256, .inl Z0))] := hD
  refine y_putF hx hb hts hown hin hE hP hD hS fn_X2_9 0 rfl rfl rfl (Nat.le_of_ble_eq_true rfl) dX2_init_10 (fun H locs hP hD hS => ?_)
  have hP : va_P κ.1 vwCl [(h0, .inr (2, [.ref q0])), (q0, .inl (κ.2.1, 256, .inl Z0))] H := hP
  have hD : va_D A [(h0, .inr (2, [.ref q0])), (q0, .inl (κ.2.1, 256, .inl Z0))] := hD
  exact hret _ _ _ _ (fun k => match k with | _ => q0) dX2_init_13 trivial hP hD hS
abbrev wX3c (κ : Kp) (h0 : Nat) (u : Nat → Nat) : va_W := [(h0, .inr (3, [.ref (u 0), .ref (u 1), .int 0])), ((u 0), .inl (κ.2.1, 16, .inl Z0)), ((u 1), .inl (κ.2.1, 16, .inl Z0))]
set_option maxHeartbeats 4000000 in
set_option maxRecDepth 100000 in
theorem kX3_init (l : Launch) (κ : Kp) (h0 sz : Nat) : Met l yX3_init (Cond.code yX3_init cX3_init 1 none :: TB) (rmC 1 2 32 12) (PcC κ [(h0, .inr (3, [.null, .null, .int 0]))] sz [.ref h0] (fun _ => True)) (QvC κ [(h0, .inr (3, [.null, .null, .int 0]))] sz (fun _ : Nat → Nat => True) (wX3c κ h0)) 2 32 (va_A [(h0, .inr (3, [.null, .null, .int 0]))] sz) := by
  refine mkC (by decide +kernel) (Nat.le_of_ble_eq_true rfl) (fun p e s m args below meth c Q ls A hC hin hsz hAe hP hD hA hX hret hl => ?_)
  obtain ⟨hx, hb, hml, hown, hts, hE⟩ := hC
  have hS : va_S A s.heap s.heap [] := va_S.rf
  have hl : lv_has ls 1 [(0, .ref h0)] := hl
  refine lv_aload_n hx hb dX3_init_0 rfl (lv_at hl 0 rfl) ?_
  refine y_oinit hx hb (hml.trans hl.1.symm) hts hown oi_X3 w_oi (Nat.le_of_ble_eq_true rfl) (Nat.le_of_ble_eq_true rfl) dX3_init_1 ?_
  refine lv_aload_n hx hb dX3_init_4 rfl (lv_at hl 0 rfl) ?_
  refine lv_bipush (v := 16) hx hb dX3_init_5 nb_16 ?_
  refine y_newi hx hb hts hE hP hD hS hA 16 (by decide) (by decide) (by decide) (Nat.le_of_ble_eq_true rfl) (Nat.le_of_ble_eq_true rfl) dX3_init_7 (fun q0 H hP hD hS => ?_)
  have hP : va_P κ.1 vwCl [(h0, .inr (3, [.null, .null, .int 0])), (q0, .inl (κ.2.1, 16, .inl Z0))] H := hP
  have hD : va_D A [(h0, .inr (3, [.null, .null, .int 0])), (q0, .inl (κ.2.1, 16, .inl Z0))] := hD
  refine y_putF hx hb hts hown hin hE hP hD hS fn_X3_9 0 rfl rfl rfl (Nat.le_of_ble_eq_true rfl) dX3_init_9 (fun H locs hP hD hS => ?_)
  have hP : va_P κ.1 vwCl [(h0, .inr (3, [.ref q0, .null, .int 0])), (q0, .inl (κ.2.1, 16, .inl Z0))] H := hP
  have hD : va_D A [(h0, .inr (3, [.ref q0, .null, .int 0])), (q0, .inl (κ.2.1, 16, .inl Z0))] := hD
  refine lv_aload_n hx hb dX3_init_12 rfl (lv_at hl 0 rfl) ?_
  refine lv_bipush (v := 16) hx hb dX3_init_13 nb_16 ?_
  refine y_newi hx hb hts hE hP hD hS hA 16 (by decide) (by decide) (by decide) (Nat.le_of_ble_eq_true rfl) (Nat.le_of_ble_eq_true rfl) dX3_init_15 (fun q1 H hP hD hS => ?_)
  have hP : va_P κ.1 vwCl [(h0, .inr (3, [.ref q0, .null, .int 0])), (q0, .inl (κ.2.1, 16, .inl Z0)), (q1, .inl (κ.2.1, 16, .inl Z0))] H := hP
  have hD : va_D A [(h0, .inr (3, [.ref q0, .null, .int 0])), (q0, .inl (κ.2.1, 16, .inl Z0)), (q1, .inl (κ.2.1, 16, .inl Z0))] := hD
  refine y_putF hx hb hts hown hin hE hP hD hS fn_X3_15 0 rfl rfl rfl (Nat.le_of_ble_eq_true rfl) dX3_init_17 (fun H locs hP hD hS => ?_)
  have hP : va_P κ.1 vwCl [(h0, .inr (3, [.ref q0, .ref q1, .int 0])), (q0, .inl (κ.2.1, 16, .inl Z0)), (q1, .inl (κ.2.1, 16, .inl Z0))] H := hP
  have hD : va_D A [(h0, .inr (3, [.ref q0, .ref q1, .int 0])), (q0, .inl (κ.2.1, 16, .inl Z0)), (q1, .inl (κ.2.1, 16, .inl Z0))] := hD
  refine lv_aload_n hx hb dX3_init_20 rfl (lv_at hl 0 rfl) ?_
  refine lv_iconst (v := 0) hx hb dX3_init_21 nc_0 ?_
  refine y_put hx hb hts hown hE hP hD hS fp_X3_18 0 rfl rfl rfl (Nat.le_of_ble_eq_true rfl) dX3_init_22 (fun H locs hP hD hS => ?_)
  have hP : va_P κ.1 vwCl [(h0, .inr (3, [.ref q0, .ref q1, .int 0])), (q0, .inl (κ.2.1, 16, .inl Z0)), (q1, .inl (κ.2.1, 16, .inl Z0))] H := hP
  have hD : va_D A [(h0, .inr (3, [.ref q0, .ref q1, .int 0])), (q0, .inl (κ.2.1, 16, .inl Z0)), (q1, .inl (κ.2.1, 16, .inl Z0))] := hD
  exact hret _ _ _ _ (fun k => match k with | 0 => q0 | _ => q1) dX3_init_25 trivial hP hD hS
abbrev wX5c (κ : Kp) (h0 : Nat) (u : Nat → Nat) : va_W := [(h0, .inr (5, [.ref (u 0), .int 0])), ((u 0), .inl (κ.2.1, 4, .inl Z0))]
set_option maxHeartbeats 4000000 in
set_option maxRecDepth 100000 in
theorem kX5_init (l : Launch) (κ : Kp) (h0 sz : Nat) : Met l yX5_init (Cond.code yX5_init cX5_init 1 none :: TB) (rmC 1 1 4 12) (PcC κ [(h0, .inr (5, [.null, .int 0]))] sz [.ref h0] (fun _ => True)) (QvC κ [(h0, .inr (5, [.null, .int 0]))] sz (fun _ : Nat → Nat => True) (wX5c κ h0)) 1 4 (va_A [(h0, .inr (5, [.null, .int 0]))] sz) := by
  refine mkC (by decide +kernel) (Nat.le_of_ble_eq_true rfl) (fun p e s m args below meth c Q ls A hC hin hsz hAe hP hD hA hX hret hl => ?_)
  obtain ⟨hx, hb, hml, hown, hts, hE⟩ := hC
  have hS : va_S A s.heap s.heap [] := va_S.rf
  have hl : lv_has ls 1 [(0, .ref h0)] := hl
  refine lv_aload_n hx hb dX5_init_0 rfl (lv_at hl 0 rfl) ?_
  refine y_oinit hx hb (hml.trans hl.1.symm) hts hown oi_X5 w_oi (Nat.le_of_ble_eq_true rfl) (Nat.le_of_ble_eq_true rfl) dX5_init_1 ?_
  refine lv_aload_n hx hb dX5_init_4 rfl (lv_at hl 0 rfl) ?_
  refine lv_iconst (v := 4) hx hb dX5_init_5 nc_4 ?_
  refine y_newi hx hb hts hE hP hD hS hA 4 (by decide) (by decide) (by decide) (Nat.le_of_ble_eq_true rfl) (Nat.le_of_ble_eq_true rfl) dX5_init_6 (fun q0 H hP hD hS => ?_)
  have hP : va_P κ.1 vwCl [(h0, .inr (5, [.null, .int 0])), (q0, .inl (κ.2.1, 4, .inl Z0))] H := hP
  have hD : va_D A [(h0, .inr (5, [.null, .int 0])), (q0, .inl (κ.2.1, 4, .inl Z0))] := hD
  refine y_putF hx hb hts hown hin hE hP hD hS fn_X5_9 0 rfl rfl rfl (Nat.le_of_ble_eq_true rfl) dX5_init_8 (fun H locs hP hD hS => ?_)
  have hP : va_P κ.1 vwCl [(h0, .inr (5, [.ref q0, .int 0])), (q0, .inl (κ.2.1, 4, .inl Z0))] H := hP
  have hD : va_D A [(h0, .inr (5, [.ref q0, .int 0])), (q0, .inl (κ.2.1, 4, .inl Z0))] := hD
  refine lv_aload_n hx hb dX5_init_11 rfl (lv_at hl 0 rfl) ?_
  refine lv_iconst (v := 0) hx hb dX5_init_12 nc_0 ?_
  refine y_put hx hb hts hown hE hP hD hS fp_X5_15 0 rfl rfl rfl (Nat.le_of_ble_eq_true rfl) dX5_init_13 (fun H locs hP hD hS => ?_)
  have hP : va_P κ.1 vwCl [(h0, .inr (5, [.ref q0, .int 0])), (q0, .inl (κ.2.1, 4, .inl Z0))] H := hP
  have hD : va_D A [(h0, .inr (5, [.ref q0, .int 0])), (q0, .inl (κ.2.1, 4, .inl Z0))] := hD
  exact hret _ _ _ _ (fun k => match k with | _ => q0) dX5_init_16 trivial hP hD hS
abbrev wX7c (κ : Kp) (h0 : Nat) (u : Nat → Nat) : va_W := [(h0, .inr (7, [.ref (u 0), .ref (u 1), .int 0])), ((u 0), .inl (κ.2.1, 6, .inl Z0)), ((u 1), .inl (κ.2.1, 6, .inl Z0))]
set_option maxHeartbeats 4000000 in
set_option maxRecDepth 100000 in
theorem kX7_init (l : Launch) (κ : Kp) (h0 sz : Nat) : Met l yX7_init (Cond.code yX7_init cX7_init 1 none :: TB) (rmC 1 2 12 12) (PcC κ [(h0, .inr (7, [.null, .null, .int 0]))] sz [.ref h0] (fun _ => True)) (QvC κ [(h0, .inr (7, [.null, .null, .int 0]))] sz (fun _ : Nat → Nat => True) (wX7c κ h0)) 2 12 (va_A [(h0, .inr (7, [.null, .null, .int 0]))] sz) := by
  refine mkC (by decide +kernel) (Nat.le_of_ble_eq_true rfl) (fun p e s m args below meth c Q ls A hC hin hsz hAe hP hD hA hX hret hl => ?_)
  obtain ⟨hx, hb, hml, hown, hts, hE⟩ := hC
  have hS : va_S A s.heap s.heap [] := va_S.rf
  have hl : lv_has ls 1 [(0, .ref h0)] := hl
  refine lv_aload_n hx hb dX7_init_0 rfl (lv_at hl 0 rfl) ?_
  refine y_oinit hx hb (hml.trans hl.1.symm) hts hown oi_X7 w_oi (Nat.le_of_ble_eq_true rfl) (Nat.le_of_ble_eq_true rfl) dX7_init_1 ?_
  refine lv_aload_n hx hb dX7_init_4 rfl (lv_at hl 0 rfl) ?_
  refine lv_bipush (v := 6) hx hb dX7_init_5 nb_6 ?_
  refine y_newi hx hb hts hE hP hD hS hA 6 (by decide) (by decide) (by decide) (Nat.le_of_ble_eq_true rfl) (Nat.le_of_ble_eq_true rfl) dX7_init_7 (fun q0 H hP hD hS => ?_)
  have hP : va_P κ.1 vwCl [(h0, .inr (7, [.null, .null, .int 0])), (q0, .inl (κ.2.1, 6, .inl Z0))] H := hP
  have hD : va_D A [(h0, .inr (7, [.null, .null, .int 0])), (q0, .inl (κ.2.1, 6, .inl Z0))] := hD
  refine y_putF hx hb hts hown hin hE hP hD hS fn_X7_9 0 rfl rfl rfl (Nat.le_of_ble_eq_true rfl) dX7_init_9 (fun H locs hP hD hS => ?_)
  have hP : va_P κ.1 vwCl [(h0, .inr (7, [.ref q0, .null, .int 0])), (q0, .inl (κ.2.1, 6, .inl Z0))] H := hP
  have hD : va_D A [(h0, .inr (7, [.ref q0, .null, .int 0])), (q0, .inl (κ.2.1, 6, .inl Z0))] := hD
  refine lv_aload_n hx hb dX7_init_12 rfl (lv_at hl 0 rfl) ?_
  refine lv_bipush (v := 6) hx hb dX7_init_13 nb_6 ?_
  refine y_newi hx hb hts hE hP hD hS hA 6 (by decide) (by decide) (by decide) (Nat.le_of_ble_eq_true rfl) (Nat.le_of_ble_eq_true rfl) dX7_init_15 (fun q1 H hP hD hS => ?_)
  have hP : va_P κ.1 vwCl [(h0, .inr (7, [.ref q0, .null, .int 0])), (q0, .inl (κ.2.1, 6, .inl Z0)), (q1, .inl (κ.2.1, 6, .inl Z0))] H := hP
  have hD : va_D A [(h0, .inr (7, [.ref q0, .null, .int 0])), (q0, .inl (κ.2.1, 6, .inl Z0)), (q1, .inl (κ.2.1, 6, .inl Z0))] := hD
  refine y_putF hx hb hts hown hin hE hP hD hS fn_X7_15 0 rfl rfl rfl (Nat.le_of_ble_eq_true rfl) dX7_init_17 (fun H locs hP hD hS => ?_)
  have hP : va_P κ.1 vwCl [(h0, .inr (7, [.ref q0, .ref q1, .int 0])), (q0, .inl (κ.2.1, 6, .inl Z0)), (q1, .inl (κ.2.1, 6, .inl Z0))] H := hP
  have hD : va_D A [(h0, .inr (7, [.ref q0, .ref q1, .int 0])), (q0, .inl (κ.2.1, 6, .inl Z0)), (q1, .inl (κ.2.1, 6, .inl Z0))] := hD
  refine lv_aload_n hx hb dX7_init_20 rfl (lv_at hl 0 rfl) ?_
  refine lv_iconst (v := 0) hx hb dX7_init_21 nc_0 ?_
  refine y_put hx hb hts hown hE hP hD hS fp_X7_18 0 rfl rfl rfl (Nat.le_of_ble_eq_true rfl) dX7_init_22 (fun H locs hP hD hS => ?_)
  have hP : va_P κ.1 vwCl [(h0, .inr (7, [.ref q0, .ref q1, .int 0])), (q0, .inl (κ.2.1, 6, .inl Z0)), (q1, .inl (κ.2.1, 6, .inl Z0))] H := hP
  have hD : va_D A [(h0, .inr (7, [.ref q0, .ref q1, .int 0])), (q0, .inl (κ.2.1, 6, .inl Z0)), (q1, .inl (κ.2.1, 6, .inl Z0))] := hD
  exact hret _ _ _ _ (fun k => match k with | 0 => q0 | _ => q1) dX7_init_25 trivial hP hD hS
abbrev wX6c (κ : Kp) (h0 : Nat) (u : Nat → Nat) : va_W := [(h0, .inr (6, [.ref (u 0), .ref (u 1), .ref (u 2), .ref (u 3), .ref (u 4), .ref (u 5), .ref (u 6), .ref (u 7), .ref (u 8), .ref (u 9), .ref (u 10), .ref (u 11), .int 0, .int 30, .int 0, .int 0, .int 0, .int 0])), ((u 0), .inl (κ.2.1, 8, .inl Z0)), ((u 1), .inl (κ.2.1, 8, .inl Z0)), ((u 2), .inl (κ.2.1, 8, .inl Z0)), ((u 3), .inl (κ.2.1, 8, .inl Z0)), ((u 4), .inl (κ.2.1, 8, .inl Z0)), ((u 5), .inl (κ.2.1, 8, .inl Z0)), ((u 6), .inl (κ.2.1, 8, .inl Z0)), ((u 7), .inl (κ.2.1, 8, .inl Z0)), ((u 8), .inl (κ.2.1, 8, .inl Z0)), ((u 9), .inl (κ.2.1, 4, .inl Z0)), ((u 10), .inl (κ.2.1, 4, .inl Z0)), ((u 11), .inl (κ.2.1, 201, .inl Z0))]
set_option maxHeartbeats 4000000 in
set_option maxRecDepth 100000 in
theorem kX6_init (l : Launch) (κ : Kp) (h0 sz : Nat) : Met l yX6_init (Cond.code yX6_init cX6_init 1 none :: TB) (rmC 1 12 281 12) (PcC κ [(h0, .inr (6, [.null, .null, .null, .null, .null, .null, .null, .null, .null, .null, .null, .null, .int 0, .int 0, .int 0, .int 0, .int 0, .int 0]))] sz [.ref h0] (fun _ => True)) (QvC κ [(h0, .inr (6, [.null, .null, .null, .null, .null, .null, .null, .null, .null, .null, .null, .null, .int 0, .int 0, .int 0, .int 0, .int 0, .int 0]))] sz (fun _ : Nat → Nat => True) (wX6c κ h0)) 12 281 (va_A [(h0, .inr (6, [.null, .null, .null, .null, .null, .null, .null, .null, .null, .null, .null, .null, .int 0, .int 0, .int 0, .int 0, .int 0, .int 0]))] sz) := by
  refine mkC (by decide +kernel) (Nat.le_of_ble_eq_true rfl) (fun p e s m args below meth c Q ls A hC hin hsz hAe hP hD hA hX hret hl => ?_)
  obtain ⟨hx, hb, hml, hown, hts, hE⟩ := hC
  have hS : va_S A s.heap s.heap [] := va_S.rf
  have hl : lv_has ls 1 [(0, .ref h0)] := hl
  refine lv_aload_n hx hb dX6_init_0 rfl (lv_at hl 0 rfl) ?_
  refine y_oinit hx hb (hml.trans hl.1.symm) hts hown oi_X6 w_oi (Nat.le_of_ble_eq_true rfl) (Nat.le_of_ble_eq_true rfl) dX6_init_1 ?_
  refine lv_aload_n hx hb dX6_init_4 rfl (lv_at hl 0 rfl) ?_
  refine lv_bipush (v := 8) hx hb dX6_init_5 nb_8 ?_
  refine y_newi hx hb hts hE hP hD hS hA 8 (by decide) (by decide) (by decide) (Nat.le_of_ble_eq_true rfl) (Nat.le_of_ble_eq_true rfl) dX6_init_7 (fun q0 H hP hD hS => ?_)
  have hP : va_P κ.1 vwCl [(h0, .inr (6, [.null, .null, .null, .null, .null, .null, .null, .null, .null, .null, .null, .null, .int 0, .int 0, .int 0, .int 0, .int 0, .int 0])), (q0, .inl (κ.2.1, 8, .inl Z0))] H := hP
  have hD : va_D A [(h0, .inr (6, [.null, .null, .null, .null, .null, .null, .null, .null, .null, .null, .null, .null, .int 0, .int 0, .int 0, .int 0, .int 0, .int 0])), (q0, .inl (κ.2.1, 8, .inl Z0))] := hD
  refine y_putF hx hb hts hown hin hE hP hD hS fn_X6_9 0 rfl rfl rfl (Nat.le_of_ble_eq_true rfl) dX6_init_9 (fun H locs hP hD hS => ?_)
  have hP : va_P κ.1 vwCl [(h0, .inr (6, [.ref q0, .null, .null, .null, .null, .null, .null, .null, .null, .null, .null, .null, .int 0, .int 0, .int 0, .int 0, .int 0, .int 0])), (q0, .inl (κ.2.1, 8, .inl Z0))] H := hP
  have hD : va_D A [(h0, .inr (6, [.ref q0, .null, .null, .null, .null, .null, .null, .null, .null, .null, .null, .null, .int 0, .int 0, .int 0, .int 0, .int 0, .int 0])), (q0, .inl (κ.2.1, 8, .inl Z0))] := hD
  refine lv_aload_n hx hb dX6_init_12 rfl (lv_at hl 0 rfl) ?_
  refine lv_bipush (v := 8) hx hb dX6_init_13 nb_8 ?_
  refine y_newi hx hb hts hE hP hD hS hA 8 (by decide) (by decide) (by decide) (Nat.le_of_ble_eq_true rfl) (Nat.le_of_ble_eq_true rfl) dX6_init_15 (fun q1 H hP hD hS => ?_)
  have hP : va_P κ.1 vwCl [(h0, .inr (6, [.ref q0, .null, .null, .null, .null, .null, .null, .null, .null, .null, .null, .null, .int 0, .int 0, .int 0, .int 0, .int 0, .int 0])), (q0, .inl (κ.2.1, 8, .inl Z0)), (q1, .inl (κ.2.1, 8, .inl Z0))] H := hP
  have hD : va_D A [(h0, .inr (6, [.ref q0, .null, .null, .null, .null, .null, .null, .null, .null, .null, .null, .null, .int 0, .int 0, .int 0, .int 0, .int 0, .int 0])), (q0, .inl (κ.2.1, 8, .inl Z0)), (q1, .inl (κ.2.1, 8, .inl Z0))] := hD
  refine y_putF hx hb hts hown hin hE hP hD hS fn_X6_15 0 rfl rfl rfl (Nat.le_of_ble_eq_true rfl) dX6_init_17 (fun H locs hP hD hS => ?_)
  have hP : va_P κ.1 vwCl [(h0, .inr (6, [.ref q0, .ref q1, .null, .null, .null, .null, .null, .null, .null, .null, .null, .null, .int 0, .int 0, .int 0, .int 0, .int 0, .int 0])), (q0, .inl (κ.2.1, 8, .inl Z0)), (q1, .inl (κ.2.1, 8, .inl Z0))] H := hP
  have hD : va_D A [(h0, .inr (6, [.ref q0, .ref q1, .null, .null, .null, .null, .null, .null, .null, .null, .null, .null, .int 0, .int 0, .int 0, .int 0, .int 0, .int 0])), (q0, .inl (κ.2.1, 8, .inl Z0)), (q1, .inl (κ.2.1, 8, .inl Z0))] := hD
  refine lv_aload_n hx hb dX6_init_20 rfl (lv_at hl 0 rfl) ?_
  refine lv_bipush (v := 8) hx hb dX6_init_21 nb_8 ?_
  refine y_newi hx hb hts hE hP hD hS hA 8 (by decide) (by decide) (by decide) (Nat.le_of_ble_eq_true rfl) (Nat.le_of_ble_eq_true rfl) dX6_init_23 (fun q2 H hP hD hS => ?_)
  have hP : va_P κ.1 vwCl [(h0, .inr (6, [.ref q0, .ref q1, .null, .null, .null, .null, .null, .null, .null, .null, .null, .null, .int 0, .int 0, .int 0, .int 0, .int 0, .int 0])), (q0, .inl (κ.2.1, 8, .inl Z0)), (q1, .inl (κ.2.1, 8, .inl Z0)), (q2, .inl (κ.2.1, 8, .inl Z0))] H := hP
  have hD : va_D A [(h0, .inr (6, [.ref q0, .ref q1, .null, .null, .null, .null, .null, .null, .null, .null, .null, .null, .int 0, .int 0, .int 0, .int 0, .int 0, .int 0])), (q0, .inl (κ.2.1, 8, .inl Z0)), (q1, .inl (κ.2.1, 8, .inl Z0)), (q2, .inl (κ.2.1, 8, .inl Z0))] := hD
  refine y_putF hx hb hts hown hin hE hP hD hS fn_X6_18 0 rfl rfl rfl (Nat.le_of_ble_eq_true rfl) dX6_init_25 (fun H locs hP hD hS => ?_)
  have hP : va_P κ.1 vwCl [(h0, .inr (6, [.ref q0, .ref q1, .ref q2, .null, .null, .null, .null, .null, .null, .null, .null, .null, .int 0, .int 0, .int 0, .int 0, .int 0, .int 0])), (q0, .inl (κ.2.1, 8, .inl Z0)), (q1, .inl (κ.2.1, 8, .inl Z0)), (q2, .inl (κ.2.1, 8, .inl Z0))] H := hP
  have hD : va_D A [(h0, .inr (6, [.ref q0, .ref q1, .ref q2, .null, .null, .null, .null, .null, .null, .null, .null, .null, .int 0, .int 0, .int 0, .int 0, .int 0, .int 0])), (q0, .inl (κ.2.1, 8, .inl Z0)), (q1, .inl (κ.2.1, 8, .inl Z0)), (q2, .inl (κ.2.1, 8, .inl Z0))] := hD
  refine lv_aload_n hx hb dX6_init_28 rfl (lv_at hl 0 rfl) ?_
  refine lv_bipush (v := 8) hx hb dX6_init_29 nb_8 ?_
  refine y_newi hx hb hts hE hP hD hS hA 8 (by decide) (by decide) (by decide) (Nat.le_of_ble_eq_true rfl) (Nat.le_of_ble_eq_true rfl) dX6_init_31 (fun q3 H hP hD hS => ?_)
  have hP : va_P κ.1 vwCl [(h0, .inr (6, [.ref q0, .ref q1, .ref q2, .null, .null, .null, .null, .null, .null, .null, .null, .null, .int 0, .int 0, .int 0, .int 0, .int 0, .int 0])), (q0, .inl (κ.2.1, 8, .inl Z0)), (q1, .inl (κ.2.1, 8, .inl Z0)), (q2, .inl (κ.2.1, 8, .inl Z0)), (q3, .inl (κ.2.1, 8, .inl Z0))] H := hP
  have hD : va_D A [(h0, .inr (6, [.ref q0, .ref q1, .ref q2, .null, .null, .null, .null, .null, .null, .null, .null, .null, .int 0, .int 0, .int 0, .int 0, .int 0, .int 0])), (q0, .inl (κ.2.1, 8, .inl Z0)), (q1, .inl (κ.2.1, 8, .inl Z0)), (q2, .inl (κ.2.1, 8, .inl Z0)), (q3, .inl (κ.2.1, 8, .inl Z0))] := hD
  refine y_putF hx hb hts hown hin hE hP hD hS fn_X6_21 0 rfl rfl rfl (Nat.le_of_ble_eq_true rfl) dX6_init_33 (fun H locs hP hD hS => ?_)
  have hP : va_P κ.1 vwCl [(h0, .inr (6, [.ref q0, .ref q1, .ref q2, .ref q3, .null, .null, .null, .null, .null, .null, .null, .null, .int 0, .int 0, .int 0, .int 0, .int 0, .int 0])), (q0, .inl (κ.2.1, 8, .inl Z0)), (q1, .inl (κ.2.1, 8, .inl Z0)), (q2, .inl (κ.2.1, 8, .inl Z0)), (q3, .inl (κ.2.1, 8, .inl Z0))] H := hP
  have hD : va_D A [(h0, .inr (6, [.ref q0, .ref q1, .ref q2, .ref q3, .null, .null, .null, .null, .null, .null, .null, .null, .int 0, .int 0, .int 0, .int 0, .int 0, .int 0])), (q0, .inl (κ.2.1, 8, .inl Z0)), (q1, .inl (κ.2.1, 8, .inl Z0)), (q2, .inl (κ.2.1, 8, .inl Z0)), (q3, .inl (κ.2.1, 8, .inl Z0))] := hD
  refine lv_aload_n hx hb dX6_init_36 rfl (lv_at hl 0 rfl) ?_
  refine lv_bipush (v := 8) hx hb dX6_init_37 nb_8 ?_
  refine y_newi hx hb hts hE hP hD hS hA 8 (by decide) (by decide) (by decide) (Nat.le_of_ble_eq_true rfl) (Nat.le_of_ble_eq_true rfl) dX6_init_39 (fun q4 H hP hD hS => ?_)
  have hP : va_P κ.1 vwCl [(h0, .inr (6, [.ref q0, .ref q1, .ref q2, .ref q3, .null, .null, .null, .null, .null, .null, .null, .null, .int 0, .int 0, .int 0, .int 0, .int 0, .int 0])), (q0, .inl (κ.2.1, 8, .inl Z0)), (q1, .inl (κ.2.1, 8, .inl Z0)), (q2, .inl (κ.2.1, 8, .inl Z0)), (q3, .inl (κ.2.1, 8, .inl Z0)), (q4, .inl (κ.2.1, 8, .inl Z0))] H := hP
  have hD : va_D A [(h0, .inr (6, [.ref q0, .ref q1, .ref q2, .ref q3, .null, .null, .null, .null, .null, .null, .null, .null, .int 0, .int 0, .int 0, .int 0, .int 0, .int 0])), (q0, .inl (κ.2.1, 8, .inl Z0)), (q1, .inl (κ.2.1, 8, .inl Z0)), (q2, .inl (κ.2.1, 8, .inl Z0)), (q3, .inl (κ.2.1, 8, .inl Z0)), (q4, .inl (κ.2.1, 8, .inl Z0))] := hD
  refine y_putF hx hb hts hown hin hE hP hD hS fn_X6_24 0 rfl rfl rfl (Nat.le_of_ble_eq_true rfl) dX6_init_41 (fun H locs hP hD hS => ?_)
  have hP : va_P κ.1 vwCl [(h0, .inr (6, [.ref q0, .ref q1, .ref q2, .ref q3, .ref q4, .null, .null, .null, .null, .null, .null, .null, .int 0, .int 0, .int 0, .int 0, .int 0, .int 0])), (q0, .inl (κ.2.1, 8, .inl Z0)), (q1, .inl (κ.2.1, 8, .inl Z0)), (q2, .inl (κ.2.1, 8, .inl Z0)), (q3, .inl (κ.2.1, 8, .inl Z0)), (q4, .inl (κ.2.1, 8, .inl Z0))] H := hP
  have hD : va_D A [(h0, .inr (6, [.ref q0, .ref q1, .ref q2, .ref q3, .ref q4, .null, .null, .null, .null, .null, .null, .null, .int 0, .int 0, .int 0, .int 0, .int 0, .int 0])), (q0, .inl (κ.2.1, 8, .inl Z0)), (q1, .inl (κ.2.1, 8, .inl Z0)), (q2, .inl (κ.2.1, 8, .inl Z0)), (q3, .inl (κ.2.1, 8, .inl Z0)), (q4, .inl (κ.2.1, 8, .inl Z0))] := hD
  refine lv_aload_n hx hb dX6_init_44 rfl (lv_at hl 0 rfl) ?_
  refine lv_bipush (v := 8) hx hb dX6_init_45 nb_8 ?_
  refine y_newi hx hb hts hE hP hD hS hA 8 (by decide) (by decide) (by decide) (Nat.le_of_ble_eq_true rfl) (Nat.le_of_ble_eq_true rfl) dX6_init_47 (fun q5 H hP hD hS => ?_)
  have hP : va_P κ.1 vwCl [(h0, .inr (6, [.ref q0, .ref q1, .ref q2, .ref q3, .ref q4, .null, .null, .null, .null, .null, .null, .null, .int 0, .int 0, .int 0, .int 0, .int 0, .int 0])), (q0, .inl (κ.2.1, 8, .inl Z0)), (q1, .inl (κ.2.1, 8, .inl Z0)), (q2, .inl (κ.2.1, 8, .inl Z0)), (q3, .inl (κ.2.1, 8, .inl Z0)), (q4, .inl (κ.2.1, 8, .inl Z0)), (q5, .inl (κ.2.1, 8, .inl Z0))] H := hP
  have hD : va_D A [(h0, .inr (6, [.ref q0, .ref q1, .ref q2, .ref q3, .ref q4, .null, .null, .null, .null, .null, .null, .null, .int 0, .int 0, .int 0, .int 0, .int 0, .int 0])), (q0, .inl (κ.2.1, 8, .inl Z0)), (q1, .inl (κ.2.1, 8, .inl Z0)), (q2, .inl (κ.2.1, 8, .inl Z0)), (q3, .inl (κ.2.1, 8, .inl Z0)), (q4, .inl (κ.2.1, 8, .inl Z0)), (q5, .inl (κ.2.1, 8, .inl Z0))] := hD
  refine y_putF hx hb hts hown hin hE hP hD hS fn_X6_27 0 rfl rfl rfl (Nat.le_of_ble_eq_true rfl) dX6_init_49 (fun H locs hP hD hS => ?_)
  have hP : va_P κ.1 vwCl [(h0, .inr (6, [.ref q0, .ref q1, .ref q2, .ref q3, .ref q4, .ref q5, .null, .null, .null, .null, .null, .null, .int 0, .int 0, .int 0, .int 0, .int 0, .int 0])), (q0, .inl (κ.2.1, 8, .inl Z0)), (q1, .inl (κ.2.1, 8, .inl Z0)), (q2, .inl (κ.2.1, 8, .inl Z0)), (q3, .inl (κ.2.1, 8, .inl Z0)), (q4, .inl (κ.2.1, 8, .inl Z0)), (q5, .inl (κ.2.1, 8, .inl Z0))] H := hP
  have hD : va_D A [(h0, .inr (6, [.ref q0, .ref q1, .ref q2, .ref q3, .ref q4, .ref q5, .null, .null, .null, .null, .null, .null, .int 0, .int 0, .int 0, .int 0, .int 0, .int 0])), (q0, .inl (κ.2.1, 8, .inl Z0)), (q1, .inl (κ.2.1, 8, .inl Z0)), (q2, .inl (κ.2.1, 8, .inl Z0)), (q3, .inl (κ.2.1, 8, .inl Z0)), (q4, .inl (κ.2.1, 8, .inl Z0)), (q5, .inl (κ.2.1, 8, .inl Z0))] := hD
  refine lv_aload_n hx hb dX6_init_52 rfl (lv_at hl 0 rfl) ?_
  refine lv_bipush (v := 8) hx hb dX6_init_53 nb_8 ?_
  refine y_newi hx hb hts hE hP hD hS hA 8 (by decide) (by decide) (by decide) (Nat.le_of_ble_eq_true rfl) (Nat.le_of_ble_eq_true rfl) dX6_init_55 (fun q6 H hP hD hS => ?_)
  have hP : va_P κ.1 vwCl [(h0, .inr (6, [.ref q0, .ref q1, .ref q2, .ref q3, .ref q4, .ref q5, .null, .null, .null, .null, .null, .null, .int 0, .int 0, .int 0, .int 0, .int 0, .int 0])), (q0, .inl (κ.2.1, 8, .inl Z0)), (q1, .inl (κ.2.1, 8, .inl Z0)), (q2, .inl (κ.2.1, 8, .inl Z0)), (q3, .inl (κ.2.1, 8, .inl Z0)), (q4, .inl (κ.2.1, 8, .inl Z0)), (q5, .inl (κ.2.1, 8, .inl Z0)), (q6, .inl (κ.2.1, 8, .inl Z0))] H := hP
  have hD : va_D A [(h0, .inr (6, [.ref q0, .ref q1, .ref q2, .ref q3, .ref q4, .ref q5, .null, .null, .null, .null, .null, .null, .int 0, .int 0, .int 0, .int 0, .int 0, .int 0])), (q0, .inl (κ.2.1, 8, .inl Z0)), (q1, .inl (κ.2.1, 8, .inl Z0)), (q2, .inl (κ.2.1, 8, .inl Z0)), (q3, .inl (κ.2.1, 8, .inl Z0)), (q4, .inl (κ.2.1, 8, .inl Z0)), (q5, .inl (κ.2.1, 8, .inl Z0)), (q6, .inl (κ.2.1, 8, .inl Z0))] := hD
  refine y_putF hx hb hts hown hin hE hP hD hS fn_X6_30 0 rfl rfl rfl (Nat.le_of_ble_eq_true rfl) dX6_init_57 (fun H locs hP hD hS => ?_)
  have hP : va_P κ.1 vwCl [(h0, .inr (6, [.ref q0, .ref q1, .ref q2, .ref q3, .ref q4, .ref q5, .ref q6, .null, .null, .null, .null, .null, .int 0, .int 0, .int 0, .int 0, .int 0, .int 0])), (q0, .inl (κ.2.1, 8, .inl Z0)), (q1, .inl (κ.2.1, 8, .inl Z0)), (q2, .inl (κ.2.1, 8, .inl Z0)), (q3, .inl (κ.2.1, 8, .inl Z0)), (q4, .inl (κ.2.1, 8, .inl Z0)), (q5, .inl (κ.2.1, 8, .inl Z0)), (q6, .inl (κ.2.1, 8, .inl Z0))] H := hP
  have hD : va_D A [(h0, .inr (6, [.ref q0, .ref q1, .ref q2, .ref q3, .ref q4, .ref q5, .ref q6, .null, .null, .null, .null, .null, .int 0, .int 0, .int 0, .int 0, .int 0, .int 0])), (q0, .inl (κ.2.1, 8, .inl Z0)), (q1, .inl (κ.2.1, 8, .inl Z0)), (q2, .inl (κ.2.1, 8, .inl Z0)), (q3, .inl (κ.2.1, 8, .inl Z0)), (q4, .inl (κ.2.1, 8, .inl Z0)), (q5, .inl (κ.2.1, 8, .inl Z0)), (q6, .inl (κ.2.1, 8, .inl Z0))] := hD
  refine lv_aload_n hx hb dX6_init_60 rfl (lv_at hl 0 rfl) ?_
  refine lv_bipush (v := 8) hx hb dX6_init_61 nb_8 ?_
  refine y_newi hx hb hts hE hP hD hS hA 8 (by decide) (by decide) (by decide) (Nat.le_of_ble_eq_true rfl) (Nat.le_of_ble_eq_true rfl) dX6_init_63 (fun q7 H hP hD hS => ?_)
  have hP : va_P κ.1 vwCl [(h0, .inr (6, [.ref q0, .ref q1, .ref q2, .ref q3, .ref q4, .ref q5, .ref q6, .null, .null, .null, .null, .null, .int 0, .int 0, .int 0, .int 0, .int 0, .int 0])), (q0, .inl (κ.2.1, 8, .inl Z0)), (q1, .inl (κ.2.1, 8, .inl Z0)), (q2, .inl (κ.2.1, 8, .inl Z0)), (q3, .inl (κ.2.1, 8, .inl Z0)), (q4, .inl (κ.2.1, 8, .inl Z0)), (q5, .inl (κ.2.1, 8, .inl Z0)), (q6, .inl (κ.2.1, 8, .inl Z0)), (q7, .inl (κ.2.1, 8, .inl Z0))] H := hP
  have hD : va_D A [(h0, .inr (6, [.ref q0, .ref q1, .ref q2, .ref q3, .ref q4, .ref q5, .ref q6, .null, .null, .null, .null, .null, .int 0, .int 0, .int 0, .int 0, .int 0, .int 0])), (q0, .inl (κ.2.1, 8, .inl Z0)), (q1, .inl (κ.2.1, 8, .inl Z0)), (q2, .inl (κ.2.1, 8, .inl Z0)), (q3, .inl (κ.2.1, 8, .inl Z0)), (q4, .inl (κ.2.1, 8, .inl Z0)), (q5, .inl (κ.2.1, 8, .inl Z0)), (q6, .inl (κ.2.1, 8, .inl Z0)), (q7, .inl (κ.2.1, 8, .inl Z0))] := hD
  refine y_putF hx hb hts hown hin hE hP hD hS fn_X6_33 0 rfl rfl rfl (Nat.le_of_ble_eq_true rfl) dX6_init_65 (fun H locs hP hD hS => ?_)
  have hP : va_P κ.1 vwCl [(h0, .inr (6, [.ref q0, .ref q1, .ref q2, .ref q3, .ref q4, .ref q5, .ref q6, .ref q7, .null, .null, .null, .null, .int 0, .int 0, .int 0, .int 0, .int 0, .int 0])), (q0, .inl (κ.2.1, 8, .inl Z0)), (q1, .inl (κ.2.1, 8, .inl Z0)), (q2, .inl (κ.2.1, 8, .inl Z0)), (q3, .inl (κ.2.1, 8, .inl Z0)), (q4, .inl (κ.2.1, 8, .inl Z0)), (q5, .inl (κ.2.1, 8, .inl Z0)), (q6, .inl (κ.2.1, 8, .inl Z0)), (q7, .inl (κ.2.1, 8, .inl Z0))] H := hP
  have hD : va_D A [(h0, .inr (6, [.ref q0, .ref q1, .ref q2, .ref q3, .ref q4, .ref q5, .ref q6, .ref q7, .null, .null, .null, .null, .int 0, .int 0, .int 0, .int 0, .int 0, .int 0])), (q0, .inl (κ.2.1, 8, .inl Z0)), (q1, .inl (κ.2.1, 8, .inl Z0)), (q2, .inl (κ.2.1, 8, .inl Z0)), (q3, .inl (κ.2.1, 8, .inl Z0)), (q4, .inl (κ.2.1, 8, .inl Z0)), (q5, .inl (κ.2.1, 8, .inl Z0)), (q6, .inl (κ.2.1, 8, .inl Z0)), (q7, .inl (κ.2.1, 8, .inl Z0))] := hD
  refine lv_aload_n hx hb dX6_init_68 rfl (lv_at hl 0 rfl) ?_
  refine lv_bipush (v := 8) hx hb dX6_init_69 nb_8 ?_
  refine y_newi hx hb hts hE hP hD hS hA 8 (by decide) (by decide) (by decide) (Nat.le_of_ble_eq_true rfl) (Nat.le_of_ble_eq_true rfl) dX6_init_71 (fun q8 H hP hD hS => ?_)
  have hP : va_P κ.1 vwCl [(h0, .inr (6, [.ref q0, .ref q1, .ref q2, .ref q3, .ref q4, .ref q5, .ref q6, .ref q7, .null, .null, .null, .null, .int 0, .int 0, .int 0, .int 0, .int 0, .int 0])), (q0, .inl (κ.2.1, 8, .inl Z0)), (q1, .inl (κ.2.1, 8, .inl Z0)), (q2, .inl (κ.2.1, 8, .inl Z0)), (q3, .inl (κ.2.1, 8, .inl Z0)), (q4, .inl (κ.2.1, 8, .inl Z0)), (q5, .inl (κ.2.1, 8, .inl Z0)), (q6, .inl (κ.2.1, 8, .inl Z0)), (q7, .inl (κ.2.1, 8, .inl Z0)), (q8, .inl (κ.2.1, 8, .inl Z0))] H := hP
  have hD : va_D A [(h0, .inr (6, [.ref q0, .ref q1, .ref q2, .ref q3, .ref q4, .ref q5, .ref q6, .ref q7, .null, .null, .null, .null, .int 0, .int 0, .int 0, .int 0, .int 0, .int 0])), (q0, .inl (κ.2.1, 8, .inl Z0)), (q1, .inl (κ.2.1, 8, .inl Z0)), (q2, .inl (κ.2.1, 8, .inl Z0)), (q3, .inl (κ.2.1, 8, .inl Z0)), (q4, .inl (κ.2.1, 8, .inl Z0)), (q5, .inl (κ.2.1, 8, .inl Z0)), (q6, .inl (κ.2.1, 8, .inl Z0)), (q7, .inl (κ.2.1, 8, .inl Z0)), (q8, .inl (κ.2.1, 8, .inl Z0))] := hD
  refine y_putF hx hb hts hown hin hE hP hD hS fn_X6_36 0 rfl rfl rfl (Nat.le_of_ble_eq_true rfl) dX6_init_73 (fun H locs hP hD hS => ?_)
  have hP : va_P κ.1 vwCl [(h0, .inr (6, [.ref q0, .ref q1, .ref q2, .ref q3, .ref q4, .ref q5, .ref q6, .ref q7, .ref q8, .null, .null, .null, .int 0, .int 0, .int 0, .int 0, .int 0, .int 0])), (q0, .inl (κ.2.1, 8, .inl Z0)), (q1, .inl (κ.2.1, 8, .inl Z0)), (q2, .inl (κ.2.1, 8, .inl Z0)), (q3, .inl (κ.2.1, 8, .inl Z0)), (q4, .inl (κ.2.1, 8, .inl Z0)), (q5, .inl (κ.2.1, 8, .inl Z0)), (q6, .inl (κ.2.1, 8, .inl Z0)), (q7, .inl (κ.2.1, 8, .inl Z0)), (q8, .inl (κ.2.1, 8, .inl Z0))] H := hP
  have hD : va_D A [(h0, .inr (6, [.ref q0, .ref q1, .ref q2, .ref q3, .ref q4, .ref q5, .ref q6, .ref q7, .ref q8, .null, .null, .null, .int 0, .int 0, .int 0, .int 0, .int 0, .int 0])), (q0, .inl (κ.2.1, 8, .inl Z0)), (q1, .inl (κ.2.1, 8, .inl Z0)), (q2, .inl (κ.2.1, 8, .inl Z0)), (q3, .inl (κ.2.1, 8, .inl Z0)), (q4, .inl (κ.2.1, 8, .inl Z0)), (q5, .inl (κ.2.1, 8, .inl Z0)), (q6, .inl (κ.2.1, 8, .inl Z0)), (q7, .inl (κ.2.1, 8, .inl Z0)), (q8, .inl (κ.2.1, 8, .inl Z0))] := hD
  refine lv_aload_n hx hb dX6_init_76 rfl (lv_at hl 0 rfl) ?_
  refine lv_iconst (v := 4) hx hb dX6_init_77 nc_4 ?_
  refine y_newi hx hb hts hE hP hD hS hA 4 (by decide) (by decide) (by decide) (Nat.le_of_ble_eq_true rfl) (Nat.le_of_ble_eq_true rfl) dX6_init_78 (fun q9 H hP hD hS => ?_)
  have hP : va_P κ.1 vwCl [(h0, .inr (6, [.ref q0, .ref q1, .ref q2, .ref q3, .ref q4, .ref q5, .ref q6, .ref q7, .ref q8, .null, .null, .null, .int 0, .int 0, .int 0, .int 0, .int 0, .int 0])), (q0, .inl (κ.2.1, 8, .inl Z0)), (q1, .inl (κ.2.1, 8, .inl Z0)), (q2, .inl (κ.2.1, 8, .inl Z0)), (q3, .inl (κ.2.1, 8, .inl Z0)), (q4, .inl (κ.2.1, 8, .inl Z0)), (q5, .inl (κ.2.1, 8, .inl Z0)), (q6, .inl (κ.2.1, 8, .inl Z0)), (q7, .inl (κ.2.1, 8, .inl Z0)), (q8, .inl (κ.2.1, 8, .inl Z0)), (q9, .inl (κ.2.1, 4, .inl Z0))] H := hP
  have hD : va_D A [(h0, .inr (6, [.ref q0, .ref q1, .ref q2, .ref q3, .ref q4, .ref q5, .ref q6, .ref q7, .ref q8, .null, .null, .null, .int 0, .int 0, .int 0, .int 0, .int 0, .int 0])), (q0, .inl (κ.2.1, 8, .inl Z0)), (q1, .inl (κ.2.1, 8, .inl Z0)), (q2, .inl (κ.2.1, 8, .inl Z0)), (q3, .inl (κ.2.1, 8, .inl Z0)), (q4, .inl (κ.2.1, 8, .inl Z0)), (q5, .inl (κ.2.1, 8, .inl Z0)), (q6, .inl (κ.2.1, 8, .inl Z0)), (q7, .inl (κ.2.1, 8, .inl Z0)), (q8, .inl (κ.2.1, 8, .inl Z0)), (q9, .inl (κ.2.1, 4, .inl Z0))] := hD
  refine y_putF hx hb hts hown hin hE hP hD hS fn_X6_39 0 rfl rfl rfl (Nat.le_of_ble_eq_true rfl) dX6_init_80 (fun H locs hP hD hS => ?_)
  have hP : va_P κ.1 vwCl [(h0, .inr (6, [.ref q0, .ref q1, .ref q2, .ref q3, .ref q4, .ref q5, .ref q6, .ref q7, .ref q8, .ref q9, .null, .null, .int 0, .int 0, .int 0, .int 0, .int 0, .int 0])), (q0, .inl (κ.2.1, 8, .inl Z0)), (q1, .inl (κ.2.1, 8, .inl Z0)), (q2, .inl (κ.2.1, 8, .inl Z0)), (q3, .inl (κ.2.1, 8, .inl Z0)), (q4, .inl (κ.2.1, 8, .inl Z0)), (q5, .inl (κ.2.1, 8, .inl Z0)), (q6, .inl (κ.2.1, 8, .inl Z0)), (q7, .inl (κ.2.1, 8, .inl Z0)), (q8, .inl (κ.2.1, 8, .inl Z0)), (q9, .inl (κ.2.1, 4, .inl Z0))] H := hP
  have hD : va_D A [(h0, .inr (6, [.ref q0, .ref q1, .ref q2, .ref q3, .ref q4, .ref q5, .ref q6, .ref q7, .ref q8, .ref q9, .null, .null, .int 0, .int 0, .int 0, .int 0, .int 0, .int 0])), (q0, .inl (κ.2.1, 8, .inl Z0)), (q1, .inl (κ.2.1, 8, .inl Z0)), (q2, .inl (κ.2.1, 8, .inl Z0)), (q3, .inl (κ.2.1, 8, .inl Z0)), (q4, .inl (κ.2.1, 8, .inl Z0)), (q5, .inl (κ.2.1, 8, .inl Z0)), (q6, .inl (κ.2.1, 8, .inl Z0)), (q7, .inl (κ.2.1, 8, .inl Z0)), (q8, .inl (κ.2.1, 8, .inl Z0)), (q9, .inl (κ.2.1, 4, .inl Z0))] := hD
  refine lv_aload_n hx hb dX6_init_83 rfl (lv_at hl 0 rfl) ?_
  refine lv_iconst (v := 4) hx hb dX6_init_84 nc_4 ?_
  refine y_newi hx hb hts hE hP hD hS hA 4 (by decide) (by decide) (by decide) (Nat.le_of_ble_eq_true rfl) (Nat.le_of_ble_eq_true rfl) dX6_init_85 (fun q10 H hP hD hS => ?_)
  have hP : va_P κ.1 vwCl [(h0, .inr (6, [.ref q0, .ref q1, .ref q2, .ref q3, .ref q4, .ref q5, .ref q6, .ref q7, .ref q8, .ref q9, .null, .null, .int 0, .int 0, .int 0, .int 0, .int 0, .int 0])), (q0, .inl (κ.2.1, 8, .inl Z0)), (q1, .inl (κ.2.1, 8, .inl Z0)), (q2, .inl (κ.2.1, 8, .inl Z0)), (q3, .inl (κ.2.1, 8, .inl Z0)), (q4, .inl (κ.2.1, 8, .inl Z0)), (q5, .inl (κ.2.1, 8, .inl Z0)), (q6, .inl (κ.2.1, 8, .inl Z0)), (q7, .inl (κ.2.1, 8, .inl Z0)), (q8, .inl (κ.2.1, 8, .inl Z0)), (q9, .inl (κ.2.1, 4, .inl Z0)), (q10, .inl (κ.2.1, 4, .inl Z0))] H := hP
  have hD : va_D A [(h0, .inr (6, [.ref q0, .ref q1, .ref q2, .ref q3, .ref q4, .ref q5, .ref q6, .ref q7, .ref q8, .ref q9, .null, .null, .int 0, .int 0, .int 0, .int 0, .int 0, .int 0])), (q0, .inl (κ.2.1, 8, .inl Z0)), (q1, .inl (κ.2.1, 8, .inl Z0)), (q2, .inl (κ.2.1, 8, .inl Z0)), (q3, .inl (κ.2.1, 8, .inl Z0)), (q4, .inl (κ.2.1, 8, .inl Z0)), (q5, .inl (κ.2.1, 8, .inl Z0)), (q6, .inl (κ.2.1, 8, .inl Z0)), (q7, .inl (κ.2.1, 8, .inl Z0)), (q8, .inl (κ.2.1, 8, .inl Z0)), (q9, .inl (κ.2.1, 4, .inl Z0)), (q10, .inl (κ.2.1, 4, .inl Z0))] := hD
  refine y_putF hx hb hts hown hin hE hP hD hS fn_X6_42 0 rfl rfl rfl (Nat.le_of_ble_eq_true rfl) dX6_init_87 (fun H locs hP hD hS => ?_)
  have hP : va_P κ.1 vwCl [(h0, .inr (6, [.ref q0, .ref q1, .ref q2, .ref q3, .ref q4, .ref q5, .ref q6, .ref q7, .ref q8, .ref q9, .ref q10, .null, .int 0, .int 0, .int 0, .int 0, .int 0, .int 0])), (q0, .inl (κ.2.1, 8, .inl Z0)), (q1, .inl (κ.2.1, 8, .inl Z0)), (q2, .inl (κ.2.1, 8, .inl Z0)), (q3, .inl (κ.2.1, 8, .inl Z0)), (q4, .inl (κ.2.1, 8, .inl Z0)), (q5, .inl (κ.2.1, 8, .inl Z0)), (q6, .inl (κ.2.1, 8, .inl Z0)), (q7, .inl (κ.2.1, 8, .inl Z0)), (q8, .inl (κ.2.1, 8, .inl Z0)), (q9, .inl (κ.2.1, 4, .inl Z0)), (q10, .inl (κ.2.1, 4, .inl Z0))] H := hP
  have hD : va_D A [(h0, .inr (6, [.ref q0, .ref q1, .ref q2, .ref q3, .ref q4, .ref q5, .ref q6, .ref q7, .ref q8, .ref q9, .ref q10, .null, .int 0, .int 0, .int 0, .int 0, .int 0, .int 0])), (q0, .inl (κ.2.1, 8, .inl Z0)), (q1, .inl (κ.2.1, 8, .inl Z0)), (q2, .inl (κ.2.1, 8, .inl Z0)), (q3, .inl (κ.2.1, 8, .inl Z0)), (q4, .inl (κ.2.1, 8, .inl Z0)), (q5, .inl (κ.2.1, 8, .inl Z0)), (q6, .inl (κ.2.1, 8, .inl Z0)), (q7, .inl (κ.2.1, 8, .inl Z0)), (q8, .inl (κ.2.1, 8, .inl Z0)), (q9, .inl (κ.2.1, 4, .inl Z0)), (q10, .inl (κ.2.1, 4, .inl Z0))] := hD
  refine lv_aload_n hx hb dX6_init_90 rfl (lv_at hl 0 rfl) ?_
  refine lv_sipush (v := 201) hx hb dX6_init_91 ns_201 ?_
  refine y_newi hx hb hts hE hP hD hS hA 201 (by decide) (by decide) (by decide) (Nat.le_of_ble_eq_true rfl) (Nat.le_of_ble_eq_true rfl) dX6_init_94 (fun q11 H hP hD hS => ?_)
  have hP : va_P κ.1 vwCl [(h0, .inr (6, [.ref q0, .ref q1, .ref q2, .ref q3, .ref q4, .ref q5, .ref q6, .ref q7, .ref q8, .ref q9, .ref q10, .null, .int 0, .int 0, .int 0, .int 0, .int 0, .int 0])), (q0, .inl (κ.2.1, 8, .inl Z0)), (q1, .inl (κ.2.1, 8, .inl Z0)), (q2, .inl (κ.2.1, 8, .inl Z0)), (q3, .inl (κ.2.1, 8, .inl Z0)), (q4, .inl (κ.2.1, 8, .inl Z0)), (q5, .inl (κ.2.1, 8, .inl Z0)), (q6, .inl (κ.2.1, 8, .inl Z0)), (q7, .inl (κ.2.1, 8, .inl Z0)), (q8, .inl (κ.2.1, 8, .inl Z0)), (q9, .inl (κ.2.1, 4, .inl Z0)), (q10, .inl (κ.2.1, 4, .inl Z0)), (q11, .inl (κ.2.1, 201, .inl Z0))] H := hP
  have hD : va_D A [(h0, .inr (6, [.ref q0, .ref q1, .ref q2, .ref q3, .ref q4, .ref q5, .ref q6, .ref q7, .ref q8, .ref q9, .ref q10, .null, .int 0, .int 0, .int 0, .int 0, .int 0, .int 0])), (q0, .inl (κ.2.1, 8, .inl Z0)), (q1, .inl (κ.2.1, 8, .inl Z0)), (q2, .inl (κ.2.1, 8, .inl Z0)), (q3, .inl (κ.2.1, 8, .inl Z0)), (q4, .inl (κ.2.1, 8, .inl Z0)), (q5, .inl (κ.2.1, 8, .inl Z0)), (q6, .inl (κ.2.1, 8, .inl Z0)), (q7, .inl (κ.2.1, 8, .inl Z0)), (q8, .inl (κ.2.1, 8, .inl Z0)), (q9, .inl (κ.2.1, 4, .inl Z0)), (q10, .inl (κ.2.1, 4, .inl Z0)), (q11, .inl (κ.2.1, 201, .inl Z0))] := hD
  refine y_putF hx hb hts hown hin hE hP hD hS fn_X6_45 0 rfl rfl rfl (Nat.le_of_ble_eq_true rfl) dX6_init_96 (fun H locs hP hD hS => ?_)
  have hP : va_P κ.1 vwCl [(h0, .inr (6, [.ref q0, .ref q1, .ref q2, .ref q3, .ref q4, .ref q5, .ref q6, .ref q7, .ref q8, .ref q9, .ref q10, .ref q11, .int 0, .int 0, .int 0, .int 0, .int 0, .int 0])), (q0, .inl (κ.2.1, 8, .inl Z0)), (q1, .inl (κ.2.1, 8, .inl Z0)), (q2, .inl (κ.2.1, 8, .inl Z0)), (q3, .inl (κ.2.1, 8, .inl Z0)), (q4, .inl (κ.2.1, 8, .inl Z0)), (q5, .inl (κ.2.1, 8, .inl Z0)), (q6, .inl (κ.2.1, 8, .inl Z0)), (q7, .inl (κ.2.1, 8, .inl Z0)), (q8, .inl (κ.2.1, 8, .inl Z0)), (q9, .inl (κ.2.1, 4, .inl Z0)), (q10, .inl (κ.2.1, 4, .inl Z0)), (q11, .inl (κ.2.1, 201, .inl Z0))] H := hP
  have hD : va_D A [(h0, .inr (6, [.ref q0, .ref q1, .ref q2, .ref q3, .ref q4, .ref q5, .ref q6, .ref q7, .ref q8, .ref q9, .ref q10, .ref q11, .int 0, .int 0, .int 0, .int 0, .int 0, .int 0])), (q0, .inl (κ.2.1, 8, .inl Z0)), (q1, .inl (κ.2.1, 8, .inl Z0)), (q2, .inl (κ.2.1, 8, .inl Z0)), (q3, .inl (κ.2.1, 8, .inl Z0)), (q4, .inl (κ.2.1, 8, .inl Z0)), (q5, .inl (κ.2.1, 8, .inl Z0)), (q6, .inl (κ.2.1, 8, .inl Z0)), (q7, .inl (κ.2.1, 8, .inl Z0)), (q8, .inl (κ.2.1, 8, .inl Z0)), (q9, .inl (κ.2.1, 4, .inl Z0)), (q10, .inl (κ.2.1, 4, .inl Z0)), (q11, .inl (κ.2.1, 201, .inl Z0))] := hD
  refine lv_aload_n hx hb dX6_init_99 rfl (lv_at hl 0 rfl) ?_
  refine lv_iconst (v := 0) hx hb dX6_init_100 nc_0 ?_
  refine y_put hx hb hts hown hE hP hD hS fp_X6_48 0 rfl rfl rfl (Nat.le_of_ble_eq_true rfl) dX6_init_101 (fun H locs hP hD hS => ?_)
  have hP : va_P κ.1 vwCl [(h0, .inr (6, [.ref q0, .ref q1, .ref q2, .ref q3, .ref q4, .ref q5, .ref q6, .ref q7, .ref q8, .ref q9, .ref q10, .ref q11, .int 0, .int 0, .int 0, .int 0, .int 0, .int 0])), (q0, .inl (κ.2.1, 8, .inl Z0)), (q1, .inl (κ.2.1, 8, .inl Z0)), (q2, .inl (κ.2.1, 8, .inl Z0)), (q3, .inl (κ.2.1, 8, .inl Z0)), (q4, .inl (κ.2.1, 8, .inl Z0)), (q5, .inl (κ.2.1, 8, .inl Z0)), (q6, .inl (κ.2.1, 8, .inl Z0)), (q7, .inl (κ.2.1, 8, .inl Z0)), (q8, .inl (κ.2.1, 8, .inl Z0)), (q9, .inl (κ.2.1, 4, .inl Z0)), (q10, .inl (κ.2.1, 4, .inl Z0)), (q11, .inl (κ.2.1, 201, .inl Z0))] H := hP
  have hD : va_D A [(h0, .inr (6, [.ref q0, .ref q1, .ref q2, .ref q3, .ref q4, .ref q5, .ref q6, .ref q7, .ref q8, .ref q9, .ref q10, .ref q11, .int 0, .int 0, .int 0, .int 0, .int 0, .int 0])), (q0, .inl (κ.2.1, 8, .inl Z0)), (q1, .inl (κ.2.1, 8, .inl Z0)), (q2, .inl (κ.2.1, 8, .inl Z0)), (q3, .inl (κ.2.1, 8, .inl Z0)), (q4, .inl (κ.2.1, 8, .inl Z0)), (q5, .inl (κ.2.1, 8, .inl Z0)), (q6, .inl (κ.2.1, 8, .inl Z0)), (q7, .inl (κ.2.1, 8, .inl Z0)), (q8, .inl (κ.2.1, 8, .inl Z0)), (q9, .inl (κ.2.1, 4, .inl Z0)), (q10, .inl (κ.2.1, 4, .inl Z0)), (q11, .inl (κ.2.1, 201, .inl Z0))] := hD
  refine lv_aload_n hx hb dX6_init_104 rfl (lv_at hl 0 rfl) ?_
  refine lv_bipush (v := 30) hx hb dX6_init_105 nb_30 ?_
  refine y_put hx hb hts hown hE hP hD hS fp_X6_52 0 rfl rfl rfl (Nat.le_of_ble_eq_true rfl) dX6_init_107 (fun H locs hP hD hS => ?_)
  have hP : va_P κ.1 vwCl [(h0, .inr (6, [.ref q0, .ref q1, .ref q2, .ref q3, .ref q4, .ref q5, .ref q6, .ref q7, .ref q8, .ref q9, .ref q10, .ref q11, .int 0, .int 30, .int 0, .int 0, .int 0, .int 0])), (q0, .inl (κ.2.1, 8, .inl Z0)), (q1, .inl (κ.2.1, 8, .inl Z0)), (q2, .inl (κ.2.1, 8, .inl Z0)), (q3, .inl (κ.2.1, 8, .inl Z0)), (q4, .inl (κ.2.1, 8, .inl Z0)), (q5, .inl (κ.2.1, 8, .inl Z0)), (q6, .inl (κ.2.1, 8, .inl Z0)), (q7, .inl (κ.2.1, 8, .inl Z0)), (q8, .inl (κ.2.1, 8, .inl Z0)), (q9, .inl (κ.2.1, 4, .inl Z0)), (q10, .inl (κ.2.1, 4, .inl Z0)), (q11, .inl (κ.2.1, 201, .inl Z0))] H := hP
  have hD : va_D A [(h0, .inr (6, [.ref q0, .ref q1, .ref q2, .ref q3, .ref q4, .ref q5, .ref q6, .ref q7, .ref q8, .ref q9, .ref q10, .ref q11, .int 0, .int 30, .int 0, .int 0, .int 0, .int 0])), (q0, .inl (κ.2.1, 8, .inl Z0)), (q1, .inl (κ.2.1, 8, .inl Z0)), (q2, .inl (κ.2.1, 8, .inl Z0)), (q3, .inl (κ.2.1, 8, .inl Z0)), (q4, .inl (κ.2.1, 8, .inl Z0)), (q5, .inl (κ.2.1, 8, .inl Z0)), (q6, .inl (κ.2.1, 8, .inl Z0)), (q7, .inl (κ.2.1, 8, .inl Z0)), (q8, .inl (κ.2.1, 8, .inl Z0)), (q9, .inl (κ.2.1, 4, .inl Z0)), (q10, .inl (κ.2.1, 4, .inl Z0)), (q11, .inl (κ.2.1, 201, .inl Z0))] := hD
  refine lv_aload_n hx hb dX6_init_110 rfl (lv_at hl 0 rfl) ?_
  refine lv_iconst (v := 0) hx hb dX6_init_111 nc_0 ?_
  refine y_put hx hb hts hown hE hP hD hS fp_X6_55 0 rfl rfl rfl (Nat.le_of_ble_eq_true rfl) dX6_init_112 (fun H locs hP hD hS => ?_)
  have hP : va_P κ.1 vwCl [(h0, .inr (6, [.ref q0, .ref q1, .ref q2, .ref q3, .ref q4, .ref q5, .ref q6, .ref q7, .ref q8, .ref q9, .ref q10, .ref q11, .int 0, .int 30, .int 0, .int 0, .int 0, .int 0])), (q0, .inl (κ.2.1, 8, .inl Z0)), (q1, .inl (κ.2.1, 8, .inl Z0)), (q2, .inl (κ.2.1, 8, .inl Z0)), (q3, .inl (κ.2.1, 8, .inl Z0)), (q4, .inl (κ.2.1, 8, .inl Z0)), (q5, .inl (κ.2.1, 8, .inl Z0)), (q6, .inl (κ.2.1, 8, .inl Z0)), (q7, .inl (κ.2.1, 8, .inl Z0)), (q8, .inl (κ.2.1, 8, .inl Z0)), (q9, .inl (κ.2.1, 4, .inl Z0)), (q10, .inl (κ.2.1, 4, .inl Z0)), (q11, .inl (κ.2.1, 201, .inl Z0))] H := hP
  have hD : va_D A [(h0, .inr (6, [.ref q0, .ref q1, .ref q2, .ref q3, .ref q4, .ref q5, .ref q6, .ref q7, .ref q8, .ref q9, .ref q10, .ref q11, .int 0, .int 30, .int 0, .int 0, .int 0, .int 0])), (q0, .inl (κ.2.1, 8, .inl Z0)), (q1, .inl (κ.2.1, 8, .inl Z0)), (q2, .inl (κ.2.1, 8, .inl Z0)), (q3, .inl (κ.2.1, 8, .inl Z0)), (q4, .inl (κ.2.1, 8, .inl Z0)), (q5, .inl (κ.2.1, 8, .inl Z0)), (q6, .inl (κ.2.1, 8, .inl Z0)), (q7, .inl (κ.2.1, 8, .inl Z0)), (q8, .inl (κ.2.1, 8, .inl Z0)), (q9, .inl (κ.2.1, 4, .inl Z0)), (q10, .inl (κ.2.1, 4, .inl Z0)), (q11, .inl (κ.2.1, 201, .inl Z0))] := hD
  refine lv_aload_n hx hb dX6_init_115 rfl (lv_at hl 0 rfl) ?_
  refine lv_iconst (v := 0) hx hb dX6_init_116 nc_0 ?_
  refine y_put hx hb hts hown hE hP hD hS fp_X6_58 0 rfl rfl rfl (Nat.le_of_ble_eq_true rfl) dX6_init_117 (fun H locs hP hD hS => ?_)
  have hP : va_P κ.1 vwCl [(h0, .inr (6, [.ref q0, .ref q1, .ref q2, .ref q3, .ref q4, .ref q5, .ref q6, .ref q7, .ref q8, .ref q9, .ref q10, .ref q11, .int 0, .int 30, .int 0, .int 0, .int 0, .int 0])), (q0, .inl (κ.2.1, 8, .inl Z0)), (q1, .inl (κ.2.1, 8, .inl Z0)), (q2, .inl (κ.2.1, 8, .inl Z0)), (q3, .inl (κ.2.1, 8, .inl Z0)), (q4, .inl (κ.2.1, 8, .inl Z0)), (q5, .inl (κ.2.1, 8, .inl Z0)), (q6, .inl (κ.2.1, 8, .inl Z0)), (q7, .inl (κ.2.1, 8, .inl Z0)), (q8, .inl (κ.2.1, 8, .inl Z0)), (q9, .inl (κ.2.1, 4, .inl Z0)), (q10, .inl (κ.2.1, 4, .inl Z0)), (q11, .inl (κ.2.1, 201, .inl Z0))] H := hP
  have hD : va_D A [(h0, .inr (6, [.ref q0, .ref q1, .ref q2, .ref q3, .ref q4, .ref q5, .ref q6, .ref q7, .ref q8, .ref q9, .ref q10, .ref q11, .int 0, .int 30, .int 0, .int 0, .int 0, .int 0])), (q0, .inl (κ.2.1, 8, .inl Z0)), (q1, .inl (κ.2.1, 8, .inl Z0)), (q2, .inl (κ.2.1, 8, .inl Z0)), (q3, .inl (κ.2.1, 8, .inl Z0)), (q4, .inl (κ.2.1, 8, .inl Z0)), (q5, .inl (κ.2.1, 8, .inl Z0)), (q6, .inl (κ.2.1, 8, .inl Z0)), (q7, .inl (κ.2.1, 8, .inl Z0)), (q8, .inl (κ.2.1, 8, .inl Z0)), (q9, .inl (κ.2.1, 4, .inl Z0)), (q10, .inl (κ.2.1, 4, .inl Z0)), (q11, .inl (κ.2.1, 201, .inl Z0))] := hD
  refine lv_aload_n hx hb dX6_init_120 rfl (lv_at hl 0 rfl) ?_
  refine lv_iconst (v := 0) hx hb dX6_init_121 nc_0 ?_
  refine y_put hx hb hts hown hE hP hD hS fp_X6_61 0 rfl rfl rfl (Nat.le_of_ble_eq_true rfl) dX6_init_122 (fun H locs hP hD hS => ?_)
  have hP : va_P κ.1 vwCl [(h0, .inr (6, [.ref q0, .ref q1, .ref q2, .ref q3, .ref q4, .ref q5, .ref q6, .ref q7, .ref q8, .ref q9, .ref q10, .ref q11, .int 0, .int 30, .int 0, .int 0, .int 0, .int 0])), (q0, .inl (κ.2.1, 8, .inl Z0)), (q1, .inl (κ.2.1, 8, .inl Z0)), (q2, .inl (κ.2.1, 8, .inl Z0)), (q3, .inl (κ.2.1, 8, .inl Z0)), (q4, .inl (κ.2.1, 8, .inl Z0)), (q5, .inl (κ.2.1, 8, .inl Z0)), (q6, .inl (κ.2.1, 8, .inl Z0)), (q7, .inl (κ.2.1, 8, .inl Z0)), (q8, .inl (κ.2.1, 8, .inl Z0)), (q9, .inl (κ.2.1, 4, .inl Z0)), (q10, .inl (κ.2.1, 4, .inl Z0)), (q11, .inl (κ.2.1, 201, .inl Z0))] H := hP
  have hD : va_D A [(h0, .inr (6, [.ref q0, .ref q1, .ref q2, .ref q3, .ref q4, .ref q5, .ref q6, .ref q7, .ref q8, .ref q9, .ref q10, .ref q11, .int 0, .int 30, .int 0, .int 0, .int 0, .int 0])), (q0, .inl (κ.2.1, 8, .inl Z0)), (q1, .inl (κ.2.1, 8, .inl Z0)), (q2, .inl (κ.2.1, 8, .inl Z0)), (q3, .inl (κ.2.1, 8, .inl Z0)), (q4, .inl (κ.2.1, 8, .inl Z0)), (q5, .inl (κ.2.1, 8, .inl Z0)), (q6, .inl (κ.2.1, 8, .inl Z0)), (q7, .inl (κ.2.1, 8, .inl Z0)), (q8, .inl (κ.2.1, 8, .inl Z0)), (q9, .inl (κ.2.1, 4, .inl Z0)), (q10, .inl (κ.2.1, 4, .inl Z0)), (q11, .inl (κ.2.1, 201, .inl Z0))] := hD
  refine lv_aload_n hx hb dX6_init_125 rfl (lv_at hl 0 rfl) ?_
  refine lv_iconst (v := 0) hx hb dX6_init_126 nc_0 ?_
  refine y_put hx hb hts hown hE hP hD hS fp_X6_64 0 rfl rfl rfl (Nat.le_of_ble_eq_true rfl) dX6_init_127 (fun H locs hP hD hS => ?_)
  have hP : va_P κ.1 vwCl [(h0, .inr (6, [.ref q0, .ref q1, .ref q2, .ref q3, .ref q4, .ref q5, .ref q6, .ref q7, .ref q8, .ref q9, .ref q10, .ref q11, .int 0, .int 30, .int 0, .int 0, .int 0, .int 0])), (q0, .inl (κ.2.1, 8, .inl Z0)), (q1, .inl (κ.2.1, 8, .inl Z0)), (q2, .inl (κ.2.1, 8, .inl Z0)), (q3, .inl (κ.2.1, 8, .inl Z0)), (q4, .inl (κ.2.1, 8, .inl Z0)), (q5, .inl (κ.2.1, 8, .inl Z0)), (q6, .inl (κ.2.1, 8, .inl Z0)), (q7, .inl (κ.2.1, 8, .inl Z0)), (q8, .inl (κ.2.1, 8, .inl Z0)), (q9, .inl (κ.2.1, 4, .inl Z0)), (q10, .inl (κ.2.1, 4, .inl Z0)), (q11, .inl (κ.2.1, 201, .inl Z0))] H := hP
  have hD : va_D A [(h0, .inr (6, [.ref q0, .ref q1, .ref q2, .ref q3, .ref q4, .ref q5, .ref q6, .ref q7, .ref q8, .ref q9, .ref q10, .ref q11, .int 0, .int 30, .int 0, .int 0, .int 0, .int 0])), (q0, .inl (κ.2.1, 8, .inl Z0)), (q1, .inl (κ.2.1, 8, .inl Z0)), (q2, .inl (κ.2.1, 8, .inl Z0)), (q3, .inl (κ.2.1, 8, .inl Z0)), (q4, .inl (κ.2.1, 8, .inl Z0)), (q5, .inl (κ.2.1, 8, .inl Z0)), (q6, .inl (κ.2.1, 8, .inl Z0)), (q7, .inl (κ.2.1, 8, .inl Z0)), (q8, .inl (κ.2.1, 8, .inl Z0)), (q9, .inl (κ.2.1, 4, .inl Z0)), (q10, .inl (κ.2.1, 4, .inl Z0)), (q11, .inl (κ.2.1, 201, .inl Z0))] := hD
  exact hret _ _ _ _ (fun k => match k with | 0 => q0 | 1 => q1 | 2 => q2 | 3 => q3 | 4 => q4 | 5 => q5 | 6 => q6 | 7 => q7 | 8 => q8 | 9 => q9 | 10 => q10 | _ => q11) dX6_init_130 trivial hP hD hS
abbrev wX4c (κ : Kp) (rv : List Value) (rf : Nat) (rw : Int32) (r0 : Nat) (h0 : Nat) (u : Nat → Nat) : va_W := [(h0, .inr (4, [.ref (u 0), .ref (u 1), .ref (u 2), .ref (u 3), .ref (u 4), .ref (u 5), .ref r0, .ref rf, .int rw, .int 0, .int 0, .int 0, .int 0, .int 0, .int 0])), (r0, .inr (6, rv)), ((u 0), .inl (κ.2.1, 8, .inl Z0)), ((u 1), .inl (κ.2.1, 8, .inl Z0)), ((u 2), .inl (κ.2.1, 8, .inl Z0)), ((u 3), .inl (κ.2.1, 8, .inl Z0)), ((u 4), .inl (κ.2.1, 8, .inl Z0)), ((u 5), .inl (κ.2.1, 201, .inl Z0))]
set_option maxHeartbeats 4000000 in
set_option maxRecDepth 100000 in
theorem kX4_init (l : Launch) (κ : Kp) {rv : List Value} {rf : Nat} {rw : Int32} (h11 : rv[11]? = some (.ref rf)) (h13 : rv[13]? = some (.int rw)) (r0 : Nat) (h0 sz : Nat) : Met l yX4_init (Cond.code yX4_init cX4_init 2 none :: TB) (rmC 1 6 241 12) (PcC κ [(h0, .inr (4, [.null, .null, .null, .null, .null, .null, .null, .null, .int 0, .int 0, .int 0, .int 0, .int 0, .int 0, .int 0])), (r0, .inr (6, rv))] sz [.ref h0, .ref r0] (fun _ => True)) (QvC κ [(h0, .inr (4, [.null, .null, .null, .null, .null, .null, .null, .null, .int 0, .int 0, .int 0, .int 0, .int 0, .int 0, .int 0])), (r0, .inr (6, rv))] sz (fun _ : Nat → Nat => True) (wX4c κ rv rf rw r0 h0)) 6 241 (va_A [(h0, .inr (4, [.null, .null, .null, .null, .null, .null, .null, .null, .int 0, .int 0, .int 0, .int 0, .int 0, .int 0, .int 0])), (r0, .inr (6, rv))] sz) := by
  refine mkC (by decide +kernel) (Nat.le_of_ble_eq_true rfl) (fun p e s m args below meth c Q ls A hC hin hsz hAe hP hD hA hX hret hl => ?_)
  obtain ⟨hx, hb, hml, hown, hts, hE⟩ := hC
  have hS : va_S A s.heap s.heap [] := va_S.rf
  have hl : lv_has ls 2 [(0, .ref h0), (1, .ref r0)] := hl
  refine lv_aload_n hx hb dX4_init_0 rfl (lv_at hl 0 rfl) ?_
  refine y_oinit hx hb (hml.trans hl.1.symm) hts hown oi_X4 w_oi (Nat.le_of_ble_eq_true rfl) (Nat.le_of_ble_eq_true rfl) dX4_init_1 ?_
  refine lv_aload_n hx hb dX4_init_4 rfl (lv_at hl 0 rfl) ?_
  refine lv_bipush (v := 8) hx hb dX4_init_5 nb_8 ?_
  refine y_newi hx hb hts hE hP hD hS hA 8 (by decide) (by decide) (by decide) (Nat.le_of_ble_eq_true rfl) (Nat.le_of_ble_eq_true rfl) dX4_init_7 (fun q0 H hP hD hS => ?_)
  have hP : va_P κ.1 vwCl [(h0, .inr (4, [.null, .null, .null, .null, .null, .null, .null, .null, .int 0, .int 0, .int 0, .int 0, .int 0, .int 0, .int 0])), (r0, .inr (6, rv)), (q0, .inl (κ.2.1, 8, .inl Z0))] H := hP
  have hD : va_D A [(h0, .inr (4, [.null, .null, .null, .null, .null, .null, .null, .null, .int 0, .int 0, .int 0, .int 0, .int 0, .int 0, .int 0])), (r0, .inr (6, rv)), (q0, .inl (κ.2.1, 8, .inl Z0))] := hD
  refine y_putF hx hb hts hown hin hE hP hD hS fn_X4_9 0 rfl rfl rfl (Nat.le_of_ble_eq_true rfl) dX4_init_9 (fun H locs hP hD hS => ?_)
  have hP : va_P κ.1 vwCl [(h0, .inr (4, [.ref q0, .null, .null, .null, .null, .null, .null, .null, .int 0, .int 0, .int 0, .int 0, .int 0, .int 0, .int 0])), (r0, .inr (6, rv)), (q0, .inl (κ.2.1, 8, .inl Z0))] H := hP
  have hD : va_D A [(h0, .inr (4, [.ref q0, .null, .null, .null, .null, .null, .null, .null, .int 0, .int 0, .int 0, .int 0, .int 0, .int 0, .int 0])), (r0, .inr (6, rv)), (q0, .inl (κ.2.1, 8, .inl Z0))] := hD
  refine lv_aload_n hx hb dX4_init_12 rfl (lv_at hl 0 rfl) ?_
  refine lv_bipush (v := 8) hx hb dX4_init_13 nb_8 ?_
  refine y_newi hx hb hts hE hP hD hS hA 8 (by decide) (by decide) (by decide) (Nat.le_of_ble_eq_true rfl) (Nat.le_of_ble_eq_true rfl) dX4_init_15 (fun q1 H hP hD hS => ?_)
  have hP : va_P κ.1 vwCl [(h0, .inr (4, [.ref q0, .null, .null, .null, .null, .null, .null, .null, .int 0, .int 0, .int 0, .int 0, .int 0, .int 0, .int 0])), (r0, .inr (6, rv)), (q0, .inl (κ.2.1, 8, .inl Z0)), (q1, .inl (κ.2.1, 8, .inl Z0))] H := hP
  have hD : va_D A [(h0, .inr (4, [.ref q0, .null, .null, .null, .null, .null, .null, .null, .int 0, .int 0, .int 0, .int 0, .int 0, .int 0, .int 0])), (r0, .inr (6, rv)), (q0, .inl (κ.2.1, 8, .inl Z0)), (q1, .inl (κ.2.1, 8, .inl Z0))] := hD
  refine y_putF hx hb hts hown hin hE hP hD hS fn_X4_15 0 rfl rfl rfl (Nat.le_of_ble_eq_true rfl) dX4_init_17 (fun H locs hP hD hS => ?_)
  have hP : va_P κ.1 vwCl [(h0, .inr (4, [.ref q0, .ref q1, .null, .null, .null, .null, .null, .null, .int 0, .int 0, .int 0, .int 0, .int 0, .int 0, .int 0])), (r0, .inr (6, rv)), (q0, .inl (κ.2.1, 8, .inl Z0)), (q1, .inl (κ.2.1, 8, .inl Z0))] H := hP
  have hD : va_D A [(h0, .inr (4, [.ref q0, .ref q1, .null, .null, .null, .null, .null, .null, .int 0, .int 0, .int 0, .int 0, .int 0, .int 0, .int 0])), (r0, .inr (6, rv)), (q0, .inl (κ.2.1, 8, .inl Z0)), (q1, .inl (κ.2.1, 8, .inl Z0))] := hD
  refine lv_aload_n hx hb dX4_init_20 rfl (lv_at hl 0 rfl) ?_
  refine lv_bipush (v := 8) hx hb dX4_init_21 nb_8 ?_
  refine y_newi hx hb hts hE hP hD hS hA 8 (by decide) (by decide) (by decide) (Nat.le_of_ble_eq_true rfl) (Nat.le_of_ble_eq_true rfl) dX4_init_23 (fun q2 H hP hD hS => ?_)
  have hP : va_P κ.1 vwCl [(h0, .inr (4, [.ref q0, .ref q1, .null, .null, .null, .null, .null, .null, .int 0, .int 0, .int 0, .int 0, .int 0, .int 0, .int 0])), (r0, .inr (6, rv)), (q0, .inl (κ.2.1, 8, .inl Z0)), (q1, .inl (κ.2.1, 8, .inl Z0)), (q2, .inl (κ.2.1, 8, .inl Z0))] H := hP
  have hD : va_D A [(h0, .inr (4, [.ref q0, .ref q1, .null, .null, .null, .null, .null, .null, .int 0, .int 0, .int 0, .int 0, .int 0, .int 0, .int 0])), (r0, .inr (6, rv)), (q0, .inl (κ.2.1, 8, .inl Z0)), (q1, .inl (κ.2.1, 8, .inl Z0)), (q2, .inl (κ.2.1, 8, .inl Z0))] := hD
  refine y_putF hx hb hts hown hin hE hP hD hS fn_X4_18 0 rfl rfl rfl (Nat.le_of_ble_eq_true rfl) dX4_init_25 (fun H locs hP hD hS => ?_)
  have hP : va_P κ.1 vwCl [(h0, .inr (4, [.ref q0, .ref q1, .ref q2, .null, .null, .null, .null, .null, .int 0, .int 0, .int 0, .int 0, .int 0, .int 0, .int 0])), (r0, .inr (6, rv)), (q0, .inl (κ.2.1, 8, .inl Z0)), (q1, .inl (κ.2.1, 8, .inl Z0)), (q2, .inl (κ.2.1, 8, .inl Z0))] H := hP
  have hD : va_D A [(h0, .inr (4, [.ref q0, .ref q1, .ref q2, .null, .null, .null, .null, .null, .int 0, .int 0, .int 0, .int 0, .int 0, .int 0, .int 0])), (r0, .inr (6, rv)), (q0, .inl (κ.2.1, 8, .inl Z0)), (q1, .inl (κ.2.1, 8, .inl Z0)), (q2, .inl (κ.2.1, 8, .inl Z0))] := hD
  refine lv_aload_n hx hb dX4_init_28 rfl (lv_at hl 0 rfl) ?_
  refine lv_bipush (v := 8) hx hb dX4_init_29 nb_8 ?_
  refine y_newi hx hb hts hE hP hD hS hA 8 (by decide) (by decide) (by decide) (Nat.le_of_ble_eq_true rfl) (Nat.le_of_ble_eq_true rfl) dX4_init_31 (fun q3 H hP hD hS => ?_)
  have hP : va_P κ.1 vwCl [(h0, .inr (4, [.ref q0, .ref q1, .ref q2, .null, .null, .null, .null, .null, .int 0, .int 0, .int 0, .int 0, .int 0, .int 0, .int 0])), (r0, .inr (6, rv)), (q0, .inl (κ.2.1, 8, .inl Z0)), (q1, .inl (κ.2.1, 8, .inl Z0)), (q2, .inl (κ.2.1, 8, .inl Z0)), (q3, .inl (κ.2.1, 8, .inl Z0))] H := hP
  have hD : va_D A [(h0, .inr (4, [.ref q0, .ref q1, .ref q2, .null, .null, .null, .null, .null, .int 0, .int 0, .int 0, .int 0, .int 0, .int 0, .int 0])), (r0, .inr (6, rv)), (q0, .inl (κ.2.1, 8, .inl Z0)), (q1, .inl (κ.2.1, 8, .inl Z0)), (q2, .inl (κ.2.1, 8, .inl Z0)), (q3, .inl (κ.2.1, 8, .inl Z0))] := hD
  refine y_putF hx hb hts hown hin hE hP hD hS fn_X4_21 0 rfl rfl rfl (Nat.le_of_ble_eq_true rfl) dX4_init_33 (fun H locs hP hD hS => ?_)
  have hP : va_P κ.1 vwCl [(h0, .inr (4, [.ref q0, .ref q1, .ref q2, .ref q3, .null, .null, .null, .null, .int 0, .int 0, .int 0, .int 0, .int 0, .int 0, .int 0])), (r0, .inr (6, rv)), (q0, .inl (κ.2.1, 8, .inl Z0)), (q1, .inl (κ.2.1, 8, .inl Z0)), (q2, .inl (κ.2.1, 8, .inl Z0)), (q3, .inl (κ.2.1, 8, .inl Z0))] H := hP
  have hD : va_D A [(h0, .inr (4, [.ref q0, .ref q1, .ref q2, .ref q3, .null, .null, .null, .null, .int 0, .int 0, .int 0, .int 0, .int 0, .int 0, .int 0])), (r0, .inr (6, rv)), (q0, .inl (κ.2.1, 8, .inl Z0)), (q1, .inl (κ.2.1, 8, .inl Z0)), (q2, .inl (κ.2.1, 8, .inl Z0)), (q3, .inl (κ.2.1, 8, .inl Z0))] := hD
  refine lv_aload_n hx hb dX4_init_36 rfl (lv_at hl 0 rfl) ?_
  refine lv_bipush (v := 8) hx hb dX4_init_37 nb_8 ?_
  refine y_newi hx hb hts hE hP hD hS hA 8 (by decide) (by decide) (by decide) (Nat.le_of_ble_eq_true rfl) (Nat.le_of_ble_eq_true rfl) dX4_init_39 (fun q4 H hP hD hS => ?_)
  have hP : va_P κ.1 vwCl [(h0, .inr (4, [.ref q0, .ref q1, .ref q2, .ref q3, .null, .null, .null, .null, .int 0, .int 0, .int 0, .int 0, .int 0, .int 0, .int 0])), (r0, .inr (6, rv)), (q0, .inl (κ.2.1, 8, .inl Z0)), (q1, .inl (κ.2.1, 8, .inl Z0)), (q2, .inl (κ.2.1, 8, .inl Z0)), (q3, .inl (κ.2.1, 8, .inl Z0)), (q4, .inl (κ.2.1, 8, .inl Z0))] H := hP
  have hD : va_D A [(h0, .inr (4, [.ref q0, .ref q1, .ref q2, .ref q3, .null, .null, .null, .null, .int 0, .int 0, .int 0, .int 0, .int 0, .int 0, .int 0])), (r0, .inr (6, rv)), (q0, .inl (κ.2.1, 8, .inl Z0)), (q1, .inl (κ.2.1, 8, .inl Z0)), (q2, .inl (κ.2.1, 8, .inl Z0)), (q3, .inl (κ.2.1, 8, .inl Z0)), (q4, .inl (κ.2.1, 8, .inl Z0))] := hD
  refine y_putF hx hb hts hown hin hE hP hD hS fn_X4_24 0 rfl rfl rfl (Nat.le_of_ble_eq_true rfl) dX4_init_41 (fun H locs hP hD hS => ?_)
  have hP : va_P κ.1 vwCl [(h0, .inr (4, [.ref q0, .ref q1, .ref q2, .ref q3, .ref q4, .null, .null, .null, .int 0, .int 0, .int 0, .int 0, .int 0, .int 0, .int 0])), (r0, .inr (6, rv)), (q0, .inl (κ.2.1, 8, .inl Z0)), (q1, .inl (κ.2.1, 8, .inl Z0)), (q2, .inl (κ.2.1, 8, .inl Z0)), (q3, .inl (κ.2.1, 8, .inl Z0)), (q4, .inl (κ.2.1, 8, .inl Z0))] H := hP
  have hD : va_D A [(h0, .inr (4, [.ref q0, .ref q1, .ref q2, .ref q3, .ref q4, .null, .null, .null, .int 0, .int 0, .int 0, .int 0, .int 0, .int 0, .int 0])), (r0, .inr (6, rv)), (q0, .inl (κ.2.1, 8, .inl Z0)), (q1, .inl (κ.2.1, 8, .inl Z0)), (q2, .inl (κ.2.1, 8, .inl Z0)), (q3, .inl (κ.2.1, 8, .inl Z0)), (q4, .inl (κ.2.1, 8, .inl Z0))] := hD
  refine lv_aload_n hx hb dX4_init_44 rfl (lv_at hl 0 rfl) ?_
  refine lv_sipush (v := 201) hx hb dX4_init_45 ns_201 ?_
  refine y_newi hx hb hts hE hP hD hS hA 201 (by decide) (by decide) (by decide) (Nat.le_of_ble_eq_true rfl) (Nat.le_of_ble_eq_true rfl) dX4_init_48 (fun q5 H hP hD hS => ?_)
  have hP : va_P κ.1 vwCl [(h0, .inr (4, [.ref q0, .ref q1, .ref q2, .ref q3, .ref q4, .null, .null, .null, .int 0, .int 0, .int 0, .int 0, .int 0, .int 0, .int 0])), (r0, .inr (6, rv)), (q0, .inl (κ.2.1, 8, .inl Z0)), (q1, .inl (κ.2.1, 8, .inl Z0)), (q2, .inl (κ.2.1, 8, .inl Z0)), (q3, .inl (κ.2.1, 8, .inl Z0)), (q4, .inl (κ.2.1, 8, .inl Z0)), (q5, .inl (κ.2.1, 201, .inl Z0))] H := hP
  have hD : va_D A [(h0, .inr (4, [.ref q0, .ref q1, .ref q2, .ref q3, .ref q4, .null, .null, .null, .int 0, .int 0, .int 0, .int 0, .int 0, .int 0, .int 0])), (r0, .inr (6, rv)), (q0, .inl (κ.2.1, 8, .inl Z0)), (q1, .inl (κ.2.1, 8, .inl Z0)), (q2, .inl (κ.2.1, 8, .inl Z0)), (q3, .inl (κ.2.1, 8, .inl Z0)), (q4, .inl (κ.2.1, 8, .inl Z0)), (q5, .inl (κ.2.1, 201, .inl Z0))] := hD
  refine y_putF hx hb hts hown hin hE hP hD hS fn_X4_27 0 rfl rfl rfl (Nat.le_of_ble_eq_true rfl) dX4_init_50 (fun H locs hP hD hS => ?_)
  have hP : va_P κ.1 vwCl [(h0, .inr (4, [.ref q0, .ref q1, .ref q2, .ref q3, .ref q4, .ref q5, .null, .null, .int 0, .int 0, .int 0, .int 0, .int 0, .int 0, .int 0])), (r0, .inr (6, rv)), (q0, .inl (κ.2.1, 8, .inl Z0)), (q1, .inl (κ.2.1, 8, .inl Z0)), (q2, .inl (κ.2.1, 8, .inl Z0)), (q3, .inl (κ.2.1, 8, .inl Z0)), (q4, .inl (κ.2.1, 8, .inl Z0)), (q5, .inl (κ.2.1, 201, .inl Z0))] H := hP
  have hD : va_D A [(h0, .inr (4, [.ref q0, .ref q1, .ref q2, .ref q3, .ref q4, .ref q5, .null, .null, .int 0, .int 0, .int 0, .int 0, .int 0, .int 0, .int 0])), (r0, .inr (6, rv)), (q0, .inl (κ.2.1, 8, .inl Z0)), (q1, .inl (κ.2.1, 8, .inl Z0)), (q2, .inl (κ.2.1, 8, .inl Z0)), (q3, .inl (κ.2.1, 8, .inl Z0)), (q4, .inl (κ.2.1, 8, .inl Z0)), (q5, .inl (κ.2.1, 201, .inl Z0))] := hD
  refine lv_aload_n hx hb dX4_init_53 rfl (lv_at hl 0 rfl) ?_
  refine lv_aload_n hx hb dX4_init_54 rfl (lv_at hl 1 rfl) ?_
  refine y_put hx hb hts hown hE hP hD hS fp_X4_30 0 rfl rfl rfl (Nat.le_of_ble_eq_true rfl) dX4_init_55 (fun H locs hP hD hS => ?_)
  have hP : va_P κ.1 vwCl [(h0, .inr (4, [.ref q0, .ref q1, .ref q2, .ref q3, .ref q4, .ref q5, .ref r0, .null, .int 0, .int 0, .int 0, .int 0, .int 0, .int 0, .int 0])), (r0, .inr (6, rv)), (q0, .inl (κ.2.1, 8, .inl Z0)), (q1, .inl (κ.2.1, 8, .inl Z0)), (q2, .inl (κ.2.1, 8, .inl Z0)), (q3, .inl (κ.2.1, 8, .inl Z0)), (q4, .inl (κ.2.1, 8, .inl Z0)), (q5, .inl (κ.2.1, 201, .inl Z0))] H := hP
  have hD : va_D A [(h0, .inr (4, [.ref q0, .ref q1, .ref q2, .ref q3, .ref q4, .ref q5, .ref r0, .null, .int 0, .int 0, .int 0, .int 0, .int 0, .int 0, .int 0])), (r0, .inr (6, rv)), (q0, .inl (κ.2.1, 8, .inl Z0)), (q1, .inl (κ.2.1, 8, .inl Z0)), (q2, .inl (κ.2.1, 8, .inl Z0)), (q3, .inl (κ.2.1, 8, .inl Z0)), (q4, .inl (κ.2.1, 8, .inl Z0)), (q5, .inl (κ.2.1, 201, .inl Z0))] := hD
  refine lv_aload_n hx hb dX4_init_58 rfl (lv_at hl 0 rfl) ?_
  refine lv_aload_n hx hb dX4_init_59 rfl (lv_at hl 1 rfl) ?_
  refine y_get hx hb hts hown hE hP fl_X4_34 1 rfl h11 dX4_init_60 ?_
  refine y_put hx hb hts hown hE hP hD hS fp_X4_39 0 rfl rfl rfl (Nat.le_of_ble_eq_true rfl) dX4_init_63 (fun H locs hP hD hS => ?_)
  have hP : va_P κ.1 vwCl [(h0, .inr (4, [.ref q0, .ref q1, .ref q2, .ref q3, .ref q4, .ref q5, .ref r0, .ref rf, .int 0, .int 0, .int 0, .int 0, .int 0, .int 0, .int 0])), (r0, .inr (6, rv)), (q0, .inl (κ.2.1, 8, .inl Z0)), (q1, .inl (κ.2.1, 8, .inl Z0)), (q2, .inl (κ.2.1, 8, .inl Z0)), (q3, .inl (κ.2.1, 8, .inl Z0)), (q4, .inl (κ.2.1, 8, .inl Z0)), (q5, .inl (κ.2.1, 201, .inl Z0))] H := hP
  have hD : va_D A [(h0, .inr (4, [.ref q0, .ref q1, .ref q2, .ref q3, .ref q4, .ref q5, .ref r0, .ref rf, .int 0, .int 0, .int 0, .int 0, .int 0, .int 0, .int 0])), (r0, .inr (6, rv)), (q0, .inl (κ.2.1, 8, .inl Z0)), (q1, .inl (κ.2.1, 8, .inl Z0)), (q2, .inl (κ.2.1, 8, .inl Z0)), (q3, .inl (κ.2.1, 8, .inl Z0)), (q4, .inl (κ.2.1, 8, .inl Z0)), (q5, .inl (κ.2.1, 201, .inl Z0))] := hD
  refine lv_aload_n hx hb dX4_init_66 rfl (lv_at hl 0 rfl) ?_
  refine lv_aload_n hx hb dX4_init_67 rfl (lv_at hl 1 rfl) ?_
  refine y_get hx hb hts hown hE hP fl_X4_40 1 rfl h13 dX4_init_68 ?_
  refine y_put hx hb hts hown hE hP hD hS fp_X4_44 0 rfl rfl rfl (Nat.le_of_ble_eq_true rfl) dX4_init_71 (fun H locs hP hD hS => ?_)
  have hP : va_P κ.1 vwCl [(h0, .inr (4, [.ref q0, .ref q1, .ref q2, .ref q3, .ref q4, .ref q5, .ref r0, .ref rf, .int rw, .int 0, .int 0, .int 0, .int 0, .int 0, .int 0])), (r0, .inr (6, rv)), (q0, .inl (κ.2.1, 8, .inl Z0)), (q1, .inl (κ.2.1, 8, .inl Z0)), (q2, .inl (κ.2.1, 8, .inl Z0)), (q3, .inl (κ.2.1, 8, .inl Z0)), (q4, .inl (κ.2.1, 8, .inl Z0)), (q5, .inl (κ.2.1, 201, .inl Z0))] H := hP
  have hD : va_D A [(h0, .inr (4, [.ref q0, .ref q1, .ref q2, .ref q3, .ref q4, .ref q5, .ref r0, .ref rf, .int rw, .int 0, .int 0, .int 0, .int 0, .int 0, .int 0])), (r0, .inr (6, rv)), (q0, .inl (κ.2.1, 8, .inl Z0)), (q1, .inl (κ.2.1, 8, .inl Z0)), (q2, .inl (κ.2.1, 8, .inl Z0)), (q3, .inl (κ.2.1, 8, .inl Z0)), (q4, .inl (κ.2.1, 8, .inl Z0)), (q5, .inl (κ.2.1, 201, .inl Z0))] := hD
  exact hret _ _ _ _ (fun k => match k with | 0 => q0 | 1 => q1 | 2 => q2 | 3 => q3 | 4 => q4 | _ => q5) dX4_init_74 trivial hP hD hS
