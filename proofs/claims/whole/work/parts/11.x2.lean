def fX4_prepare (w : Mm) : Option (Mm) :=
  bd1 (pt w 30 6 17) fun w1 =>
  bd1 (pt w1 30 7 29) fun w2 =>
  bd1 (pt w2 30 8 (w2 17 13)) fun w3 =>
  bd1 (pt w3 30 9 0) fun w4 =>
  bd1 (cy w4 21 8 0 31 8 0 8) fun w5 =>
  bd1 (cy w5 22 8 0 32 8 0 8) fun w6 =>
  some w6
set_option maxHeartbeats 4000000 in
set_option maxRecDepth 100000 in
theorem kX4_prepare {l : Launch} {κ : Kp} {tl : Nat} {N : Nat} {ad : Nat → Nat} {w : Mm} {w' : Mm} (hN : 52 ≤ N) (hD : Apt ad N) (hf : fX4_prepare w = some w') : Met l yX4_prepare (Cond.code yX4_prepare cX4_prepare 2 none :: TB) (rmX 1 60) (PcX κ (wX κ tl) N ad w [.ref (ad 30), .ref (ad 17)]) (QV κ (wX κ tl) N ad w') 0 0 (Aof ad N) := by
  refine mkV (by decide +kernel) (Nat.le_of_ble_eq_true rfl) (fun p e R s m args below meth c Q H locs ls hC hRf hRl hP hS hret hl => ?_)
  obtain ⟨hx, hb, hml, hown, hts, hE⟩ := hC
  have hA : ∀ k, k < N → Aof ad N (ad k) := fun k h => Aof_in h
  have hAA : ∀ z, Aof ad N z → Aof ad N z := fun _ h => h
  have hl : lv_has ls 2 [(0, .ref (ad 30)), (1, .ref (ad 17))] := hl
  unfold fX4_prepare at hf
  refine lv_aload_n hx hb dX4_prepare_0 rfl (lv_at hl 0 rfl) ?_
  refine lv_aload_n hx hb dX4_prepare_1 rfl (lv_at hl 1 rfl) ?_
  obtain ⟨w1, hv, hf⟩ := bs1 hf
  refine x_put (v := .ref (ad 17)) hx hb hts hown hE hD hA hP hS fp_X4_30 (nb30 hN) pX_30_6 rfl rfl hv dX4_prepare_2 (fun H locs hP hS => ?_)
  refine lv_aload_n hx hb dX4_prepare_5 rfl (lv_at hl 0 rfl) ?_
  refine lv_aload_n hx hb dX4_prepare_6 rfl (lv_at hl 1 rfl) ?_
  refine x_get hx hb hts hown hE hP fl_X4_34 (nb17 hN) gX_17_11 dX4_prepare_7 ?_
  obtain ⟨w2, hv, hf⟩ := bs1 hf
  refine x_put (v := .ref (ad 29)) hx hb hts hown hE hD hA hP hS fp_X4_39 (nb30 hN) pX_30_7 rfl rfl hv dX4_prepare_10 (fun H locs hP hS => ?_)
  refine lv_aload_n hx hb dX4_prepare_13 rfl (lv_at hl 0 rfl) ?_
  refine lv_aload_n hx hb dX4_prepare_14 rfl (lv_at hl 1 rfl) ?_
  refine x_get hx hb hts hown hE hP fl_X4_40 (nb17 hN) gX_17_13 dX4_prepare_15 ?_
  obtain ⟨w3, hv, hf⟩ := bs1 hf
  refine x_put hx hb hts hown hE hD hA hP hS fp_X4_44 (nb30 hN) pX_30_8 rfl rfl hv dX4_prepare_18 (fun H locs hP hS => ?_)
  refine lv_aload_n hx hb dX4_prepare_21 rfl (lv_at hl 0 rfl) ?_
  refine lv_iconst (v := 0) hx hb dX4_prepare_22 nc_0 ?_
  obtain ⟨w4, hv, hf⟩ := bs1 hf
  refine x_put hx hb hts hown hE hD hA hP hS fp_X4_45 (nb30 hN) pX_30_9 rfl rfl hv dX4_prepare_23 (fun H locs hP hS => ?_)
  refine lv_aload_n hx hb dX4_prepare_26 rfl (lv_at hl 1 rfl) ?_
  refine x_get hx hb hts hown hE hP fl_X4_48 (nb17 hN) gX_17_3 dX4_prepare_27 ?_
  refine lv_iconst (v := 0) hx hb dX4_prepare_30 nc_0 ?_
  refine lv_aload_n hx hb dX4_prepare_31 rfl (lv_at hl 0 rfl) ?_
  refine x_get hx hb hts hown hE hP fl_X4_9 (nb30 hN) gX_30_0 dX4_prepare_32 ?_
  refine lv_iconst (v := 0) hx hb dX4_prepare_35 nc_0 ?_
  refine lv_bipush (v := 8) hx hb dX4_prepare_36 nb_8 ?_
  obtain ⟨w5, hv, hf⟩ := bs1 hf
  refine x_copy hx hb (hml.trans hl.1.symm) hts hown hE hD hA hP hS lc_X4_49 (nb21 hN) (nb31 hN) aX_21 aX_31 hv (Nat.le_trans (by decide) hRf) (Nat.le_trans (Nat.le_of_ble_eq_true (by decide +kernel)) hRl) dX4_prepare_38 (fun H locs hP hS => ?_)
  refine lv_aload_n hx hb dX4_prepare_41 rfl (lv_at hl 1 rfl) ?_
  refine x_get hx hb hts hown hE hP fl_X4_55 (nb17 hN) gX_17_4 dX4_prepare_42 ?_
  refine lv_iconst (v := 0) hx hb dX4_prepare_45 nc_0 ?_
  refine lv_aload_n hx hb dX4_prepare_46 rfl (lv_at hl 0 rfl) ?_
  refine x_get hx hb hts hown hE hP fl_X4_15 (nb30 hN) gX_30_1 dX4_prepare_47 ?_
  refine lv_iconst (v := 0) hx hb dX4_prepare_50 nc_0 ?_
  refine lv_bipush (v := 8) hx hb dX4_prepare_51 nb_8 ?_
  obtain ⟨w6, hv, hf⟩ := bs1 hf
  refine x_copy hx hb (hml.trans hl.1.symm) hts hown hE hD hA hP hS lc_X4_49 (nb22 hN) (nb32 hN) aX_22 aX_32 hv (Nat.le_trans (by decide) hRf) (Nat.le_trans (Nat.le_of_ble_eq_true (by decide +kernel)) hRl) dX4_prepare_53 (fun H locs hP hS => ?_)
  cases hf
  exact hret _ _ _ _ dX4_prepare_56 hP hS
def LX4_mountRaft_9 (x1 : Int32) : Nat → Int32 → Int32 → Mm → Option (Mm × Int32)
  | 0, _, _, _ => none
  | fu + 1, v2, v3, w4 =>
    bd1 (gq (w4 30 6) 17) fun _ =>
    if (w4 17 12) ≤ v3 then
      some (w4, v2)
    else
      bd1 (gq (w4 30 6) 17) fun _ =>
      bd1 (rd w4 23 8 v3) fun v8 =>
      bd2 (
        if v8 = x1 then
          bd1 (gq (w4 30 6) 17) fun _ =>
          bd1 (rd w4 18 8 v3) fun v12 =>
          bd1 (rd w4 31 8 v3) fun v13 =>
          bd1 (pt w4 30 13 (if (w4 30 13) < v13 then v13 else (w4 30 13))) fun w14 =>
          some (w14, (v2 + v12))
        else
          some (w4, v2)) fun (w9 : Mm) (v10 : Int32) =>
      LX4_mountRaft_9 x1 fu v10 (v3 + 1) w9
def fX4_mountRaft (w : Mm) (x1 : Int32) : Option (Mm) :=
  bd1 (pt w 30 13 0) fun w1 =>
  bd2 (LX4_mountRaft_9 x1 1000 0 0 w1) fun (w6 : Mm) (v7 : Int32) =>
  bd1 (pt w6 30 11 (v7 / 3)) fun w15 =>
  bd1 (pt w15 30 12 4) fun w16 =>
  some w16
set_option maxHeartbeats 4000000 in
set_option maxRecDepth 100000 in
theorem kX4_mountRaft {l : Launch} {κ : Kp} {tl : Nat} {N : Nat} {ad : Nat → Nat} {w : Mm} {x1 : Int32} {w' : Mm} (hN : 52 ≤ N) (hD : Apt ad N) (hf : fX4_mountRaft w x1 = some w') : Met l yX4_mountRaft (Cond.code yX4_mountRaft cX4_mountRaft 4 none :: TB) (rmX 1 14) (PcX κ (wX κ tl) N ad w [.ref (ad 30), .int x1]) (QV κ (wX κ tl) N ad w') 0 0 (Aof ad N) := by
  refine mkV (by decide +kernel) (Nat.le_of_ble_eq_true rfl) (fun p e R s m args below meth c Q H locs ls hC hRf hRl hP hS hret hl => ?_)
  obtain ⟨hx, hb, hml, hown, hts, hE⟩ := hC
  have hA : ∀ k, k < N → Aof ad N (ad k) := fun k h => Aof_in h
  have hAA : ∀ z, Aof ad N z → Aof ad N z := fun _ h => h
  have hl : lv_has ls 4 [(0, .ref (ad 30)), (1, .int x1)] := hl
  unfold fX4_mountRaft at hf
  refine lv_iconst (v := 0) hx hb dX4_mountRaft_0 nc_0 ?_
  refine lv_istore_n (lv' := [(2, .int 0), (0, .ref (ad 30)), (1, .int x1)]) hx hb dX4_mountRaft_1 rfl hl (by decide) rfl (fun ls hl => ?_)
  refine lv_aload_n hx hb dX4_mountRaft_2 rfl (lv_at hl 1 rfl) ?_
  refine lv_iconst (v := 0) hx hb dX4_mountRaft_3 nc_0 ?_
  obtain ⟨w1, hv, hf⟩ := bs1 hf
  refine x_put hx hb hts hown hE hD hA hP hS fp_X4_114 (nb30 hN) pX_30_13 rfl rfl hv dX4_mountRaft_4 (fun H locs hP hS => ?_)
  refine lv_iconst (v := 0) hx hb dX4_mountRaft_7 nc_0 ?_
  refine lv_istore_n (lv' := [(3, .int 0), (2, .int 0), (0, .ref (ad 30)), (1, .int x1)]) hx hb dX4_mountRaft_8 rfl hl (by decide) rfl (fun ls hl => ?_)
  obtain ⟨w6, v7, hq5, hf⟩ := bs2 hf
  have hJ5 : ∀ (H : Heap) (locs : List Loc) (ls : Array Slot), Ho κ (wX κ tl) N ad w6 H → va_S (Aof ad N) s.heap H locs → lv_has ls 4 [(0, .ref (ad 30)), (2, .int v7)] → W p l e R s m args below meth c H locs 0 0 Q (F0 m 68 ls []) := by
    intro H locs ls hP hS hl
    refine lv_aload_n hx hb dX4_mountRaft_68 rfl (lv_at hl 0 rfl) ?_
    refine lv_iload_n hx hb dX4_mountRaft_69 rfl (lv_at hl 1 rfl) ?_
    refine lv_iconst (v := 3) hx hb dX4_mountRaft_70 nc_3 ?_
    refine lv_idiv hx hb dX4_mountRaft_71 (by decide) ?_
    obtain ⟨w15, hv, hf⟩ := bs1 hf
    refine x_put hx hb hts hown hE hD hA hP hS fp_X4_105 (nb30 hN) pX_30_11 rfl rfl hv dX4_mountRaft_72 (fun H locs hP hS => ?_)
    refine lv_aload_n hx hb dX4_mountRaft_75 rfl (lv_at hl 0 rfl) ?_
    refine lv_iconst (v := 4) hx hb dX4_mountRaft_76 nc_4 ?_
    obtain ⟨w16, hv, hf⟩ := bs1 hf
    refine x_put hx hb hts hown hE hD hA hP hS fp_X4_111 (nb30 hN) pX_30_12 rfl rfl hv dX4_mountRaft_77 (fun H locs hP hS => ?_)
    cases hf
    exact hret _ _ _ _ dX4_mountRaft_80 hP hS
  clear hf
  have hf := hq5
  clear hq5
  have hL5 : ∀ (fu : Nat) (v2 : Int32) (v3 : Int32) (w4 : Mm) (H : Heap) (locs : List Loc) (ls : Array Slot), LX4_mountRaft_9 x1 fu v2 v3 w4 = some (w6, v7) → Ho κ (wX κ tl) N ad w4 H → va_S (Aof ad N) s.heap H locs → lv_has ls 4 [(0, .ref (ad 30)), (1, .int x1), (2, .int v2), (3, .int v3)] → W p l e R s m args below meth c H locs 0 0 Q (F0 m 9 ls []) := by
    intro fu
    induction fu with
    | zero =>
      intro v2 v3 w4 H locs ls hf
      rw [LX4_mountRaft_9] at hf
      cases hf
    | succ fu ih =>
      intro v2 v3 w4 H locs ls hf hP hS hl
      rw [LX4_mountRaft_9] at hf
      refine lv_iload_n hx hb dX4_mountRaft_9 rfl (lv_at hl 3 rfl) ?_
      refine lv_aload_n hx hb dX4_mountRaft_10 rfl (lv_at hl 0 rfl) ?_
      obtain ⟨_, hv, hf⟩ := bs1 hf
      refine x_getr hx hb hts hown hE hP fl_X4_30 (nb30 hN) gX_30_6 hv dX4_mountRaft_11 ?_
      refine x_get hx hb hts hown hE hP fl_X4_64 (nb17 hN) gX_17_12 dX4_mountRaft_14 ?_
      refine lv_icmp_ge (tgt := 68) hx hb dX4_mountRaft_17 (by decide) (fun hc => ?_) (fun hc => ?_)
      · have hf := ip hc hf
        cases hf
        exact hJ5 _ _ _ hP hS (lv_sub hl [0, 2] rfl)
      · have hf := iq hc hf
        refine lv_aload_n hx hb dX4_mountRaft_20 rfl (lv_at hl 0 rfl) ?_
        obtain ⟨_, hv, hf⟩ := bs1 hf
        refine x_getr hx hb hts hown hE hP fl_X4_30 (nb30 hN) gX_30_6 hv dX4_mountRaft_21 ?_
        refine x_get hx hb hts hown hE hP fl_X4_83 (nb17 hN) gX_17_5 dX4_mountRaft_24 ?_
        refine lv_iload_n hx hb dX4_mountRaft_27 rfl (lv_at hl 3 rfl) ?_
        obtain ⟨v8, hv, hf⟩ := bs1 hf
        refine x_iald hx hb hE hP (nb23 hN) (aX_23 _) hv dX4_mountRaft_28 ?_
        refine lv_iload_n hx hb dX4_mountRaft_29 rfl (lv_at hl 1 rfl) ?_
        obtain ⟨w9, v10, hq11, hf⟩ := bs2 hf
        have hJ11 : ∀ (H : Heap) (locs : List Loc) (ls : Array Slot), Ho κ (wX κ tl) N ad w9 H → va_S (Aof ad N) s.heap H locs → lv_has ls 4 [(0, .ref (ad 30)), (1, .int x1), (2, .int v10), (3, .int v3)] → W p l e R s m args below meth c H locs 0 0 Q (F0 m 62 ls []) := by
          intro H locs ls hP hS hl
          refine lv_iinc (v := (v3 + 1)) (lv' := [(3, .int (v3 + 1)), (0, .ref (ad 30)), (1, .int x1), (2, .int v10)]) hx hb dX4_mountRaft_62 hl (k := 3) rfl (ni_1 _) (by decide) rfl (fun ls hl => ?_)
          refine lv_goto (tgt := 9) hx hb dX4_mountRaft_65 (by decide) ?_
          exact ih _ _ _ _ _ _ hf hP hS (lv_sub hl [1, 2, 3, 0] rfl)
        clear hf
        have hf := hq11
        clear hq11
        refine lv_icmp_ne (tgt := 62) hx hb dX4_mountRaft_30 (by decide) (fun hc => ?_) (fun hc => ?_)
        · have hf := iq hc hf
          cases hf
          exact hJ11 _ _ _ hP hS (lv_sub hl [0, 1, 2, 3] rfl)
        · have hf := ip hc hf
          refine lv_iload_n hx hb dX4_mountRaft_33 rfl (lv_at hl 2 rfl) ?_
          refine lv_aload_n hx hb dX4_mountRaft_34 rfl (lv_at hl 0 rfl) ?_
          obtain ⟨_, hv, hf⟩ := bs1 hf
          refine x_getr hx hb hts hown hE hP fl_X4_30 (nb30 hN) gX_30_6 hv dX4_mountRaft_35 ?_
          refine x_get hx hb hts hown hE hP fl_X4_102 (nb17 hN) gX_17_0 dX4_mountRaft_38 ?_
          refine lv_iload_n hx hb dX4_mountRaft_41 rfl (lv_at hl 3 rfl) ?_
          obtain ⟨v12, hv, hf⟩ := bs1 hf
          refine x_iald hx hb hE hP (nb18 hN) (aX_18 _) hv dX4_mountRaft_42 ?_
          refine lv_iadd hx hb dX4_mountRaft_43 ?_
          refine lv_istore_n (lv' := [(2, .int (v2 + v12)), (0, .ref (ad 30)), (1, .int x1), (3, .int v3)]) hx hb dX4_mountRaft_44 rfl hl (by decide) rfl (fun ls hl => ?_)
          refine lv_aload_n hx hb dX4_mountRaft_45 rfl (lv_at hl 1 rfl) ?_
          refine lv_aload_n hx hb dX4_mountRaft_46 rfl (lv_at hl 1 rfl) ?_
          refine x_get hx hb hts hown hE hP fl_X4_114 (nb30 hN) gX_30_13 dX4_mountRaft_47 ?_
          refine lv_aload_n hx hb dX4_mountRaft_50 rfl (lv_at hl 1 rfl) ?_
          refine x_get hx hb hts hown hE hP fl_X4_9 (nb30 hN) gX_30_0 dX4_mountRaft_51 ?_
          refine lv_iload_n hx hb dX4_mountRaft_54 rfl (lv_at hl 3 rfl) ?_
          obtain ⟨v13, hv, hf⟩ := bs1 hf
          refine x_iald hx hb hE hP (nb31 hN) (aX_31 _) hv dX4_mountRaft_55 ?_
          refine x_max hx hb (hml.trans hl.1.symm) hts hown lm_X4_117 (Nat.le_trans (by decide) hRf) (Nat.le_trans (Nat.le_of_ble_eq_true rfl) hRl) (Nat.zero_le _) (Nat.zero_le _) dX4_mountRaft_56 ?_
          obtain ⟨w14, hv, hf⟩ := bs1 hf
          refine x_put hx hb hts hown hE hD hA hP hS fp_X4_114 (nb30 hN) pX_30_13 rfl rfl hv dX4_mountRaft_59 (fun H locs hP hS => ?_)
          cases hf
          exact hJ11 _ _ _ hP hS (lv_sub hl [1, 2, 0, 3] rfl)
  exact hL5 _ _ _ _ _ _ _ hf hP hS (lv_sub hl [2, 3, 1, 0] rfl)
def LX4_mountBeast_4 (x1 : Int32) (w : Mm) : Nat → Int32 → Int32 → Option (Int32)
  | 0, _, _ => none
  | fu + 1, v1, v2 =>
    bd1 (gq (w 30 6) 17) fun _ =>
    if (w 17 12) ≤ v2 then
      some (v1)
    else
      bd1 (rd w 32 8 v2) fun v5 =>
      bd1 (
        if v5 = x1 then
          bd1 (gq (w 30 6) 17) fun _ =>
          bd1 (rd w 19 8 v2) fun v8 =>
          some (v8)
        else
          some (0)) fun (v6 : Int32) =>
      LX4_mountBeast_4 x1 w fu (v1 + v6) (v2 + 1)
def fX4_mountBeast (w : Mm) (x1 : Int32) : Option (Mm) :=
  bd1 (LX4_mountBeast_4 x1 w 1000 0 0) fun (v4 : Int32) =>
  bd1 (gq (w 30 6) 17) fun _ =>
  bd1 (rd w 18 8 x1) fun v9 =>
  bd1 (pt w 30 11 (v9 - (v4 / 3))) fun w10 =>
  bd1 (gq (w10 30 6) 17) fun _ =>
  bd1 (rd w10 20 8 x1) fun v11 =>
  bd1 (pt w10 30 12 v11) fun w12 =>
  bd1 (
    if (w12 30 12) = 3 then
      bd1 (rd w12 31 8 x1) fun v16 =>
      some ((v16 + 3))
    else
      bd1 (rd w12 31 8 x1) fun v15 =>
      some (v15)) fun (v13 : Int32) =>
  bd1 (pt w12 30 13 v13) fun w17 =>
  some w17
set_option maxHeartbeats 4000000 in
set_option maxRecDepth 100000 in
theorem kX4_mountBeast {l : Launch} {κ : Kp} {tl : Nat} {N : Nat} {ad : Nat → Nat} {w : Mm} {x1 : Int32} {w' : Mm} (hN : 52 ≤ N) (hD : Apt ad N) (hf : fX4_mountBeast w x1 = some w') : Met l yX4_mountBeast (Cond.code yX4_mountBeast cX4_mountBeast 4 none :: TB) (rmX 0 0) (PcX κ (wX κ tl) N ad w [.ref (ad 30), .int x1]) (QV κ (wX κ tl) N ad w') 0 0 (Aof ad N) := by
  refine mkV (by decide +kernel) (Nat.le_of_ble_eq_true rfl) (fun p e R s m args below meth c Q H locs ls hC hRf hRl hP hS hret hl => ?_)
  obtain ⟨hx, hb, hml, hown, hts, hE⟩ := hC
  have hA : ∀ k, k < N → Aof ad N (ad k) := fun k h => Aof_in h
  have hAA : ∀ z, Aof ad N z → Aof ad N z := fun _ h => h
  have hl : lv_has ls 4 [(0, .ref (ad 30)), (1, .int x1)] := hl
  unfold fX4_mountBeast at hf
  refine lv_iconst (v := 0) hx hb dX4_mountBeast_0 nc_0 ?_
  refine lv_istore_n (lv' := [(2, .int 0), (0, .ref (ad 30)), (1, .int x1)]) hx hb dX4_mountBeast_1 rfl hl (by decide) rfl (fun ls hl => ?_)
  refine lv_iconst (v := 0) hx hb dX4_mountBeast_2 nc_0 ?_
  refine lv_istore_n (lv' := [(3, .int 0), (2, .int 0), (0, .ref (ad 30)), (1, .int x1)]) hx hb dX4_mountBeast_3 rfl hl (by decide) rfl (fun ls hl => ?_)
  obtain ⟨v4, hq3, hf⟩ := bs1 hf
  have hJ3 : ∀ (H : Heap) (locs : List Loc) (ls : Array Slot), Ho κ (wX κ tl) N ad w H → va_S (Aof ad N) s.heap H locs → lv_has ls 4 [(0, .ref (ad 30)), (1, .int x1), (2, .int v4)] → W p l e R s m args below meth c H locs 0 0 Q (F0 m 47 ls []) := by
    intro H locs ls hP hS hl
    refine lv_aload_n hx hb dX4_mountBeast_47 rfl (lv_at hl 0 rfl) ?_
    refine lv_aload_n hx hb dX4_mountBeast_48 rfl (lv_at hl 0 rfl) ?_
    obtain ⟨_, hv, hf⟩ := bs1 hf
    refine x_getr hx hb hts hown hE hP fl_X4_30 (nb30 hN) gX_30_6 hv dX4_mountBeast_49 ?_
    refine x_get hx hb hts hown hE hP fl_X4_102 (nb17 hN) gX_17_0 dX4_mountBeast_52 ?_
    refine lv_iload_n hx hb dX4_mountBeast_55 rfl (lv_at hl 1 rfl) ?_
    obtain ⟨v9, hv, hf⟩ := bs1 hf
    refine x_iald hx hb hE hP (nb18 hN) (aX_18 _) hv dX4_mountBeast_56 ?_
    refine lv_iload_n hx hb dX4_mountBeast_57 rfl (lv_at hl 2 rfl) ?_
    refine lv_iconst (v := 3) hx hb dX4_mountBeast_58 nc_3 ?_
    refine lv_idiv hx hb dX4_mountBeast_59 (by decide) ?_
    refine lv_isub hx hb dX4_mountBeast_60 ?_
    obtain ⟨w10, hv, hf⟩ := bs1 hf
    refine x_put hx hb hts hown hE hD hA hP hS fp_X4_105 (nb30 hN) pX_30_11 rfl rfl hv dX4_mountBeast_61 (fun H locs hP hS => ?_)
    refine lv_aload_n hx hb dX4_mountBeast_64 rfl (lv_at hl 0 rfl) ?_
    refine lv_aload_n hx hb dX4_mountBeast_65 rfl (lv_at hl 0 rfl) ?_
    obtain ⟨_, hv, hf⟩ := bs1 hf
    refine x_getr hx hb hts hown hE hP fl_X4_30 (nb30 hN) gX_30_6 hv dX4_mountBeast_66 ?_
    refine x_get hx hb hts hown hE hP fl_X4_108 (nb17 hN) gX_17_2 dX4_mountBeast_69 ?_
    refine lv_iload_n hx hb dX4_mountBeast_72 rfl (lv_at hl 1 rfl) ?_
    obtain ⟨v11, hv, hf⟩ := bs1 hf
    refine x_iald hx hb hE hP (nb20 hN) (aX_20 _) hv dX4_mountBeast_73 ?_
    obtain ⟨w12, hv, hf⟩ := bs1 hf
    refine x_put hx hb hts hown hE hD hA hP hS fp_X4_111 (nb30 hN) pX_30_12 rfl rfl hv dX4_mountBeast_74 (fun H locs hP hS => ?_)
    refine lv_aload_n hx hb dX4_mountBeast_77 rfl (lv_at hl 0 rfl) ?_
    refine lv_aload_n hx hb dX4_mountBeast_78 rfl (lv_at hl 0 rfl) ?_
    refine x_get hx hb hts hown hE hP fl_X4_111 (nb30 hN) gX_30_12 dX4_mountBeast_79 ?_
    refine lv_iconst (v := 3) hx hb dX4_mountBeast_82 nc_3 ?_
    obtain ⟨v13, hq14, hf⟩ := bs1 hf
    have hJ14 : ∀ (H : Heap) (locs : List Loc) (ls : Array Slot), Ho κ (wX κ tl) N ad w12 H → va_S (Aof ad N) s.heap H locs → lv_has ls 4 [] → W p l e R s m args below meth c H locs 0 0 Q (F0 m 103 ls [.int v13, .ref (ad 30)]) := by
      intro H locs ls hP hS hl
      obtain ⟨w17, hv, hf⟩ := bs1 hf
      refine x_put hx hb hts hown hE hD hA hP hS fp_X4_114 (nb30 hN) pX_30_13 rfl rfl hv dX4_mountBeast_103 (fun H locs hP hS => ?_)
      cases hf
      exact hret _ _ _ _ dX4_mountBeast_106 hP hS
    clear hf
    have hf := hq14
    clear hq14
    refine lv_icmp_ne (tgt := 97) hx hb dX4_mountBeast_83 (by decide) (fun hc => ?_) (fun hc => ?_)
    · have hf := iq hc hf
      refine lv_aload_n hx hb dX4_mountBeast_97 rfl (lv_at hl 0 rfl) ?_
      refine x_get hx hb hts hown hE hP fl_X4_9 (nb30 hN) gX_30_0 dX4_mountBeast_98 ?_
      refine lv_iload_n hx hb dX4_mountBeast_101 rfl (lv_at hl 1 rfl) ?_
      obtain ⟨v15, hv, hf⟩ := bs1 hf
      refine x_iald hx hb hE hP (nb31 hN) (aX_31 _) hv dX4_mountBeast_102 ?_
      cases hf
      exact hJ14 _ _ _ hP hS (lv_sub hl [] rfl)
    · have hf := ip hc hf
      refine lv_aload_n hx hb dX4_mountBeast_86 rfl (lv_at hl 0 rfl) ?_
      refine x_get hx hb hts hown hE hP fl_X4_9 (nb30 hN) gX_30_0 dX4_mountBeast_87 ?_
      refine lv_iload_n hx hb dX4_mountBeast_90 rfl (lv_at hl 1 rfl) ?_
      obtain ⟨v16, hv, hf⟩ := bs1 hf
      refine x_iald hx hb hE hP (nb31 hN) (aX_31 _) hv dX4_mountBeast_91 ?_
      refine lv_iconst (v := 3) hx hb dX4_mountBeast_92 nc_3 ?_
      refine lv_iadd hx hb dX4_mountBeast_93 ?_
      refine lv_goto (tgt := 103) hx hb dX4_mountBeast_94 (by decide) ?_
      cases hf
      exact hJ14 _ _ _ hP hS (lv_sub hl [] rfl)
  clear hf
  have hf := hq3
  clear hq3
  have hL3 : ∀ (fu : Nat) (v1 : Int32) (v2 : Int32) (H : Heap) (locs : List Loc) (ls : Array Slot), LX4_mountBeast_4 x1 w fu v1 v2 = some (v4) → Ho κ (wX κ tl) N ad w H → va_S (Aof ad N) s.heap H locs → lv_has ls 4 [(0, .ref (ad 30)), (1, .int x1), (2, .int v1), (3, .int v2)] → W p l e R s m args below meth c H locs 0 0 Q (F0 m 4 ls []) := by
    intro fu
    induction fu with
    | zero =>
      intro v1 v2 H locs ls hf
      rw [LX4_mountBeast_4] at hf
      cases hf
    | succ fu ih =>
      intro v1 v2 H locs ls hf hP hS hl
      rw [LX4_mountBeast_4] at hf
      refine lv_iload_n hx hb dX4_mountBeast_4 rfl (lv_at hl 3 rfl) ?_
      refine lv_aload_n hx hb dX4_mountBeast_5 rfl (lv_at hl 0 rfl) ?_
      obtain ⟨_, hv, hf⟩ := bs1 hf
      refine x_getr hx hb hts hown hE hP fl_X4_30 (nb30 hN) gX_30_6 hv dX4_mountBeast_6 ?_
      refine x_get hx hb hts hown hE hP fl_X4_64 (nb17 hN) gX_17_12 dX4_mountBeast_9 ?_
      refine lv_icmp_ge (tgt := 47) hx hb dX4_mountBeast_12 (by decide) (fun hc => ?_) (fun hc => ?_)
      · have hf := ip hc hf
        cases hf
        exact hJ3 _ _ _ hP hS (lv_sub hl [0, 1, 2] rfl)
      · have hf := iq hc hf
        refine lv_iload_n hx hb dX4_mountBeast_15 rfl (lv_at hl 2 rfl) ?_
        refine lv_aload_n hx hb dX4_mountBeast_16 rfl (lv_at hl 0 rfl) ?_
        refine x_get hx hb hts hown hE hP fl_X4_15 (nb30 hN) gX_30_1 dX4_mountBeast_17 ?_
        refine lv_iload_n hx hb dX4_mountBeast_20 rfl (lv_at hl 3 rfl) ?_
        obtain ⟨v5, hv, hf⟩ := bs1 hf
        refine x_iald hx hb hE hP (nb32 hN) (aX_32 _) hv dX4_mountBeast_21 ?_
        refine lv_iload_n hx hb dX4_mountBeast_22 rfl (lv_at hl 1 rfl) ?_
        obtain ⟨v6, hq7, hf⟩ := bs1 hf
        have hJ7 : ∀ (H : Heap) (locs : List Loc) (ls : Array Slot), Ho κ (wX κ tl) N ad w H → va_S (Aof ad N) s.heap H locs → lv_has ls 4 [(0, .ref (ad 30)), (1, .int x1), (3, .int v2)] → W p l e R s m args below meth c H locs 0 0 Q (F0 m 39 ls [.int v6, .int v1]) := by
          intro H locs ls hP hS hl
          refine lv_iadd hx hb dX4_mountBeast_39 ?_
          refine lv_istore_n (lv' := [(2, .int (v1 + v6)), (0, .ref (ad 30)), (1, .int x1), (3, .int v2)]) hx hb dX4_mountBeast_40 rfl hl (by decide) rfl (fun ls hl => ?_)
          refine lv_iinc (v := (v2 + 1)) (lv' := [(3, .int (v2 + 1)), (2, .int (v1 + v6)), (0, .ref (ad 30)), (1, .int x1)]) hx hb dX4_mountBeast_41 hl (k := 3) rfl (ni_1 _) (by decide) rfl (fun ls hl => ?_)
          refine lv_goto (tgt := 4) hx hb dX4_mountBeast_44 (by decide) ?_
          exact ih _ _ _ _ _ hf hP hS (lv_sub hl [2, 3, 1, 0] rfl)
        clear hf
        have hf := hq7
        clear hq7
        refine lv_icmp_ne (tgt := 38) hx hb dX4_mountBeast_23 (by decide) (fun hc => ?_) (fun hc => ?_)
        · have hf := iq hc hf
          refine lv_iconst (v := 0) hx hb dX4_mountBeast_38 nc_0 ?_
          cases hf
          exact hJ7 _ _ _ hP hS (lv_sub hl [0, 1, 3] rfl)
        · have hf := ip hc hf
          refine lv_aload_n hx hb dX4_mountBeast_26 rfl (lv_at hl 0 rfl) ?_
          obtain ⟨_, hv, hf⟩ := bs1 hf
          refine x_getr hx hb hts hown hE hP fl_X4_30 (nb30 hN) gX_30_6 hv dX4_mountBeast_27 ?_
          refine x_get hx hb hts hown hE hP fl_X4_99 (nb17 hN) gX_17_1 dX4_mountBeast_30 ?_
          refine lv_iload_n hx hb dX4_mountBeast_33 rfl (lv_at hl 3 rfl) ?_
          obtain ⟨v8, hv, hf⟩ := bs1 hf
          refine x_iald hx hb hE hP (nb19 hN) (aX_19 _) hv dX4_mountBeast_34 ?_
          refine lv_goto (tgt := 39) hx hb dX4_mountBeast_35 (by decide) ?_
          cases hf
          exact hJ7 _ _ _ hP hS (lv_sub hl [0, 1, 3] rfl)
  exact hL3 _ _ _ _ _ _ hf hP hS (lv_sub hl [2, 3, 1, 0] rfl)
def LX4_earliestHelp_6 (w : Mm) : Nat → Int32 → Int32 → Option (Int32)
  | 0, _, _ => none
  | fu + 1, v1, v2 =>
    bd1 (gq (w 30 6) 17) fun _ =>
    if (w 17 12) ≤ v2 then
      some (v1)
    else
      bd1 (gq (w 30 6) 17) fun _ =>
      bd1 (rd w 20 8 v2) fun v5 =>
      bd1 (
        if v5 = 2 then
          bd1 (rd w 31 8 v2) fun v8 =>
          some ((if v8 < v1 then v8 else v1))
        else
          some (v1)) fun (v6 : Int32) =>
      LX4_earliestHelp_6 w fu v6 (v2 + 1)
def fX4_earliestHelp (w : Mm) : Option (Int32) :=
  bd1 (LX4_earliestHelp_6 w 1000 201 0) fun (v4 : Int32) =>
  some v4
set_option maxHeartbeats 4000000 in
set_option maxRecDepth 100000 in
theorem kX4_earliestHelp {l : Launch} {κ : Kp} {tl : Nat} {N : Nat} {ad : Nat → Nat} {w : Mm} {r : Int32} (hN : 52 ≤ N) (hD : Apt ad N) (hf : fX4_earliestHelp w = some r) : Met l yX4_earliestHelp (Cond.code yX4_earliestHelp cX4_earliestHelp 3 (some .int) :: TB) (rmX 1 13) (PcX κ (wX κ tl) N ad w [.ref (ad 30)]) (QI κ (wX κ tl) N ad w r) 0 0 (Aof ad N) := by
  refine mkI (by decide +kernel) (Nat.le_of_ble_eq_true rfl) (fun p e R s m args below meth c Q H locs ls hC hRf hRl hP hS hret hl => ?_)
  obtain ⟨hx, hb, hml, hown, hts, hE⟩ := hC
  have hA : ∀ k, k < N → Aof ad N (ad k) := fun k h => Aof_in h
  have hAA : ∀ z, Aof ad N z → Aof ad N z := fun _ h => h
  have hl : lv_has ls 3 [(0, .ref (ad 30))] := hl
  unfold fX4_earliestHelp at hf
  refine lv_sipush (v := 201) hx hb dX4_earliestHelp_0 ns_201 ?_
  refine lv_istore_n (lv' := [(1, .int 201), (0, .ref (ad 30))]) hx hb dX4_earliestHelp_3 rfl hl (by decide) rfl (fun ls hl => ?_)
  refine lv_iconst (v := 0) hx hb dX4_earliestHelp_4 nc_0 ?_
  refine lv_istore_n (lv' := [(2, .int 0), (1, .int 201), (0, .ref (ad 30))]) hx hb dX4_earliestHelp_5 rfl hl (by decide) rfl (fun ls hl => ?_)
  obtain ⟨v4, hq3, hf⟩ := bs1 hf
  have hJ3 : ∀ (H : Heap) (locs : List Loc) (ls : Array Slot), Ho κ (wX κ tl) N ad w H → va_S (Aof ad N) s.heap H locs → lv_has ls 3 [(1, .int v4)] → W p l e R s m args below meth c H locs 0 0 Q (F0 m 47 ls []) := by
    intro H locs ls hP hS hl
    refine lv_iload_n hx hb dX4_earliestHelp_47 rfl (lv_at hl 0 rfl) ?_
    cases hf
    exact hret _ _ _ _ dX4_earliestHelp_48 hP hS
  clear hf
  have hf := hq3
  clear hq3
  have hL3 : ∀ (fu : Nat) (v1 : Int32) (v2 : Int32) (H : Heap) (locs : List Loc) (ls : Array Slot), LX4_earliestHelp_6 w fu v1 v2 = some (v4) → Ho κ (wX κ tl) N ad w H → va_S (Aof ad N) s.heap H locs → lv_has ls 3 [(0, .ref (ad 30)), (1, .int v1), (2, .int v2)] → W p l e R s m args below meth c H locs 0 0 Q (F0 m 6 ls []) := by
    intro fu
    induction fu with
    | zero =>
      intro v1 v2 H locs ls hf
      rw [LX4_earliestHelp_6] at hf
      cases hf
    | succ fu ih =>
      intro v1 v2 H locs ls hf hP hS hl
      rw [LX4_earliestHelp_6] at hf
      refine lv_iload_n hx hb dX4_earliestHelp_6 rfl (lv_at hl 2 rfl) ?_
      refine lv_aload_n hx hb dX4_earliestHelp_7 rfl (lv_at hl 0 rfl) ?_
      obtain ⟨_, hv, hf⟩ := bs1 hf
      refine x_getr hx hb hts hown hE hP fl_X4_30 (nb30 hN) gX_30_6 hv dX4_earliestHelp_8 ?_
      refine x_get hx hb hts hown hE hP fl_X4_64 (nb17 hN) gX_17_12 dX4_earliestHelp_11 ?_
      refine lv_icmp_ge (tgt := 47) hx hb dX4_earliestHelp_14 (by decide) (fun hc => ?_) (fun hc => ?_)
      · have hf := ip hc hf
        cases hf
        exact hJ3 _ _ _ hP hS (lv_sub hl [1] rfl)
      · have hf := iq hc hf
        refine lv_aload_n hx hb dX4_earliestHelp_17 rfl (lv_at hl 0 rfl) ?_
        obtain ⟨_, hv, hf⟩ := bs1 hf
        refine x_getr hx hb hts hown hE hP fl_X4_30 (nb30 hN) gX_30_6 hv dX4_earliestHelp_18 ?_
        refine x_get hx hb hts hown hE hP fl_X4_108 (nb17 hN) gX_17_2 dX4_earliestHelp_21 ?_
        refine lv_iload_n hx hb dX4_earliestHelp_24 rfl (lv_at hl 2 rfl) ?_
        obtain ⟨v5, hv, hf⟩ := bs1 hf
        refine x_iald hx hb hE hP (nb20 hN) (aX_20 _) hv dX4_earliestHelp_25 ?_
        refine lv_iconst (v := 2) hx hb dX4_earliestHelp_26 nc_2 ?_
        obtain ⟨v6, hq7, hf⟩ := bs1 hf
        have hJ7 : ∀ (H : Heap) (locs : List Loc) (ls : Array Slot), Ho κ (wX κ tl) N ad w H → va_S (Aof ad N) s.heap H locs → lv_has ls 3 [(0, .ref (ad 30)), (1, .int v6), (2, .int v2)] → W p l e R s m args below meth c H locs 0 0 Q (F0 m 41 ls []) := by
          intro H locs ls hP hS hl
          refine lv_iinc (v := (v2 + 1)) (lv' := [(2, .int (v2 + 1)), (0, .ref (ad 30)), (1, .int v6)]) hx hb dX4_earliestHelp_41 hl (k := 2) rfl (ni_1 _) (by decide) rfl (fun ls hl => ?_)
          refine lv_goto (tgt := 6) hx hb dX4_earliestHelp_44 (by decide) ?_
          exact ih _ _ _ _ _ hf hP hS (lv_sub hl [1, 2, 0] rfl)
        clear hf
        have hf := hq7
        clear hq7
        refine lv_icmp_ne (tgt := 41) hx hb dX4_earliestHelp_27 (by decide) (fun hc => ?_) (fun hc => ?_)
        · have hf := iq hc hf
          cases hf
          exact hJ7 _ _ _ hP hS (lv_sub hl [0, 1, 2] rfl)
        · have hf := ip hc hf
          refine lv_iload_n hx hb dX4_earliestHelp_30 rfl (lv_at hl 1 rfl) ?_
          refine lv_aload_n hx hb dX4_earliestHelp_31 rfl (lv_at hl 0 rfl) ?_
          refine x_get hx hb hts hown hE hP fl_X4_9 (nb30 hN) gX_30_0 dX4_earliestHelp_32 ?_
          refine lv_iload_n hx hb dX4_earliestHelp_35 rfl (lv_at hl 2 rfl) ?_
          obtain ⟨v8, hv, hf⟩ := bs1 hf
          refine x_iald hx hb hE hP (nb31 hN) (aX_31 _) hv dX4_earliestHelp_36 ?_
          refine x_min hx hb (hml.trans hl.1.symm) hts hown lm_X4_123 (Nat.le_trans (by decide) hRf) (Nat.le_trans (Nat.le_of_ble_eq_true rfl) hRl) (Nat.zero_le _) (Nat.zero_le _) dX4_earliestHelp_37 ?_
          refine lv_istore_n (lv' := [(1, .int (if v8 < v1 then v8 else v1)), (0, .ref (ad 30)), (2, .int v2)]) hx hb dX4_earliestHelp_40 rfl hl (by decide) rfl (fun ls hl => ?_)
          cases hf
          exact hJ7 _ _ _ hP hS (lv_sub hl [1, 0, 2] rfl)
  exact hL3 _ _ _ _ _ _ hf hP hS (lv_sub hl [2, 1, 0] rfl)
def fX4_mount (w : Mm) (x1 : Int32) : Option (Mm) :=
  bd1 (gq (w 30 6) 17) fun _ =>
  bd1 (rd w 32 8 x1) fun v1 =>
  bd1 (fX6_has_l w v1) fun v2 =>
  bd1 (
    if v2 = 0 then
      some (x1)
    else
      bd1 (rd w 32 8 x1) fun v5 =>
      some (v5)) fun (v3 : Int32) =>
  bd1 (gq (w 30 6) 17) fun _ =>
  bd1 (rd w 23 8 v3) fun v6 =>
  bd1 (
    if v6 = (-4) then
      bd1 (fX4_mountBeast w v3) fun w11 =>
      some (w11)
    else
      bd1 (gq (w 30 6) 17) fun _ =>
      bd1 (rd w 23 8 v3) fun v9 =>
      bd1 (fX4_mountRaft w v9) fun w10 =>
      some (w10)) fun (w7 : Mm) =>
  bd1 (fX4_earliestHelp w7) fun v12 =>
  bd1 (pt w7 30 10 v12) fun w13 =>
  some w13
set_option maxHeartbeats 4000000 in
set_option maxRecDepth 100000 in
theorem kX4_mount {l : Launch} {κ : Kp} {tl : Nat} {N : Nat} {ad : Nat → Nat} {w : Mm} {x1 : Int32} {w' : Mm} (hN : 52 ≤ N) (hD : Apt ad N) (hf : fX4_mount w x1 = some w') : Met l yX4_mount (Cond.code yX4_mount cX4_mount 3 none :: TB) (rmX 2 37) (PcX κ (wX κ tl) N ad w [.ref (ad 30), .int x1]) (QV κ (wX κ tl) N ad w') 0 0 (Aof ad N) := by
  refine mkV (by decide +kernel) (Nat.le_of_ble_eq_true rfl) (fun p e R s m args below meth c Q H locs ls hC hRf hRl hP hS hret hl => ?_)
  obtain ⟨hx, hb, hml, hown, hts, hE⟩ := hC
  have hA : ∀ k, k < N → Aof ad N (ad k) := fun k h => Aof_in h
  have hAA : ∀ z, Aof ad N z → Aof ad N z := fun _ h => h
  have hl : lv_has ls 3 [(0, .ref (ad 30)), (1, .int x1)] := hl
  unfold fX4_mount at hf
  refine lv_aload_n hx hb dX4_mount_0 rfl (lv_at hl 0 rfl) ?_
  obtain ⟨_, hv, hf⟩ := bs1 hf
  refine x_getr hx hb hts hown hE hP fl_X4_30 (nb30 hN) gX_30_6 hv dX4_mount_1 ?_
  refine lv_aload_n hx hb dX4_mount_4 rfl (lv_at hl 0 rfl) ?_
  refine x_get hx hb hts hown hE hP fl_X4_15 (nb30 hN) gX_30_1 dX4_mount_5 ?_
  refine lv_iload_n hx hb dX4_mount_8 rfl (lv_at hl 1 rfl) ?_
  obtain ⟨v1, hv, hf⟩ := bs1 hf
  refine x_iald hx hb hE hP (nb32 hN) (aX_32 _) hv dX4_mount_9 ?_
  obtain ⟨v2, hv, hf⟩ := bs1 hf
  refine x_cVi (As := [.int v1]) (rest := []) hx hb hml hts hown hE hP hS hAA (kX6_has_l hN hD hv) cl_X4_79 (nb17 hN) oX_17 vc_6 (Nat.le_trans (by decide) hRf) (Nat.le_trans (by decide) hRl) (Nat.zero_le _) (Nat.zero_le _) rfl hl.1 rfl (Nat.le_of_ble_eq_true rfl) dX4_mount_10 (fun H locs hP hS => ?_)
  obtain ⟨v3, hq4, hf⟩ := bs1 hf
  have hJ4 : ∀ (H : Heap) (locs : List Loc) (ls : Array Slot), Ho κ (wX κ tl) N ad w H → va_S (Aof ad N) s.heap H locs → lv_has ls 3 [(0, .ref (ad 30))] → W p l e R s m args below meth c H locs 0 0 Q (F0 m 26 ls [.int v3]) := by
    intro H locs ls hP hS hl
    refine lv_istore_n (lv' := [(2, .int v3), (0, .ref (ad 30))]) hx hb dX4_mount_26 rfl hl (by decide) rfl (fun ls hl => ?_)
    refine lv_aload_n hx hb dX4_mount_27 rfl (lv_at hl 1 rfl) ?_
    obtain ⟨_, hv, hf⟩ := bs1 hf
    refine x_getr hx hb hts hown hE hP fl_X4_30 (nb30 hN) gX_30_6 hv dX4_mount_28 ?_
    refine x_get hx hb hts hown hE hP fl_X4_83 (nb17 hN) gX_17_5 dX4_mount_31 ?_
    refine lv_iload_n hx hb dX4_mount_34 rfl (lv_at hl 0 rfl) ?_
    obtain ⟨v6, hv, hf⟩ := bs1 hf
    refine x_iald hx hb hE hP (nb23 hN) (aX_23 _) hv dX4_mount_35 ?_
    refine lv_bipush (v := (-4)) hx hb dX4_mount_36 nb_m4 ?_
    obtain ⟨w7, hq8, hf⟩ := bs1 hf
    have hJ8 : ∀ (H : Heap) (locs : List Loc) (ls : Array Slot), Ho κ (wX κ tl) N ad w7 H → va_S (Aof ad N) s.heap H locs → lv_has ls 3 [(0, .ref (ad 30))] → W p l e R s m args below meth c H locs 0 0 Q (F0 m 62 ls []) := by
      intro H locs ls hP hS hl
      refine lv_aload_n hx hb dX4_mount_62 rfl (lv_at hl 0 rfl) ?_
      refine lv_aload_n hx hb dX4_mount_63 rfl (lv_at hl 0 rfl) ?_
      obtain ⟨v12, hv, hf⟩ := bs1 hf
      refine x_cVi (As := []) (rest := [.ref (ad 30)]) hx hb hml hts hown hE hP hS hAA (kX4_earliestHelp hN hD hv) cl_X4_92 (nb30 hN) oX_30 vc_4 (Nat.le_trans (by decide) hRf) (Nat.le_trans (by decide) hRl) (Nat.zero_le _) (Nat.zero_le _) rfl hl.1 rfl (Nat.le_of_ble_eq_true rfl) dX4_mount_64 (fun H locs hP hS => ?_)
      obtain ⟨w13, hv, hf⟩ := bs1 hf
      refine x_put hx hb hts hown hE hD hA hP hS fp_X4_96 (nb30 hN) pX_30_10 rfl rfl hv dX4_mount_67 (fun H locs hP hS => ?_)
      cases hf
      exact hret _ _ _ _ dX4_mount_70 hP hS
    clear hf
    have hf := hq8
    clear hq8
    refine lv_icmp_ne (tgt := 49) hx hb dX4_mount_38 (by decide) (fun hc => ?_) (fun hc => ?_)
    · have hf := iq hc hf
      refine lv_aload_n hx hb dX4_mount_49 rfl (lv_at hl 1 rfl) ?_
      refine lv_aload_n hx hb dX4_mount_50 rfl (lv_at hl 1 rfl) ?_
      obtain ⟨_, hv, hf⟩ := bs1 hf
      refine x_getr hx hb hts hown hE hP fl_X4_30 (nb30 hN) gX_30_6 hv dX4_mount_51 ?_
      refine x_get hx hb hts hown hE hP fl_X4_83 (nb17 hN) gX_17_5 dX4_mount_54 ?_
      refine lv_iload_n hx hb dX4_mount_57 rfl (lv_at hl 0 rfl) ?_
      obtain ⟨v9, hv, hf⟩ := bs1 hf
      refine x_iald hx hb hE hP (nb23 hN) (aX_23 _) hv dX4_mount_58 ?_
      obtain ⟨w10, hv, hf⟩ := bs1 hf
      refine x_cVv (As := [.int v9]) (rest := []) hx hb hml hts hown hE hP hS hAA (kX4_mountRaft hN hD hv) cl_X4_89 (nb30 hN) oX_30 vc_4 (Nat.le_trans (by decide) hRf) (Nat.le_trans (by decide) hRl) (Nat.zero_le _) (Nat.zero_le _) rfl hl.1 rfl (Nat.le_of_ble_eq_true rfl) dX4_mount_59 (fun H locs hP hS => ?_)
      cases hf
      exact hJ8 _ _ _ hP hS (lv_sub hl [1] rfl)
    · have hf := ip hc hf
      refine lv_aload_n hx hb dX4_mount_41 rfl (lv_at hl 1 rfl) ?_
      refine lv_iload_n hx hb dX4_mount_42 rfl (lv_at hl 0 rfl) ?_
      obtain ⟨w11, hv, hf⟩ := bs1 hf
      refine x_cVv (As := [.int v3]) (rest := []) hx hb hml hts hown hE hP hS hAA (kX4_mountBeast hN hD hv) cl_X4_86 (nb30 hN) oX_30 vc_4 (Nat.le_trans (by decide) hRf) (Nat.le_trans (by decide) hRl) (Nat.zero_le _) (Nat.zero_le _) rfl hl.1 rfl (Nat.le_of_ble_eq_true rfl) dX4_mount_43 (fun H locs hP hS => ?_)
      refine lv_goto (tgt := 62) hx hb dX4_mount_46 (by decide) ?_
      cases hf
      exact hJ8 _ _ _ hP hS (lv_sub hl [1] rfl)
  clear hf
  have hf := hq4
  clear hq4
  refine lv_if_eq (tgt := 25) hx hb dX4_mount_13 (by decide) (fun hc => ?_) (fun hc => ?_)
  · have hf := ip hc hf
    refine lv_iload_n hx hb dX4_mount_25 rfl (lv_at hl 1 rfl) ?_
    cases hf
    exact hJ4 _ _ _ hP hS (lv_sub hl [0] rfl)
  · have hf := iq hc hf
    refine lv_aload_n hx hb dX4_mount_16 rfl (lv_at hl 0 rfl) ?_
    refine x_get hx hb hts hown hE hP fl_X4_15 (nb30 hN) gX_30_1 dX4_mount_17 ?_
    refine lv_iload_n hx hb dX4_mount_20 rfl (lv_at hl 1 rfl) ?_
    obtain ⟨v5, hv, hf⟩ := bs1 hf
    refine x_iald hx hb hE hP (nb32 hN) (aX_32 _) hv dX4_mount_21 ?_
    refine lv_goto (tgt := 26) hx hb dX4_mount_22 (by decide) ?_
    cases hf
    exact hJ4 _ _ _ hP hS (lv_sub hl [0] rfl)
def fX4_takenIn (w : Mm) (x1 : Int32) : Option (Int32) :=
  bd1 (fX8_within x1 1 200) fun v1 =>
  if v1 = 0 then
    some 0
  else
    if (w 30 12) = 4 then
      bd1 (rdF w x1) fun v2 =>
      some v2
    else
      if (w 30 12) = 2 then
        bd1 (rdF w x1) fun v7 =>
        some v7
      else
        bd1 (
          if x1 ≤ 5 then
            some (false)
          else
            if (x1 - x1 / 5 * 5) = 1 then
              if x1 ≤ (w 30 10) then
                some (false)
              else
                some (true)
            else
              some (false)) fun (b3 : Bool) =>
        if b3 = true then
          some 0
        else
          if (w 30 12) = 1 then
            bd1 (rdF w x1) fun v6 =>
            some (if 0 < (v6 - 1) then (v6 - 1) else 0)
          else
            bd1 (rdF w x1) fun v5 =>
            some v5
set_option maxHeartbeats 4000000 in
set_option maxRecDepth 100000 in
theorem kX4_takenIn {l : Launch} {κ : Kp} {tl : Nat} {N : Nat} {ad : Nat → Nat} {w : Mm} {x1 : Int32} {r : Int32} (hN : 52 ≤ N) (hD : Apt ad N) (hf : fX4_takenIn w x1 = some r) : Met l yX4_takenIn (Cond.code yX4_takenIn cX4_takenIn 2 (some .int) :: TB) (rmX 1 22) (PcX κ (wX κ tl) N ad w [.ref (ad 30), .int x1]) (QI κ (wX κ tl) N ad w r) 0 0 (Aof ad N) := by
  refine mkI (by decide +kernel) (Nat.le_of_ble_eq_true rfl) (fun p e R s m args below meth c Q H locs ls hC hRf hRl hP hS hret hl => ?_)
  obtain ⟨hx, hb, hml, hown, hts, hE⟩ := hC
  have hA : ∀ k, k < N → Aof ad N (ad k) := fun k h => Aof_in h
  have hAA : ∀ z, Aof ad N z → Aof ad N z := fun _ h => h
  have hl : lv_has ls 2 [(0, .ref (ad 30)), (1, .int x1)] := hl
  unfold fX4_takenIn at hf
  refine lv_iload_n hx hb dX4_takenIn_0 rfl (lv_at hl 1 rfl) ?_
  refine lv_iconst (v := 1) hx hb dX4_takenIn_1 nc_1 ?_
  refine lv_sipush (v := 200) hx hb dX4_takenIn_2 ns_200 ?_
  obtain ⟨v1, hv, hf⟩ := bs1 hf
  refine x_cNi (As := [.int x1, .int 1, .int 200]) (rest := []) hx hb hml hts hown hE hP hS hAA (kX8_within hv) cn_within hE.2.1 (Nat.le_trans (by decide) hRf) (Nat.le_trans (by decide) hRl) (Nat.zero_le _) (Nat.zero_le _) rfl hl.1 rfl (Nat.le_of_ble_eq_true rfl) dX4_takenIn_5 (fun H locs hP hS => ?_)
  refine lv_if_ne (tgt := 13) hx hb dX4_takenIn_8 (by decide) (fun hc => ?_) (fun hc => ?_)
  · have hf := iq hc hf
    refine lv_aload_n hx hb dX4_takenIn_13 rfl (lv_at hl 0 rfl) ?_
    refine x_get hx hb hts hown hE hP fl_X4_111 (nb30 hN) gX_30_12 dX4_takenIn_14 ?_
    refine lv_iconst (v := 4) hx hb dX4_takenIn_17 nc_4 ?_
    refine lv_icmp_eq (tgt := 29) hx hb dX4_takenIn_18 (by decide) (fun hc => ?_) (fun hc => ?_)
    · have hf := ip hc hf
      refine lv_aload_n hx hb dX4_takenIn_29 rfl (lv_at hl 0 rfl) ?_
      refine x_get hx hb hts hown hE hP fl_X4_39 (nb30 hN) gX_30_7 dX4_takenIn_30 ?_
      refine lv_iload_n hx hb dX4_takenIn_33 rfl (lv_at hl 1 rfl) ?_
      obtain ⟨v2, hv, hf⟩ := bs1 hf
      refine x_fald hx hb hE hN hP hv dX4_takenIn_34 ?_
      cases hf
      exact hret _ _ _ _ dX4_takenIn_35 hP hS
    · have hf := iq hc hf
      refine lv_aload_n hx hb dX4_takenIn_21 rfl (lv_at hl 0 rfl) ?_
      refine x_get hx hb hts hown hE hP fl_X4_111 (nb30 hN) gX_30_12 dX4_takenIn_22 ?_
      refine lv_iconst (v := 2) hx hb dX4_takenIn_25 nc_2 ?_
      refine lv_icmp_ne (tgt := 36) hx hb dX4_takenIn_26 (by decide) (fun hc => ?_) (fun hc => ?_)
      · have hf := iq hc hf
        refine lv_iload_n hx hb dX4_takenIn_36 rfl (lv_at hl 1 rfl) ?_
        refine lv_iconst (v := 5) hx hb dX4_takenIn_37 nc_5 ?_
        obtain ⟨b3, hq4, hf⟩ := bs1 hf
        have hT4 : b3 = true → ∀ (H : Heap) (locs : List Loc) (ls : Array Slot), Ho κ (wX κ tl) N ad w H → va_S (Aof ad N) s.heap H locs → lv_has ls 2 [] → W p l e R s m args below meth c H locs 0 0 Q (F0 m 56 ls []) := by
          intro hc H locs ls hP hS hl
          have hf := ip hc hf
          refine lv_iconst (v := 0) hx hb dX4_takenIn_56 nc_0 ?_
          cases hf
          exact hret _ _ _ _ dX4_takenIn_57 hP hS
        have hF4 : ¬ b3 = true → ∀ (H : Heap) (locs : List Loc) (ls : Array Slot), Ho κ (wX κ tl) N ad w H → va_S (Aof ad N) s.heap H locs → lv_has ls 2 [(0, .ref (ad 30)), (1, .int x1)] → W p l e R s m args below meth c H locs 0 0 Q (F0 m 58 ls []) := by
          intro hc H locs ls hP hS hl
          have hf := iq hc hf
          refine lv_aload_n hx hb dX4_takenIn_58 rfl (lv_at hl 0 rfl) ?_
          refine x_get hx hb hts hown hE hP fl_X4_111 (nb30 hN) gX_30_12 dX4_takenIn_59 ?_
          refine lv_iconst (v := 1) hx hb dX4_takenIn_62 nc_1 ?_
          refine lv_icmp_ne (tgt := 81) hx hb dX4_takenIn_63 (by decide) (fun hc => ?_) (fun hc => ?_)
          · have hf := iq hc hf
            refine lv_aload_n hx hb dX4_takenIn_81 rfl (lv_at hl 0 rfl) ?_
            refine x_get hx hb hts hown hE hP fl_X4_39 (nb30 hN) gX_30_7 dX4_takenIn_82 ?_
            refine lv_iload_n hx hb dX4_takenIn_85 rfl (lv_at hl 1 rfl) ?_
            obtain ⟨v5, hv, hf⟩ := bs1 hf
            refine x_fald hx hb hE hN hP hv dX4_takenIn_86 ?_
            cases hf
            exact hret _ _ _ _ dX4_takenIn_87 hP hS
          · have hf := ip hc hf
            refine lv_iconst (v := 0) hx hb dX4_takenIn_66 nc_0 ?_
            refine lv_aload_n hx hb dX4_takenIn_67 rfl (lv_at hl 0 rfl) ?_
            refine x_get hx hb hts hown hE hP fl_X4_39 (nb30 hN) gX_30_7 dX4_takenIn_68 ?_
            refine lv_iload_n hx hb dX4_takenIn_71 rfl (lv_at hl 1 rfl) ?_
            obtain ⟨v6, hv, hf⟩ := bs1 hf
            refine x_fald hx hb hE hN hP hv dX4_takenIn_72 ?_
            refine lv_iconst (v := 1) hx hb dX4_takenIn_73 nc_1 ?_
            refine lv_isub hx hb dX4_takenIn_74 ?_
            refine x_max hx hb (hml.trans hl.1.symm) hts hown lm_X4_117 (Nat.le_trans (by decide) hRf) (Nat.le_trans (Nat.le_of_ble_eq_true rfl) hRl) (Nat.zero_le _) (Nat.zero_le _) dX4_takenIn_75 ?_
            refine lv_goto (tgt := 87) hx hb dX4_takenIn_78 (by decide) ?_
            cases hf
            exact hret _ _ _ _ dX4_takenIn_87 hP hS
        clear hf
        have hf := hq4
        clear hq4
        refine lv_icmp_le (tgt := 58) hx hb dX4_takenIn_38 (by decide) (fun hc => ?_) (fun hc => ?_)
        · have hf := ip hc hf
          cases hf
          exact hF4 Bool.false_ne_true _ _ _ hP hS (lv_sub hl [0, 1] rfl)
        · have hf := iq hc hf
          refine lv_iload_n hx hb dX4_takenIn_41 rfl (lv_at hl 1 rfl) ?_
          refine lv_iconst (v := 5) hx hb dX4_takenIn_42 nc_5 ?_
          refine lv_irem hx hb dX4_takenIn_43 (by decide) ?_
          refine lv_iconst (v := 1) hx hb dX4_takenIn_44 nc_1 ?_
          refine lv_icmp_ne (tgt := 58) hx hb dX4_takenIn_45 (by decide) (fun hc => ?_) (fun hc => ?_)
          · have hf := iq hc hf
            cases hf
            exact hF4 Bool.false_ne_true _ _ _ hP hS (lv_sub hl [0, 1] rfl)
          · have hf := ip hc hf
            refine lv_aload_n hx hb dX4_takenIn_48 rfl (lv_at hl 0 rfl) ?_
            refine x_get hx hb hts hown hE hP fl_X4_96 (nb30 hN) gX_30_10 dX4_takenIn_49 ?_
            refine lv_iload_n hx hb dX4_takenIn_52 rfl (lv_at hl 1 rfl) ?_
            refine lv_icmp_ge (tgt := 58) hx hb dX4_takenIn_53 (by decide) (fun hc => ?_) (fun hc => ?_)
            · have hf := ip hc hf
              cases hf
              exact hF4 Bool.false_ne_true _ _ _ hP hS (lv_sub hl [0, 1] rfl)
            · have hf := iq hc hf
              cases hf
              exact hT4 rfl _ _ _ hP hS (lv_sub hl [] rfl)
      · have hf := ip hc hf
        refine lv_aload_n hx hb dX4_takenIn_29 rfl (lv_at hl 0 rfl) ?_
        refine x_get hx hb hts hown hE hP fl_X4_39 (nb30 hN) gX_30_7 dX4_takenIn_30 ?_
        refine lv_iload_n hx hb dX4_takenIn_33 rfl (lv_at hl 1 rfl) ?_
        obtain ⟨v7, hv, hf⟩ := bs1 hf
        refine x_fald hx hb hE hN hP hv dX4_takenIn_34 ?_
        cases hf
        exact hret _ _ _ _ dX4_takenIn_35 hP hS
  · have hf := ip hc hf
    refine lv_iconst (v := 0) hx hb dX4_takenIn_11 nc_0 ?_
    cases hf
    exact hret _ _ _ _ dX4_takenIn_12 hP hS
def fX4_yardsIn (w : Mm) (x1 : Int32) : Option (Int32) :=
  bd1 (
    if 5 < x1 then
      some (0)
    else
      if (((w 30 9) >>> ((x1 - 1) &&& 31)) &&& 1) = 1 then
        some (1)
      else
        some (0)) fun (v1 : Int32) =>
  if v1 = 0 then
    bd1 (
      if (w 30 12) = 2 then
        if (x1 - x1 / 5 * 5) = 0 then
          some (true)
        else
          some (false)
      else
        some (false)) fun (b3 : Bool) =>
    if b3 = true then
      some 0
    else
      bd1 (fX4_takenIn w x1) fun v5 =>
      some (if 1 < ((w 30 11) - v5) then ((w 30 11) - v5) else 1)
  else
    some 0
set_option maxHeartbeats 4000000 in
set_option maxRecDepth 100000 in
theorem kX4_yardsIn {l : Launch} {κ : Kp} {tl : Nat} {N : Nat} {ad : Nat → Nat} {w : Mm} {x1 : Int32} {r : Int32} (hN : 52 ≤ N) (hD : Apt ad N) (hf : fX4_yardsIn w x1 = some r) : Met l yX4_yardsIn (Cond.code yX4_yardsIn cX4_yardsIn 3 (some .int) :: TB) (rmX 2 43) (PcX κ (wX κ tl) N ad w [.ref (ad 30), .int x1]) (QI κ (wX κ tl) N ad w r) 0 0 (Aof ad N) := by
  refine mkI (by decide +kernel) (Nat.le_of_ble_eq_true rfl) (fun p e R s m args below meth c Q H locs ls hC hRf hRl hP hS hret hl => ?_)
  obtain ⟨hx, hb, hml, hown, hts, hE⟩ := hC
  have hA : ∀ k, k < N → Aof ad N (ad k) := fun k h => Aof_in h
  have hAA : ∀ z, Aof ad N z → Aof ad N z := fun _ h => h
  have hl : lv_has ls 3 [(0, .ref (ad 30)), (1, .int x1)] := hl
  unfold fX4_yardsIn at hf
  refine lv_iload_n hx hb dX4_yardsIn_0 rfl (lv_at hl 1 rfl) ?_
  refine lv_iconst (v := 5) hx hb dX4_yardsIn_1 nc_5 ?_
  obtain ⟨v1, hq2, hf⟩ := bs1 hf
  have hJ2 : ∀ (H : Heap) (locs : List Loc) (ls : Array Slot), Ho κ (wX κ tl) N ad w H → va_S (Aof ad N) s.heap H locs → lv_has ls 3 [(0, .ref (ad 30)), (1, .int x1)] → W p l e R s m args below meth c H locs 0 0 Q (F0 m 24 ls [.int v1]) := by
    intro H locs ls hP hS hl
    refine lv_istore_n (lv' := [(2, .int v1), (0, .ref (ad 30)), (1, .int x1)]) hx hb dX4_yardsIn_24 rfl hl (by decide) rfl (fun ls hl => ?_)
    refine lv_iload_n hx hb dX4_yardsIn_25 rfl (lv_at hl 0 rfl) ?_
    refine lv_if_ne (tgt := 43) hx hb dX4_yardsIn_26 (by decide) (fun hc => ?_) (fun hc => ?_)
    · have hf := iq hc hf
      refine lv_iconst (v := 0) hx hb dX4_yardsIn_43 nc_0 ?_
      cases hf
      exact hret _ _ _ _ dX4_yardsIn_44 hP hS
    · have hf := ip hc hf
      refine lv_aload_n hx hb dX4_yardsIn_29 rfl (lv_at hl 1 rfl) ?_
      refine x_get hx hb hts hown hE hP fl_X4_111 (nb30 hN) gX_30_12 dX4_yardsIn_30 ?_
      refine lv_iconst (v := 2) hx hb dX4_yardsIn_33 nc_2 ?_
      obtain ⟨b3, hq4, hf⟩ := bs1 hf
      have hT4 : b3 = true → ∀ (H : Heap) (locs : List Loc) (ls : Array Slot), Ho κ (wX κ tl) N ad w H → va_S (Aof ad N) s.heap H locs → lv_has ls 3 [] → W p l e R s m args below meth c H locs 0 0 Q (F0 m 43 ls []) := by
        intro hc H locs ls hP hS hl
        have hf := ip hc hf
        refine lv_iconst (v := 0) hx hb dX4_yardsIn_43 nc_0 ?_
        cases hf
        exact hret _ _ _ _ dX4_yardsIn_44 hP hS
      have hF4 : ¬ b3 = true → ∀ (H : Heap) (locs : List Loc) (ls : Array Slot), Ho κ (wX κ tl) N ad w H → va_S (Aof ad N) s.heap H locs → lv_has ls 3 [(0, .ref (ad 30)), (1, .int x1)] → W p l e R s m args below meth c H locs 0 0 Q (F0 m 45 ls []) := by
        intro hc H locs ls hP hS hl
        have hf := iq hc hf
        refine lv_iconst (v := 1) hx hb dX4_yardsIn_45 nc_1 ?_
        refine lv_aload_n hx hb dX4_yardsIn_46 rfl (lv_at hl 0 rfl) ?_
        refine x_get hx hb hts hown hE hP fl_X4_105 (nb30 hN) gX_30_11 dX4_yardsIn_47 ?_
        refine lv_aload_n hx hb dX4_yardsIn_50 rfl (lv_at hl 0 rfl) ?_
        refine lv_iload_n hx hb dX4_yardsIn_51 rfl (lv_at hl 1 rfl) ?_
        obtain ⟨v5, hv, hf⟩ := bs1 hf
        refine x_cVi (As := [.int x1]) (rest := [.int (w 30 11), .int 1]) hx hb hml hts hown hE hP hS hAA (kX4_takenIn hN hD hv) cl_X4_132 (nb30 hN) oX_30 vc_4 (Nat.le_trans (by decide) hRf) (Nat.le_trans (by decide) hRl) (Nat.zero_le _) (Nat.zero_le _) rfl hl.1 rfl (Nat.le_of_ble_eq_true rfl) dX4_yardsIn_52 (fun H locs hP hS => ?_)
        refine lv_isub hx hb dX4_yardsIn_55 ?_
        refine x_max hx hb (hml.trans hl.1.symm) hts hown lm_X4_117 (Nat.le_trans (by decide) hRf) (Nat.le_trans (Nat.le_of_ble_eq_true rfl) hRl) (Nat.zero_le _) (Nat.zero_le _) dX4_yardsIn_56 ?_
        cases hf
        exact hret _ _ _ _ dX4_yardsIn_59 hP hS
      clear hf
      have hf := hq4
      clear hq4
      refine lv_icmp_ne (tgt := 45) hx hb dX4_yardsIn_34 (by decide) (fun hc => ?_) (fun hc => ?_)
      · have hf := iq hc hf
        cases hf
        exact hF4 Bool.false_ne_true _ _ _ hP hS (lv_sub hl [1, 2] rfl)
      · have hf := ip hc hf
        refine lv_iload_n hx hb dX4_yardsIn_37 rfl (lv_at hl 2 rfl) ?_
        refine lv_iconst (v := 5) hx hb dX4_yardsIn_38 nc_5 ?_
        refine lv_irem hx hb dX4_yardsIn_39 (by decide) ?_
        refine lv_if_ne (tgt := 45) hx hb dX4_yardsIn_40 (by decide) (fun hc => ?_) (fun hc => ?_)
        · have hf := iq hc hf
          cases hf
          exact hF4 Bool.false_ne_true _ _ _ hP hS (lv_sub hl [1, 2] rfl)
        · have hf := ip hc hf
          cases hf
          exact hT4 rfl _ _ _ hP hS (lv_sub hl [] rfl)
  clear hf
  have hf := hq2
  clear hq2
  refine lv_icmp_gt (tgt := 23) hx hb dX4_yardsIn_2 (by decide) (fun hc => ?_) (fun hc => ?_)
  · have hf := ip hc hf
    refine lv_iconst (v := 0) hx hb dX4_yardsIn_23 nc_0 ?_
    cases hf
    exact hJ2 _ _ _ hP hS (lv_sub hl [0, 1] rfl)
  · have hf := iq hc hf
    refine lv_aload_n hx hb dX4_yardsIn_5 rfl (lv_at hl 0 rfl) ?_
    refine x_get hx hb hts hown hE hP fl_X4_45 (nb30 hN) gX_30_9 dX4_yardsIn_6 ?_
    refine lv_iload_n hx hb dX4_yardsIn_9 rfl (lv_at hl 1 rfl) ?_
    refine lv_iconst (v := 1) hx hb dX4_yardsIn_10 nc_1 ?_
    refine lv_isub hx hb dX4_yardsIn_11 ?_
    refine lv_ishr hx hb dX4_yardsIn_12 ?_
    refine lv_iconst (v := 1) hx hb dX4_yardsIn_13 nc_1 ?_
    refine lv_iand hx hb dX4_yardsIn_14 ?_
    refine lv_iconst (v := 1) hx hb dX4_yardsIn_15 nc_1 ?_
    refine lv_icmp_ne (tgt := 23) hx hb dX4_yardsIn_16 (by decide) (fun hc => ?_) (fun hc => ?_)
    · have hf := iq hc hf
      refine lv_iconst (v := 0) hx hb dX4_yardsIn_23 nc_0 ?_
      cases hf
      exact hJ2 _ _ _ hP hS (lv_sub hl [0, 1] rfl)
    · have hf := ip hc hf
      refine lv_iconst (v := 1) hx hb dX4_yardsIn_19 nc_1 ?_
      refine lv_goto (tgt := 24) hx hb dX4_yardsIn_20 (by decide) ?_
      cases hf
      exact hJ2 _ _ _ hP hS (lv_sub hl [0, 1] rfl)
def LX4_moveUntil_12 (x1 : Int32) : Nat → Int32 → Mm → Option (Int32 × Mm)
  | 0, _, _ => none
  | fu + 1, v2, w3 =>
    if x1 < v2 then
      some (201, w3)
    else
      bd1 (fX4_yardsIn w3 v2) fun v5 =>
      bd1 (pt w3 30 14 ((w3 30 14) + v5)) fun w6 =>
      if (w6 30 14) < (w6 30 8) then
        LX4_moveUntil_12 x1 fu (v2 + 1) w6
      else
        some (v2, w6)
def fX4_moveUntil (w : Mm) (x1 : Int32) : Option (Int32 × Mm) :=
  bd1 (pt w 30 14 0) fun w1 =>
  LX4_moveUntil_12 x1 1000 ((w1 30 13) + 1) w1
set_option maxHeartbeats 4000000 in
set_option maxRecDepth 100000 in
theorem kX4_moveUntil {l : Launch} {κ : Kp} {tl : Nat} {N : Nat} {ad : Nat → Nat} {w : Mm} {x1 : Int32} {r : Int32} {w' : Mm} (hN : 52 ≤ N) (hD : Apt ad N) (hf : fX4_moveUntil w x1 = some (r, w')) : Met l yX4_moveUntil (Cond.code yX4_moveUntil cX4_moveUntil 3 (some .int) :: TB) (rmX 3 65) (PcX κ (wX κ tl) N ad w [.ref (ad 30), .int x1]) (QI κ (wX κ tl) N ad w' r) 0 0 (Aof ad N) := by
  refine mkI (by decide +kernel) (Nat.le_of_ble_eq_true rfl) (fun p e R s m args below meth c Q H locs ls hC hRf hRl hP hS hret hl => ?_)
  obtain ⟨hx, hb, hml, hown, hts, hE⟩ := hC
  have hA : ∀ k, k < N → Aof ad N (ad k) := fun k h => Aof_in h
  have hAA : ∀ z, Aof ad N z → Aof ad N z := fun _ h => h
  have hl : lv_has ls 3 [(0, .ref (ad 30)), (1, .int x1)] := hl
  unfold fX4_moveUntil at hf
  refine lv_aload_n hx hb dX4_moveUntil_0 rfl (lv_at hl 0 rfl) ?_
  refine lv_iconst (v := 0) hx hb dX4_moveUntil_1 nc_0 ?_
  obtain ⟨w1, hv, hf⟩ := bs1 hf
  refine x_put hx hb hts hown hE hD hA hP hS fp_X4_126 (nb30 hN) pX_30_14 rfl rfl hv dX4_moveUntil_2 (fun H locs hP hS => ?_)
  refine lv_aload_n hx hb dX4_moveUntil_5 rfl (lv_at hl 0 rfl) ?_
  refine x_get hx hb hts hown hE hP fl_X4_114 (nb30 hN) gX_30_13 dX4_moveUntil_6 ?_
  refine lv_iconst (v := 1) hx hb dX4_moveUntil_9 nc_1 ?_
  refine lv_iadd hx hb dX4_moveUntil_10 ?_
  refine lv_istore_n (lv' := [(2, .int ((w1 30 13) + 1)), (0, .ref (ad 30)), (1, .int x1)]) hx hb dX4_moveUntil_11 rfl hl (by decide) rfl (fun ls hl => ?_)
  have hL4 : ∀ (fu : Nat) (v2 : Int32) (w3 : Mm) (H : Heap) (locs : List Loc) (ls : Array Slot), LX4_moveUntil_12 x1 fu v2 w3 = some (r, w') → Ho κ (wX κ tl) N ad w3 H → va_S (Aof ad N) s.heap H locs → lv_has ls 3 [(0, .ref (ad 30)), (1, .int x1), (2, .int v2)] → W p l e R s m args below meth c H locs 0 0 Q (F0 m 12 ls []) := by
    intro fu
    induction fu with
    | zero =>
      intro v2 w3 H locs ls hf
      rw [LX4_moveUntil_12] at hf
      cases hf
    | succ fu ih =>
      intro v2 w3 H locs ls hf hP hS hl
      rw [LX4_moveUntil_12] at hf
      refine lv_iload_n hx hb dX4_moveUntil_12 rfl (lv_at hl 2 rfl) ?_
      refine lv_iload_n hx hb dX4_moveUntil_13 rfl (lv_at hl 1 rfl) ?_
      refine lv_icmp_gt (tgt := 50) hx hb dX4_moveUntil_14 (by decide) (fun hc => ?_) (fun hc => ?_)
      · have hf := ip hc hf
        refine lv_sipush (v := 201) hx hb dX4_moveUntil_50 ns_201 ?_
        cases hf
        exact hret _ _ _ _ dX4_moveUntil_53 hP hS
      · have hf := iq hc hf
        refine lv_aload_n hx hb dX4_moveUntil_17 rfl (lv_at hl 0 rfl) ?_
        refine lv_dup hx hb dX4_moveUntil_18 rfl ?_
        refine x_get hx hb hts hown hE hP fl_X4_126 (nb30 hN) gX_30_14 dX4_moveUntil_19 ?_
        refine lv_aload_n hx hb dX4_moveUntil_22 rfl (lv_at hl 0 rfl) ?_
        refine lv_iload_n hx hb dX4_moveUntil_23 rfl (lv_at hl 2 rfl) ?_
        obtain ⟨v5, hv, hf⟩ := bs1 hf
        refine x_cVi (As := [.int v2]) (rest := [.int (w3 30 14), .ref (ad 30)]) hx hb hml hts hown hE hP hS hAA (kX4_yardsIn hN hD hv) cl_X4_129 (nb30 hN) oX_30 vc_4 (Nat.le_trans (by decide) hRf) (Nat.le_trans (by decide) hRl) (Nat.zero_le _) (Nat.zero_le _) rfl hl.1 rfl (Nat.le_of_ble_eq_true rfl) dX4_moveUntil_24 (fun H locs hP hS => ?_)
        refine lv_iadd hx hb dX4_moveUntil_27 ?_
        obtain ⟨w6, hv, hf⟩ := bs1 hf
        refine x_put hx hb hts hown hE hD hA hP hS fp_X4_126 (nb30 hN) pX_30_14 rfl rfl hv dX4_moveUntil_28 (fun H locs hP hS => ?_)
        refine lv_aload_n hx hb dX4_moveUntil_31 rfl (lv_at hl 0 rfl) ?_
        refine x_get hx hb hts hown hE hP fl_X4_126 (nb30 hN) gX_30_14 dX4_moveUntil_32 ?_
        refine lv_aload_n hx hb dX4_moveUntil_35 rfl (lv_at hl 0 rfl) ?_
        refine x_get hx hb hts hown hE hP fl_X4_44 (nb30 hN) gX_30_8 dX4_moveUntil_36 ?_
        refine lv_icmp_lt (tgt := 44) hx hb dX4_moveUntil_39 (by decide) (fun hc => ?_) (fun hc => ?_)
        · have hf := ip hc hf
          refine lv_iinc (v := (v2 + 1)) (lv' := [(2, .int (v2 + 1)), (0, .ref (ad 30)), (1, .int x1)]) hx hb dX4_moveUntil_44 hl (k := 2) rfl (ni_1 _) (by decide) rfl (fun ls hl => ?_)
          refine lv_goto (tgt := 12) hx hb dX4_moveUntil_47 (by decide) ?_
          exact ih _ _ _ _ _ hf hP hS (lv_sub hl [1, 2, 0] rfl)
        · have hf := iq hc hf
          refine lv_iload_n hx hb dX4_moveUntil_42 rfl (lv_at hl 2 rfl) ?_
          cases hf
          exact hret _ _ _ _ dX4_moveUntil_43 hP hS
  exact hL4 _ _ _ _ _ _ hf hP hS (lv_sub hl [1, 2, 0] rfl)
def fX8_where (w : Mm) (x1 x2 : Int32) : Option (Int32 × Mm) :=
  bd1 (gq (w 16 3) 17) fun _ =>
  bd1 (fX6_has_l w x1) fun v1 =>
  if v1 = 0 then
    some ((-1), w)
  else
    bd1 (fX8_within x2 0 200) fun v2 =>
    if v2 = 0 then
      some ((-1), w)
    else
      bd1 (gq (w 16 3) 17) fun _ =>
      bd1 (fX4_prepare w) fun w3 =>
      bd1 (fX4_mount w3 x1) fun w4 =>
      bd2 (fX4_moveUntil w4 x2) fun v5 w6 =>
      bd1 (gq (w6 16 3) 17) fun _ =>
      some ((if (w6 17 13) < (w6 30 14) then (w6 17 13) else (w6 30 14)), w6)
set_option maxHeartbeats 4000000 in
set_option maxRecDepth 100000 in
theorem kX8_where {l : Launch} {κ : Kp} {tl : Nat} {N : Nat} {ad : Nat → Nat} {w : Mm} {x1 x2 : Int32} {r : Int32} {w' : Mm} (hN : 52 ≤ N) (hD : Apt ad N) (hf : fX8_where w x1 x2 = some (r, w')) : Met l yX8_where (Cond.code yX8_where cX8_where 3 (some .int) :: TB) (rmX 4 87) (PcX κ (wX κ tl) N ad w [.ref (ad 16), .int x1, .int x2]) (QI κ (wX κ tl) N ad w' r) 0 0 (Aof ad N) := by
  refine mkI (by decide +kernel) (Nat.le_of_ble_eq_true rfl) (fun p e R s m args below meth c Q H locs ls hC hRf hRl hP hS hret hl => ?_)
  obtain ⟨hx, hb, hml, hown, hts, hE⟩ := hC
  have hA : ∀ k, k < N → Aof ad N (ad k) := fun k h => Aof_in h
  have hAA : ∀ z, Aof ad N z → Aof ad N z := fun _ h => h
  have hl : lv_has ls 3 [(0, .ref (ad 16)), (1, .int x1), (2, .int x2)] := hl
  unfold fX8_where at hf
  refine lv_aload_n hx hb dX8_where_0 rfl (lv_at hl 0 rfl) ?_
  obtain ⟨_, hv, hf⟩ := bs1 hf
  refine x_getr hx hb hts hown hE hP fl_X8_28 (nb16 hN) gX_16_3 hv dX8_where_1 ?_
  refine lv_iload_n hx hb dX8_where_4 rfl (lv_at hl 1 rfl) ?_
  obtain ⟨v1, hv, hf⟩ := bs1 hf
  refine x_cVi (As := [.int x1]) (rest := []) hx hb hml hts hown hE hP hS hAA (kX6_has_l hN hD hv) cl_X8_105 (nb17 hN) oX_17 vc_6 (Nat.le_trans (by decide) hRf) (Nat.le_trans (by decide) hRl) (Nat.zero_le _) (Nat.zero_le _) rfl hl.1 rfl (Nat.le_of_ble_eq_true rfl) dX8_where_5 (fun H locs hP hS => ?_)
  refine lv_if_eq (tgt := 22) hx hb dX8_where_8 (by decide) (fun hc => ?_) (fun hc => ?_)
  · have hf := ip hc hf
    refine lv_iconst (v := (-1)) hx hb dX8_where_22 nc_m1 ?_
    cases hf
    exact hret _ _ _ _ dX8_where_23 hP hS
  · have hf := iq hc hf
    refine lv_iload_n hx hb dX8_where_11 rfl (lv_at hl 2 rfl) ?_
    refine lv_iconst (v := 0) hx hb dX8_where_12 nc_0 ?_
    refine lv_sipush (v := 200) hx hb dX8_where_13 ns_200 ?_
    obtain ⟨v2, hv, hf⟩ := bs1 hf
    refine x_cSi (As := [.int x2, .int 0, .int 200]) (rest := []) hx hb hml hts hown hE hP hS hAA (kX8_within hv) cl_X8_82 (Nat.le_trans (by decide) hRf) (Nat.le_trans (by decide) hRl) (Nat.zero_le _) (Nat.zero_le _) rfl hl.1 rfl (Nat.le_of_ble_eq_true rfl) dX8_where_16 (fun H locs hP hS => ?_)
    refine lv_if_ne (tgt := 24) hx hb dX8_where_19 (by decide) (fun hc => ?_) (fun hc => ?_)
    · have hf := iq hc hf
      refine lv_aload_n hx hb dX8_where_24 rfl (lv_at hl 0 rfl) ?_
      refine x_get hx hb hts hown hE hP fl_X8_43 (nb16 hN) gX_16_5 dX8_where_25 ?_
      refine lv_aload_n hx hb dX8_where_28 rfl (lv_at hl 0 rfl) ?_
      obtain ⟨_, hv, hf⟩ := bs1 hf
      refine x_getr hx hb hts hown hE hP fl_X8_28 (nb16 hN) gX_16_3 hv dX8_where_29 ?_
      obtain ⟨w3, hv, hf⟩ := bs1 hf
      refine x_cVv (As := [.ref (ad 17)]) (rest := []) hx hb hml hts hown hE hP hS hAA (kX4_prepare hN hD hv) cl_X8_134 (nb30 hN) oX_30 vc_4 (Nat.le_trans (by decide) hRf) (Nat.le_trans (by decide) hRl) (Nat.zero_le _) (Nat.zero_le _) rfl hl.1 rfl (Nat.le_of_ble_eq_true rfl) dX8_where_32 (fun H locs hP hS => ?_)
      refine lv_aload_n hx hb dX8_where_35 rfl (lv_at hl 0 rfl) ?_
      refine x_get hx hb hts hown hE hP fl_X8_43 (nb16 hN) gX_16_5 dX8_where_36 ?_
      refine lv_iload_n hx hb dX8_where_39 rfl (lv_at hl 1 rfl) ?_
      obtain ⟨w4, hv, hf⟩ := bs1 hf
      refine x_cVv (As := [.int x1]) (rest := []) hx hb hml hts hown hE hP hS hAA (kX4_mount hN hD hv) cl_X8_137 (nb30 hN) oX_30 vc_4 (Nat.le_trans (by decide) hRf) (Nat.le_trans (by decide) hRl) (Nat.zero_le _) (Nat.zero_le _) rfl hl.1 rfl (Nat.le_of_ble_eq_true rfl) dX8_where_40 (fun H locs hP hS => ?_)
      refine lv_aload_n hx hb dX8_where_43 rfl (lv_at hl 0 rfl) ?_
      refine x_get hx hb hts hown hE hP fl_X8_43 (nb16 hN) gX_16_5 dX8_where_44 ?_
      refine lv_iload_n hx hb dX8_where_47 rfl (lv_at hl 2 rfl) ?_
      obtain ⟨v5, w6, hv, hf⟩ := bs2 hf
      refine x_cVi (As := [.int x2]) (rest := []) hx hb hml hts hown hE hP hS hAA (kX4_moveUntil hN hD hv) cl_X8_141 (nb30 hN) oX_30 vc_4 (Nat.le_trans (by decide) hRf) (Nat.le_trans (by decide) hRl) (Nat.zero_le _) (Nat.zero_le _) rfl hl.1 rfl (Nat.le_of_ble_eq_true rfl) dX8_where_48 (fun H locs hP hS => ?_)
      refine lv_pop hx hb dX8_where_51 rfl ?_
      refine lv_aload_n hx hb dX8_where_52 rfl (lv_at hl 0 rfl) ?_
      refine x_get hx hb hts hown hE hP fl_X8_43 (nb16 hN) gX_16_5 dX8_where_53 ?_
      refine x_get hx hb hts hown hE hP fl_X8_145 (nb30 hN) gX_30_14 dX8_where_56 ?_
      refine lv_aload_n hx hb dX8_where_59 rfl (lv_at hl 0 rfl) ?_
      obtain ⟨_, hv, hf⟩ := bs1 hf
      refine x_getr hx hb hts hown hE hP fl_X8_28 (nb16 hN) gX_16_3 hv dX8_where_60 ?_
      refine x_get hx hb hts hown hE hP fl_X8_148 (nb17 hN) gX_17_13 dX8_where_63 ?_
      refine x_min hx hb (hml.trans hl.1.symm) hts hown lm_X8_151 (Nat.le_trans (by decide) hRf) (Nat.le_trans (Nat.le_of_ble_eq_true rfl) hRl) (Nat.zero_le _) (Nat.zero_le _) dX8_where_66 ?_
      cases hf
      exact hret _ _ _ _ dX8_where_69 hP hS
    · have hf := ip hc hf
      refine lv_iconst (v := (-1)) hx hb dX8_where_22 nc_m1 ?_
      cases hf
      exact hret _ _ _ _ dX8_where_23 hP hS
def fX8_lands (w : Mm) (x1 : Int32) : Option (Int32 × Mm) :=
  bd1 (gq (w 16 3) 17) fun _ =>
  bd1 (fX6_has_l w x1) fun v1 =>
  if v1 = 0 then
    some ((-1), w)
  else
    bd1 (gq (w 16 3) 17) fun _ =>
    bd1 (fX4_prepare w) fun w2 =>
    bd1 (fX4_mount w2 x1) fun w3 =>
    bd2 (fX4_moveUntil w3 200) fun v4 w5 =>
    if v4 = 201 then
      some ((-4), w5)
    else
      some (v4, w5)
set_option maxHeartbeats 4000000 in
set_option maxRecDepth 100000 in
theorem kX8_lands {l : Launch} {κ : Kp} {tl : Nat} {N : Nat} {ad : Nat → Nat} {w : Mm} {x1 : Int32} {r : Int32} {w' : Mm} (hN : 52 ≤ N) (hD : Apt ad N) (hf : fX8_lands w x1 = some (r, w')) : Met l yX8_lands (Cond.code yX8_lands cX8_lands 3 (some .int) :: TB) (rmX 4 87) (PcX κ (wX κ tl) N ad w [.ref (ad 16), .int x1]) (QI κ (wX κ tl) N ad w' r) 0 0 (Aof ad N) := by
  refine mkI (by decide +kernel) (Nat.le_of_ble_eq_true rfl) (fun p e R s m args below meth c Q H locs ls hC hRf hRl hP hS hret hl => ?_)
  obtain ⟨hx, hb, hml, hown, hts, hE⟩ := hC
  have hA : ∀ k, k < N → Aof ad N (ad k) := fun k h => Aof_in h
  have hAA : ∀ z, Aof ad N z → Aof ad N z := fun _ h => h
  have hl : lv_has ls 3 [(0, .ref (ad 16)), (1, .int x1)] := hl
  unfold fX8_lands at hf
  refine lv_aload_n hx hb dX8_lands_0 rfl (lv_at hl 0 rfl) ?_
  obtain ⟨_, hv, hf⟩ := bs1 hf
  refine x_getr hx hb hts hown hE hP fl_X8_28 (nb16 hN) gX_16_3 hv dX8_lands_1 ?_
  refine lv_iload_n hx hb dX8_lands_4 rfl (lv_at hl 1 rfl) ?_
  obtain ⟨v1, hv, hf⟩ := bs1 hf
  refine x_cVi (As := [.int x1]) (rest := []) hx hb hml hts hown hE hP hS hAA (kX6_has_l hN hD hv) cl_X8_105 (nb17 hN) oX_17 vc_6 (Nat.le_trans (by decide) hRf) (Nat.le_trans (by decide) hRl) (Nat.zero_le _) (Nat.zero_le _) rfl hl.1 rfl (Nat.le_of_ble_eq_true rfl) dX8_lands_5 (fun H locs hP hS => ?_)
  refine lv_if_ne (tgt := 13) hx hb dX8_lands_8 (by decide) (fun hc => ?_) (fun hc => ?_)
  · have hf := iq hc hf
    refine lv_aload_n hx hb dX8_lands_13 rfl (lv_at hl 0 rfl) ?_
    refine x_get hx hb hts hown hE hP fl_X8_43 (nb16 hN) gX_16_5 dX8_lands_14 ?_
    refine lv_aload_n hx hb dX8_lands_17 rfl (lv_at hl 0 rfl) ?_
    obtain ⟨_, hv, hf⟩ := bs1 hf
    refine x_getr hx hb hts hown hE hP fl_X8_28 (nb16 hN) gX_16_3 hv dX8_lands_18 ?_
    obtain ⟨w2, hv, hf⟩ := bs1 hf
    refine x_cVv (As := [.ref (ad 17)]) (rest := []) hx hb hml hts hown hE hP hS hAA (kX4_prepare hN hD hv) cl_X8_134 (nb30 hN) oX_30 vc_4 (Nat.le_trans (by decide) hRf) (Nat.le_trans (by decide) hRl) (Nat.zero_le _) (Nat.zero_le _) rfl hl.1 rfl (Nat.le_of_ble_eq_true rfl) dX8_lands_21 (fun H locs hP hS => ?_)
    refine lv_aload_n hx hb dX8_lands_24 rfl (lv_at hl 0 rfl) ?_
    refine x_get hx hb hts hown hE hP fl_X8_43 (nb16 hN) gX_16_5 dX8_lands_25 ?_
    refine lv_iload_n hx hb dX8_lands_28 rfl (lv_at hl 1 rfl) ?_
    obtain ⟨w3, hv, hf⟩ := bs1 hf
    refine x_cVv (As := [.int x1]) (rest := []) hx hb hml hts hown hE hP hS hAA (kX4_mount hN hD hv) cl_X8_137 (nb30 hN) oX_30 vc_4 (Nat.le_trans (by decide) hRf) (Nat.le_trans (by decide) hRl) (Nat.zero_le _) (Nat.zero_le _) rfl hl.1 rfl (Nat.le_of_ble_eq_true rfl) dX8_lands_29 (fun H locs hP hS => ?_)
    refine lv_aload_n hx hb dX8_lands_32 rfl (lv_at hl 0 rfl) ?_
    refine x_get hx hb hts hown hE hP fl_X8_43 (nb16 hN) gX_16_5 dX8_lands_33 ?_
    refine lv_sipush (v := 200) hx hb dX8_lands_36 ns_200 ?_
    obtain ⟨v4, w5, hv, hf⟩ := bs2 hf
    refine x_cVi (As := [.int 200]) (rest := []) hx hb hml hts hown hE hP hS hAA (kX4_moveUntil hN hD hv) cl_X8_141 (nb30 hN) oX_30 vc_4 (Nat.le_trans (by decide) hRf) (Nat.le_trans (by decide) hRl) (Nat.zero_le _) (Nat.zero_le _) rfl hl.1 rfl (Nat.le_of_ble_eq_true rfl) dX8_lands_39 (fun H locs hP hS => ?_)
    refine lv_istore_n (lv' := [(2, .int v4), (0, .ref (ad 16)), (1, .int x1)]) hx hb dX8_lands_42 rfl hl (by decide) rfl (fun ls hl => ?_)
    refine lv_iload_n hx hb dX8_lands_43 rfl (lv_at hl 0 rfl) ?_
    refine lv_sipush (v := 201) hx hb dX8_lands_44 ns_201 ?_
    refine lv_icmp_ne (tgt := 55) hx hb dX8_lands_47 (by decide) (fun hc => ?_) (fun hc => ?_)
    · have hf := iq hc hf
      refine lv_iload_n hx hb dX8_lands_55 rfl (lv_at hl 0 rfl) ?_
      cases hf
      exact hret _ _ _ _ dX8_lands_56 hP hS
    · have hf := ip hc hf
      refine lv_bipush (v := (-4)) hx hb dX8_lands_50 nb_m4 ?_
      refine lv_goto (tgt := 56) hx hb dX8_lands_52 (by decide) ?_
      cases hf
      exact hret _ _ _ _ dX8_lands_56 hP hS
  · have hf := ip hc hf
    refine lv_iconst (v := (-1)) hx hb dX8_lands_11 nc_m1 ?_
    cases hf
    exact hret _ _ _ _ dX8_lands_12 hP hS
def fX4_leader (w : Mm) (x1 : Int32) : Option (Int32) :=
  bd1 (gq (w 30 6) 17) fun _ =>
  bd1 (rd w 32 8 x1) fun v1 =>
  bd1 (fX6_has_l w v1) fun v2 =>
  bd1 (
    if v2 = 0 then
      some (0)
    else
      bd1 (rd w 33 8 x1) fun v5 =>
      if v5 = 201 then
        some (0)
      else
        some (1)) fun (v3 : Int32) =>
  if v3 = 0 then
    some x1
  else
    bd1 (rd w 32 8 x1) fun v6 =>
    some v6
set_option maxHeartbeats 4000000 in
set_option maxRecDepth 100000 in
theorem kX4_leader {l : Launch} {κ : Kp} {tl : Nat} {N : Nat} {ad : Nat → Nat} {w : Mm} {x1 : Int32} {r : Int32} (hN : 52 ≤ N) (hD : Apt ad N) (hf : fX4_leader w x1 = some r) : Met l yX4_leader (Cond.code yX4_leader cX4_leader 3 (some .int) :: TB) (rmX 1 21) (PcX κ (wX κ tl) N ad w [.ref (ad 30), .int x1]) (QI κ (wX κ tl) N ad w r) 0 0 (Aof ad N) := by
  refine mkI (by decide +kernel) (Nat.le_of_ble_eq_true rfl) (fun p e R s m args below meth c Q H locs ls hC hRf hRl hP hS hret hl => ?_)
  obtain ⟨hx, hb, hml, hown, hts, hE⟩ := hC
  have hA : ∀ k, k < N → Aof ad N (ad k) := fun k h => Aof_in h
  have hAA : ∀ z, Aof ad N z → Aof ad N z := fun _ h => h
  have hl : lv_has ls 3 [(0, .ref (ad 30)), (1, .int x1)] := hl
  unfold fX4_leader at hf
  refine lv_aload_n hx hb dX4_leader_0 rfl (lv_at hl 0 rfl) ?_
  obtain ⟨_, hv, hf⟩ := bs1 hf
  refine x_getr hx hb hts hown hE hP fl_X4_30 (nb30 hN) gX_30_6 hv dX4_leader_1 ?_
  refine lv_aload_n hx hb dX4_leader_4 rfl (lv_at hl 0 rfl) ?_
  refine x_get hx hb hts hown hE hP fl_X4_15 (nb30 hN) gX_30_1 dX4_leader_5 ?_
  refine lv_iload_n hx hb dX4_leader_8 rfl (lv_at hl 1 rfl) ?_
  obtain ⟨v1, hv, hf⟩ := bs1 hf
  refine x_iald hx hb hE hP (nb32 hN) (aX_32 _) hv dX4_leader_9 ?_
  obtain ⟨v2, hv, hf⟩ := bs1 hf
  refine x_cVi (As := [.int v1]) (rest := []) hx hb hml hts hown hE hP hS hAA (kX6_has_l hN hD hv) cl_X4_79 (nb17 hN) oX_17 vc_6 (Nat.le_trans (by decide) hRf) (Nat.le_trans (by decide) hRl) (Nat.zero_le _) (Nat.zero_le _) rfl hl.1 rfl (Nat.le_of_ble_eq_true rfl) dX4_leader_10 (fun H locs hP hS => ?_)
  obtain ⟨v3, hq4, hf⟩ := bs1 hf
  have hJ4 : ∀ (H : Heap) (locs : List Loc) (ls : Array Slot), Ho κ (wX κ tl) N ad w H → va_S (Aof ad N) s.heap H locs → lv_has ls 3 [(0, .ref (ad 30)), (1, .int x1)] → W p l e R s m args below meth c H locs 0 0 Q (F0 m 33 ls [.int v3]) := by
    intro H locs ls hP hS hl
    refine lv_istore_n (lv' := [(2, .int v3), (0, .ref (ad 30)), (1, .int x1)]) hx hb dX4_leader_33 rfl hl (by decide) rfl (fun ls hl => ?_)
    refine lv_iload_n hx hb dX4_leader_34 rfl (lv_at hl 0 rfl) ?_
    refine lv_if_eq (tgt := 47) hx hb dX4_leader_35 (by decide) (fun hc => ?_) (fun hc => ?_)
    · have hf := ip hc hf
      refine lv_iload_n hx hb dX4_leader_47 rfl (lv_at hl 2 rfl) ?_
      cases hf
      exact hret _ _ _ _ dX4_leader_48 hP hS
    · have hf := iq hc hf
      refine lv_aload_n hx hb dX4_leader_38 rfl (lv_at hl 1 rfl) ?_
      refine x_get hx hb hts hown hE hP fl_X4_15 (nb30 hN) gX_30_1 dX4_leader_39 ?_
      refine lv_iload_n hx hb dX4_leader_42 rfl (lv_at hl 2 rfl) ?_
      obtain ⟨v6, hv, hf⟩ := bs1 hf
      refine x_iald hx hb hE hP (nb32 hN) (aX_32 _) hv dX4_leader_43 ?_
      refine lv_goto (tgt := 48) hx hb dX4_leader_44 (by decide) ?_
      cases hf
      exact hret _ _ _ _ dX4_leader_48 hP hS
  clear hf
  have hf := hq4
  clear hq4
  refine lv_if_eq (tgt := 32) hx hb dX4_leader_13 (by decide) (fun hc => ?_) (fun hc => ?_)
  · have hf := ip hc hf
    refine lv_iconst (v := 0) hx hb dX4_leader_32 nc_0 ?_
    cases hf
    exact hJ4 _ _ _ hP hS (lv_sub hl [0, 1] rfl)
  · have hf := iq hc hf
    refine lv_aload_n hx hb dX4_leader_16 rfl (lv_at hl 0 rfl) ?_
    refine x_get hx hb hts hown hE hP fl_X4_18 (nb30 hN) gX_30_2 dX4_leader_17 ?_
    refine lv_iload_n hx hb dX4_leader_20 rfl (lv_at hl 1 rfl) ?_
    obtain ⟨v5, hv, hf⟩ := bs1 hf
    refine x_iald hx hb hE hP (nb33 hN) (aX_33 _) hv dX4_leader_21 ?_
    refine lv_sipush (v := 201) hx hb dX4_leader_22 ns_201 ?_
    refine lv_icmp_eq (tgt := 32) hx hb dX4_leader_25 (by decide) (fun hc => ?_) (fun hc => ?_)
    · have hf := ip hc hf
      refine lv_iconst (v := 0) hx hb dX4_leader_32 nc_0 ?_
      cases hf
      exact hJ4 _ _ _ hP hS (lv_sub hl [0, 1] rfl)
    · have hf := iq hc hf
      refine lv_iconst (v := 1) hx hb dX4_leader_28 nc_1 ?_
      refine lv_goto (tgt := 33) hx hb dX4_leader_29 (by decide) ?_
      cases hf
      exact hJ4 _ _ _ hP hS (lv_sub hl [0, 1] rfl)
def fX4_isAhead (w : Mm) (x1 x2 : Int32) : Option (Int32) :=
  bd1 (fX4_leader w x1) fun v1 =>
  bd1 (fX4_leader w x2) fun v2 =>
  if v1 = v2 then
    if x2 = v2 then
      some 1
    else
      if x1 = v1 then
        some 0
      else
        bd1 (gq (w 30 6) 17) fun _ =>
        bd1 (rd w 24 8 x1) fun v9 =>
        bd1 (gq (w 30 6) 17) fun _ =>
        bd1 (rd w 24 8 x2) fun v10 =>
        if v10 ≤ v9 then
          some 0
        else
          some 1
  else
    bd1 (rd w 33 8 v1) fun v3 =>
    bd1 (rd w 33 8 v2) fun v4 =>
    if v3 = v4 then
      bd1 (gq (w 30 6) 17) fun _ =>
      bd1 (rd w 24 8 v1) fun v5 =>
      bd1 (gq (w 30 6) 17) fun _ =>
      bd1 (rd w 24 8 v2) fun v6 =>
      if v6 ≤ v5 then
        some 0
      else
        some 1
    else
      bd1 (rd w 33 8 v1) fun v7 =>
      bd1 (rd w 33 8 v2) fun v8 =>
      if v8 ≤ v7 then
        some 0
      else
        some 1
set_option maxHeartbeats 4000000 in
set_option maxRecDepth 100000 in
theorem kX4_isAhead {l : Launch} {κ : Kp} {tl : Nat} {N : Nat} {ad : Nat → Nat} {w : Mm} {x1 x2 : Int32} {r : Int32} (hN : 52 ≤ N) (hD : Apt ad N) (hf : fX4_isAhead w x1 x2 = some r) : Met l yX4_isAhead (Cond.code yX4_isAhead cX4_isAhead 5 (some .boolean) :: TB) (rmX 2 43) (PcX κ (wX κ tl) N ad w [.ref (ad 30), .int x1, .int x2]) (QI κ (wX κ tl) N ad w r) 0 0 (Aof ad N) := by
  refine mkZ (by decide +kernel) (Nat.le_of_ble_eq_true rfl) (fun p e R s m args below meth c Q H locs ls hC hRf hRl hP hS hret hl => ?_)
  obtain ⟨hx, hb, hml, hown, hts, hE⟩ := hC
  have hA : ∀ k, k < N → Aof ad N (ad k) := fun k h => Aof_in h
  have hAA : ∀ z, Aof ad N z → Aof ad N z := fun _ h => h
  have hl : lv_has ls 5 [(0, .ref (ad 30)), (1, .int x1), (2, .int x2)] := hl
  unfold fX4_isAhead at hf
  refine lv_aload_n hx hb dX4_isAhead_0 rfl (lv_at hl 0 rfl) ?_
  refine lv_iload_n hx hb dX4_isAhead_1 rfl (lv_at hl 1 rfl) ?_
  obtain ⟨v1, hv, hf⟩ := bs1 hf
  refine x_cVi (As := [.int x1]) (rest := []) hx hb hml hts hown hE hP hS hAA (kX4_leader hN hD hv) cl_X4_139 (nb30 hN) oX_30 vc_4 (Nat.le_trans (by decide) hRf) (Nat.le_trans (by decide) hRl) (Nat.zero_le _) (Nat.zero_le _) rfl hl.1 rfl (Nat.le_of_ble_eq_true rfl) dX4_isAhead_2 (fun H locs hP hS => ?_)
  refine lv_istore_n (lv' := [(3, .int v1), (0, .ref (ad 30)), (1, .int x1), (2, .int x2)]) hx hb dX4_isAhead_5 rfl hl (by decide) rfl (fun ls hl => ?_)
  refine lv_aload_n hx hb dX4_isAhead_6 rfl (lv_at hl 1 rfl) ?_
  refine lv_iload_n hx hb dX4_isAhead_7 rfl (lv_at hl 3 rfl) ?_
  obtain ⟨v2, hv, hf⟩ := bs1 hf
  refine x_cVi (As := [.int x2]) (rest := []) hx hb hml hts hown hE hP hS hAA (kX4_leader hN hD hv) cl_X4_139 (nb30 hN) oX_30 vc_4 (Nat.le_trans (by decide) hRf) (Nat.le_trans (by decide) hRl) (Nat.zero_le _) (Nat.zero_le _) rfl hl.1 rfl (Nat.le_of_ble_eq_true rfl) dX4_isAhead_8 (fun H locs hP hS => ?_)
  refine lv_istore (lv' := [(4, .int v2), (3, .int v1), (0, .ref (ad 30)), (1, .int x1), (2, .int x2)]) hx hb dX4_isAhead_11 hl (by decide) rfl (fun ls hl => ?_)
  refine lv_iload_n hx hb dX4_isAhead_13 rfl (lv_at hl 1 rfl) ?_
  refine lv_iload hx hb dX4_isAhead_14 (lv_at hl 0 rfl) ?_
  refine lv_icmp_ne (tgt := 57) hx hb dX4_isAhead_16 (by decide) (fun hc => ?_) (fun hc => ?_)
  · have hf := iq hc hf
    refine lv_aload_n hx hb dX4_isAhead_57 rfl (lv_at hl 2 rfl) ?_
    refine x_get hx hb hts hown hE hP fl_X4_18 (nb30 hN) gX_30_2 dX4_isAhead_58 ?_
    refine lv_iload_n hx hb dX4_isAhead_61 rfl (lv_at hl 1 rfl) ?_
    obtain ⟨v3, hv, hf⟩ := bs1 hf
    refine x_iald hx hb hE hP (nb33 hN) (aX_33 _) hv dX4_isAhead_62 ?_
    refine lv_aload_n hx hb dX4_isAhead_63 rfl (lv_at hl 2 rfl) ?_
    refine x_get hx hb hts hown hE hP fl_X4_18 (nb30 hN) gX_30_2 dX4_isAhead_64 ?_
    refine lv_iload hx hb dX4_isAhead_67 (lv_at hl 0 rfl) ?_
    obtain ⟨v4, hv, hf⟩ := bs1 hf
    refine x_iald hx hb hE hP (nb33 hN) (aX_33 _) hv dX4_isAhead_69 ?_
    refine lv_icmp_eq (tgt := 95) hx hb dX4_isAhead_70 (by decide) (fun hc => ?_) (fun hc => ?_)
    · have hf := ip hc hf
      refine lv_aload_n hx hb dX4_isAhead_95 rfl (lv_at hl 2 rfl) ?_
      obtain ⟨_, hv, hf⟩ := bs1 hf
      refine x_getr hx hb hts hown hE hP fl_X4_30 (nb30 hN) gX_30_6 hv dX4_isAhead_96 ?_
      refine x_get hx hb hts hown hE hP fl_X4_142 (nb17 hN) gX_17_6 dX4_isAhead_99 ?_
      refine lv_iload_n hx hb dX4_isAhead_102 rfl (lv_at hl 1 rfl) ?_
      obtain ⟨v5, hv, hf⟩ := bs1 hf
      refine x_iald hx hb hE hP (nb24 hN) (aX_24 _) hv dX4_isAhead_103 ?_
      refine lv_aload_n hx hb dX4_isAhead_104 rfl (lv_at hl 2 rfl) ?_
      obtain ⟨_, hv, hf⟩ := bs1 hf
      refine x_getr hx hb hts hown hE hP fl_X4_30 (nb30 hN) gX_30_6 hv dX4_isAhead_105 ?_
      refine x_get hx hb hts hown hE hP fl_X4_142 (nb17 hN) gX_17_6 dX4_isAhead_108 ?_
      refine lv_iload hx hb dX4_isAhead_111 (lv_at hl 0 rfl) ?_
      obtain ⟨v6, hv, hf⟩ := bs1 hf
      refine x_iald hx hb hE hP (nb24 hN) (aX_24 _) hv dX4_isAhead_113 ?_
      refine lv_icmp_ge (tgt := 121) hx hb dX4_isAhead_114 (by decide) (fun hc => ?_) (fun hc => ?_)
      · have hf := ip hc hf
        refine lv_iconst (v := 0) hx hb dX4_isAhead_121 nc_0 ?_
        cases hf
        exact hret _ _ _ _ dX4_isAhead_122 (Or.inl rfl) hP hS
      · have hf := iq hc hf
        refine lv_iconst (v := 1) hx hb dX4_isAhead_117 nc_1 ?_
        refine lv_goto (tgt := 122) hx hb dX4_isAhead_118 (by decide) ?_
        cases hf
        exact hret _ _ _ _ dX4_isAhead_122 (Or.inr rfl) hP hS
    · have hf := iq hc hf
      refine lv_aload_n hx hb dX4_isAhead_73 rfl (lv_at hl 2 rfl) ?_
      refine x_get hx hb hts hown hE hP fl_X4_18 (nb30 hN) gX_30_2 dX4_isAhead_74 ?_
      refine lv_iload_n hx hb dX4_isAhead_77 rfl (lv_at hl 1 rfl) ?_
      obtain ⟨v7, hv, hf⟩ := bs1 hf
      refine x_iald hx hb hE hP (nb33 hN) (aX_33 _) hv dX4_isAhead_78 ?_
      refine lv_aload_n hx hb dX4_isAhead_79 rfl (lv_at hl 2 rfl) ?_
      refine x_get hx hb hts hown hE hP fl_X4_18 (nb30 hN) gX_30_2 dX4_isAhead_80 ?_
      refine lv_iload hx hb dX4_isAhead_83 (lv_at hl 0 rfl) ?_
      obtain ⟨v8, hv, hf⟩ := bs1 hf
      refine x_iald hx hb hE hP (nb33 hN) (aX_33 _) hv dX4_isAhead_85 ?_
      refine lv_icmp_ge (tgt := 93) hx hb dX4_isAhead_86 (by decide) (fun hc => ?_) (fun hc => ?_)
      · have hf := ip hc hf
        refine lv_iconst (v := 0) hx hb dX4_isAhead_93 nc_0 ?_
        cases hf
        exact hret _ _ _ _ dX4_isAhead_94 (Or.inl rfl) hP hS
      · have hf := iq hc hf
        refine lv_iconst (v := 1) hx hb dX4_isAhead_89 nc_1 ?_
        refine lv_goto (tgt := 94) hx hb dX4_isAhead_90 (by decide) ?_
        cases hf
        exact hret _ _ _ _ dX4_isAhead_94 (Or.inr rfl) hP hS
  · have hf := ip hc hf
    refine lv_iload_n hx hb dX4_isAhead_19 rfl (lv_at hl 4 rfl) ?_
    refine lv_iload hx hb dX4_isAhead_20 (lv_at hl 0 rfl) ?_
    refine lv_icmp_eq (tgt := 51) hx hb dX4_isAhead_22 (by decide) (fun hc => ?_) (fun hc => ?_)
    · have hf := ip hc hf
      refine lv_iconst (v := 1) hx hb dX4_isAhead_51 nc_1 ?_
      refine lv_goto (tgt := 56) hx hb dX4_isAhead_52 (by decide) ?_
      cases hf
      exact hret _ _ _ _ dX4_isAhead_56 (Or.inr rfl) hP hS
    · have hf := iq hc hf
      refine lv_iload_n hx hb dX4_isAhead_25 rfl (lv_at hl 3 rfl) ?_
      refine lv_iload_n hx hb dX4_isAhead_26 rfl (lv_at hl 1 rfl) ?_
      refine lv_icmp_eq (tgt := 55) hx hb dX4_isAhead_27 (by decide) (fun hc => ?_) (fun hc => ?_)
      · have hf := ip hc hf
        refine lv_iconst (v := 0) hx hb dX4_isAhead_55 nc_0 ?_
        cases hf
        exact hret _ _ _ _ dX4_isAhead_56 (Or.inl rfl) hP hS
      · have hf := iq hc hf
        refine lv_aload_n hx hb dX4_isAhead_30 rfl (lv_at hl 2 rfl) ?_
        obtain ⟨_, hv, hf⟩ := bs1 hf
        refine x_getr hx hb hts hown hE hP fl_X4_30 (nb30 hN) gX_30_6 hv dX4_isAhead_31 ?_
        refine x_get hx hb hts hown hE hP fl_X4_142 (nb17 hN) gX_17_6 dX4_isAhead_34 ?_
        refine lv_iload_n hx hb dX4_isAhead_37 rfl (lv_at hl 3 rfl) ?_
        obtain ⟨v9, hv, hf⟩ := bs1 hf
        refine x_iald hx hb hE hP (nb24 hN) (aX_24 _) hv dX4_isAhead_38 ?_
        refine lv_aload_n hx hb dX4_isAhead_39 rfl (lv_at hl 2 rfl) ?_
        obtain ⟨_, hv, hf⟩ := bs1 hf
        refine x_getr hx hb hts hown hE hP fl_X4_30 (nb30 hN) gX_30_6 hv dX4_isAhead_40 ?_
        refine x_get hx hb hts hown hE hP fl_X4_142 (nb17 hN) gX_17_6 dX4_isAhead_43 ?_
        refine lv_iload_n hx hb dX4_isAhead_46 rfl (lv_at hl 4 rfl) ?_
        obtain ⟨v10, hv, hf⟩ := bs1 hf
        refine x_iald hx hb hE hP (nb24 hN) (aX_24 _) hv dX4_isAhead_47 ?_
        refine lv_icmp_ge (tgt := 55) hx hb dX4_isAhead_48 (by decide) (fun hc => ?_) (fun hc => ?_)
        · have hf := ip hc hf
          refine lv_iconst (v := 0) hx hb dX4_isAhead_55 nc_0 ?_
          cases hf
          exact hret _ _ _ _ dX4_isAhead_56 (Or.inl rfl) hP hS
        · have hf := iq hc hf
          refine lv_iconst (v := 1) hx hb dX4_isAhead_51 nc_1 ?_
          refine lv_goto (tgt := 56) hx hb dX4_isAhead_52 (by decide) ?_
          cases hf
          exact hret _ _ _ _ dX4_isAhead_56 (Or.inr rfl) hP hS
def LX4_run_2 : Nat → Int32 → Mm → Option (Mm)
  | 0, _, _ => none
  | fu + 1, v1, w2 =>
    bd1 (gq (w2 30 6) 17) fun _ =>
    if (w2 17 12) ≤ v1 then
      some (w2)
    else
      bd1 (fX4_mount w2 v1) fun w5 =>
      bd2 (fX4_moveUntil w5 200) fun v6 w7 =>
      bd1 (wr w7 33 8 v1 v6) fun w8 =>
      LX4_run_2 fu (v1 + 1) w8
def LX4_run_54 (v9 : Int32) (w10 : Mm) : Nat → Int32 → Int32 → Option (Int32)
  | 0, _, _ => none
  | fu + 1, v13, v14 =>
    bd1 (gq (w10 30 6) 17) fun _ =>
    if (w10 17 12) ≤ v14 then
      some (v13)
    else
      bd1 (
        if v14 = v9 then
          some (0)
        else
          bd1 (fX4_isAhead w10 v14 v9) fun v19 =>
          if v19 = 0 then
            some (0)
          else
            some (1)) fun (v17 : Int32) =>
      LX4_run_54 v9 w10 fu (v13 + v17) (v14 + 1)
def LX4_run_39 : Nat → Int32 → Mm → Option (Mm)
  | 0, _, _ => none
  | fu + 1, v9, w10 =>
    bd1 (gq (w10 30 6) 17) fun _ =>
    if (w10 17 12) ≤ v9 then
      some (w10)
    else
      bd1 (LX4_run_54 v9 w10 1000 0 0) fun (v16 : Int32) =>
      bd1 (wr w10 34 8 v9 (v16 + 1)) fun w20 =>
      bd1 (wr w20 35 8 v16 v9) fun w21 =>
      LX4_run_39 fu (v9 + 1) w21
def fX4_run (w : Mm) : Option (Mm) :=
  bd1 (LX4_run_2 1000 0 w) fun (w4 : Mm) =>
  bd1 (LX4_run_39 1000 0 w4) fun (w12 : Mm) =>
  some w12
set_option maxHeartbeats 4000000 in
set_option maxRecDepth 100000 in
theorem kX4_run {l : Launch} {κ : Kp} {tl : Nat} {N : Nat} {ad : Nat → Nat} {w : Mm} {w' : Mm} (hN : 52 ≤ N) (hD : Apt ad N) (hf : fX4_run w = some w') : Met l yX4_run (Cond.code yX4_run cX4_run 4 none :: TB) (rmX 4 87) (PcX κ (wX κ tl) N ad w [.ref (ad 30)]) (QV κ (wX κ tl) N ad w') 0 0 (Aof ad N) := by
  refine mkV (by decide +kernel) (Nat.le_of_ble_eq_true rfl) (fun p e R s m args below meth c Q H locs ls hC hRf hRl hP hS hret hl => ?_)
  obtain ⟨hx, hb, hml, hown, hts, hE⟩ := hC
  have hA : ∀ k, k < N → Aof ad N (ad k) := fun k h => Aof_in h
  have hAA : ∀ z, Aof ad N z → Aof ad N z := fun _ h => h
  have hl : lv_has ls 4 [(0, .ref (ad 30))] := hl
  unfold fX4_run at hf
  refine lv_iconst (v := 0) hx hb dX4_run_0 nc_0 ?_
  refine lv_istore_n (lv' := [(1, .int 0), (0, .ref (ad 30))]) hx hb dX4_run_1 rfl hl (by decide) rfl (fun ls hl => ?_)
  obtain ⟨w4, hq3, hf⟩ := bs1 hf
  have hJ3 : ∀ (H : Heap) (locs : List Loc) (ls : Array Slot), Ho κ (wX κ tl) N ad w4 H → va_S (Aof ad N) s.heap H locs → lv_has ls 4 [(0, .ref (ad 30))] → W p l e R s m args below meth c H locs 0 0 Q (F0 m 37 ls []) := by
    intro H locs ls hP hS hl
    refine lv_iconst (v := 0) hx hb dX4_run_37 nc_0 ?_
    refine lv_istore_n (lv' := [(1, .int 0), (0, .ref (ad 30))]) hx hb dX4_run_38 rfl hl (by decide) rfl (fun ls hl => ?_)
    obtain ⟨w12, hq11, hf⟩ := bs1 hf
    have hJ11 : ∀ (H : Heap) (locs : List Loc) (ls : Array Slot), Ho κ (wX κ tl) N ad w12 H → va_S (Aof ad N) s.heap H locs → lv_has ls 4 [] → W p l e R s m args below meth c H locs 0 0 Q (F0 m 115 ls []) := by
      intro H locs ls hP hS hl
      cases hf
      exact hret _ _ _ _ dX4_run_115 hP hS
    clear hf
    have hf := hq11
    clear hq11
    have hL11 : ∀ (fu : Nat) (v9 : Int32) (w10 : Mm) (H : Heap) (locs : List Loc) (ls : Array Slot), LX4_run_39 fu v9 w10 = some (w12) → Ho κ (wX κ tl) N ad w10 H → va_S (Aof ad N) s.heap H locs → lv_has ls 4 [(0, .ref (ad 30)), (1, .int v9)] → W p l e R s m args below meth c H locs 0 0 Q (F0 m 39 ls []) := by
      intro fu
      induction fu with
      | zero =>
        intro v9 w10 H locs ls hf
        rw [LX4_run_39] at hf
        cases hf
      | succ fu ih =>
        intro v9 w10 H locs ls hf hP hS hl
        rw [LX4_run_39] at hf
        refine lv_iload_n hx hb dX4_run_39 rfl (lv_at hl 1 rfl) ?_
        refine lv_aload_n hx hb dX4_run_40 rfl (lv_at hl 0 rfl) ?_
        obtain ⟨_, hv, hf⟩ := bs1 hf
        refine x_getr hx hb hts hown hE hP fl_X4_30 (nb30 hN) gX_30_6 hv dX4_run_41 ?_
        refine x_get hx hb hts hown hE hP fl_X4_64 (nb17 hN) gX_17_12 dX4_run_44 ?_
        refine lv_icmp_ge (tgt := 115) hx hb dX4_run_47 (by decide) (fun hc => ?_) (fun hc => ?_)
        · have hf := ip hc hf
          cases hf
          exact hJ11 _ _ _ hP hS (lv_sub hl [] rfl)
        · have hf := iq hc hf
          refine lv_iconst (v := 0) hx hb dX4_run_50 nc_0 ?_
          refine lv_istore_n (lv' := [(2, .int 0), (0, .ref (ad 30)), (1, .int v9)]) hx hb dX4_run_51 rfl hl (by decide) rfl (fun ls hl => ?_)
          refine lv_iconst (v := 0) hx hb dX4_run_52 nc_0 ?_
          refine lv_istore_n (lv' := [(3, .int 0), (2, .int 0), (0, .ref (ad 30)), (1, .int v9)]) hx hb dX4_run_53 rfl hl (by decide) rfl (fun ls hl => ?_)
          obtain ⟨v16, hq15, hf⟩ := bs1 hf
          have hJ15 : ∀ (H : Heap) (locs : List Loc) (ls : Array Slot), Ho κ (wX κ tl) N ad w10 H → va_S (Aof ad N) s.heap H locs → lv_has ls 4 [(0, .ref (ad 30)), (1, .int v9), (2, .int v16)] → W p l e R s m args below meth c H locs 0 0 Q (F0 m 93 ls []) := by
            intro H locs ls hP hS hl
            refine lv_aload_n hx hb dX4_run_93 rfl (lv_at hl 0 rfl) ?_
            refine x_get hx hb hts hown hE hP fl_X4_21 (nb30 hN) gX_30_3 dX4_run_94 ?_
            refine lv_iload_n hx hb dX4_run_97 rfl (lv_at hl 1 rfl) ?_
            refine lv_iload_n hx hb dX4_run_98 rfl (lv_at hl 2 rfl) ?_
            refine lv_iconst (v := 1) hx hb dX4_run_99 nc_1 ?_
            refine lv_iadd hx hb dX4_run_100 ?_
            obtain ⟨w20, hv, hf⟩ := bs1 hf
            refine x_iast hx hb hE hD hA hP hS (nb34 hN) aX_34 hv dX4_run_101 (fun H locs hP hS => ?_)
            refine lv_aload_n hx hb dX4_run_102 rfl (lv_at hl 0 rfl) ?_
            refine x_get hx hb hts hown hE hP fl_X4_24 (nb30 hN) gX_30_4 dX4_run_103 ?_
            refine lv_iload_n hx hb dX4_run_106 rfl (lv_at hl 2 rfl) ?_
            refine lv_iload_n hx hb dX4_run_107 rfl (lv_at hl 1 rfl) ?_
            obtain ⟨w21, hv, hf⟩ := bs1 hf
            refine x_iast hx hb hE hD hA hP hS (nb35 hN) aX_35 hv dX4_run_108 (fun H locs hP hS => ?_)
            refine lv_iinc (v := (v9 + 1)) (lv' := [(1, .int (v9 + 1)), (0, .ref (ad 30)), (2, .int v16)]) hx hb dX4_run_109 hl (k := 1) rfl (ni_1 _) (by decide) rfl (fun ls hl => ?_)
            refine lv_goto (tgt := 39) hx hb dX4_run_112 (by decide) ?_
            exact ih _ _ _ _ _ hf hP hS (lv_sub hl [1, 0] rfl)
          clear hf
          have hf := hq15
          clear hq15
          have hL15 : ∀ (fu : Nat) (v13 : Int32) (v14 : Int32) (H : Heap) (locs : List Loc) (ls : Array Slot), LX4_run_54 v9 w10 fu v13 v14 = some (v16) → Ho κ (wX κ tl) N ad w10 H → va_S (Aof ad N) s.heap H locs → lv_has ls 4 [(0, .ref (ad 30)), (1, .int v9), (2, .int v13), (3, .int v14)] → W p l e R s m args below meth c H locs 0 0 Q (F0 m 54 ls []) := by
            intro fu
            induction fu with
            | zero =>
              intro v13 v14 H locs ls hf
              rw [LX4_run_54] at hf
              cases hf
            | succ fu ih =>
              intro v13 v14 H locs ls hf hP hS hl
              rw [LX4_run_54] at hf
              refine lv_iload_n hx hb dX4_run_54 rfl (lv_at hl 3 rfl) ?_
              refine lv_aload_n hx hb dX4_run_55 rfl (lv_at hl 0 rfl) ?_
              obtain ⟨_, hv, hf⟩ := bs1 hf
              refine x_getr hx hb hts hown hE hP fl_X4_30 (nb30 hN) gX_30_6 hv dX4_run_56 ?_
              refine x_get hx hb hts hown hE hP fl_X4_64 (nb17 hN) gX_17_12 dX4_run_59 ?_
              refine lv_icmp_ge (tgt := 93) hx hb dX4_run_62 (by decide) (fun hc => ?_) (fun hc => ?_)
              · have hf := ip hc hf
                cases hf
                exact hJ15 _ _ _ hP hS (lv_sub hl [0, 1, 2] rfl)
              · have hf := iq hc hf
                refine lv_iload_n hx hb dX4_run_65 rfl (lv_at hl 2 rfl) ?_
                refine lv_iload_n hx hb dX4_run_66 rfl (lv_at hl 3 rfl) ?_
                refine lv_iload_n hx hb dX4_run_67 rfl (lv_at hl 1 rfl) ?_
                obtain ⟨v17, hq18, hf⟩ := bs1 hf
                have hJ18 : ∀ (H : Heap) (locs : List Loc) (ls : Array Slot), Ho κ (wX κ tl) N ad w10 H → va_S (Aof ad N) s.heap H locs → lv_has ls 4 [(0, .ref (ad 30)), (1, .int v9), (3, .int v14)] → W p l e R s m args below meth c H locs 0 0 Q (F0 m 85 ls [.int v17, .int v13]) := by
                  intro H locs ls hP hS hl
                  refine lv_iadd hx hb dX4_run_85 ?_
                  refine lv_istore_n (lv' := [(2, .int (v13 + v17)), (0, .ref (ad 30)), (1, .int v9), (3, .int v14)]) hx hb dX4_run_86 rfl hl (by decide) rfl (fun ls hl => ?_)
                  refine lv_iinc (v := (v14 + 1)) (lv' := [(3, .int (v14 + 1)), (2, .int (v13 + v17)), (0, .ref (ad 30)), (1, .int v9)]) hx hb dX4_run_87 hl (k := 3) rfl (ni_1 _) (by decide) rfl (fun ls hl => ?_)
                  refine lv_goto (tgt := 54) hx hb dX4_run_90 (by decide) ?_
                  exact ih _ _ _ _ _ hf hP hS (lv_sub hl [2, 3, 1, 0] rfl)
                clear hf
                have hf := hq18
                clear hq18
                refine lv_icmp_eq (tgt := 84) hx hb dX4_run_68 (by decide) (fun hc => ?_) (fun hc => ?_)
                · have hf := ip hc hf
                  refine lv_iconst (v := 0) hx hb dX4_run_84 nc_0 ?_
                  cases hf
                  exact hJ18 _ _ _ hP hS (lv_sub hl [0, 1, 3] rfl)
                · have hf := iq hc hf
                  refine lv_aload_n hx hb dX4_run_71 rfl (lv_at hl 0 rfl) ?_
                  refine lv_iload_n hx hb dX4_run_72 rfl (lv_at hl 3 rfl) ?_
                  refine lv_iload_n hx hb dX4_run_73 rfl (lv_at hl 1 rfl) ?_
                  obtain ⟨v19, hv, hf⟩ := bs1 hf
                  refine x_cVi (As := [.int v14, .int v9]) (rest := [.int v13]) hx hb hml hts hown hE hP hS hAA (kX4_isAhead hN hD hv) cl_X4_75 (nb30 hN) oX_30 vc_4 (Nat.le_trans (by decide) hRf) (Nat.le_trans (by decide) hRl) (Nat.zero_le _) (Nat.zero_le _) rfl hl.1 rfl (Nat.le_of_ble_eq_true rfl) dX4_run_74 (fun H locs hP hS => ?_)
                  refine lv_if_eq (tgt := 84) hx hb dX4_run_77 (by decide) (fun hc => ?_) (fun hc => ?_)
                  · have hf := ip hc hf
                    refine lv_iconst (v := 0) hx hb dX4_run_84 nc_0 ?_
                    cases hf
                    exact hJ18 _ _ _ hP hS (lv_sub hl [0, 1, 3] rfl)
                  · have hf := iq hc hf
                    refine lv_iconst (v := 1) hx hb dX4_run_80 nc_1 ?_
                    refine lv_goto (tgt := 85) hx hb dX4_run_81 (by decide) ?_
                    cases hf
                    exact hJ18 _ _ _ hP hS (lv_sub hl [0, 1, 3] rfl)
          exact hL15 _ _ _ _ _ _ hf hP hS (lv_sub hl [2, 3, 1, 0] rfl)
    exact hL11 _ _ _ _ _ _ hf hP hS (lv_sub hl [1, 0] rfl)
  clear hf
  have hf := hq3
  clear hq3
  have hL3 : ∀ (fu : Nat) (v1 : Int32) (w2 : Mm) (H : Heap) (locs : List Loc) (ls : Array Slot), LX4_run_2 fu v1 w2 = some (w4) → Ho κ (wX κ tl) N ad w2 H → va_S (Aof ad N) s.heap H locs → lv_has ls 4 [(0, .ref (ad 30)), (1, .int v1)] → W p l e R s m args below meth c H locs 0 0 Q (F0 m 2 ls []) := by
    intro fu
    induction fu with
    | zero =>
      intro v1 w2 H locs ls hf
      rw [LX4_run_2] at hf
      cases hf
    | succ fu ih =>
      intro v1 w2 H locs ls hf hP hS hl
      rw [LX4_run_2] at hf
      refine lv_iload_n hx hb dX4_run_2 rfl (lv_at hl 1 rfl) ?_
      refine lv_aload_n hx hb dX4_run_3 rfl (lv_at hl 0 rfl) ?_
      obtain ⟨_, hv, hf⟩ := bs1 hf
      refine x_getr hx hb hts hown hE hP fl_X4_30 (nb30 hN) gX_30_6 hv dX4_run_4 ?_
      refine x_get hx hb hts hown hE hP fl_X4_64 (nb17 hN) gX_17_12 dX4_run_7 ?_
      refine lv_icmp_ge (tgt := 37) hx hb dX4_run_10 (by decide) (fun hc => ?_) (fun hc => ?_)
      · have hf := ip hc hf
        cases hf
        exact hJ3 _ _ _ hP hS (lv_sub hl [0] rfl)
      · have hf := iq hc hf
        refine lv_aload_n hx hb dX4_run_13 rfl (lv_at hl 0 rfl) ?_
        refine lv_iload_n hx hb dX4_run_14 rfl (lv_at hl 1 rfl) ?_
        obtain ⟨w5, hv, hf⟩ := bs1 hf
        refine x_cVv (As := [.int v1]) (rest := []) hx hb hml hts hown hE hP hS hAA (kX4_mount hN hD hv) cl_X4_67 (nb30 hN) oX_30 vc_4 (Nat.le_trans (by decide) hRf) (Nat.le_trans (by decide) hRl) (Nat.zero_le _) (Nat.zero_le _) rfl hl.1 rfl (Nat.le_of_ble_eq_true rfl) dX4_run_15 (fun H locs hP hS => ?_)
        refine lv_aload_n hx hb dX4_run_18 rfl (lv_at hl 0 rfl) ?_
        refine x_get hx hb hts hown hE hP fl_X4_18 (nb30 hN) gX_30_2 dX4_run_19 ?_
        refine lv_iload_n hx hb dX4_run_22 rfl (lv_at hl 1 rfl) ?_
        refine lv_aload_n hx hb dX4_run_23 rfl (lv_at hl 0 rfl) ?_
        refine lv_sipush (v := 200) hx hb dX4_run_24 ns_200 ?_
        obtain ⟨v6, w7, hv, hf⟩ := bs2 hf
        refine x_cVi (As := [.int 200]) (rest := [.int v1, .ref (ad 33)]) hx hb hml hts hown hE hP hS hAA (kX4_moveUntil hN hD hv) cl_X4_71 (nb30 hN) oX_30 vc_4 (Nat.le_trans (by decide) hRf) (Nat.le_trans (by decide) hRl) (Nat.zero_le _) (Nat.zero_le _) rfl hl.1 rfl (Nat.le_of_ble_eq_true rfl) dX4_run_27 (fun H locs hP hS => ?_)
        obtain ⟨w8, hv, hf⟩ := bs1 hf
        refine x_iast hx hb hE hD hA hP hS (nb33 hN) aX_33 hv dX4_run_30 (fun H locs hP hS => ?_)
        refine lv_iinc (v := (v1 + 1)) (lv' := [(1, .int (v1 + 1)), (0, .ref (ad 30))]) hx hb dX4_run_31 hl (k := 1) rfl (ni_1 _) (by decide) rfl (fun ls hl => ?_)
        refine lv_goto (tgt := 2) hx hb dX4_run_34 (by decide) ?_
        exact ih _ _ _ _ _ hf hP hS (lv_sub hl [1, 0] rfl)
  exact hL3 _ _ _ _ _ _ hf hP hS (lv_sub hl [1, 0] rfl)
def fX8_raceAsItIs (w : Mm) : Option (Mm) :=
  bd1 (gq (w 16 3) 17) fun _ =>
  bd1 (fX4_prepare w) fun w1 =>
  bd1 (fX4_run w1) fun w2 =>
  some w2
set_option maxHeartbeats 4000000 in
set_option maxRecDepth 100000 in
theorem kX8_raceAsItIs {l : Launch} {κ : Kp} {tl : Nat} {N : Nat} {ad : Nat → Nat} {w : Mm} {w' : Mm} (hN : 52 ≤ N) (hD : Apt ad N) (hf : fX8_raceAsItIs w = some w') : Met l yX8_raceAsItIs (Cond.code yX8_raceAsItIs cX8_raceAsItIs 1 none :: TB) (rmX 5 110) (PcX κ (wX κ tl) N ad w [.ref (ad 16)]) (QV κ (wX κ tl) N ad w') 0 0 (Aof ad N) := by
  refine mkV (by decide +kernel) (Nat.le_of_ble_eq_true rfl) (fun p e R s m args below meth c Q H locs ls hC hRf hRl hP hS hret hl => ?_)
  obtain ⟨hx, hb, hml, hown, hts, hE⟩ := hC
  have hA : ∀ k, k < N → Aof ad N (ad k) := fun k h => Aof_in h
  have hAA : ∀ z, Aof ad N z → Aof ad N z := fun _ h => h
  have hl : lv_has ls 1 [(0, .ref (ad 16))] := hl
  unfold fX8_raceAsItIs at hf
  refine lv_aload_n hx hb dX8_raceAsItIs_0 rfl (lv_at hl 0 rfl) ?_
  refine x_get hx hb hts hown hE hP fl_X8_43 (nb16 hN) gX_16_5 dX8_raceAsItIs_1 ?_
  refine lv_aload_n hx hb dX8_raceAsItIs_4 rfl (lv_at hl 0 rfl) ?_
  obtain ⟨_, hv, hf⟩ := bs1 hf
  refine x_getr hx hb hts hown hE hP fl_X8_28 (nb16 hN) gX_16_3 hv dX8_raceAsItIs_5 ?_
  obtain ⟨w1, hv, hf⟩ := bs1 hf
  refine x_cVv (As := [.ref (ad 17)]) (rest := []) hx hb hml hts hown hE hP hS hAA (kX4_prepare hN hD hv) cl_X8_134 (nb30 hN) oX_30 vc_4 (Nat.le_trans (by decide) hRf) (Nat.le_trans (by decide) hRl) (Nat.zero_le _) (Nat.zero_le _) rfl hl.1 rfl (Nat.le_of_ble_eq_true rfl) dX8_raceAsItIs_8 (fun H locs hP hS => ?_)
  refine lv_aload_n hx hb dX8_raceAsItIs_11 rfl (lv_at hl 0 rfl) ?_
  refine x_get hx hb hts hown hE hP fl_X8_43 (nb16 hN) gX_16_5 dX8_raceAsItIs_12 ?_
  obtain ⟨w2, hv, hf⟩ := bs1 hf
  refine x_cVv (As := []) (rest := []) hx hb hml hts hown hE hP hS hAA (kX4_run hN hD hv) cl_X8_184 (nb30 hN) oX_30 vc_4 (Nat.le_trans (by decide) hRf) (Nat.le_trans (by decide) hRl) (Nat.zero_le _) (Nat.zero_le _) rfl hl.1 rfl (Nat.le_of_ble_eq_true rfl) dX8_raceAsItIs_15 (fun H locs hP hS => ?_)
  cases hf
  exact hret _ _ _ _ dX8_raceAsItIs_18 hP hS
def fX8_rank (w : Mm) (x1 : Int32) : Option (Int32 × Mm) :=
  bd1 (gq (w 16 3) 17) fun _ =>
  bd1 (fX6_has_l w x1) fun v1 =>
  if v1 = 0 then
    some ((-1), w)
  else
    bd1 (fX8_raceAsItIs w) fun w2 =>
    bd1 (rd w2 34 8 x1) fun v3 =>
    some (v3, w2)
set_option maxHeartbeats 4000000 in
set_option maxRecDepth 100000 in
theorem kX8_rank {l : Launch} {κ : Kp} {tl : Nat} {N : Nat} {ad : Nat → Nat} {w : Mm} {x1 : Int32} {r : Int32} {w' : Mm} (hN : 52 ≤ N) (hD : Apt ad N) (hf : fX8_rank w x1 = some (r, w')) : Met l yX8_rank (Cond.code yX8_rank cX8_rank 2 (some .int) :: TB) (rmX 6 130) (PcX κ (wX κ tl) N ad w [.ref (ad 16), .int x1]) (QI κ (wX κ tl) N ad w' r) 0 0 (Aof ad N) := by
  refine mkI (by decide +kernel) (Nat.le_of_ble_eq_true rfl) (fun p e R s m args below meth c Q H locs ls hC hRf hRl hP hS hret hl => ?_)
  obtain ⟨hx, hb, hml, hown, hts, hE⟩ := hC
  have hA : ∀ k, k < N → Aof ad N (ad k) := fun k h => Aof_in h
  have hAA : ∀ z, Aof ad N z → Aof ad N z := fun _ h => h
  have hl : lv_has ls 2 [(0, .ref (ad 16)), (1, .int x1)] := hl
  unfold fX8_rank at hf
  refine lv_aload_n hx hb dX8_rank_0 rfl (lv_at hl 0 rfl) ?_
  obtain ⟨_, hv, hf⟩ := bs1 hf
  refine x_getr hx hb hts hown hE hP fl_X8_28 (nb16 hN) gX_16_3 hv dX8_rank_1 ?_
  refine lv_iload_n hx hb dX8_rank_4 rfl (lv_at hl 1 rfl) ?_
  obtain ⟨v1, hv, hf⟩ := bs1 hf
  refine x_cVi (As := [.int x1]) (rest := []) hx hb hml hts hown hE hP hS hAA (kX6_has_l hN hD hv) cl_X8_105 (nb17 hN) oX_17 vc_6 (Nat.le_trans (by decide) hRf) (Nat.le_trans (by decide) hRl) (Nat.zero_le _) (Nat.zero_le _) rfl hl.1 rfl (Nat.le_of_ble_eq_true rfl) dX8_rank_5 (fun H locs hP hS => ?_)
  refine lv_if_ne (tgt := 13) hx hb dX8_rank_8 (by decide) (fun hc => ?_) (fun hc => ?_)
  · have hf := iq hc hf
    refine lv_aload_n hx hb dX8_rank_13 rfl (lv_at hl 0 rfl) ?_
    obtain ⟨w2, hv, hf⟩ := bs1 hf
    refine x_cVv (As := []) (rest := []) hx hb hml hts hown hE hP hS hAA (kX8_raceAsItIs hN hD hv) cl_X8_157 (nb16 hN) oX_16 vc_8 (Nat.le_trans (by decide) hRf) (Nat.le_trans (by decide) hRl) (Nat.zero_le _) (Nat.zero_le _) rfl hl.1 rfl (Nat.le_of_ble_eq_true rfl) dX8_rank_14 (fun H locs hP hS => ?_)
    refine lv_aload_n hx hb dX8_rank_17 rfl (lv_at hl 0 rfl) ?_
    refine x_get hx hb hts hown hE hP fl_X8_43 (nb16 hN) gX_16_5 dX8_rank_18 ?_
    refine x_get hx hb hts hown hE hP fl_X8_160 (nb30 hN) gX_30_3 dX8_rank_21 ?_
    refine lv_iload_n hx hb dX8_rank_24 rfl (lv_at hl 1 rfl) ?_
    obtain ⟨v3, hv, hf⟩ := bs1 hf
    refine x_iald hx hb hE hP (nb34 hN) (aX_34 _) hv dX8_rank_25 ?_
    cases hf
    exact hret _ _ _ _ dX8_rank_26 hP hS
  · have hf := ip hc hf
    refine lv_iconst (v := (-1)) hx hb dX8_rank_11 nc_m1 ?_
    cases hf
    exact hret _ _ _ _ dX8_rank_12 hP hS
def fX8_who (w : Mm) (x1 : Int32) : Option (Int32 × Mm) :=
  bd1 (gq (w 16 3) 17) fun _ =>
  bd1 (fX8_within x1 1 (w 17 12)) fun v1 =>
  if v1 = 0 then
    some ((-1), w)
  else
    bd1 (fX8_raceAsItIs w) fun w2 =>
    bd1 (rd w2 35 8 (x1 - 1)) fun v3 =>
    some (v3, w2)
set_option maxHeartbeats 4000000 in
set_option maxRecDepth 100000 in
theorem kX8_who {l : Launch} {κ : Kp} {tl : Nat} {N : Nat} {ad : Nat → Nat} {w : Mm} {x1 : Int32} {r : Int32} {w' : Mm} (hN : 52 ≤ N) (hD : Apt ad N) (hf : fX8_who w x1 = some (r, w')) : Met l yX8_who (Cond.code yX8_who cX8_who 2 (some .int) :: TB) (rmX 6 130) (PcX κ (wX κ tl) N ad w [.ref (ad 16), .int x1]) (QI κ (wX κ tl) N ad w' r) 0 0 (Aof ad N) := by
  refine mkI (by decide +kernel) (Nat.le_of_ble_eq_true rfl) (fun p e R s m args below meth c Q H locs ls hC hRf hRl hP hS hret hl => ?_)
  obtain ⟨hx, hb, hml, hown, hts, hE⟩ := hC
  have hA : ∀ k, k < N → Aof ad N (ad k) := fun k h => Aof_in h
  have hAA : ∀ z, Aof ad N z → Aof ad N z := fun _ h => h
  have hl : lv_has ls 2 [(0, .ref (ad 16)), (1, .int x1)] := hl
  unfold fX8_who at hf
  refine lv_iload_n hx hb dX8_who_0 rfl (lv_at hl 1 rfl) ?_
  refine lv_iconst (v := 1) hx hb dX8_who_1 nc_1 ?_
  refine lv_aload_n hx hb dX8_who_2 rfl (lv_at hl 0 rfl) ?_
  obtain ⟨_, hv, hf⟩ := bs1 hf
  refine x_getr hx hb hts hown hE hP fl_X8_28 (nb16 hN) gX_16_3 hv dX8_who_3 ?_
  refine x_get hx hb hts hown hE hP fl_X8_102 (nb17 hN) gX_17_12 dX8_who_6 ?_
  obtain ⟨v1, hv, hf⟩ := bs1 hf
  refine x_cSi (As := [.int x1, .int 1, .int (w 17 12)]) (rest := []) hx hb hml hts hown hE hP hS hAA (kX8_within hv) cl_X8_82 (Nat.le_trans (by decide) hRf) (Nat.le_trans (by decide) hRl) (Nat.zero_le _) (Nat.zero_le _) rfl hl.1 rfl (Nat.le_of_ble_eq_true rfl) dX8_who_9 (fun H locs hP hS => ?_)
  refine lv_if_ne (tgt := 17) hx hb dX8_who_12 (by decide) (fun hc => ?_) (fun hc => ?_)
  · have hf := iq hc hf
    refine lv_aload_n hx hb dX8_who_17 rfl (lv_at hl 0 rfl) ?_
    obtain ⟨w2, hv, hf⟩ := bs1 hf
    refine x_cVv (As := []) (rest := []) hx hb hml hts hown hE hP hS hAA (kX8_raceAsItIs hN hD hv) cl_X8_157 (nb16 hN) oX_16 vc_8 (Nat.le_trans (by decide) hRf) (Nat.le_trans (by decide) hRl) (Nat.zero_le _) (Nat.zero_le _) rfl hl.1 rfl (Nat.le_of_ble_eq_true rfl) dX8_who_18 (fun H locs hP hS => ?_)
    refine lv_aload_n hx hb dX8_who_21 rfl (lv_at hl 0 rfl) ?_
    refine x_get hx hb hts hown hE hP fl_X8_43 (nb16 hN) gX_16_5 dX8_who_22 ?_
    refine x_get hx hb hts hown hE hP fl_X8_163 (nb30 hN) gX_30_4 dX8_who_25 ?_
    refine lv_iload_n hx hb dX8_who_28 rfl (lv_at hl 1 rfl) ?_
    refine lv_iconst (v := 1) hx hb dX8_who_29 nc_1 ?_
    refine lv_isub hx hb dX8_who_30 ?_
    obtain ⟨v3, hv, hf⟩ := bs1 hf
    refine x_iald hx hb hE hP (nb35 hN) (aX_35 _) hv dX8_who_31 ?_
    cases hf
    exact hret _ _ _ _ dX8_who_32 hP hS
  · have hf := ip hc hf
    refine lv_iconst (v := (-1)) hx hb dX8_who_15 nc_m1 ?_
    cases hf
    exact hret _ _ _ _ dX8_who_16 hP hS
