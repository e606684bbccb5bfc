def fX1_dropOldest (w : Mm) : Option (Mm) :=
  bd1 (pt w 37 3 7) fun w1 =>
  bd1 (cy w1 38 8 1 38 8 0 (w1 37 3)) fun w2 =>
  bd1 (cy w2 39 8 1 39 8 0 (w2 37 3)) fun w3 =>
  bd1 (cy w3 40 8 1 40 8 0 (w3 37 3)) fun w4 =>
  some w4
set_option maxHeartbeats 4000000 in
set_option maxRecDepth 100000 in
theorem kX1_dropOldest {l : Launch} {κ : Kp} {tl : Nat} {N : Nat} {ad : Nat → Nat} {w : Mm} {w' : Mm} (hN : 52 ≤ N) (hD : Apt ad N) (hf : fX1_dropOldest w = some w') : Met l yX1_dropOldest (Cond.code yX1_dropOldest cX1_dropOldest 1 none :: TB) (rmX 1 60) (PcX κ (wX κ tl) N ad w [.ref (ad 37)]) (QV κ (wX κ tl) N ad w') 0 0 (Aof ad N) := by
  refine mkV (by decide +kernel) (Nat.le_of_ble_eq_true rfl) (fun p e R s m args below meth c Q H locs ls hC hRf hRl hP hS hret hl => ?_)
  obtain ⟨hx, hb, hml, hown, hts, hE⟩ := hC
  have hA : ∀ k, k < N → Aof ad N (ad k) := fun k h => Aof_in h
  have hAA : ∀ z, Aof ad N z → Aof ad N z := fun _ h => h
  have hl : lv_has ls 1 [(0, .ref (ad 37))] := hl
  unfold fX1_dropOldest at hf
  refine lv_aload_n hx hb dX1_dropOldest_0 rfl (lv_at hl 0 rfl) ?_
  refine lv_bipush (v := 7) hx hb dX1_dropOldest_1 nb_7 ?_
  obtain ⟨w1, hv, hf⟩ := bs1 hf
  refine x_put hx hb hts hown hE hD hA hP hS fp_X1_21 (nb37 hN) pX_37_3 rfl rfl hv dX1_dropOldest_3 (fun H locs hP hS => ?_)
  refine lv_aload_n hx hb dX1_dropOldest_6 rfl (lv_at hl 0 rfl) ?_
  refine x_get hx hb hts hown hE hP fl_X1_9 (nb37 hN) gX_37_0 dX1_dropOldest_7 ?_
  refine lv_iconst (v := 1) hx hb dX1_dropOldest_10 nc_1 ?_
  refine lv_aload_n hx hb dX1_dropOldest_11 rfl (lv_at hl 0 rfl) ?_
  refine x_get hx hb hts hown hE hP fl_X1_9 (nb37 hN) gX_37_0 dX1_dropOldest_12 ?_
  refine lv_iconst (v := 0) hx hb dX1_dropOldest_15 nc_0 ?_
  refine lv_aload_n hx hb dX1_dropOldest_16 rfl (lv_at hl 0 rfl) ?_
  refine x_get hx hb hts hown hE hP fl_X1_21 (nb37 hN) gX_37_3 dX1_dropOldest_17 ?_
  obtain ⟨w2, hv, hf⟩ := bs1 hf
  refine x_copy hx hb (hml.trans hl.1.symm) hts hown hE hD hA hP hS lc_X1_36 (nb38 hN) (nb38 hN) aX_38 aX_38 hv (Nat.le_trans (by decide) hRf) (Nat.le_trans (Nat.le_of_ble_eq_true (by decide +kernel)) hRl) dX1_dropOldest_20 (fun H locs hP hS => ?_)
  refine lv_aload_n hx hb dX1_dropOldest_23 rfl (lv_at hl 0 rfl) ?_
  refine x_get hx hb hts hown hE hP fl_X1_15 (nb37 hN) gX_37_1 dX1_dropOldest_24 ?_
  refine lv_iconst (v := 1) hx hb dX1_dropOldest_27 nc_1 ?_
  refine lv_aload_n hx hb dX1_dropOldest_28 rfl (lv_at hl 0 rfl) ?_
  refine x_get hx hb hts hown hE hP fl_X1_15 (nb37 hN) gX_37_1 dX1_dropOldest_29 ?_
  refine lv_iconst (v := 0) hx hb dX1_dropOldest_32 nc_0 ?_
  refine lv_aload_n hx hb dX1_dropOldest_33 rfl (lv_at hl 0 rfl) ?_
  refine x_get hx hb hts hown hE hP fl_X1_21 (nb37 hN) gX_37_3 dX1_dropOldest_34 ?_
  obtain ⟨w3, hv, hf⟩ := bs1 hf
  refine x_copy hx hb (hml.trans hl.1.symm) hts hown hE hD hA hP hS lc_X1_36 (nb39 hN) (nb39 hN) aX_39 aX_39 hv (Nat.le_trans (by decide) hRf) (Nat.le_trans (Nat.le_of_ble_eq_true (by decide +kernel)) hRl) dX1_dropOldest_37 (fun H locs hP hS => ?_)
  refine lv_aload_n hx hb dX1_dropOldest_40 rfl (lv_at hl 0 rfl) ?_
  refine x_get hx hb hts hown hE hP fl_X1_18 (nb37 hN) gX_37_2 dX1_dropOldest_41 ?_
  refine lv_iconst (v := 1) hx hb dX1_dropOldest_44 nc_1 ?_
  refine lv_aload_n hx hb dX1_dropOldest_45 rfl (lv_at hl 0 rfl) ?_
  refine x_get hx hb hts hown hE hP fl_X1_18 (nb37 hN) gX_37_2 dX1_dropOldest_46 ?_
  refine lv_iconst (v := 0) hx hb dX1_dropOldest_49 nc_0 ?_
  refine lv_aload_n hx hb dX1_dropOldest_50 rfl (lv_at hl 0 rfl) ?_
  refine x_get hx hb hts hown hE hP fl_X1_21 (nb37 hN) gX_37_3 dX1_dropOldest_51 ?_
  obtain ⟨w4, hv, hf⟩ := bs1 hf
  refine x_copy hx hb (hml.trans hl.1.symm) hts hown hE hD hA hP hS lc_X1_36 (nb40 hN) (nb40 hN) aX_40 aX_40 hv (Nat.le_trans (by decide) hRf) (Nat.le_trans (Nat.le_of_ble_eq_true (by decide +kernel)) hRl) dX1_dropOldest_54 (fun H locs hP hS => ?_)
  cases hf
  exact hret _ _ _ _ dX1_dropOldest_57 hP hS
def fX1_note (w : Mm) (x2 : Int32) : Option (Mm) :=
  bd1 (
    if (w 37 3) < 8 then
      some (w)
    else
      bd1 (fX1_dropOldest w) fun w3 =>
      some (w3)) fun (w1 : Mm) =>
  bd1 (wr w1 38 8 (w1 37 3) x2) fun w4 =>
  bd1 (rd w4 21 8 x2) fun v5 =>
  bd1 (wr w4 39 8 (w4 37 3) v5) fun w6 =>
  bd1 (rd w6 22 8 x2) fun v7 =>
  bd1 (wr w6 40 8 (w6 37 3) v7) fun w8 =>
  bd1 (pt w8 37 3 ((w8 37 3) + 1)) fun w9 =>
  some w9
set_option maxHeartbeats 4000000 in
set_option maxRecDepth 100000 in
theorem kX1_note {l : Launch} {κ : Kp} {tl : Nat} {N : Nat} {ad : Nat → Nat} {w : Mm} {x2 : Int32} {w' : Mm} (hN : 52 ≤ N) (hD : Apt ad N) (hf : fX1_note w x2 = some w') : Met l yX1_note (Cond.code yX1_note cX1_note 3 none :: TB) (rmX 2 80) (PcX κ (wX κ tl) N ad w [.ref (ad 37), .ref (ad 17), .int x2]) (QV κ (wX κ tl) N ad w') 0 0 (Aof ad N) := by
  refine mkV (by decide +kernel) (Nat.le_of_ble_eq_true rfl) (fun p e R s m args below meth c Q H locs ls hC hRf hRl hP hS hret hl => ?_)
  obtain ⟨hx, hb, hml, hown, hts, hE⟩ := hC
  have hA : ∀ k, k < N → Aof ad N (ad k) := fun k h => Aof_in h
  have hAA : ∀ z, Aof ad N z → Aof ad N z := fun _ h => h
  have hl : lv_has ls 3 [(0, .ref (ad 37)), (1, .ref (ad 17)), (2, .int x2)] := hl
  unfold fX1_note at hf
  refine lv_aload_n hx hb dX1_note_0 rfl (lv_at hl 0 rfl) ?_
  refine x_get hx hb hts hown hE hP fl_X1_21 (nb37 hN) gX_37_3 dX1_note_1 ?_
  refine lv_bipush (v := 8) hx hb dX1_note_4 nb_8 ?_
  obtain ⟨w1, hq2, hf⟩ := bs1 hf
  have hJ2 : ∀ (H : Heap) (locs : List Loc) (ls : Array Slot), Ho κ (wX κ tl) N ad w1 H → va_S (Aof ad N) s.heap H locs → lv_has ls 3 [(0, .ref (ad 37)), (1, .ref (ad 17)), (2, .int x2)] → W p l e R s m args below meth c H locs 0 0 Q (F0 m 13 ls []) := by
    intro H locs ls hP hS hl
    refine lv_aload_n hx hb dX1_note_13 rfl (lv_at hl 0 rfl) ?_
    refine x_get hx hb hts hown hE hP fl_X1_9 (nb37 hN) gX_37_0 dX1_note_14 ?_
    refine lv_aload_n hx hb dX1_note_17 rfl (lv_at hl 0 rfl) ?_
    refine x_get hx hb hts hown hE hP fl_X1_21 (nb37 hN) gX_37_3 dX1_note_18 ?_
    refine lv_iload_n hx hb dX1_note_21 rfl (lv_at hl 2 rfl) ?_
    obtain ⟨w4, hv, hf⟩ := bs1 hf
    refine x_iast hx hb hE hD hA hP hS (nb38 hN) aX_38 hv dX1_note_22 (fun H locs hP hS => ?_)
    refine lv_aload_n hx hb dX1_note_23 rfl (lv_at hl 0 rfl) ?_
    refine x_get hx hb hts hown hE hP fl_X1_15 (nb37 hN) gX_37_1 dX1_note_24 ?_
    refine lv_aload_n hx hb dX1_note_27 rfl (lv_at hl 0 rfl) ?_
    refine x_get hx hb hts hown hE hP fl_X1_21 (nb37 hN) gX_37_3 dX1_note_28 ?_
    refine lv_aload_n hx hb dX1_note_31 rfl (lv_at hl 1 rfl) ?_
    refine x_get hx hb hts hown hE hP fl_X1_28 (nb17 hN) gX_17_3 dX1_note_32 ?_
    refine lv_iload_n hx hb dX1_note_35 rfl (lv_at hl 2 rfl) ?_
    obtain ⟨v5, hv, hf⟩ := bs1 hf
    refine x_iald hx hb hE hP (nb21 hN) (aX_21 _) hv dX1_note_36 ?_
    obtain ⟨w6, hv, hf⟩ := bs1 hf
    refine x_iast hx hb hE hD hA hP hS (nb39 hN) aX_39 hv dX1_note_37 (fun H locs hP hS => ?_)
    refine lv_aload_n hx hb dX1_note_38 rfl (lv_at hl 0 rfl) ?_
    refine x_get hx hb hts hown hE hP fl_X1_18 (nb37 hN) gX_37_2 dX1_note_39 ?_
    refine lv_aload_n hx hb dX1_note_42 rfl (lv_at hl 0 rfl) ?_
    refine x_get hx hb hts hown hE hP fl_X1_21 (nb37 hN) gX_37_3 dX1_note_43 ?_
    refine lv_aload_n hx hb dX1_note_46 rfl (lv_at hl 1 rfl) ?_
    refine x_get hx hb hts hown hE hP fl_X1_33 (nb17 hN) gX_17_4 dX1_note_47 ?_
    refine lv_iload_n hx hb dX1_note_50 rfl (lv_at hl 2 rfl) ?_
    obtain ⟨v7, hv, hf⟩ := bs1 hf
    refine x_iald hx hb hE hP (nb22 hN) (aX_22 _) hv dX1_note_51 ?_
    obtain ⟨w8, hv, hf⟩ := bs1 hf
    refine x_iast hx hb hE hD hA hP hS (nb40 hN) aX_40 hv dX1_note_52 (fun H locs hP hS => ?_)
    refine lv_aload_n hx hb dX1_note_53 rfl (lv_at hl 0 rfl) ?_
    refine lv_dup hx hb dX1_note_54 rfl ?_
    refine x_get hx hb hts hown hE hP fl_X1_21 (nb37 hN) gX_37_3 dX1_note_55 ?_
    refine lv_iconst (v := 1) hx hb dX1_note_58 nc_1 ?_
    refine lv_iadd hx hb dX1_note_59 ?_
    obtain ⟨w9, hv, hf⟩ := bs1 hf
    refine x_put hx hb hts hown hE hD hA hP hS fp_X1_21 (nb37 hN) pX_37_3 rfl rfl hv dX1_note_60 (fun H locs hP hS => ?_)
    cases hf
    exact hret _ _ _ _ dX1_note_63 hP hS
  clear hf
  have hf := hq2
  clear hq2
  refine lv_icmp_lt (tgt := 13) hx hb dX1_note_6 (by decide) (fun hc => ?_) (fun hc => ?_)
  · have hf := ip hc hf
    cases hf
    exact hJ2 _ _ _ hP hS (lv_sub hl [0, 1, 2] rfl)
  · have hf := iq hc hf
    refine lv_aload_n hx hb dX1_note_9 rfl (lv_at hl 0 rfl) ?_
    obtain ⟨w3, hv, hf⟩ := bs1 hf
    refine x_cVv (As := []) (rest := []) hx hb hml hts hown hE hP hS hAA (kX1_dropOldest hN hD hv) cl_X1_25 (nb37 hN) oX_37 vc_1 (Nat.le_trans (by decide) hRf) (Nat.le_trans (by decide) hRl) (Nat.zero_le _) (Nat.zero_le _) rfl hl.1 rfl (Nat.le_of_ble_eq_true rfl) dX1_note_10 (fun H locs hP hS => ?_)
    cases hf
    exact hJ2 _ _ _ hP hS (lv_sub hl [0, 1, 2] rfl)
def fX8_start (w : Mm) (x1 x2 : Int32) : Option (Int32 × Mm) :=
  bd1 (gq (w 16 3) 17) fun _ =>
  bd1 (fX6_has_l w x1) fun v1 =>
  if v1 = 0 then
    some ((-1), w)
  else
    bd1 (fX8_within x2 0 30) fun v2 =>
    if v2 = 0 then
      some ((-1), w)
    else
      bd1 (gq (w 16 3) 17) fun _ =>
      bd1 (rd w 21 8 x1) fun v3 =>
      bd1 (gq (w 16 3) 17) fun _ =>
      bd1 (fX1_note w x1) fun w4 =>
      bd1 (gq (w4 16 3) 17) fun _ =>
      bd1 (wr w4 21 8 x1 x2) fun w5 =>
      some (v3, w5)
set_option maxHeartbeats 4000000 in
set_option maxRecDepth 100000 in
theorem kX8_start {l : Launch} {κ : Kp} {tl : Nat} {N : Nat} {ad : Nat → Nat} {w : Mm} {x1 x2 : Int32} {r : Int32} {w' : Mm} (hN : 52 ≤ N) (hD : Apt ad N) (hf : fX8_start w x1 x2 = some (r, w')) : Met l yX8_start (Cond.code yX8_start cX8_start 4 (some .int) :: TB) (rmX 3 102) (PcX κ (wX κ tl) N ad w [.ref (ad 16), .int x1, .int x2]) (QI κ (wX κ tl) N ad w' r) 0 0 (Aof ad N) := by
  refine mkI (by decide +kernel) (Nat.le_of_ble_eq_true rfl) (fun p e R s m args below meth c Q H locs ls hC hRf hRl hP hS hret hl => ?_)
  obtain ⟨hx, hb, hml, hown, hts, hE⟩ := hC
  have hA : ∀ k, k < N → Aof ad N (ad k) := fun k h => Aof_in h
  have hAA : ∀ z, Aof ad N z → Aof ad N z := fun _ h => h
  have hl : lv_has ls 4 [(0, .ref (ad 16)), (1, .int x1), (2, .int x2)] := hl
  unfold fX8_start at hf
  refine lv_aload_n hx hb dX8_start_0 rfl (lv_at hl 0 rfl) ?_
  obtain ⟨_, hv, hf⟩ := bs1 hf
  refine x_getr hx hb hts hown hE hP fl_X8_28 (nb16 hN) gX_16_3 hv dX8_start_1 ?_
  refine lv_iload_n hx hb dX8_start_4 rfl (lv_at hl 1 rfl) ?_
  obtain ⟨v1, hv, hf⟩ := bs1 hf
  refine x_cVi (As := [.int x1]) (rest := []) hx hb hml hts hown hE hP hS hAA (kX6_has_l hN hD hv) cl_X8_105 (nb17 hN) oX_17 vc_6 (Nat.le_trans (by decide) hRf) (Nat.le_trans (by decide) hRl) (Nat.zero_le _) (Nat.zero_le _) rfl hl.1 rfl (Nat.le_of_ble_eq_true rfl) dX8_start_5 (fun H locs hP hS => ?_)
  refine lv_if_eq (tgt := 21) hx hb dX8_start_8 (by decide) (fun hc => ?_) (fun hc => ?_)
  · have hf := ip hc hf
    refine lv_iconst (v := (-1)) hx hb dX8_start_21 nc_m1 ?_
    cases hf
    exact hret _ _ _ _ dX8_start_22 hP hS
  · have hf := iq hc hf
    refine lv_iload_n hx hb dX8_start_11 rfl (lv_at hl 2 rfl) ?_
    refine lv_iconst (v := 0) hx hb dX8_start_12 nc_0 ?_
    refine lv_bipush (v := 30) hx hb dX8_start_13 nb_30 ?_
    obtain ⟨v2, hv, hf⟩ := bs1 hf
    refine x_cSi (As := [.int x2, .int 0, .int 30]) (rest := []) hx hb hml hts hown hE hP hS hAA (kX8_within hv) cl_X8_82 (Nat.le_trans (by decide) hRf) (Nat.le_trans (by decide) hRl) (Nat.zero_le _) (Nat.zero_le _) rfl hl.1 rfl (Nat.le_of_ble_eq_true rfl) dX8_start_15 (fun H locs hP hS => ?_)
    refine lv_if_ne (tgt := 23) hx hb dX8_start_18 (by decide) (fun hc => ?_) (fun hc => ?_)
    · have hf := iq hc hf
      refine lv_aload_n hx hb dX8_start_23 rfl (lv_at hl 0 rfl) ?_
      obtain ⟨_, hv, hf⟩ := bs1 hf
      refine x_getr hx hb hts hown hE hP fl_X8_28 (nb16 hN) gX_16_3 hv dX8_start_24 ?_
      refine x_get hx hb hts hown hE hP fl_X8_119 (nb17 hN) gX_17_3 dX8_start_27 ?_
      refine lv_iload_n hx hb dX8_start_30 rfl (lv_at hl 1 rfl) ?_
      obtain ⟨v3, hv, hf⟩ := bs1 hf
      refine x_iald hx hb hE hP (nb21 hN) (aX_21 _) hv dX8_start_31 ?_
      refine lv_istore_n (lv' := [(3, .int v3), (0, .ref (ad 16)), (1, .int x1), (2, .int x2)]) hx hb dX8_start_32 rfl hl (by decide) rfl (fun ls hl => ?_)
      refine lv_aload_n hx hb dX8_start_33 rfl (lv_at hl 1 rfl) ?_
      refine x_get hx hb hts hown hE hP fl_X8_50 (nb16 hN) gX_16_6 dX8_start_34 ?_
      refine lv_aload_n hx hb dX8_start_37 rfl (lv_at hl 1 rfl) ?_
      obtain ⟨_, hv, hf⟩ := bs1 hf
      refine x_getr hx hb hts hown hE hP fl_X8_28 (nb16 hN) gX_16_3 hv dX8_start_38 ?_
      refine lv_iload_n hx hb dX8_start_41 rfl (lv_at hl 2 rfl) ?_
      obtain ⟨w4, hv, hf⟩ := bs1 hf
      refine x_cVv (As := [.ref (ad 17), .int x1]) (rest := []) hx hb hml hts hown hE hP hS hAA (kX1_note hN hD hv) cl_X8_166 (nb37 hN) oX_37 vc_1 (Nat.le_trans (by decide) hRf) (Nat.le_trans (by decide) hRl) (Nat.zero_le _) (Nat.zero_le _) rfl hl.1 rfl (Nat.le_of_ble_eq_true rfl) dX8_start_42 (fun H locs hP hS => ?_)
      refine lv_aload_n hx hb dX8_start_45 rfl (lv_at hl 1 rfl) ?_
      obtain ⟨_, hv, hf⟩ := bs1 hf
      refine x_getr hx hb hts hown hE hP fl_X8_28 (nb16 hN) gX_16_3 hv dX8_start_46 ?_
      refine x_get hx hb hts hown hE hP fl_X8_119 (nb17 hN) gX_17_3 dX8_start_49 ?_
      refine lv_iload_n hx hb dX8_start_52 rfl (lv_at hl 2 rfl) ?_
      refine lv_iload_n hx hb dX8_start_53 rfl (lv_at hl 3 rfl) ?_
      obtain ⟨w5, hv, hf⟩ := bs1 hf
      refine x_iast hx hb hE hD hA hP hS (nb21 hN) aX_21 hv dX8_start_54 (fun H locs hP hS => ?_)
      refine lv_iload_n hx hb dX8_start_55 rfl (lv_at hl 0 rfl) ?_
      cases hf
      exact hret _ _ _ _ dX8_start_56 hP hS
    · have hf := ip hc hf
      refine lv_iconst (v := (-1)) hx hb dX8_start_21 nc_m1 ?_
      cases hf
      exact hret _ _ _ _ dX8_start_22 hP hS
def LX6_isRidden_l_2 (x1 : Int32) (w : Mm) : Nat → Int32 → Option (Int32)
  | 0, _ => none
  | fu + 1, v1 =>
    if (w 17 12) ≤ v1 then
      some 0
    else
      bd1 (rd w 22 8 v1) fun v3 =>
      if v3 = x1 then
        some 1
      else
        LX6_isRidden_l_2 x1 w fu (v1 + 1)
def fX6_isRidden_l (w : Mm) (x1 : Int32) : Option (Int32) :=
  LX6_isRidden_l_2 x1 w 1000 0
set_option maxHeartbeats 4000000 in
set_option maxRecDepth 100000 in
theorem kX6_isRidden_l {l : Launch} {κ : Kp} {tl : Nat} {N : Nat} {ad : Nat → Nat} {w : Mm} {x1 : Int32} {r : Int32} (hN : 52 ≤ N) (hD : Apt ad N) (hf : fX6_isRidden_l w x1 = some r) : Met l yX6_isRidden (Cond.code yX6_isRidden cX6_isRidden 3 (some .boolean) :: TB) (rmX 0 0) (PcX κ (wX κ tl) N ad w [.ref (ad 17), .int x1]) (QI κ (wX κ tl) N ad w r) 0 0 (Aof ad N) := by
  refine mkZ (by decide +kernel) (Nat.le_of_ble_eq_true rfl) (fun p e R s m args below meth c Q H locs ls hC hRf hRl hP hS hret hl => ?_)
  obtain ⟨hx, hb, hml, hown, hts, hE⟩ := hC
  have hA : ∀ k, k < N → Aof ad N (ad k) := fun k h => Aof_in h
  have hAA : ∀ z, Aof ad N z → Aof ad N z := fun _ h => h
  have hl : lv_has ls 3 [(0, .ref (ad 17)), (1, .int x1)] := hl
  unfold fX6_isRidden_l at hf
  refine lv_iconst (v := 0) hx hb dX6_isRidden_0 nc_0 ?_
  refine lv_istore_n (lv' := [(2, .int 0), (0, .ref (ad 17)), (1, .int x1)]) hx hb dX6_isRidden_1 rfl hl (by decide) rfl (fun ls hl => ?_)
  have hL2 : ∀ (fu : Nat) (v1 : Int32) (H : Heap) (locs : List Loc) (ls : Array Slot), LX6_isRidden_l_2 x1 w fu v1 = some r → Ho κ (wX κ tl) N ad w H → va_S (Aof ad N) s.heap H locs → lv_has ls 3 [(0, .ref (ad 17)), (1, .int x1), (2, .int v1)] → W p l e R s m args below meth c H locs 0 0 Q (F0 m 2 ls []) := by
    intro fu
    induction fu with
    | zero =>
      intro v1 H locs ls hf
      rw [LX6_isRidden_l_2] at hf
      cases hf
    | succ fu ih =>
      intro v1 H locs ls hf hP hS hl
      rw [LX6_isRidden_l_2] at hf
      refine lv_iload_n hx hb dX6_isRidden_2 rfl (lv_at hl 2 rfl) ?_
      refine lv_aload_n hx hb dX6_isRidden_3 rfl (lv_at hl 0 rfl) ?_
      refine x_get hx hb hts hown hE hP fl_X6_48 (nb17 hN) gX_17_12 dX6_isRidden_4 ?_
      refine lv_icmp_ge (tgt := 28) hx hb dX6_isRidden_7 (by decide) (fun hc => ?_) (fun hc => ?_)
      · have hf := ip hc hf
        refine lv_iconst (v := 0) hx hb dX6_isRidden_28 nc_0 ?_
        cases hf
        exact hret _ _ _ _ dX6_isRidden_29 (Or.inl rfl) hP hS
      · have hf := iq hc hf
        refine lv_aload_n hx hb dX6_isRidden_10 rfl (lv_at hl 0 rfl) ?_
        refine x_get hx hb hts hown hE hP fl_X6_24 (nb17 hN) gX_17_4 dX6_isRidden_11 ?_
        refine lv_iload_n hx hb dX6_isRidden_14 rfl (lv_at hl 2 rfl) ?_
        obtain ⟨v3, hv, hf⟩ := bs1 hf
        refine x_iald hx hb hE hP (nb22 hN) (aX_22 _) hv dX6_isRidden_15 ?_
        refine lv_iload_n hx hb dX6_isRidden_16 rfl (lv_at hl 1 rfl) ?_
        refine lv_icmp_ne (tgt := 22) hx hb dX6_isRidden_17 (by decide) (fun hc => ?_) (fun hc => ?_)
        · have hf := iq hc hf
          refine lv_iinc (v := (v1 + 1)) (lv' := [(2, .int (v1 + 1)), (0, .ref (ad 17)), (1, .int x1)]) hx hb dX6_isRidden_22 hl (k := 2) rfl (ni_1 _) (by decide) rfl (fun ls hl => ?_)
          refine lv_goto (tgt := 2) hx hb dX6_isRidden_25 (by decide) ?_
          exact ih _ _ _ _ hf hP hS (lv_sub hl [1, 2, 0] rfl)
        · have hf := ip hc hf
          refine lv_iconst (v := 1) hx hb dX6_isRidden_20 nc_1 ?_
          cases hf
          exact hret _ _ _ _ dX6_isRidden_21 (Or.inr rfl) hP hS
  exact hL2 _ _ _ _ _ hf hP hS (lv_sub hl [1, 2, 0] rfl)
def fX8_changeCarrier (w : Mm) (x1 x2 : Int32) : Option (Int32 × Mm) :=
  bd1 (gq (w 16 3) 17) fun _ =>
  bd1 (rd w 22 8 x1) fun v1 =>
  bd1 (gq (w 16 3) 17) fun _ =>
  bd1 (fX1_note w x1) fun w2 =>
  bd1 (gq (w2 16 3) 17) fun _ =>
  bd1 (wr w2 22 8 x1 x2) fun w3 =>
  some (v1, w3)
set_option maxHeartbeats 4000000 in
set_option maxRecDepth 100000 in
theorem kX8_changeCarrier {l : Launch} {κ : Kp} {tl : Nat} {N : Nat} {ad : Nat → Nat} {w : Mm} {x1 x2 : Int32} {r : Int32} {w' : Mm} (hN : 52 ≤ N) (hD : Apt ad N) (hf : fX8_changeCarrier w x1 x2 = some (r, w')) : Met l yX8_changeCarrier (Cond.code yX8_changeCarrier cX8_changeCarrier 4 (some .int) :: TB) (rmX 3 102) (PcX κ (wX κ tl) N ad w [.ref (ad 16), .int x1, .int x2]) (QI κ (wX κ tl) N ad w' r) 0 0 (Aof ad N) := by
  refine mkI (by decide +kernel) (Nat.le_of_ble_eq_true rfl) (fun p e R s m args below meth c Q H locs ls hC hRf hRl hP hS hret hl => ?_)
  obtain ⟨hx, hb, hml, hown, hts, hE⟩ := hC
  have hA : ∀ k, k < N → Aof ad N (ad k) := fun k h => Aof_in h
  have hAA : ∀ z, Aof ad N z → Aof ad N z := fun _ h => h
  have hl : lv_has ls 4 [(0, .ref (ad 16)), (1, .int x1), (2, .int x2)] := hl
  unfold fX8_changeCarrier at hf
  refine lv_aload_n hx hb dX8_changeCarrier_0 rfl (lv_at hl 0 rfl) ?_
  obtain ⟨_, hv, hf⟩ := bs1 hf
  refine x_getr hx hb hts hown hE hP fl_X8_28 (nb16 hN) gX_16_3 hv dX8_changeCarrier_1 ?_
  refine x_get hx hb hts hown hE hP fl_X8_122 (nb17 hN) gX_17_4 dX8_changeCarrier_4 ?_
  refine lv_iload_n hx hb dX8_changeCarrier_7 rfl (lv_at hl 1 rfl) ?_
  obtain ⟨v1, hv, hf⟩ := bs1 hf
  refine x_iald hx hb hE hP (nb22 hN) (aX_22 _) hv dX8_changeCarrier_8 ?_
  refine lv_istore_n (lv' := [(3, .int v1), (0, .ref (ad 16)), (1, .int x1), (2, .int x2)]) hx hb dX8_changeCarrier_9 rfl hl (by decide) rfl (fun ls hl => ?_)
  refine lv_aload_n hx hb dX8_changeCarrier_10 rfl (lv_at hl 1 rfl) ?_
  refine x_get hx hb hts hown hE hP fl_X8_50 (nb16 hN) gX_16_6 dX8_changeCarrier_11 ?_
  refine lv_aload_n hx hb dX8_changeCarrier_14 rfl (lv_at hl 1 rfl) ?_
  obtain ⟨_, hv, hf⟩ := bs1 hf
  refine x_getr hx hb hts hown hE hP fl_X8_28 (nb16 hN) gX_16_3 hv dX8_changeCarrier_15 ?_
  refine lv_iload_n hx hb dX8_changeCarrier_18 rfl (lv_at hl 2 rfl) ?_
  obtain ⟨w2, hv, hf⟩ := bs1 hf
  refine x_cVv (As := [.ref (ad 17), .int x1]) (rest := []) hx hb hml hts hown hE hP hS hAA (kX1_note hN hD hv) cl_X8_166 (nb37 hN) oX_37 vc_1 (Nat.le_trans (by decide) hRf) (Nat.le_trans (by decide) hRl) (Nat.zero_le _) (Nat.zero_le _) rfl hl.1 rfl (Nat.le_of_ble_eq_true rfl) dX8_changeCarrier_19 (fun H locs hP hS => ?_)
  refine lv_aload_n hx hb dX8_changeCarrier_22 rfl (lv_at hl 1 rfl) ?_
  obtain ⟨_, hv, hf⟩ := bs1 hf
  refine x_getr hx hb hts hown hE hP fl_X8_28 (nb16 hN) gX_16_3 hv dX8_changeCarrier_23 ?_
  refine x_get hx hb hts hown hE hP fl_X8_122 (nb17 hN) gX_17_4 dX8_changeCarrier_26 ?_
  refine lv_iload_n hx hb dX8_changeCarrier_29 rfl (lv_at hl 2 rfl) ?_
  refine lv_iload_n hx hb dX8_changeCarrier_30 rfl (lv_at hl 3 rfl) ?_
  obtain ⟨w3, hv, hf⟩ := bs1 hf
  refine x_iast hx hb hE hD hA hP hS (nb22 hN) aX_22 hv dX8_changeCarrier_31 (fun H locs hP hS => ?_)
  refine lv_iload_n hx hb dX8_changeCarrier_32 rfl (lv_at hl 0 rfl) ?_
  cases hf
  exact hret _ _ _ _ dX8_changeCarrier_33 hP hS
def fX8_ride (w : Mm) (x1 x2 : Int32) : Option (Int32 × Mm) :=
  bd1 (gq (w 16 3) 17) fun _ =>
  bd1 (fX6_has_l w x1) fun v1 =>
  if v1 = 0 then
    some ((-1), w)
  else
    bd1 (gq (w 16 3) 17) fun _ =>
    bd1 (fX6_has_l w x2) fun v2 =>
    if v2 = 0 then
      some ((-1), w)
    else
      if x1 = x2 then
        some ((-1), w)
      else
        bd1 (gq (w 16 3) 17) fun _ =>
        bd1 (rd w 23 8 x1) fun v3 =>
        if v3 = (-4) then
          bd1 (gq (w 16 3) 17) fun _ =>
          bd1 (fX6_isRidden_l w x1) fun v4 =>
          if v4 = 0 then
            bd1 (gq (w 16 3) 17) fun _ =>
            bd1 (rd w 22 8 x2) fun v5 =>
            if v5 = (-4) then
              bd2 (fX8_changeCarrier w x1 x2) fun v6 w7 =>
              some (v6, w7)
            else
              some ((-2), w)
          else
            some ((-2), w)
        else
          some ((-2), w)
set_option maxHeartbeats 4000000 in
set_option maxRecDepth 100000 in
theorem kX8_ride {l : Launch} {κ : Kp} {tl : Nat} {N : Nat} {ad : Nat → Nat} {w : Mm} {x1 x2 : Int32} {r : Int32} {w' : Mm} (hN : 52 ≤ N) (hD : Apt ad N) (hf : fX8_ride w x1 x2 = some (r, w')) : Met l yX8_ride (Cond.code yX8_ride cX8_ride 3 (some .int) :: TB) (rmX 4 125) (PcX κ (wX κ tl) N ad w [.ref (ad 16), .int x1, .int x2]) (QI κ (wX κ tl) N ad w' r) 0 0 (Aof ad N) := by
  refine mkI (by decide +kernel) (Nat.le_of_ble_eq_true rfl) (fun p e R s m args below meth c Q H locs ls hC hRf hRl hP hS hret hl => ?_)
  obtain ⟨hx, hb, hml, hown, hts, hE⟩ := hC
  have hA : ∀ k, k < N → Aof ad N (ad k) := fun k h => Aof_in h
  have hAA : ∀ z, Aof ad N z → Aof ad N z := fun _ h => h
  have hl : lv_has ls 3 [(0, .ref (ad 16)), (1, .int x1), (2, .int x2)] := hl
  unfold fX8_ride at hf
  refine lv_aload_n hx hb dX8_ride_0 rfl (lv_at hl 0 rfl) ?_
  obtain ⟨_, hv, hf⟩ := bs1 hf
  refine x_getr hx hb hts hown hE hP fl_X8_28 (nb16 hN) gX_16_3 hv dX8_ride_1 ?_
  refine lv_iload_n hx hb dX8_ride_4 rfl (lv_at hl 1 rfl) ?_
  obtain ⟨v1, hv, hf⟩ := bs1 hf
  refine x_cVi (As := [.int x1]) (rest := []) hx hb hml hts hown hE hP hS hAA (kX6_has_l hN hD hv) cl_X8_105 (nb17 hN) oX_17 vc_6 (Nat.le_trans (by decide) hRf) (Nat.le_trans (by decide) hRl) (Nat.zero_le _) (Nat.zero_le _) rfl hl.1 rfl (Nat.le_of_ble_eq_true rfl) dX8_ride_5 (fun H locs hP hS => ?_)
  refine lv_if_eq (tgt := 27) hx hb dX8_ride_8 (by decide) (fun hc => ?_) (fun hc => ?_)
  · have hf := ip hc hf
    refine lv_iconst (v := (-1)) hx hb dX8_ride_27 nc_m1 ?_
    cases hf
    exact hret _ _ _ _ dX8_ride_28 hP hS
  · have hf := iq hc hf
    refine lv_aload_n hx hb dX8_ride_11 rfl (lv_at hl 0 rfl) ?_
    obtain ⟨_, hv, hf⟩ := bs1 hf
    refine x_getr hx hb hts hown hE hP fl_X8_28 (nb16 hN) gX_16_3 hv dX8_ride_12 ?_
    refine lv_iload_n hx hb dX8_ride_15 rfl (lv_at hl 2 rfl) ?_
    obtain ⟨v2, hv, hf⟩ := bs1 hf
    refine x_cVi (As := [.int x2]) (rest := []) hx hb hml hts hown hE hP hS hAA (kX6_has_l hN hD hv) cl_X8_105 (nb17 hN) oX_17 vc_6 (Nat.le_trans (by decide) hRf) (Nat.le_trans (by decide) hRl) (Nat.zero_le _) (Nat.zero_le _) rfl hl.1 rfl (Nat.le_of_ble_eq_true rfl) dX8_ride_16 (fun H locs hP hS => ?_)
    refine lv_if_eq (tgt := 27) hx hb dX8_ride_19 (by decide) (fun hc => ?_) (fun hc => ?_)
    · have hf := ip hc hf
      refine lv_iconst (v := (-1)) hx hb dX8_ride_27 nc_m1 ?_
      cases hf
      exact hret _ _ _ _ dX8_ride_28 hP hS
    · have hf := iq hc hf
      refine lv_iload_n hx hb dX8_ride_22 rfl (lv_at hl 1 rfl) ?_
      refine lv_iload_n hx hb dX8_ride_23 rfl (lv_at hl 2 rfl) ?_
      refine lv_icmp_ne (tgt := 29) hx hb dX8_ride_24 (by decide) (fun hc => ?_) (fun hc => ?_)
      · have hf := iq hc hf
        refine lv_aload_n hx hb dX8_ride_29 rfl (lv_at hl 0 rfl) ?_
        obtain ⟨_, hv, hf⟩ := bs1 hf
        refine x_getr hx hb hts hown hE hP fl_X8_28 (nb16 hN) gX_16_3 hv dX8_ride_30 ?_
        refine x_get hx hb hts hown hE hP fl_X8_125 (nb17 hN) gX_17_5 dX8_ride_33 ?_
        refine lv_iload_n hx hb dX8_ride_36 rfl (lv_at hl 1 rfl) ?_
        obtain ⟨v3, hv, hf⟩ := bs1 hf
        refine x_iald hx hb hE hP (nb23 hN) (aX_23 _) hv dX8_ride_37 ?_
        refine lv_bipush (v := (-4)) hx hb dX8_ride_38 nb_m4 ?_
        refine lv_icmp_ne (tgt := 68) hx hb dX8_ride_40 (by decide) (fun hc => ?_) (fun hc => ?_)
        · have hf := iq hc hf
          refine lv_bipush (v := (-2)) hx hb dX8_ride_68 nb_m2 ?_
          cases hf
          exact hret _ _ _ _ dX8_ride_70 hP hS
        · have hf := ip hc hf
          refine lv_aload_n hx hb dX8_ride_43 rfl (lv_at hl 0 rfl) ?_
          obtain ⟨_, hv, hf⟩ := bs1 hf
          refine x_getr hx hb hts hown hE hP fl_X8_28 (nb16 hN) gX_16_3 hv dX8_ride_44 ?_
          refine lv_iload_n hx hb dX8_ride_47 rfl (lv_at hl 1 rfl) ?_
          obtain ⟨v4, hv, hf⟩ := bs1 hf
          refine x_cVi (As := [.int x1]) (rest := []) hx hb hml hts hown hE hP hS hAA (kX6_isRidden_l hN hD hv) cl_X8_170 (nb17 hN) oX_17 vc_6 (Nat.le_trans (by decide) hRf) (Nat.le_trans (by decide) hRl) (Nat.zero_le _) (Nat.zero_le _) rfl hl.1 rfl (Nat.le_of_ble_eq_true rfl) dX8_ride_48 (fun H locs hP hS => ?_)
          refine lv_if_ne (tgt := 68) hx hb dX8_ride_51 (by decide) (fun hc => ?_) (fun hc => ?_)
          · have hf := iq hc hf
            refine lv_bipush (v := (-2)) hx hb dX8_ride_68 nb_m2 ?_
            cases hf
            exact hret _ _ _ _ dX8_ride_70 hP hS
          · have hf := ip hc hf
            refine lv_aload_n hx hb dX8_ride_54 rfl (lv_at hl 0 rfl) ?_
            obtain ⟨_, hv, hf⟩ := bs1 hf
            refine x_getr hx hb hts hown hE hP fl_X8_28 (nb16 hN) gX_16_3 hv dX8_ride_55 ?_
            refine x_get hx hb hts hown hE hP fl_X8_122 (nb17 hN) gX_17_4 dX8_ride_58 ?_
            refine lv_iload_n hx hb dX8_ride_61 rfl (lv_at hl 2 rfl) ?_
            obtain ⟨v5, hv, hf⟩ := bs1 hf
            refine x_iald hx hb hE hP (nb22 hN) (aX_22 _) hv dX8_ride_62 ?_
            refine lv_bipush (v := (-4)) hx hb dX8_ride_63 nb_m4 ?_
            refine lv_icmp_eq (tgt := 71) hx hb dX8_ride_65 (by decide) (fun hc => ?_) (fun hc => ?_)
            · have hf := ip hc hf
              refine lv_aload_n hx hb dX8_ride_71 rfl (lv_at hl 0 rfl) ?_
              refine lv_iload_n hx hb dX8_ride_72 rfl (lv_at hl 1 rfl) ?_
              refine lv_iload_n hx hb dX8_ride_73 rfl (lv_at hl 2 rfl) ?_
              obtain ⟨v6, w7, hv, hf⟩ := bs2 hf
              refine x_cVi (As := [.int x1, .int x2]) (rest := []) hx hb hml hts hown hE hP hS hAA (kX8_changeCarrier hN hD hv) cl_X8_173 (nb16 hN) oX_16 vc_8 (Nat.le_trans (by decide) hRf) (Nat.le_trans (by decide) hRl) (Nat.zero_le _) (Nat.zero_le _) rfl hl.1 rfl (Nat.le_of_ble_eq_true rfl) dX8_ride_74 (fun H locs hP hS => ?_)
              cases hf
              exact hret _ _ _ _ dX8_ride_77 hP hS
            · have hf := iq hc hf
              refine lv_bipush (v := (-2)) hx hb dX8_ride_68 nb_m2 ?_
              cases hf
              exact hret _ _ _ _ dX8_ride_70 hP hS
      · have hf := ip hc hf
        refine lv_iconst (v := (-1)) hx hb dX8_ride_27 nc_m1 ?_
        cases hf
        exact hret _ _ _ _ dX8_ride_28 hP hS
def fX8_leave (w : Mm) (x1 : Int32) : Option (Int32 × Mm) :=
  bd1 (gq (w 16 3) 17) fun _ =>
  bd1 (fX6_has_l w x1) fun v1 =>
  if v1 = 0 then
    some ((-1), w)
  else
    bd1 (gq (w 16 3) 17) fun _ =>
    bd1 (rd w 22 8 x1) fun v2 =>
    if v2 = (-4) then
      some ((-2), w)
    else
      bd2 (fX8_changeCarrier w x1 (-4)) fun v3 w4 =>
      some (v3, w4)
set_option maxHeartbeats 4000000 in
set_option maxRecDepth 100000 in
theorem kX8_leave {l : Launch} {κ : Kp} {tl : Nat} {N : Nat} {ad : Nat → Nat} {w : Mm} {x1 : Int32} {r : Int32} {w' : Mm} (hN : 52 ≤ N) (hD : Apt ad N) (hf : fX8_leave w x1 = some (r, w')) : Met l yX8_leave (Cond.code yX8_leave cX8_leave 2 (some .int) :: TB) (rmX 4 125) (PcX κ (wX κ tl) N ad w [.ref (ad 16), .int x1]) (QI κ (wX κ tl) N ad w' r) 0 0 (Aof ad N) := by
  refine mkI (by decide +kernel) (Nat.le_of_ble_eq_true rfl) (fun p e R s m args below meth c Q H locs ls hC hRf hRl hP hS hret hl => ?_)
  obtain ⟨hx, hb, hml, hown, hts, hE⟩ := hC
  have hA : ∀ k, k < N → Aof ad N (ad k) := fun k h => Aof_in h
  have hAA : ∀ z, Aof ad N z → Aof ad N z := fun _ h => h
  have hl : lv_has ls 2 [(0, .ref (ad 16)), (1, .int x1)] := hl
  unfold fX8_leave at hf
  refine lv_aload_n hx hb dX8_leave_0 rfl (lv_at hl 0 rfl) ?_
  obtain ⟨_, hv, hf⟩ := bs1 hf
  refine x_getr hx hb hts hown hE hP fl_X8_28 (nb16 hN) gX_16_3 hv dX8_leave_1 ?_
  refine lv_iload_n hx hb dX8_leave_4 rfl (lv_at hl 1 rfl) ?_
  obtain ⟨v1, hv, hf⟩ := bs1 hf
  refine x_cVi (As := [.int x1]) (rest := []) hx hb hml hts hown hE hP hS hAA (kX6_has_l hN hD hv) cl_X8_105 (nb17 hN) oX_17 vc_6 (Nat.le_trans (by decide) hRf) (Nat.le_trans (by decide) hRl) (Nat.zero_le _) (Nat.zero_le _) rfl hl.1 rfl (Nat.le_of_ble_eq_true rfl) dX8_leave_5 (fun H locs hP hS => ?_)
  refine lv_if_ne (tgt := 13) hx hb dX8_leave_8 (by decide) (fun hc => ?_) (fun hc => ?_)
  · have hf := iq hc hf
    refine lv_aload_n hx hb dX8_leave_13 rfl (lv_at hl 0 rfl) ?_
    obtain ⟨_, hv, hf⟩ := bs1 hf
    refine x_getr hx hb hts hown hE hP fl_X8_28 (nb16 hN) gX_16_3 hv dX8_leave_14 ?_
    refine x_get hx hb hts hown hE hP fl_X8_122 (nb17 hN) gX_17_4 dX8_leave_17 ?_
    refine lv_iload_n hx hb dX8_leave_20 rfl (lv_at hl 1 rfl) ?_
    obtain ⟨v2, hv, hf⟩ := bs1 hf
    refine x_iald hx hb hE hP (nb22 hN) (aX_22 _) hv dX8_leave_21 ?_
    refine lv_bipush (v := (-4)) hx hb dX8_leave_22 nb_m4 ?_
    refine lv_icmp_ne (tgt := 30) hx hb dX8_leave_24 (by decide) (fun hc => ?_) (fun hc => ?_)
    · have hf := iq hc hf
      refine lv_aload_n hx hb dX8_leave_30 rfl (lv_at hl 0 rfl) ?_
      refine lv_iload_n hx hb dX8_leave_31 rfl (lv_at hl 1 rfl) ?_
      refine lv_bipush (v := (-4)) hx hb dX8_leave_32 nb_m4 ?_
      obtain ⟨v3, w4, hv, hf⟩ := bs2 hf
      refine x_cVi (As := [.int x1, .int (-4)]) (rest := []) hx hb hml hts hown hE hP hS hAA (kX8_changeCarrier hN hD hv) cl_X8_173 (nb16 hN) oX_16 vc_8 (Nat.le_trans (by decide) hRf) (Nat.le_trans (by decide) hRl) (Nat.zero_le _) (Nat.zero_le _) rfl hl.1 rfl (Nat.le_of_ble_eq_true rfl) dX8_leave_34 (fun H locs hP hS => ?_)
      cases hf
      exact hret _ _ _ _ dX8_leave_37 hP hS
    · have hf := ip hc hf
      refine lv_bipush (v := (-2)) hx hb dX8_leave_27 nb_m2 ?_
      cases hf
      exact hret _ _ _ _ dX8_leave_29 hP hS
  · have hf := ip hc hf
    refine lv_iconst (v := (-1)) hx hb dX8_leave_11 nc_m1 ?_
    cases hf
    exact hret _ _ _ _ dX8_leave_12 hP hS
def fX1_takeBack (w : Mm) : Option (Int32 × Mm) :=
  if (w 37 3) < 1 then
    some (0, w)
  else
    bd1 (rd w 38 8 ((w 37 3) - 1)) fun v1 =>
    bd1 (fX6_has_l w v1) fun v2 =>
    if v2 = 0 then
      some (0, w)
    else
      bd1 (pt w 37 3 ((w 37 3) - 1)) fun w3 =>
      bd1 (rd w3 38 8 (w3 37 3)) fun v4 =>
      bd1 (rd w3 39 8 (w3 37 3)) fun v5 =>
      bd1 (wr w3 21 8 v4 v5) fun w6 =>
      bd1 (rd w6 38 8 (w6 37 3)) fun v7 =>
      bd1 (rd w6 40 8 (w6 37 3)) fun v8 =>
      bd1 (wr w6 22 8 v7 v8) fun w9 =>
      some (1, w9)
set_option maxHeartbeats 4000000 in
set_option maxRecDepth 100000 in
theorem kX1_takeBack {l : Launch} {κ : Kp} {tl : Nat} {N : Nat} {ad : Nat → Nat} {w : Mm} {r : Int32} {w' : Mm} (hN : 52 ≤ N) (hD : Apt ad N) (hf : fX1_takeBack w = some (r, w')) : Met l yX1_takeBack (Cond.code yX1_takeBack cX1_takeBack 2 (some .boolean) :: TB) (rmX 1 21) (PcX κ (wX κ tl) N ad w [.ref (ad 37), .ref (ad 17)]) (QI κ (wX κ tl) N ad w' r) 0 0 (Aof ad N) := by
  refine mkZ (by decide +kernel) (Nat.le_of_ble_eq_true rfl) (fun p e R s m args below meth c Q H locs ls hC hRf hRl hP hS hret hl => ?_)
  obtain ⟨hx, hb, hml, hown, hts, hE⟩ := hC
  have hA : ∀ k, k < N → Aof ad N (ad k) := fun k h => Aof_in h
  have hAA : ∀ z, Aof ad N z → Aof ad N z := fun _ h => h
  have hl : lv_has ls 2 [(0, .ref (ad 37)), (1, .ref (ad 17))] := hl
  unfold fX1_takeBack at hf
  refine lv_aload_n hx hb dX1_takeBack_0 rfl (lv_at hl 0 rfl) ?_
  refine x_get hx hb hts hown hE hP fl_X1_21 (nb37 hN) gX_37_3 dX1_takeBack_1 ?_
  refine lv_iconst (v := 1) hx hb dX1_takeBack_4 nc_1 ?_
  refine lv_icmp_lt (tgt := 26) hx hb dX1_takeBack_5 (by decide) (fun hc => ?_) (fun hc => ?_)
  · have hf := ip hc hf
    refine lv_iconst (v := 0) hx hb dX1_takeBack_26 nc_0 ?_
    cases hf
    exact hret _ _ _ _ dX1_takeBack_27 (Or.inl rfl) hP hS
  · have hf := iq hc hf
    refine lv_aload_n hx hb dX1_takeBack_8 rfl (lv_at hl 1 rfl) ?_
    refine lv_aload_n hx hb dX1_takeBack_9 rfl (lv_at hl 0 rfl) ?_
    refine x_get hx hb hts hown hE hP fl_X1_9 (nb37 hN) gX_37_0 dX1_takeBack_10 ?_
    refine lv_aload_n hx hb dX1_takeBack_13 rfl (lv_at hl 0 rfl) ?_
    refine x_get hx hb hts hown hE hP fl_X1_21 (nb37 hN) gX_37_3 dX1_takeBack_14 ?_
    refine lv_iconst (v := 1) hx hb dX1_takeBack_17 nc_1 ?_
    refine lv_isub hx hb dX1_takeBack_18 ?_
    obtain ⟨v1, hv, hf⟩ := bs1 hf
    refine x_iald hx hb hE hP (nb38 hN) (aX_38 _) hv dX1_takeBack_19 ?_
    obtain ⟨v2, hv, hf⟩ := bs1 hf
    refine x_cVi (As := [.int v1]) (rest := []) hx hb hml hts hown hE hP hS hAA (kX6_has_l hN hD hv) cl_X1_42 (nb17 hN) oX_17 vc_6 (Nat.le_trans (by decide) hRf) (Nat.le_trans (by decide) hRl) (Nat.zero_le _) (Nat.zero_le _) rfl hl.1 rfl (Nat.le_of_ble_eq_true rfl) dX1_takeBack_20 (fun H locs hP hS => ?_)
    refine lv_if_ne (tgt := 28) hx hb dX1_takeBack_23 (by decide) (fun hc => ?_) (fun hc => ?_)
    · have hf := iq hc hf
      refine lv_aload_n hx hb dX1_takeBack_28 rfl (lv_at hl 0 rfl) ?_
      refine lv_dup hx hb dX1_takeBack_29 rfl ?_
      refine x_get hx hb hts hown hE hP fl_X1_21 (nb37 hN) gX_37_3 dX1_takeBack_30 ?_
      refine lv_iconst (v := 1) hx hb dX1_takeBack_33 nc_1 ?_
      refine lv_isub hx hb dX1_takeBack_34 ?_
      obtain ⟨w3, hv, hf⟩ := bs1 hf
      refine x_put hx hb hts hown hE hD hA hP hS fp_X1_21 (nb37 hN) pX_37_3 rfl rfl hv dX1_takeBack_35 (fun H locs hP hS => ?_)
      refine lv_aload_n hx hb dX1_takeBack_38 rfl (lv_at hl 1 rfl) ?_
      refine x_get hx hb hts hown hE hP fl_X1_28 (nb17 hN) gX_17_3 dX1_takeBack_39 ?_
      refine lv_aload_n hx hb dX1_takeBack_42 rfl (lv_at hl 0 rfl) ?_
      refine x_get hx hb hts hown hE hP fl_X1_9 (nb37 hN) gX_37_0 dX1_takeBack_43 ?_
      refine lv_aload_n hx hb dX1_takeBack_46 rfl (lv_at hl 0 rfl) ?_
      refine x_get hx hb hts hown hE hP fl_X1_21 (nb37 hN) gX_37_3 dX1_takeBack_47 ?_
      obtain ⟨v4, hv, hf⟩ := bs1 hf
      refine x_iald hx hb hE hP (nb38 hN) (aX_38 _) hv dX1_takeBack_50 ?_
      refine lv_aload_n hx hb dX1_takeBack_51 rfl (lv_at hl 0 rfl) ?_
      refine x_get hx hb hts hown hE hP fl_X1_15 (nb37 hN) gX_37_1 dX1_takeBack_52 ?_
      refine lv_aload_n hx hb dX1_takeBack_55 rfl (lv_at hl 0 rfl) ?_
      refine x_get hx hb hts hown hE hP fl_X1_21 (nb37 hN) gX_37_3 dX1_takeBack_56 ?_
      obtain ⟨v5, hv, hf⟩ := bs1 hf
      refine x_iald hx hb hE hP (nb39 hN) (aX_39 _) hv dX1_takeBack_59 ?_
      obtain ⟨w6, hv, hf⟩ := bs1 hf
      refine x_iast hx hb hE hD hA hP hS (nb21 hN) aX_21 hv dX1_takeBack_60 (fun H locs hP hS => ?_)
      refine lv_aload_n hx hb dX1_takeBack_61 rfl (lv_at hl 1 rfl) ?_
      refine x_get hx hb hts hown hE hP fl_X1_33 (nb17 hN) gX_17_4 dX1_takeBack_62 ?_
      refine lv_aload_n hx hb dX1_takeBack_65 rfl (lv_at hl 0 rfl) ?_
      refine x_get hx hb hts hown hE hP fl_X1_9 (nb37 hN) gX_37_0 dX1_takeBack_66 ?_
      refine lv_aload_n hx hb dX1_takeBack_69 rfl (lv_at hl 0 rfl) ?_
      refine x_get hx hb hts hown hE hP fl_X1_21 (nb37 hN) gX_37_3 dX1_takeBack_70 ?_
      obtain ⟨v7, hv, hf⟩ := bs1 hf
      refine x_iald hx hb hE hP (nb38 hN) (aX_38 _) hv dX1_takeBack_73 ?_
      refine lv_aload_n hx hb dX1_takeBack_74 rfl (lv_at hl 0 rfl) ?_
      refine x_get hx hb hts hown hE hP fl_X1_18 (nb37 hN) gX_37_2 dX1_takeBack_75 ?_
      refine lv_aload_n hx hb dX1_takeBack_78 rfl (lv_at hl 0 rfl) ?_
      refine x_get hx hb hts hown hE hP fl_X1_21 (nb37 hN) gX_37_3 dX1_takeBack_79 ?_
      obtain ⟨v8, hv, hf⟩ := bs1 hf
      refine x_iald hx hb hE hP (nb40 hN) (aX_40 _) hv dX1_takeBack_82 ?_
      obtain ⟨w9, hv, hf⟩ := bs1 hf
      refine x_iast hx hb hE hD hA hP hS (nb22 hN) aX_22 hv dX1_takeBack_83 (fun H locs hP hS => ?_)
      refine lv_iconst (v := 1) hx hb dX1_takeBack_84 nc_1 ?_
      cases hf
      exact hret _ _ _ _ dX1_takeBack_85 (Or.inr rfl) hP hS
    · have hf := ip hc hf
      refine lv_iconst (v := 0) hx hb dX1_takeBack_26 nc_0 ?_
      cases hf
      exact hret _ _ _ _ dX1_takeBack_27 (Or.inl rfl) hP hS
def fX8_undo (w : Mm) : Option (Int32 × Mm) :=
  bd1 (gq (w 16 3) 17) fun _ =>
  bd2 (fX1_takeBack w) fun v1 w2 =>
  if v1 = 0 then
    some ((-2), w2)
  else
    some ((w2 37 3), w2)
set_option maxHeartbeats 4000000 in
set_option maxRecDepth 100000 in
theorem kX8_undo {l : Launch} {κ : Kp} {tl : Nat} {N : Nat} {ad : Nat → Nat} {w : Mm} {r : Int32} {w' : Mm} (hN : 52 ≤ N) (hD : Apt ad N) (hf : fX8_undo w = some (r, w')) : Met l yX8_undo (Cond.code yX8_undo cX8_undo 1 (some .int) :: TB) (rmX 2 42) (PcX κ (wX κ tl) N ad w [.ref (ad 16)]) (QI κ (wX κ tl) N ad w' r) 0 0 (Aof ad N) := by
  refine mkI (by decide +kernel) (Nat.le_of_ble_eq_true rfl) (fun p e R s m args below meth c Q H locs ls hC hRf hRl hP hS hret hl => ?_)
  obtain ⟨hx, hb, hml, hown, hts, hE⟩ := hC
  have hA : ∀ k, k < N → Aof ad N (ad k) := fun k h => Aof_in h
  have hAA : ∀ z, Aof ad N z → Aof ad N z := fun _ h => h
  have hl : lv_has ls 1 [(0, .ref (ad 16))] := hl
  unfold fX8_undo at hf
  refine lv_aload_n hx hb dX8_undo_0 rfl (lv_at hl 0 rfl) ?_
  refine x_get hx hb hts hown hE hP fl_X8_50 (nb16 hN) gX_16_6 dX8_undo_1 ?_
  refine lv_aload_n hx hb dX8_undo_4 rfl (lv_at hl 0 rfl) ?_
  obtain ⟨_, hv, hf⟩ := bs1 hf
  refine x_getr hx hb hts hown hE hP fl_X8_28 (nb16 hN) gX_16_3 hv dX8_undo_5 ?_
  obtain ⟨v1, w2, hv, hf⟩ := bs2 hf
  refine x_cVi (As := [.ref (ad 17)]) (rest := []) hx hb hml hts hown hE hP hS hAA (kX1_takeBack hN hD hv) cl_X8_176 (nb37 hN) oX_37 vc_1 (Nat.le_trans (by decide) hRf) (Nat.le_trans (by decide) hRl) (Nat.zero_le _) (Nat.zero_le _) rfl hl.1 rfl (Nat.le_of_ble_eq_true rfl) dX8_undo_8 (fun H locs hP hS => ?_)
  refine lv_if_eq (tgt := 24) hx hb dX8_undo_11 (by decide) (fun hc => ?_) (fun hc => ?_)
  · have hf := ip hc hf
    refine lv_bipush (v := (-2)) hx hb dX8_undo_24 nb_m2 ?_
    cases hf
    exact hret _ _ _ _ dX8_undo_26 hP hS
  · have hf := iq hc hf
    refine lv_aload_n hx hb dX8_undo_14 rfl (lv_at hl 0 rfl) ?_
    refine x_get hx hb hts hown hE hP fl_X8_50 (nb16 hN) gX_16_6 dX8_undo_15 ?_
    refine x_get hx hb hts hown hE hP fl_X8_180 (nb37 hN) gX_37_3 dX8_undo_18 ?_
    refine lv_goto (tgt := 26) hx hb dX8_undo_21 (by decide) ?_
    cases hf
    exact hret _ _ _ _ dX8_undo_26 hP hS
def LX8_late_30 (x1 : Int32) (v3 : Int32) : Nat → Int32 → Mm → Option (Int32 × Mm)
  | 0, _, _ => none
  | fu + 1, v4, w5 =>
    bd1 (gq (w5 16 3) 17) fun _ =>
    bd1 (rd w5 21 8 x1) fun v7 =>
    if v4 ≤ v7 then
      bd1 (gq (w5 16 3) 17) fun _ =>
      bd1 (rd w5 21 8 x1) fun v8 =>
      some (v8, w5)
    else
      bd1 (wr w5 31 8 x1 v4) fun w9 =>
      bd1 (fX4_run w9) fun w10 =>
      bd1 (rd w10 34 8 x1) fun v11 =>
      if v3 < v11 then
        LX8_late_30 x1 v3 fu (v4 - 1) w10
      else
        some (v4, w10)
def fX8_late (w : Mm) (x1 : Int32) : Option (Int32 × Mm) :=
  bd1 (gq (w 16 3) 17) fun _ =>
  bd1 (fX6_has_l w x1) fun v1 =>
  if v1 = 0 then
    some ((-1), w)
  else
    bd1 (fX8_raceAsItIs w) fun w2 =>
    bd1 (rd w2 34 8 x1) fun v3 =>
    LX8_late_30 x1 v3 1000 30 w2
set_option maxHeartbeats 4000000 in
set_option maxRecDepth 100000 in
theorem kX8_late {l : Launch} {κ : Kp} {tl : Nat} {N : Nat} {ad : Nat → Nat} {w : Mm} {x1 : Int32} {r : Int32} {w' : Mm} (hN : 52 ≤ N) (hD : Apt ad N) (hf : fX8_late w x1 = some (r, w')) : Met l yX8_late (Cond.code yX8_late cX8_late 4 (some .int) :: TB) (rmX 6 130) (PcX κ (wX κ tl) N ad w [.ref (ad 16), .int x1]) (QI κ (wX κ tl) N ad w' r) 0 0 (Aof ad N) := by
  refine mkI (by decide +kernel) (Nat.le_of_ble_eq_true rfl) (fun p e R s m args below meth c Q H locs ls hC hRf hRl hP hS hret hl => ?_)
  obtain ⟨hx, hb, hml, hown, hts, hE⟩ := hC
  have hA : ∀ k, k < N → Aof ad N (ad k) := fun k h => Aof_in h
  have hAA : ∀ z, Aof ad N z → Aof ad N z := fun _ h => h
  have hl : lv_has ls 4 [(0, .ref (ad 16)), (1, .int x1)] := hl
  unfold fX8_late at hf
  refine lv_aload_n hx hb dX8_late_0 rfl (lv_at hl 0 rfl) ?_
  obtain ⟨_, hv, hf⟩ := bs1 hf
  refine x_getr hx hb hts hown hE hP fl_X8_28 (nb16 hN) gX_16_3 hv dX8_late_1 ?_
  refine lv_iload_n hx hb dX8_late_4 rfl (lv_at hl 1 rfl) ?_
  obtain ⟨v1, hv, hf⟩ := bs1 hf
  refine x_cVi (As := [.int x1]) (rest := []) hx hb hml hts hown hE hP hS hAA (kX6_has_l hN hD hv) cl_X8_105 (nb17 hN) oX_17 vc_6 (Nat.le_trans (by decide) hRf) (Nat.le_trans (by decide) hRl) (Nat.zero_le _) (Nat.zero_le _) rfl hl.1 rfl (Nat.le_of_ble_eq_true rfl) dX8_late_5 (fun H locs hP hS => ?_)
  refine lv_if_ne (tgt := 13) hx hb dX8_late_8 (by decide) (fun hc => ?_) (fun hc => ?_)
  · have hf := iq hc hf
    refine lv_aload_n hx hb dX8_late_13 rfl (lv_at hl 0 rfl) ?_
    obtain ⟨w2, hv, hf⟩ := bs1 hf
    refine x_cVv (As := []) (rest := []) hx hb hml hts hown hE hP hS hAA (kX8_raceAsItIs hN hD hv) cl_X8_157 (nb16 hN) oX_16 vc_8 (Nat.le_trans (by decide) hRf) (Nat.le_trans (by decide) hRl) (Nat.zero_le _) (Nat.zero_le _) rfl hl.1 rfl (Nat.le_of_ble_eq_true rfl) dX8_late_14 (fun H locs hP hS => ?_)
    refine lv_aload_n hx hb dX8_late_17 rfl (lv_at hl 0 rfl) ?_
    refine x_get hx hb hts hown hE hP fl_X8_43 (nb16 hN) gX_16_5 dX8_late_18 ?_
    refine x_get hx hb hts hown hE hP fl_X8_160 (nb30 hN) gX_30_3 dX8_late_21 ?_
    refine lv_iload_n hx hb dX8_late_24 rfl (lv_at hl 1 rfl) ?_
    obtain ⟨v3, hv, hf⟩ := bs1 hf
    refine x_iald hx hb hE hP (nb34 hN) (aX_34 _) hv dX8_late_25 ?_
    refine lv_istore_n (lv' := [(2, .int v3), (0, .ref (ad 16)), (1, .int x1)]) hx hb dX8_late_26 rfl hl (by decide) rfl (fun ls hl => ?_)
    refine lv_bipush (v := 30) hx hb dX8_late_27 nb_30 ?_
    refine lv_istore_n (lv' := [(3, .int 30), (2, .int v3), (0, .ref (ad 16)), (1, .int x1)]) hx hb dX8_late_29 rfl hl (by decide) rfl (fun ls hl => ?_)
    have hL6 : ∀ (fu : Nat) (v4 : Int32) (w5 : Mm) (H : Heap) (locs : List Loc) (ls : Array Slot), LX8_late_30 x1 v3 fu v4 w5 = some (r, w') → Ho κ (wX κ tl) N ad w5 H → va_S (Aof ad N) s.heap H locs → lv_has ls 4 [(0, .ref (ad 16)), (1, .int x1), (2, .int v3), (3, .int v4)] → W p l e R s m args below meth c H locs 0 0 Q (F0 m 30 ls []) := by
      intro fu
      induction fu with
      | zero =>
        intro v4 w5 H locs ls hf
        rw [LX8_late_30] at hf
        cases hf
      | succ fu ih =>
        intro v4 w5 H locs ls hf hP hS hl
        rw [LX8_late_30] at hf
        refine lv_iload_n hx hb dX8_late_30 rfl (lv_at hl 3 rfl) ?_
        refine lv_aload_n hx hb dX8_late_31 rfl (lv_at hl 0 rfl) ?_
        obtain ⟨_, hv, hf⟩ := bs1 hf
        refine x_getr hx hb hts hown hE hP fl_X8_28 (nb16 hN) gX_16_3 hv dX8_late_32 ?_
        refine x_get hx hb hts hown hE hP fl_X8_119 (nb17 hN) gX_17_3 dX8_late_35 ?_
        refine lv_iload_n hx hb dX8_late_38 rfl (lv_at hl 1 rfl) ?_
        obtain ⟨v7, hv, hf⟩ := bs1 hf
        refine x_iald hx hb hE hP (nb21 hN) (aX_21 _) hv dX8_late_39 ?_
        refine lv_icmp_le (tgt := 81) hx hb dX8_late_40 (by decide) (fun hc => ?_) (fun hc => ?_)
        · have hf := ip hc hf
          refine lv_aload_n hx hb dX8_late_81 rfl (lv_at hl 0 rfl) ?_
          obtain ⟨_, hv, hf⟩ := bs1 hf
          refine x_getr hx hb hts hown hE hP fl_X8_28 (nb16 hN) gX_16_3 hv dX8_late_82 ?_
          refine x_get hx hb hts hown hE hP fl_X8_119 (nb17 hN) gX_17_3 dX8_late_85 ?_
          refine lv_iload_n hx hb dX8_late_88 rfl (lv_at hl 1 rfl) ?_
          obtain ⟨v8, hv, hf⟩ := bs1 hf
          refine x_iald hx hb hE hP (nb21 hN) (aX_21 _) hv dX8_late_89 ?_
          cases hf
          exact hret _ _ _ _ dX8_late_90 hP hS
        · have hf := iq hc hf
          refine lv_aload_n hx hb dX8_late_43 rfl (lv_at hl 0 rfl) ?_
          refine x_get hx hb hts hown hE hP fl_X8_43 (nb16 hN) gX_16_5 dX8_late_44 ?_
          refine x_get hx hb hts hown hE hP fl_X8_183 (nb30 hN) gX_30_0 dX8_late_47 ?_
          refine lv_iload_n hx hb dX8_late_50 rfl (lv_at hl 1 rfl) ?_
          refine lv_iload_n hx hb dX8_late_51 rfl (lv_at hl 3 rfl) ?_
          obtain ⟨w9, hv, hf⟩ := bs1 hf
          refine x_iast hx hb hE hD hA hP hS (nb31 hN) aX_31 hv dX8_late_52 (fun H locs hP hS => ?_)
          refine lv_aload_n hx hb dX8_late_53 rfl (lv_at hl 0 rfl) ?_
          refine x_get hx hb hts hown hE hP fl_X8_43 (nb16 hN) gX_16_5 dX8_late_54 ?_
          obtain ⟨w10, hv, hf⟩ := bs1 hf
          refine x_cVv (As := []) (rest := []) hx hb hml hts hown hE hP hS hAA (kX4_run hN hD hv) cl_X8_184 (nb30 hN) oX_30 vc_4 (Nat.le_trans (by decide) hRf) (Nat.le_trans (by decide) hRl) (Nat.zero_le _) (Nat.zero_le _) rfl hl.1 rfl (Nat.le_of_ble_eq_true rfl) dX8_late_57 (fun H locs hP hS => ?_)
          refine lv_aload_n hx hb dX8_late_60 rfl (lv_at hl 0 rfl) ?_
          refine x_get hx hb hts hown hE hP fl_X8_43 (nb16 hN) gX_16_5 dX8_late_61 ?_
          refine x_get hx hb hts hown hE hP fl_X8_160 (nb30 hN) gX_30_3 dX8_late_64 ?_
          refine lv_iload_n hx hb dX8_late_67 rfl (lv_at hl 1 rfl) ?_
          obtain ⟨v11, hv, hf⟩ := bs1 hf
          refine x_iald hx hb hE hP (nb34 hN) (aX_34 _) hv dX8_late_68 ?_
          refine lv_iload_n hx hb dX8_late_69 rfl (lv_at hl 2 rfl) ?_
          refine lv_icmp_gt (tgt := 75) hx hb dX8_late_70 (by decide) (fun hc => ?_) (fun hc => ?_)
          · have hf := ip hc hf
            refine lv_iinc (v := (v4 - 1)) (lv' := [(3, .int (v4 - 1)), (0, .ref (ad 16)), (1, .int x1), (2, .int v3)]) hx hb dX8_late_75 hl (k := 3) rfl (ni_m1 _) (by decide) rfl (fun ls hl => ?_)
            refine lv_goto (tgt := 30) hx hb dX8_late_78 (by decide) ?_
            exact ih _ _ _ _ _ hf hP hS (lv_sub hl [1, 2, 3, 0] rfl)
          · have hf := iq hc hf
            refine lv_iload_n hx hb dX8_late_73 rfl (lv_at hl 3 rfl) ?_
            cases hf
            exact hret _ _ _ _ dX8_late_74 hP hS
    exact hL6 _ _ _ _ _ _ hf hP hS (lv_sub hl [2, 3, 1, 0] rfl)
  · have hf := ip hc hf
    refine lv_iconst (v := (-1)) hx hb dX8_late_11 nc_m1 ?_
    cases hf
    exact hret _ _ _ _ dX8_late_12 hP hS
def fX8_rankRidingOn (w : Mm) (x1 x2 : Int32) : Option (Int32 × Mm) :=
  bd1 (wr w 32 8 x1 x2) fun w1 =>
  bd1 (fX4_run w1) fun w2 =>
  bd1 (rd w2 34 8 x1) fun v3 =>
  some (v3, w2)
set_option maxHeartbeats 4000000 in
set_option maxRecDepth 100000 in
theorem kX8_rankRidingOn {l : Launch} {κ : Kp} {tl : Nat} {N : Nat} {ad : Nat → Nat} {w : Mm} {x1 x2 : Int32} {r : Int32} {w' : Mm} (hN : 52 ≤ N) (hD : Apt ad N) (hf : fX8_rankRidingOn w x1 x2 = some (r, w')) : Met l yX8_rankRidingOn (Cond.code yX8_rankRidingOn cX8_rankRidingOn 3 (some .int) :: TB) (rmX 5 110) (PcX κ (wX κ tl) N ad w [.ref (ad 16), .int x1, .int x2]) (QI κ (wX κ tl) N ad w' r) 0 0 (Aof ad N) := by
  refine mkI (by decide +kernel) (Nat.le_of_ble_eq_true rfl) (fun p e R s m args below meth c Q H locs ls hC hRf hRl hP hS hret hl => ?_)
  obtain ⟨hx, hb, hml, hown, hts, hE⟩ := hC
  have hA : ∀ k, k < N → Aof ad N (ad k) := fun k h => Aof_in h
  have hAA : ∀ z, Aof ad N z → Aof ad N z := fun _ h => h
  have hl : lv_has ls 3 [(0, .ref (ad 16)), (1, .int x1), (2, .int x2)] := hl
  unfold fX8_rankRidingOn at hf
  refine lv_aload_n hx hb dX8_rankRidingOn_0 rfl (lv_at hl 0 rfl) ?_
  refine x_get hx hb hts hown hE hP fl_X8_43 (nb16 hN) gX_16_5 dX8_rankRidingOn_1 ?_
  refine x_get hx hb hts hown hE hP fl_X8_275 (nb30 hN) gX_30_1 dX8_rankRidingOn_4 ?_
  refine lv_iload_n hx hb dX8_rankRidingOn_7 rfl (lv_at hl 1 rfl) ?_
  refine lv_iload_n hx hb dX8_rankRidingOn_8 rfl (lv_at hl 2 rfl) ?_
  obtain ⟨w1, hv, hf⟩ := bs1 hf
  refine x_iast hx hb hE hD hA hP hS (nb32 hN) aX_32 hv dX8_rankRidingOn_9 (fun H locs hP hS => ?_)
  refine lv_aload_n hx hb dX8_rankRidingOn_10 rfl (lv_at hl 0 rfl) ?_
  refine x_get hx hb hts hown hE hP fl_X8_43 (nb16 hN) gX_16_5 dX8_rankRidingOn_11 ?_
  obtain ⟨w2, hv, hf⟩ := bs1 hf
  refine x_cVv (As := []) (rest := []) hx hb hml hts hown hE hP hS hAA (kX4_run hN hD hv) cl_X8_184 (nb30 hN) oX_30 vc_4 (Nat.le_trans (by decide) hRf) (Nat.le_trans (by decide) hRl) (Nat.zero_le _) (Nat.zero_le _) rfl hl.1 rfl (Nat.le_of_ble_eq_true rfl) dX8_rankRidingOn_14 (fun H locs hP hS => ?_)
  refine lv_aload_n hx hb dX8_rankRidingOn_17 rfl (lv_at hl 0 rfl) ?_
  refine x_get hx hb hts hown hE hP fl_X8_43 (nb16 hN) gX_16_5 dX8_rankRidingOn_18 ?_
  refine x_get hx hb hts hown hE hP fl_X8_160 (nb30 hN) gX_30_3 dX8_rankRidingOn_21 ?_
  refine lv_iload_n hx hb dX8_rankRidingOn_24 rfl (lv_at hl 1 rfl) ?_
  obtain ⟨v3, hv, hf⟩ := bs1 hf
  refine x_iald hx hb hE hP (nb34 hN) (aX_34 _) hv dX8_rankRidingOn_25 ?_
  cases hf
  exact hret _ _ _ _ dX8_rankRidingOn_26 hP hS
def LX8_back_76 (x1 : Int32) : Nat → Int32 → Int32 → Int32 → Mm → Option (Mm × Int32 × Int32)
  | 0, _, _, _, _ => none
  | fu + 1, v8, v9, v10, w11 =>
    bd1 (gq (w11 16 3) 17) fun _ =>
    if (w11 17 12) ≤ v10 then
      some (w11, v8, v9)
    else
      bd3 (
        if v10 = x1 then
          some (w11, v8, v9)
        else
          bd1 (gq (w11 16 3) 17) fun _ =>
          bd1 (rd w11 22 8 v10) fun v20 =>
          if v20 = (-4) then
            bd2 (fX8_rankRidingOn w11 x1 v10) fun v21 w22 =>
            if v9 ≤ v21 then
              some (w22, v8, v9)
            else
              some (w22, v10, v21)
          else
            some (w11, v8, v9)) fun (w16 : Mm) (v17 : Int32) (v18 : Int32) =>
      LX8_back_76 x1 fu v17 v18 (v10 + 1) w16
def fX8_back (w : Mm) (x1 x2 : Int32) : Option (Int32 × Mm) :=
  bd1 (gq (w 16 3) 17) fun _ =>
  bd1 (fX6_has_l w x1) fun v1 =>
  if v1 = 0 then
    some ((-1), w)
  else
    bd1 (fX8_within x2 0 1) fun v2 =>
    if v2 = 0 then
      some ((-1), w)
    else
      bd1 (gq (w 16 3) 17) fun _ =>
      bd1 (fX6_isRidden_l w x1) fun v3 =>
      if v3 = 0 then
        bd1 (gq (w 16 3) 17) fun _ =>
        bd1 (rd w 23 8 x1) fun v4 =>
        if v4 = (-4) then
          bd1 (gq (w 16 3) 17) fun _ =>
          bd1 (fX4_prepare w) fun w5 =>
          bd2 (fX8_rankRidingOn w5 x1 (-4)) fun v6 w7 =>
          bd3 (LX8_back_76 x1 1000 (-4) v6 0 w7) fun (w13 : Mm) (v14 : Int32) (v15 : Int32) =>
          if x2 = 0 then
            some (v14, w13)
          else
            some (v15, w13)
        else
          some ((-2), w)
      else
        some ((-2), w)
set_option maxHeartbeats 4000000 in
set_option maxRecDepth 100000 in
theorem kX8_back {l : Launch} {κ : Kp} {tl : Nat} {N : Nat} {ad : Nat → Nat} {w : Mm} {x1 x2 : Int32} {r : Int32} {w' : Mm} (hN : 52 ≤ N) (hD : Apt ad N) (hf : fX8_back w x1 x2 = some (r, w')) : Met l yX8_back (Cond.code yX8_back cX8_back 7 (some .int) :: TB) (rmX 6 132) (PcX κ (wX κ tl) N ad w [.ref (ad 16), .int x1, .int x2]) (QI κ (wX κ tl) N ad w' r) 0 0 (Aof ad N) := by
  refine mkI (by decide +kernel) (Nat.le_of_ble_eq_true rfl) (fun p e R s m args below meth c Q H locs ls hC hRf hRl hP hS hret hl => ?_)
  obtain ⟨hx, hb, hml, hown, hts, hE⟩ := hC
  have hA : ∀ k, k < N → Aof ad N (ad k) := fun k h => Aof_in h
  have hAA : ∀ z, Aof ad N z → Aof ad N z := fun _ h => h
  have hl : lv_has ls 7 [(0, .ref (ad 16)), (1, .int x1), (2, .int x2)] := hl
  unfold fX8_back at hf
  refine lv_aload_n hx hb dX8_back_0 rfl (lv_at hl 0 rfl) ?_
  obtain ⟨_, hv, hf⟩ := bs1 hf
  refine x_getr hx hb hts hown hE hP fl_X8_28 (nb16 hN) gX_16_3 hv dX8_back_1 ?_
  refine lv_iload_n hx hb dX8_back_4 rfl (lv_at hl 1 rfl) ?_
  obtain ⟨v1, hv, hf⟩ := bs1 hf
  refine x_cVi (As := [.int x1]) (rest := []) hx hb hml hts hown hE hP hS hAA (kX6_has_l hN hD hv) cl_X8_105 (nb17 hN) oX_17 vc_6 (Nat.le_trans (by decide) hRf) (Nat.le_trans (by decide) hRl) (Nat.zero_le _) (Nat.zero_le _) rfl hl.1 rfl (Nat.le_of_ble_eq_true rfl) dX8_back_5 (fun H locs hP hS => ?_)
  refine lv_if_eq (tgt := 20) hx hb dX8_back_8 (by decide) (fun hc => ?_) (fun hc => ?_)
  · have hf := ip hc hf
    refine lv_iconst (v := (-1)) hx hb dX8_back_20 nc_m1 ?_
    cases hf
    exact hret _ _ _ _ dX8_back_21 hP hS
  · have hf := iq hc hf
    refine lv_iload_n hx hb dX8_back_11 rfl (lv_at hl 2 rfl) ?_
    refine lv_iconst (v := 0) hx hb dX8_back_12 nc_0 ?_
    refine lv_iconst (v := 1) hx hb dX8_back_13 nc_1 ?_
    obtain ⟨v2, hv, hf⟩ := bs1 hf
    refine x_cSi (As := [.int x2, .int 0, .int 1]) (rest := []) hx hb hml hts hown hE hP hS hAA (kX8_within hv) cl_X8_82 (Nat.le_trans (by decide) hRf) (Nat.le_trans (by decide) hRl) (Nat.zero_le _) (Nat.zero_le _) rfl hl.1 rfl (Nat.le_of_ble_eq_true rfl) dX8_back_14 (fun H locs hP hS => ?_)
    refine lv_if_ne (tgt := 22) hx hb dX8_back_17 (by decide) (fun hc => ?_) (fun hc => ?_)
    · have hf := iq hc hf
      refine lv_aload_n hx hb dX8_back_22 rfl (lv_at hl 0 rfl) ?_
      obtain ⟨_, hv, hf⟩ := bs1 hf
      refine x_getr hx hb hts hown hE hP fl_X8_28 (nb16 hN) gX_16_3 hv dX8_back_23 ?_
      refine lv_iload_n hx hb dX8_back_26 rfl (lv_at hl 1 rfl) ?_
      obtain ⟨v3, hv, hf⟩ := bs1 hf
      refine x_cVi (As := [.int x1]) (rest := []) hx hb hml hts hown hE hP hS hAA (kX6_isRidden_l hN hD hv) cl_X8_170 (nb17 hN) oX_17 vc_6 (Nat.le_trans (by decide) hRf) (Nat.le_trans (by decide) hRl) (Nat.zero_le _) (Nat.zero_le _) rfl hl.1 rfl (Nat.le_of_ble_eq_true rfl) dX8_back_27 (fun H locs hP hS => ?_)
      refine lv_if_ne (tgt := 47) hx hb dX8_back_30 (by decide) (fun hc => ?_) (fun hc => ?_)
      · have hf := iq hc hf
        refine lv_bipush (v := (-2)) hx hb dX8_back_47 nb_m2 ?_
        cases hf
        exact hret _ _ _ _ dX8_back_49 hP hS
      · have hf := ip hc hf
        refine lv_aload_n hx hb dX8_back_33 rfl (lv_at hl 0 rfl) ?_
        obtain ⟨_, hv, hf⟩ := bs1 hf
        refine x_getr hx hb hts hown hE hP fl_X8_28 (nb16 hN) gX_16_3 hv dX8_back_34 ?_
        refine x_get hx hb hts hown hE hP fl_X8_125 (nb17 hN) gX_17_5 dX8_back_37 ?_
        refine lv_iload_n hx hb dX8_back_40 rfl (lv_at hl 1 rfl) ?_
        obtain ⟨v4, hv, hf⟩ := bs1 hf
        refine x_iald hx hb hE hP (nb23 hN) (aX_23 _) hv dX8_back_41 ?_
        refine lv_bipush (v := (-4)) hx hb dX8_back_42 nb_m4 ?_
        refine lv_icmp_eq (tgt := 50) hx hb dX8_back_44 (by decide) (fun hc => ?_) (fun hc => ?_)
        · have hf := ip hc hf
          refine lv_aload_n hx hb dX8_back_50 rfl (lv_at hl 0 rfl) ?_
          refine x_get hx hb hts hown hE hP fl_X8_43 (nb16 hN) gX_16_5 dX8_back_51 ?_
          refine lv_aload_n hx hb dX8_back_54 rfl (lv_at hl 0 rfl) ?_
          obtain ⟨_, hv, hf⟩ := bs1 hf
          refine x_getr hx hb hts hown hE hP fl_X8_28 (nb16 hN) gX_16_3 hv dX8_back_55 ?_
          obtain ⟨w5, hv, hf⟩ := bs1 hf
          refine x_cVv (As := [.ref (ad 17)]) (rest := []) hx hb hml hts hown hE hP hS hAA (kX4_prepare hN hD hv) cl_X8_134 (nb30 hN) oX_30 vc_4 (Nat.le_trans (by decide) hRf) (Nat.le_trans (by decide) hRl) (Nat.zero_le _) (Nat.zero_le _) rfl hl.1 rfl (Nat.le_of_ble_eq_true rfl) dX8_back_58 (fun H locs hP hS => ?_)
          refine lv_bipush (v := (-4)) hx hb dX8_back_61 nb_m4 ?_
          refine lv_istore_n (lv' := [(3, .int (-4)), (0, .ref (ad 16)), (1, .int x1), (2, .int x2)]) hx hb dX8_back_63 rfl hl (by decide) rfl (fun ls hl => ?_)
          refine lv_aload_n hx hb dX8_back_64 rfl (lv_at hl 1 rfl) ?_
          refine lv_iload_n hx hb dX8_back_65 rfl (lv_at hl 2 rfl) ?_
          refine lv_bipush (v := (-4)) hx hb dX8_back_66 nb_m4 ?_
          obtain ⟨v6, w7, hv, hf⟩ := bs2 hf
          refine x_cVi (As := [.int x1, .int (-4)]) (rest := []) hx hb hml hts hown hE hP hS hAA (kX8_rankRidingOn hN hD hv) cl_X8_187 (nb16 hN) oX_16 vc_8 (Nat.le_trans (by decide) hRf) (Nat.le_trans (by decide) hRl) (Nat.zero_le _) (Nat.zero_le _) rfl hl.1 rfl (Nat.le_of_ble_eq_true rfl) dX8_back_68 (fun H locs hP hS => ?_)
          refine lv_istore (lv' := [(4, .int v6), (3, .int (-4)), (0, .ref (ad 16)), (1, .int x1), (2, .int x2)]) hx hb dX8_back_71 hl (by decide) rfl (fun ls hl => ?_)
          refine lv_iconst (v := 0) hx hb dX8_back_73 nc_0 ?_
          refine lv_istore (lv' := [(5, .int 0), (4, .int v6), (3, .int (-4)), (0, .ref (ad 16)), (1, .int x1), (2, .int x2)]) hx hb dX8_back_74 hl (by decide) rfl (fun ls hl => ?_)
          obtain ⟨w13, v14, v15, hq12, hf⟩ := bs3 hf
          have hJ12 : ∀ (H : Heap) (locs : List Loc) (ls : Array Slot), Ho κ (wX κ tl) N ad w13 H → va_S (Aof ad N) s.heap H locs → lv_has ls 7 [(2, .int x2), (3, .int v14), (4, .int v15)] → W p l e R s m args below meth c H locs 0 0 Q (F0 m 138 ls []) := by
            intro H locs ls hP hS hl
            refine lv_iload_n hx hb dX8_back_138 rfl (lv_at hl 0 rfl) ?_
            refine lv_if_ne (tgt := 146) hx hb dX8_back_139 (by decide) (fun hc => ?_) (fun hc => ?_)
            · have hf := iq hc hf
              refine lv_iload hx hb dX8_back_146 (lv_at hl 2 rfl) ?_
              cases hf
              exact hret _ _ _ _ dX8_back_148 hP hS
            · have hf := ip hc hf
              refine lv_iload_n hx hb dX8_back_142 rfl (lv_at hl 1 rfl) ?_
              refine lv_goto (tgt := 148) hx hb dX8_back_143 (by decide) ?_
              cases hf
              exact hret _ _ _ _ dX8_back_148 hP hS
          clear hf
          have hf := hq12
          clear hq12
          have hL12 : ∀ (fu : Nat) (v8 : Int32) (v9 : Int32) (v10 : Int32) (w11 : Mm) (H : Heap) (locs : List Loc) (ls : Array Slot), LX8_back_76 x1 fu v8 v9 v10 w11 = some (w13, v14, v15) → Ho κ (wX κ tl) N ad w11 H → va_S (Aof ad N) s.heap H locs → lv_has ls 7 [(0, .ref (ad 16)), (1, .int x1), (2, .int x2), (3, .int v8), (4, .int v9), (5, .int v10)] → W p l e R s m args below meth c H locs 0 0 Q (F0 m 76 ls []) := by
            intro fu
            induction fu with
            | zero =>
              intro v8 v9 v10 w11 H locs ls hf
              rw [LX8_back_76] at hf
              cases hf
            | succ fu ih =>
              intro v8 v9 v10 w11 H locs ls hf hP hS hl
              rw [LX8_back_76] at hf
              refine lv_iload hx hb dX8_back_76 (lv_at hl 5 rfl) ?_
              refine lv_aload_n hx hb dX8_back_78 rfl (lv_at hl 0 rfl) ?_
              obtain ⟨_, hv, hf⟩ := bs1 hf
              refine x_getr hx hb hts hown hE hP fl_X8_28 (nb16 hN) gX_16_3 hv dX8_back_79 ?_
              refine x_get hx hb hts hown hE hP fl_X8_102 (nb17 hN) gX_17_12 dX8_back_82 ?_
              refine lv_icmp_ge (tgt := 138) hx hb dX8_back_85 (by decide) (fun hc => ?_) (fun hc => ?_)
              · have hf := ip hc hf
                cases hf
                exact hJ12 _ _ _ hP hS (lv_sub hl [2, 3, 4] rfl)
              · have hf := iq hc hf
                refine lv_iload hx hb dX8_back_88 (lv_at hl 5 rfl) ?_
                refine lv_iload_n hx hb dX8_back_90 rfl (lv_at hl 1 rfl) ?_
                obtain ⟨w16, v17, v18, hq19, hf⟩ := bs3 hf
                have hJ19 : ∀ (H : Heap) (locs : List Loc) (ls : Array Slot), Ho κ (wX κ tl) N ad w16 H → va_S (Aof ad N) s.heap H locs → lv_has ls 7 [(0, .ref (ad 16)), (1, .int x1), (2, .int x2), (3, .int v17), (4, .int v18), (5, .int v10)] → W p l e R s m args below meth c H locs 0 0 Q (F0 m 132 ls []) := by
                  intro H locs ls hP hS hl
                  refine lv_iinc (v := (v10 + 1)) (lv' := [(5, .int (v10 + 1)), (0, .ref (ad 16)), (1, .int x1), (2, .int x2), (3, .int v17), (4, .int v18)]) hx hb dX8_back_132 hl (k := 5) rfl (ni_1 _) (by decide) rfl (fun ls hl => ?_)
                  refine lv_goto (tgt := 76) hx hb dX8_back_135 (by decide) ?_
                  exact ih _ _ _ _ _ _ _ hf hP hS (lv_sub hl [1, 2, 3, 4, 5, 0] rfl)
                clear hf
                have hf := hq19
                clear hq19
                refine lv_icmp_eq (tgt := 132) hx hb dX8_back_91 (by decide) (fun hc => ?_) (fun hc => ?_)
                · have hf := ip hc hf
                  cases hf
                  exact hJ19 _ _ _ hP hS (lv_sub hl [0, 1, 2, 3, 4, 5] rfl)
                · have hf := iq hc hf
                  refine lv_aload_n hx hb dX8_back_94 rfl (lv_at hl 0 rfl) ?_
                  obtain ⟨_, hv, hf⟩ := bs1 hf
                  refine x_getr hx hb hts hown hE hP fl_X8_28 (nb16 hN) gX_16_3 hv dX8_back_95 ?_
                  refine x_get hx hb hts hown hE hP fl_X8_122 (nb17 hN) gX_17_4 dX8_back_98 ?_
                  refine lv_iload hx hb dX8_back_101 (lv_at hl 5 rfl) ?_
                  obtain ⟨v20, hv, hf⟩ := bs1 hf
                  refine x_iald hx hb hE hP (nb22 hN) (aX_22 _) hv dX8_back_103 ?_
                  refine lv_bipush (v := (-4)) hx hb dX8_back_104 nb_m4 ?_
                  refine lv_icmp_ne (tgt := 132) hx hb dX8_back_106 (by decide) (fun hc => ?_) (fun hc => ?_)
                  · have hf := iq hc hf
                    cases hf
                    exact hJ19 _ _ _ hP hS (lv_sub hl [0, 1, 2, 3, 4, 5] rfl)
                  · have hf := ip hc hf
                    refine lv_aload_n hx hb dX8_back_109 rfl (lv_at hl 0 rfl) ?_
                    refine lv_iload_n hx hb dX8_back_110 rfl (lv_at hl 1 rfl) ?_
                    refine lv_iload hx hb dX8_back_111 (lv_at hl 5 rfl) ?_
                    obtain ⟨v21, w22, hv, hf⟩ := bs2 hf
                    refine x_cVi (As := [.int x1, .int v10]) (rest := []) hx hb hml hts hown hE hP hS hAA (kX8_rankRidingOn hN hD hv) cl_X8_187 (nb16 hN) oX_16 vc_8 (Nat.le_trans (by decide) hRf) (Nat.le_trans (by decide) hRl) (Nat.zero_le _) (Nat.zero_le _) rfl hl.1 rfl (Nat.le_of_ble_eq_true rfl) dX8_back_113 (fun H locs hP hS => ?_)
                    refine lv_istore (lv' := [(6, .int v21), (0, .ref (ad 16)), (1, .int x1), (2, .int x2), (3, .int v8), (4, .int v9), (5, .int v10)]) hx hb dX8_back_116 hl (by decide) rfl (fun ls hl => ?_)
                    refine lv_iload hx hb dX8_back_118 (lv_at hl 0 rfl) ?_
                    refine lv_iload hx hb dX8_back_120 (lv_at hl 5 rfl) ?_
                    refine lv_icmp_ge (tgt := 132) hx hb dX8_back_122 (by decide) (fun hc => ?_) (fun hc => ?_)
                    · have hf := ip hc hf
                      cases hf
                      exact hJ19 _ _ _ hP hS (lv_sub hl [1, 2, 3, 4, 5, 6] rfl)
                    · have hf := iq hc hf
                      refine lv_iload hx hb dX8_back_125 (lv_at hl 6 rfl) ?_
                      refine lv_istore_n (lv' := [(3, .int v10), (6, .int v21), (0, .ref (ad 16)), (1, .int x1), (2, .int x2), (4, .int v9), (5, .int v10)]) hx hb dX8_back_127 rfl hl (by decide) rfl (fun ls hl => ?_)
                      refine lv_iload hx hb dX8_back_128 (lv_at hl 1 rfl) ?_
                      refine lv_istore (lv' := [(4, .int v21), (3, .int v10), (6, .int v21), (0, .ref (ad 16)), (1, .int x1), (2, .int x2), (5, .int v10)]) hx hb dX8_back_130 hl (by decide) rfl (fun ls hl => ?_)
                      cases hf
                      exact hJ19 _ _ _ hP hS (lv_sub hl [3, 4, 5, 1, 0, 6] rfl)
          exact hL12 _ _ _ _ _ _ _ _ hf hP hS (lv_sub hl [3, 4, 5, 2, 1, 0] rfl)
        · have hf := iq hc hf
          refine lv_bipush (v := (-2)) hx hb dX8_back_47 nb_m2 ?_
          cases hf
          exact hret _ _ _ _ dX8_back_49 hP hS
    · have hf := ip hc hf
      refine lv_iconst (v := (-1)) hx hb dX8_back_20 nc_m1 ?_
      cases hf
      exact hret _ _ _ _ dX8_back_21 hP hS
def LX8_lightOnes_4 (x1 : Int32) (w : Mm) : Nat → Int32 → Int32 → Option (Int32)
  | 0, _, _ => none
  | fu + 1, v1, v2 =>
    bd1 (gq (w 16 3) 17) fun _ =>
    if (w 17 12) ≤ v2 then
      some (v1)
    else
      bd1 (gq (w 16 3) 17) fun _ =>
      bd1 (rd w 23 8 v2) fun v5 =>
      bd1 (
        if v5 = (-4) then
          bd1 (gq (w 16 3) 17) fun _ =>
          bd1 (rd w 20 8 v2) fun v8 =>
          if v8 = 1 then
            bd1 (gq (w 16 3) 17) fun _ =>
            bd1 (rd w 19 8 v2) fun v9 =>
            if v9 = x1 then
              some (1)
            else
              some (0)
          else
            some (0)
        else
          some (0)) fun (v6 : Int32) =>
      LX8_lightOnes_4 x1 w fu (v1 + v6) (v2 + 1)
def fX8_lightOnes (w : Mm) (x1 : Int32) : Option (Int32) :=
  bd1 (LX8_lightOnes_4 x1 w 1000 0 0) fun (v4 : Int32) =>
  some v4
set_option maxHeartbeats 4000000 in
set_option maxRecDepth 100000 in
theorem kX8_lightOnes {l : Launch} {κ : Kp} {tl : Nat} {N : Nat} {ad : Nat → Nat} {w : Mm} {x1 : Int32} {r : Int32} (hN : 52 ≤ N) (hD : Apt ad N) (hf : fX8_lightOnes w x1 = some r) : Met l yX8_lightOnes (Cond.code yX8_lightOnes cX8_lightOnes 4 (some .int) :: TB) (rmX 0 0) (PcX κ (wX κ tl) N ad w [.ref (ad 16), .int x1]) (QI κ (wX κ tl) N ad w r) 0 0 (Aof ad N) := by
  refine mkI (by decide +kernel) (Nat.le_of_ble_eq_true rfl) (fun p e R s m args below meth c Q H locs ls hC hRf hRl hP hS hret hl => ?_)
  obtain ⟨hx, hb, hml, hown, hts, hE⟩ := hC
  have hA : ∀ k, k < N → Aof ad N (ad k) := fun k h => Aof_in h
  have hAA : ∀ z, Aof ad N z → Aof ad N z := fun _ h => h
  have hl : lv_has ls 4 [(0, .ref (ad 16)), (1, .int x1)] := hl
  unfold fX8_lightOnes at hf
  refine lv_iconst (v := 0) hx hb dX8_lightOnes_0 nc_0 ?_
  refine lv_istore_n (lv' := [(2, .int 0), (0, .ref (ad 16)), (1, .int x1)]) hx hb dX8_lightOnes_1 rfl hl (by decide) rfl (fun ls hl => ?_)
  refine lv_iconst (v := 0) hx hb dX8_lightOnes_2 nc_0 ?_
  refine lv_istore_n (lv' := [(3, .int 0), (2, .int 0), (0, .ref (ad 16)), (1, .int x1)]) hx hb dX8_lightOnes_3 rfl hl (by decide) rfl (fun ls hl => ?_)
  obtain ⟨v4, hq3, hf⟩ := bs1 hf
  have hJ3 : ∀ (H : Heap) (locs : List Loc) (ls : Array Slot), Ho κ (wX κ tl) N ad w H → va_S (Aof ad N) s.heap H locs → lv_has ls 4 [(2, .int v4)] → W p l e R s m args below meth c H locs 0 0 Q (F0 m 69 ls []) := by
    intro H locs ls hP hS hl
    refine lv_iload_n hx hb dX8_lightOnes_69 rfl (lv_at hl 0 rfl) ?_
    cases hf
    exact hret _ _ _ _ dX8_lightOnes_70 hP hS
  clear hf
  have hf := hq3
  clear hq3
  have hL3 : ∀ (fu : Nat) (v1 : Int32) (v2 : Int32) (H : Heap) (locs : List Loc) (ls : Array Slot), LX8_lightOnes_4 x1 w fu v1 v2 = some (v4) → Ho κ (wX κ tl) N ad w H → va_S (Aof ad N) s.heap H locs → lv_has ls 4 [(0, .ref (ad 16)), (1, .int x1), (2, .int v1), (3, .int v2)] → W p l e R s m args below meth c H locs 0 0 Q (F0 m 4 ls []) := by
    intro fu
    induction fu with
    | zero =>
      intro v1 v2 H locs ls hf
      rw [LX8_lightOnes_4] at hf
      cases hf
    | succ fu ih =>
      intro v1 v2 H locs ls hf hP hS hl
      rw [LX8_lightOnes_4] at hf
      refine lv_iload_n hx hb dX8_lightOnes_4 rfl (lv_at hl 3 rfl) ?_
      refine lv_aload_n hx hb dX8_lightOnes_5 rfl (lv_at hl 0 rfl) ?_
      obtain ⟨_, hv, hf⟩ := bs1 hf
      refine x_getr hx hb hts hown hE hP fl_X8_28 (nb16 hN) gX_16_3 hv dX8_lightOnes_6 ?_
      refine x_get hx hb hts hown hE hP fl_X8_102 (nb17 hN) gX_17_12 dX8_lightOnes_9 ?_
      refine lv_icmp_ge (tgt := 69) hx hb dX8_lightOnes_12 (by decide) (fun hc => ?_) (fun hc => ?_)
      · have hf := ip hc hf
        cases hf
        exact hJ3 _ _ _ hP hS (lv_sub hl [2] rfl)
      · have hf := iq hc hf
        refine lv_iload_n hx hb dX8_lightOnes_15 rfl (lv_at hl 2 rfl) ?_
        refine lv_aload_n hx hb dX8_lightOnes_16 rfl (lv_at hl 0 rfl) ?_
        obtain ⟨_, hv, hf⟩ := bs1 hf
        refine x_getr hx hb hts hown hE hP fl_X8_28 (nb16 hN) gX_16_3 hv dX8_lightOnes_17 ?_
        refine x_get hx hb hts hown hE hP fl_X8_125 (nb17 hN) gX_17_5 dX8_lightOnes_20 ?_
        refine lv_iload_n hx hb dX8_lightOnes_23 rfl (lv_at hl 3 rfl) ?_
        obtain ⟨v5, hv, hf⟩ := bs1 hf
        refine x_iald hx hb hE hP (nb23 hN) (aX_23 _) hv dX8_lightOnes_24 ?_
        refine lv_bipush (v := (-4)) hx hb dX8_lightOnes_25 nb_m4 ?_
        obtain ⟨v6, hq7, hf⟩ := bs1 hf
        have hJ7 : ∀ (H : Heap) (locs : List Loc) (ls : Array Slot), Ho κ (wX κ tl) N ad w H → va_S (Aof ad N) s.heap H locs → lv_has ls 4 [(0, .ref (ad 16)), (1, .int x1), (3, .int v2)] → W p l e R s m args below meth c H locs 0 0 Q (F0 m 61 ls [.int v6, .int v1]) := by
          intro H locs ls hP hS hl
          refine lv_iadd hx hb dX8_lightOnes_61 ?_
          refine lv_istore_n (lv' := [(2, .int (v1 + v6)), (0, .ref (ad 16)), (1, .int x1), (3, .int v2)]) hx hb dX8_lightOnes_62 rfl hl (by decide) rfl (fun ls hl => ?_)
          refine lv_iinc (v := (v2 + 1)) (lv' := [(3, .int (v2 + 1)), (2, .int (v1 + v6)), (0, .ref (ad 16)), (1, .int x1)]) hx hb dX8_lightOnes_63 hl (k := 3) rfl (ni_1 _) (by decide) rfl (fun ls hl => ?_)
          refine lv_goto (tgt := 4) hx hb dX8_lightOnes_66 (by decide) ?_
          exact ih _ _ _ _ _ hf hP hS (lv_sub hl [2, 3, 1, 0] rfl)
        clear hf
        have hf := hq7
        clear hq7
        refine lv_icmp_ne (tgt := 60) hx hb dX8_lightOnes_27 (by decide) (fun hc => ?_) (fun hc => ?_)
        · have hf := iq hc hf
          refine lv_iconst (v := 0) hx hb dX8_lightOnes_60 nc_0 ?_
          cases hf
          exact hJ7 _ _ _ hP hS (lv_sub hl [0, 1, 3] rfl)
        · have hf := ip hc hf
          refine lv_aload_n hx hb dX8_lightOnes_30 rfl (lv_at hl 0 rfl) ?_
          obtain ⟨_, hv, hf⟩ := bs1 hf
          refine x_getr hx hb hts hown hE hP fl_X8_28 (nb16 hN) gX_16_3 hv dX8_lightOnes_31 ?_
          refine x_get hx hb hts hown hE hP fl_X8_116 (nb17 hN) gX_17_2 dX8_lightOnes_34 ?_
          refine lv_iload_n hx hb dX8_lightOnes_37 rfl (lv_at hl 3 rfl) ?_
          obtain ⟨v8, hv, hf⟩ := bs1 hf
          refine x_iald hx hb hE hP (nb20 hN) (aX_20 _) hv dX8_lightOnes_38 ?_
          refine lv_iconst (v := 1) hx hb dX8_lightOnes_39 nc_1 ?_
          refine lv_icmp_ne (tgt := 60) hx hb dX8_lightOnes_40 (by decide) (fun hc => ?_) (fun hc => ?_)
          · have hf := iq hc hf
            refine lv_iconst (v := 0) hx hb dX8_lightOnes_60 nc_0 ?_
            cases hf
            exact hJ7 _ _ _ hP hS (lv_sub hl [0, 1, 3] rfl)
          · have hf := ip hc hf
            refine lv_aload_n hx hb dX8_lightOnes_43 rfl (lv_at hl 0 rfl) ?_
            obtain ⟨_, hv, hf⟩ := bs1 hf
            refine x_getr hx hb hts hown hE hP fl_X8_28 (nb16 hN) gX_16_3 hv dX8_lightOnes_44 ?_
            refine x_get hx hb hts hown hE hP fl_X8_113 (nb17 hN) gX_17_1 dX8_lightOnes_47 ?_
            refine lv_iload_n hx hb dX8_lightOnes_50 rfl (lv_at hl 3 rfl) ?_
            obtain ⟨v9, hv, hf⟩ := bs1 hf
            refine x_iald hx hb hE hP (nb19 hN) (aX_19 _) hv dX8_lightOnes_51 ?_
            refine lv_iload_n hx hb dX8_lightOnes_52 rfl (lv_at hl 1 rfl) ?_
            refine lv_icmp_ne (tgt := 60) hx hb dX8_lightOnes_53 (by decide) (fun hc => ?_) (fun hc => ?_)
            · have hf := iq hc hf
              refine lv_iconst (v := 0) hx hb dX8_lightOnes_60 nc_0 ?_
              cases hf
              exact hJ7 _ _ _ hP hS (lv_sub hl [0, 1, 3] rfl)
            · have hf := ip hc hf
              refine lv_iconst (v := 1) hx hb dX8_lightOnes_56 nc_1 ?_
              refine lv_goto (tgt := 61) hx hb dX8_lightOnes_57 (by decide) ?_
              cases hf
              exact hJ7 _ _ _ hP hS (lv_sub hl [0, 1, 3] rfl)
  exact hL3 _ _ _ _ _ _ hf hP hS (lv_sub hl [2, 3, 1, 0] rfl)
def LX8_bearersOf_4 (x1 : Int32) (w : Mm) : Nat → Int32 → Int32 → Option (Int32)
  | 0, _, _ => none
  | fu + 1, v1, v2 =>
    bd1 (gq (w 16 3) 17) fun _ =>
    if (w 17 12) ≤ v2 then
      some (v1)
    else
      bd1 (gq (w 16 3) 17) fun _ =>
      bd1 (rd w 23 8 v2) fun v5 =>
      bd1 (
        if v5 = (-4) then
          bd1 (gq (w 16 3) 17) fun _ =>
          bd1 (rd w 20 8 v2) fun v8 =>
          if v8 = 1 then
            some (0)
          else
            bd1 (gq (w 16 3) 17) fun _ =>
            bd1 (rd w 19 8 v2) fun v9 =>
            if v9 ≤ x1 then
              some (0)
            else
              some (1)
        else
          some (0)) fun (v6 : Int32) =>
      LX8_bearersOf_4 x1 w fu (v1 + v6) (v2 + 1)
def fX8_bearersOf (w : Mm) (x1 : Int32) : Option (Int32) :=
  bd1 (LX8_bearersOf_4 x1 w 1000 0 0) fun (v4 : Int32) =>
  some v4
set_option maxHeartbeats 4000000 in
set_option maxRecDepth 100000 in
theorem kX8_bearersOf {l : Launch} {κ : Kp} {tl : Nat} {N : Nat} {ad : Nat → Nat} {w : Mm} {x1 : Int32} {r : Int32} (hN : 52 ≤ N) (hD : Apt ad N) (hf : fX8_bearersOf w x1 = some r) : Met l yX8_bearersOf (Cond.code yX8_bearersOf cX8_bearersOf 4 (some .int) :: TB) (rmX 0 0) (PcX κ (wX κ tl) N ad w [.ref (ad 16), .int x1]) (QI κ (wX κ tl) N ad w r) 0 0 (Aof ad N) := by
  refine mkI (by decide +kernel) (Nat.le_of_ble_eq_true rfl) (fun p e R s m args below meth c Q H locs ls hC hRf hRl hP hS hret hl => ?_)
  obtain ⟨hx, hb, hml, hown, hts, hE⟩ := hC
  have hA : ∀ k, k < N → Aof ad N (ad k) := fun k h => Aof_in h
  have hAA : ∀ z, Aof ad N z → Aof ad N z := fun _ h => h
  have hl : lv_has ls 4 [(0, .ref (ad 16)), (1, .int x1)] := hl
  unfold fX8_bearersOf at hf
  refine lv_iconst (v := 0) hx hb dX8_bearersOf_0 nc_0 ?_
  refine lv_istore_n (lv' := [(2, .int 0), (0, .ref (ad 16)), (1, .int x1)]) hx hb dX8_bearersOf_1 rfl hl (by decide) rfl (fun ls hl => ?_)
  refine lv_iconst (v := 0) hx hb dX8_bearersOf_2 nc_0 ?_
  refine lv_istore_n (lv' := [(3, .int 0), (2, .int 0), (0, .ref (ad 16)), (1, .int x1)]) hx hb dX8_bearersOf_3 rfl hl (by decide) rfl (fun ls hl => ?_)
  obtain ⟨v4, hq3, hf⟩ := bs1 hf
  have hJ3 : ∀ (H : Heap) (locs : List Loc) (ls : Array Slot), Ho κ (wX κ tl) N ad w H → va_S (Aof ad N) s.heap H locs → lv_has ls 4 [(2, .int v4)] → W p l e R s m args below meth c H locs 0 0 Q (F0 m 69 ls []) := by
    intro H locs ls hP hS hl
    refine lv_iload_n hx hb dX8_bearersOf_69 rfl (lv_at hl 0 rfl) ?_
    cases hf
    exact hret _ _ _ _ dX8_bearersOf_70 hP hS
  clear hf
  have hf := hq3
  clear hq3
  have hL3 : ∀ (fu : Nat) (v1 : Int32) (v2 : Int32) (H : Heap) (locs : List Loc) (ls : Array Slot), LX8_bearersOf_4 x1 w fu v1 v2 = some (v4) → Ho κ (wX κ tl) N ad w H → va_S (Aof ad N) s.heap H locs → lv_has ls 4 [(0, .ref (ad 16)), (1, .int x1), (2, .int v1), (3, .int v2)] → W p l e R s m args below meth c H locs 0 0 Q (F0 m 4 ls []) := by
    intro fu
    induction fu with
    | zero =>
      intro v1 v2 H locs ls hf
      rw [LX8_bearersOf_4] at hf
      cases hf
    | succ fu ih =>
      intro v1 v2 H locs ls hf hP hS hl
      rw [LX8_bearersOf_4] at hf
      refine lv_iload_n hx hb dX8_bearersOf_4 rfl (lv_at hl 3 rfl) ?_
      refine lv_aload_n hx hb dX8_bearersOf_5 rfl (lv_at hl 0 rfl) ?_
      obtain ⟨_, hv, hf⟩ := bs1 hf
      refine x_getr hx hb hts hown hE hP fl_X8_28 (nb16 hN) gX_16_3 hv dX8_bearersOf_6 ?_
      refine x_get hx hb hts hown hE hP fl_X8_102 (nb17 hN) gX_17_12 dX8_bearersOf_9 ?_
      refine lv_icmp_ge (tgt := 69) hx hb dX8_bearersOf_12 (by decide) (fun hc => ?_) (fun hc => ?_)
      · have hf := ip hc hf
        cases hf
        exact hJ3 _ _ _ hP hS (lv_sub hl [2] rfl)
      · have hf := iq hc hf
        refine lv_iload_n hx hb dX8_bearersOf_15 rfl (lv_at hl 2 rfl) ?_
        refine lv_aload_n hx hb dX8_bearersOf_16 rfl (lv_at hl 0 rfl) ?_
        obtain ⟨_, hv, hf⟩ := bs1 hf
        refine x_getr hx hb hts hown hE hP fl_X8_28 (nb16 hN) gX_16_3 hv dX8_bearersOf_17 ?_
        refine x_get hx hb hts hown hE hP fl_X8_125 (nb17 hN) gX_17_5 dX8_bearersOf_20 ?_
        refine lv_iload_n hx hb dX8_bearersOf_23 rfl (lv_at hl 3 rfl) ?_
        obtain ⟨v5, hv, hf⟩ := bs1 hf
        refine x_iald hx hb hE hP (nb23 hN) (aX_23 _) hv dX8_bearersOf_24 ?_
        refine lv_bipush (v := (-4)) hx hb dX8_bearersOf_25 nb_m4 ?_
        obtain ⟨v6, hq7, hf⟩ := bs1 hf
        have hJ7 : ∀ (H : Heap) (locs : List Loc) (ls : Array Slot), Ho κ (wX κ tl) N ad w H → va_S (Aof ad N) s.heap H locs → lv_has ls 4 [(0, .ref (ad 16)), (1, .int x1), (3, .int v2)] → W p l e R s m args below meth c H locs 0 0 Q (F0 m 61 ls [.int v6, .int v1]) := by
          intro H locs ls hP hS hl
          refine lv_iadd hx hb dX8_bearersOf_61 ?_
          refine lv_istore_n (lv' := [(2, .int (v1 + v6)), (0, .ref (ad 16)), (1, .int x1), (3, .int v2)]) hx hb dX8_bearersOf_62 rfl hl (by decide) rfl (fun ls hl => ?_)
          refine lv_iinc (v := (v2 + 1)) (lv' := [(3, .int (v2 + 1)), (2, .int (v1 + v6)), (0, .ref (ad 16)), (1, .int x1)]) hx hb dX8_bearersOf_63 hl (k := 3) rfl (ni_1 _) (by decide) rfl (fun ls hl => ?_)
          refine lv_goto (tgt := 4) hx hb dX8_bearersOf_66 (by decide) ?_
          exact ih _ _ _ _ _ hf hP hS (lv_sub hl [2, 3, 1, 0] rfl)
        clear hf
        have hf := hq7
        clear hq7
        refine lv_icmp_ne (tgt := 60) hx hb dX8_bearersOf_27 (by decide) (fun hc => ?_) (fun hc => ?_)
        · have hf := iq hc hf
          refine lv_iconst (v := 0) hx hb dX8_bearersOf_60 nc_0 ?_
          cases hf
          exact hJ7 _ _ _ hP hS (lv_sub hl [0, 1, 3] rfl)
        · have hf := ip hc hf
          refine lv_aload_n hx hb dX8_bearersOf_30 rfl (lv_at hl 0 rfl) ?_
          obtain ⟨_, hv, hf⟩ := bs1 hf
          refine x_getr hx hb hts hown hE hP fl_X8_28 (nb16 hN) gX_16_3 hv dX8_bearersOf_31 ?_
          refine x_get hx hb hts hown hE hP fl_X8_116 (nb17 hN) gX_17_2 dX8_bearersOf_34 ?_
          refine lv_iload_n hx hb dX8_bearersOf_37 rfl (lv_at hl 3 rfl) ?_
          obtain ⟨v8, hv, hf⟩ := bs1 hf
          refine x_iald hx hb hE hP (nb20 hN) (aX_20 _) hv dX8_bearersOf_38 ?_
          refine lv_iconst (v := 1) hx hb dX8_bearersOf_39 nc_1 ?_
          refine lv_icmp_eq (tgt := 60) hx hb dX8_bearersOf_40 (by decide) (fun hc => ?_) (fun hc => ?_)
          · have hf := ip hc hf
            refine lv_iconst (v := 0) hx hb dX8_bearersOf_60 nc_0 ?_
            cases hf
            exact hJ7 _ _ _ hP hS (lv_sub hl [0, 1, 3] rfl)
          · have hf := iq hc hf
            refine lv_aload_n hx hb dX8_bearersOf_43 rfl (lv_at hl 0 rfl) ?_
            obtain ⟨_, hv, hf⟩ := bs1 hf
            refine x_getr hx hb hts hown hE hP fl_X8_28 (nb16 hN) gX_16_3 hv dX8_bearersOf_44 ?_
            refine x_get hx hb hts hown hE hP fl_X8_113 (nb17 hN) gX_17_1 dX8_bearersOf_47 ?_
            refine lv_iload_n hx hb dX8_bearersOf_50 rfl (lv_at hl 3 rfl) ?_
            obtain ⟨v9, hv, hf⟩ := bs1 hf
            refine x_iald hx hb hE hP (nb19 hN) (aX_19 _) hv dX8_bearersOf_51 ?_
            refine lv_iload_n hx hb dX8_bearersOf_52 rfl (lv_at hl 1 rfl) ?_
            refine lv_icmp_le (tgt := 60) hx hb dX8_bearersOf_53 (by decide) (fun hc => ?_) (fun hc => ?_)
            · have hf := ip hc hf
              refine lv_iconst (v := 0) hx hb dX8_bearersOf_60 nc_0 ?_
              cases hf
              exact hJ7 _ _ _ hP hS (lv_sub hl [0, 1, 3] rfl)
            · have hf := iq hc hf
              refine lv_iconst (v := 1) hx hb dX8_bearersOf_56 nc_1 ?_
              refine lv_goto (tgt := 61) hx hb dX8_bearersOf_57 (by decide) ?_
              cases hf
              exact hJ7 _ _ _ hP hS (lv_sub hl [0, 1, 3] rfl)
  exact hL3 _ _ _ _ _ _ hf hP hS (lv_sub hl [2, 3, 1, 0] rfl)
def LX8_twos_5 (w : Mm) : Nat → Int32 → Int32 → Option (Int32)
  | 0, _, _ => none
  | fu + 1, v1, v2 =>
    if v2 < 1 then
      some (v1)
    else
      bd1 (fX8_lightOnes w v2) fun v5 =>
      bd1 (fX8_bearersOf w v2) fun v6 =>
      LX8_twos_5 w fu (if v6 < (v1 + v5) then v6 else (v1 + v5)) (v2 - 1)
def fX8_twos (w : Mm) : Option (Int32) :=
  bd1 (LX8_twos_5 w 1000 0 9) fun (v4 : Int32) =>
  some v4
set_option maxHeartbeats 4000000 in
set_option maxRecDepth 100000 in
theorem kX8_twos {l : Launch} {κ : Kp} {tl : Nat} {N : Nat} {ad : Nat → Nat} {w : Mm} {r : Int32} (hN : 52 ≤ N) (hD : Apt ad N) (hf : fX8_twos w = some r) : Met l yX8_twos (Cond.code yX8_twos cX8_twos 3 (some .int) :: TB) (rmX 1 23) (PcX κ (wX κ tl) N ad w [.ref (ad 16)]) (QI κ (wX κ tl) N ad w r) 0 0 (Aof ad N) := by
  refine mkI (by decide +kernel) (Nat.le_of_ble_eq_true rfl) (fun p e R s m args below meth c Q H locs ls hC hRf hRl hP hS hret hl => ?_)
  obtain ⟨hx, hb, hml, hown, hts, hE⟩ := hC
  have hA : ∀ k, k < N → Aof ad N (ad k) := fun k h => Aof_in h
  have hAA : ∀ z, Aof ad N z → Aof ad N z := fun _ h => h
  have hl : lv_has ls 3 [(0, .ref (ad 16))] := hl
  unfold fX8_twos at hf
  refine lv_iconst (v := 0) hx hb dX8_twos_0 nc_0 ?_
  refine lv_istore_n (lv' := [(1, .int 0), (0, .ref (ad 16))]) hx hb dX8_twos_1 rfl hl (by decide) rfl (fun ls hl => ?_)
  refine lv_bipush (v := 9) hx hb dX8_twos_2 nb_9 ?_
  refine lv_istore_n (lv' := [(2, .int 9), (1, .int 0), (0, .ref (ad 16))]) hx hb dX8_twos_4 rfl hl (by decide) rfl (fun ls hl => ?_)
  obtain ⟨v4, hq3, hf⟩ := bs1 hf
  have hJ3 : ∀ (H : Heap) (locs : List Loc) (ls : Array Slot), Ho κ (wX κ tl) N ad w H → va_S (Aof ad N) s.heap H locs → lv_has ls 3 [(1, .int v4)] → W p l e R s m args below meth c H locs 0 0 Q (F0 m 32 ls []) := by
    intro H locs ls hP hS hl
    refine lv_iload_n hx hb dX8_twos_32 rfl (lv_at hl 0 rfl) ?_
    cases hf
    exact hret _ _ _ _ dX8_twos_33 hP hS
  clear hf
  have hf := hq3
  clear hq3
  have hL3 : ∀ (fu : Nat) (v1 : Int32) (v2 : Int32) (H : Heap) (locs : List Loc) (ls : Array Slot), LX8_twos_5 w fu v1 v2 = some (v4) → Ho κ (wX κ tl) N ad w H → va_S (Aof ad N) s.heap H locs → lv_has ls 3 [(0, .ref (ad 16)), (1, .int v1), (2, .int v2)] → W p l e R s m args below meth c H locs 0 0 Q (F0 m 5 ls []) := by
    intro fu
    induction fu with
    | zero =>
      intro v1 v2 H locs ls hf
      rw [LX8_twos_5] at hf
      cases hf
    | succ fu ih =>
      intro v1 v2 H locs ls hf hP hS hl
      rw [LX8_twos_5] at hf
      refine lv_iload_n hx hb dX8_twos_5 rfl (lv_at hl 2 rfl) ?_
      refine lv_iconst (v := 1) hx hb dX8_twos_6 nc_1 ?_
      refine lv_icmp_lt (tgt := 32) hx hb dX8_twos_7 (by decide) (fun hc => ?_) (fun hc => ?_)
      · have hf := ip hc hf
        cases hf
        exact hJ3 _ _ _ hP hS (lv_sub hl [1] rfl)
      · have hf := iq hc hf
        refine lv_iload_n hx hb dX8_twos_10 rfl (lv_at hl 1 rfl) ?_
        refine lv_aload_n hx hb dX8_twos_11 rfl (lv_at hl 0 rfl) ?_
        refine lv_iload_n hx hb dX8_twos_12 rfl (lv_at hl 2 rfl) ?_
        obtain ⟨v5, hv, hf⟩ := bs1 hf
        refine x_cVi (As := [.int v2]) (rest := [.int v1]) hx hb hml hts hown hE hP hS hAA (kX8_lightOnes hN hD hv) cl_X8_190 (nb16 hN) oX_16 vc_8 (Nat.le_trans (by decide) hRf) (Nat.le_trans (by decide) hRl) (Nat.zero_le _) (Nat.zero_le _) rfl hl.1 rfl (Nat.le_of_ble_eq_true rfl) dX8_twos_13 (fun H locs hP hS => ?_)
        refine lv_iadd hx hb dX8_twos_16 ?_
        refine lv_aload_n hx hb dX8_twos_17 rfl (lv_at hl 0 rfl) ?_
        refine lv_iload_n hx hb dX8_twos_18 rfl (lv_at hl 2 rfl) ?_
        obtain ⟨v6, hv, hf⟩ := bs1 hf
        refine x_cVi (As := [.int v2]) (rest := [.int (v1 + v5)]) hx hb hml hts hown hE hP hS hAA (kX8_bearersOf hN hD hv) cl_X8_193 (nb16 hN) oX_16 vc_8 (Nat.le_trans (by decide) hRf) (Nat.le_trans (by decide) hRl) (Nat.zero_le _) (Nat.zero_le _) rfl hl.1 rfl (Nat.le_of_ble_eq_true rfl) dX8_twos_19 (fun H locs hP hS => ?_)
        refine x_min hx hb (hml.trans hl.1.symm) hts hown lm_X8_151 (Nat.le_trans (by decide) hRf) (Nat.le_trans (Nat.le_of_ble_eq_true rfl) hRl) (Nat.zero_le _) (Nat.zero_le _) dX8_twos_22 ?_
        refine lv_istore_n (lv' := [(1, .int (if v6 < (v1 + v5) then v6 else (v1 + v5))), (0, .ref (ad 16)), (2, .int v2)]) hx hb dX8_twos_25 rfl hl (by decide) rfl (fun ls hl => ?_)
        refine lv_iinc (v := (v2 - 1)) (lv' := [(2, .int (v2 - 1)), (1, .int (if v6 < (v1 + v5) then v6 else (v1 + v5))), (0, .ref (ad 16))]) hx hb dX8_twos_26 hl (k := 2) rfl (ni_m1 _) (by decide) rfl (fun ls hl => ?_)
        refine lv_goto (tgt := 5) hx hb dX8_twos_29 (by decide) ?_
        exact ih _ _ _ _ _ hf hP hS (lv_sub hl [2, 1, 0] rfl)
  exact hL3 _ _ _ _ _ _ hf hP hS (lv_sub hl [2, 1, 0] rfl)
def fX8_wouldRather (w : Mm) (x1 x2 : Int32) : Option (Int32) :=
  bd1 (gq (w 16 3) 17) fun _ =>
  bd1 (rd w 25 8 x1) fun v1 =>
  if v1 = (-4) then
    some 0
  else
    bd1 (rd w 34 8 x2) fun v2 =>
    bd1 (rd w 34 8 x1) fun v3 =>
    if (if 0 ≤ (v3 - v1) then (v3 - v1) else 0 - (v3 - v1)) ≤ (if 0 ≤ (v2 - v1) then (v2 - v1) else 0 - (v2 - v1)) then
      some 0
    else
      some 1
set_option maxHeartbeats 4000000 in
set_option maxRecDepth 100000 in
theorem kX8_wouldRather {l : Launch} {κ : Kp} {tl : Nat} {N : Nat} {ad : Nat → Nat} {w : Mm} {x1 x2 : Int32} {r : Int32} (hN : 52 ≤ N) (hD : Apt ad N) (hf : fX8_wouldRather w x1 x2 = some r) : Met l yX8_wouldRather (Cond.code yX8_wouldRather cX8_wouldRather 4 (some .boolean) :: TB) (rmX 1 14) (PcX κ (wX κ tl) N ad w [.ref (ad 16), .int x1, .int x2]) (QI κ (wX κ tl) N ad w r) 0 0 (Aof ad N) := by
  refine mkZ (by decide +kernel) (Nat.le_of_ble_eq_true rfl) (fun p e R s m args below meth c Q H locs ls hC hRf hRl hP hS hret hl => ?_)
  obtain ⟨hx, hb, hml, hown, hts, hE⟩ := hC
  have hA : ∀ k, k < N → Aof ad N (ad k) := fun k h => Aof_in h
  have hAA : ∀ z, Aof ad N z → Aof ad N z := fun _ h => h
  have hl : lv_has ls 4 [(0, .ref (ad 16)), (1, .int x1), (2, .int x2)] := hl
  unfold fX8_wouldRather at hf
  refine lv_aload_n hx hb dX8_wouldRather_0 rfl (lv_at hl 0 rfl) ?_
  obtain ⟨_, hv, hf⟩ := bs1 hf
  refine x_getr hx hb hts hown hE hP fl_X8_28 (nb16 hN) gX_16_3 hv dX8_wouldRather_1 ?_
  refine x_get hx hb hts hown hE hP fl_X8_276 (nb17 hN) gX_17_7 dX8_wouldRather_4 ?_
  refine lv_iload_n hx hb dX8_wouldRather_7 rfl (lv_at hl 1 rfl) ?_
  obtain ⟨v1, hv, hf⟩ := bs1 hf
  refine x_iald hx hb hE hP (nb25 hN) (aX_25 _) hv dX8_wouldRather_8 ?_
  refine lv_istore_n (lv' := [(3, .int v1), (0, .ref (ad 16)), (1, .int x1), (2, .int x2)]) hx hb dX8_wouldRather_9 rfl hl (by decide) rfl (fun ls hl => ?_)
  refine lv_iload_n hx hb dX8_wouldRather_10 rfl (lv_at hl 0 rfl) ?_
  refine lv_bipush (v := (-4)) hx hb dX8_wouldRather_11 nb_m4 ?_
  refine lv_icmp_eq (tgt := 51) hx hb dX8_wouldRather_13 (by decide) (fun hc => ?_) (fun hc => ?_)
  · have hf := ip hc hf
    refine lv_iconst (v := 0) hx hb dX8_wouldRather_51 nc_0 ?_
    cases hf
    exact hret _ _ _ _ dX8_wouldRather_52 (Or.inl rfl) hP hS
  · have hf := iq hc hf
    refine lv_aload_n hx hb dX8_wouldRather_16 rfl (lv_at hl 1 rfl) ?_
    refine x_get hx hb hts hown hE hP fl_X8_43 (nb16 hN) gX_16_5 dX8_wouldRather_17 ?_
    refine x_get hx hb hts hown hE hP fl_X8_160 (nb30 hN) gX_30_3 dX8_wouldRather_20 ?_
    refine lv_iload_n hx hb dX8_wouldRather_23 rfl (lv_at hl 3 rfl) ?_
    obtain ⟨v2, hv, hf⟩ := bs1 hf
    refine x_iald hx hb hE hP (nb34 hN) (aX_34 _) hv dX8_wouldRather_24 ?_
    refine lv_iload_n hx hb dX8_wouldRather_25 rfl (lv_at hl 0 rfl) ?_
    refine lv_isub hx hb dX8_wouldRather_26 ?_
    refine x_abs hx hb (hml.trans hl.1.symm) hts hown lm_X8_279 (Nat.le_trans (by decide) hRf) (Nat.le_trans (Nat.le_of_ble_eq_true rfl) hRl) (Nat.zero_le _) (Nat.zero_le _) dX8_wouldRather_27 ?_
    refine lv_aload_n hx hb dX8_wouldRather_30 rfl (lv_at hl 1 rfl) ?_
    refine x_get hx hb hts hown hE hP fl_X8_43 (nb16 hN) gX_16_5 dX8_wouldRather_31 ?_
    refine x_get hx hb hts hown hE hP fl_X8_160 (nb30 hN) gX_30_3 dX8_wouldRather_34 ?_
    refine lv_iload_n hx hb dX8_wouldRather_37 rfl (lv_at hl 2 rfl) ?_
    obtain ⟨v3, hv, hf⟩ := bs1 hf
    refine x_iald hx hb hE hP (nb34 hN) (aX_34 _) hv dX8_wouldRather_38 ?_
    refine lv_iload_n hx hb dX8_wouldRather_39 rfl (lv_at hl 0 rfl) ?_
    refine lv_isub hx hb dX8_wouldRather_40 ?_
    refine x_abs hx hb (hml.trans hl.1.symm) hts hown lm_X8_279 (Nat.le_trans (by decide) hRf) (Nat.le_trans (Nat.le_of_ble_eq_true rfl) hRl) (Nat.zero_le _) (Nat.zero_le _) dX8_wouldRather_41 ?_
    refine lv_icmp_ge (tgt := 51) hx hb dX8_wouldRather_44 (by decide) (fun hc => ?_) (fun hc => ?_)
    · have hf := ip hc hf
      refine lv_iconst (v := 0) hx hb dX8_wouldRather_51 nc_0 ?_
      cases hf
      exact hret _ _ _ _ dX8_wouldRather_52 (Or.inl rfl) hP hS
    · have hf := iq hc hf
      refine lv_iconst (v := 1) hx hb dX8_wouldRather_47 nc_1 ?_
      refine lv_goto (tgt := 52) hx hb dX8_wouldRather_48 (by decide) ?_
      cases hf
      exact hret _ _ _ _ dX8_wouldRather_52 (Or.inr rfl) hP hS
def LX8_calm_41 (w2 : Mm) (v5 : Int32) : Nat → Int32 → Int32 → Int32 → Option (Int32 × Int32)
  | 0, _, _, _ => none
  | fu + 1, v9, v10, v11 =>
    bd1 (gq (w2 16 3) 17) fun _ =>
    if (w2 17 12) ≤ v11 then
      some (v9, v10)
    else
      bd1 (fX8_wouldRather w2 v5 v11) fun v15 =>
      bd2 (
        if v15 = 0 then
          some (v9, v10)
        else
          bd1 (fX8_wouldRather w2 v11 v5) fun v19 =>
          if v19 = 0 then
            some (v9, v10)
          else
            if v10 = (-4) then
              some ((v9 + 1), ((8 * v5) + v11))
            else
              some ((v9 + 1), v10)) fun (v16 : Int32) (v17 : Int32) =>
      LX8_calm_41 w2 v5 fu v16 v17 (v11 + 1)
def LX8_calm_23 (w2 : Mm) : Nat → Int32 → Int32 → Int32 → Option (Int32 × Int32)
  | 0, _, _, _ => none
  | fu + 1, v3, v4, v5 =>
    bd1 (gq (w2 16 3) 17) fun _ =>
    if (w2 17 12) ≤ v5 then
      some (v3, v4)
    else
      bd2 (LX8_calm_41 w2 v5 1000 v3 v4 (v5 + 1)) fun (v13 : Int32) (v14 : Int32) =>
      LX8_calm_23 w2 fu v13 v14 (v5 + 1)
def fX8_calm (w : Mm) (x1 : Int32) : Option (Int32 × Mm) :=
  bd1 (fX8_within x1 0 1) fun v1 =>
  if v1 = 0 then
    some ((-1), w)
  else
    bd1 (fX8_raceAsItIs w) fun w2 =>
    bd2 (LX8_calm_23 w2 1000 0 (-4) 0) fun (v7 : Int32) (v8 : Int32) =>
    if x1 = 0 then
      some (v7, w2)
    else
      some (v8, w2)
set_option maxHeartbeats 4000000 in
set_option maxRecDepth 100000 in
theorem kX8_calm {l : Launch} {κ : Kp} {tl : Nat} {N : Nat} {ad : Nat → Nat} {w : Mm} {x1 : Int32} {r : Int32} {w' : Mm} (hN : 52 ≤ N) (hD : Apt ad N) (hf : fX8_calm w x1 = some (r, w')) : Met l yX8_calm (Cond.code yX8_calm cX8_calm 6 (some .int) :: TB) (rmX 6 130) (PcX κ (wX κ tl) N ad w [.ref (ad 16), .int x1]) (QI κ (wX κ tl) N ad w' r) 0 0 (Aof ad N) := by
  refine mkI (by decide +kernel) (Nat.le_of_ble_eq_true rfl) (fun p e R s m args below meth c Q H locs ls hC hRf hRl hP hS hret hl => ?_)
  obtain ⟨hx, hb, hml, hown, hts, hE⟩ := hC
  have hA : ∀ k, k < N → Aof ad N (ad k) := fun k h => Aof_in h
  have hAA : ∀ z, Aof ad N z → Aof ad N z := fun _ h => h
  have hl : lv_has ls 6 [(0, .ref (ad 16)), (1, .int x1)] := hl
  unfold fX8_calm at hf
  refine lv_iload_n hx hb dX8_calm_0 rfl (lv_at hl 1 rfl) ?_
  refine lv_iconst (v := 0) hx hb dX8_calm_1 nc_0 ?_
  refine lv_iconst (v := 1) hx hb dX8_calm_2 nc_1 ?_
  obtain ⟨v1, hv, hf⟩ := bs1 hf
  refine x_cSi (As := [.int x1, .int 0, .int 1]) (rest := []) hx hb hml hts hown hE hP hS hAA (kX8_within hv) cl_X8_82 (Nat.le_trans (by decide) hRf) (Nat.le_trans (by decide) hRl) (Nat.zero_le _) (Nat.zero_le _) rfl hl.1 rfl (Nat.le_of_ble_eq_true rfl) dX8_calm_3 (fun H locs hP hS => ?_)
  refine lv_if_ne (tgt := 11) hx hb dX8_calm_6 (by decide) (fun hc => ?_) (fun hc => ?_)
  · have hf := iq hc hf
    refine lv_aload_n hx hb dX8_calm_11 rfl (lv_at hl 0 rfl) ?_
    obtain ⟨w2, hv, hf⟩ := bs1 hf
    refine x_cVv (As := []) (rest := []) hx hb hml hts hown hE hP hS hAA (kX8_raceAsItIs hN hD hv) cl_X8_157 (nb16 hN) oX_16 vc_8 (Nat.le_trans (by decide) hRf) (Nat.le_trans (by decide) hRl) (Nat.zero_le _) (Nat.zero_le _) rfl hl.1 rfl (Nat.le_of_ble_eq_true rfl) dX8_calm_12 (fun H locs hP hS => ?_)
    refine lv_iconst (v := 0) hx hb dX8_calm_15 nc_0 ?_
    refine lv_istore_n (lv' := [(2, .int 0), (0, .ref (ad 16)), (1, .int x1)]) hx hb dX8_calm_16 rfl hl (by decide) rfl (fun ls hl => ?_)
    refine lv_bipush (v := (-4)) hx hb dX8_calm_17 nb_m4 ?_
    refine lv_istore_n (lv' := [(3, .int (-4)), (2, .int 0), (0, .ref (ad 16)), (1, .int x1)]) hx hb dX8_calm_19 rfl hl (by decide) rfl (fun ls hl => ?_)
    refine lv_iconst (v := 0) hx hb dX8_calm_20 nc_0 ?_
    refine lv_istore (lv' := [(4, .int 0), (3, .int (-4)), (2, .int 0), (0, .ref (ad 16)), (1, .int x1)]) hx hb dX8_calm_21 hl (by decide) rfl (fun ls hl => ?_)
    obtain ⟨v7, v8, hq6, hf⟩ := bs2 hf
    have hJ6 : ∀ (H : Heap) (locs : List Loc) (ls : Array Slot), Ho κ (wX κ tl) N ad w2 H → va_S (Aof ad N) s.heap H locs → lv_has ls 6 [(1, .int x1), (2, .int v7), (3, .int v8)] → W p l e R s m args below meth c H locs 0 0 Q (F0 m 105 ls []) := by
      intro H locs ls hP hS hl
      refine lv_iload_n hx hb dX8_calm_105 rfl (lv_at hl 0 rfl) ?_
      refine lv_if_ne (tgt := 113) hx hb dX8_calm_106 (by decide) (fun hc => ?_) (fun hc => ?_)
      · have hf := iq hc hf
        refine lv_iload_n hx hb dX8_calm_113 rfl (lv_at hl 2 rfl) ?_
        cases hf
        exact hret _ _ _ _ dX8_calm_114 hP hS
      · have hf := ip hc hf
        refine lv_iload_n hx hb dX8_calm_109 rfl (lv_at hl 1 rfl) ?_
        refine lv_goto (tgt := 114) hx hb dX8_calm_110 (by decide) ?_
        cases hf
        exact hret _ _ _ _ dX8_calm_114 hP hS
    clear hf
    have hf := hq6
    clear hq6
    have hL6 : ∀ (fu : Nat) (v3 : Int32) (v4 : Int32) (v5 : Int32) (H : Heap) (locs : List Loc) (ls : Array Slot), LX8_calm_23 w2 fu v3 v4 v5 = some (v7, v8) → Ho κ (wX κ tl) N ad w2 H → va_S (Aof ad N) s.heap H locs → lv_has ls 6 [(0, .ref (ad 16)), (1, .int x1), (2, .int v3), (3, .int v4), (4, .int v5)] → W p l e R s m args below meth c H locs 0 0 Q (F0 m 23 ls []) := by
      intro fu
      induction fu with
      | zero =>
        intro v3 v4 v5 H locs ls hf
        rw [LX8_calm_23] at hf
        cases hf
      | succ fu ih =>
        intro v3 v4 v5 H locs ls hf hP hS hl
        rw [LX8_calm_23] at hf
        refine lv_iload hx hb dX8_calm_23 (lv_at hl 4 rfl) ?_
        refine lv_aload_n hx hb dX8_calm_25 rfl (lv_at hl 0 rfl) ?_
        obtain ⟨_, hv, hf⟩ := bs1 hf
        refine x_getr hx hb hts hown hE hP fl_X8_28 (nb16 hN) gX_16_3 hv dX8_calm_26 ?_
        refine x_get hx hb hts hown hE hP fl_X8_102 (nb17 hN) gX_17_12 dX8_calm_29 ?_
        refine lv_icmp_ge (tgt := 105) hx hb dX8_calm_32 (by decide) (fun hc => ?_) (fun hc => ?_)
        · have hf := ip hc hf
          cases hf
          exact hJ6 _ _ _ hP hS (lv_sub hl [1, 2, 3] rfl)
        · have hf := iq hc hf
          refine lv_iload hx hb dX8_calm_35 (lv_at hl 4 rfl) ?_
          refine lv_iconst (v := 1) hx hb dX8_calm_37 nc_1 ?_
          refine lv_iadd hx hb dX8_calm_38 ?_
          refine lv_istore (lv' := [(5, .int (v5 + 1)), (0, .ref (ad 16)), (1, .int x1), (2, .int v3), (3, .int v4), (4, .int v5)]) hx hb dX8_calm_39 hl (by decide) rfl (fun ls hl => ?_)
          obtain ⟨v13, v14, hq12, hf⟩ := bs2 hf
          have hJ12 : ∀ (H : Heap) (locs : List Loc) (ls : Array Slot), Ho κ (wX κ tl) N ad w2 H → va_S (Aof ad N) s.heap H locs → lv_has ls 6 [(0, .ref (ad 16)), (1, .int x1), (2, .int v13), (3, .int v14), (4, .int v5)] → W p l e R s m args below meth c H locs 0 0 Q (F0 m 99 ls []) := by
            intro H locs ls hP hS hl
            refine lv_iinc (v := (v5 + 1)) (lv' := [(4, .int (v5 + 1)), (0, .ref (ad 16)), (1, .int x1), (2, .int v13), (3, .int v14)]) hx hb dX8_calm_99 hl (k := 4) rfl (ni_1 _) (by decide) rfl (fun ls hl => ?_)
            refine lv_goto (tgt := 23) hx hb dX8_calm_102 (by decide) ?_
            exact ih _ _ _ _ _ _ hf hP hS (lv_sub hl [1, 2, 3, 4, 0] rfl)
          clear hf
          have hf := hq12
          clear hq12
          have hL12 : ∀ (fu : Nat) (v9 : Int32) (v10 : Int32) (v11 : Int32) (H : Heap) (locs : List Loc) (ls : Array Slot), LX8_calm_41 w2 v5 fu v9 v10 v11 = some (v13, v14) → Ho κ (wX κ tl) N ad w2 H → va_S (Aof ad N) s.heap H locs → lv_has ls 6 [(0, .ref (ad 16)), (1, .int x1), (2, .int v9), (3, .int v10), (4, .int v5), (5, .int v11)] → W p l e R s m args below meth c H locs 0 0 Q (F0 m 41 ls []) := by
            intro fu
            induction fu with
            | zero =>
              intro v9 v10 v11 H locs ls hf
              rw [LX8_calm_41] at hf
              cases hf
            | succ fu ih =>
              intro v9 v10 v11 H locs ls hf hP hS hl
              rw [LX8_calm_41] at hf
              refine lv_iload hx hb dX8_calm_41 (lv_at hl 5 rfl) ?_
              refine lv_aload_n hx hb dX8_calm_43 rfl (lv_at hl 0 rfl) ?_
              obtain ⟨_, hv, hf⟩ := bs1 hf
              refine x_getr hx hb hts hown hE hP fl_X8_28 (nb16 hN) gX_16_3 hv dX8_calm_44 ?_
              refine x_get hx hb hts hown hE hP fl_X8_102 (nb17 hN) gX_17_12 dX8_calm_47 ?_
              refine lv_icmp_ge (tgt := 99) hx hb dX8_calm_50 (by decide) (fun hc => ?_) (fun hc => ?_)
              · have hf := ip hc hf
                cases hf
                exact hJ12 _ _ _ hP hS (lv_sub hl [0, 1, 2, 3, 4] rfl)
              · have hf := iq hc hf
                refine lv_aload_n hx hb dX8_calm_53 rfl (lv_at hl 0 rfl) ?_
                refine lv_iload hx hb dX8_calm_54 (lv_at hl 4 rfl) ?_
                refine lv_iload hx hb dX8_calm_56 (lv_at hl 5 rfl) ?_
                obtain ⟨v15, hv, hf⟩ := bs1 hf
                refine x_cVi (As := [.int v5, .int v11]) (rest := []) hx hb hml hts hown hE hP hS hAA (kX8_wouldRather hN hD hv) cl_X8_207 (nb16 hN) oX_16 vc_8 (Nat.le_trans (by decide) hRf) (Nat.le_trans (by decide) hRl) (Nat.zero_le _) (Nat.zero_le _) rfl hl.1 rfl (Nat.le_of_ble_eq_true rfl) dX8_calm_58 (fun H locs hP hS => ?_)
                obtain ⟨v16, v17, hq18, hf⟩ := bs2 hf
                have hJ18 : ∀ (H : Heap) (locs : List Loc) (ls : Array Slot), Ho κ (wX κ tl) N ad w2 H → va_S (Aof ad N) s.heap H locs → lv_has ls 6 [(0, .ref (ad 16)), (1, .int x1), (2, .int v16), (3, .int v17), (4, .int v5), (5, .int v11)] → W p l e R s m args below meth c H locs 0 0 Q (F0 m 93 ls []) := by
                  intro H locs ls hP hS hl
                  refine lv_iinc (v := (v11 + 1)) (lv' := [(5, .int (v11 + 1)), (0, .ref (ad 16)), (1, .int x1), (2, .int v16), (3, .int v17), (4, .int v5)]) hx hb dX8_calm_93 hl (k := 5) rfl (ni_1 _) (by decide) rfl (fun ls hl => ?_)
                  refine lv_goto (tgt := 41) hx hb dX8_calm_96 (by decide) ?_
                  exact ih _ _ _ _ _ _ hf hP hS (lv_sub hl [1, 2, 3, 4, 5, 0] rfl)
                clear hf
                have hf := hq18
                clear hq18
                refine lv_if_eq (tgt := 93) hx hb dX8_calm_61 (by decide) (fun hc => ?_) (fun hc => ?_)
                · have hf := ip hc hf
                  cases hf
                  exact hJ18 _ _ _ hP hS (lv_sub hl [0, 1, 2, 3, 4, 5] rfl)
                · have hf := iq hc hf
                  refine lv_aload_n hx hb dX8_calm_64 rfl (lv_at hl 0 rfl) ?_
                  refine lv_iload hx hb dX8_calm_65 (lv_at hl 5 rfl) ?_
                  refine lv_iload hx hb dX8_calm_67 (lv_at hl 4 rfl) ?_
                  obtain ⟨v19, hv, hf⟩ := bs1 hf
                  refine x_cVi (As := [.int v11, .int v5]) (rest := []) hx hb hml hts hown hE hP hS hAA (kX8_wouldRather hN hD hv) cl_X8_207 (nb16 hN) oX_16 vc_8 (Nat.le_trans (by decide) hRf) (Nat.le_trans (by decide) hRl) (Nat.zero_le _) (Nat.zero_le _) rfl hl.1 rfl (Nat.le_of_ble_eq_true rfl) dX8_calm_69 (fun H locs hP hS => ?_)
                  refine lv_if_eq (tgt := 93) hx hb dX8_calm_72 (by decide) (fun hc => ?_) (fun hc => ?_)
                  · have hf := ip hc hf
                    cases hf
                    exact hJ18 _ _ _ hP hS (lv_sub hl [0, 1, 2, 3, 4, 5] rfl)
                  · have hf := iq hc hf
                    refine lv_iinc (v := (v9 + 1)) (lv' := [(2, .int (v9 + 1)), (0, .ref (ad 16)), (1, .int x1), (3, .int v10), (4, .int v5), (5, .int v11)]) hx hb dX8_calm_75 hl (k := 2) rfl (ni_1 _) (by decide) rfl (fun ls hl => ?_)
                    refine lv_iload_n hx hb dX8_calm_78 rfl (lv_at hl 3 rfl) ?_
                    refine lv_bipush (v := (-4)) hx hb dX8_calm_79 nb_m4 ?_
                    refine lv_icmp_ne (tgt := 93) hx hb dX8_calm_81 (by decide) (fun hc => ?_) (fun hc => ?_)
                    · have hf := iq hc hf
                      cases hf
                      exact hJ18 _ _ _ hP hS (lv_sub hl [1, 2, 0, 3, 4, 5] rfl)
                    · have hf := ip hc hf
                      refine lv_bipush (v := 8) hx hb dX8_calm_84 nb_8 ?_
                      refine lv_iload hx hb dX8_calm_86 (lv_at hl 4 rfl) ?_
                      refine lv_imul hx hb dX8_calm_88 ?_
                      refine lv_iload hx hb dX8_calm_89 (lv_at hl 5 rfl) ?_
                      refine lv_iadd hx hb dX8_calm_91 ?_
                      refine lv_istore_n (lv' := [(3, .int ((8 * v5) + v11)), (2, .int (v9 + 1)), (0, .ref (ad 16)), (1, .int x1), (4, .int v5), (5, .int v11)]) hx hb dX8_calm_92 rfl hl (by decide) rfl (fun ls hl => ?_)
                      cases hf
                      exact hJ18 _ _ _ hP hS (lv_sub hl [2, 3, 1, 0, 4, 5] rfl)
          exact hL12 _ _ _ _ _ _ _ hf hP hS (lv_sub hl [1, 2, 3, 4, 5, 0] rfl)
    exact hL6 _ _ _ _ _ _ _ hf hP hS (lv_sub hl [3, 4, 2, 1, 0] rfl)
  · have hf := ip hc hf
    refine lv_iconst (v := (-1)) hx hb dX8_calm_9 nc_m1 ?_
    cases hf
    exact hret _ _ _ _ dX8_calm_10 hP hS
def LX8_harvest_31 (x1 : Int32) (w2 : Mm) : Nat → Int32 → Int32 → Option (Int32)
  | 0, _, _ => none
  | fu + 1, v3, v4 =>
    if x1 ≤ v4 then
      some (v3)
    else
      bd1 (gq (w2 16 3) 17) fun _ =>
      bd1 (gq (w2 16 3) 17) fun _ =>
      bd1 (gz (w2 17 12)) fun _ =>
      bd1 (rd w2 35 8 (v4 - v4 / (w2 17 12) * (w2 17 12))) fun v7 =>
      bd1 (rd w2 26 8 v7) fun v8 =>
      LX8_harvest_31 x1 w2 fu (v3 + v8) (v4 + 1)
def fX8_harvest (w : Mm) (x1 : Int32) : Option (Int32 × Mm) :=
  bd1 (fX8_within x1 1 99) fun v1 =>
  if v1 = 0 then
    some ((-1), w)
  else
    bd1 (gq (w 16 3) 17) fun _ =>
    if 1 ≤ (w 17 12) then
      bd1 (fX8_raceAsItIs w) fun w2 =>
      bd1 (LX8_harvest_31 x1 w2 1000 0 0) fun (v6 : Int32) =>
      some (v6, w2)
    else
      some ((-1), w)
set_option maxHeartbeats 4000000 in
set_option maxRecDepth 100000 in
theorem kX8_harvest {l : Launch} {κ : Kp} {tl : Nat} {N : Nat} {ad : Nat → Nat} {w : Mm} {x1 : Int32} {r : Int32} {w' : Mm} (hN : 52 ≤ N) (hD : Apt ad N) (hf : fX8_harvest w x1 = some (r, w')) : Met l yX8_harvest (Cond.code yX8_harvest cX8_harvest 4 (some .int) :: TB) (rmX 6 130) (PcX κ (wX κ tl) N ad w [.ref (ad 16), .int x1]) (QI κ (wX κ tl) N ad w' r) 0 0 (Aof ad N) := by
  refine mkI (by decide +kernel) (Nat.le_of_ble_eq_true rfl) (fun p e R s m args below meth c Q H locs ls hC hRf hRl hP hS hret hl => ?_)
  obtain ⟨hx, hb, hml, hown, hts, hE⟩ := hC
  have hA : ∀ k, k < N → Aof ad N (ad k) := fun k h => Aof_in h
  have hAA : ∀ z, Aof ad N z → Aof ad N z := fun _ h => h
  have hl : lv_has ls 4 [(0, .ref (ad 16)), (1, .int x1)] := hl
  unfold fX8_harvest at hf
  refine lv_iload_n hx hb dX8_harvest_0 rfl (lv_at hl 1 rfl) ?_
  refine lv_iconst (v := 1) hx hb dX8_harvest_1 nc_1 ?_
  refine lv_bipush (v := 99) hx hb dX8_harvest_2 nb_99 ?_
  obtain ⟨v1, hv, hf⟩ := bs1 hf
  refine x_cSi (As := [.int x1, .int 1, .int 99]) (rest := []) hx hb hml hts hown hE hP hS hAA (kX8_within hv) cl_X8_82 (Nat.le_trans (by decide) hRf) (Nat.le_trans (by decide) hRl) (Nat.zero_le _) (Nat.zero_le _) rfl hl.1 rfl (Nat.le_of_ble_eq_true rfl) dX8_harvest_4 (fun H locs hP hS => ?_)
  refine lv_if_eq (tgt := 21) hx hb dX8_harvest_7 (by decide) (fun hc => ?_) (fun hc => ?_)
  · have hf := ip hc hf
    refine lv_iconst (v := (-1)) hx hb dX8_harvest_21 nc_m1 ?_
    cases hf
    exact hret _ _ _ _ dX8_harvest_22 hP hS
  · have hf := iq hc hf
    refine lv_aload_n hx hb dX8_harvest_10 rfl (lv_at hl 0 rfl) ?_
    obtain ⟨_, hv, hf⟩ := bs1 hf
    refine x_getr hx hb hts hown hE hP fl_X8_28 (nb16 hN) gX_16_3 hv dX8_harvest_11 ?_
    refine x_get hx hb hts hown hE hP fl_X8_102 (nb17 hN) gX_17_12 dX8_harvest_14 ?_
    refine lv_iconst (v := 1) hx hb dX8_harvest_17 nc_1 ?_
    refine lv_icmp_ge (tgt := 23) hx hb dX8_harvest_18 (by decide) (fun hc => ?_) (fun hc => ?_)
    · have hf := ip hc hf
      refine lv_aload_n hx hb dX8_harvest_23 rfl (lv_at hl 0 rfl) ?_
      obtain ⟨w2, hv, hf⟩ := bs1 hf
      refine x_cVv (As := []) (rest := []) hx hb hml hts hown hE hP hS hAA (kX8_raceAsItIs hN hD hv) cl_X8_157 (nb16 hN) oX_16 vc_8 (Nat.le_trans (by decide) hRf) (Nat.le_trans (by decide) hRl) (Nat.zero_le _) (Nat.zero_le _) rfl hl.1 rfl (Nat.le_of_ble_eq_true rfl) dX8_harvest_24 (fun H locs hP hS => ?_)
      refine lv_iconst (v := 0) hx hb dX8_harvest_27 nc_0 ?_
      refine lv_istore_n (lv' := [(2, .int 0), (0, .ref (ad 16)), (1, .int x1)]) hx hb dX8_harvest_28 rfl hl (by decide) rfl (fun ls hl => ?_)
      refine lv_iconst (v := 0) hx hb dX8_harvest_29 nc_0 ?_
      refine lv_istore_n (lv' := [(3, .int 0), (2, .int 0), (0, .ref (ad 16)), (1, .int x1)]) hx hb dX8_harvest_30 rfl hl (by decide) rfl (fun ls hl => ?_)
      obtain ⟨v6, hq5, hf⟩ := bs1 hf
      have hJ5 : ∀ (H : Heap) (locs : List Loc) (ls : Array Slot), Ho κ (wX κ tl) N ad w2 H → va_S (Aof ad N) s.heap H locs → lv_has ls 4 [(2, .int v6)] → W p l e R s m args below meth c H locs 0 0 Q (F0 m 70 ls []) := by
        intro H locs ls hP hS hl
        refine lv_iload_n hx hb dX8_harvest_70 rfl (lv_at hl 0 rfl) ?_
        cases hf
        exact hret _ _ _ _ dX8_harvest_71 hP hS
      clear hf
      have hf := hq5
      clear hq5
      have hL5 : ∀ (fu : Nat) (v3 : Int32) (v4 : Int32) (H : Heap) (locs : List Loc) (ls : Array Slot), LX8_harvest_31 x1 w2 fu v3 v4 = some (v6) → Ho κ (wX κ tl) N ad w2 H → va_S (Aof ad N) s.heap H locs → lv_has ls 4 [(0, .ref (ad 16)), (1, .int x1), (2, .int v3), (3, .int v4)] → W p l e R s m args below meth c H locs 0 0 Q (F0 m 31 ls []) := by
        intro fu
        induction fu with
        | zero =>
          intro v3 v4 H locs ls hf
          rw [LX8_harvest_31] at hf
          cases hf
        | succ fu ih =>
          intro v3 v4 H locs ls hf hP hS hl
          rw [LX8_harvest_31] at hf
          refine lv_iload_n hx hb dX8_harvest_31 rfl (lv_at hl 3 rfl) ?_
          refine lv_iload_n hx hb dX8_harvest_32 rfl (lv_at hl 1 rfl) ?_
          refine lv_icmp_ge (tgt := 70) hx hb dX8_harvest_33 (by decide) (fun hc => ?_) (fun hc => ?_)
          · have hf := ip hc hf
            cases hf
            exact hJ5 _ _ _ hP hS (lv_sub hl [2] rfl)
          · have hf := iq hc hf
            refine lv_iload_n hx hb dX8_harvest_36 rfl (lv_at hl 2 rfl) ?_
            refine lv_aload_n hx hb dX8_harvest_37 rfl (lv_at hl 0 rfl) ?_
            obtain ⟨_, hv, hf⟩ := bs1 hf
            refine x_getr hx hb hts hown hE hP fl_X8_28 (nb16 hN) gX_16_3 hv dX8_harvest_38 ?_
            refine x_get hx hb hts hown hE hP fl_X8_221 (nb17 hN) gX_17_8 dX8_harvest_41 ?_
            refine lv_aload_n hx hb dX8_harvest_44 rfl (lv_at hl 0 rfl) ?_
            refine x_get hx hb hts hown hE hP fl_X8_43 (nb16 hN) gX_16_5 dX8_harvest_45 ?_
            refine x_get hx hb hts hown hE hP fl_X8_163 (nb30 hN) gX_30_4 dX8_harvest_48 ?_
            refine lv_iload_n hx hb dX8_harvest_51 rfl (lv_at hl 3 rfl) ?_
            refine lv_aload_n hx hb dX8_harvest_52 rfl (lv_at hl 0 rfl) ?_
            obtain ⟨_, hv, hf⟩ := bs1 hf
            refine x_getr hx hb hts hown hE hP fl_X8_28 (nb16 hN) gX_16_3 hv dX8_harvest_53 ?_
            refine x_get hx hb hts hown hE hP fl_X8_102 (nb17 hN) gX_17_12 dX8_harvest_56 ?_
            obtain ⟨_, hv, hf⟩ := bs1 hf
            refine lv_irem hx hb dX8_harvest_59 (gz_some hv) ?_
            obtain ⟨v7, hv, hf⟩ := bs1 hf
            refine x_iald hx hb hE hP (nb35 hN) (aX_35 _) hv dX8_harvest_60 ?_
            obtain ⟨v8, hv, hf⟩ := bs1 hf
            refine x_iald hx hb hE hP (nb26 hN) (aX_26 _) hv dX8_harvest_61 ?_
            refine lv_iadd hx hb dX8_harvest_62 ?_
            refine lv_istore_n (lv' := [(2, .int (v3 + v8)), (0, .ref (ad 16)), (1, .int x1), (3, .int v4)]) hx hb dX8_harvest_63 rfl hl (by decide) rfl (fun ls hl => ?_)
            refine lv_iinc (v := (v4 + 1)) (lv' := [(3, .int (v4 + 1)), (2, .int (v3 + v8)), (0, .ref (ad 16)), (1, .int x1)]) hx hb dX8_harvest_64 hl (k := 3) rfl (ni_1 _) (by decide) rfl (fun ls hl => ?_)
            refine lv_goto (tgt := 31) hx hb dX8_harvest_67 (by decide) ?_
            exact ih _ _ _ _ _ hf hP hS (lv_sub hl [2, 3, 1, 0] rfl)
      exact hL5 _ _ _ _ _ _ hf hP hS (lv_sub hl [2, 3, 1, 0] rfl)
    · have hf := iq hc hf
      refine lv_iconst (v := (-1)) hx hb dX8_harvest_21 nc_m1 ?_
      cases hf
      exact hret _ _ _ _ dX8_harvest_22 hP hS
