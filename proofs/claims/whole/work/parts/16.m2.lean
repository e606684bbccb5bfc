def fX9_plain (w : Mm) : Option (Mm) :=
  bd1 (rd w 7 2 0) fun v1 =>
  bd1 (pt w 0 23 v1) fun w2 =>
  bd1 (pt w2 0 24 0) fun w3 =>
  bd1 (pt w3 0 25 (-1)) fun w4 =>
  some w4
set_option maxHeartbeats 4000000 in
set_option maxRecDepth 100000 in
theorem kX9_plain {l : Launch} {κ : Kp} {N : Nat} {ad : Nat → Nat} {w : Mm} {w' : Mm} (hN : 26 ≤ N) (hD : Apt ad N) (hf : fX9_plain w = some w') : Met l yX9_plain (Cond.code yX9_plain cX9_plain 1 none :: TB) (rmX 0 0) (PcX κ (wM κ) N ad w [.ref (ad 0)]) (QV κ (wM κ) N ad w') 0 0 (Aof ad N) := by
  refine mkV (by decide +kernel) (Nat.le_of_ble_eq_true rfl) (fun p e R s m args below meth c Q H locs ls hC hRf hRl hP hS hret hl => ?_)
  obtain ⟨hx, hb, hml, hown, hts, hE⟩ := hC
  have hA : ∀ k, k < N → Aof ad N (ad k) := fun k h => Aof_in h
  have hAA : ∀ z, Aof ad N z → Aof ad N z := fun _ h => h
  have hl : lv_has ls 1 [(0, .ref (ad 0))] := hl
  unfold fX9_plain at hf
  refine lv_aload_n hx hb dX9_plain_0 rfl (lv_at hl 0 rfl) ?_
  refine lv_aload_n hx hb dX9_plain_1 rfl (lv_at hl 0 rfl) ?_
  refine x_get hx hb hts hown hE hP fl_X9_29 (nm0 hN) gM_0_7 dX9_plain_2 ?_
  refine lv_iconst (v := 0) hx hb dX9_plain_5 nc_0 ?_
  obtain ⟨v1, hv, hf⟩ := bs1 hf
  refine x_iald hx hb hE hP (nm7 hN) (aM_7 _) hv dX9_plain_6 ?_
  obtain ⟨w2, hv, hf⟩ := bs1 hf
  refine x_put hx hb hts hown hE hD hA hP hS fp_X9_193 (nm0 hN) pM_0_23 rfl rfl hv dX9_plain_7 (fun H locs hP hS => ?_)
  refine lv_aload_n hx hb dX9_plain_10 rfl (lv_at hl 0 rfl) ?_
  refine lv_iconst (v := 0) hx hb dX9_plain_11 nc_0 ?_
  obtain ⟨w3, hv, hf⟩ := bs1 hf
  refine x_put hx hb hts hown hE hD hA hP hS fp_X9_182 (nm0 hN) pM_0_24 rfl rfl hv dX9_plain_12 (fun H locs hP hS => ?_)
  refine lv_aload_n hx hb dX9_plain_15 rfl (lv_at hl 0 rfl) ?_
  refine lv_iconst (v := (-1)) hx hb dX9_plain_16 nc_m1 ?_
  obtain ⟨w4, hv, hf⟩ := bs1 hf
  refine x_put hx hb hts hown hE hD hA hP hS fp_X9_165 (nm0 hN) pM_0_25 rfl rfl hv dX9_plain_17 (fun H locs hP hS => ?_)
  cases hf
  exact hret _ _ _ _ dX9_plain_20 hP hS
def fX9_takesIn (w : Mm) (x1 : Int32) : Option (Int32) :=
  if 0 ≤ (w 0 25) then
    some ((((((7919 * (w 0 25).toInt64) + (6151 * x1.toInt64)) + 1) * (((7919 * (w 0 25).toInt64) + (6151 * x1.toInt64)) + 1)) - ((((7919 * (w 0 25).toInt64) + (6151 * x1.toInt64)) + 1) * (((7919 * (w 0 25).toInt64) + (6151 * x1.toInt64)) + 1)) / 65521 * 65521) - (((((7919 * (w 0 25).toInt64) + (6151 * x1.toInt64)) + 1) * (((7919 * (w 0 25).toInt64) + (6151 * x1.toInt64)) + 1)) - ((((7919 * (w 0 25).toInt64) + (6151 * x1.toInt64)) + 1) * (((7919 * (w 0 25).toInt64) + (6151 * x1.toInt64)) + 1)) / 65521 * 65521) / 6 * 6).toInt32
  else
    bd1 (fX9_currentIn w x1) fun v1 =>
    some v1
set_option maxHeartbeats 4000000 in
set_option maxRecDepth 100000 in
theorem kX9_takesIn {l : Launch} {κ : Kp} {N : Nat} {ad : Nat → Nat} {w : Mm} {x1 : Int32} {r : Int32} (hN : 26 ≤ N) (hD : Apt ad N) (hf : fX9_takesIn w x1 = some r) : Met l yX9_takesIn (Cond.code yX9_takesIn cX9_takesIn 4 (some .int) :: TB) (rmX 1 24) (PcX κ (wM κ) N ad w [.ref (ad 0), .int x1]) (QI κ (wM κ) N ad w r) 0 0 (Aof ad N) := by
  refine mkI (by decide +kernel) (Nat.le_of_ble_eq_true rfl) (fun p e R s m args below meth c Q H locs ls hC hRf hRl hP hS hret hl => ?_)
  obtain ⟨hx, hb, hml, hown, hts, hE⟩ := hC
  have hA : ∀ k, k < N → Aof ad N (ad k) := fun k h => Aof_in h
  have hAA : ∀ z, Aof ad N z → Aof ad N z := fun _ h => h
  have hl : lv_has ls 4 [(0, .ref (ad 0)), (1, .int x1)] := hl
  unfold fX9_takesIn at hf
  refine lv_aload_n hx hb dX9_takesIn_0 rfl (lv_at hl 0 rfl) ?_
  refine x_get hx hb hts hown hE hP fl_X9_165 (nm0 hN) gM_0_25 dX9_takesIn_1 ?_
  refine lv_if_ge (tgt := 13) hx hb dX9_takesIn_4 (by decide) (fun hc => ?_) (fun hc => ?_)
  · have hf := ip hc hf
    refine lv_ldc2 (own := RX9) hx hb hown (hts _ kl_X9_168) dX9_takesIn_13 ?_
    refine lv_aload_n hx hb dX9_takesIn_16 rfl (lv_at hl 0 rfl) ?_
    refine x_get hx hb hts hown hE hP fl_X9_165 (nm0 hN) gM_0_25 dX9_takesIn_17 ?_
    refine lv_i2l hx hb dX9_takesIn_20 rfl ?_
    refine lv_lmul hx hb dX9_takesIn_21 ?_
    refine lv_ldc2 (own := RX9) hx hb hown (hts _ kl_X9_170) dX9_takesIn_22 ?_
    refine lv_iload_n hx hb dX9_takesIn_25 rfl (lv_at hl 1 rfl) ?_
    refine lv_i2l hx hb dX9_takesIn_26 rfl ?_
    refine lv_lmul hx hb dX9_takesIn_27 ?_
    refine lv_ladd hx hb dX9_takesIn_28 ?_
    refine lv_lconst (v := 1) hx hb dX9_takesIn_29 rfl ?_
    refine lv_ladd hx hb dX9_takesIn_30 ?_
    refine lv_lstore_n (lv' := [(2, .long (((7919 * (w 0 25).toInt64) + (6151 * x1.toInt64)) + 1)), (0, .ref (ad 0)), (1, .int x1)]) hx hb dX9_takesIn_31 rfl hl (by decide) rfl (fun ls hl => ?_)
    refine lv_lload_n hx hb dX9_takesIn_32 rfl (lv_at hl 0 rfl) ?_
    refine lv_lload_n hx hb dX9_takesIn_33 rfl (lv_at hl 0 rfl) ?_
    refine lv_lmul hx hb dX9_takesIn_34 ?_
    refine lv_ldc2 (own := RX9) hx hb hown (hts _ kl_X9_172) dX9_takesIn_35 ?_
    refine lv_lrem hx hb dX9_takesIn_38 (by decide) ?_
    refine lv_ldc2 (own := RX9) hx hb hown (hts _ kl_X9_174) dX9_takesIn_39 ?_
    refine lv_lrem hx hb dX9_takesIn_42 (by decide) ?_
    refine lv_l2i hx hb dX9_takesIn_43 rfl ?_
    cases hf
    exact hret _ _ _ _ dX9_takesIn_44 hP hS
  · have hf := iq hc hf
    refine lv_aload_n hx hb dX9_takesIn_7 rfl (lv_at hl 0 rfl) ?_
    refine lv_iload_n hx hb dX9_takesIn_8 rfl (lv_at hl 1 rfl) ?_
    obtain ⟨v1, hv, hf⟩ := bs1 hf
    refine x_cVi (As := [.int x1]) (rest := []) hx hb hml hts hown hE hP hS hAA (kX9_currentIn hN hD hv) cl_X9_162 (nm0 hN) oM_0 vc_9 (Nat.le_trans (by decide) hRf) (Nat.le_trans (by decide) hRl) (Nat.zero_le _) (Nat.zero_le _) rfl hl.1 rfl (Nat.le_of_ble_eq_true rfl) dX9_takesIn_9 (fun H locs hP hS => ?_)
    cases hf
    exact hret _ _ _ _ dX9_takesIn_12 hP hS
def LX9_hasHelp_5 (x1 : Int32) (x2 : Int32) (w : Mm) : Nat → Int32 → Int32 → Option (Int32)
  | 0, _, _ => none
  | fu + 1, v1, v2 =>
    bd1 (rd w 2 2 0) fun v5 =>
    if v5 ≤ v2 then
      some (v1)
    else
      bd1 (
        if v1 = 0 then
          bd1 (rd w 5 16 v2) fun v8 =>
          if v8 = 2 then
            bd1 (rd w 18 192 ((x1 + 0) + v2)) fun v9 =>
            if x2 ≤ v9 then
              some (0)
            else
              some (1)
          else
            some (0)
        else
          some (1)) fun (v6 : Int32) =>
      LX9_hasHelp_5 x1 x2 w fu v6 (v2 + 1)
def fX9_hasHelp (w : Mm) (x1 x2 : Int32) : Option (Int32) :=
  bd1 (LX9_hasHelp_5 x1 x2 w 1000 0 0) fun (v4 : Int32) =>
  if v4 = 0 then
    some 0
  else
    if x2 ≤ 1 then
      some 0
    else
      if (x2 - x2 / 5 * 5) = 1 then
        some 1
      else
        some 0
set_option maxHeartbeats 4000000 in
set_option maxRecDepth 100000 in
theorem kX9_hasHelp {l : Launch} {κ : Kp} {N : Nat} {ad : Nat → Nat} {w : Mm} {x1 x2 : Int32} {r : Int32} (hN : 26 ≤ N) (hD : Apt ad N) (hf : fX9_hasHelp w x1 x2 = some r) : Met l yX9_hasHelp (Cond.code yX9_hasHelp cX9_hasHelp 5 (some .boolean) :: TB) (rmX 0 0) (PcX κ (wM κ) N ad w [.ref (ad 0), .int x1, .int x2]) (QI κ (wM κ) N ad w r) 0 0 (Aof ad N) := by
  refine mkZ (by decide +kernel) (Nat.le_of_ble_eq_true rfl) (fun p e R s m args below meth c Q H locs ls hC hRf hRl hP hS hret hl => ?_)
  obtain ⟨hx, hb, hml, hown, hts, hE⟩ := hC
  have hA : ∀ k, k < N → Aof ad N (ad k) := fun k h => Aof_in h
  have hAA : ∀ z, Aof ad N z → Aof ad N z := fun _ h => h
  have hl : lv_has ls 5 [(0, .ref (ad 0)), (1, .int x1), (2, .int x2)] := hl
  unfold fX9_hasHelp at hf
  refine lv_iconst (v := 0) hx hb dX9_hasHelp_0 nc_0 ?_
  refine lv_istore_n (lv' := [(3, .int 0), (0, .ref (ad 0)), (1, .int x1), (2, .int x2)]) hx hb dX9_hasHelp_1 rfl hl (by decide) rfl (fun ls hl => ?_)
  refine lv_iconst (v := 0) hx hb dX9_hasHelp_2 nc_0 ?_
  refine lv_istore (lv' := [(4, .int 0), (3, .int 0), (0, .ref (ad 0)), (1, .int x1), (2, .int x2)]) hx hb dX9_hasHelp_3 hl (by decide) rfl (fun ls hl => ?_)
  obtain ⟨v4, hq3, hf⟩ := bs1 hf
  have hJ3 : ∀ (H : Heap) (locs : List Loc) (ls : Array Slot), Ho κ (wM κ) N ad w H → va_S (Aof ad N) s.heap H locs → lv_has ls 5 [(2, .int x2), (3, .int v4)] → W p l e R s m args below meth c H locs 0 0 Q (F0 m 58 ls []) := by
    intro H locs ls hP hS hl
    refine lv_iload_n hx hb dX9_hasHelp_58 rfl (lv_at hl 1 rfl) ?_
    refine lv_if_eq (tgt := 78) hx hb dX9_hasHelp_59 (by decide) (fun hc => ?_) (fun hc => ?_)
    · have hf := ip hc hf
      refine lv_iconst (v := 0) hx hb dX9_hasHelp_78 nc_0 ?_
      cases hf
      exact hret _ _ _ _ dX9_hasHelp_79 (Or.inl rfl) hP hS
    · have hf := iq hc hf
      refine lv_iload_n hx hb dX9_hasHelp_62 rfl (lv_at hl 0 rfl) ?_
      refine lv_iconst (v := 1) hx hb dX9_hasHelp_63 nc_1 ?_
      refine lv_icmp_le (tgt := 78) hx hb dX9_hasHelp_64 (by decide) (fun hc => ?_) (fun hc => ?_)
      · have hf := ip hc hf
        refine lv_iconst (v := 0) hx hb dX9_hasHelp_78 nc_0 ?_
        cases hf
        exact hret _ _ _ _ dX9_hasHelp_79 (Or.inl rfl) hP hS
      · have hf := iq hc hf
        refine lv_iload_n hx hb dX9_hasHelp_67 rfl (lv_at hl 0 rfl) ?_
        refine lv_iconst (v := 5) hx hb dX9_hasHelp_68 nc_5 ?_
        refine lv_irem hx hb dX9_hasHelp_69 (by decide) ?_
        refine lv_iconst (v := 1) hx hb dX9_hasHelp_70 nc_1 ?_
        refine lv_icmp_ne (tgt := 78) hx hb dX9_hasHelp_71 (by decide) (fun hc => ?_) (fun hc => ?_)
        · have hf := iq hc hf
          refine lv_iconst (v := 0) hx hb dX9_hasHelp_78 nc_0 ?_
          cases hf
          exact hret _ _ _ _ dX9_hasHelp_79 (Or.inl rfl) hP hS
        · have hf := ip hc hf
          refine lv_iconst (v := 1) hx hb dX9_hasHelp_74 nc_1 ?_
          refine lv_goto (tgt := 79) hx hb dX9_hasHelp_75 (by decide) ?_
          cases hf
          exact hret _ _ _ _ dX9_hasHelp_79 (Or.inr rfl) hP hS
  clear hf
  have hf := hq3
  clear hq3
  have hL3 : ∀ (fu : Nat) (v1 : Int32) (v2 : Int32) (H : Heap) (locs : List Loc) (ls : Array Slot), LX9_hasHelp_5 x1 x2 w fu v1 v2 = some (v4) → Ho κ (wM κ) N ad w H → va_S (Aof ad N) s.heap H locs → lv_has ls 5 [(0, .ref (ad 0)), (1, .int x1), (2, .int x2), (3, .int v1), (4, .int v2)] → W p l e R s m args below meth c H locs 0 0 Q (F0 m 5 ls []) := by
    intro fu
    induction fu with
    | zero =>
      intro v1 v2 H locs ls hf
      rw [LX9_hasHelp_5] at hf
      cases hf
    | succ fu ih =>
      intro v1 v2 H locs ls hf hP hS hl
      rw [LX9_hasHelp_5] at hf
      refine lv_iload hx hb dX9_hasHelp_5 (lv_at hl 4 rfl) ?_
      refine lv_aload_n hx hb dX9_hasHelp_7 rfl (lv_at hl 0 rfl) ?_
      refine x_get hx hb hts hown hE hP fl_X9_13 (nm0 hN) gM_0_2 dX9_hasHelp_8 ?_
      refine lv_iconst (v := 0) hx hb dX9_hasHelp_11 nc_0 ?_
      obtain ⟨v5, hv, hf⟩ := bs1 hf
      refine x_iald hx hb hE hP (nm2 hN) (aM_2 _) hv dX9_hasHelp_12 ?_
      refine lv_icmp_ge (tgt := 58) hx hb dX9_hasHelp_13 (by decide) (fun hc => ?_) (fun hc => ?_)
      · have hf := ip hc hf
        cases hf
        exact hJ3 _ _ _ hP hS (lv_sub hl [2, 3] rfl)
      · have hf := iq hc hf
        refine lv_iload_n hx hb dX9_hasHelp_16 rfl (lv_at hl 3 rfl) ?_
        obtain ⟨v6, hq7, hf⟩ := bs1 hf
        have hJ7 : ∀ (H : Heap) (locs : List Loc) (ls : Array Slot), Ho κ (wM κ) N ad w H → va_S (Aof ad N) s.heap H locs → lv_has ls 5 [(0, .ref (ad 0)), (1, .int x1), (2, .int x2), (4, .int v2)] → W p l e R s m args below meth c H locs 0 0 Q (F0 m 51 ls [.int v6]) := by
          intro H locs ls hP hS hl
          refine lv_istore_n (lv' := [(3, .int v6), (0, .ref (ad 0)), (1, .int x1), (2, .int x2), (4, .int v2)]) hx hb dX9_hasHelp_51 rfl hl (by decide) rfl (fun ls hl => ?_)
          refine lv_iinc (v := (v2 + 1)) (lv' := [(4, .int (v2 + 1)), (3, .int v6), (0, .ref (ad 0)), (1, .int x1), (2, .int x2)]) hx hb dX9_hasHelp_52 hl (k := 4) rfl (ni_1 _) (by decide) rfl (fun ls hl => ?_)
          refine lv_goto (tgt := 5) hx hb dX9_hasHelp_55 (by decide) ?_
          exact ih _ _ _ _ _ hf hP hS (lv_sub hl [2, 3, 4, 1, 0] rfl)
        clear hf
        have hf := hq7
        clear hq7
        refine lv_if_ne (tgt := 46) hx hb dX9_hasHelp_17 (by decide) (fun hc => ?_) (fun hc => ?_)
        · have hf := iq hc hf
          refine lv_iconst (v := 1) hx hb dX9_hasHelp_46 nc_1 ?_
          refine lv_goto (tgt := 51) hx hb dX9_hasHelp_47 (by decide) ?_
          cases hf
          exact hJ7 _ _ _ hP hS (lv_sub hl [0, 1, 2, 4] rfl)
        · have hf := ip hc hf
          refine lv_aload_n hx hb dX9_hasHelp_20 rfl (lv_at hl 0 rfl) ?_
          refine x_get hx hb hts hown hE hP fl_X9_23 (nm0 hN) gM_0_5 dX9_hasHelp_21 ?_
          refine lv_iload hx hb dX9_hasHelp_24 (lv_at hl 4 rfl) ?_
          obtain ⟨v8, hv, hf⟩ := bs1 hf
          refine x_iald hx hb hE hP (nm5 hN) (aM_5 _) hv dX9_hasHelp_26 ?_
          refine lv_iconst (v := 2) hx hb dX9_hasHelp_27 nc_2 ?_
          refine lv_icmp_ne (tgt := 50) hx hb dX9_hasHelp_28 (by decide) (fun hc => ?_) (fun hc => ?_)
          · have hf := iq hc hf
            refine lv_iconst (v := 0) hx hb dX9_hasHelp_50 nc_0 ?_
            cases hf
            exact hJ7 _ _ _ hP hS (lv_sub hl [0, 1, 2, 4] rfl)
          · have hf := ip hc hf
            refine lv_aload_n hx hb dX9_hasHelp_31 rfl (lv_at hl 0 rfl) ?_
            refine x_get hx hb hts hown hE hP fl_X9_62 (nm0 hN) gM_0_20 dX9_hasHelp_32 ?_
            refine lv_iload_n hx hb dX9_hasHelp_35 rfl (lv_at hl 1 rfl) ?_
            refine lv_iconst (v := 0) hx hb dX9_hasHelp_36 nc_0 ?_
            refine lv_iadd hx hb dX9_hasHelp_37 ?_
            refine lv_iload hx hb dX9_hasHelp_38 (lv_at hl 4 rfl) ?_
            refine lv_iadd hx hb dX9_hasHelp_40 ?_
            obtain ⟨v9, hv, hf⟩ := bs1 hf
            refine x_iald hx hb hE hP (nm18 hN) (aM_18 _) hv dX9_hasHelp_41 ?_
            refine lv_iload_n hx hb dX9_hasHelp_42 rfl (lv_at hl 2 rfl) ?_
            refine lv_icmp_ge (tgt := 50) hx hb dX9_hasHelp_43 (by decide) (fun hc => ?_) (fun hc => ?_)
            · have hf := ip hc hf
              refine lv_iconst (v := 0) hx hb dX9_hasHelp_50 nc_0 ?_
              cases hf
              exact hJ7 _ _ _ hP hS (lv_sub hl [0, 1, 2, 4] rfl)
            · have hf := iq hc hf
              refine lv_iconst (v := 1) hx hb dX9_hasHelp_46 nc_1 ?_
              refine lv_goto (tgt := 51) hx hb dX9_hasHelp_47 (by decide) ?_
              cases hf
              exact hJ7 _ _ _ hP hS (lv_sub hl [0, 1, 2, 4] rfl)
  exact hL3 _ _ _ _ _ _ hf hP hS (lv_sub hl [2, 3, 4, 1, 0] rfl)
def LX9_raftStroke_8 (x1 : Int32) (x2 : Int32) (x3 : Int32) (x4 : Int32) (w : Mm) : Nat → Int32 → Int32 → Option (Int32)
  | 0, _, _ => none
  | fu + 1, v1, v2 =>
    if ((3 * x2) + 3) ≤ v2 then
      if 1 ≤ ((v1 / 3) - x4) then
        some ((v1 / 3) - x4)
      else
        some 1
    else
      bd1 (rd w 13 12 v2) fun v4 =>
      bd1 (rd w 18 192 ((x1 + 0) + v4)) fun v5 =>
      if v5 < x3 then
        bd1 (rd w 13 12 v2) fun v6 =>
        bd1 (rd w 3 16 v6) fun v7 =>
        LX9_raftStroke_8 x1 x2 x3 x4 w fu (v1 + v7) (v2 + 1)
      else
        some 0
def fX9_raftStroke (w : Mm) (x1 x2 x3 x4 : Int32) : Option (Int32) :=
  LX9_raftStroke_8 x1 x2 x3 x4 w 1000 0 (3 * x2)
set_option maxHeartbeats 4000000 in
set_option maxRecDepth 100000 in
theorem kX9_raftStroke {l : Launch} {κ : Kp} {N : Nat} {ad : Nat → Nat} {w : Mm} {x1 x2 x3 x4 : Int32} {r : Int32} (hN : 26 ≤ N) (hD : Apt ad N) (hf : fX9_raftStroke w x1 x2 x3 x4 = some r) : Met l yX9_raftStroke (Cond.code yX9_raftStroke cX9_raftStroke 7 (some .int) :: TB) (rmX 0 0) (PcX κ (wM κ) N ad w [.ref (ad 0), .int x1, .int x2, .int x3, .int x4]) (QI κ (wM κ) N ad w r) 0 0 (Aof ad N) := by
  refine mkI (by decide +kernel) (Nat.le_of_ble_eq_true rfl) (fun p e R s m args below meth c Q H locs ls hC hRf hRl hP hS hret hl => ?_)
  obtain ⟨hx, hb, hml, hown, hts, hE⟩ := hC
  have hA : ∀ k, k < N → Aof ad N (ad k) := fun k h => Aof_in h
  have hAA : ∀ z, Aof ad N z → Aof ad N z := fun _ h => h
  have hl : lv_has ls 7 [(0, .ref (ad 0)), (1, .int x1), (2, .int x2), (3, .int x3), (4, .int x4)] := hl
  unfold fX9_raftStroke at hf
  refine lv_iconst (v := 0) hx hb dX9_raftStroke_0 nc_0 ?_
  refine lv_istore (lv' := [(5, .int 0), (0, .ref (ad 0)), (1, .int x1), (2, .int x2), (3, .int x3), (4, .int x4)]) hx hb dX9_raftStroke_1 hl (by decide) rfl (fun ls hl => ?_)
  refine lv_iconst (v := 3) hx hb dX9_raftStroke_3 nc_3 ?_
  refine lv_iload_n hx hb dX9_raftStroke_4 rfl (lv_at hl 3 rfl) ?_
  refine lv_imul hx hb dX9_raftStroke_5 ?_
  refine lv_istore (lv' := [(6, .int (3 * x2)), (5, .int 0), (0, .ref (ad 0)), (1, .int x1), (2, .int x2), (3, .int x3), (4, .int x4)]) hx hb dX9_raftStroke_6 hl (by decide) rfl (fun ls hl => ?_)
  have hL3 : ∀ (fu : Nat) (v1 : Int32) (v2 : Int32) (H : Heap) (locs : List Loc) (ls : Array Slot), LX9_raftStroke_8 x1 x2 x3 x4 w fu v1 v2 = some r → Ho κ (wM κ) N ad w H → va_S (Aof ad N) s.heap H locs → lv_has ls 7 [(0, .ref (ad 0)), (1, .int x1), (2, .int x2), (3, .int x3), (4, .int x4), (5, .int v1), (6, .int v2)] → W p l e R s m args below meth c H locs 0 0 Q (F0 m 8 ls []) := by
    intro fu
    induction fu with
    | zero =>
      intro v1 v2 H locs ls hf
      rw [LX9_raftStroke_8] at hf
      cases hf
    | succ fu ih =>
      intro v1 v2 H locs ls hf hP hS hl
      rw [LX9_raftStroke_8] at hf
      refine lv_iload hx hb dX9_raftStroke_8 (lv_at hl 6 rfl) ?_
      refine lv_iconst (v := 3) hx hb dX9_raftStroke_10 nc_3 ?_
      refine lv_iload_n hx hb dX9_raftStroke_11 rfl (lv_at hl 2 rfl) ?_
      refine lv_imul hx hb dX9_raftStroke_12 ?_
      refine lv_iconst (v := 3) hx hb dX9_raftStroke_13 nc_3 ?_
      refine lv_iadd hx hb dX9_raftStroke_14 ?_
      refine lv_icmp_ge (tgt := 63) hx hb dX9_raftStroke_15 (by decide) (fun hc => ?_) (fun hc => ?_)
      · have hf := ip hc hf
        refine lv_iload hx hb dX9_raftStroke_63 (lv_at hl 5 rfl) ?_
        refine lv_iconst (v := 3) hx hb dX9_raftStroke_65 nc_3 ?_
        refine lv_idiv hx hb dX9_raftStroke_66 (by decide) ?_
        refine lv_iload hx hb dX9_raftStroke_67 (lv_at hl 4 rfl) ?_
        refine lv_isub hx hb dX9_raftStroke_69 ?_
        refine lv_istore (lv' := [(6, .int ((v1 / 3) - x4)), (0, .ref (ad 0)), (1, .int x1), (2, .int x2), (3, .int x3), (4, .int x4), (5, .int v1)]) hx hb dX9_raftStroke_70 hl (by decide) rfl (fun ls hl => ?_)
        refine lv_iload hx hb dX9_raftStroke_72 (lv_at hl 0 rfl) ?_
        refine lv_iconst (v := 1) hx hb dX9_raftStroke_74 nc_1 ?_
        refine lv_icmp_ge (tgt := 82) hx hb dX9_raftStroke_75 (by decide) (fun hc => ?_) (fun hc => ?_)
        · have hf := ip hc hf
          refine lv_iload hx hb dX9_raftStroke_82 (lv_at hl 0 rfl) ?_
          cases hf
          exact hret _ _ _ _ dX9_raftStroke_84 hP hS
        · have hf := iq hc hf
          refine lv_iconst (v := 1) hx hb dX9_raftStroke_78 nc_1 ?_
          refine lv_goto (tgt := 84) hx hb dX9_raftStroke_79 (by decide) ?_
          cases hf
          exact hret _ _ _ _ dX9_raftStroke_84 hP hS
      · have hf := iq hc hf
        refine lv_aload_n hx hb dX9_raftStroke_18 rfl (lv_at hl 0 rfl) ?_
        refine x_get hx hb hts hown hE hP fl_X9_62 (nm0 hN) gM_0_20 dX9_raftStroke_19 ?_
        refine lv_iload_n hx hb dX9_raftStroke_22 rfl (lv_at hl 1 rfl) ?_
        refine lv_iconst (v := 0) hx hb dX9_raftStroke_23 nc_0 ?_
        refine lv_iadd hx hb dX9_raftStroke_24 ?_
        refine lv_aload_n hx hb dX9_raftStroke_25 rfl (lv_at hl 0 rfl) ?_
        refine x_get hx hb hts hown hE hP fl_X9_47 (nm0 hN) gM_0_13 dX9_raftStroke_26 ?_
        refine lv_iload hx hb dX9_raftStroke_29 (lv_at hl 6 rfl) ?_
        obtain ⟨v4, hv, hf⟩ := bs1 hf
        refine x_iald hx hb hE hP (nm13 hN) (aM_13 _) hv dX9_raftStroke_31 ?_
        refine lv_iadd hx hb dX9_raftStroke_32 ?_
        obtain ⟨v5, hv, hf⟩ := bs1 hf
        refine x_iald hx hb hE hP (nm18 hN) (aM_18 _) hv dX9_raftStroke_33 ?_
        refine lv_iload_n hx hb dX9_raftStroke_34 rfl (lv_at hl 3 rfl) ?_
        refine lv_icmp_lt (tgt := 40) hx hb dX9_raftStroke_35 (by decide) (fun hc => ?_) (fun hc => ?_)
        · have hf := ip hc hf
          refine lv_iload hx hb dX9_raftStroke_40 (lv_at hl 5 rfl) ?_
          refine lv_aload_n hx hb dX9_raftStroke_42 rfl (lv_at hl 0 rfl) ?_
          refine x_get hx hb hts hown hE hP fl_X9_17 (nm0 hN) gM_0_3 dX9_raftStroke_43 ?_
          refine lv_aload_n hx hb dX9_raftStroke_46 rfl (lv_at hl 0 rfl) ?_
          refine x_get hx hb hts hown hE hP fl_X9_47 (nm0 hN) gM_0_13 dX9_raftStroke_47 ?_
          refine lv_iload hx hb dX9_raftStroke_50 (lv_at hl 6 rfl) ?_
          obtain ⟨v6, hv, hf⟩ := bs1 hf
          refine x_iald hx hb hE hP (nm13 hN) (aM_13 _) hv dX9_raftStroke_52 ?_
          obtain ⟨v7, hv, hf⟩ := bs1 hf
          refine x_iald hx hb hE hP (nm3 hN) (aM_3 _) hv dX9_raftStroke_53 ?_
          refine lv_iadd hx hb dX9_raftStroke_54 ?_
          refine lv_istore (lv' := [(5, .int (v1 + v7)), (0, .ref (ad 0)), (1, .int x1), (2, .int x2), (3, .int x3), (4, .int x4), (6, .int v2)]) hx hb dX9_raftStroke_55 hl (by decide) rfl (fun ls hl => ?_)
          refine lv_iinc (v := (v2 + 1)) (lv' := [(6, .int (v2 + 1)), (5, .int (v1 + v7)), (0, .ref (ad 0)), (1, .int x1), (2, .int x2), (3, .int x3), (4, .int x4)]) hx hb dX9_raftStroke_57 hl (k := 6) rfl (ni_1 _) (by decide) rfl (fun ls hl => ?_)
          refine lv_goto (tgt := 8) hx hb dX9_raftStroke_60 (by decide) ?_
          exact ih _ _ _ _ _ hf hP hS (lv_sub hl [2, 3, 4, 5, 6, 1, 0] rfl)
        · have hf := iq hc hf
          refine lv_iconst (v := 0) hx hb dX9_raftStroke_38 nc_0 ?_
          cases hf
          exact hret _ _ _ _ dX9_raftStroke_39 hP hS
  exact hL3 _ _ _ _ _ _ hf hP hS (lv_sub hl [2, 3, 4, 5, 6, 1, 0] rfl)
def LX9_strokeOf_72 (x1 : Int32) (x2 : Int32) (w : Mm) : Nat → Int32 → Int32 → Option (Int32)
  | 0, _, _ => none
  | fu + 1, v7, v8 =>
    bd1 (rd w 2 2 0) fun v11 =>
    if v11 ≤ v8 then
      some (v7)
    else
      bd1 (rd w 18 192 ((x1 + 8) + v8)) fun v12 =>
      bd1 (
        if v12 = x2 then
          bd1 (rd w 4 16 v8) fun v15 =>
          some (v15)
        else
          some (0)) fun (v13 : Int32) =>
      LX9_strokeOf_72 x1 x2 w fu (v7 + v13) (v8 + 1)
def fX9_strokeOf (w : Mm) (x1 x2 x3 x4 x5 : Int32) : Option (Int32) :=
  bd1 (rd w 18 192 ((x1 + 0) + x2)) fun v1 =>
  bd1 (rd w 5 16 x2) fun v2 =>
  bd1 (
    if v2 = 2 then
      if (x3 - x3 / 5 * 5) = 0 then
        some (1)
      else
        bd1 (rd w 5 16 x2) fun v6 =>
        if v6 = 3 then
          if (v1 + 3) < x3 then
            some (0)
          else
            some (1)
        else
          some (0)
    else
      bd1 (rd w 5 16 x2) fun v5 =>
      if v5 = 3 then
        if (v1 + 3) < x3 then
          some (0)
        else
          some (1)
      else
        some (0)) fun (v3 : Int32) =>
  if x3 ≤ v1 then
    some 0
  else
    if v3 = 0 then
      bd1 (LX9_strokeOf_72 x1 x2 w 1000 0 0) fun (v10 : Int32) =>
      bd1 (
        if x5 = 0 then
          some (x4)
        else
          bd1 (rd w 5 16 x2) fun v18 =>
          if v18 = 2 then
            some (x4)
          else
            some (0)) fun (v16 : Int32) =>
      bd1 (rd w 5 16 x2) fun v19 =>
      bd1 (
        if v19 = 1 then
          if v16 ≤ 0 then
            some (0)
          else
            some (1)
        else
          some (0)) fun (v20 : Int32) =>
      bd1 (rd w 3 16 x2) fun v22 =>
      if 1 ≤ ((v22 - (v16 - v20)) - (v10 / 3)) then
        some ((v22 - (v16 - v20)) - (v10 / 3))
      else
        some 1
    else
      some 0
set_option maxHeartbeats 4000000 in
set_option maxRecDepth 100000 in
theorem kX9_strokeOf {l : Launch} {κ : Kp} {N : Nat} {ad : Nat → Nat} {w : Mm} {x1 x2 x3 x4 x5 : Int32} {r : Int32} (hN : 26 ≤ N) (hD : Apt ad N) (hf : fX9_strokeOf w x1 x2 x3 x4 x5 = some r) : Met l yX9_strokeOf (Cond.code yX9_strokeOf cX9_strokeOf 11 (some .int) :: TB) (rmX 0 0) (PcX κ (wM κ) N ad w [.ref (ad 0), .int x1, .int x2, .int x3, .int x4, .int x5]) (QI κ (wM κ) N ad w r) 0 0 (Aof ad N) := by
  refine mkI (by decide +kernel) (Nat.le_of_ble_eq_true rfl) (fun p e R s m args below meth c Q H locs ls hC hRf hRl hP hS hret hl => ?_)
  obtain ⟨hx, hb, hml, hown, hts, hE⟩ := hC
  have hA : ∀ k, k < N → Aof ad N (ad k) := fun k h => Aof_in h
  have hAA : ∀ z, Aof ad N z → Aof ad N z := fun _ h => h
  have hl : lv_has ls 11 [(0, .ref (ad 0)), (1, .int x1), (2, .int x2), (3, .int x3), (4, .int x4), (5, .int x5)] := hl
  unfold fX9_strokeOf at hf
  refine lv_aload_n hx hb dX9_strokeOf_0 rfl (lv_at hl 0 rfl) ?_
  refine x_get hx hb hts hown hE hP fl_X9_62 (nm0 hN) gM_0_20 dX9_strokeOf_1 ?_
  refine lv_iload_n hx hb dX9_strokeOf_4 rfl (lv_at hl 1 rfl) ?_
  refine lv_iconst (v := 0) hx hb dX9_strokeOf_5 nc_0 ?_
  refine lv_iadd hx hb dX9_strokeOf_6 ?_
  refine lv_iload_n hx hb dX9_strokeOf_7 rfl (lv_at hl 2 rfl) ?_
  refine lv_iadd hx hb dX9_strokeOf_8 ?_
  obtain ⟨v1, hv, hf⟩ := bs1 hf
  refine x_iald hx hb hE hP (nm18 hN) (aM_18 _) hv dX9_strokeOf_9 ?_
  refine lv_istore (lv' := [(6, .int v1), (0, .ref (ad 0)), (1, .int x1), (2, .int x2), (3, .int x3), (4, .int x4), (5, .int x5)]) hx hb dX9_strokeOf_10 hl (by decide) rfl (fun ls hl => ?_)
  refine lv_aload_n hx hb dX9_strokeOf_12 rfl (lv_at hl 1 rfl) ?_
  refine x_get hx hb hts hown hE hP fl_X9_23 (nm0 hN) gM_0_5 dX9_strokeOf_13 ?_
  refine lv_iload_n hx hb dX9_strokeOf_16 rfl (lv_at hl 3 rfl) ?_
  obtain ⟨v2, hv, hf⟩ := bs1 hf
  refine x_iald hx hb hE hP (nm5 hN) (aM_5 _) hv dX9_strokeOf_17 ?_
  refine lv_iconst (v := 2) hx hb dX9_strokeOf_18 nc_2 ?_
  obtain ⟨v3, hq4, hf⟩ := bs1 hf
  have hJ4 : ∀ (H : Heap) (locs : List Loc) (ls : Array Slot), Ho κ (wM κ) N ad w H → va_S (Aof ad N) s.heap H locs → lv_has ls 11 [(0, .ref (ad 0)), (1, .int x1), (2, .int x2), (3, .int x3), (4, .int x4), (5, .int x5), (6, .int v1)] → W p l e R s m args below meth c H locs 0 0 Q (F0 m 51 ls [.int v3]) := by
    intro H locs ls hP hS hl
    refine lv_istore (lv' := [(7, .int v3), (0, .ref (ad 0)), (1, .int x1), (2, .int x2), (3, .int x3), (4, .int x4), (5, .int x5), (6, .int v1)]) hx hb dX9_strokeOf_51 hl (by decide) rfl (fun ls hl => ?_)
    refine lv_iload hx hb dX9_strokeOf_53 (lv_at hl 7 rfl) ?_
    refine lv_iload_n hx hb dX9_strokeOf_55 rfl (lv_at hl 4 rfl) ?_
    refine lv_icmp_ge (tgt := 64) hx hb dX9_strokeOf_56 (by decide) (fun hc => ?_) (fun hc => ?_)
    · have hf := ip hc hf
      refine lv_iconst (v := 0) hx hb dX9_strokeOf_64 nc_0 ?_
      cases hf
      exact hret _ _ _ _ dX9_strokeOf_65 hP hS
    · have hf := iq hc hf
      refine lv_iload hx hb dX9_strokeOf_59 (lv_at hl 0 rfl) ?_
      refine lv_if_eq (tgt := 66) hx hb dX9_strokeOf_61 (by decide) (fun hc => ?_) (fun hc => ?_)
      · have hf := ip hc hf
        refine lv_iconst (v := 0) hx hb dX9_strokeOf_66 nc_0 ?_
        refine lv_istore (lv' := [(8, .int 0), (7, .int v3), (0, .ref (ad 0)), (1, .int x1), (2, .int x2), (3, .int x3), (4, .int x4), (5, .int x5), (6, .int v1)]) hx hb dX9_strokeOf_67 hl (by decide) rfl (fun ls hl => ?_)
        refine lv_iconst (v := 0) hx hb dX9_strokeOf_69 nc_0 ?_
        refine lv_istore (lv' := [(9, .int 0), (8, .int 0), (7, .int v3), (0, .ref (ad 0)), (1, .int x1), (2, .int x2), (3, .int x3), (4, .int x4), (5, .int x5), (6, .int v1)]) hx hb dX9_strokeOf_70 hl (by decide) rfl (fun ls hl => ?_)
        obtain ⟨v10, hq9, hf⟩ := bs1 hf
        have hJ9 : ∀ (H : Heap) (locs : List Loc) (ls : Array Slot), Ho κ (wM κ) N ad w H → va_S (Aof ad N) s.heap H locs → lv_has ls 11 [(0, .ref (ad 0)), (2, .int x2), (4, .int x4), (5, .int x5), (8, .int v10)] → W p l e R s m args below meth c H locs 0 0 Q (F0 m 121 ls []) := by
          intro H locs ls hP hS hl
          refine lv_iload hx hb dX9_strokeOf_121 (lv_at hl 3 rfl) ?_
          obtain ⟨v16, hq17, hf⟩ := bs1 hf
          have hJ17 : ∀ (H : Heap) (locs : List Loc) (ls : Array Slot), Ho κ (wM κ) N ad w H → va_S (Aof ad N) s.heap H locs → lv_has ls 11 [(0, .ref (ad 0)), (2, .int x2), (8, .int v10)] → W p l e R s m args below meth c H locs 0 0 Q (F0 m 142 ls [.int v16]) := by
            intro H locs ls hP hS hl
            refine lv_istore (lv' := [(9, .int v16), (0, .ref (ad 0)), (2, .int x2), (8, .int v10)]) hx hb dX9_strokeOf_142 hl (by decide) rfl (fun ls hl => ?_)
            refine lv_iload hx hb dX9_strokeOf_144 (lv_at hl 0 rfl) ?_
            refine lv_aload_n hx hb dX9_strokeOf_146 rfl (lv_at hl 1 rfl) ?_
            refine x_get hx hb hts hown hE hP fl_X9_23 (nm0 hN) gM_0_5 dX9_strokeOf_147 ?_
            refine lv_iload_n hx hb dX9_strokeOf_150 rfl (lv_at hl 2 rfl) ?_
            obtain ⟨v19, hv, hf⟩ := bs1 hf
            refine x_iald hx hb hE hP (nm5 hN) (aM_5 _) hv dX9_strokeOf_151 ?_
            refine lv_iconst (v := 1) hx hb dX9_strokeOf_152 nc_1 ?_
            obtain ⟨v20, hq21, hf⟩ := bs1 hf
            have hJ21 : ∀ (H : Heap) (locs : List Loc) (ls : Array Slot), Ho κ (wM κ) N ad w H → va_S (Aof ad N) s.heap H locs → lv_has ls 11 [(0, .ref (ad 0)), (2, .int x2), (8, .int v10)] → W p l e R s m args below meth c H locs 0 0 Q (F0 m 166 ls [.int v20, .int v16]) := by
              intro H locs ls hP hS hl
              refine lv_isub hx hb dX9_strokeOf_166 ?_
              refine lv_istore (lv' := [(9, .int (v16 - v20)), (0, .ref (ad 0)), (2, .int x2), (8, .int v10)]) hx hb dX9_strokeOf_167 hl (by decide) rfl (fun ls hl => ?_)
              refine lv_aload_n hx hb dX9_strokeOf_169 rfl (lv_at hl 1 rfl) ?_
              refine x_get hx hb hts hown hE hP fl_X9_17 (nm0 hN) gM_0_3 dX9_strokeOf_170 ?_
              refine lv_iload_n hx hb dX9_strokeOf_173 rfl (lv_at hl 2 rfl) ?_
              obtain ⟨v22, hv, hf⟩ := bs1 hf
              refine x_iald hx hb hE hP (nm3 hN) (aM_3 _) hv dX9_strokeOf_174 ?_
              refine lv_iload hx hb dX9_strokeOf_175 (lv_at hl 0 rfl) ?_
              refine lv_isub hx hb dX9_strokeOf_177 ?_
              refine lv_iload hx hb dX9_strokeOf_178 (lv_at hl 3 rfl) ?_
              refine lv_iconst (v := 3) hx hb dX9_strokeOf_180 nc_3 ?_
              refine lv_idiv hx hb dX9_strokeOf_181 (by decide) ?_
              refine lv_isub hx hb dX9_strokeOf_182 ?_
              refine lv_istore (lv' := [(10, .int ((v22 - (v16 - v20)) - (v10 / 3))), (9, .int (v16 - v20)), (0, .ref (ad 0)), (2, .int x2), (8, .int v10)]) hx hb dX9_strokeOf_183 hl (by decide) rfl (fun ls hl => ?_)
              refine lv_iload hx hb dX9_strokeOf_185 (lv_at hl 0 rfl) ?_
              refine lv_iconst (v := 1) hx hb dX9_strokeOf_187 nc_1 ?_
              refine lv_icmp_ge (tgt := 195) hx hb dX9_strokeOf_188 (by decide) (fun hc => ?_) (fun hc => ?_)
              · have hf := ip hc hf
                refine lv_iload hx hb dX9_strokeOf_195 (lv_at hl 0 rfl) ?_
                cases hf
                exact hret _ _ _ _ dX9_strokeOf_197 hP hS
              · have hf := iq hc hf
                refine lv_iconst (v := 1) hx hb dX9_strokeOf_191 nc_1 ?_
                refine lv_goto (tgt := 197) hx hb dX9_strokeOf_192 (by decide) ?_
                cases hf
                exact hret _ _ _ _ dX9_strokeOf_197 hP hS
            clear hf
            have hf := hq21
            clear hq21
            refine lv_icmp_ne (tgt := 165) hx hb dX9_strokeOf_153 (by decide) (fun hc => ?_) (fun hc => ?_)
            · have hf := iq hc hf
              refine lv_iconst (v := 0) hx hb dX9_strokeOf_165 nc_0 ?_
              cases hf
              exact hJ21 _ _ _ hP hS (lv_sub hl [1, 2, 3] rfl)
            · have hf := ip hc hf
              refine lv_iload hx hb dX9_strokeOf_156 (lv_at hl 0 rfl) ?_
              refine lv_if_le (tgt := 165) hx hb dX9_strokeOf_158 (by decide) (fun hc => ?_) (fun hc => ?_)
              · have hf := ip hc hf
                refine lv_iconst (v := 0) hx hb dX9_strokeOf_165 nc_0 ?_
                cases hf
                exact hJ21 _ _ _ hP hS (lv_sub hl [1, 2, 3] rfl)
              · have hf := iq hc hf
                refine lv_iconst (v := 1) hx hb dX9_strokeOf_161 nc_1 ?_
                refine lv_goto (tgt := 166) hx hb dX9_strokeOf_162 (by decide) ?_
                cases hf
                exact hJ21 _ _ _ hP hS (lv_sub hl [1, 2, 3] rfl)
          clear hf
          have hf := hq17
          clear hq17
          refine lv_if_eq (tgt := 140) hx hb dX9_strokeOf_123 (by decide) (fun hc => ?_) (fun hc => ?_)
          · have hf := ip hc hf
            refine lv_iload hx hb dX9_strokeOf_140 (lv_at hl 2 rfl) ?_
            cases hf
            exact hJ17 _ _ _ hP hS (lv_sub hl [0, 1, 4] rfl)
          · have hf := iq hc hf
            refine lv_aload_n hx hb dX9_strokeOf_126 rfl (lv_at hl 0 rfl) ?_
            refine x_get hx hb hts hown hE hP fl_X9_23 (nm0 hN) gM_0_5 dX9_strokeOf_127 ?_
            refine lv_iload_n hx hb dX9_strokeOf_130 rfl (lv_at hl 1 rfl) ?_
            obtain ⟨v18, hv, hf⟩ := bs1 hf
            refine x_iald hx hb hE hP (nm5 hN) (aM_5 _) hv dX9_strokeOf_131 ?_
            refine lv_iconst (v := 2) hx hb dX9_strokeOf_132 nc_2 ?_
            refine lv_icmp_eq (tgt := 140) hx hb dX9_strokeOf_133 (by decide) (fun hc => ?_) (fun hc => ?_)
            · have hf := ip hc hf
              refine lv_iload hx hb dX9_strokeOf_140 (lv_at hl 2 rfl) ?_
              cases hf
              exact hJ17 _ _ _ hP hS (lv_sub hl [0, 1, 4] rfl)
            · have hf := iq hc hf
              refine lv_iconst (v := 0) hx hb dX9_strokeOf_136 nc_0 ?_
              refine lv_goto (tgt := 142) hx hb dX9_strokeOf_137 (by decide) ?_
              cases hf
              exact hJ17 _ _ _ hP hS (lv_sub hl [0, 1, 4] rfl)
        clear hf
        have hf := hq9
        clear hq9
        have hL9 : ∀ (fu : Nat) (v7 : Int32) (v8 : Int32) (H : Heap) (locs : List Loc) (ls : Array Slot), LX9_strokeOf_72 x1 x2 w fu v7 v8 = some (v10) → Ho κ (wM κ) N ad w H → va_S (Aof ad N) s.heap H locs → lv_has ls 11 [(0, .ref (ad 0)), (1, .int x1), (2, .int x2), (4, .int x4), (5, .int x5), (8, .int v7), (9, .int v8)] → W p l e R s m args below meth c H locs 0 0 Q (F0 m 72 ls []) := by
          intro fu
          induction fu with
          | zero =>
            intro v7 v8 H locs ls hf
            rw [LX9_strokeOf_72] at hf
            cases hf
          | succ fu ih =>
            intro v7 v8 H locs ls hf hP hS hl
            rw [LX9_strokeOf_72] at hf
            refine lv_iload hx hb dX9_strokeOf_72 (lv_at hl 6 rfl) ?_
            refine lv_aload_n hx hb dX9_strokeOf_74 rfl (lv_at hl 0 rfl) ?_
            refine x_get hx hb hts hown hE hP fl_X9_13 (nm0 hN) gM_0_2 dX9_strokeOf_75 ?_
            refine lv_iconst (v := 0) hx hb dX9_strokeOf_78 nc_0 ?_
            obtain ⟨v11, hv, hf⟩ := bs1 hf
            refine x_iald hx hb hE hP (nm2 hN) (aM_2 _) hv dX9_strokeOf_79 ?_
            refine lv_icmp_ge (tgt := 121) hx hb dX9_strokeOf_80 (by decide) (fun hc => ?_) (fun hc => ?_)
            · have hf := ip hc hf
              cases hf
              exact hJ9 _ _ _ hP hS (lv_sub hl [0, 2, 3, 4, 5] rfl)
            · have hf := iq hc hf
              refine lv_iload hx hb dX9_strokeOf_83 (lv_at hl 5 rfl) ?_
              refine lv_aload_n hx hb dX9_strokeOf_85 rfl (lv_at hl 0 rfl) ?_
              refine x_get hx hb hts hown hE hP fl_X9_62 (nm0 hN) gM_0_20 dX9_strokeOf_86 ?_
              refine lv_iload_n hx hb dX9_strokeOf_89 rfl (lv_at hl 1 rfl) ?_
              refine lv_bipush (v := 8) hx hb dX9_strokeOf_90 nb_8 ?_
              refine lv_iadd hx hb dX9_strokeOf_92 ?_
              refine lv_iload hx hb dX9_strokeOf_93 (lv_at hl 6 rfl) ?_
              refine lv_iadd hx hb dX9_strokeOf_95 ?_
              obtain ⟨v12, hv, hf⟩ := bs1 hf
              refine x_iald hx hb hE hP (nm18 hN) (aM_18 _) hv dX9_strokeOf_96 ?_
              refine lv_iload_n hx hb dX9_strokeOf_97 rfl (lv_at hl 2 rfl) ?_
              obtain ⟨v13, hq14, hf⟩ := bs1 hf
              have hJ14 : ∀ (H : Heap) (locs : List Loc) (ls : Array Slot), Ho κ (wM κ) N ad w H → va_S (Aof ad N) s.heap H locs → lv_has ls 11 [(0, .ref (ad 0)), (1, .int x1), (2, .int x2), (4, .int x4), (5, .int x5), (9, .int v8)] → W p l e R s m args below meth c H locs 0 0 Q (F0 m 112 ls [.int v13, .int v7]) := by
                intro H locs ls hP hS hl
                refine lv_iadd hx hb dX9_strokeOf_112 ?_
                refine lv_istore (lv' := [(8, .int (v7 + v13)), (0, .ref (ad 0)), (1, .int x1), (2, .int x2), (4, .int x4), (5, .int x5), (9, .int v8)]) hx hb dX9_strokeOf_113 hl (by decide) rfl (fun ls hl => ?_)
                refine lv_iinc (v := (v8 + 1)) (lv' := [(9, .int (v8 + 1)), (8, .int (v7 + v13)), (0, .ref (ad 0)), (1, .int x1), (2, .int x2), (4, .int x4), (5, .int x5)]) hx hb dX9_strokeOf_115 hl (k := 6) rfl (ni_1 _) (by decide) rfl (fun ls hl => ?_)
                refine lv_goto (tgt := 72) hx hb dX9_strokeOf_118 (by decide) ?_
                exact ih _ _ _ _ _ hf hP hS (lv_sub hl [2, 3, 4, 5, 6, 1, 0] rfl)
              clear hf
              have hf := hq14
              clear hq14
              refine lv_icmp_ne (tgt := 111) hx hb dX9_strokeOf_98 (by decide) (fun hc => ?_) (fun hc => ?_)
              · have hf := iq hc hf
                refine lv_iconst (v := 0) hx hb dX9_strokeOf_111 nc_0 ?_
                cases hf
                exact hJ14 _ _ _ hP hS (lv_sub hl [0, 1, 2, 3, 4, 6] rfl)
              · have hf := ip hc hf
                refine lv_aload_n hx hb dX9_strokeOf_101 rfl (lv_at hl 0 rfl) ?_
                refine x_get hx hb hts hown hE hP fl_X9_20 (nm0 hN) gM_0_4 dX9_strokeOf_102 ?_
                refine lv_iload hx hb dX9_strokeOf_105 (lv_at hl 6 rfl) ?_
                obtain ⟨v15, hv, hf⟩ := bs1 hf
                refine x_iald hx hb hE hP (nm4 hN) (aM_4 _) hv dX9_strokeOf_107 ?_
                refine lv_goto (tgt := 112) hx hb dX9_strokeOf_108 (by decide) ?_
                cases hf
                exact hJ14 _ _ _ hP hS (lv_sub hl [0, 1, 2, 3, 4, 6] rfl)
        exact hL9 _ _ _ _ _ _ hf hP hS (lv_sub hl [3, 4, 5, 7, 8, 1, 0] rfl)
      · have hf := iq hc hf
        refine lv_iconst (v := 0) hx hb dX9_strokeOf_64 nc_0 ?_
        cases hf
        exact hret _ _ _ _ dX9_strokeOf_65 hP hS
  clear hf
  have hf := hq4
  clear hq4
  refine lv_icmp_ne (tgt := 28) hx hb dX9_strokeOf_19 (by decide) (fun hc => ?_) (fun hc => ?_)
  · have hf := iq hc hf
    refine lv_aload_n hx hb dX9_strokeOf_28 rfl (lv_at hl 1 rfl) ?_
    refine x_get hx hb hts hown hE hP fl_X9_23 (nm0 hN) gM_0_5 dX9_strokeOf_29 ?_
    refine lv_iload_n hx hb dX9_strokeOf_32 rfl (lv_at hl 3 rfl) ?_
    obtain ⟨v5, hv, hf⟩ := bs1 hf
    refine x_iald hx hb hE hP (nm5 hN) (aM_5 _) hv dX9_strokeOf_33 ?_
    refine lv_iconst (v := 3) hx hb dX9_strokeOf_34 nc_3 ?_
    refine lv_icmp_ne (tgt := 50) hx hb dX9_strokeOf_35 (by decide) (fun hc => ?_) (fun hc => ?_)
    · have hf := iq hc hf
      refine lv_iconst (v := 0) hx hb dX9_strokeOf_50 nc_0 ?_
      cases hf
      exact hJ4 _ _ _ hP hS (lv_sub hl [1, 2, 3, 4, 5, 6, 0] rfl)
    · have hf := ip hc hf
      refine lv_iload_n hx hb dX9_strokeOf_38 rfl (lv_at hl 4 rfl) ?_
      refine lv_iload hx hb dX9_strokeOf_39 (lv_at hl 0 rfl) ?_
      refine lv_iconst (v := 3) hx hb dX9_strokeOf_41 nc_3 ?_
      refine lv_iadd hx hb dX9_strokeOf_42 ?_
      refine lv_icmp_gt (tgt := 50) hx hb dX9_strokeOf_43 (by decide) (fun hc => ?_) (fun hc => ?_)
      · have hf := ip hc hf
        refine lv_iconst (v := 0) hx hb dX9_strokeOf_50 nc_0 ?_
        cases hf
        exact hJ4 _ _ _ hP hS (lv_sub hl [1, 2, 3, 4, 5, 6, 0] rfl)
      · have hf := iq hc hf
        refine lv_iconst (v := 1) hx hb dX9_strokeOf_46 nc_1 ?_
        refine lv_goto (tgt := 51) hx hb dX9_strokeOf_47 (by decide) ?_
        cases hf
        exact hJ4 _ _ _ hP hS (lv_sub hl [1, 2, 3, 4, 5, 6, 0] rfl)
  · have hf := ip hc hf
    refine lv_iload_n hx hb dX9_strokeOf_22 rfl (lv_at hl 4 rfl) ?_
    refine lv_iconst (v := 5) hx hb dX9_strokeOf_23 nc_5 ?_
    refine lv_irem hx hb dX9_strokeOf_24 (by decide) ?_
    refine lv_if_eq (tgt := 46) hx hb dX9_strokeOf_25 (by decide) (fun hc => ?_) (fun hc => ?_)
    · have hf := ip hc hf
      refine lv_iconst (v := 1) hx hb dX9_strokeOf_46 nc_1 ?_
      refine lv_goto (tgt := 51) hx hb dX9_strokeOf_47 (by decide) ?_
      cases hf
      exact hJ4 _ _ _ hP hS (lv_sub hl [1, 2, 3, 4, 5, 6, 0] rfl)
    · have hf := iq hc hf
      refine lv_aload_n hx hb dX9_strokeOf_28 rfl (lv_at hl 1 rfl) ?_
      refine x_get hx hb hts hown hE hP fl_X9_23 (nm0 hN) gM_0_5 dX9_strokeOf_29 ?_
      refine lv_iload_n hx hb dX9_strokeOf_32 rfl (lv_at hl 3 rfl) ?_
      obtain ⟨v6, hv, hf⟩ := bs1 hf
      refine x_iald hx hb hE hP (nm5 hN) (aM_5 _) hv dX9_strokeOf_33 ?_
      refine lv_iconst (v := 3) hx hb dX9_strokeOf_34 nc_3 ?_
      refine lv_icmp_ne (tgt := 50) hx hb dX9_strokeOf_35 (by decide) (fun hc => ?_) (fun hc => ?_)
      · have hf := iq hc hf
        refine lv_iconst (v := 0) hx hb dX9_strokeOf_50 nc_0 ?_
        cases hf
        exact hJ4 _ _ _ hP hS (lv_sub hl [1, 2, 3, 4, 5, 6, 0] rfl)
      · have hf := ip hc hf
        refine lv_iload_n hx hb dX9_strokeOf_38 rfl (lv_at hl 4 rfl) ?_
        refine lv_iload hx hb dX9_strokeOf_39 (lv_at hl 0 rfl) ?_
        refine lv_iconst (v := 3) hx hb dX9_strokeOf_41 nc_3 ?_
        refine lv_iadd hx hb dX9_strokeOf_42 ?_
        refine lv_icmp_gt (tgt := 50) hx hb dX9_strokeOf_43 (by decide) (fun hc => ?_) (fun hc => ?_)
        · have hf := ip hc hf
          refine lv_iconst (v := 0) hx hb dX9_strokeOf_50 nc_0 ?_
          cases hf
          exact hJ4 _ _ _ hP hS (lv_sub hl [1, 2, 3, 4, 5, 6, 0] rfl)
        · have hf := iq hc hf
          refine lv_iconst (v := 1) hx hb dX9_strokeOf_46 nc_1 ?_
          refine lv_goto (tgt := 51) hx hb dX9_strokeOf_47 (by decide) ?_
          cases hf
          exact hJ4 _ _ _ hP hS (lv_sub hl [1, 2, 3, 4, 5, 6, 0] rfl)
def LX9_cross_2 : Nat → Int32 → Mm → Option (Mm)
  | 0, _, _ => none
  | fu + 1, v1, w2 =>
    if 8 ≤ v1 then
      some (w2)
    else
      bd1 (wr w2 19 8 v1 0) fun w5 =>
      bd1 (wr w5 20 8 v1 999) fun w6 =>
      LX9_cross_2 fu (v1 + 1) w6
def LX9_cross_81 (x1 : Int32) (v7 : Int32) (v11 : Int32) (v12 : Int32) (v13 : Int32) : Nat → Int32 → Mm → Option (Mm)
  | 0, _, _ => none
  | fu + 1, v15, w16 =>
    bd1 (rd w16 2 2 0) fun v19 =>
    if v19 ≤ v15 then
      some (w16)
    else
      if v13 = 0 then
        bd1 (fX9_raftOf w16 v15) fun v20 =>
        bd1 (rd w16 18 192 ((x1 + 8) + v15)) fun v21 =>
        bd1 (
          if v21 = (-4) then
            bd1 (rd w16 20 8 v15) fun v24 =>
            if v24 = 999 then
              bd1 (rd w16 19 8 v15) fun v25 =>
              bd1 (
                if v20 = (-4) then
                  bd1 (fX9_strokeOf w16 x1 v15 v7 v11 v12) fun v29 =>
                  some (v29)
                else
                  bd1 (fX9_raftStroke w16 x1 v20 v7 v11) fun v28 =>
                  some (v28)) fun (v26 : Int32) =>
              bd1 (wr w16 19 8 v15 (v25 + v26)) fun w30 =>
              bd1 (rd w30 19 8 v15) fun v31 =>
              bd1 (
                if v31 < (w30 0 23) then
                  some (999)
                else
                  some (v7)) fun (v32 : Int32) =>
              bd1 (wr w30 20 8 v15 v32) fun w34 =>
              some (w34)
            else
              some (w16)
          else
            some (w16)) fun (w22 : Mm) =>
        LX9_cross_81 x1 v7 v11 v12 v13 fu (v15 + 1) w22
      else
        some (w16)
def LX9_cross_32 (x1 : Int32) (x2 : Int32) : Nat → Int32 → Mm → Option (Mm)
  | 0, _, _ => none
  | fu + 1, v7, w8 =>
    if x2 < v7 then
      some (w8)
    else
      bd1 (fX9_takesIn w8 v7) fun v11 =>
      bd1 (fX9_hasHelp w8 x1 v7) fun v12 =>
      bd1 (
        if 5 < v7 then
          some (0)
        else
          if (((w8 0 24) >>> ((v7 - 1) &&& 31)) &&& 1) = 1 then
            some (1)
          else
            some (0)) fun (v13 : Int32) =>
      bd1 (LX9_cross_81 x1 v7 v11 v12 v13 1000 0 w8) fun (w18 : Mm) =>
      LX9_cross_32 x1 x2 fu (v7 + 1) w18
def LX9_cross_219 (x1 : Int32) : Nat → Int32 → Mm → Option (Mm)
  | 0, _, _ => none
  | fu + 1, v35, w36 =>
    bd1 (rd w36 2 2 0) fun v39 =>
    if v39 ≤ v35 then
      some (w36)
    else
      bd1 (rd w36 18 192 ((x1 + 8) + v35)) fun v40 =>
      bd1 (
        if v40 = (-4) then
          some (w36)
        else
          bd1 (rd w36 19 8 v40) fun v43 =>
          bd1 (wr w36 19 8 v35 v43) fun w44 =>
          bd1 (rd w44 20 8 v40) fun v45 =>
          bd1 (wr w44 20 8 v35 v45) fun w46 =>
          some (w46)) fun (w41 : Mm) =>
      LX9_cross_219 x1 fu (v35 + 1) w41
def fX9_cross (w : Mm) (x1 x2 : Int32) : Option (Mm) :=
  bd1 (LX9_cross_2 1000 0 w) fun (w4 : Mm) =>
  bd1 (LX9_cross_32 x1 x2 1000 1 w4) fun (w10 : Mm) =>
  bd1 (LX9_cross_219 x1 1000 0 w10) fun (w38 : Mm) =>
  some w38
set_option maxHeartbeats 4000000 in
set_option maxRecDepth 100000 in
theorem kX9_cross {l : Launch} {κ : Kp} {N : Nat} {ad : Nat → Nat} {w : Mm} {x1 x2 : Int32} {w' : Mm} (hN : 26 ≤ N) (hD : Apt ad N) (hf : fX9_cross w x1 x2 = some w') : Met l yX9_cross (Cond.code yX9_cross cX9_cross 9 none :: TB) (rmX 2 47) (PcX κ (wM κ) N ad w [.ref (ad 0), .int x1, .int x2]) (QV κ (wM κ) N ad w') 0 0 (Aof ad N) := by
  refine mkV (by decide +kernel) (Nat.le_of_ble_eq_true rfl) (fun p e R s m args below meth c Q H locs ls hC hRf hRl hP hS hret hl => ?_)
  obtain ⟨hx, hb, hml, hown, hts, hE⟩ := hC
  have hA : ∀ k, k < N → Aof ad N (ad k) := fun k h => Aof_in h
  have hAA : ∀ z, Aof ad N z → Aof ad N z := fun _ h => h
  have hl : lv_has ls 9 [(0, .ref (ad 0)), (1, .int x1), (2, .int x2)] := hl
  unfold fX9_cross at hf
  refine lv_iconst (v := 0) hx hb dX9_cross_0 nc_0 ?_
  refine lv_istore_n (lv' := [(3, .int 0), (0, .ref (ad 0)), (1, .int x1), (2, .int x2)]) hx hb dX9_cross_1 rfl hl (by decide) rfl (fun ls hl => ?_)
  obtain ⟨w4, hq3, hf⟩ := bs1 hf
  have hJ3 : ∀ (H : Heap) (locs : List Loc) (ls : Array Slot), Ho κ (wM κ) N ad w4 H → va_S (Aof ad N) s.heap H locs → lv_has ls 9 [(0, .ref (ad 0)), (1, .int x1), (2, .int x2)] → W p l e R s m args below meth c H locs 0 0 Q (F0 m 30 ls []) := by
    intro H locs ls hP hS hl
    refine lv_iconst (v := 1) hx hb dX9_cross_30 nc_1 ?_
    refine lv_istore_n (lv' := [(3, .int 1), (0, .ref (ad 0)), (1, .int x1), (2, .int x2)]) hx hb dX9_cross_31 rfl hl (by decide) rfl (fun ls hl => ?_)
    obtain ⟨w10, hq9, hf⟩ := bs1 hf
    have hJ9 : ∀ (H : Heap) (locs : List Loc) (ls : Array Slot), Ho κ (wM κ) N ad w10 H → va_S (Aof ad N) s.heap H locs → lv_has ls 9 [(0, .ref (ad 0)), (1, .int x1)] → W p l e R s m args below meth c H locs 0 0 Q (F0 m 217 ls []) := by
      intro H locs ls hP hS hl
      refine lv_iconst (v := 0) hx hb dX9_cross_217 nc_0 ?_
      refine lv_istore_n (lv' := [(3, .int 0), (0, .ref (ad 0)), (1, .int x1)]) hx hb dX9_cross_218 rfl hl (by decide) rfl (fun ls hl => ?_)
      obtain ⟨w38, hq37, hf⟩ := bs1 hf
      have hJ37 : ∀ (H : Heap) (locs : List Loc) (ls : Array Slot), Ho κ (wM κ) N ad w38 H → va_S (Aof ad N) s.heap H locs → lv_has ls 9 [] → W p l e R s m args below meth c H locs 0 0 Q (F0 m 281 ls []) := by
        intro H locs ls hP hS hl
        cases hf
        exact hret _ _ _ _ dX9_cross_281 hP hS
      clear hf
      have hf := hq37
      clear hq37
      have hL37 : ∀ (fu : Nat) (v35 : Int32) (w36 : Mm) (H : Heap) (locs : List Loc) (ls : Array Slot), LX9_cross_219 x1 fu v35 w36 = some (w38) → Ho κ (wM κ) N ad w36 H → va_S (Aof ad N) s.heap H locs → lv_has ls 9 [(0, .ref (ad 0)), (1, .int x1), (3, .int v35)] → W p l e R s m args below meth c H locs 0 0 Q (F0 m 219 ls []) := by
        intro fu
        induction fu with
        | zero =>
          intro v35 w36 H locs ls hf
          rw [LX9_cross_219] at hf
          cases hf
        | succ fu ih =>
          intro v35 w36 H locs ls hf hP hS hl
          rw [LX9_cross_219] at hf
          refine lv_iload_n hx hb dX9_cross_219 rfl (lv_at hl 2 rfl) ?_
          refine lv_aload_n hx hb dX9_cross_220 rfl (lv_at hl 0 rfl) ?_
          refine x_get hx hb hts hown hE hP fl_X9_13 (nm0 hN) gM_0_2 dX9_cross_221 ?_
          refine lv_iconst (v := 0) hx hb dX9_cross_224 nc_0 ?_
          obtain ⟨v39, hv, hf⟩ := bs1 hf
          refine x_iald hx hb hE hP (nm2 hN) (aM_2 _) hv dX9_cross_225 ?_
          refine lv_icmp_ge (tgt := 281) hx hb dX9_cross_226 (by decide) (fun hc => ?_) (fun hc => ?_)
          · have hf := ip hc hf
            cases hf
            exact hJ37 _ _ _ hP hS (lv_sub hl [] rfl)
          · have hf := iq hc hf
            refine lv_aload_n hx hb dX9_cross_229 rfl (lv_at hl 0 rfl) ?_
            refine x_get hx hb hts hown hE hP fl_X9_62 (nm0 hN) gM_0_20 dX9_cross_230 ?_
            refine lv_iload_n hx hb dX9_cross_233 rfl (lv_at hl 1 rfl) ?_
            refine lv_bipush (v := 8) hx hb dX9_cross_234 nb_8 ?_
            refine lv_iadd hx hb dX9_cross_236 ?_
            refine lv_iload_n hx hb dX9_cross_237 rfl (lv_at hl 2 rfl) ?_
            refine lv_iadd hx hb dX9_cross_238 ?_
            obtain ⟨v40, hv, hf⟩ := bs1 hf
            refine x_iald hx hb hE hP (nm18 hN) (aM_18 _) hv dX9_cross_239 ?_
            refine lv_istore (lv' := [(4, .int v40), (0, .ref (ad 0)), (1, .int x1), (3, .int v35)]) hx hb dX9_cross_240 hl (by decide) rfl (fun ls hl => ?_)
            refine lv_iload hx hb dX9_cross_242 (lv_at hl 0 rfl) ?_
            refine lv_bipush (v := (-4)) hx hb dX9_cross_244 nb_m4 ?_
            obtain ⟨w41, hq42, hf⟩ := bs1 hf
            have hJ42 : ∀ (H : Heap) (locs : List Loc) (ls : Array Slot), Ho κ (wM κ) N ad w41 H → va_S (Aof ad N) s.heap H locs → lv_has ls 9 [(0, .ref (ad 0)), (1, .int x1), (3, .int v35)] → W p l e R s m args below meth c H locs 0 0 Q (F0 m 275 ls []) := by
              intro H locs ls hP hS hl
              refine lv_iinc (v := (v35 + 1)) (lv' := [(3, .int (v35 + 1)), (0, .ref (ad 0)), (1, .int x1)]) hx hb dX9_cross_275 hl (k := 2) rfl (ni_1 _) (by decide) rfl (fun ls hl => ?_)
              refine lv_goto (tgt := 219) hx hb dX9_cross_278 (by decide) ?_
              exact ih _ _ _ _ _ hf hP hS (lv_sub hl [1, 2, 0] rfl)
            clear hf
            have hf := hq42
            clear hq42
            refine lv_icmp_eq (tgt := 275) hx hb dX9_cross_246 (by decide) (fun hc => ?_) (fun hc => ?_)
            · have hf := ip hc hf
              cases hf
              exact hJ42 _ _ _ hP hS (lv_sub hl [1, 2, 3] rfl)
            · have hf := iq hc hf
              refine lv_aload_n hx hb dX9_cross_249 rfl (lv_at hl 1 rfl) ?_
              refine x_get hx hb hts hown hE hP fl_X9_65 (nm0 hN) gM_0_26 dX9_cross_250 ?_
              refine lv_iload_n hx hb dX9_cross_253 rfl (lv_at hl 3 rfl) ?_
              refine lv_aload_n hx hb dX9_cross_254 rfl (lv_at hl 1 rfl) ?_
              refine x_get hx hb hts hown hE hP fl_X9_65 (nm0 hN) gM_0_26 dX9_cross_255 ?_
              refine lv_iload hx hb dX9_cross_258 (lv_at hl 0 rfl) ?_
              obtain ⟨v43, hv, hf⟩ := bs1 hf
              refine x_iald hx hb hE hP (nm19 hN) (aM_19 _) hv dX9_cross_260 ?_
              obtain ⟨w44, hv, hf⟩ := bs1 hf
              refine x_iast hx hb hE hD hA hP hS (nm19 hN) aM_19 hv dX9_cross_261 (fun H locs hP hS => ?_)
              refine lv_aload_n hx hb dX9_cross_262 rfl (lv_at hl 1 rfl) ?_
              refine x_get hx hb hts hown hE hP fl_X9_68 (nm0 hN) gM_0_27 dX9_cross_263 ?_
              refine lv_iload_n hx hb dX9_cross_266 rfl (lv_at hl 3 rfl) ?_
              refine lv_aload_n hx hb dX9_cross_267 rfl (lv_at hl 1 rfl) ?_
              refine x_get hx hb hts hown hE hP fl_X9_68 (nm0 hN) gM_0_27 dX9_cross_268 ?_
              refine lv_iload hx hb dX9_cross_271 (lv_at hl 0 rfl) ?_
              obtain ⟨v45, hv, hf⟩ := bs1 hf
              refine x_iald hx hb hE hP (nm20 hN) (aM_20 _) hv dX9_cross_273 ?_
              obtain ⟨w46, hv, hf⟩ := bs1 hf
              refine x_iast hx hb hE hD hA hP hS (nm20 hN) aM_20 hv dX9_cross_274 (fun H locs hP hS => ?_)
              cases hf
              exact hJ42 _ _ _ hP hS (lv_sub hl [1, 2, 3] rfl)
      exact hL37 _ _ _ _ _ _ hf hP hS (lv_sub hl [1, 2, 0] rfl)
    clear hf
    have hf := hq9
    clear hq9
    have hL9 : ∀ (fu : Nat) (v7 : Int32) (w8 : Mm) (H : Heap) (locs : List Loc) (ls : Array Slot), LX9_cross_32 x1 x2 fu v7 w8 = some (w10) → Ho κ (wM κ) N ad w8 H → va_S (Aof ad N) s.heap H locs → lv_has ls 9 [(0, .ref (ad 0)), (1, .int x1), (2, .int x2), (3, .int v7)] → W p l e R s m args below meth c H locs 0 0 Q (F0 m 32 ls []) := by
      intro fu
      induction fu with
      | zero =>
        intro v7 w8 H locs ls hf
        rw [LX9_cross_32] at hf
        cases hf
      | succ fu ih =>
        intro v7 w8 H locs ls hf hP hS hl
        rw [LX9_cross_32] at hf
        refine lv_iload_n hx hb dX9_cross_32 rfl (lv_at hl 3 rfl) ?_
        refine lv_iload_n hx hb dX9_cross_33 rfl (lv_at hl 2 rfl) ?_
        refine lv_icmp_gt (tgt := 217) hx hb dX9_cross_34 (by decide) (fun hc => ?_) (fun hc => ?_)
        · have hf := ip hc hf
          cases hf
          exact hJ9 _ _ _ hP hS (lv_sub hl [0, 1] rfl)
        · have hf := iq hc hf
          refine lv_aload_n hx hb dX9_cross_37 rfl (lv_at hl 0 rfl) ?_
          refine lv_iload_n hx hb dX9_cross_38 rfl (lv_at hl 3 rfl) ?_
          obtain ⟨v11, hv, hf⟩ := bs1 hf
          refine x_cVi (As := [.int v7]) (rest := []) hx hb hml hts hown hE hP hS hAA (kX9_takesIn hN hD hv) cl_X9_176 (nm0 hN) oM_0 vc_9 (Nat.le_trans (by decide) hRf) (Nat.le_trans (by decide) hRl) (Nat.zero_le _) (Nat.zero_le _) rfl hl.1 rfl (Nat.le_of_ble_eq_true rfl) dX9_cross_39 (fun H locs hP hS => ?_)
          refine lv_istore (lv' := [(4, .int v11), (0, .ref (ad 0)), (1, .int x1), (2, .int x2), (3, .int v7)]) hx hb dX9_cross_42 hl (by decide) rfl (fun ls hl => ?_)
          refine lv_aload_n hx hb dX9_cross_44 rfl (lv_at hl 1 rfl) ?_
          refine lv_iload_n hx hb dX9_cross_45 rfl (lv_at hl 2 rfl) ?_
          refine lv_iload_n hx hb dX9_cross_46 rfl (lv_at hl 4 rfl) ?_
          obtain ⟨v12, hv, hf⟩ := bs1 hf
          refine x_cVi (As := [.int x1, .int v7]) (rest := []) hx hb hml hts hown hE hP hS hAA (kX9_hasHelp hN hD hv) cl_X9_179 (nm0 hN) oM_0 vc_9 (Nat.le_trans (by decide) hRf) (Nat.le_trans (by decide) hRl) (Nat.zero_le _) (Nat.zero_le _) rfl hl.1 rfl (Nat.le_of_ble_eq_true rfl) dX9_cross_47 (fun H locs hP hS => ?_)
          refine lv_istore (lv' := [(5, .int v12), (4, .int v11), (0, .ref (ad 0)), (1, .int x1), (2, .int x2), (3, .int v7)]) hx hb dX9_cross_50 hl (by decide) rfl (fun ls hl => ?_)
          refine lv_iload_n hx hb dX9_cross_52 rfl (lv_at hl 5 rfl) ?_
          refine lv_iconst (v := 5) hx hb dX9_cross_53 nc_5 ?_
          obtain ⟨v13, hq14, hf⟩ := bs1 hf
          have hJ14 : ∀ (H : Heap) (locs : List Loc) (ls : Array Slot), Ho κ (wM κ) N ad w8 H → va_S (Aof ad N) s.heap H locs → lv_has ls 9 [(0, .ref (ad 0)), (1, .int x1), (2, .int x2), (3, .int v7), (4, .int v11), (5, .int v12)] → W p l e R s m args below meth c H locs 0 0 Q (F0 m 76 ls [.int v13]) := by
            intro H locs ls hP hS hl
            refine lv_istore (lv' := [(6, .int v13), (0, .ref (ad 0)), (1, .int x1), (2, .int x2), (3, .int v7), (4, .int v11), (5, .int v12)]) hx hb dX9_cross_76 hl (by decide) rfl (fun ls hl => ?_)
            refine lv_iconst (v := 0) hx hb dX9_cross_78 nc_0 ?_
            refine lv_istore (lv' := [(7, .int 0), (6, .int v13), (0, .ref (ad 0)), (1, .int x1), (2, .int x2), (3, .int v7), (4, .int v11), (5, .int v12)]) hx hb dX9_cross_79 hl (by decide) rfl (fun ls hl => ?_)
            obtain ⟨w18, hq17, hf⟩ := bs1 hf
            have hJ17 : ∀ (H : Heap) (locs : List Loc) (ls : Array Slot), Ho κ (wM κ) N ad w18 H → va_S (Aof ad N) s.heap H locs → lv_has ls 9 [(0, .ref (ad 0)), (1, .int x1), (2, .int x2), (3, .int v7)] → W p l e R s m args below meth c H locs 0 0 Q (F0 m 211 ls []) := by
              intro H locs ls hP hS hl
              refine lv_iinc (v := (v7 + 1)) (lv' := [(3, .int (v7 + 1)), (0, .ref (ad 0)), (1, .int x1), (2, .int x2)]) hx hb dX9_cross_211 hl (k := 3) rfl (ni_1 _) (by decide) rfl (fun ls hl => ?_)
              refine lv_goto (tgt := 32) hx hb dX9_cross_214 (by decide) ?_
              exact ih _ _ _ _ _ hf hP hS (lv_sub hl [1, 2, 3, 0] rfl)
            clear hf
            have hf := hq17
            clear hq17
            have hL17 : ∀ (fu : Nat) (v15 : Int32) (w16 : Mm) (H : Heap) (locs : List Loc) (ls : Array Slot), LX9_cross_81 x1 v7 v11 v12 v13 fu v15 w16 = some (w18) → Ho κ (wM κ) N ad w16 H → va_S (Aof ad N) s.heap H locs → lv_has ls 9 [(0, .ref (ad 0)), (1, .int x1), (2, .int x2), (3, .int v7), (4, .int v11), (5, .int v12), (6, .int v13), (7, .int v15)] → W p l e R s m args below meth c H locs 0 0 Q (F0 m 81 ls []) := by
              intro fu
              induction fu with
              | zero =>
                intro v15 w16 H locs ls hf
                rw [LX9_cross_81] at hf
                cases hf
              | succ fu ih =>
                intro v15 w16 H locs ls hf hP hS hl
                rw [LX9_cross_81] at hf
                refine lv_iload hx hb dX9_cross_81 (lv_at hl 7 rfl) ?_
                refine lv_aload_n hx hb dX9_cross_83 rfl (lv_at hl 0 rfl) ?_
                refine x_get hx hb hts hown hE hP fl_X9_13 (nm0 hN) gM_0_2 dX9_cross_84 ?_
                refine lv_iconst (v := 0) hx hb dX9_cross_87 nc_0 ?_
                obtain ⟨v19, hv, hf⟩ := bs1 hf
                refine x_iald hx hb hE hP (nm2 hN) (aM_2 _) hv dX9_cross_88 ?_
                refine lv_icmp_ge (tgt := 211) hx hb dX9_cross_89 (by decide) (fun hc => ?_) (fun hc => ?_)
                · have hf := ip hc hf
                  cases hf
                  exact hJ17 _ _ _ hP hS (lv_sub hl [0, 1, 2, 3] rfl)
                · have hf := iq hc hf
                  refine lv_iload hx hb dX9_cross_92 (lv_at hl 6 rfl) ?_
                  refine lv_if_ne (tgt := 211) hx hb dX9_cross_94 (by decide) (fun hc => ?_) (fun hc => ?_)
                  · have hf := iq hc hf
                    cases hf
                    exact hJ17 _ _ _ hP hS (lv_sub hl [0, 1, 2, 3] rfl)
                  · have hf := ip hc hf
                    refine lv_aload_n hx hb dX9_cross_97 rfl (lv_at hl 0 rfl) ?_
                    refine lv_iload hx hb dX9_cross_98 (lv_at hl 7 rfl) ?_
                    obtain ⟨v20, hv, hf⟩ := bs1 hf
                    refine x_cVi (As := [.int v15]) (rest := []) hx hb hml hts hown hE hP hS hAA (kX9_raftOf hN hD hv) cl_X9_156 (nm0 hN) oM_0 vc_9 (Nat.le_trans (by decide) hRf) (Nat.le_trans (by decide) hRl) (Nat.zero_le _) (Nat.zero_le _) rfl hl.1 rfl (Nat.le_of_ble_eq_true rfl) dX9_cross_100 (fun H locs hP hS => ?_)
                    refine lv_istore (lv' := [(8, .int v20), (0, .ref (ad 0)), (1, .int x1), (2, .int x2), (3, .int v7), (4, .int v11), (5, .int v12), (6, .int v13), (7, .int v15)]) hx hb dX9_cross_103 hl (by decide) rfl (fun ls hl => ?_)
                    refine lv_aload_n hx hb dX9_cross_105 rfl (lv_at hl 1 rfl) ?_
                    refine x_get hx hb hts hown hE hP fl_X9_62 (nm0 hN) gM_0_20 dX9_cross_106 ?_
                    refine lv_iload_n hx hb dX9_cross_109 rfl (lv_at hl 2 rfl) ?_
                    refine lv_bipush (v := 8) hx hb dX9_cross_110 nb_8 ?_
                    refine lv_iadd hx hb dX9_cross_112 ?_
                    refine lv_iload hx hb dX9_cross_113 (lv_at hl 8 rfl) ?_
                    refine lv_iadd hx hb dX9_cross_115 ?_
                    obtain ⟨v21, hv, hf⟩ := bs1 hf
                    refine x_iald hx hb hE hP (nm18 hN) (aM_18 _) hv dX9_cross_116 ?_
                    refine lv_bipush (v := (-4)) hx hb dX9_cross_117 nb_m4 ?_
                    obtain ⟨w22, hq23, hf⟩ := bs1 hf
                    have hJ23 : ∀ (H : Heap) (locs : List Loc) (ls : Array Slot), Ho κ (wM κ) N ad w22 H → va_S (Aof ad N) s.heap H locs → lv_has ls 9 [(0, .ref (ad 0)), (1, .int x1), (2, .int x2), (3, .int v7), (4, .int v11), (5, .int v12), (6, .int v13), (7, .int v15)] → W p l e R s m args below meth c H locs 0 0 Q (F0 m 205 ls []) := by
                      intro H locs ls hP hS hl
                      refine lv_iinc (v := (v15 + 1)) (lv' := [(7, .int (v15 + 1)), (0, .ref (ad 0)), (1, .int x1), (2, .int x2), (3, .int v7), (4, .int v11), (5, .int v12), (6, .int v13)]) hx hb dX9_cross_205 hl (k := 7) rfl (ni_1 _) (by decide) rfl (fun ls hl => ?_)
                      refine lv_goto (tgt := 81) hx hb dX9_cross_208 (by decide) ?_
                      exact ih _ _ _ _ _ hf hP hS (lv_sub hl [1, 2, 3, 4, 5, 6, 7, 0] rfl)
                    clear hf
                    have hf := hq23
                    clear hq23
                    refine lv_icmp_ne (tgt := 205) hx hb dX9_cross_119 (by decide) (fun hc => ?_) (fun hc => ?_)
                    · have hf := iq hc hf
                      cases hf
                      exact hJ23 _ _ _ hP hS (lv_sub hl [1, 2, 3, 4, 5, 6, 7, 8] rfl)
                    · have hf := ip hc hf
                      refine lv_aload_n hx hb dX9_cross_122 rfl (lv_at hl 1 rfl) ?_
                      refine x_get hx hb hts hown hE hP fl_X9_68 (nm0 hN) gM_0_27 dX9_cross_123 ?_
                      refine lv_iload hx hb dX9_cross_126 (lv_at hl 8 rfl) ?_
                      obtain ⟨v24, hv, hf⟩ := bs1 hf
                      refine x_iald hx hb hE hP (nm20 hN) (aM_20 _) hv dX9_cross_128 ?_
                      refine lv_sipush (v := 999) hx hb dX9_cross_129 ns_999 ?_
                      refine lv_icmp_ne (tgt := 205) hx hb dX9_cross_132 (by decide) (fun hc => ?_) (fun hc => ?_)
                      · have hf := iq hc hf
                        cases hf
                        exact hJ23 _ _ _ hP hS (lv_sub hl [1, 2, 3, 4, 5, 6, 7, 8] rfl)
                      · have hf := ip hc hf
                        refine lv_aload_n hx hb dX9_cross_135 rfl (lv_at hl 1 rfl) ?_
                        refine x_get hx hb hts hown hE hP fl_X9_65 (nm0 hN) gM_0_26 dX9_cross_136 ?_
                        refine lv_iload hx hb dX9_cross_139 (lv_at hl 8 rfl) ?_
                        refine lv_dup2_11 hx hb dX9_cross_141 rfl rfl ?_
                        obtain ⟨v25, hv, hf⟩ := bs1 hf
                        refine x_iald hx hb hE hP (nm19 hN) (aM_19 _) hv dX9_cross_142 ?_
                        refine lv_iload hx hb dX9_cross_143 (lv_at hl 0 rfl) ?_
                        refine lv_bipush (v := (-4)) hx hb dX9_cross_145 nb_m4 ?_
                        obtain ⟨v26, hq27, hf⟩ := bs1 hf
                        have hJ27 : ∀ (H : Heap) (locs : List Loc) (ls : Array Slot), Ho κ (wM κ) N ad w16 H → va_S (Aof ad N) s.heap H locs → lv_has ls 9 [(0, .ref (ad 0)), (1, .int x1), (2, .int x2), (3, .int v7), (4, .int v11), (5, .int v12), (6, .int v13), (7, .int v15)] → W p l e R s m args below meth c H locs 0 0 Q (F0 m 175 ls [.int v26, .int v25, .int v15, .ref (ad 19)]) := by
                          intro H locs ls hP hS hl
                          refine lv_iadd hx hb dX9_cross_175 ?_
                          obtain ⟨w30, hv, hf⟩ := bs1 hf
                          refine x_iast hx hb hE hD hA hP hS (nm19 hN) aM_19 hv dX9_cross_176 (fun H locs hP hS => ?_)
                          refine lv_aload_n hx hb dX9_cross_177 rfl (lv_at hl 0 rfl) ?_
                          refine x_get hx hb hts hown hE hP fl_X9_68 (nm0 hN) gM_0_27 dX9_cross_178 ?_
                          refine lv_iload hx hb dX9_cross_181 (lv_at hl 7 rfl) ?_
                          refine lv_aload_n hx hb dX9_cross_183 rfl (lv_at hl 0 rfl) ?_
                          refine x_get hx hb hts hown hE hP fl_X9_65 (nm0 hN) gM_0_26 dX9_cross_184 ?_
                          refine lv_iload hx hb dX9_cross_187 (lv_at hl 7 rfl) ?_
                          obtain ⟨v31, hv, hf⟩ := bs1 hf
                          refine x_iald hx hb hE hP (nm19 hN) (aM_19 _) hv dX9_cross_189 ?_
                          refine lv_aload_n hx hb dX9_cross_190 rfl (lv_at hl 0 rfl) ?_
                          refine x_get hx hb hts hown hE hP fl_X9_193 (nm0 hN) gM_0_23 dX9_cross_191 ?_
                          obtain ⟨v32, hq33, hf⟩ := bs1 hf
                          have hJ33 : ∀ (H : Heap) (locs : List Loc) (ls : Array Slot), Ho κ (wM κ) N ad w30 H → va_S (Aof ad N) s.heap H locs → lv_has ls 9 [(0, .ref (ad 0)), (1, .int x1), (2, .int x2), (3, .int v7), (4, .int v11), (5, .int v12), (6, .int v13), (7, .int v15)] → W p l e R s m args below meth c H locs 0 0 Q (F0 m 204 ls [.int v32, .int v15, .ref (ad 20)]) := by
                            intro H locs ls hP hS hl
                            obtain ⟨w34, hv, hf⟩ := bs1 hf
                            refine x_iast hx hb hE hD hA hP hS (nm20 hN) aM_20 hv dX9_cross_204 (fun H locs hP hS => ?_)
                            cases hf
                            exact hJ23 _ _ _ hP hS (lv_sub hl [0, 1, 2, 3, 4, 5, 6, 7] rfl)
                          clear hf
                          have hf := hq33
                          clear hq33
                          refine lv_icmp_lt (tgt := 201) hx hb dX9_cross_194 (by decide) (fun hc => ?_) (fun hc => ?_)
                          · have hf := ip hc hf
                            refine lv_sipush (v := 999) hx hb dX9_cross_201 ns_999 ?_
                            cases hf
                            exact hJ33 _ _ _ hP hS (lv_sub hl [0, 1, 2, 3, 4, 5, 6, 7] rfl)
                          · have hf := iq hc hf
                            refine lv_iload_n hx hb dX9_cross_197 rfl (lv_at hl 3 rfl) ?_
                            refine lv_goto (tgt := 204) hx hb dX9_cross_198 (by decide) ?_
                            cases hf
                            exact hJ33 _ _ _ hP hS (lv_sub hl [0, 1, 2, 3, 4, 5, 6, 7] rfl)
                        clear hf
                        have hf := hq27
                        clear hq27
                        refine lv_icmp_ne (tgt := 165) hx hb dX9_cross_147 (by decide) (fun hc => ?_) (fun hc => ?_)
                        · have hf := iq hc hf
                          refine lv_aload_n hx hb dX9_cross_165 rfl (lv_at hl 1 rfl) ?_
                          refine lv_iload_n hx hb dX9_cross_166 rfl (lv_at hl 2 rfl) ?_
                          refine lv_iload hx hb dX9_cross_167 (lv_at hl 0 rfl) ?_
                          refine lv_iload_n hx hb dX9_cross_169 rfl (lv_at hl 4 rfl) ?_
                          refine lv_iload hx hb dX9_cross_170 (lv_at hl 5 rfl) ?_
                          obtain ⟨v28, hv, hf⟩ := bs1 hf
                          refine x_cVi (As := [.int x1, .int v20, .int v7, .int v11]) (rest := [.int v25, .int v15, .ref (ad 19)]) hx hb hml hts hown hE hP hS hAA (kX9_raftStroke hN hD hv) cl_X9_189 (nm0 hN) oM_0 vc_9 (Nat.le_trans (by decide) hRf) (Nat.le_trans (by decide) hRl) (Nat.zero_le _) (Nat.zero_le _) rfl hl.1 rfl (Nat.le_of_ble_eq_true rfl) dX9_cross_172 (fun H locs hP hS => ?_)
                          cases hf
                          exact hJ27 _ _ _ hP hS (lv_sub hl [1, 2, 3, 4, 5, 6, 7, 8] rfl)
                        · have hf := ip hc hf
                          refine lv_aload_n hx hb dX9_cross_150 rfl (lv_at hl 1 rfl) ?_
                          refine lv_iload_n hx hb dX9_cross_151 rfl (lv_at hl 2 rfl) ?_
                          refine lv_iload hx hb dX9_cross_152 (lv_at hl 8 rfl) ?_
                          refine lv_iload_n hx hb dX9_cross_154 rfl (lv_at hl 4 rfl) ?_
                          refine lv_iload hx hb dX9_cross_155 (lv_at hl 5 rfl) ?_
                          refine lv_iload hx hb dX9_cross_157 (lv_at hl 6 rfl) ?_
                          obtain ⟨v29, hv, hf⟩ := bs1 hf
                          refine x_cVi (As := [.int x1, .int v15, .int v7, .int v11, .int v12]) (rest := [.int v25, .int v15, .ref (ad 19)]) hx hb hml hts hown hE hP hS hAA (kX9_strokeOf hN hD hv) cl_X9_185 (nm0 hN) oM_0 vc_9 (Nat.le_trans (by decide) hRf) (Nat.le_trans (by decide) hRl) (Nat.zero_le _) (Nat.zero_le _) rfl hl.1 rfl (Nat.le_of_ble_eq_true rfl) dX9_cross_159 (fun H locs hP hS => ?_)
                          refine lv_goto (tgt := 175) hx hb dX9_cross_162 (by decide) ?_
                          cases hf
                          exact hJ27 _ _ _ hP hS (lv_sub hl [1, 2, 3, 4, 5, 6, 7, 8] rfl)
            exact hL17 _ _ _ _ _ _ hf hP hS (lv_sub hl [2, 3, 4, 5, 6, 7, 1, 0] rfl)
          clear hf
          have hf := hq14
          clear hq14
          refine lv_icmp_gt (tgt := 75) hx hb dX9_cross_54 (by decide) (fun hc => ?_) (fun hc => ?_)
          · have hf := ip hc hf
            refine lv_iconst (v := 0) hx hb dX9_cross_75 nc_0 ?_
            cases hf
            exact hJ14 _ _ _ hP hS (lv_sub hl [2, 3, 4, 5, 1, 0] rfl)
          · have hf := iq hc hf
            refine lv_aload_n hx hb dX9_cross_57 rfl (lv_at hl 2 rfl) ?_
            refine x_get hx hb hts hown hE hP fl_X9_182 (nm0 hN) gM_0_24 dX9_cross_58 ?_
            refine lv_iload_n hx hb dX9_cross_61 rfl (lv_at hl 5 rfl) ?_
            refine lv_iconst (v := 1) hx hb dX9_cross_62 nc_1 ?_
            refine lv_isub hx hb dX9_cross_63 ?_
            refine lv_ishr hx hb dX9_cross_64 ?_
            refine lv_iconst (v := 1) hx hb dX9_cross_65 nc_1 ?_
            refine lv_iand hx hb dX9_cross_66 ?_
            refine lv_iconst (v := 1) hx hb dX9_cross_67 nc_1 ?_
            refine lv_icmp_ne (tgt := 75) hx hb dX9_cross_68 (by decide) (fun hc => ?_) (fun hc => ?_)
            · have hf := iq hc hf
              refine lv_iconst (v := 0) hx hb dX9_cross_75 nc_0 ?_
              cases hf
              exact hJ14 _ _ _ hP hS (lv_sub hl [2, 3, 4, 5, 1, 0] rfl)
            · have hf := ip hc hf
              refine lv_iconst (v := 1) hx hb dX9_cross_71 nc_1 ?_
              refine lv_goto (tgt := 76) hx hb dX9_cross_72 (by decide) ?_
              cases hf
              exact hJ14 _ _ _ hP hS (lv_sub hl [2, 3, 4, 5, 1, 0] rfl)
    exact hL9 _ _ _ _ _ _ hf hP hS (lv_sub hl [1, 2, 3, 0] rfl)
  clear hf
  have hf := hq3
  clear hq3
  have hL3 : ∀ (fu : Nat) (v1 : Int32) (w2 : Mm) (H : Heap) (locs : List Loc) (ls : Array Slot), LX9_cross_2 fu v1 w2 = some (w4) → Ho κ (wM κ) N ad w2 H → va_S (Aof ad N) s.heap H locs → lv_has ls 9 [(0, .ref (ad 0)), (1, .int x1), (2, .int x2), (3, .int v1)] → W p l e R s m args below meth c H locs 0 0 Q (F0 m 2 ls []) := by
    intro fu
    induction fu with
    | zero =>
      intro v1 w2 H locs ls hf
      rw [LX9_cross_2] at hf
      cases hf
    | succ fu ih =>
      intro v1 w2 H locs ls hf hP hS hl
      rw [LX9_cross_2] at hf
      refine lv_iload_n hx hb dX9_cross_2 rfl (lv_at hl 3 rfl) ?_
      refine lv_bipush (v := 8) hx hb dX9_cross_3 nb_8 ?_
      refine lv_icmp_ge (tgt := 30) hx hb dX9_cross_5 (by decide) (fun hc => ?_) (fun hc => ?_)
      · have hf := ip hc hf
        cases hf
        exact hJ3 _ _ _ hP hS (lv_sub hl [0, 1, 2] rfl)
      · have hf := iq hc hf
        refine lv_aload_n hx hb dX9_cross_8 rfl (lv_at hl 0 rfl) ?_
        refine x_get hx hb hts hown hE hP fl_X9_65 (nm0 hN) gM_0_26 dX9_cross_9 ?_
        refine lv_iload_n hx hb dX9_cross_12 rfl (lv_at hl 3 rfl) ?_
        refine lv_iconst (v := 0) hx hb dX9_cross_13 nc_0 ?_
        obtain ⟨w5, hv, hf⟩ := bs1 hf
        refine x_iast hx hb hE hD hA hP hS (nm19 hN) aM_19 hv dX9_cross_14 (fun H locs hP hS => ?_)
        refine lv_aload_n hx hb dX9_cross_15 rfl (lv_at hl 0 rfl) ?_
        refine x_get hx hb hts hown hE hP fl_X9_68 (nm0 hN) gM_0_27 dX9_cross_16 ?_
        refine lv_iload_n hx hb dX9_cross_19 rfl (lv_at hl 3 rfl) ?_
        refine lv_sipush (v := 999) hx hb dX9_cross_20 ns_999 ?_
        obtain ⟨w6, hv, hf⟩ := bs1 hf
        refine x_iast hx hb hE hD hA hP hS (nm20 hN) aM_20 hv dX9_cross_23 (fun H locs hP hS => ?_)
        refine lv_iinc (v := (v1 + 1)) (lv' := [(3, .int (v1 + 1)), (0, .ref (ad 0)), (1, .int x1), (2, .int x2)]) hx hb dX9_cross_24 hl (k := 3) rfl (ni_1 _) (by decide) rfl (fun ls hl => ?_)
        refine lv_goto (tgt := 2) hx hb dX9_cross_27 (by decide) ?_
        exact ih _ _ _ _ _ hf hP hS (lv_sub hl [1, 2, 3, 0] rfl)
  exact hL3 _ _ _ _ _ _ hf hP hS (lv_sub hl [1, 2, 3, 0] rfl)
def fX9_where (w : Mm) (x1 x2 : Int32) : Option (Int32 × Mm) :=
  bd1 (fX9_isBeast w x1) fun v1 =>
  if v1 = 0 then
    some ((-1), w)
  else
    bd1 (fX9_in x2 0 200) fun v2 =>
    if v2 = 0 then
      some ((-1), w)
    else
      bd1 (fX9_plain w) fun w3 =>
      bd1 (fX9_cross w3 0 x2) fun w4 =>
      bd1 (rd w4 19 8 x1) fun v5 =>
      bd1 (rd w4 7 2 0) fun v6 =>
      if v5 ≤ v6 then
        bd1 (rd w4 19 8 x1) fun v7 =>
        some (v7, w4)
      else
        bd1 (rd w4 7 2 0) fun v8 =>
        some (v8, w4)
set_option maxHeartbeats 4000000 in
set_option maxRecDepth 100000 in
theorem kX9_where {l : Launch} {κ : Kp} {N : Nat} {ad : Nat → Nat} {w : Mm} {x1 x2 : Int32} {r : Int32} {w' : Mm} (hN : 26 ≤ N) (hD : Apt ad N) (hf : fX9_where w x1 x2 = some (r, w')) : Met l yX9_where (Cond.code yX9_where cX9_where 3 (some .int) :: TB) (rmX 3 75) (PcX κ (wM κ) N ad w [.ref (ad 0), .int x1, .int x2]) (QI κ (wM κ) N ad w' r) 0 0 (Aof ad N) := by
  refine mkI (by decide +kernel) (Nat.le_of_ble_eq_true rfl) (fun p e R s m args below meth c Q H locs ls hC hRf hRl hP hS hret hl => ?_)
  obtain ⟨hx, hb, hml, hown, hts, hE⟩ := hC
  have hA : ∀ k, k < N → Aof ad N (ad k) := fun k h => Aof_in h
  have hAA : ∀ z, Aof ad N z → Aof ad N z := fun _ h => h
  have hl : lv_has ls 3 [(0, .ref (ad 0)), (1, .int x1), (2, .int x2)] := hl
  unfold fX9_where at hf
  refine lv_aload_n hx hb dX9_where_0 rfl (lv_at hl 0 rfl) ?_
  refine lv_iload_n hx hb dX9_where_1 rfl (lv_at hl 1 rfl) ?_
  obtain ⟨v1, hv, hf⟩ := bs1 hf
  refine x_cVi (As := [.int x1]) (rest := []) hx hb hml hts hown hE hP hS hAA (kX9_isBeast hN hD hv) cl_X9_152 (nm0 hN) oM_0 vc_9 (Nat.le_trans (by decide) hRf) (Nat.le_trans (by decide) hRl) (Nat.zero_le _) (Nat.zero_le _) rfl hl.1 rfl (Nat.le_of_ble_eq_true rfl) dX9_where_2 (fun H locs hP hS => ?_)
  refine lv_if_eq (tgt := 19) hx hb dX9_where_5 (by decide) (fun hc => ?_) (fun hc => ?_)
  · have hf := ip hc hf
    refine lv_iconst (v := (-1)) hx hb dX9_where_19 nc_m1 ?_
    cases hf
    exact hret _ _ _ _ dX9_where_20 hP hS
  · have hf := iq hc hf
    refine lv_iload_n hx hb dX9_where_8 rfl (lv_at hl 2 rfl) ?_
    refine lv_iconst (v := 0) hx hb dX9_where_9 nc_0 ?_
    refine lv_sipush (v := 200) hx hb dX9_where_10 ns_200 ?_
    obtain ⟨v2, hv, hf⟩ := bs1 hf
    refine x_cSi (As := [.int x2, .int 0, .int 200]) (rest := []) hx hb hml hts hown hE hP hS hAA (kX9_in hv) cl_X9_93 (Nat.le_trans (by decide) hRf) (Nat.le_trans (by decide) hRl) (Nat.zero_le _) (Nat.zero_le _) rfl hl.1 rfl (Nat.le_of_ble_eq_true rfl) dX9_where_13 (fun H locs hP hS => ?_)
    refine lv_if_ne (tgt := 21) hx hb dX9_where_16 (by decide) (fun hc => ?_) (fun hc => ?_)
    · have hf := iq hc hf
      refine lv_aload_n hx hb dX9_where_21 rfl (lv_at hl 0 rfl) ?_
      obtain ⟨w3, hv, hf⟩ := bs1 hf
      refine x_cVv (As := []) (rest := []) hx hb hml hts hown hE hP hS hAA (kX9_plain hN hD hv) cl_X9_196 (nm0 hN) oM_0 vc_9 (Nat.le_trans (by decide) hRf) (Nat.le_trans (by decide) hRl) (Nat.zero_le _) (Nat.zero_le _) rfl hl.1 rfl (Nat.le_of_ble_eq_true rfl) dX9_where_22 (fun H locs hP hS => ?_)
      refine lv_aload_n hx hb dX9_where_25 rfl (lv_at hl 0 rfl) ?_
      refine lv_iconst (v := 0) hx hb dX9_where_26 nc_0 ?_
      refine lv_iload_n hx hb dX9_where_27 rfl (lv_at hl 2 rfl) ?_
      obtain ⟨w4, hv, hf⟩ := bs1 hf
      refine x_cVv (As := [.int 0, .int x2]) (rest := []) hx hb hml hts hown hE hP hS hAA (kX9_cross hN hD hv) cl_X9_199 (nm0 hN) oM_0 vc_9 (Nat.le_trans (by decide) hRf) (Nat.le_trans (by decide) hRl) (Nat.zero_le _) (Nat.zero_le _) rfl hl.1 rfl (Nat.le_of_ble_eq_true rfl) dX9_where_28 (fun H locs hP hS => ?_)
      refine lv_aload_n hx hb dX9_where_31 rfl (lv_at hl 0 rfl) ?_
      refine x_get hx hb hts hown hE hP fl_X9_65 (nm0 hN) gM_0_26 dX9_where_32 ?_
      refine lv_iload_n hx hb dX9_where_35 rfl (lv_at hl 1 rfl) ?_
      obtain ⟨v5, hv, hf⟩ := bs1 hf
      refine x_iald hx hb hE hP (nm19 hN) (aM_19 _) hv dX9_where_36 ?_
      refine lv_aload_n hx hb dX9_where_37 rfl (lv_at hl 0 rfl) ?_
      refine x_get hx hb hts hown hE hP fl_X9_29 (nm0 hN) gM_0_7 dX9_where_38 ?_
      refine lv_iconst (v := 0) hx hb dX9_where_41 nc_0 ?_
      obtain ⟨v6, hv, hf⟩ := bs1 hf
      refine x_iald hx hb hE hP (nm7 hN) (aM_7 _) hv dX9_where_42 ?_
      refine lv_icmp_le (tgt := 55) hx hb dX9_where_43 (by decide) (fun hc => ?_) (fun hc => ?_)
      · have hf := ip hc hf
        refine lv_aload_n hx hb dX9_where_55 rfl (lv_at hl 0 rfl) ?_
        refine x_get hx hb hts hown hE hP fl_X9_65 (nm0 hN) gM_0_26 dX9_where_56 ?_
        refine lv_iload_n hx hb dX9_where_59 rfl (lv_at hl 1 rfl) ?_
        obtain ⟨v7, hv, hf⟩ := bs1 hf
        refine x_iald hx hb hE hP (nm19 hN) (aM_19 _) hv dX9_where_60 ?_
        cases hf
        exact hret _ _ _ _ dX9_where_61 hP hS
      · have hf := iq hc hf
        refine lv_aload_n hx hb dX9_where_46 rfl (lv_at hl 0 rfl) ?_
        refine x_get hx hb hts hown hE hP fl_X9_29 (nm0 hN) gM_0_7 dX9_where_47 ?_
        refine lv_iconst (v := 0) hx hb dX9_where_50 nc_0 ?_
        obtain ⟨v8, hv, hf⟩ := bs1 hf
        refine x_iald hx hb hE hP (nm7 hN) (aM_7 _) hv dX9_where_51 ?_
        refine lv_goto (tgt := 61) hx hb dX9_where_52 (by decide) ?_
        cases hf
        exact hret _ _ _ _ dX9_where_61 hP hS
    · have hf := ip hc hf
      refine lv_iconst (v := (-1)) hx hb dX9_where_19 nc_m1 ?_
      cases hf
      exact hret _ _ _ _ dX9_where_20 hP hS
def fX9_crossNow (w : Mm) : Option (Mm) :=
  bd1 (fX9_plain w) fun w1 =>
  bd1 (fX9_cross w1 0 200) fun w2 =>
  some w2
set_option maxHeartbeats 4000000 in
set_option maxRecDepth 100000 in
theorem kX9_crossNow {l : Launch} {κ : Kp} {N : Nat} {ad : Nat → Nat} {w : Mm} {w' : Mm} (hN : 26 ≤ N) (hD : Apt ad N) (hf : fX9_crossNow w = some w') : Met l yX9_crossNow (Cond.code yX9_crossNow cX9_crossNow 1 none :: TB) (rmX 3 75) (PcX κ (wM κ) N ad w [.ref (ad 0)]) (QV κ (wM κ) N ad w') 0 0 (Aof ad N) := by
  refine mkV (by decide +kernel) (Nat.le_of_ble_eq_true rfl) (fun p e R s m args below meth c Q H locs ls hC hRf hRl hP hS hret hl => ?_)
  obtain ⟨hx, hb, hml, hown, hts, hE⟩ := hC
  have hA : ∀ k, k < N → Aof ad N (ad k) := fun k h => Aof_in h
  have hAA : ∀ z, Aof ad N z → Aof ad N z := fun _ h => h
  have hl : lv_has ls 1 [(0, .ref (ad 0))] := hl
  unfold fX9_crossNow at hf
  refine lv_aload_n hx hb dX9_crossNow_0 rfl (lv_at hl 0 rfl) ?_
  obtain ⟨w1, hv, hf⟩ := bs1 hf
  refine x_cVv (As := []) (rest := []) hx hb hml hts hown hE hP hS hAA (kX9_plain hN hD hv) cl_X9_196 (nm0 hN) oM_0 vc_9 (Nat.le_trans (by decide) hRf) (Nat.le_trans (by decide) hRl) (Nat.zero_le _) (Nat.zero_le _) rfl hl.1 rfl (Nat.le_of_ble_eq_true rfl) dX9_crossNow_1 (fun H locs hP hS => ?_)
  refine lv_aload_n hx hb dX9_crossNow_4 rfl (lv_at hl 0 rfl) ?_
  refine lv_iconst (v := 0) hx hb dX9_crossNow_5 nc_0 ?_
  refine lv_sipush (v := 200) hx hb dX9_crossNow_6 ns_200 ?_
  obtain ⟨w2, hv, hf⟩ := bs1 hf
  refine x_cVv (As := [.int 0, .int 200]) (rest := []) hx hb hml hts hown hE hP hS hAA (kX9_cross hN hD hv) cl_X9_199 (nm0 hN) oM_0 vc_9 (Nat.le_trans (by decide) hRf) (Nat.le_trans (by decide) hRl) (Nat.zero_le _) (Nat.zero_le _) rfl hl.1 rfl (Nat.le_of_ble_eq_true rfl) dX9_crossNow_9 (fun H locs hP hS => ?_)
  cases hf
  exact hret _ _ _ _ dX9_crossNow_12 hP hS
def fX9_lands (w : Mm) (x1 : Int32) : Option (Int32 × Mm) :=
  bd1 (fX9_isBeast w x1) fun v1 =>
  if v1 = 0 then
    some ((-1), w)
  else
    bd1 (fX9_crossNow w) fun w2 =>
    bd1 (rd w2 20 8 x1) fun v3 =>
    if v3 = 999 then
      some ((-4), w2)
    else
      bd1 (rd w2 20 8 x1) fun v4 =>
      some (v4, w2)
set_option maxHeartbeats 4000000 in
set_option maxRecDepth 100000 in
theorem kX9_lands {l : Launch} {κ : Kp} {N : Nat} {ad : Nat → Nat} {w : Mm} {x1 : Int32} {r : Int32} {w' : Mm} (hN : 26 ≤ N) (hD : Apt ad N) (hf : fX9_lands w x1 = some (r, w')) : Met l yX9_lands (Cond.code yX9_lands cX9_lands 2 (some .int) :: TB) (rmX 4 95) (PcX κ (wM κ) N ad w [.ref (ad 0), .int x1]) (QI κ (wM κ) N ad w' r) 0 0 (Aof ad N) := by
  refine mkI (by decide +kernel) (Nat.le_of_ble_eq_true rfl) (fun p e R s m args below meth c Q H locs ls hC hRf hRl hP hS hret hl => ?_)
  obtain ⟨hx, hb, hml, hown, hts, hE⟩ := hC
  have hA : ∀ k, k < N → Aof ad N (ad k) := fun k h => Aof_in h
  have hAA : ∀ z, Aof ad N z → Aof ad N z := fun _ h => h
  have hl : lv_has ls 2 [(0, .ref (ad 0)), (1, .int x1)] := hl
  unfold fX9_lands at hf
  refine lv_aload_n hx hb dX9_lands_0 rfl (lv_at hl 0 rfl) ?_
  refine lv_iload_n hx hb dX9_lands_1 rfl (lv_at hl 1 rfl) ?_
  obtain ⟨v1, hv, hf⟩ := bs1 hf
  refine x_cVi (As := [.int x1]) (rest := []) hx hb hml hts hown hE hP hS hAA (kX9_isBeast hN hD hv) cl_X9_152 (nm0 hN) oM_0 vc_9 (Nat.le_trans (by decide) hRf) (Nat.le_trans (by decide) hRl) (Nat.zero_le _) (Nat.zero_le _) rfl hl.1 rfl (Nat.le_of_ble_eq_true rfl) dX9_lands_2 (fun H locs hP hS => ?_)
  refine lv_if_ne (tgt := 10) hx hb dX9_lands_5 (by decide) (fun hc => ?_) (fun hc => ?_)
  · have hf := iq hc hf
    refine lv_aload_n hx hb dX9_lands_10 rfl (lv_at hl 0 rfl) ?_
    obtain ⟨w2, hv, hf⟩ := bs1 hf
    refine x_cVv (As := []) (rest := []) hx hb hml hts hown hE hP hS hAA (kX9_crossNow hN hD hv) cl_X9_203 (nm0 hN) oM_0 vc_9 (Nat.le_trans (by decide) hRf) (Nat.le_trans (by decide) hRl) (Nat.zero_le _) (Nat.zero_le _) rfl hl.1 rfl (Nat.le_of_ble_eq_true rfl) dX9_lands_11 (fun H locs hP hS => ?_)
    refine lv_aload_n hx hb dX9_lands_14 rfl (lv_at hl 0 rfl) ?_
    refine x_get hx hb hts hown hE hP fl_X9_68 (nm0 hN) gM_0_27 dX9_lands_15 ?_
    refine lv_iload_n hx hb dX9_lands_18 rfl (lv_at hl 1 rfl) ?_
    obtain ⟨v3, hv, hf⟩ := bs1 hf
    refine x_iald hx hb hE hP (nm20 hN) (aM_20 _) hv dX9_lands_19 ?_
    refine lv_sipush (v := 999) hx hb dX9_lands_20 ns_999 ?_
    refine lv_icmp_ne (tgt := 31) hx hb dX9_lands_23 (by decide) (fun hc => ?_) (fun hc => ?_)
    · have hf := iq hc hf
      refine lv_aload_n hx hb dX9_lands_31 rfl (lv_at hl 0 rfl) ?_
      refine x_get hx hb hts hown hE hP fl_X9_68 (nm0 hN) gM_0_27 dX9_lands_32 ?_
      refine lv_iload_n hx hb dX9_lands_35 rfl (lv_at hl 1 rfl) ?_
      obtain ⟨v4, hv, hf⟩ := bs1 hf
      refine x_iald hx hb hE hP (nm20 hN) (aM_20 _) hv dX9_lands_36 ?_
      cases hf
      exact hret _ _ _ _ dX9_lands_37 hP hS
    · have hf := ip hc hf
      refine lv_bipush (v := (-4)) hx hb dX9_lands_26 nb_m4 ?_
      refine lv_goto (tgt := 37) hx hb dX9_lands_28 (by decide) ?_
      cases hf
      exact hret _ _ _ _ dX9_lands_37 hP hS
  · have hf := ip hc hf
    refine lv_iconst (v := (-1)) hx hb dX9_lands_8 nc_m1 ?_
    cases hf
    exact hret _ _ _ _ dX9_lands_9 hP hS
def fX9_rankedWith (w : Mm) (x1 x2 : Int32) : Option (Int32) :=
  bd1 (rd w 20 8 x2) fun v1 =>
  if v1 = 999 then
    some (-4)
  else
    bd1 (rd w 18 192 ((x1 + 8) + x2)) fun v2 =>
    some v2
set_option maxHeartbeats 4000000 in
set_option maxRecDepth 100000 in
theorem kX9_rankedWith {l : Launch} {κ : Kp} {N : Nat} {ad : Nat → Nat} {w : Mm} {x1 x2 : Int32} {r : Int32} (hN : 26 ≤ N) (hD : Apt ad N) (hf : fX9_rankedWith w x1 x2 = some r) : Met l yX9_rankedWith (Cond.code yX9_rankedWith cX9_rankedWith 3 (some .int) :: TB) (rmX 0 0) (PcX κ (wM κ) N ad w [.ref (ad 0), .int x1, .int x2]) (QI κ (wM κ) N ad w r) 0 0 (Aof ad N) := by
  refine mkI (by decide +kernel) (Nat.le_of_ble_eq_true rfl) (fun p e R s m args below meth c Q H locs ls hC hRf hRl hP hS hret hl => ?_)
  obtain ⟨hx, hb, hml, hown, hts, hE⟩ := hC
  have hA : ∀ k, k < N → Aof ad N (ad k) := fun k h => Aof_in h
  have hAA : ∀ z, Aof ad N z → Aof ad N z := fun _ h => h
  have hl : lv_has ls 3 [(0, .ref (ad 0)), (1, .int x1), (2, .int x2)] := hl
  unfold fX9_rankedWith at hf
  refine lv_aload_n hx hb dX9_rankedWith_0 rfl (lv_at hl 0 rfl) ?_
  refine x_get hx hb hts hown hE hP fl_X9_68 (nm0 hN) gM_0_27 dX9_rankedWith_1 ?_
  refine lv_iload_n hx hb dX9_rankedWith_4 rfl (lv_at hl 2 rfl) ?_
  obtain ⟨v1, hv, hf⟩ := bs1 hf
  refine x_iald hx hb hE hP (nm20 hN) (aM_20 _) hv dX9_rankedWith_5 ?_
  refine lv_sipush (v := 999) hx hb dX9_rankedWith_6 ns_999 ?_
  refine lv_icmp_ne (tgt := 17) hx hb dX9_rankedWith_9 (by decide) (fun hc => ?_) (fun hc => ?_)
  · have hf := iq hc hf
    refine lv_aload_n hx hb dX9_rankedWith_17 rfl (lv_at hl 0 rfl) ?_
    refine x_get hx hb hts hown hE hP fl_X9_62 (nm0 hN) gM_0_20 dX9_rankedWith_18 ?_
    refine lv_iload_n hx hb dX9_rankedWith_21 rfl (lv_at hl 1 rfl) ?_
    refine lv_bipush (v := 8) hx hb dX9_rankedWith_22 nb_8 ?_
    refine lv_iadd hx hb dX9_rankedWith_24 ?_
    refine lv_iload_n hx hb dX9_rankedWith_25 rfl (lv_at hl 2 rfl) ?_
    refine lv_iadd hx hb dX9_rankedWith_26 ?_
    obtain ⟨v2, hv, hf⟩ := bs1 hf
    refine x_iald hx hb hE hP (nm18 hN) (aM_18 _) hv dX9_rankedWith_27 ?_
    cases hf
    exact hret _ _ _ _ dX9_rankedWith_28 hP hS
  · have hf := ip hc hf
    refine lv_bipush (v := (-4)) hx hb dX9_rankedWith_12 nb_m4 ?_
    refine lv_goto (tgt := 28) hx hb dX9_rankedWith_14 (by decide) ?_
    cases hf
    exact hret _ _ _ _ dX9_rankedWith_28 hP hS
def fX9_isAhead (w : Mm) (x1 x2 x3 : Int32) : Option (Int32) :=
  bd1 (fX9_rankedWith w x1 x2) fun v1 =>
  bd1 (fX9_rankedWith w x1 x3) fun v2 =>
  bd1 (
    if v1 = (-4) then
      some (x2)
    else
      some (v1)) fun (v3 : Int32) =>
  bd1 (
    if v2 = (-4) then
      some (x3)
    else
      some (v2)) fun (v5 : Int32) =>
  if v3 = v5 then
    if v1 = (-4) then
      some 0
    else
      if v2 = (-4) then
        some 1
      else
        bd1 (fX9_ahead w x2) fun v13 =>
        bd1 (fX9_ahead w x3) fun v14 =>
        if v14 ≤ v13 then
          some 0
        else
          some 1
  else
    bd1 (rd w 20 8 v3) fun v7 =>
    bd1 (rd w 20 8 v5) fun v8 =>
    if v7 = v8 then
      bd1 (fX9_ahead w v3) fun v9 =>
      bd1 (fX9_ahead w v5) fun v10 =>
      if v10 ≤ v9 then
        some 0
      else
        some 1
    else
      bd1 (rd w 20 8 v3) fun v11 =>
      bd1 (rd w 20 8 v5) fun v12 =>
      if v12 ≤ v11 then
        some 0
      else
        some 1
set_option maxHeartbeats 4000000 in
set_option maxRecDepth 100000 in
theorem kX9_isAhead {l : Launch} {κ : Kp} {N : Nat} {ad : Nat → Nat} {w : Mm} {x1 x2 x3 : Int32} {r : Int32} (hN : 26 ≤ N) (hD : Apt ad N) (hf : fX9_isAhead w x1 x2 x3 = some r) : Met l yX9_isAhead (Cond.code yX9_isAhead cX9_isAhead 8 (some .boolean) :: TB) (rmX 1 24) (PcX κ (wM κ) N ad w [.ref (ad 0), .int x1, .int x2, .int x3]) (QI κ (wM κ) N ad w r) 0 0 (Aof ad N) := by
  refine mkZ (by decide +kernel) (Nat.le_of_ble_eq_true rfl) (fun p e R s m args below meth c Q H locs ls hC hRf hRl hP hS hret hl => ?_)
  obtain ⟨hx, hb, hml, hown, hts, hE⟩ := hC
  have hA : ∀ k, k < N → Aof ad N (ad k) := fun k h => Aof_in h
  have hAA : ∀ z, Aof ad N z → Aof ad N z := fun _ h => h
  have hl : lv_has ls 8 [(0, .ref (ad 0)), (1, .int x1), (2, .int x2), (3, .int x3)] := hl
  unfold fX9_isAhead at hf
  refine lv_aload_n hx hb dX9_isAhead_0 rfl (lv_at hl 0 rfl) ?_
  refine lv_iload_n hx hb dX9_isAhead_1 rfl (lv_at hl 1 rfl) ?_
  refine lv_iload_n hx hb dX9_isAhead_2 rfl (lv_at hl 2 rfl) ?_
  obtain ⟨v1, hv, hf⟩ := bs1 hf
  refine x_cVi (As := [.int x1, .int x2]) (rest := []) hx hb hml hts hown hE hP hS hAA (kX9_rankedWith hN hD hv) cl_X9_206 (nm0 hN) oM_0 vc_9 (Nat.le_trans (by decide) hRf) (Nat.le_trans (by decide) hRl) (Nat.zero_le _) (Nat.zero_le _) rfl hl.1 rfl (Nat.le_of_ble_eq_true rfl) dX9_isAhead_3 (fun H locs hP hS => ?_)
  refine lv_istore (lv' := [(4, .int v1), (0, .ref (ad 0)), (1, .int x1), (2, .int x2), (3, .int x3)]) hx hb dX9_isAhead_6 hl (by decide) rfl (fun ls hl => ?_)
  refine lv_aload_n hx hb dX9_isAhead_8 rfl (lv_at hl 1 rfl) ?_
  refine lv_iload_n hx hb dX9_isAhead_9 rfl (lv_at hl 2 rfl) ?_
  refine lv_iload_n hx hb dX9_isAhead_10 rfl (lv_at hl 4 rfl) ?_
  obtain ⟨v2, hv, hf⟩ := bs1 hf
  refine x_cVi (As := [.int x1, .int x3]) (rest := []) hx hb hml hts hown hE hP hS hAA (kX9_rankedWith hN hD hv) cl_X9_206 (nm0 hN) oM_0 vc_9 (Nat.le_trans (by decide) hRf) (Nat.le_trans (by decide) hRl) (Nat.zero_le _) (Nat.zero_le _) rfl hl.1 rfl (Nat.le_of_ble_eq_true rfl) dX9_isAhead_11 (fun H locs hP hS => ?_)
  refine lv_istore (lv' := [(5, .int v2), (4, .int v1), (0, .ref (ad 0)), (1, .int x1), (2, .int x2), (3, .int x3)]) hx hb dX9_isAhead_14 hl (by decide) rfl (fun ls hl => ?_)
  refine lv_iload hx hb dX9_isAhead_16 (lv_at hl 1 rfl) ?_
  refine lv_bipush (v := (-4)) hx hb dX9_isAhead_18 nb_m4 ?_
  obtain ⟨v3, hq4, hf⟩ := bs1 hf
  have hJ4 : ∀ (H : Heap) (locs : List Loc) (ls : Array Slot), Ho κ (wM κ) N ad w H → va_S (Aof ad N) s.heap H locs → lv_has ls 8 [(0, .ref (ad 0)), (2, .int x2), (3, .int x3), (4, .int v1), (5, .int v2)] → W p l e R s m args below meth c H locs 0 0 Q (F0 m 29 ls [.int v3]) := by
    intro H locs ls hP hS hl
    refine lv_istore (lv' := [(6, .int v3), (0, .ref (ad 0)), (2, .int x2), (3, .int x3), (4, .int v1), (5, .int v2)]) hx hb dX9_isAhead_29 hl (by decide) rfl (fun ls hl => ?_)
    refine lv_iload hx hb dX9_isAhead_31 (lv_at hl 5 rfl) ?_
    refine lv_bipush (v := (-4)) hx hb dX9_isAhead_33 nb_m4 ?_
    obtain ⟨v5, hq6, hf⟩ := bs1 hf
    have hJ6 : ∀ (H : Heap) (locs : List Loc) (ls : Array Slot), Ho κ (wM κ) N ad w H → va_S (Aof ad N) s.heap H locs → lv_has ls 8 [(0, .ref (ad 0)), (2, .int x2), (3, .int x3), (4, .int v1), (5, .int v2), (6, .int v3)] → W p l e R s m args below meth c H locs 0 0 Q (F0 m 44 ls [.int v5]) := by
      intro H locs ls hP hS hl
      refine lv_istore (lv' := [(7, .int v5), (0, .ref (ad 0)), (2, .int x2), (3, .int x3), (4, .int v1), (5, .int v2), (6, .int v3)]) hx hb dX9_isAhead_44 hl (by decide) rfl (fun ls hl => ?_)
      refine lv_iload hx hb dX9_isAhead_46 (lv_at hl 6 rfl) ?_
      refine lv_iload hx hb dX9_isAhead_48 (lv_at hl 0 rfl) ?_
      refine lv_icmp_ne (tgt := 86) hx hb dX9_isAhead_50 (by decide) (fun hc => ?_) (fun hc => ?_)
      · have hf := iq hc hf
        refine lv_aload_n hx hb dX9_isAhead_86 rfl (lv_at hl 1 rfl) ?_
        refine x_get hx hb hts hown hE hP fl_X9_68 (nm0 hN) gM_0_27 dX9_isAhead_87 ?_
        refine lv_iload hx hb dX9_isAhead_90 (lv_at hl 6 rfl) ?_
        obtain ⟨v7, hv, hf⟩ := bs1 hf
        refine x_iald hx hb hE hP (nm20 hN) (aM_20 _) hv dX9_isAhead_92 ?_
        refine lv_aload_n hx hb dX9_isAhead_93 rfl (lv_at hl 1 rfl) ?_
        refine x_get hx hb hts hown hE hP fl_X9_68 (nm0 hN) gM_0_27 dX9_isAhead_94 ?_
        refine lv_iload hx hb dX9_isAhead_97 (lv_at hl 0 rfl) ?_
        obtain ⟨v8, hv, hf⟩ := bs1 hf
        refine x_iald hx hb hE hP (nm20 hN) (aM_20 _) hv dX9_isAhead_99 ?_
        refine lv_icmp_eq (tgt := 128) hx hb dX9_isAhead_100 (by decide) (fun hc => ?_) (fun hc => ?_)
        · have hf := ip hc hf
          refine lv_aload_n hx hb dX9_isAhead_128 rfl (lv_at hl 1 rfl) ?_
          refine lv_iload hx hb dX9_isAhead_129 (lv_at hl 6 rfl) ?_
          obtain ⟨v9, hv, hf⟩ := bs1 hf
          refine x_cVi (As := [.int v3]) (rest := []) hx hb hml hts hown hE hP hS hAA (kX9_ahead hN hD hv) cl_X9_159 (nm0 hN) oM_0 vc_9 (Nat.le_trans (by decide) hRf) (Nat.le_trans (by decide) hRl) (Nat.zero_le _) (Nat.zero_le _) rfl hl.1 rfl (Nat.le_of_ble_eq_true rfl) dX9_isAhead_131 (fun H locs hP hS => ?_)
          refine lv_aload_n hx hb dX9_isAhead_134 rfl (lv_at hl 1 rfl) ?_
          refine lv_iload hx hb dX9_isAhead_135 (lv_at hl 0 rfl) ?_
          obtain ⟨v10, hv, hf⟩ := bs1 hf
          refine x_cVi (As := [.int v5]) (rest := [.int v9]) hx hb hml hts hown hE hP hS hAA (kX9_ahead hN hD hv) cl_X9_159 (nm0 hN) oM_0 vc_9 (Nat.le_trans (by decide) hRf) (Nat.le_trans (by decide) hRl) (Nat.zero_le _) (Nat.zero_le _) rfl hl.1 rfl (Nat.le_of_ble_eq_true rfl) dX9_isAhead_137 (fun H locs hP hS => ?_)
          refine lv_icmp_ge (tgt := 147) hx hb dX9_isAhead_140 (by decide) (fun hc => ?_) (fun hc => ?_)
          · have hf := ip hc hf
            refine lv_iconst (v := 0) hx hb dX9_isAhead_147 nc_0 ?_
            cases hf
            exact hret _ _ _ _ dX9_isAhead_148 (Or.inl rfl) hP hS
          · have hf := iq hc hf
            refine lv_iconst (v := 1) hx hb dX9_isAhead_143 nc_1 ?_
            refine lv_goto (tgt := 148) hx hb dX9_isAhead_144 (by decide) ?_
            cases hf
            exact hret _ _ _ _ dX9_isAhead_148 (Or.inr rfl) hP hS
        · have hf := iq hc hf
          refine lv_aload_n hx hb dX9_isAhead_103 rfl (lv_at hl 1 rfl) ?_
          refine x_get hx hb hts hown hE hP fl_X9_68 (nm0 hN) gM_0_27 dX9_isAhead_104 ?_
          refine lv_iload hx hb dX9_isAhead_107 (lv_at hl 6 rfl) ?_
          obtain ⟨v11, hv, hf⟩ := bs1 hf
          refine x_iald hx hb hE hP (nm20 hN) (aM_20 _) hv dX9_isAhead_109 ?_
          refine lv_aload_n hx hb dX9_isAhead_110 rfl (lv_at hl 1 rfl) ?_
          refine x_get hx hb hts hown hE hP fl_X9_68 (nm0 hN) gM_0_27 dX9_isAhead_111 ?_
          refine lv_iload hx hb dX9_isAhead_114 (lv_at hl 0 rfl) ?_
          obtain ⟨v12, hv, hf⟩ := bs1 hf
          refine x_iald hx hb hE hP (nm20 hN) (aM_20 _) hv dX9_isAhead_116 ?_
          refine lv_icmp_ge (tgt := 124) hx hb dX9_isAhead_117 (by decide) (fun hc => ?_) (fun hc => ?_)
          · have hf := ip hc hf
            refine lv_iconst (v := 0) hx hb dX9_isAhead_124 nc_0 ?_
            refine lv_goto (tgt := 148) hx hb dX9_isAhead_125 (by decide) ?_
            cases hf
            exact hret _ _ _ _ dX9_isAhead_148 (Or.inl rfl) hP hS
          · have hf := iq hc hf
            refine lv_iconst (v := 1) hx hb dX9_isAhead_120 nc_1 ?_
            refine lv_goto (tgt := 148) hx hb dX9_isAhead_121 (by decide) ?_
            cases hf
            exact hret _ _ _ _ dX9_isAhead_148 (Or.inr rfl) hP hS
      · have hf := ip hc hf
        refine lv_iload hx hb dX9_isAhead_53 (lv_at hl 4 rfl) ?_
        refine lv_bipush (v := (-4)) hx hb dX9_isAhead_55 nb_m4 ?_
        refine lv_icmp_eq (tgt := 84) hx hb dX9_isAhead_57 (by decide) (fun hc => ?_) (fun hc => ?_)
        · have hf := ip hc hf
          refine lv_iconst (v := 0) hx hb dX9_isAhead_84 nc_0 ?_
          cases hf
          exact hret _ _ _ _ dX9_isAhead_85 (Or.inl rfl) hP hS
        · have hf := iq hc hf
          refine lv_iload hx hb dX9_isAhead_60 (lv_at hl 5 rfl) ?_
          refine lv_bipush (v := (-4)) hx hb dX9_isAhead_62 nb_m4 ?_
          refine lv_icmp_eq (tgt := 80) hx hb dX9_isAhead_64 (by decide) (fun hc => ?_) (fun hc => ?_)
          · have hf := ip hc hf
            refine lv_iconst (v := 1) hx hb dX9_isAhead_80 nc_1 ?_
            refine lv_goto (tgt := 85) hx hb dX9_isAhead_81 (by decide) ?_
            cases hf
            exact hret _ _ _ _ dX9_isAhead_85 (Or.inr rfl) hP hS
          · have hf := iq hc hf
            refine lv_aload_n hx hb dX9_isAhead_67 rfl (lv_at hl 1 rfl) ?_
            refine lv_iload_n hx hb dX9_isAhead_68 rfl (lv_at hl 2 rfl) ?_
            obtain ⟨v13, hv, hf⟩ := bs1 hf
            refine x_cVi (As := [.int x2]) (rest := []) hx hb hml hts hown hE hP hS hAA (kX9_ahead hN hD hv) cl_X9_159 (nm0 hN) oM_0 vc_9 (Nat.le_trans (by decide) hRf) (Nat.le_trans (by decide) hRl) (Nat.zero_le _) (Nat.zero_le _) rfl hl.1 rfl (Nat.le_of_ble_eq_true rfl) dX9_isAhead_69 (fun H locs hP hS => ?_)
            refine lv_aload_n hx hb dX9_isAhead_72 rfl (lv_at hl 1 rfl) ?_
            refine lv_iload_n hx hb dX9_isAhead_73 rfl (lv_at hl 3 rfl) ?_
            obtain ⟨v14, hv, hf⟩ := bs1 hf
            refine x_cVi (As := [.int x3]) (rest := [.int v13]) hx hb hml hts hown hE hP hS hAA (kX9_ahead hN hD hv) cl_X9_159 (nm0 hN) oM_0 vc_9 (Nat.le_trans (by decide) hRf) (Nat.le_trans (by decide) hRl) (Nat.zero_le _) (Nat.zero_le _) rfl hl.1 rfl (Nat.le_of_ble_eq_true rfl) dX9_isAhead_74 (fun H locs hP hS => ?_)
            refine lv_icmp_ge (tgt := 84) hx hb dX9_isAhead_77 (by decide) (fun hc => ?_) (fun hc => ?_)
            · have hf := ip hc hf
              refine lv_iconst (v := 0) hx hb dX9_isAhead_84 nc_0 ?_
              cases hf
              exact hret _ _ _ _ dX9_isAhead_85 (Or.inl rfl) hP hS
            · have hf := iq hc hf
              refine lv_iconst (v := 1) hx hb dX9_isAhead_80 nc_1 ?_
              refine lv_goto (tgt := 85) hx hb dX9_isAhead_81 (by decide) ?_
              cases hf
              exact hret _ _ _ _ dX9_isAhead_85 (Or.inr rfl) hP hS
    clear hf
    have hf := hq6
    clear hq6
    refine lv_icmp_ne (tgt := 42) hx hb dX9_isAhead_35 (by decide) (fun hc => ?_) (fun hc => ?_)
    · have hf := iq hc hf
      refine lv_iload hx hb dX9_isAhead_42 (lv_at hl 5 rfl) ?_
      cases hf
      exact hJ6 _ _ _ hP hS (lv_sub hl [1, 2, 3, 4, 5, 0] rfl)
    · have hf := ip hc hf
      refine lv_iload_n hx hb dX9_isAhead_38 rfl (lv_at hl 3 rfl) ?_
      refine lv_goto (tgt := 44) hx hb dX9_isAhead_39 (by decide) ?_
      cases hf
      exact hJ6 _ _ _ hP hS (lv_sub hl [1, 2, 3, 4, 5, 0] rfl)
  clear hf
  have hf := hq4
  clear hq4
  refine lv_icmp_ne (tgt := 27) hx hb dX9_isAhead_20 (by decide) (fun hc => ?_) (fun hc => ?_)
  · have hf := iq hc hf
    refine lv_iload hx hb dX9_isAhead_27 (lv_at hl 1 rfl) ?_
    cases hf
    exact hJ4 _ _ _ hP hS (lv_sub hl [2, 4, 5, 1, 0] rfl)
  · have hf := ip hc hf
    refine lv_iload_n hx hb dX9_isAhead_23 rfl (lv_at hl 4 rfl) ?_
    refine lv_goto (tgt := 29) hx hb dX9_isAhead_24 (by decide) ?_
    cases hf
    exact hJ4 _ _ _ hP hS (lv_sub hl [2, 4, 5, 1, 0] rfl)
def LX9_rankOf_5 (x1 : Int32) (x2 : Int32) (w : Mm) : Nat → Int32 → Int32 → Option (Int32)
  | 0, _, _ => none
  | fu + 1, v1, v2 =>
    bd1 (rd w 2 2 0) fun v5 =>
    if v5 ≤ v2 then
      some (v1)
    else
      bd1 (
        if v2 = x2 then
          some (0)
        else
          bd1 (fX9_isAhead w x1 v2 x2) fun v8 =>
          if v8 = 0 then
            some (0)
          else
            some (1)) fun (v6 : Int32) =>
      LX9_rankOf_5 x1 x2 w fu (v1 + v6) (v2 + 1)
def fX9_rankOf (w : Mm) (x1 x2 : Int32) : Option (Int32) :=
  bd1 (LX9_rankOf_5 x1 x2 w 1000 1 0) fun (v4 : Int32) =>
  some v4
set_option maxHeartbeats 4000000 in
set_option maxRecDepth 100000 in
theorem kX9_rankOf {l : Launch} {κ : Kp} {N : Nat} {ad : Nat → Nat} {w : Mm} {x1 x2 : Int32} {r : Int32} (hN : 26 ≤ N) (hD : Apt ad N) (hf : fX9_rankOf w x1 x2 = some r) : Met l yX9_rankOf (Cond.code yX9_rankOf cX9_rankOf 5 (some .int) :: TB) (rmX 2 51) (PcX κ (wM κ) N ad w [.ref (ad 0), .int x1, .int x2]) (QI κ (wM κ) N ad w r) 0 0 (Aof ad N) := by
  refine mkI (by decide +kernel) (Nat.le_of_ble_eq_true rfl) (fun p e R s m args below meth c Q H locs ls hC hRf hRl hP hS hret hl => ?_)
  obtain ⟨hx, hb, hml, hown, hts, hE⟩ := hC
  have hA : ∀ k, k < N → Aof ad N (ad k) := fun k h => Aof_in h
  have hAA : ∀ z, Aof ad N z → Aof ad N z := fun _ h => h
  have hl : lv_has ls 5 [(0, .ref (ad 0)), (1, .int x1), (2, .int x2)] := hl
  unfold fX9_rankOf at hf
  refine lv_iconst (v := 1) hx hb dX9_rankOf_0 nc_1 ?_
  refine lv_istore_n (lv' := [(3, .int 1), (0, .ref (ad 0)), (1, .int x1), (2, .int x2)]) hx hb dX9_rankOf_1 rfl hl (by decide) rfl (fun ls hl => ?_)
  refine lv_iconst (v := 0) hx hb dX9_rankOf_2 nc_0 ?_
  refine lv_istore (lv' := [(4, .int 0), (3, .int 1), (0, .ref (ad 0)), (1, .int x1), (2, .int x2)]) hx hb dX9_rankOf_3 hl (by decide) rfl (fun ls hl => ?_)
  obtain ⟨v4, hq3, hf⟩ := bs1 hf
  have hJ3 : ∀ (H : Heap) (locs : List Loc) (ls : Array Slot), Ho κ (wM κ) N ad w H → va_S (Aof ad N) s.heap H locs → lv_has ls 5 [(3, .int v4)] → W p l e R s m args below meth c H locs 0 0 Q (F0 m 47 ls []) := by
    intro H locs ls hP hS hl
    refine lv_iload_n hx hb dX9_rankOf_47 rfl (lv_at hl 0 rfl) ?_
    cases hf
    exact hret _ _ _ _ dX9_rankOf_48 hP hS
  clear hf
  have hf := hq3
  clear hq3
  have hL3 : ∀ (fu : Nat) (v1 : Int32) (v2 : Int32) (H : Heap) (locs : List Loc) (ls : Array Slot), LX9_rankOf_5 x1 x2 w fu v1 v2 = some (v4) → Ho κ (wM κ) N ad w H → va_S (Aof ad N) s.heap H locs → lv_has ls 5 [(0, .ref (ad 0)), (1, .int x1), (2, .int x2), (3, .int v1), (4, .int v2)] → W p l e R s m args below meth c H locs 0 0 Q (F0 m 5 ls []) := by
    intro fu
    induction fu with
    | zero =>
      intro v1 v2 H locs ls hf
      rw [LX9_rankOf_5] at hf
      cases hf
    | succ fu ih =>
      intro v1 v2 H locs ls hf hP hS hl
      rw [LX9_rankOf_5] at hf
      refine lv_iload hx hb dX9_rankOf_5 (lv_at hl 4 rfl) ?_
      refine lv_aload_n hx hb dX9_rankOf_7 rfl (lv_at hl 0 rfl) ?_
      refine x_get hx hb hts hown hE hP fl_X9_13 (nm0 hN) gM_0_2 dX9_rankOf_8 ?_
      refine lv_iconst (v := 0) hx hb dX9_rankOf_11 nc_0 ?_
      obtain ⟨v5, hv, hf⟩ := bs1 hf
      refine x_iald hx hb hE hP (nm2 hN) (aM_2 _) hv dX9_rankOf_12 ?_
      refine lv_icmp_ge (tgt := 47) hx hb dX9_rankOf_13 (by decide) (fun hc => ?_) (fun hc => ?_)
      · have hf := ip hc hf
        cases hf
        exact hJ3 _ _ _ hP hS (lv_sub hl [3] rfl)
      · have hf := iq hc hf
        refine lv_iload_n hx hb dX9_rankOf_16 rfl (lv_at hl 3 rfl) ?_
        refine lv_iload hx hb dX9_rankOf_17 (lv_at hl 4 rfl) ?_
        refine lv_iload_n hx hb dX9_rankOf_19 rfl (lv_at hl 2 rfl) ?_
        obtain ⟨v6, hq7, hf⟩ := bs1 hf
        have hJ7 : ∀ (H : Heap) (locs : List Loc) (ls : Array Slot), Ho κ (wM κ) N ad w H → va_S (Aof ad N) s.heap H locs → lv_has ls 5 [(0, .ref (ad 0)), (1, .int x1), (2, .int x2), (4, .int v2)] → W p l e R s m args below meth c H locs 0 0 Q (F0 m 39 ls [.int v6, .int v1]) := by
          intro H locs ls hP hS hl
          refine lv_iadd hx hb dX9_rankOf_39 ?_
          refine lv_istore_n (lv' := [(3, .int (v1 + v6)), (0, .ref (ad 0)), (1, .int x1), (2, .int x2), (4, .int v2)]) hx hb dX9_rankOf_40 rfl hl (by decide) rfl (fun ls hl => ?_)
          refine lv_iinc (v := (v2 + 1)) (lv' := [(4, .int (v2 + 1)), (3, .int (v1 + v6)), (0, .ref (ad 0)), (1, .int x1), (2, .int x2)]) hx hb dX9_rankOf_41 hl (k := 4) rfl (ni_1 _) (by decide) rfl (fun ls hl => ?_)
          refine lv_goto (tgt := 5) hx hb dX9_rankOf_44 (by decide) ?_
          exact ih _ _ _ _ _ hf hP hS (lv_sub hl [2, 3, 4, 1, 0] rfl)
        clear hf
        have hf := hq7
        clear hq7
        refine lv_icmp_eq (tgt := 38) hx hb dX9_rankOf_20 (by decide) (fun hc => ?_) (fun hc => ?_)
        · have hf := ip hc hf
          refine lv_iconst (v := 0) hx hb dX9_rankOf_38 nc_0 ?_
          cases hf
          exact hJ7 _ _ _ hP hS (lv_sub hl [0, 1, 2, 4] rfl)
        · have hf := iq hc hf
          refine lv_aload_n hx hb dX9_rankOf_23 rfl (lv_at hl 0 rfl) ?_
          refine lv_iload_n hx hb dX9_rankOf_24 rfl (lv_at hl 1 rfl) ?_
          refine lv_iload hx hb dX9_rankOf_25 (lv_at hl 4 rfl) ?_
          refine lv_iload_n hx hb dX9_rankOf_27 rfl (lv_at hl 2 rfl) ?_
          obtain ⟨v8, hv, hf⟩ := bs1 hf
          refine x_cVi (As := [.int x1, .int v2, .int x2]) (rest := [.int v1]) hx hb hml hts hown hE hP hS hAA (kX9_isAhead hN hD hv) cl_X9_210 (nm0 hN) oM_0 vc_9 (Nat.le_trans (by decide) hRf) (Nat.le_trans (by decide) hRl) (Nat.zero_le _) (Nat.zero_le _) rfl hl.1 rfl (Nat.le_of_ble_eq_true rfl) dX9_rankOf_28 (fun H locs hP hS => ?_)
          refine lv_if_eq (tgt := 38) hx hb dX9_rankOf_31 (by decide) (fun hc => ?_) (fun hc => ?_)
          · have hf := ip hc hf
            refine lv_iconst (v := 0) hx hb dX9_rankOf_38 nc_0 ?_
            cases hf
            exact hJ7 _ _ _ hP hS (lv_sub hl [0, 1, 2, 4] rfl)
          · have hf := iq hc hf
            refine lv_iconst (v := 1) hx hb dX9_rankOf_34 nc_1 ?_
            refine lv_goto (tgt := 39) hx hb dX9_rankOf_35 (by decide) ?_
            cases hf
            exact hJ7 _ _ _ hP hS (lv_sub hl [0, 1, 2, 4] rfl)
  exact hL3 _ _ _ _ _ _ hf hP hS (lv_sub hl [2, 3, 4, 1, 0] rfl)
def fX9_rank (w : Mm) (x1 : Int32) : Option (Int32 × Mm) :=
  bd1 (fX9_isBeast w x1) fun v1 =>
  if v1 = 0 then
    some ((-1), w)
  else
    bd1 (fX9_crossNow w) fun w2 =>
    bd1 (fX9_rankOf w2 0 x1) fun v3 =>
    some (v3, w2)
set_option maxHeartbeats 4000000 in
set_option maxRecDepth 100000 in
theorem kX9_rank {l : Launch} {κ : Kp} {N : Nat} {ad : Nat → Nat} {w : Mm} {x1 : Int32} {r : Int32} {w' : Mm} (hN : 26 ≤ N) (hD : Apt ad N) (hf : fX9_rank w x1 = some (r, w')) : Met l yX9_rank (Cond.code yX9_rank cX9_rank 2 (some .int) :: TB) (rmX 4 95) (PcX κ (wM κ) N ad w [.ref (ad 0), .int x1]) (QI κ (wM κ) N ad w' r) 0 0 (Aof ad N) := by
  refine mkI (by decide +kernel) (Nat.le_of_ble_eq_true rfl) (fun p e R s m args below meth c Q H locs ls hC hRf hRl hP hS hret hl => ?_)
  obtain ⟨hx, hb, hml, hown, hts, hE⟩ := hC
  have hA : ∀ k, k < N → Aof ad N (ad k) := fun k h => Aof_in h
  have hAA : ∀ z, Aof ad N z → Aof ad N z := fun _ h => h
  have hl : lv_has ls 2 [(0, .ref (ad 0)), (1, .int x1)] := hl
  unfold fX9_rank at hf
  refine lv_aload_n hx hb dX9_rank_0 rfl (lv_at hl 0 rfl) ?_
  refine lv_iload_n hx hb dX9_rank_1 rfl (lv_at hl 1 rfl) ?_
  obtain ⟨v1, hv, hf⟩ := bs1 hf
  refine x_cVi (As := [.int x1]) (rest := []) hx hb hml hts hown hE hP hS hAA (kX9_isBeast hN hD hv) cl_X9_152 (nm0 hN) oM_0 vc_9 (Nat.le_trans (by decide) hRf) (Nat.le_trans (by decide) hRl) (Nat.zero_le _) (Nat.zero_le _) rfl hl.1 rfl (Nat.le_of_ble_eq_true rfl) dX9_rank_2 (fun H locs hP hS => ?_)
  refine lv_if_ne (tgt := 10) hx hb dX9_rank_5 (by decide) (fun hc => ?_) (fun hc => ?_)
  · have hf := iq hc hf
    refine lv_aload_n hx hb dX9_rank_10 rfl (lv_at hl 0 rfl) ?_
    obtain ⟨w2, hv, hf⟩ := bs1 hf
    refine x_cVv (As := []) (rest := []) hx hb hml hts hown hE hP hS hAA (kX9_crossNow hN hD hv) cl_X9_203 (nm0 hN) oM_0 vc_9 (Nat.le_trans (by decide) hRf) (Nat.le_trans (by decide) hRl) (Nat.zero_le _) (Nat.zero_le _) rfl hl.1 rfl (Nat.le_of_ble_eq_true rfl) dX9_rank_11 (fun H locs hP hS => ?_)
    refine lv_aload_n hx hb dX9_rank_14 rfl (lv_at hl 0 rfl) ?_
    refine lv_iconst (v := 0) hx hb dX9_rank_15 nc_0 ?_
    refine lv_iload_n hx hb dX9_rank_16 rfl (lv_at hl 1 rfl) ?_
    obtain ⟨v3, hv, hf⟩ := bs1 hf
    refine x_cVi (As := [.int 0, .int x1]) (rest := []) hx hb hml hts hown hE hP hS hAA (kX9_rankOf hN hD hv) cl_X9_213 (nm0 hN) oM_0 vc_9 (Nat.le_trans (by decide) hRf) (Nat.le_trans (by decide) hRl) (Nat.zero_le _) (Nat.zero_le _) rfl hl.1 rfl (Nat.le_of_ble_eq_true rfl) dX9_rank_17 (fun H locs hP hS => ?_)
    cases hf
    exact hret _ _ _ _ dX9_rank_20 hP hS
  · have hf := ip hc hf
    refine lv_iconst (v := (-1)) hx hb dX9_rank_8 nc_m1 ?_
    cases hf
    exact hret _ _ _ _ dX9_rank_9 hP hS
def LX9_findRanks_2 (x1 : Int32) : Nat → Int32 → Mm → Option (Mm)
  | 0, _, _ => none
  | fu + 1, v1, w2 =>
    bd1 (rd w2 2 2 0) fun v5 =>
    if v5 ≤ v1 then
      some (w2)
    else
      bd1 (fX9_rankOf w2 x1 v1) fun v6 =>
      bd1 (wr w2 21 8 (v6 - 1) v1) fun w7 =>
      LX9_findRanks_2 x1 fu (v1 + 1) w7
def fX9_findRanks (w : Mm) (x1 : Int32) : Option (Mm) :=
  bd1 (LX9_findRanks_2 x1 1000 0 w) fun (w4 : Mm) =>
  some w4
set_option maxHeartbeats 4000000 in
set_option maxRecDepth 100000 in
theorem kX9_findRanks {l : Launch} {κ : Kp} {N : Nat} {ad : Nat → Nat} {w : Mm} {x1 : Int32} {w' : Mm} (hN : 26 ≤ N) (hD : Apt ad N) (hf : fX9_findRanks w x1 = some w') : Met l yX9_findRanks (Cond.code yX9_findRanks cX9_findRanks 3 none :: TB) (rmX 3 75) (PcX κ (wM κ) N ad w [.ref (ad 0), .int x1]) (QV κ (wM κ) N ad w') 0 0 (Aof ad N) := by
  refine mkV (by decide +kernel) (Nat.le_of_ble_eq_true rfl) (fun p e R s m args below meth c Q H locs ls hC hRf hRl hP hS hret hl => ?_)
  obtain ⟨hx, hb, hml, hown, hts, hE⟩ := hC
  have hA : ∀ k, k < N → Aof ad N (ad k) := fun k h => Aof_in h
  have hAA : ∀ z, Aof ad N z → Aof ad N z := fun _ h => h
  have hl : lv_has ls 3 [(0, .ref (ad 0)), (1, .int x1)] := hl
  unfold fX9_findRanks at hf
  refine lv_iconst (v := 0) hx hb dX9_findRanks_0 nc_0 ?_
  refine lv_istore_n (lv' := [(2, .int 0), (0, .ref (ad 0)), (1, .int x1)]) hx hb dX9_findRanks_1 rfl hl (by decide) rfl (fun ls hl => ?_)
  obtain ⟨w4, hq3, hf⟩ := bs1 hf
  have hJ3 : ∀ (H : Heap) (locs : List Loc) (ls : Array Slot), Ho κ (wM κ) N ad w4 H → va_S (Aof ad N) s.heap H locs → lv_has ls 3 [] → W p l e R s m args below meth c H locs 0 0 Q (F0 m 32 ls []) := by
    intro H locs ls hP hS hl
    cases hf
    exact hret _ _ _ _ dX9_findRanks_32 hP hS
  clear hf
  have hf := hq3
  clear hq3
  have hL3 : ∀ (fu : Nat) (v1 : Int32) (w2 : Mm) (H : Heap) (locs : List Loc) (ls : Array Slot), LX9_findRanks_2 x1 fu v1 w2 = some (w4) → Ho κ (wM κ) N ad w2 H → va_S (Aof ad N) s.heap H locs → lv_has ls 3 [(0, .ref (ad 0)), (1, .int x1), (2, .int v1)] → W p l e R s m args below meth c H locs 0 0 Q (F0 m 2 ls []) := by
    intro fu
    induction fu with
    | zero =>
      intro v1 w2 H locs ls hf
      rw [LX9_findRanks_2] at hf
      cases hf
    | succ fu ih =>
      intro v1 w2 H locs ls hf hP hS hl
      rw [LX9_findRanks_2] at hf
      refine lv_iload_n hx hb dX9_findRanks_2 rfl (lv_at hl 2 rfl) ?_
      refine lv_aload_n hx hb dX9_findRanks_3 rfl (lv_at hl 0 rfl) ?_
      refine x_get hx hb hts hown hE hP fl_X9_13 (nm0 hN) gM_0_2 dX9_findRanks_4 ?_
      refine lv_iconst (v := 0) hx hb dX9_findRanks_7 nc_0 ?_
      obtain ⟨v5, hv, hf⟩ := bs1 hf
      refine x_iald hx hb hE hP (nm2 hN) (aM_2 _) hv dX9_findRanks_8 ?_
      refine lv_icmp_ge (tgt := 32) hx hb dX9_findRanks_9 (by decide) (fun hc => ?_) (fun hc => ?_)
      · have hf := ip hc hf
        cases hf
        exact hJ3 _ _ _ hP hS (lv_sub hl [] rfl)
      · have hf := iq hc hf
        refine lv_aload_n hx hb dX9_findRanks_12 rfl (lv_at hl 0 rfl) ?_
        refine x_get hx hb hts hown hE hP fl_X9_71 (nm0 hN) gM_0_28 dX9_findRanks_13 ?_
        refine lv_aload_n hx hb dX9_findRanks_16 rfl (lv_at hl 0 rfl) ?_
        refine lv_iload_n hx hb dX9_findRanks_17 rfl (lv_at hl 1 rfl) ?_
        refine lv_iload_n hx hb dX9_findRanks_18 rfl (lv_at hl 2 rfl) ?_
        obtain ⟨v6, hv, hf⟩ := bs1 hf
        refine x_cVi (As := [.int x1, .int v1]) (rest := [.ref (ad 21)]) hx hb hml hts hown hE hP hS hAA (kX9_rankOf hN hD hv) cl_X9_213 (nm0 hN) oM_0 vc_9 (Nat.le_trans (by decide) hRf) (Nat.le_trans (by decide) hRl) (Nat.zero_le _) (Nat.zero_le _) rfl hl.1 rfl (Nat.le_of_ble_eq_true rfl) dX9_findRanks_19 (fun H locs hP hS => ?_)
        refine lv_iconst (v := 1) hx hb dX9_findRanks_22 nc_1 ?_
        refine lv_isub hx hb dX9_findRanks_23 ?_
        refine lv_iload_n hx hb dX9_findRanks_24 rfl (lv_at hl 2 rfl) ?_
        obtain ⟨w7, hv, hf⟩ := bs1 hf
        refine x_iast hx hb hE hD hA hP hS (nm21 hN) aM_21 hv dX9_findRanks_25 (fun H locs hP hS => ?_)
        refine lv_iinc (v := (v1 + 1)) (lv' := [(2, .int (v1 + 1)), (0, .ref (ad 0)), (1, .int x1)]) hx hb dX9_findRanks_26 hl (k := 2) rfl (ni_1 _) (by decide) rfl (fun ls hl => ?_)
        refine lv_goto (tgt := 2) hx hb dX9_findRanks_29 (by decide) ?_
        exact ih _ _ _ _ _ hf hP hS (lv_sub hl [1, 2, 0] rfl)
  exact hL3 _ _ _ _ _ _ hf hP hS (lv_sub hl [1, 2, 0] rfl)
def fX9_who (w : Mm) (x1 : Int32) : Option (Int32 × Mm) :=
  bd1 (rd w 2 2 0) fun v1 =>
  bd1 (fX9_in x1 1 v1) fun v2 =>
  if v2 = 0 then
    some ((-1), w)
  else
    bd1 (fX9_crossNow w) fun w3 =>
    bd1 (fX9_findRanks w3 0) fun w4 =>
    bd1 (rd w4 21 8 (x1 - 1)) fun v5 =>
    some (v5, w4)
set_option maxHeartbeats 4000000 in
set_option maxRecDepth 100000 in
theorem kX9_who {l : Launch} {κ : Kp} {N : Nat} {ad : Nat → Nat} {w : Mm} {x1 : Int32} {r : Int32} {w' : Mm} (hN : 26 ≤ N) (hD : Apt ad N) (hf : fX9_who w x1 = some (r, w')) : Met l yX9_who (Cond.code yX9_who cX9_who 2 (some .int) :: TB) (rmX 4 97) (PcX κ (wM κ) N ad w [.ref (ad 0), .int x1]) (QI κ (wM κ) N ad w' r) 0 0 (Aof ad N) := by
  refine mkI (by decide +kernel) (Nat.le_of_ble_eq_true rfl) (fun p e R s m args below meth c Q H locs ls hC hRf hRl hP hS hret hl => ?_)
  obtain ⟨hx, hb, hml, hown, hts, hE⟩ := hC
  have hA : ∀ k, k < N → Aof ad N (ad k) := fun k h => Aof_in h
  have hAA : ∀ z, Aof ad N z → Aof ad N z := fun _ h => h
  have hl : lv_has ls 2 [(0, .ref (ad 0)), (1, .int x1)] := hl
  unfold fX9_who at hf
  refine lv_iload_n hx hb dX9_who_0 rfl (lv_at hl 1 rfl) ?_
  refine lv_iconst (v := 1) hx hb dX9_who_1 nc_1 ?_
  refine lv_aload_n hx hb dX9_who_2 rfl (lv_at hl 0 rfl) ?_
  refine x_get hx hb hts hown hE hP fl_X9_13 (nm0 hN) gM_0_2 dX9_who_3 ?_
  refine lv_iconst (v := 0) hx hb dX9_who_6 nc_0 ?_
  obtain ⟨v1, hv, hf⟩ := bs1 hf
  refine x_iald hx hb hE hP (nm2 hN) (aM_2 _) hv dX9_who_7 ?_
  obtain ⟨v2, hv, hf⟩ := bs1 hf
  refine x_cSi (As := [.int x1, .int 1, .int v1]) (rest := []) hx hb hml hts hown hE hP hS hAA (kX9_in hv) cl_X9_93 (Nat.le_trans (by decide) hRf) (Nat.le_trans (by decide) hRl) (Nat.zero_le _) (Nat.zero_le _) rfl hl.1 rfl (Nat.le_of_ble_eq_true rfl) dX9_who_8 (fun H locs hP hS => ?_)
  refine lv_if_ne (tgt := 16) hx hb dX9_who_11 (by decide) (fun hc => ?_) (fun hc => ?_)
  · have hf := iq hc hf
    refine lv_aload_n hx hb dX9_who_16 rfl (lv_at hl 0 rfl) ?_
    obtain ⟨w3, hv, hf⟩ := bs1 hf
    refine x_cVv (As := []) (rest := []) hx hb hml hts hown hE hP hS hAA (kX9_crossNow hN hD hv) cl_X9_203 (nm0 hN) oM_0 vc_9 (Nat.le_trans (by decide) hRf) (Nat.le_trans (by decide) hRl) (Nat.zero_le _) (Nat.zero_le _) rfl hl.1 rfl (Nat.le_of_ble_eq_true rfl) dX9_who_17 (fun H locs hP hS => ?_)
    refine lv_aload_n hx hb dX9_who_20 rfl (lv_at hl 0 rfl) ?_
    refine lv_iconst (v := 0) hx hb dX9_who_21 nc_0 ?_
    obtain ⟨w4, hv, hf⟩ := bs1 hf
    refine x_cVv (As := [.int 0]) (rest := []) hx hb hml hts hown hE hP hS hAA (kX9_findRanks hN hD hv) cl_X9_216 (nm0 hN) oM_0 vc_9 (Nat.le_trans (by decide) hRf) (Nat.le_trans (by decide) hRl) (Nat.zero_le _) (Nat.zero_le _) rfl hl.1 rfl (Nat.le_of_ble_eq_true rfl) dX9_who_22 (fun H locs hP hS => ?_)
    refine lv_aload_n hx hb dX9_who_25 rfl (lv_at hl 0 rfl) ?_
    refine x_get hx hb hts hown hE hP fl_X9_71 (nm0 hN) gM_0_28 dX9_who_26 ?_
    refine lv_iload_n hx hb dX9_who_29 rfl (lv_at hl 1 rfl) ?_
    refine lv_iconst (v := 1) hx hb dX9_who_30 nc_1 ?_
    refine lv_isub hx hb dX9_who_31 ?_
    obtain ⟨v5, hv, hf⟩ := bs1 hf
    refine x_iald hx hb hE hP (nm21 hN) (aM_21 _) hv dX9_who_32 ?_
    cases hf
    exact hret _ _ _ _ dX9_who_33 hP hS
  · have hf := ip hc hf
    refine lv_iconst (v := (-1)) hx hb dX9_who_14 nc_m1 ?_
    cases hf
    exact hret _ _ _ _ dX9_who_15 hP hS
def LX9_copy_2 (x1 : Int32) (x2 : Int32) : Nat → Int32 → Mm → Option (Mm)
  | 0, _, _ => none
  | fu + 1, v1, w2 =>
    if 16 ≤ v1 then
      some (w2)
    else
      bd1 (rd w2 18 192 (x1 + v1)) fun v5 =>
      bd1 (wr w2 18 192 (x2 + v1) v5) fun w6 =>
      LX9_copy_2 x1 x2 fu (v1 + 1) w6
def fX9_copy (w : Mm) (x1 x2 : Int32) : Option (Mm) :=
  bd1 (LX9_copy_2 x1 x2 1000 0 w) fun (w4 : Mm) =>
  some w4
set_option maxHeartbeats 4000000 in
set_option maxRecDepth 100000 in
theorem kX9_copy {l : Launch} {κ : Kp} {N : Nat} {ad : Nat → Nat} {w : Mm} {x1 x2 : Int32} {w' : Mm} (hN : 26 ≤ N) (hD : Apt ad N) (hf : fX9_copy w x1 x2 = some w') : Met l yX9_copy (Cond.code yX9_copy cX9_copy 4 none :: TB) (rmX 0 0) (PcX κ (wM κ) N ad w [.ref (ad 0), .int x1, .int x2]) (QV κ (wM κ) N ad w') 0 0 (Aof ad N) := by
  refine mkV (by decide +kernel) (Nat.le_of_ble_eq_true rfl) (fun p e R s m args below meth c Q H locs ls hC hRf hRl hP hS hret hl => ?_)
  obtain ⟨hx, hb, hml, hown, hts, hE⟩ := hC
  have hA : ∀ k, k < N → Aof ad N (ad k) := fun k h => Aof_in h
  have hAA : ∀ z, Aof ad N z → Aof ad N z := fun _ h => h
  have hl : lv_has ls 4 [(0, .ref (ad 0)), (1, .int x1), (2, .int x2)] := hl
  unfold fX9_copy at hf
  refine lv_iconst (v := 0) hx hb dX9_copy_0 nc_0 ?_
  refine lv_istore_n (lv' := [(3, .int 0), (0, .ref (ad 0)), (1, .int x1), (2, .int x2)]) hx hb dX9_copy_1 rfl hl (by decide) rfl (fun ls hl => ?_)
  obtain ⟨w4, hq3, hf⟩ := bs1 hf
  have hJ3 : ∀ (H : Heap) (locs : List Loc) (ls : Array Slot), Ho κ (wM κ) N ad w4 H → va_S (Aof ad N) s.heap H locs → lv_has ls 4 [] → W p l e R s m args below meth c H locs 0 0 Q (F0 m 30 ls []) := by
    intro H locs ls hP hS hl
    cases hf
    exact hret _ _ _ _ dX9_copy_30 hP hS
  clear hf
  have hf := hq3
  clear hq3
  have hL3 : ∀ (fu : Nat) (v1 : Int32) (w2 : Mm) (H : Heap) (locs : List Loc) (ls : Array Slot), LX9_copy_2 x1 x2 fu v1 w2 = some (w4) → Ho κ (wM κ) N ad w2 H → va_S (Aof ad N) s.heap H locs → lv_has ls 4 [(0, .ref (ad 0)), (1, .int x1), (2, .int x2), (3, .int v1)] → W p l e R s m args below meth c H locs 0 0 Q (F0 m 2 ls []) := by
    intro fu
    induction fu with
    | zero =>
      intro v1 w2 H locs ls hf
      rw [LX9_copy_2] at hf
      cases hf
    | succ fu ih =>
      intro v1 w2 H locs ls hf hP hS hl
      rw [LX9_copy_2] at hf
      refine lv_iload_n hx hb dX9_copy_2 rfl (lv_at hl 3 rfl) ?_
      refine lv_bipush (v := 16) hx hb dX9_copy_3 nb_16 ?_
      refine lv_icmp_ge (tgt := 30) hx hb dX9_copy_5 (by decide) (fun hc => ?_) (fun hc => ?_)
      · have hf := ip hc hf
        cases hf
        exact hJ3 _ _ _ hP hS (lv_sub hl [] rfl)
      · have hf := iq hc hf
        refine lv_aload_n hx hb dX9_copy_8 rfl (lv_at hl 0 rfl) ?_
        refine x_get hx hb hts hown hE hP fl_X9_62 (nm0 hN) gM_0_20 dX9_copy_9 ?_
        refine lv_iload_n hx hb dX9_copy_12 rfl (lv_at hl 2 rfl) ?_
        refine lv_iload_n hx hb dX9_copy_13 rfl (lv_at hl 3 rfl) ?_
        refine lv_iadd hx hb dX9_copy_14 ?_
        refine lv_aload_n hx hb dX9_copy_15 rfl (lv_at hl 0 rfl) ?_
        refine x_get hx hb hts hown hE hP fl_X9_62 (nm0 hN) gM_0_20 dX9_copy_16 ?_
        refine lv_iload_n hx hb dX9_copy_19 rfl (lv_at hl 1 rfl) ?_
        refine lv_iload_n hx hb dX9_copy_20 rfl (lv_at hl 3 rfl) ?_
        refine lv_iadd hx hb dX9_copy_21 ?_
        obtain ⟨v5, hv, hf⟩ := bs1 hf
        refine x_iald hx hb hE hP (nm18 hN) (aM_18 _) hv dX9_copy_22 ?_
        obtain ⟨w6, hv, hf⟩ := bs1 hf
        refine x_iast hx hb hE hD hA hP hS (nm18 hN) aM_18 hv dX9_copy_23 (fun H locs hP hS => ?_)
        refine lv_iinc (v := (v1 + 1)) (lv' := [(3, .int (v1 + 1)), (0, .ref (ad 0)), (1, .int x1), (2, .int x2)]) hx hb dX9_copy_24 hl (k := 3) rfl (ni_1 _) (by decide) rfl (fun ls hl => ?_)
        refine lv_goto (tgt := 2) hx hb dX9_copy_27 (by decide) ?_
        exact ih _ _ _ _ _ hf hP hS (lv_sub hl [1, 2, 3, 0] rfl)
  exact hL3 _ _ _ _ _ _ hf hP hS (lv_sub hl [1, 2, 3, 0] rfl)
def LX9_know_11 : Nat → Int32 → Mm → Option (Mm)
  | 0, _, _ => none
  | fu + 1, v3, w4 =>
    if 112 ≤ v3 then
      some (w4)
    else
      bd1 (rd w4 18 192 (32 + v3)) fun v7 =>
      bd1 (wr w4 18 192 (16 + v3) v7) fun w8 =>
      LX9_know_11 fu (v3 + 1) w8
def fX9_know (w : Mm) : Option (Mm) :=
  bd1 (
    if (w 0 21) = 8 then
      bd1 (LX9_know_11 1000 0 w) fun (w6 : Mm) =>
      bd1 (pt w6 0 21 ((w6 0 21) - 1)) fun w9 =>
      some (w9)
    else
      some (w)) fun (w1 : Mm) =>
  bd1 (fX9_copy w1 0 (16 + (16 * (w1 0 21)))) fun w10 =>
  bd1 (pt w10 0 21 ((w10 0 21) + 1)) fun w11 =>
  some w11
set_option maxHeartbeats 4000000 in
set_option maxRecDepth 100000 in
theorem kX9_know {l : Launch} {κ : Kp} {N : Nat} {ad : Nat → Nat} {w : Mm} {w' : Mm} (hN : 26 ≤ N) (hD : Apt ad N) (hf : fX9_know w = some w') : Met l yX9_know (Cond.code yX9_know cX9_know 2 none :: TB) (rmX 1 23) (PcX κ (wM κ) N ad w [.ref (ad 0)]) (QV κ (wM κ) N ad w') 0 0 (Aof ad N) := by
  refine mkV (by decide +kernel) (Nat.le_of_ble_eq_true rfl) (fun p e R s m args below meth c Q H locs ls hC hRf hRl hP hS hret hl => ?_)
  obtain ⟨hx, hb, hml, hown, hts, hE⟩ := hC
  have hA : ∀ k, k < N → Aof ad N (ad k) := fun k h => Aof_in h
  have hAA : ∀ z, Aof ad N z → Aof ad N z := fun _ h => h
  have hl : lv_has ls 2 [(0, .ref (ad 0))] := hl
  unfold fX9_know at hf
  refine lv_aload_n hx hb dX9_know_0 rfl (lv_at hl 0 rfl) ?_
  refine x_get hx hb hts hown hE hP fl_X9_143 (nm0 hN) gM_0_21 dX9_know_1 ?_
  refine lv_bipush (v := 8) hx hb dX9_know_4 nb_8 ?_
  obtain ⟨w1, hq2, hf⟩ := bs1 hf
  have hJ2 : ∀ (H : Heap) (locs : List Loc) (ls : Array Slot), Ho κ (wM κ) N ad w1 H → va_S (Aof ad N) s.heap H locs → lv_has ls 2 [(0, .ref (ad 0))] → W p l e R s m args below meth c H locs 0 0 Q (F0 m 51 ls []) := by
    intro H locs ls hP hS hl
    refine lv_aload_n hx hb dX9_know_51 rfl (lv_at hl 0 rfl) ?_
    refine lv_iconst (v := 0) hx hb dX9_know_52 nc_0 ?_
    refine lv_bipush (v := 16) hx hb dX9_know_53 nb_16 ?_
    refine lv_bipush (v := 16) hx hb dX9_know_55 nb_16 ?_
    refine lv_aload_n hx hb dX9_know_57 rfl (lv_at hl 0 rfl) ?_
    refine x_get hx hb hts hown hE hP fl_X9_143 (nm0 hN) gM_0_21 dX9_know_58 ?_
    refine lv_imul hx hb dX9_know_61 ?_
    refine lv_iadd hx hb dX9_know_62 ?_
    obtain ⟨w10, hv, hf⟩ := bs1 hf
    refine x_cVv (As := [.int 0, .int (16 + (16 * (w1 0 21)))]) (rest := []) hx hb hml hts hown hE hP hS hAA (kX9_copy hN hD hv) cl_X9_220 (nm0 hN) oM_0 vc_9 (Nat.le_trans (by decide) hRf) (Nat.le_trans (by decide) hRl) (Nat.zero_le _) (Nat.zero_le _) rfl hl.1 rfl (Nat.le_of_ble_eq_true rfl) dX9_know_63 (fun H locs hP hS => ?_)
    refine lv_aload_n hx hb dX9_know_66 rfl (lv_at hl 0 rfl) ?_
    refine lv_dup hx hb dX9_know_67 rfl ?_
    refine x_get hx hb hts hown hE hP fl_X9_143 (nm0 hN) gM_0_21 dX9_know_68 ?_
    refine lv_iconst (v := 1) hx hb dX9_know_71 nc_1 ?_
    refine lv_iadd hx hb dX9_know_72 ?_
    obtain ⟨w11, hv, hf⟩ := bs1 hf
    refine x_put hx hb hts hown hE hD hA hP hS fp_X9_143 (nm0 hN) pM_0_21 rfl rfl hv dX9_know_73 (fun H locs hP hS => ?_)
    cases hf
    exact hret _ _ _ _ dX9_know_76 hP hS
  clear hf
  have hf := hq2
  clear hq2
  refine lv_icmp_ne (tgt := 51) hx hb dX9_know_6 (by decide) (fun hc => ?_) (fun hc => ?_)
  · have hf := iq hc hf
    cases hf
    exact hJ2 _ _ _ hP hS (lv_sub hl [0] rfl)
  · have hf := ip hc hf
    refine lv_iconst (v := 0) hx hb dX9_know_9 nc_0 ?_
    refine lv_istore_n (lv' := [(1, .int 0), (0, .ref (ad 0))]) hx hb dX9_know_10 rfl hl (by decide) rfl (fun ls hl => ?_)
    obtain ⟨w6, hq5, hf⟩ := bs1 hf
    have hJ5 : ∀ (H : Heap) (locs : List Loc) (ls : Array Slot), Ho κ (wM κ) N ad w6 H → va_S (Aof ad N) s.heap H locs → lv_has ls 2 [(0, .ref (ad 0))] → W p l e R s m args below meth c H locs 0 0 Q (F0 m 41 ls []) := by
      intro H locs ls hP hS hl
      refine lv_aload_n hx hb dX9_know_41 rfl (lv_at hl 0 rfl) ?_
      refine lv_dup hx hb dX9_know_42 rfl ?_
      refine x_get hx hb hts hown hE hP fl_X9_143 (nm0 hN) gM_0_21 dX9_know_43 ?_
      refine lv_iconst (v := 1) hx hb dX9_know_46 nc_1 ?_
      refine lv_isub hx hb dX9_know_47 ?_
      obtain ⟨w9, hv, hf⟩ := bs1 hf
      refine x_put hx hb hts hown hE hD hA hP hS fp_X9_143 (nm0 hN) pM_0_21 rfl rfl hv dX9_know_48 (fun H locs hP hS => ?_)
      cases hf
      exact hJ2 _ _ _ hP hS (lv_sub hl [0] rfl)
    clear hf
    have hf := hq5
    clear hq5
    have hL5 : ∀ (fu : Nat) (v3 : Int32) (w4 : Mm) (H : Heap) (locs : List Loc) (ls : Array Slot), LX9_know_11 fu v3 w4 = some (w6) → Ho κ (wM κ) N ad w4 H → va_S (Aof ad N) s.heap H locs → lv_has ls 2 [(0, .ref (ad 0)), (1, .int v3)] → W p l e R s m args below meth c H locs 0 0 Q (F0 m 11 ls []) := by
      intro fu
      induction fu with
      | zero =>
        intro v3 w4 H locs ls hf
        rw [LX9_know_11] at hf
        cases hf
      | succ fu ih =>
        intro v3 w4 H locs ls hf hP hS hl
        rw [LX9_know_11] at hf
        refine lv_iload_n hx hb dX9_know_11 rfl (lv_at hl 1 rfl) ?_
        refine lv_bipush (v := 112) hx hb dX9_know_12 nb_112 ?_
        refine lv_icmp_ge (tgt := 41) hx hb dX9_know_14 (by decide) (fun hc => ?_) (fun hc => ?_)
        · have hf := ip hc hf
          cases hf
          exact hJ5 _ _ _ hP hS (lv_sub hl [0] rfl)
        · have hf := iq hc hf
          refine lv_aload_n hx hb dX9_know_17 rfl (lv_at hl 0 rfl) ?_
          refine x_get hx hb hts hown hE hP fl_X9_62 (nm0 hN) gM_0_20 dX9_know_18 ?_
          refine lv_bipush (v := 16) hx hb dX9_know_21 nb_16 ?_
          refine lv_iload_n hx hb dX9_know_23 rfl (lv_at hl 1 rfl) ?_
          refine lv_iadd hx hb dX9_know_24 ?_
          refine lv_aload_n hx hb dX9_know_25 rfl (lv_at hl 0 rfl) ?_
          refine x_get hx hb hts hown hE hP fl_X9_62 (nm0 hN) gM_0_20 dX9_know_26 ?_
          refine lv_bipush (v := 32) hx hb dX9_know_29 nb_32 ?_
          refine lv_iload_n hx hb dX9_know_31 rfl (lv_at hl 1 rfl) ?_
          refine lv_iadd hx hb dX9_know_32 ?_
          obtain ⟨v7, hv, hf⟩ := bs1 hf
          refine x_iald hx hb hE hP (nm18 hN) (aM_18 _) hv dX9_know_33 ?_
          obtain ⟨w8, hv, hf⟩ := bs1 hf
          refine x_iast hx hb hE hD hA hP hS (nm18 hN) aM_18 hv dX9_know_34 (fun H locs hP hS => ?_)
          refine lv_iinc (v := (v3 + 1)) (lv' := [(1, .int (v3 + 1)), (0, .ref (ad 0))]) hx hb dX9_know_35 hl (k := 1) rfl (ni_1 _) (by decide) rfl (fun ls hl => ?_)
          refine lv_goto (tgt := 11) hx hb dX9_know_38 (by decide) ?_
          exact ih _ _ _ _ _ hf hP hS (lv_sub hl [1, 0] rfl)
    exact hL5 _ _ _ _ _ _ hf hP hS (lv_sub hl [1, 0] rfl)
def fX9_start (w : Mm) (x1 x2 : Int32) : Option (Int32 × Mm) :=
  bd1 (fX9_isBeast w x1) fun v1 =>
  if v1 = 0 then
    some ((-1), w)
  else
    bd1 (fX9_in x2 0 30) fun v2 =>
    if v2 = 0 then
      some ((-1), w)
    else
      bd1 (fX9_know w) fun w3 =>
      bd1 (rd w3 18 192 (0 + x1)) fun v4 =>
      bd1 (wr w3 18 192 (0 + x1) x2) fun w5 =>
      some (v4, w5)
set_option maxHeartbeats 4000000 in
set_option maxRecDepth 100000 in
theorem kX9_start {l : Launch} {κ : Kp} {N : Nat} {ad : Nat → Nat} {w : Mm} {x1 x2 : Int32} {r : Int32} {w' : Mm} (hN : 26 ≤ N) (hD : Apt ad N) (hf : fX9_start w x1 x2 = some (r, w')) : Met l yX9_start (Cond.code yX9_start cX9_start 4 (some .int) :: TB) (rmX 2 44) (PcX κ (wM κ) N ad w [.ref (ad 0), .int x1, .int x2]) (QI κ (wM κ) N ad w' r) 0 0 (Aof ad N) := by
  refine mkI (by decide +kernel) (Nat.le_of_ble_eq_true rfl) (fun p e R s m args below meth c Q H locs ls hC hRf hRl hP hS hret hl => ?_)
  obtain ⟨hx, hb, hml, hown, hts, hE⟩ := hC
  have hA : ∀ k, k < N → Aof ad N (ad k) := fun k h => Aof_in h
  have hAA : ∀ z, Aof ad N z → Aof ad N z := fun _ h => h
  have hl : lv_has ls 4 [(0, .ref (ad 0)), (1, .int x1), (2, .int x2)] := hl
  unfold fX9_start at hf
  refine lv_aload_n hx hb dX9_start_0 rfl (lv_at hl 0 rfl) ?_
  refine lv_iload_n hx hb dX9_start_1 rfl (lv_at hl 1 rfl) ?_
  obtain ⟨v1, hv, hf⟩ := bs1 hf
  refine x_cVi (As := [.int x1]) (rest := []) hx hb hml hts hown hE hP hS hAA (kX9_isBeast hN hD hv) cl_X9_152 (nm0 hN) oM_0 vc_9 (Nat.le_trans (by decide) hRf) (Nat.le_trans (by decide) hRl) (Nat.zero_le _) (Nat.zero_le _) rfl hl.1 rfl (Nat.le_of_ble_eq_true rfl) dX9_start_2 (fun H locs hP hS => ?_)
  refine lv_if_eq (tgt := 18) hx hb dX9_start_5 (by decide) (fun hc => ?_) (fun hc => ?_)
  · have hf := ip hc hf
    refine lv_iconst (v := (-1)) hx hb dX9_start_18 nc_m1 ?_
    cases hf
    exact hret _ _ _ _ dX9_start_19 hP hS
  · have hf := iq hc hf
    refine lv_iload_n hx hb dX9_start_8 rfl (lv_at hl 2 rfl) ?_
    refine lv_iconst (v := 0) hx hb dX9_start_9 nc_0 ?_
    refine lv_bipush (v := 30) hx hb dX9_start_10 nb_30 ?_
    obtain ⟨v2, hv, hf⟩ := bs1 hf
    refine x_cSi (As := [.int x2, .int 0, .int 30]) (rest := []) hx hb hml hts hown hE hP hS hAA (kX9_in hv) cl_X9_93 (Nat.le_trans (by decide) hRf) (Nat.le_trans (by decide) hRl) (Nat.zero_le _) (Nat.zero_le _) rfl hl.1 rfl (Nat.le_of_ble_eq_true rfl) dX9_start_12 (fun H locs hP hS => ?_)
    refine lv_if_ne (tgt := 20) hx hb dX9_start_15 (by decide) (fun hc => ?_) (fun hc => ?_)
    · have hf := iq hc hf
      refine lv_aload_n hx hb dX9_start_20 rfl (lv_at hl 0 rfl) ?_
      obtain ⟨w3, hv, hf⟩ := bs1 hf
      refine x_cVv (As := []) (rest := []) hx hb hml hts hown hE hP hS hAA (kX9_know hN hD hv) cl_X9_223 (nm0 hN) oM_0 vc_9 (Nat.le_trans (by decide) hRf) (Nat.le_trans (by decide) hRl) (Nat.zero_le _) (Nat.zero_le _) rfl hl.1 rfl (Nat.le_of_ble_eq_true rfl) dX9_start_21 (fun H locs hP hS => ?_)
      refine lv_aload_n hx hb dX9_start_24 rfl (lv_at hl 0 rfl) ?_
      refine x_get hx hb hts hown hE hP fl_X9_62 (nm0 hN) gM_0_20 dX9_start_25 ?_
      refine lv_iconst (v := 0) hx hb dX9_start_28 nc_0 ?_
      refine lv_iload_n hx hb dX9_start_29 rfl (lv_at hl 1 rfl) ?_
      refine lv_iadd hx hb dX9_start_30 ?_
      obtain ⟨v4, hv, hf⟩ := bs1 hf
      refine x_iald hx hb hE hP (nm18 hN) (aM_18 _) hv dX9_start_31 ?_
      refine lv_istore_n (lv' := [(3, .int v4), (0, .ref (ad 0)), (1, .int x1), (2, .int x2)]) hx hb dX9_start_32 rfl hl (by decide) rfl (fun ls hl => ?_)
      refine lv_aload_n hx hb dX9_start_33 rfl (lv_at hl 1 rfl) ?_
      refine x_get hx hb hts hown hE hP fl_X9_62 (nm0 hN) gM_0_20 dX9_start_34 ?_
      refine lv_iconst (v := 0) hx hb dX9_start_37 nc_0 ?_
      refine lv_iload_n hx hb dX9_start_38 rfl (lv_at hl 2 rfl) ?_
      refine lv_iadd hx hb dX9_start_39 ?_
      refine lv_iload_n hx hb dX9_start_40 rfl (lv_at hl 3 rfl) ?_
      obtain ⟨w5, hv, hf⟩ := bs1 hf
      refine x_iast hx hb hE hD hA hP hS (nm18 hN) aM_18 hv dX9_start_41 (fun H locs hP hS => ?_)
      refine lv_iload_n hx hb dX9_start_42 rfl (lv_at hl 0 rfl) ?_
      cases hf
      exact hret _ _ _ _ dX9_start_43 hP hS
    · have hf := ip hc hf
      refine lv_iconst (v := (-1)) hx hb dX9_start_18 nc_m1 ?_
      cases hf
      exact hret _ _ _ _ dX9_start_19 hP hS
def LX9_hasRider_4 (x1 : Int32) (w : Mm) : Nat → Int32 → Int32 → Option (Int32)
  | 0, _, _ => none
  | fu + 1, v1, v2 =>
    bd1 (rd w 2 2 0) fun v5 =>
    if v5 ≤ v2 then
      some (v1)
    else
      bd1 (
        if v1 = 0 then
          bd1 (rd w 18 192 (8 + v2)) fun v8 =>
          if v8 = x1 then
            some (1)
          else
            some (0)
        else
          some (1)) fun (v6 : Int32) =>
      LX9_hasRider_4 x1 w fu v6 (v2 + 1)
def fX9_hasRider (w : Mm) (x1 : Int32) : Option (Int32) :=
  bd1 (LX9_hasRider_4 x1 w 1000 0 0) fun (v4 : Int32) =>
  bd1 (gb v4) fun _ =>
  some v4
set_option maxHeartbeats 4000000 in
set_option maxRecDepth 100000 in
theorem kX9_hasRider {l : Launch} {κ : Kp} {N : Nat} {ad : Nat → Nat} {w : Mm} {x1 : Int32} {r : Int32} (hN : 26 ≤ N) (hD : Apt ad N) (hf : fX9_hasRider w x1 = some r) : Met l yX9_hasRider (Cond.code yX9_hasRider cX9_hasRider 4 (some .boolean) :: TB) (rmX 0 0) (PcX κ (wM κ) N ad w [.ref (ad 0), .int x1]) (QI κ (wM κ) N ad w r) 0 0 (Aof ad N) := by
  refine mkZ (by decide +kernel) (Nat.le_of_ble_eq_true rfl) (fun p e R s m args below meth c Q H locs ls hC hRf hRl hP hS hret hl => ?_)
  obtain ⟨hx, hb, hml, hown, hts, hE⟩ := hC
  have hA : ∀ k, k < N → Aof ad N (ad k) := fun k h => Aof_in h
  have hAA : ∀ z, Aof ad N z → Aof ad N z := fun _ h => h
  have hl : lv_has ls 4 [(0, .ref (ad 0)), (1, .int x1)] := hl
  unfold fX9_hasRider at hf
  refine lv_iconst (v := 0) hx hb dX9_hasRider_0 nc_0 ?_
  refine lv_istore_n (lv' := [(2, .int 0), (0, .ref (ad 0)), (1, .int x1)]) hx hb dX9_hasRider_1 rfl hl (by decide) rfl (fun ls hl => ?_)
  refine lv_iconst (v := 0) hx hb dX9_hasRider_2 nc_0 ?_
  refine lv_istore_n (lv' := [(3, .int 0), (2, .int 0), (0, .ref (ad 0)), (1, .int x1)]) hx hb dX9_hasRider_3 rfl hl (by decide) rfl (fun ls hl => ?_)
  obtain ⟨v4, hq3, hf⟩ := bs1 hf
  have hJ3 : ∀ (H : Heap) (locs : List Loc) (ls : Array Slot), Ho κ (wM κ) N ad w H → va_S (Aof ad N) s.heap H locs → lv_has ls 4 [(2, .int v4)] → W p l e R s m args below meth c H locs 0 0 Q (F0 m 43 ls []) := by
    intro H locs ls hP hS hl
    refine lv_iload_n hx hb dX9_hasRider_43 rfl (lv_at hl 0 rfl) ?_
    obtain ⟨_, hgb, hf⟩ := bs1 hf
    cases hf
    exact hret _ _ _ _ dX9_hasRider_44 (gb_some hgb) hP hS
  clear hf
  have hf := hq3
  clear hq3
  have hL3 : ∀ (fu : Nat) (v1 : Int32) (v2 : Int32) (H : Heap) (locs : List Loc) (ls : Array Slot), LX9_hasRider_4 x1 w fu v1 v2 = some (v4) → Ho κ (wM κ) N ad w H → va_S (Aof ad N) s.heap H locs → lv_has ls 4 [(0, .ref (ad 0)), (1, .int x1), (2, .int v1), (3, .int v2)] → W p l e R s m args below meth c H locs 0 0 Q (F0 m 4 ls []) := by
    intro fu
    induction fu with
    | zero =>
      intro v1 v2 H locs ls hf
      rw [LX9_hasRider_4] at hf
      cases hf
    | succ fu ih =>
      intro v1 v2 H locs ls hf hP hS hl
      rw [LX9_hasRider_4] at hf
      refine lv_iload_n hx hb dX9_hasRider_4 rfl (lv_at hl 3 rfl) ?_
      refine lv_aload_n hx hb dX9_hasRider_5 rfl (lv_at hl 0 rfl) ?_
      refine x_get hx hb hts hown hE hP fl_X9_13 (nm0 hN) gM_0_2 dX9_hasRider_6 ?_
      refine lv_iconst (v := 0) hx hb dX9_hasRider_9 nc_0 ?_
      obtain ⟨v5, hv, hf⟩ := bs1 hf
      refine x_iald hx hb hE hP (nm2 hN) (aM_2 _) hv dX9_hasRider_10 ?_
      refine lv_icmp_ge (tgt := 43) hx hb dX9_hasRider_11 (by decide) (fun hc => ?_) (fun hc => ?_)
      · have hf := ip hc hf
        cases hf
        exact hJ3 _ _ _ hP hS (lv_sub hl [2] rfl)
      · have hf := iq hc hf
        refine lv_iload_n hx hb dX9_hasRider_14 rfl (lv_at hl 2 rfl) ?_
        obtain ⟨v6, hq7, hf⟩ := bs1 hf
        have hJ7 : ∀ (H : Heap) (locs : List Loc) (ls : Array Slot), Ho κ (wM κ) N ad w H → va_S (Aof ad N) s.heap H locs → lv_has ls 4 [(0, .ref (ad 0)), (1, .int x1), (3, .int v2)] → W p l e R s m args below meth c H locs 0 0 Q (F0 m 36 ls [.int v6]) := by
          intro H locs ls hP hS hl
          refine lv_istore_n (lv' := [(2, .int v6), (0, .ref (ad 0)), (1, .int x1), (3, .int v2)]) hx hb dX9_hasRider_36 rfl hl (by decide) rfl (fun ls hl => ?_)
          refine lv_iinc (v := (v2 + 1)) (lv' := [(3, .int (v2 + 1)), (2, .int v6), (0, .ref (ad 0)), (1, .int x1)]) hx hb dX9_hasRider_37 hl (k := 3) rfl (ni_1 _) (by decide) rfl (fun ls hl => ?_)
          refine lv_goto (tgt := 4) hx hb dX9_hasRider_40 (by decide) ?_
          exact ih _ _ _ _ _ hf hP hS (lv_sub hl [2, 3, 1, 0] rfl)
        clear hf
        have hf := hq7
        clear hq7
        refine lv_if_ne (tgt := 31) hx hb dX9_hasRider_15 (by decide) (fun hc => ?_) (fun hc => ?_)
        · have hf := iq hc hf
          refine lv_iconst (v := 1) hx hb dX9_hasRider_31 nc_1 ?_
          refine lv_goto (tgt := 36) hx hb dX9_hasRider_32 (by decide) ?_
          cases hf
          exact hJ7 _ _ _ hP hS (lv_sub hl [0, 1, 3] rfl)
        · have hf := ip hc hf
          refine lv_aload_n hx hb dX9_hasRider_18 rfl (lv_at hl 0 rfl) ?_
          refine x_get hx hb hts hown hE hP fl_X9_62 (nm0 hN) gM_0_20 dX9_hasRider_19 ?_
          refine lv_bipush (v := 8) hx hb dX9_hasRider_22 nb_8 ?_
          refine lv_iload_n hx hb dX9_hasRider_24 rfl (lv_at hl 3 rfl) ?_
          refine lv_iadd hx hb dX9_hasRider_25 ?_
          obtain ⟨v8, hv, hf⟩ := bs1 hf
          refine x_iald hx hb hE hP (nm18 hN) (aM_18 _) hv dX9_hasRider_26 ?_
          refine lv_iload_n hx hb dX9_hasRider_27 rfl (lv_at hl 1 rfl) ?_
          refine lv_icmp_ne (tgt := 35) hx hb dX9_hasRider_28 (by decide) (fun hc => ?_) (fun hc => ?_)
          · have hf := iq hc hf
            refine lv_iconst (v := 0) hx hb dX9_hasRider_35 nc_0 ?_
            cases hf
            exact hJ7 _ _ _ hP hS (lv_sub hl [0, 1, 3] rfl)
          · have hf := ip hc hf
            refine lv_iconst (v := 1) hx hb dX9_hasRider_31 nc_1 ?_
            refine lv_goto (tgt := 36) hx hb dX9_hasRider_32 (by decide) ?_
            cases hf
            exact hJ7 _ _ _ hP hS (lv_sub hl [0, 1, 3] rfl)
  exact hL3 _ _ _ _ _ _ hf hP hS (lv_sub hl [2, 3, 1, 0] rfl)
def fX9_ride (w : Mm) (x1 x2 : Int32) : Option (Int32 × Mm) :=
  bd1 (fX9_isBeast w x1) fun v1 =>
  if v1 = 0 then
    some ((-1), w)
  else
    bd1 (fX9_isBeast w x2) fun v2 =>
    if v2 = 0 then
      some ((-1), w)
    else
      if x1 = x2 then
        some ((-1), w)
      else
        bd1 (rd w 18 192 (8 + x2)) fun v3 =>
        if v3 = (-4) then
          bd1 (fX9_hasRider w x1) fun v4 =>
          if v4 = 0 then
            bd1 (fX9_raftOf w x1) fun v5 =>
            if v5 = (-4) then
              bd1 (fX9_know w) fun w6 =>
              bd1 (rd w6 18 192 (8 + x1)) fun v7 =>
              bd1 (wr w6 18 192 (8 + x1) x2) fun w8 =>
              some (v7, w8)
            else
              some ((-2), w)
          else
            some ((-2), w)
        else
          some ((-2), w)
set_option maxHeartbeats 4000000 in
set_option maxRecDepth 100000 in
theorem kX9_ride {l : Launch} {κ : Kp} {N : Nat} {ad : Nat → Nat} {w : Mm} {x1 x2 : Int32} {r : Int32} {w' : Mm} (hN : 26 ≤ N) (hD : Apt ad N) (hf : fX9_ride w x1 x2 = some (r, w')) : Met l yX9_ride (Cond.code yX9_ride cX9_ride 4 (some .int) :: TB) (rmX 2 44) (PcX κ (wM κ) N ad w [.ref (ad 0), .int x1, .int x2]) (QI κ (wM κ) N ad w' r) 0 0 (Aof ad N) := by
  refine mkI (by decide +kernel) (Nat.le_of_ble_eq_true rfl) (fun p e R s m args below meth c Q H locs ls hC hRf hRl hP hS hret hl => ?_)
  obtain ⟨hx, hb, hml, hown, hts, hE⟩ := hC
  have hA : ∀ k, k < N → Aof ad N (ad k) := fun k h => Aof_in h
  have hAA : ∀ z, Aof ad N z → Aof ad N z := fun _ h => h
  have hl : lv_has ls 4 [(0, .ref (ad 0)), (1, .int x1), (2, .int x2)] := hl
  unfold fX9_ride at hf
  refine lv_aload_n hx hb dX9_ride_0 rfl (lv_at hl 0 rfl) ?_
  refine lv_iload_n hx hb dX9_ride_1 rfl (lv_at hl 1 rfl) ?_
  obtain ⟨v1, hv, hf⟩ := bs1 hf
  refine x_cVi (As := [.int x1]) (rest := []) hx hb hml hts hown hE hP hS hAA (kX9_isBeast hN hD hv) cl_X9_152 (nm0 hN) oM_0 vc_9 (Nat.le_trans (by decide) hRf) (Nat.le_trans (by decide) hRl) (Nat.zero_le _) (Nat.zero_le _) rfl hl.1 rfl (Nat.le_of_ble_eq_true rfl) dX9_ride_2 (fun H locs hP hS => ?_)
  refine lv_if_eq (tgt := 21) hx hb dX9_ride_5 (by decide) (fun hc => ?_) (fun hc => ?_)
  · have hf := ip hc hf
    refine lv_iconst (v := (-1)) hx hb dX9_ride_21 nc_m1 ?_
    cases hf
    exact hret _ _ _ _ dX9_ride_22 hP hS
  · have hf := iq hc hf
    refine lv_aload_n hx hb dX9_ride_8 rfl (lv_at hl 0 rfl) ?_
    refine lv_iload_n hx hb dX9_ride_9 rfl (lv_at hl 2 rfl) ?_
    obtain ⟨v2, hv, hf⟩ := bs1 hf
    refine x_cVi (As := [.int x2]) (rest := []) hx hb hml hts hown hE hP hS hAA (kX9_isBeast hN hD hv) cl_X9_152 (nm0 hN) oM_0 vc_9 (Nat.le_trans (by decide) hRf) (Nat.le_trans (by decide) hRl) (Nat.zero_le _) (Nat.zero_le _) rfl hl.1 rfl (Nat.le_of_ble_eq_true rfl) dX9_ride_10 (fun H locs hP hS => ?_)
    refine lv_if_eq (tgt := 21) hx hb dX9_ride_13 (by decide) (fun hc => ?_) (fun hc => ?_)
    · have hf := ip hc hf
      refine lv_iconst (v := (-1)) hx hb dX9_ride_21 nc_m1 ?_
      cases hf
      exact hret _ _ _ _ dX9_ride_22 hP hS
    · have hf := iq hc hf
      refine lv_iload_n hx hb dX9_ride_16 rfl (lv_at hl 1 rfl) ?_
      refine lv_iload_n hx hb dX9_ride_17 rfl (lv_at hl 2 rfl) ?_
      refine lv_icmp_ne (tgt := 23) hx hb dX9_ride_18 (by decide) (fun hc => ?_) (fun hc => ?_)
      · have hf := iq hc hf
        refine lv_aload_n hx hb dX9_ride_23 rfl (lv_at hl 0 rfl) ?_
        refine x_get hx hb hts hown hE hP fl_X9_62 (nm0 hN) gM_0_20 dX9_ride_24 ?_
        refine lv_bipush (v := 8) hx hb dX9_ride_27 nb_8 ?_
        refine lv_iload_n hx hb dX9_ride_29 rfl (lv_at hl 2 rfl) ?_
        refine lv_iadd hx hb dX9_ride_30 ?_
        obtain ⟨v3, hv, hf⟩ := bs1 hf
        refine x_iald hx hb hE hP (nm18 hN) (aM_18 _) hv dX9_ride_31 ?_
        refine lv_bipush (v := (-4)) hx hb dX9_ride_32 nb_m4 ?_
        refine lv_icmp_ne (tgt := 55) hx hb dX9_ride_34 (by decide) (fun hc => ?_) (fun hc => ?_)
        · have hf := iq hc hf
          refine lv_bipush (v := (-2)) hx hb dX9_ride_55 nb_m2 ?_
          cases hf
          exact hret _ _ _ _ dX9_ride_57 hP hS
        · have hf := ip hc hf
          refine lv_aload_n hx hb dX9_ride_37 rfl (lv_at hl 0 rfl) ?_
          refine lv_iload_n hx hb dX9_ride_38 rfl (lv_at hl 1 rfl) ?_
          obtain ⟨v4, hv, hf⟩ := bs1 hf
          refine x_cVi (As := [.int x1]) (rest := []) hx hb hml hts hown hE hP hS hAA (kX9_hasRider hN hD hv) cl_X9_226 (nm0 hN) oM_0 vc_9 (Nat.le_trans (by decide) hRf) (Nat.le_trans (by decide) hRl) (Nat.zero_le _) (Nat.zero_le _) rfl hl.1 rfl (Nat.le_of_ble_eq_true rfl) dX9_ride_39 (fun H locs hP hS => ?_)
          refine lv_if_ne (tgt := 55) hx hb dX9_ride_42 (by decide) (fun hc => ?_) (fun hc => ?_)
          · have hf := iq hc hf
            refine lv_bipush (v := (-2)) hx hb dX9_ride_55 nb_m2 ?_
            cases hf
            exact hret _ _ _ _ dX9_ride_57 hP hS
          · have hf := ip hc hf
            refine lv_aload_n hx hb dX9_ride_45 rfl (lv_at hl 0 rfl) ?_
            refine lv_iload_n hx hb dX9_ride_46 rfl (lv_at hl 1 rfl) ?_
            obtain ⟨v5, hv, hf⟩ := bs1 hf
            refine x_cVi (As := [.int x1]) (rest := []) hx hb hml hts hown hE hP hS hAA (kX9_raftOf hN hD hv) cl_X9_156 (nm0 hN) oM_0 vc_9 (Nat.le_trans (by decide) hRf) (Nat.le_trans (by decide) hRl) (Nat.zero_le _) (Nat.zero_le _) rfl hl.1 rfl (Nat.le_of_ble_eq_true rfl) dX9_ride_47 (fun H locs hP hS => ?_)
            refine lv_bipush (v := (-4)) hx hb dX9_ride_50 nb_m4 ?_
            refine lv_icmp_eq (tgt := 58) hx hb dX9_ride_52 (by decide) (fun hc => ?_) (fun hc => ?_)
            · have hf := ip hc hf
              refine lv_aload_n hx hb dX9_ride_58 rfl (lv_at hl 0 rfl) ?_
              obtain ⟨w6, hv, hf⟩ := bs1 hf
              refine x_cVv (As := []) (rest := []) hx hb hml hts hown hE hP hS hAA (kX9_know hN hD hv) cl_X9_223 (nm0 hN) oM_0 vc_9 (Nat.le_trans (by decide) hRf) (Nat.le_trans (by decide) hRl) (Nat.zero_le _) (Nat.zero_le _) rfl hl.1 rfl (Nat.le_of_ble_eq_true rfl) dX9_ride_59 (fun H locs hP hS => ?_)
              refine lv_aload_n hx hb dX9_ride_62 rfl (lv_at hl 0 rfl) ?_
              refine x_get hx hb hts hown hE hP fl_X9_62 (nm0 hN) gM_0_20 dX9_ride_63 ?_
              refine lv_bipush (v := 8) hx hb dX9_ride_66 nb_8 ?_
              refine lv_iload_n hx hb dX9_ride_68 rfl (lv_at hl 1 rfl) ?_
              refine lv_iadd hx hb dX9_ride_69 ?_
              obtain ⟨v7, hv, hf⟩ := bs1 hf
              refine x_iald hx hb hE hP (nm18 hN) (aM_18 _) hv dX9_ride_70 ?_
              refine lv_istore_n (lv' := [(3, .int v7), (0, .ref (ad 0)), (1, .int x1), (2, .int x2)]) hx hb dX9_ride_71 rfl hl (by decide) rfl (fun ls hl => ?_)
              refine lv_aload_n hx hb dX9_ride_72 rfl (lv_at hl 1 rfl) ?_
              refine x_get hx hb hts hown hE hP fl_X9_62 (nm0 hN) gM_0_20 dX9_ride_73 ?_
              refine lv_bipush (v := 8) hx hb dX9_ride_76 nb_8 ?_
              refine lv_iload_n hx hb dX9_ride_78 rfl (lv_at hl 2 rfl) ?_
              refine lv_iadd hx hb dX9_ride_79 ?_
              refine lv_iload_n hx hb dX9_ride_80 rfl (lv_at hl 3 rfl) ?_
              obtain ⟨w8, hv, hf⟩ := bs1 hf
              refine x_iast hx hb hE hD hA hP hS (nm18 hN) aM_18 hv dX9_ride_81 (fun H locs hP hS => ?_)
              refine lv_iload_n hx hb dX9_ride_82 rfl (lv_at hl 0 rfl) ?_
              cases hf
              exact hret _ _ _ _ dX9_ride_83 hP hS
            · have hf := iq hc hf
              refine lv_bipush (v := (-2)) hx hb dX9_ride_55 nb_m2 ?_
              cases hf
              exact hret _ _ _ _ dX9_ride_57 hP hS
      · have hf := ip hc hf
        refine lv_iconst (v := (-1)) hx hb dX9_ride_21 nc_m1 ?_
        cases hf
        exact hret _ _ _ _ dX9_ride_22 hP hS
def fX9_leave (w : Mm) (x1 : Int32) : Option (Int32 × Mm) :=
  bd1 (fX9_isBeast w x1) fun v1 =>
  if v1 = 0 then
    some ((-1), w)
  else
    bd1 (rd w 18 192 (8 + x1)) fun v2 =>
    if v2 = (-4) then
      some ((-2), w)
    else
      bd1 (fX9_know w) fun w3 =>
      bd1 (rd w3 18 192 (8 + x1)) fun v4 =>
      bd1 (wr w3 18 192 (8 + x1) (-4)) fun w5 =>
      some (v4, w5)
set_option maxHeartbeats 4000000 in
set_option maxRecDepth 100000 in
theorem kX9_leave {l : Launch} {κ : Kp} {N : Nat} {ad : Nat → Nat} {w : Mm} {x1 : Int32} {r : Int32} {w' : Mm} (hN : 26 ≤ N) (hD : Apt ad N) (hf : fX9_leave w x1 = some (r, w')) : Met l yX9_leave (Cond.code yX9_leave cX9_leave 3 (some .int) :: TB) (rmX 2 44) (PcX κ (wM κ) N ad w [.ref (ad 0), .int x1]) (QI κ (wM κ) N ad w' r) 0 0 (Aof ad N) := by
  refine mkI (by decide +kernel) (Nat.le_of_ble_eq_true rfl) (fun p e R s m args below meth c Q H locs ls hC hRf hRl hP hS hret hl => ?_)
  obtain ⟨hx, hb, hml, hown, hts, hE⟩ := hC
  have hA : ∀ k, k < N → Aof ad N (ad k) := fun k h => Aof_in h
  have hAA : ∀ z, Aof ad N z → Aof ad N z := fun _ h => h
  have hl : lv_has ls 3 [(0, .ref (ad 0)), (1, .int x1)] := hl
  unfold fX9_leave at hf
  refine lv_aload_n hx hb dX9_leave_0 rfl (lv_at hl 0 rfl) ?_
  refine lv_iload_n hx hb dX9_leave_1 rfl (lv_at hl 1 rfl) ?_
  obtain ⟨v1, hv, hf⟩ := bs1 hf
  refine x_cVi (As := [.int x1]) (rest := []) hx hb hml hts hown hE hP hS hAA (kX9_isBeast hN hD hv) cl_X9_152 (nm0 hN) oM_0 vc_9 (Nat.le_trans (by decide) hRf) (Nat.le_trans (by decide) hRl) (Nat.zero_le _) (Nat.zero_le _) rfl hl.1 rfl (Nat.le_of_ble_eq_true rfl) dX9_leave_2 (fun H locs hP hS => ?_)
  refine lv_if_ne (tgt := 10) hx hb dX9_leave_5 (by decide) (fun hc => ?_) (fun hc => ?_)
  · have hf := iq hc hf
    refine lv_aload_n hx hb dX9_leave_10 rfl (lv_at hl 0 rfl) ?_
    refine x_get hx hb hts hown hE hP fl_X9_62 (nm0 hN) gM_0_20 dX9_leave_11 ?_
    refine lv_bipush (v := 8) hx hb dX9_leave_14 nb_8 ?_
    refine lv_iload_n hx hb dX9_leave_16 rfl (lv_at hl 1 rfl) ?_
    refine lv_iadd hx hb dX9_leave_17 ?_
    obtain ⟨v2, hv, hf⟩ := bs1 hf
    refine x_iald hx hb hE hP (nm18 hN) (aM_18 _) hv dX9_leave_18 ?_
    refine lv_bipush (v := (-4)) hx hb dX9_leave_19 nb_m4 ?_
    refine lv_icmp_ne (tgt := 27) hx hb dX9_leave_21 (by decide) (fun hc => ?_) (fun hc => ?_)
    · have hf := iq hc hf
      refine lv_aload_n hx hb dX9_leave_27 rfl (lv_at hl 0 rfl) ?_
      obtain ⟨w3, hv, hf⟩ := bs1 hf
      refine x_cVv (As := []) (rest := []) hx hb hml hts hown hE hP hS hAA (kX9_know hN hD hv) cl_X9_223 (nm0 hN) oM_0 vc_9 (Nat.le_trans (by decide) hRf) (Nat.le_trans (by decide) hRl) (Nat.zero_le _) (Nat.zero_le _) rfl hl.1 rfl (Nat.le_of_ble_eq_true rfl) dX9_leave_28 (fun H locs hP hS => ?_)
      refine lv_aload_n hx hb dX9_leave_31 rfl (lv_at hl 0 rfl) ?_
      refine x_get hx hb hts hown hE hP fl_X9_62 (nm0 hN) gM_0_20 dX9_leave_32 ?_
      refine lv_bipush (v := 8) hx hb dX9_leave_35 nb_8 ?_
      refine lv_iload_n hx hb dX9_leave_37 rfl (lv_at hl 1 rfl) ?_
      refine lv_iadd hx hb dX9_leave_38 ?_
      obtain ⟨v4, hv, hf⟩ := bs1 hf
      refine x_iald hx hb hE hP (nm18 hN) (aM_18 _) hv dX9_leave_39 ?_
      refine lv_istore_n (lv' := [(2, .int v4), (0, .ref (ad 0)), (1, .int x1)]) hx hb dX9_leave_40 rfl hl (by decide) rfl (fun ls hl => ?_)
      refine lv_aload_n hx hb dX9_leave_41 rfl (lv_at hl 1 rfl) ?_
      refine x_get hx hb hts hown hE hP fl_X9_62 (nm0 hN) gM_0_20 dX9_leave_42 ?_
      refine lv_bipush (v := 8) hx hb dX9_leave_45 nb_8 ?_
      refine lv_iload_n hx hb dX9_leave_47 rfl (lv_at hl 2 rfl) ?_
      refine lv_iadd hx hb dX9_leave_48 ?_
      refine lv_bipush (v := (-4)) hx hb dX9_leave_49 nb_m4 ?_
      obtain ⟨w5, hv, hf⟩ := bs1 hf
      refine x_iast hx hb hE hD hA hP hS (nm18 hN) aM_18 hv dX9_leave_51 (fun H locs hP hS => ?_)
      refine lv_iload_n hx hb dX9_leave_52 rfl (lv_at hl 0 rfl) ?_
      cases hf
      exact hret _ _ _ _ dX9_leave_53 hP hS
    · have hf := ip hc hf
      refine lv_bipush (v := (-2)) hx hb dX9_leave_24 nb_m2 ?_
      cases hf
      exact hret _ _ _ _ dX9_leave_26 hP hS
  · have hf := ip hc hf
    refine lv_iconst (v := (-1)) hx hb dX9_leave_8 nc_m1 ?_
    cases hf
    exact hret _ _ _ _ dX9_leave_9 hP hS
def fX9_undo (w : Mm) : Option (Int32 × Mm) :=
  if (w 0 21) = 0 then
    some ((-2), w)
  else
    bd1 (pt w 0 21 ((w 0 21) - 1)) fun w1 =>
    bd1 (fX9_copy w1 (16 + (16 * (w1 0 21))) 0) fun w2 =>
    some ((w2 0 21), w2)
set_option maxHeartbeats 4000000 in
set_option maxRecDepth 100000 in
theorem kX9_undo {l : Launch} {κ : Kp} {N : Nat} {ad : Nat → Nat} {w : Mm} {r : Int32} {w' : Mm} (hN : 26 ≤ N) (hD : Apt ad N) (hf : fX9_undo w = some (r, w')) : Met l yX9_undo (Cond.code yX9_undo cX9_undo 1 (some .int) :: TB) (rmX 1 23) (PcX κ (wM κ) N ad w [.ref (ad 0)]) (QI κ (wM κ) N ad w' r) 0 0 (Aof ad N) := by
  refine mkI (by decide +kernel) (Nat.le_of_ble_eq_true rfl) (fun p e R s m args below meth c Q H locs ls hC hRf hRl hP hS hret hl => ?_)
  obtain ⟨hx, hb, hml, hown, hts, hE⟩ := hC
  have hA : ∀ k, k < N → Aof ad N (ad k) := fun k h => Aof_in h
  have hAA : ∀ z, Aof ad N z → Aof ad N z := fun _ h => h
  have hl : lv_has ls 1 [(0, .ref (ad 0))] := hl
  unfold fX9_undo at hf
  refine lv_aload_n hx hb dX9_undo_0 rfl (lv_at hl 0 rfl) ?_
  refine x_get hx hb hts hown hE hP fl_X9_143 (nm0 hN) gM_0_21 dX9_undo_1 ?_
  refine lv_if_ne (tgt := 10) hx hb dX9_undo_4 (by decide) (fun hc => ?_) (fun hc => ?_)
  · have hf := iq hc hf
    refine lv_aload_n hx hb dX9_undo_10 rfl (lv_at hl 0 rfl) ?_
    refine lv_dup hx hb dX9_undo_11 rfl ?_
    refine x_get hx hb hts hown hE hP fl_X9_143 (nm0 hN) gM_0_21 dX9_undo_12 ?_
    refine lv_iconst (v := 1) hx hb dX9_undo_15 nc_1 ?_
    refine lv_isub hx hb dX9_undo_16 ?_
    obtain ⟨w1, hv, hf⟩ := bs1 hf
    refine x_put hx hb hts hown hE hD hA hP hS fp_X9_143 (nm0 hN) pM_0_21 rfl rfl hv dX9_undo_17 (fun H locs hP hS => ?_)
    refine lv_aload_n hx hb dX9_undo_20 rfl (lv_at hl 0 rfl) ?_
    refine lv_bipush (v := 16) hx hb dX9_undo_21 nb_16 ?_
    refine lv_bipush (v := 16) hx hb dX9_undo_23 nb_16 ?_
    refine lv_aload_n hx hb dX9_undo_25 rfl (lv_at hl 0 rfl) ?_
    refine x_get hx hb hts hown hE hP fl_X9_143 (nm0 hN) gM_0_21 dX9_undo_26 ?_
    refine lv_imul hx hb dX9_undo_29 ?_
    refine lv_iadd hx hb dX9_undo_30 ?_
    refine lv_iconst (v := 0) hx hb dX9_undo_31 nc_0 ?_
    obtain ⟨w2, hv, hf⟩ := bs1 hf
    refine x_cVv (As := [.int (16 + (16 * (w1 0 21))), .int 0]) (rest := []) hx hb hml hts hown hE hP hS hAA (kX9_copy hN hD hv) cl_X9_220 (nm0 hN) oM_0 vc_9 (Nat.le_trans (by decide) hRf) (Nat.le_trans (by decide) hRl) (Nat.zero_le _) (Nat.zero_le _) rfl hl.1 rfl (Nat.le_of_ble_eq_true rfl) dX9_undo_32 (fun H locs hP hS => ?_)
    refine lv_aload_n hx hb dX9_undo_35 rfl (lv_at hl 0 rfl) ?_
    refine x_get hx hb hts hown hE hP fl_X9_143 (nm0 hN) gM_0_21 dX9_undo_36 ?_
    cases hf
    exact hret _ _ _ _ dX9_undo_39 hP hS
  · have hf := ip hc hf
    refine lv_bipush (v := (-2)) hx hb dX9_undo_7 nb_m2 ?_
    cases hf
    exact hret _ _ _ _ dX9_undo_9 hP hS
