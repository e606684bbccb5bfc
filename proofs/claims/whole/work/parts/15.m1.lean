def fX9_in (x0 x1 x2 : Int32) : Option (Int32) :=
  if x0 < x1 then
    some 0
  else
    if x2 < x0 then
      some 0
    else
      some 1
set_option maxHeartbeats 4000000 in
set_option maxRecDepth 100000 in
theorem kX9_in {l : Launch} {κ : Kp} {cf : cfT} {N : Nat} {ad : Nat → Nat} {σ : Mm} {x0 x1 x2 : Int32} {r : Int32} (hf : fX9_in x0 x1 x2 = some r) : Met l yX9_in (Cond.code yX9_in cX9_in 3 (some .boolean) :: TB) (rmX 0 0) (PcX κ cf N ad σ [.int x0, .int x1, .int x2]) (QI κ cf N ad σ r) 0 0 (Aof ad N) := by
  refine mkZ (by decide +kernel) (Nat.le_of_ble_eq_true rfl) (fun p e R s m args below meth c Q H locs ls hC hRf hRl hP hS hret hl => ?_)
  obtain ⟨hx, hb, hml, hown, hts, hE⟩ := hC
  have hAA : ∀ z, Aof ad N z → Aof ad N z := fun _ h => h
  have hl : lv_has ls 3 [(0, .int x0), (1, .int x1), (2, .int x2)] := hl
  unfold fX9_in at hf
  refine lv_iload_n hx hb dX9_in_0 rfl (lv_at hl 0 rfl) ?_
  refine lv_iload_n hx hb dX9_in_1 rfl (lv_at hl 1 rfl) ?_
  refine lv_icmp_lt (tgt := 14) hx hb dX9_in_2 (by decide) (fun hc => ?_) (fun hc => ?_)
  · have hf := ip hc hf
    refine lv_iconst (v := 0) hx hb dX9_in_14 nc_0 ?_
    cases hf
    exact hret _ _ _ _ dX9_in_15 (Or.inl rfl) hP hS
  · have hf := iq hc hf
    refine lv_iload_n hx hb dX9_in_5 rfl (lv_at hl 0 rfl) ?_
    refine lv_iload_n hx hb dX9_in_6 rfl (lv_at hl 2 rfl) ?_
    refine lv_icmp_gt (tgt := 14) hx hb dX9_in_7 (by decide) (fun hc => ?_) (fun hc => ?_)
    · have hf := ip hc hf
      refine lv_iconst (v := 0) hx hb dX9_in_14 nc_0 ?_
      cases hf
      exact hret _ _ _ _ dX9_in_15 (Or.inl rfl) hP hS
    · have hf := iq hc hf
      refine lv_iconst (v := 1) hx hb dX9_in_10 nc_1 ?_
      refine lv_goto (tgt := 15) hx hb dX9_in_11 (by decide) ?_
      cases hf
      exact hret _ _ _ _ dX9_in_15 (Or.inr rfl) hP hS
def fX9_write (w : Mm) (x1 : Int32) : Option (Int32 × Mm) :=
  bd1 (fX9_in x1 32 126) fun v1 =>
  if v1 = 0 then
    some ((-1), w)
  else
    if (w 0 1) = 200 then
      some ((-3), w)
    else
      bd1 (wr w 1 200 (w 0 1) (x1.toInt8.toInt32)) fun w2 =>
      bd1 (pt w2 0 1 ((w2 0 1) + 1)) fun w3 =>
      some ((w3 0 1), w3)
set_option maxHeartbeats 4000000 in
set_option maxRecDepth 100000 in
theorem kX9_write {l : Launch} {κ : Kp} {N : Nat} {ad : Nat → Nat} {w : Mm} {x1 : Int32} {r : Int32} {w' : Mm} (hN : 26 ≤ N) (hD : Apt ad N) (hf : fX9_write w x1 = some (r, w')) : Met l yX9_write (Cond.code yX9_write cX9_write 2 (some .int) :: TB) (rmX 1 22) (PcX κ (wM κ) N ad w [.ref (ad 0), .int x1]) (QI κ (wM κ) N ad w' r) 0 0 (Aof ad N) := by
  refine mkI (by decide +kernel) (Nat.le_of_ble_eq_true rfl) (fun p e R s m args below meth c Q H locs ls hC hRf hRl hP hS hret hl => ?_)
  obtain ⟨hx, hb, hml, hown, hts, hE⟩ := hC
  have hA : ∀ k, k < N → Aof ad N (ad k) := fun k h => Aof_in h
  have hAA : ∀ z, Aof ad N z → Aof ad N z := fun _ h => h
  have hl : lv_has ls 2 [(0, .ref (ad 0)), (1, .int x1)] := hl
  unfold fX9_write at hf
  refine lv_iload_n hx hb dX9_write_0 rfl (lv_at hl 1 rfl) ?_
  refine lv_bipush (v := 32) hx hb dX9_write_1 nb_32 ?_
  refine lv_bipush (v := 126) hx hb dX9_write_3 nb_126 ?_
  obtain ⟨v1, hv, hf⟩ := bs1 hf
  refine x_cSi (As := [.int x1, .int 32, .int 126]) (rest := []) hx hb hml hts hown hE hP hS hAA (kX9_in hv) cl_X9_93 (Nat.le_trans (by decide) hRf) (Nat.le_trans (by decide) hRl) (Nat.zero_le _) (Nat.zero_le _) rfl hl.1 rfl (Nat.le_of_ble_eq_true rfl) dX9_write_5 (fun H locs hP hS => ?_)
  refine lv_if_ne (tgt := 13) hx hb dX9_write_8 (by decide) (fun hc => ?_) (fun hc => ?_)
  · have hf := iq hc hf
    refine lv_aload_n hx hb dX9_write_13 rfl (lv_at hl 0 rfl) ?_
    refine x_get hx hb hts hown hE hP fl_X9_97 (nm0 hN) gM_0_1 dX9_write_14 ?_
    refine lv_sipush (v := 200) hx hb dX9_write_17 ns_200 ?_
    refine lv_icmp_ne (tgt := 26) hx hb dX9_write_20 (by decide) (fun hc => ?_) (fun hc => ?_)
    · have hf := iq hc hf
      refine lv_aload_n hx hb dX9_write_26 rfl (lv_at hl 0 rfl) ?_
      refine x_get hx hb hts hown hE hP fl_X9_7 (nm0 hN) gM_0_0 dX9_write_27 ?_
      refine lv_aload_n hx hb dX9_write_30 rfl (lv_at hl 0 rfl) ?_
      refine x_get hx hb hts hown hE hP fl_X9_97 (nm0 hN) gM_0_1 dX9_write_31 ?_
      refine lv_iload_n hx hb dX9_write_34 rfl (lv_at hl 1 rfl) ?_
      refine lv_i2b hx hb dX9_write_35 rfl ?_
      obtain ⟨w2, hv, hf⟩ := bs1 hf
      refine x_bast hx hb hE hD hA hP hS (nm1 hN) aM_1 (pk_vb _) hv dX9_write_36 (fun H locs hP hS => ?_)
      refine lv_aload_n hx hb dX9_write_37 rfl (lv_at hl 0 rfl) ?_
      refine lv_dup hx hb dX9_write_38 rfl ?_
      refine x_get hx hb hts hown hE hP fl_X9_97 (nm0 hN) gM_0_1 dX9_write_39 ?_
      refine lv_iconst (v := 1) hx hb dX9_write_42 nc_1 ?_
      refine lv_iadd hx hb dX9_write_43 ?_
      obtain ⟨w3, hv, hf⟩ := bs1 hf
      refine x_put hx hb hts hown hE hD hA hP hS fp_X9_97 (nm0 hN) pM_0_1 rfl rfl hv dX9_write_44 (fun H locs hP hS => ?_)
      refine lv_aload_n hx hb dX9_write_47 rfl (lv_at hl 0 rfl) ?_
      refine x_get hx hb hts hown hE hP fl_X9_97 (nm0 hN) gM_0_1 dX9_write_48 ?_
      cases hf
      exact hret _ _ _ _ dX9_write_51 hP hS
    · have hf := ip hc hf
      refine lv_bipush (v := (-3)) hx hb dX9_write_23 nb_m3 ?_
      cases hf
      exact hret _ _ _ _ dX9_write_25 hP hS
  · have hf := ip hc hf
    refine lv_iconst (v := (-1)) hx hb dX9_write_11 nc_m1 ?_
    cases hf
    exact hret _ _ _ _ dX9_write_12 hP hS
def fX9_wipe (w : Mm) : Option (Int32 × Mm) :=
  bd1 (pt w 0 1 0) fun w1 =>
  some ((w 0 1), w1)
set_option maxHeartbeats 4000000 in
set_option maxRecDepth 100000 in
theorem kX9_wipe {l : Launch} {κ : Kp} {N : Nat} {ad : Nat → Nat} {w : Mm} {r : Int32} {w' : Mm} (hN : 26 ≤ N) (hD : Apt ad N) (hf : fX9_wipe w = some (r, w')) : Met l yX9_wipe (Cond.code yX9_wipe cX9_wipe 2 (some .int) :: TB) (rmX 0 0) (PcX κ (wM κ) N ad w [.ref (ad 0)]) (QI κ (wM κ) N ad w' r) 0 0 (Aof ad N) := by
  refine mkI (by decide +kernel) (Nat.le_of_ble_eq_true rfl) (fun p e R s m args below meth c Q H locs ls hC hRf hRl hP hS hret hl => ?_)
  obtain ⟨hx, hb, hml, hown, hts, hE⟩ := hC
  have hA : ∀ k, k < N → Aof ad N (ad k) := fun k h => Aof_in h
  have hAA : ∀ z, Aof ad N z → Aof ad N z := fun _ h => h
  have hl : lv_has ls 2 [(0, .ref (ad 0))] := hl
  unfold fX9_wipe at hf
  refine lv_aload_n hx hb dX9_wipe_0 rfl (lv_at hl 0 rfl) ?_
  refine x_get hx hb hts hown hE hP fl_X9_97 (nm0 hN) gM_0_1 dX9_wipe_1 ?_
  refine lv_istore_n (lv' := [(1, .int (w 0 1)), (0, .ref (ad 0))]) hx hb dX9_wipe_4 rfl hl (by decide) rfl (fun ls hl => ?_)
  refine lv_aload_n hx hb dX9_wipe_5 rfl (lv_at hl 1 rfl) ?_
  refine lv_iconst (v := 0) hx hb dX9_wipe_6 nc_0 ?_
  obtain ⟨w1, hv, hf⟩ := bs1 hf
  refine x_put hx hb hts hown hE hD hA hP hS fp_X9_97 (nm0 hN) pM_0_1 rfl rfl hv dX9_wipe_7 (fun H locs hP hS => ?_)
  refine lv_iload_n hx hb dX9_wipe_10 rfl (lv_at hl 0 rfl) ?_
  cases hf
  exact hret _ _ _ _ dX9_wipe_11 hP hS
def fX9_here (w : Mm) : Option (Int32) :=
  if (w 0 1) ≤ (w 0 18) then
    some (-1)
  else
    bd1 (rd w 1 200 (w 0 18)) fun v1 =>
    some v1
set_option maxHeartbeats 4000000 in
set_option maxRecDepth 100000 in
theorem kX9_here {l : Launch} {κ : Kp} {N : Nat} {ad : Nat → Nat} {w : Mm} {r : Int32} (hN : 26 ≤ N) (hD : Apt ad N) (hf : fX9_here w = some r) : Met l yX9_here (Cond.code yX9_here cX9_here 1 (some .int) :: TB) (rmX 0 0) (PcX κ (wM κ) N ad w [.ref (ad 0)]) (QI κ (wM κ) N ad w r) 0 0 (Aof ad N) := by
  refine mkI (by decide +kernel) (Nat.le_of_ble_eq_true rfl) (fun p e R s m args below meth c Q H locs ls hC hRf hRl hP hS hret hl => ?_)
  obtain ⟨hx, hb, hml, hown, hts, hE⟩ := hC
  have hA : ∀ k, k < N → Aof ad N (ad k) := fun k h => Aof_in h
  have hAA : ∀ z, Aof ad N z → Aof ad N z := fun _ h => h
  have hl : lv_has ls 1 [(0, .ref (ad 0))] := hl
  unfold fX9_here at hf
  refine lv_aload_n hx hb dX9_here_0 rfl (lv_at hl 0 rfl) ?_
  refine x_get hx hb hts hown hE hP fl_X9_101 (nm0 hN) gM_0_18 dX9_here_1 ?_
  refine lv_aload_n hx hb dX9_here_4 rfl (lv_at hl 0 rfl) ?_
  refine x_get hx hb hts hown hE hP fl_X9_97 (nm0 hN) gM_0_1 dX9_here_5 ?_
  refine lv_icmp_ge (tgt := 23) hx hb dX9_here_8 (by decide) (fun hc => ?_) (fun hc => ?_)
  · have hf := ip hc hf
    refine lv_iconst (v := (-1)) hx hb dX9_here_23 nc_m1 ?_
    cases hf
    exact hret _ _ _ _ dX9_here_24 hP hS
  · have hf := iq hc hf
    refine lv_aload_n hx hb dX9_here_11 rfl (lv_at hl 0 rfl) ?_
    refine x_get hx hb hts hown hE hP fl_X9_7 (nm0 hN) gM_0_0 dX9_here_12 ?_
    refine lv_aload_n hx hb dX9_here_15 rfl (lv_at hl 0 rfl) ?_
    refine x_get hx hb hts hown hE hP fl_X9_101 (nm0 hN) gM_0_18 dX9_here_16 ?_
    obtain ⟨v1, hv, hf⟩ := bs1 hf
    refine x_bald hx hb hE hP (nm1 hN) (aM_1 _) hv dX9_here_19 ?_
    refine lv_goto (tgt := 24) hx hb dX9_here_20 (by decide) ?_
    cases hf
    exact hret _ _ _ _ dX9_here_24 hP hS
def LX9_number_6 : Nat → Int32 → Int32 → Mm → Option (Mm × Int32 × Int32)
  | 0, _, _, _ => none
  | fu + 1, v1, v2, w3 =>
    if 2 ≤ v2 then
      some (w3, v1, v2)
    else
      bd1 (fX9_here w3) fun v8 =>
      bd1 (fX9_in v8 48 57) fun v9 =>
      if v9 = 0 then
        some (w3, v1, v2)
      else
        bd1 (fX9_here w3) fun v10 =>
        bd1 (pt w3 0 18 ((w3 0 18) + 1)) fun w11 =>
        LX9_number_6 fu (((10 * v1) + v10) - 48) (v2 + 1) w11
def fX9_number (w : Mm) (x1 x2 x3 : Int32) : Option (Int32 × Mm) :=
  bd3 (LX9_number_6 1000 0 0 w) fun (w5 : Mm) (v6 : Int32) (v7 : Int32) =>
  bd1 (
    if (w5 0 19) = 0 then
      some (0)
    else
      if v7 ≤ 0 then
        some (0)
      else
        bd1 (fX9_in v6 x1 x2) fun v14 =>
        if v14 = 0 then
          some (0)
        else
          bd1 (fX9_here w5) fun v15 =>
          if v15 = x3 then
            some (1)
          else
            some (0)) fun (v12 : Int32) =>
  bd1 (gb v12) fun _ =>
  bd1 (pt w5 0 19 v12) fun w16 =>
  bd1 (pt w16 0 18 ((w16 0 18) + 1)) fun w17 =>
  some (v6, w17)
set_option maxHeartbeats 4000000 in
set_option maxRecDepth 100000 in
theorem kX9_number {l : Launch} {κ : Kp} {N : Nat} {ad : Nat → Nat} {w : Mm} {x1 x2 x3 : Int32} {r : Int32} {w' : Mm} (hN : 26 ≤ N) (hD : Apt ad N) (hf : fX9_number w x1 x2 x3 = some (r, w')) : Met l yX9_number (Cond.code yX9_number cX9_number 6 (some .int) :: TB) (rmX 1 22) (PcX κ (wM κ) N ad w [.ref (ad 0), .int x1, .int x2, .int x3]) (QI κ (wM κ) N ad w' r) 0 0 (Aof ad N) := by
  refine mkI (by decide +kernel) (Nat.le_of_ble_eq_true rfl) (fun p e R s m args below meth c Q H locs ls hC hRf hRl hP hS hret hl => ?_)
  obtain ⟨hx, hb, hml, hown, hts, hE⟩ := hC
  have hA : ∀ k, k < N → Aof ad N (ad k) := fun k h => Aof_in h
  have hAA : ∀ z, Aof ad N z → Aof ad N z := fun _ h => h
  have hl : lv_has ls 6 [(0, .ref (ad 0)), (1, .int x1), (2, .int x2), (3, .int x3)] := hl
  unfold fX9_number at hf
  refine lv_iconst (v := 0) hx hb dX9_number_0 nc_0 ?_
  refine lv_istore (lv' := [(4, .int 0), (0, .ref (ad 0)), (1, .int x1), (2, .int x2), (3, .int x3)]) hx hb dX9_number_1 hl (by decide) rfl (fun ls hl => ?_)
  refine lv_iconst (v := 0) hx hb dX9_number_3 nc_0 ?_
  refine lv_istore (lv' := [(5, .int 0), (4, .int 0), (0, .ref (ad 0)), (1, .int x1), (2, .int x2), (3, .int x3)]) hx hb dX9_number_4 hl (by decide) rfl (fun ls hl => ?_)
  obtain ⟨w5, v6, v7, hq4, hf⟩ := bs3 hf
  have hJ4 : ∀ (H : Heap) (locs : List Loc) (ls : Array Slot), Ho κ (wM κ) N ad w5 H → va_S (Aof ad N) s.heap H locs → lv_has ls 6 [(0, .ref (ad 0)), (1, .int x1), (2, .int x2), (3, .int x3), (4, .int v6), (5, .int v7)] → W p l e R s m args below meth c H locs 0 0 Q (F0 m 57 ls []) := by
    intro H locs ls hP hS hl
    refine lv_aload_n hx hb dX9_number_57 rfl (lv_at hl 0 rfl) ?_
    refine lv_aload_n hx hb dX9_number_58 rfl (lv_at hl 0 rfl) ?_
    refine x_get hx hb hts hown hE hP fl_X9_108 (nm0 hN) gM_0_19 dX9_number_59 ?_
    obtain ⟨v12, hq13, hf⟩ := bs1 hf
    have hJ13 : ∀ (H : Heap) (locs : List Loc) (ls : Array Slot), Ho κ (wM κ) N ad w5 H → va_S (Aof ad N) s.heap H locs → lv_has ls 6 [(0, .ref (ad 0)), (4, .int v6)] → W p l e R s m args below meth c H locs 0 0 Q (F0 m 93 ls [.int v12, .ref (ad 0)]) := by
      intro H locs ls hP hS hl
      obtain ⟨_, hb1, hf⟩ := bs1 hf
      obtain ⟨w16, hv, hf⟩ := bs1 hf
      refine x_put hx hb hts hown hE hD hA hP hS fp_X9_108 (nm0 hN) pM_0_19 (nbool (gb_some hb1)) (fbool (gb_some hb1)) hv dX9_number_93 (fun H locs hP hS => ?_)
      refine lv_aload_n hx hb dX9_number_96 rfl (lv_at hl 0 rfl) ?_
      refine lv_dup hx hb dX9_number_97 rfl ?_
      refine x_get hx hb hts hown hE hP fl_X9_101 (nm0 hN) gM_0_18 dX9_number_98 ?_
      refine lv_iconst (v := 1) hx hb dX9_number_101 nc_1 ?_
      refine lv_iadd hx hb dX9_number_102 ?_
      obtain ⟨w17, hv, hf⟩ := bs1 hf
      refine x_put hx hb hts hown hE hD hA hP hS fp_X9_101 (nm0 hN) pM_0_18 rfl rfl hv dX9_number_103 (fun H locs hP hS => ?_)
      refine lv_iload hx hb dX9_number_106 (lv_at hl 1 rfl) ?_
      cases hf
      exact hret _ _ _ _ dX9_number_108 hP hS
    clear hf
    have hf := hq13
    clear hq13
    refine lv_if_eq (tgt := 92) hx hb dX9_number_62 (by decide) (fun hc => ?_) (fun hc => ?_)
    · have hf := ip hc hf
      refine lv_iconst (v := 0) hx hb dX9_number_92 nc_0 ?_
      cases hf
      exact hJ13 _ _ _ hP hS (lv_sub hl [0, 4] rfl)
    · have hf := iq hc hf
      refine lv_iload hx hb dX9_number_65 (lv_at hl 5 rfl) ?_
      refine lv_if_le (tgt := 92) hx hb dX9_number_67 (by decide) (fun hc => ?_) (fun hc => ?_)
      · have hf := ip hc hf
        refine lv_iconst (v := 0) hx hb dX9_number_92 nc_0 ?_
        cases hf
        exact hJ13 _ _ _ hP hS (lv_sub hl [0, 4] rfl)
      · have hf := iq hc hf
        refine lv_iload hx hb dX9_number_70 (lv_at hl 4 rfl) ?_
        refine lv_iload_n hx hb dX9_number_72 rfl (lv_at hl 1 rfl) ?_
        refine lv_iload_n hx hb dX9_number_73 rfl (lv_at hl 2 rfl) ?_
        obtain ⟨v14, hv, hf⟩ := bs1 hf
        refine x_cSi (As := [.int v6, .int x1, .int x2]) (rest := [.ref (ad 0)]) hx hb hml hts hown hE hP hS hAA (kX9_in hv) cl_X9_93 (Nat.le_trans (by decide) hRf) (Nat.le_trans (by decide) hRl) (Nat.zero_le _) (Nat.zero_le _) rfl hl.1 rfl (Nat.le_of_ble_eq_true rfl) dX9_number_74 (fun H locs hP hS => ?_)
        refine lv_if_eq (tgt := 92) hx hb dX9_number_77 (by decide) (fun hc => ?_) (fun hc => ?_)
        · have hf := ip hc hf
          refine lv_iconst (v := 0) hx hb dX9_number_92 nc_0 ?_
          cases hf
          exact hJ13 _ _ _ hP hS (lv_sub hl [0, 4] rfl)
        · have hf := iq hc hf
          refine lv_aload_n hx hb dX9_number_80 rfl (lv_at hl 0 rfl) ?_
          obtain ⟨v15, hv, hf⟩ := bs1 hf
          refine x_cVi (As := []) (rest := [.ref (ad 0)]) hx hb hml hts hown hE hP hS hAA (kX9_here hN hD hv) cl_X9_104 (nm0 hN) oM_0 vc_9 (Nat.le_trans (by decide) hRf) (Nat.le_trans (by decide) hRl) (Nat.zero_le _) (Nat.zero_le _) rfl hl.1 rfl (Nat.le_of_ble_eq_true rfl) dX9_number_81 (fun H locs hP hS => ?_)
          refine lv_iload_n hx hb dX9_number_84 rfl (lv_at hl 3 rfl) ?_
          refine lv_icmp_ne (tgt := 92) hx hb dX9_number_85 (by decide) (fun hc => ?_) (fun hc => ?_)
          · have hf := iq hc hf
            refine lv_iconst (v := 0) hx hb dX9_number_92 nc_0 ?_
            cases hf
            exact hJ13 _ _ _ hP hS (lv_sub hl [0, 4] rfl)
          · have hf := ip hc hf
            refine lv_iconst (v := 1) hx hb dX9_number_88 nc_1 ?_
            refine lv_goto (tgt := 93) hx hb dX9_number_89 (by decide) ?_
            cases hf
            exact hJ13 _ _ _ hP hS (lv_sub hl [0, 4] rfl)
  clear hf
  have hf := hq4
  clear hq4
  have hL4 : ∀ (fu : Nat) (v1 : Int32) (v2 : Int32) (w3 : Mm) (H : Heap) (locs : List Loc) (ls : Array Slot), LX9_number_6 fu v1 v2 w3 = some (w5, v6, v7) → Ho κ (wM κ) N ad w3 H → va_S (Aof ad N) s.heap H locs → lv_has ls 6 [(0, .ref (ad 0)), (1, .int x1), (2, .int x2), (3, .int x3), (4, .int v1), (5, .int v2)] → W p l e R s m args below meth c H locs 0 0 Q (F0 m 6 ls []) := by
    intro fu
    induction fu with
    | zero =>
      intro v1 v2 w3 H locs ls hf
      rw [LX9_number_6] at hf
      cases hf
    | succ fu ih =>
      intro v1 v2 w3 H locs ls hf hP hS hl
      rw [LX9_number_6] at hf
      refine lv_iload hx hb dX9_number_6 (lv_at hl 5 rfl) ?_
      refine lv_iconst (v := 2) hx hb dX9_number_8 nc_2 ?_
      refine lv_icmp_ge (tgt := 57) hx hb dX9_number_9 (by decide) (fun hc => ?_) (fun hc => ?_)
      · have hf := ip hc hf
        cases hf
        exact hJ4 _ _ _ hP hS (lv_sub hl [0, 1, 2, 3, 4, 5] rfl)
      · have hf := iq hc hf
        refine lv_aload_n hx hb dX9_number_12 rfl (lv_at hl 0 rfl) ?_
        obtain ⟨v8, hv, hf⟩ := bs1 hf
        refine x_cVi (As := []) (rest := []) hx hb hml hts hown hE hP hS hAA (kX9_here hN hD hv) cl_X9_104 (nm0 hN) oM_0 vc_9 (Nat.le_trans (by decide) hRf) (Nat.le_trans (by decide) hRl) (Nat.zero_le _) (Nat.zero_le _) rfl hl.1 rfl (Nat.le_of_ble_eq_true rfl) dX9_number_13 (fun H locs hP hS => ?_)
        refine lv_bipush (v := 48) hx hb dX9_number_16 nb_48 ?_
        refine lv_bipush (v := 57) hx hb dX9_number_18 nb_57 ?_
        obtain ⟨v9, hv, hf⟩ := bs1 hf
        refine x_cSi (As := [.int v8, .int 48, .int 57]) (rest := []) hx hb hml hts hown hE hP hS hAA (kX9_in hv) cl_X9_93 (Nat.le_trans (by decide) hRf) (Nat.le_trans (by decide) hRl) (Nat.zero_le _) (Nat.zero_le _) rfl hl.1 rfl (Nat.le_of_ble_eq_true rfl) dX9_number_20 (fun H locs hP hS => ?_)
        refine lv_if_eq (tgt := 57) hx hb dX9_number_23 (by decide) (fun hc => ?_) (fun hc => ?_)
        · have hf := ip hc hf
          cases hf
          exact hJ4 _ _ _ hP hS (lv_sub hl [0, 1, 2, 3, 4, 5] rfl)
        · have hf := iq hc hf
          refine lv_bipush (v := 10) hx hb dX9_number_26 nb_10 ?_
          refine lv_iload hx hb dX9_number_28 (lv_at hl 4 rfl) ?_
          refine lv_imul hx hb dX9_number_30 ?_
          refine lv_aload_n hx hb dX9_number_31 rfl (lv_at hl 0 rfl) ?_
          obtain ⟨v10, hv, hf⟩ := bs1 hf
          refine x_cVi (As := []) (rest := [.int (10 * v1)]) hx hb hml hts hown hE hP hS hAA (kX9_here hN hD hv) cl_X9_104 (nm0 hN) oM_0 vc_9 (Nat.le_trans (by decide) hRf) (Nat.le_trans (by decide) hRl) (Nat.zero_le _) (Nat.zero_le _) rfl hl.1 rfl (Nat.le_of_ble_eq_true rfl) dX9_number_32 (fun H locs hP hS => ?_)
          refine lv_iadd hx hb dX9_number_35 ?_
          refine lv_bipush (v := 48) hx hb dX9_number_36 nb_48 ?_
          refine lv_isub hx hb dX9_number_38 ?_
          refine lv_istore (lv' := [(4, .int (((10 * v1) + v10) - 48)), (0, .ref (ad 0)), (1, .int x1), (2, .int x2), (3, .int x3), (5, .int v2)]) hx hb dX9_number_39 hl (by decide) rfl (fun ls hl => ?_)
          refine lv_aload_n hx hb dX9_number_41 rfl (lv_at hl 1 rfl) ?_
          refine lv_dup hx hb dX9_number_42 rfl ?_
          refine x_get hx hb hts hown hE hP fl_X9_101 (nm0 hN) gM_0_18 dX9_number_43 ?_
          refine lv_iconst (v := 1) hx hb dX9_number_46 nc_1 ?_
          refine lv_iadd hx hb dX9_number_47 ?_
          obtain ⟨w11, hv, hf⟩ := bs1 hf
          refine x_put hx hb hts hown hE hD hA hP hS fp_X9_101 (nm0 hN) pM_0_18 rfl rfl hv dX9_number_48 (fun H locs hP hS => ?_)
          refine lv_iinc (v := (v2 + 1)) (lv' := [(5, .int (v2 + 1)), (4, .int (((10 * v1) + v10) - 48)), (0, .ref (ad 0)), (1, .int x1), (2, .int x2), (3, .int x3)]) hx hb dX9_number_51 hl (k := 5) rfl (ni_1 _) (by decide) rfl (fun ls hl => ?_)
          refine lv_goto (tgt := 6) hx hb dX9_number_54 (by decide) ?_
          exact ih _ _ _ _ _ _ hf hP hS (lv_sub hl [2, 3, 4, 5, 1, 0] rfl)
  exact hL4 _ _ _ _ _ _ _ hf hP hS (lv_sub hl [2, 3, 4, 5, 1, 0] rfl)
def fX9_told (w : Mm) (x1 : Int32) : Option (Int32 × Mm) :=
  bd1 (rd w 2 2 1) fun v1 =>
  bd2 (fX9_number w 0 (v1 - 1) x1) fun v2 w3 =>
  some (v2, w3)
set_option maxHeartbeats 4000000 in
set_option maxRecDepth 100000 in
theorem kX9_told {l : Launch} {κ : Kp} {N : Nat} {ad : Nat → Nat} {w : Mm} {x1 : Int32} {r : Int32} {w' : Mm} (hN : 26 ≤ N) (hD : Apt ad N) (hf : fX9_told w x1 = some (r, w')) : Met l yX9_told (Cond.code yX9_told cX9_told 2 (some .int) :: TB) (rmX 2 47) (PcX κ (wM κ) N ad w [.ref (ad 0), .int x1]) (QI κ (wM κ) N ad w' r) 0 0 (Aof ad N) := by
  refine mkI (by decide +kernel) (Nat.le_of_ble_eq_true rfl) (fun p e R s m args below meth c Q H locs ls hC hRf hRl hP hS hret hl => ?_)
  obtain ⟨hx, hb, hml, hown, hts, hE⟩ := hC
  have hA : ∀ k, k < N → Aof ad N (ad k) := fun k h => Aof_in h
  have hAA : ∀ z, Aof ad N z → Aof ad N z := fun _ h => h
  have hl : lv_has ls 2 [(0, .ref (ad 0)), (1, .int x1)] := hl
  unfold fX9_told at hf
  refine lv_aload_n hx hb dX9_told_0 rfl (lv_at hl 0 rfl) ?_
  refine lv_iconst (v := 0) hx hb dX9_told_1 nc_0 ?_
  refine lv_aload_n hx hb dX9_told_2 rfl (lv_at hl 0 rfl) ?_
  refine x_get hx hb hts hown hE hP fl_X9_13 (nm0 hN) gM_0_2 dX9_told_3 ?_
  refine lv_iconst (v := 1) hx hb dX9_told_6 nc_1 ?_
  obtain ⟨v1, hv, hf⟩ := bs1 hf
  refine x_iald hx hb hE hP (nm2 hN) (aM_2 _) hv dX9_told_7 ?_
  refine lv_iconst (v := 1) hx hb dX9_told_8 nc_1 ?_
  refine lv_isub hx hb dX9_told_9 ?_
  refine lv_iload_n hx hb dX9_told_10 rfl (lv_at hl 1 rfl) ?_
  obtain ⟨v2, w3, hv, hf⟩ := bs2 hf
  refine x_cVi (As := [.int 0, .int (v1 - 1), .int x1]) (rest := []) hx hb hml hts hown hE hP hS hAA (kX9_number hN hD hv) cl_X9_112 (nm0 hN) oM_0 vc_9 (Nat.le_trans (by decide) hRf) (Nat.le_trans (by decide) hRl) (Nat.zero_le _) (Nat.zero_le _) rfl hl.1 rfl (Nat.le_of_ble_eq_true rfl) dX9_told_11 (fun H locs hP hS => ?_)
  cases hf
  exact hret _ _ _ _ dX9_told_14 hP hS
def fX9_readRaft (w : Mm) : Option (Mm) :=
  bd1 (rd w 12 2 1) fun v1 =>
  bd1 (
    if 2 ≤ v1 then
      some (0)
    else
      some (1)) fun (v2 : Int32) =>
  bd1 (gb v2) fun _ =>
  bd1 (pt w 0 19 v2) fun w4 =>
  bd2 (fX9_told w4 44) fun v5 w6 =>
  bd2 (fX9_told w6 44) fun v7 w8 =>
  bd2 (fX9_told w8 59) fun v9 w10 =>
  bd1 (
    if (w10 0 19) = 0 then
      some (0)
    else
      if v5 = v7 then
        some (0)
      else
        if v5 = v9 then
          some (0)
        else
          if v7 = v9 then
            some (0)
          else
            some (1)) fun (v11 : Int32) =>
  bd1 (gb v11) fun _ =>
  bd1 (pt w10 0 19 v11) fun w13 =>
  if (w13 0 19) = 0 then
    some w13
  else
    bd1 (rd w13 12 2 1) fun v14 =>
    bd1 (wr w13 13 12 (6 + (3 * v14)) v5) fun w15 =>
    bd1 (rd w15 12 2 1) fun v16 =>
    bd1 (wr w15 13 12 (7 + (3 * v16)) v7) fun w17 =>
    bd1 (rd w17 12 2 1) fun v18 =>
    bd1 (wr w17 13 12 (8 + (3 * v18)) v9) fun w19 =>
    bd1 (rd w19 12 2 1) fun v20 =>
    bd1 (wr w19 12 2 1 (v20 + 1)) fun w21 =>
    some w21
set_option maxHeartbeats 4000000 in
set_option maxRecDepth 100000 in
theorem kX9_readRaft {l : Launch} {κ : Kp} {N : Nat} {ad : Nat → Nat} {w : Mm} {w' : Mm} (hN : 26 ≤ N) (hD : Apt ad N) (hf : fX9_readRaft w = some w') : Met l yX9_readRaft (Cond.code yX9_readRaft cX9_readRaft 4 none :: TB) (rmX 3 68) (PcX κ (wM κ) N ad w [.ref (ad 0)]) (QV κ (wM κ) N ad w') 0 0 (Aof ad N) := by
  refine mkV (by decide +kernel) (Nat.le_of_ble_eq_true rfl) (fun p e R s m args below meth c Q H locs ls hC hRf hRl hP hS hret hl => ?_)
  obtain ⟨hx, hb, hml, hown, hts, hE⟩ := hC
  have hA : ∀ k, k < N → Aof ad N (ad k) := fun k h => Aof_in h
  have hAA : ∀ z, Aof ad N z → Aof ad N z := fun _ h => h
  have hl : lv_has ls 4 [(0, .ref (ad 0))] := hl
  unfold fX9_readRaft at hf
  refine lv_aload_n hx hb dX9_readRaft_0 rfl (lv_at hl 0 rfl) ?_
  refine lv_aload_n hx hb dX9_readRaft_1 rfl (lv_at hl 0 rfl) ?_
  refine x_get hx hb hts hown hE hP fl_X9_44 (nm0 hN) gM_0_12 dX9_readRaft_2 ?_
  refine lv_iconst (v := 1) hx hb dX9_readRaft_5 nc_1 ?_
  obtain ⟨v1, hv, hf⟩ := bs1 hf
  refine x_iald hx hb hE hP (nm12 hN) (aM_12 _) hv dX9_readRaft_6 ?_
  refine lv_iconst (v := 2) hx hb dX9_readRaft_7 nc_2 ?_
  obtain ⟨v2, hq3, hf⟩ := bs1 hf
  have hJ3 : ∀ (H : Heap) (locs : List Loc) (ls : Array Slot), Ho κ (wM κ) N ad w H → va_S (Aof ad N) s.heap H locs → lv_has ls 4 [(0, .ref (ad 0))] → W p l e R s m args below meth c H locs 0 0 Q (F0 m 16 ls [.int v2, .ref (ad 0)]) := by
    intro H locs ls hP hS hl
    obtain ⟨_, hb1, hf⟩ := bs1 hf
    obtain ⟨w4, hv, hf⟩ := bs1 hf
    refine x_put hx hb hts hown hE hD hA hP hS fp_X9_108 (nm0 hN) pM_0_19 (nbool (gb_some hb1)) (fbool (gb_some hb1)) hv dX9_readRaft_16 (fun H locs hP hS => ?_)
    refine lv_aload_n hx hb dX9_readRaft_19 rfl (lv_at hl 0 rfl) ?_
    refine lv_bipush (v := 44) hx hb dX9_readRaft_20 nb_44 ?_
    obtain ⟨v5, w6, hv, hf⟩ := bs2 hf
    refine x_cVi (As := [.int 44]) (rest := []) hx hb hml hts hown hE hP hS hAA (kX9_told hN hD hv) cl_X9_116 (nm0 hN) oM_0 vc_9 (Nat.le_trans (by decide) hRf) (Nat.le_trans (by decide) hRl) (Nat.zero_le _) (Nat.zero_le _) rfl hl.1 rfl (Nat.le_of_ble_eq_true rfl) dX9_readRaft_22 (fun H locs hP hS => ?_)
    refine lv_istore_n (lv' := [(1, .int v5), (0, .ref (ad 0))]) hx hb dX9_readRaft_25 rfl hl (by decide) rfl (fun ls hl => ?_)
    refine lv_aload_n hx hb dX9_readRaft_26 rfl (lv_at hl 1 rfl) ?_
    refine lv_bipush (v := 44) hx hb dX9_readRaft_27 nb_44 ?_
    obtain ⟨v7, w8, hv, hf⟩ := bs2 hf
    refine x_cVi (As := [.int 44]) (rest := []) hx hb hml hts hown hE hP hS hAA (kX9_told hN hD hv) cl_X9_116 (nm0 hN) oM_0 vc_9 (Nat.le_trans (by decide) hRf) (Nat.le_trans (by decide) hRl) (Nat.zero_le _) (Nat.zero_le _) rfl hl.1 rfl (Nat.le_of_ble_eq_true rfl) dX9_readRaft_29 (fun H locs hP hS => ?_)
    refine lv_istore_n (lv' := [(2, .int v7), (1, .int v5), (0, .ref (ad 0))]) hx hb dX9_readRaft_32 rfl hl (by decide) rfl (fun ls hl => ?_)
    refine lv_aload_n hx hb dX9_readRaft_33 rfl (lv_at hl 2 rfl) ?_
    refine lv_bipush (v := 59) hx hb dX9_readRaft_34 nb_59 ?_
    obtain ⟨v9, w10, hv, hf⟩ := bs2 hf
    refine x_cVi (As := [.int 59]) (rest := []) hx hb hml hts hown hE hP hS hAA (kX9_told hN hD hv) cl_X9_116 (nm0 hN) oM_0 vc_9 (Nat.le_trans (by decide) hRf) (Nat.le_trans (by decide) hRl) (Nat.zero_le _) (Nat.zero_le _) rfl hl.1 rfl (Nat.le_of_ble_eq_true rfl) dX9_readRaft_36 (fun H locs hP hS => ?_)
    refine lv_istore_n (lv' := [(3, .int v9), (2, .int v7), (1, .int v5), (0, .ref (ad 0))]) hx hb dX9_readRaft_39 rfl hl (by decide) rfl (fun ls hl => ?_)
    refine lv_aload_n hx hb dX9_readRaft_40 rfl (lv_at hl 3 rfl) ?_
    refine lv_aload_n hx hb dX9_readRaft_41 rfl (lv_at hl 3 rfl) ?_
    refine x_get hx hb hts hown hE hP fl_X9_108 (nm0 hN) gM_0_19 dX9_readRaft_42 ?_
    obtain ⟨v11, hq12, hf⟩ := bs1 hf
    have hJ12 : ∀ (H : Heap) (locs : List Loc) (ls : Array Slot), Ho κ (wM κ) N ad w10 H → va_S (Aof ad N) s.heap H locs → lv_has ls 4 [(0, .ref (ad 0)), (1, .int v5), (2, .int v7), (3, .int v9)] → W p l e R s m args below meth c H locs 0 0 Q (F0 m 68 ls [.int v11, .ref (ad 0)]) := by
      intro H locs ls hP hS hl
      obtain ⟨_, hb1, hf⟩ := bs1 hf
      obtain ⟨w13, hv, hf⟩ := bs1 hf
      refine x_put hx hb hts hown hE hD hA hP hS fp_X9_108 (nm0 hN) pM_0_19 (nbool (gb_some hb1)) (fbool (gb_some hb1)) hv dX9_readRaft_68 (fun H locs hP hS => ?_)
      refine lv_aload_n hx hb dX9_readRaft_71 rfl (lv_at hl 0 rfl) ?_
      refine x_get hx hb hts hown hE hP fl_X9_108 (nm0 hN) gM_0_19 dX9_readRaft_72 ?_
      refine lv_if_eq (tgt := 139) hx hb dX9_readRaft_75 (by decide) (fun hc => ?_) (fun hc => ?_)
      · have hf := ip hc hf
        cases hf
        exact hret _ _ _ _ dX9_readRaft_139 hP hS
      · have hf := iq hc hf
        refine lv_aload_n hx hb dX9_readRaft_78 rfl (lv_at hl 0 rfl) ?_
        refine x_get hx hb hts hown hE hP fl_X9_47 (nm0 hN) gM_0_13 dX9_readRaft_79 ?_
        refine lv_bipush (v := 6) hx hb dX9_readRaft_82 nb_6 ?_
        refine lv_iconst (v := 3) hx hb dX9_readRaft_84 nc_3 ?_
        refine lv_aload_n hx hb dX9_readRaft_85 rfl (lv_at hl 0 rfl) ?_
        refine x_get hx hb hts hown hE hP fl_X9_44 (nm0 hN) gM_0_12 dX9_readRaft_86 ?_
        refine lv_iconst (v := 1) hx hb dX9_readRaft_89 nc_1 ?_
        obtain ⟨v14, hv, hf⟩ := bs1 hf
        refine x_iald hx hb hE hP (nm12 hN) (aM_12 _) hv dX9_readRaft_90 ?_
        refine lv_imul hx hb dX9_readRaft_91 ?_
        refine lv_iadd hx hb dX9_readRaft_92 ?_
        refine lv_iload_n hx hb dX9_readRaft_93 rfl (lv_at hl 1 rfl) ?_
        obtain ⟨w15, hv, hf⟩ := bs1 hf
        refine x_iast hx hb hE hD hA hP hS (nm13 hN) aM_13 hv dX9_readRaft_94 (fun H locs hP hS => ?_)
        refine lv_aload_n hx hb dX9_readRaft_95 rfl (lv_at hl 0 rfl) ?_
        refine x_get hx hb hts hown hE hP fl_X9_47 (nm0 hN) gM_0_13 dX9_readRaft_96 ?_
        refine lv_bipush (v := 7) hx hb dX9_readRaft_99 nb_7 ?_
        refine lv_iconst (v := 3) hx hb dX9_readRaft_101 nc_3 ?_
        refine lv_aload_n hx hb dX9_readRaft_102 rfl (lv_at hl 0 rfl) ?_
        refine x_get hx hb hts hown hE hP fl_X9_44 (nm0 hN) gM_0_12 dX9_readRaft_103 ?_
        refine lv_iconst (v := 1) hx hb dX9_readRaft_106 nc_1 ?_
        obtain ⟨v16, hv, hf⟩ := bs1 hf
        refine x_iald hx hb hE hP (nm12 hN) (aM_12 _) hv dX9_readRaft_107 ?_
        refine lv_imul hx hb dX9_readRaft_108 ?_
        refine lv_iadd hx hb dX9_readRaft_109 ?_
        refine lv_iload_n hx hb dX9_readRaft_110 rfl (lv_at hl 2 rfl) ?_
        obtain ⟨w17, hv, hf⟩ := bs1 hf
        refine x_iast hx hb hE hD hA hP hS (nm13 hN) aM_13 hv dX9_readRaft_111 (fun H locs hP hS => ?_)
        refine lv_aload_n hx hb dX9_readRaft_112 rfl (lv_at hl 0 rfl) ?_
        refine x_get hx hb hts hown hE hP fl_X9_47 (nm0 hN) gM_0_13 dX9_readRaft_113 ?_
        refine lv_bipush (v := 8) hx hb dX9_readRaft_116 nb_8 ?_
        refine lv_iconst (v := 3) hx hb dX9_readRaft_118 nc_3 ?_
        refine lv_aload_n hx hb dX9_readRaft_119 rfl (lv_at hl 0 rfl) ?_
        refine x_get hx hb hts hown hE hP fl_X9_44 (nm0 hN) gM_0_12 dX9_readRaft_120 ?_
        refine lv_iconst (v := 1) hx hb dX9_readRaft_123 nc_1 ?_
        obtain ⟨v18, hv, hf⟩ := bs1 hf
        refine x_iald hx hb hE hP (nm12 hN) (aM_12 _) hv dX9_readRaft_124 ?_
        refine lv_imul hx hb dX9_readRaft_125 ?_
        refine lv_iadd hx hb dX9_readRaft_126 ?_
        refine lv_iload_n hx hb dX9_readRaft_127 rfl (lv_at hl 3 rfl) ?_
        obtain ⟨w19, hv, hf⟩ := bs1 hf
        refine x_iast hx hb hE hD hA hP hS (nm13 hN) aM_13 hv dX9_readRaft_128 (fun H locs hP hS => ?_)
        refine lv_aload_n hx hb dX9_readRaft_129 rfl (lv_at hl 0 rfl) ?_
        refine x_get hx hb hts hown hE hP fl_X9_44 (nm0 hN) gM_0_12 dX9_readRaft_130 ?_
        refine lv_iconst (v := 1) hx hb dX9_readRaft_133 nc_1 ?_
        refine lv_dup2_11 hx hb dX9_readRaft_134 rfl rfl ?_
        obtain ⟨v20, hv, hf⟩ := bs1 hf
        refine x_iald hx hb hE hP (nm12 hN) (aM_12 _) hv dX9_readRaft_135 ?_
        refine lv_iconst (v := 1) hx hb dX9_readRaft_136 nc_1 ?_
        refine lv_iadd hx hb dX9_readRaft_137 ?_
        obtain ⟨w21, hv, hf⟩ := bs1 hf
        refine x_iast hx hb hE hD hA hP hS (nm12 hN) aM_12 hv dX9_readRaft_138 (fun H locs hP hS => ?_)
        cases hf
        exact hret _ _ _ _ dX9_readRaft_139 hP hS
    clear hf
    have hf := hq12
    clear hq12
    refine lv_if_eq (tgt := 67) hx hb dX9_readRaft_45 (by decide) (fun hc => ?_) (fun hc => ?_)
    · have hf := ip hc hf
      refine lv_iconst (v := 0) hx hb dX9_readRaft_67 nc_0 ?_
      cases hf
      exact hJ12 _ _ _ hP hS (lv_sub hl [3, 2, 1, 0] rfl)
    · have hf := iq hc hf
      refine lv_iload_n hx hb dX9_readRaft_48 rfl (lv_at hl 2 rfl) ?_
      refine lv_iload_n hx hb dX9_readRaft_49 rfl (lv_at hl 1 rfl) ?_
      refine lv_icmp_eq (tgt := 67) hx hb dX9_readRaft_50 (by decide) (fun hc => ?_) (fun hc => ?_)
      · have hf := ip hc hf
        refine lv_iconst (v := 0) hx hb dX9_readRaft_67 nc_0 ?_
        cases hf
        exact hJ12 _ _ _ hP hS (lv_sub hl [3, 2, 1, 0] rfl)
      · have hf := iq hc hf
        refine lv_iload_n hx hb dX9_readRaft_53 rfl (lv_at hl 2 rfl) ?_
        refine lv_iload_n hx hb dX9_readRaft_54 rfl (lv_at hl 0 rfl) ?_
        refine lv_icmp_eq (tgt := 67) hx hb dX9_readRaft_55 (by decide) (fun hc => ?_) (fun hc => ?_)
        · have hf := ip hc hf
          refine lv_iconst (v := 0) hx hb dX9_readRaft_67 nc_0 ?_
          cases hf
          exact hJ12 _ _ _ hP hS (lv_sub hl [3, 2, 1, 0] rfl)
        · have hf := iq hc hf
          refine lv_iload_n hx hb dX9_readRaft_58 rfl (lv_at hl 1 rfl) ?_
          refine lv_iload_n hx hb dX9_readRaft_59 rfl (lv_at hl 0 rfl) ?_
          refine lv_icmp_eq (tgt := 67) hx hb dX9_readRaft_60 (by decide) (fun hc => ?_) (fun hc => ?_)
          · have hf := ip hc hf
            refine lv_iconst (v := 0) hx hb dX9_readRaft_67 nc_0 ?_
            cases hf
            exact hJ12 _ _ _ hP hS (lv_sub hl [3, 2, 1, 0] rfl)
          · have hf := iq hc hf
            refine lv_iconst (v := 1) hx hb dX9_readRaft_63 nc_1 ?_
            refine lv_goto (tgt := 68) hx hb dX9_readRaft_64 (by decide) ?_
            cases hf
            exact hJ12 _ _ _ hP hS (lv_sub hl [3, 2, 1, 0] rfl)
  clear hf
  have hf := hq3
  clear hq3
  refine lv_icmp_ge (tgt := 15) hx hb dX9_readRaft_8 (by decide) (fun hc => ?_) (fun hc => ?_)
  · have hf := ip hc hf
    refine lv_iconst (v := 0) hx hb dX9_readRaft_15 nc_0 ?_
    cases hf
    exact hJ3 _ _ _ hP hS (lv_sub hl [0] rfl)
  · have hf := iq hc hf
    refine lv_iconst (v := 1) hx hb dX9_readRaft_11 nc_1 ?_
    refine lv_goto (tgt := 16) hx hb dX9_readRaft_12 (by decide) ?_
    cases hf
    exact hJ3 _ _ _ hP hS (lv_sub hl [0] rfl)
def fX9_firstBeast (w : Mm) (x1 x2 x3 x4 x5 : Int32) : Option (Mm) :=
  bd1 (wr w 3 16 x1 x2) fun w1 =>
  bd1 (wr w1 4 16 x1 x3) fun w2 =>
  bd1 (wr w2 5 16 x1 x4) fun w3 =>
  bd1 (wr w3 6 16 x1 x5) fun w4 =>
  some w4
set_option maxHeartbeats 4000000 in
set_option maxRecDepth 100000 in
theorem kX9_firstBeast {l : Launch} {κ : Kp} {N : Nat} {ad : Nat → Nat} {w : Mm} {x1 x2 x3 x4 x5 : Int32} {w' : Mm} (hN : 26 ≤ N) (hD : Apt ad N) (hf : fX9_firstBeast w x1 x2 x3 x4 x5 = some w') : Met l yX9_firstBeast (Cond.code yX9_firstBeast cX9_firstBeast 6 none :: TB) (rmX 0 0) (PcX κ (wM κ) N ad w [.ref (ad 0), .int x1, .int x2, .int x3, .int x4, .int x5]) (QV κ (wM κ) N ad w') 0 0 (Aof ad N) := by
  refine mkV (by decide +kernel) (Nat.le_of_ble_eq_true rfl) (fun p e R s m args below meth c Q H locs ls hC hRf hRl hP hS hret hl => ?_)
  obtain ⟨hx, hb, hml, hown, hts, hE⟩ := hC
  have hA : ∀ k, k < N → Aof ad N (ad k) := fun k h => Aof_in h
  have hAA : ∀ z, Aof ad N z → Aof ad N z := fun _ h => h
  have hl : lv_has ls 6 [(0, .ref (ad 0)), (1, .int x1), (2, .int x2), (3, .int x3), (4, .int x4), (5, .int x5)] := hl
  unfold fX9_firstBeast at hf
  refine lv_aload_n hx hb dX9_firstBeast_0 rfl (lv_at hl 0 rfl) ?_
  refine x_get hx hb hts hown hE hP fl_X9_17 (nm0 hN) gM_0_3 dX9_firstBeast_1 ?_
  refine lv_iload_n hx hb dX9_firstBeast_4 rfl (lv_at hl 1 rfl) ?_
  refine lv_iload_n hx hb dX9_firstBeast_5 rfl (lv_at hl 2 rfl) ?_
  obtain ⟨w1, hv, hf⟩ := bs1 hf
  refine x_iast hx hb hE hD hA hP hS (nm3 hN) aM_3 hv dX9_firstBeast_6 (fun H locs hP hS => ?_)
  refine lv_aload_n hx hb dX9_firstBeast_7 rfl (lv_at hl 0 rfl) ?_
  refine x_get hx hb hts hown hE hP fl_X9_20 (nm0 hN) gM_0_4 dX9_firstBeast_8 ?_
  refine lv_iload_n hx hb dX9_firstBeast_11 rfl (lv_at hl 1 rfl) ?_
  refine lv_iload_n hx hb dX9_firstBeast_12 rfl (lv_at hl 3 rfl) ?_
  obtain ⟨w2, hv, hf⟩ := bs1 hf
  refine x_iast hx hb hE hD hA hP hS (nm4 hN) aM_4 hv dX9_firstBeast_13 (fun H locs hP hS => ?_)
  refine lv_aload_n hx hb dX9_firstBeast_14 rfl (lv_at hl 0 rfl) ?_
  refine x_get hx hb hts hown hE hP fl_X9_23 (nm0 hN) gM_0_5 dX9_firstBeast_15 ?_
  refine lv_iload_n hx hb dX9_firstBeast_18 rfl (lv_at hl 1 rfl) ?_
  refine lv_iload hx hb dX9_firstBeast_19 (lv_at hl 4 rfl) ?_
  obtain ⟨w3, hv, hf⟩ := bs1 hf
  refine x_iast hx hb hE hD hA hP hS (nm5 hN) aM_5 hv dX9_firstBeast_21 (fun H locs hP hS => ?_)
  refine lv_aload_n hx hb dX9_firstBeast_22 rfl (lv_at hl 0 rfl) ?_
  refine x_get hx hb hts hown hE hP fl_X9_26 (nm0 hN) gM_0_6 dX9_firstBeast_23 ?_
  refine lv_iload_n hx hb dX9_firstBeast_26 rfl (lv_at hl 1 rfl) ?_
  refine lv_iload hx hb dX9_firstBeast_27 (lv_at hl 5 rfl) ?_
  obtain ⟨w4, hv, hf⟩ := bs1 hf
  refine x_iast hx hb hE hD hA hP hS (nm6 hN) aM_6 hv dX9_firstBeast_29 (fun H locs hP hS => ?_)
  cases hf
  exact hret _ _ _ _ dX9_firstBeast_30 hP hS
def fX9_readBeast (w : Mm) : Option (Mm) :=
  bd1 (rd w 2 2 1) fun v1 =>
  bd1 (
    if 8 ≤ v1 then
      some (0)
    else
      some (1)) fun (v2 : Int32) =>
  bd1 (gb v2) fun _ =>
  bd1 (pt w 0 19 v2) fun w4 =>
  bd2 (fX9_number w4 1 9 44) fun v5 w6 =>
  bd2 (fX9_number w6 1 9 44) fun v7 w8 =>
  bd2 (fX9_number w8 0 3 44) fun v9 w10 =>
  bd2 (fX9_number w10 0 30 59) fun v11 w12 =>
  if (w12 0 19) = 0 then
    some w12
  else
    bd1 (rd w12 2 2 1) fun v13 =>
    bd1 (fX9_firstBeast w12 (8 + v13) v5 v7 v9 v11) fun w14 =>
    bd1 (wr w14 11 16 (8 + v13) (-4)) fun w15 =>
    bd1 (wr w15 14 16 (8 + v13) 0) fun w16 =>
    bd1 (wr w16 16 16 (8 + v13) 0) fun w17 =>
    bd1 (wr w17 17 16 (8 + v13) 0) fun w18 =>
    bd1 (rd w18 2 2 1) fun v19 =>
    bd1 (wr w18 2 2 1 (v19 + 1)) fun w20 =>
    some w20
set_option maxHeartbeats 4000000 in
set_option maxRecDepth 100000 in
theorem kX9_readBeast {l : Launch} {κ : Kp} {N : Nat} {ad : Nat → Nat} {w : Mm} {w' : Mm} (hN : 26 ≤ N) (hD : Apt ad N) (hf : fX9_readBeast w = some w') : Met l yX9_readBeast (Cond.code yX9_readBeast cX9_readBeast 6 none :: TB) (rmX 2 47) (PcX κ (wM κ) N ad w [.ref (ad 0)]) (QV κ (wM κ) N ad w') 0 0 (Aof ad N) := by
  refine mkV (by decide +kernel) (Nat.le_of_ble_eq_true rfl) (fun p e R s m args below meth c Q H locs ls hC hRf hRl hP hS hret hl => ?_)
  obtain ⟨hx, hb, hml, hown, hts, hE⟩ := hC
  have hA : ∀ k, k < N → Aof ad N (ad k) := fun k h => Aof_in h
  have hAA : ∀ z, Aof ad N z → Aof ad N z := fun _ h => h
  have hl : lv_has ls 6 [(0, .ref (ad 0))] := hl
  unfold fX9_readBeast at hf
  refine lv_aload_n hx hb dX9_readBeast_0 rfl (lv_at hl 0 rfl) ?_
  refine lv_aload_n hx hb dX9_readBeast_1 rfl (lv_at hl 0 rfl) ?_
  refine x_get hx hb hts hown hE hP fl_X9_13 (nm0 hN) gM_0_2 dX9_readBeast_2 ?_
  refine lv_iconst (v := 1) hx hb dX9_readBeast_5 nc_1 ?_
  obtain ⟨v1, hv, hf⟩ := bs1 hf
  refine x_iald hx hb hE hP (nm2 hN) (aM_2 _) hv dX9_readBeast_6 ?_
  refine lv_bipush (v := 8) hx hb dX9_readBeast_7 nb_8 ?_
  obtain ⟨v2, hq3, hf⟩ := bs1 hf
  have hJ3 : ∀ (H : Heap) (locs : List Loc) (ls : Array Slot), Ho κ (wM κ) N ad w H → va_S (Aof ad N) s.heap H locs → lv_has ls 6 [(0, .ref (ad 0))] → W p l e R s m args below meth c H locs 0 0 Q (F0 m 17 ls [.int v2, .ref (ad 0)]) := by
    intro H locs ls hP hS hl
    obtain ⟨_, hb1, hf⟩ := bs1 hf
    obtain ⟨w4, hv, hf⟩ := bs1 hf
    refine x_put hx hb hts hown hE hD hA hP hS fp_X9_108 (nm0 hN) pM_0_19 (nbool (gb_some hb1)) (fbool (gb_some hb1)) hv dX9_readBeast_17 (fun H locs hP hS => ?_)
    refine lv_aload_n hx hb dX9_readBeast_20 rfl (lv_at hl 0 rfl) ?_
    refine lv_iconst (v := 1) hx hb dX9_readBeast_21 nc_1 ?_
    refine lv_bipush (v := 9) hx hb dX9_readBeast_22 nb_9 ?_
    refine lv_bipush (v := 44) hx hb dX9_readBeast_24 nb_44 ?_
    obtain ⟨v5, w6, hv, hf⟩ := bs2 hf
    refine x_cVi (As := [.int 1, .int 9, .int 44]) (rest := []) hx hb hml hts hown hE hP hS hAA (kX9_number hN hD hv) cl_X9_112 (nm0 hN) oM_0 vc_9 (Nat.le_trans (by decide) hRf) (Nat.le_trans (by decide) hRl) (Nat.zero_le _) (Nat.zero_le _) rfl hl.1 rfl (Nat.le_of_ble_eq_true rfl) dX9_readBeast_26 (fun H locs hP hS => ?_)
    refine lv_istore_n (lv' := [(1, .int v5), (0, .ref (ad 0))]) hx hb dX9_readBeast_29 rfl hl (by decide) rfl (fun ls hl => ?_)
    refine lv_aload_n hx hb dX9_readBeast_30 rfl (lv_at hl 1 rfl) ?_
    refine lv_iconst (v := 1) hx hb dX9_readBeast_31 nc_1 ?_
    refine lv_bipush (v := 9) hx hb dX9_readBeast_32 nb_9 ?_
    refine lv_bipush (v := 44) hx hb dX9_readBeast_34 nb_44 ?_
    obtain ⟨v7, w8, hv, hf⟩ := bs2 hf
    refine x_cVi (As := [.int 1, .int 9, .int 44]) (rest := []) hx hb hml hts hown hE hP hS hAA (kX9_number hN hD hv) cl_X9_112 (nm0 hN) oM_0 vc_9 (Nat.le_trans (by decide) hRf) (Nat.le_trans (by decide) hRl) (Nat.zero_le _) (Nat.zero_le _) rfl hl.1 rfl (Nat.le_of_ble_eq_true rfl) dX9_readBeast_36 (fun H locs hP hS => ?_)
    refine lv_istore_n (lv' := [(2, .int v7), (1, .int v5), (0, .ref (ad 0))]) hx hb dX9_readBeast_39 rfl hl (by decide) rfl (fun ls hl => ?_)
    refine lv_aload_n hx hb dX9_readBeast_40 rfl (lv_at hl 2 rfl) ?_
    refine lv_iconst (v := 0) hx hb dX9_readBeast_41 nc_0 ?_
    refine lv_iconst (v := 3) hx hb dX9_readBeast_42 nc_3 ?_
    refine lv_bipush (v := 44) hx hb dX9_readBeast_43 nb_44 ?_
    obtain ⟨v9, w10, hv, hf⟩ := bs2 hf
    refine x_cVi (As := [.int 0, .int 3, .int 44]) (rest := []) hx hb hml hts hown hE hP hS hAA (kX9_number hN hD hv) cl_X9_112 (nm0 hN) oM_0 vc_9 (Nat.le_trans (by decide) hRf) (Nat.le_trans (by decide) hRl) (Nat.zero_le _) (Nat.zero_le _) rfl hl.1 rfl (Nat.le_of_ble_eq_true rfl) dX9_readBeast_45 (fun H locs hP hS => ?_)
    refine lv_istore_n (lv' := [(3, .int v9), (2, .int v7), (1, .int v5), (0, .ref (ad 0))]) hx hb dX9_readBeast_48 rfl hl (by decide) rfl (fun ls hl => ?_)
    refine lv_aload_n hx hb dX9_readBeast_49 rfl (lv_at hl 3 rfl) ?_
    refine lv_iconst (v := 0) hx hb dX9_readBeast_50 nc_0 ?_
    refine lv_bipush (v := 30) hx hb dX9_readBeast_51 nb_30 ?_
    refine lv_bipush (v := 59) hx hb dX9_readBeast_53 nb_59 ?_
    obtain ⟨v11, w12, hv, hf⟩ := bs2 hf
    refine x_cVi (As := [.int 0, .int 30, .int 59]) (rest := []) hx hb hml hts hown hE hP hS hAA (kX9_number hN hD hv) cl_X9_112 (nm0 hN) oM_0 vc_9 (Nat.le_trans (by decide) hRf) (Nat.le_trans (by decide) hRl) (Nat.zero_le _) (Nat.zero_le _) rfl hl.1 rfl (Nat.le_of_ble_eq_true rfl) dX9_readBeast_55 (fun H locs hP hS => ?_)
    refine lv_istore (lv' := [(4, .int v11), (3, .int v9), (2, .int v7), (1, .int v5), (0, .ref (ad 0))]) hx hb dX9_readBeast_58 hl (by decide) rfl (fun ls hl => ?_)
    refine lv_aload_n hx hb dX9_readBeast_60 rfl (lv_at hl 4 rfl) ?_
    refine x_get hx hb hts hown hE hP fl_X9_108 (nm0 hN) gM_0_19 dX9_readBeast_61 ?_
    refine lv_if_eq (tgt := 132) hx hb dX9_readBeast_64 (by decide) (fun hc => ?_) (fun hc => ?_)
    · have hf := ip hc hf
      cases hf
      exact hret _ _ _ _ dX9_readBeast_132 hP hS
    · have hf := iq hc hf
      refine lv_bipush (v := 8) hx hb dX9_readBeast_67 nb_8 ?_
      refine lv_aload_n hx hb dX9_readBeast_69 rfl (lv_at hl 4 rfl) ?_
      refine x_get hx hb hts hown hE hP fl_X9_13 (nm0 hN) gM_0_2 dX9_readBeast_70 ?_
      refine lv_iconst (v := 1) hx hb dX9_readBeast_73 nc_1 ?_
      obtain ⟨v13, hv, hf⟩ := bs1 hf
      refine x_iald hx hb hE hP (nm2 hN) (aM_2 _) hv dX9_readBeast_74 ?_
      refine lv_iadd hx hb dX9_readBeast_75 ?_
      refine lv_istore (lv' := [(5, .int (8 + v13)), (4, .int v11), (3, .int v9), (2, .int v7), (1, .int v5), (0, .ref (ad 0))]) hx hb dX9_readBeast_76 hl (by decide) rfl (fun ls hl => ?_)
      refine lv_aload_n hx hb dX9_readBeast_78 rfl (lv_at hl 5 rfl) ?_
      refine lv_iload hx hb dX9_readBeast_79 (lv_at hl 0 rfl) ?_
      refine lv_iload_n hx hb dX9_readBeast_81 rfl (lv_at hl 4 rfl) ?_
      refine lv_iload_n hx hb dX9_readBeast_82 rfl (lv_at hl 3 rfl) ?_
      refine lv_iload_n hx hb dX9_readBeast_83 rfl (lv_at hl 2 rfl) ?_
      refine lv_iload hx hb dX9_readBeast_84 (lv_at hl 1 rfl) ?_
      obtain ⟨w14, hv, hf⟩ := bs1 hf
      refine x_cVv (As := [.int (8 + v13), .int v5, .int v7, .int v9, .int v11]) (rest := []) hx hb hml hts hown hE hP hS hAA (kX9_firstBeast hN hD hv) cl_X9_86 (nm0 hN) oM_0 vc_9 (Nat.le_trans (by decide) hRf) (Nat.le_trans (by decide) hRl) (Nat.zero_le _) (Nat.zero_le _) rfl hl.1 rfl (Nat.le_of_ble_eq_true rfl) dX9_readBeast_86 (fun H locs hP hS => ?_)
      refine lv_aload_n hx hb dX9_readBeast_89 rfl (lv_at hl 5 rfl) ?_
      refine x_get hx hb hts hown hE hP fl_X9_41 (nm0 hN) gM_0_11 dX9_readBeast_90 ?_
      refine lv_iload hx hb dX9_readBeast_93 (lv_at hl 0 rfl) ?_
      refine lv_bipush (v := (-4)) hx hb dX9_readBeast_95 nb_m4 ?_
      obtain ⟨w15, hv, hf⟩ := bs1 hf
      refine x_iast hx hb hE hD hA hP hS (nm11 hN) aM_11 hv dX9_readBeast_97 (fun H locs hP hS => ?_)
      refine lv_aload_n hx hb dX9_readBeast_98 rfl (lv_at hl 5 rfl) ?_
      refine x_get hx hb hts hown hE hP fl_X9_50 (nm0 hN) gM_0_14 dX9_readBeast_99 ?_
      refine lv_iload hx hb dX9_readBeast_102 (lv_at hl 0 rfl) ?_
      refine lv_iconst (v := 0) hx hb dX9_readBeast_104 nc_0 ?_
      obtain ⟨w16, hv, hf⟩ := bs1 hf
      refine x_iast hx hb hE hD hA hP hS (nm14 hN) aM_14 hv dX9_readBeast_105 (fun H locs hP hS => ?_)
      refine lv_aload_n hx hb dX9_readBeast_106 rfl (lv_at hl 5 rfl) ?_
      refine x_get hx hb hts hown hE hP fl_X9_56 (nm0 hN) gM_0_16 dX9_readBeast_107 ?_
      refine lv_iload hx hb dX9_readBeast_110 (lv_at hl 0 rfl) ?_
      refine lv_iconst (v := 0) hx hb dX9_readBeast_112 nc_0 ?_
      obtain ⟨w17, hv, hf⟩ := bs1 hf
      refine x_iast hx hb hE hD hA hP hS (nm16 hN) aM_16 hv dX9_readBeast_113 (fun H locs hP hS => ?_)
      refine lv_aload_n hx hb dX9_readBeast_114 rfl (lv_at hl 5 rfl) ?_
      refine x_get hx hb hts hown hE hP fl_X9_59 (nm0 hN) gM_0_17 dX9_readBeast_115 ?_
      refine lv_iload hx hb dX9_readBeast_118 (lv_at hl 0 rfl) ?_
      refine lv_iconst (v := 0) hx hb dX9_readBeast_120 nc_0 ?_
      obtain ⟨w18, hv, hf⟩ := bs1 hf
      refine x_iast hx hb hE hD hA hP hS (nm17 hN) aM_17 hv dX9_readBeast_121 (fun H locs hP hS => ?_)
      refine lv_aload_n hx hb dX9_readBeast_122 rfl (lv_at hl 5 rfl) ?_
      refine x_get hx hb hts hown hE hP fl_X9_13 (nm0 hN) gM_0_2 dX9_readBeast_123 ?_
      refine lv_iconst (v := 1) hx hb dX9_readBeast_126 nc_1 ?_
      refine lv_dup2_11 hx hb dX9_readBeast_127 rfl rfl ?_
      obtain ⟨v19, hv, hf⟩ := bs1 hf
      refine x_iald hx hb hE hP (nm2 hN) (aM_2 _) hv dX9_readBeast_128 ?_
      refine lv_iconst (v := 1) hx hb dX9_readBeast_129 nc_1 ?_
      refine lv_iadd hx hb dX9_readBeast_130 ?_
      obtain ⟨w20, hv, hf⟩ := bs1 hf
      refine x_iast hx hb hE hD hA hP hS (nm2 hN) aM_2 hv dX9_readBeast_131 (fun H locs hP hS => ?_)
      cases hf
      exact hret _ _ _ _ dX9_readBeast_132 hP hS
  clear hf
  have hf := hq3
  clear hq3
  refine lv_icmp_ge (tgt := 16) hx hb dX9_readBeast_9 (by decide) (fun hc => ?_) (fun hc => ?_)
  · have hf := ip hc hf
    refine lv_iconst (v := 0) hx hb dX9_readBeast_16 nc_0 ?_
    cases hf
    exact hJ3 _ _ _ hP hS (lv_sub hl [0] rfl)
  · have hf := iq hc hf
    refine lv_iconst (v := 1) hx hb dX9_readBeast_12 nc_1 ?_
    refine lv_goto (tgt := 17) hx hb dX9_readBeast_13 (by decide) ?_
    cases hf
    exact hJ3 _ _ _ hP hS (lv_sub hl [0] rfl)
def fX9_readCurrent (w : Mm) : Option (Mm) :=
  bd1 (rd w 8 2 1) fun v1 =>
  bd1 (
    if 4 ≤ v1 then
      some (0)
    else
      some (1)) fun (v2 : Int32) =>
  bd1 (gb v2) fun _ =>
  bd1 (pt w 0 19 v2) fun w4 =>
  bd2 (fX9_number w4 0 99 44) fun v5 w6 =>
  bd2 (fX9_number w6 0 5 59) fun v7 w8 =>
  if (w8 0 19) = 0 then
    some w8
  else
    bd1 (rd w8 8 2 1) fun v9 =>
    bd1 (wr w8 9 8 (4 + v9) v5) fun w10 =>
    bd1 (rd w10 8 2 1) fun v11 =>
    bd1 (wr w10 10 8 (4 + v11) v7) fun w12 =>
    bd1 (rd w12 8 2 1) fun v13 =>
    bd1 (wr w12 8 2 1 (v13 + 1)) fun w14 =>
    some w14
set_option maxHeartbeats 4000000 in
set_option maxRecDepth 100000 in
theorem kX9_readCurrent {l : Launch} {κ : Kp} {N : Nat} {ad : Nat → Nat} {w : Mm} {w' : Mm} (hN : 26 ≤ N) (hD : Apt ad N) (hf : fX9_readCurrent w = some w') : Met l yX9_readCurrent (Cond.code yX9_readCurrent cX9_readCurrent 3 none :: TB) (rmX 2 47) (PcX κ (wM κ) N ad w [.ref (ad 0)]) (QV κ (wM κ) N ad w') 0 0 (Aof ad N) := by
  refine mkV (by decide +kernel) (Nat.le_of_ble_eq_true rfl) (fun p e R s m args below meth c Q H locs ls hC hRf hRl hP hS hret hl => ?_)
  obtain ⟨hx, hb, hml, hown, hts, hE⟩ := hC
  have hA : ∀ k, k < N → Aof ad N (ad k) := fun k h => Aof_in h
  have hAA : ∀ z, Aof ad N z → Aof ad N z := fun _ h => h
  have hl : lv_has ls 3 [(0, .ref (ad 0))] := hl
  unfold fX9_readCurrent at hf
  refine lv_aload_n hx hb dX9_readCurrent_0 rfl (lv_at hl 0 rfl) ?_
  refine lv_aload_n hx hb dX9_readCurrent_1 rfl (lv_at hl 0 rfl) ?_
  refine x_get hx hb hts hown hE hP fl_X9_32 (nm0 hN) gM_0_8 dX9_readCurrent_2 ?_
  refine lv_iconst (v := 1) hx hb dX9_readCurrent_5 nc_1 ?_
  obtain ⟨v1, hv, hf⟩ := bs1 hf
  refine x_iald hx hb hE hP (nm8 hN) (aM_8 _) hv dX9_readCurrent_6 ?_
  refine lv_iconst (v := 4) hx hb dX9_readCurrent_7 nc_4 ?_
  obtain ⟨v2, hq3, hf⟩ := bs1 hf
  have hJ3 : ∀ (H : Heap) (locs : List Loc) (ls : Array Slot), Ho κ (wM κ) N ad w H → va_S (Aof ad N) s.heap H locs → lv_has ls 3 [(0, .ref (ad 0))] → W p l e R s m args below meth c H locs 0 0 Q (F0 m 16 ls [.int v2, .ref (ad 0)]) := by
    intro H locs ls hP hS hl
    obtain ⟨_, hb1, hf⟩ := bs1 hf
    obtain ⟨w4, hv, hf⟩ := bs1 hf
    refine x_put hx hb hts hown hE hD hA hP hS fp_X9_108 (nm0 hN) pM_0_19 (nbool (gb_some hb1)) (fbool (gb_some hb1)) hv dX9_readCurrent_16 (fun H locs hP hS => ?_)
    refine lv_aload_n hx hb dX9_readCurrent_19 rfl (lv_at hl 0 rfl) ?_
    refine lv_iconst (v := 0) hx hb dX9_readCurrent_20 nc_0 ?_
    refine lv_bipush (v := 99) hx hb dX9_readCurrent_21 nb_99 ?_
    refine lv_bipush (v := 44) hx hb dX9_readCurrent_23 nb_44 ?_
    obtain ⟨v5, w6, hv, hf⟩ := bs2 hf
    refine x_cVi (As := [.int 0, .int 99, .int 44]) (rest := []) hx hb hml hts hown hE hP hS hAA (kX9_number hN hD hv) cl_X9_112 (nm0 hN) oM_0 vc_9 (Nat.le_trans (by decide) hRf) (Nat.le_trans (by decide) hRl) (Nat.zero_le _) (Nat.zero_le _) rfl hl.1 rfl (Nat.le_of_ble_eq_true rfl) dX9_readCurrent_25 (fun H locs hP hS => ?_)
    refine lv_istore_n (lv' := [(1, .int v5), (0, .ref (ad 0))]) hx hb dX9_readCurrent_28 rfl hl (by decide) rfl (fun ls hl => ?_)
    refine lv_aload_n hx hb dX9_readCurrent_29 rfl (lv_at hl 1 rfl) ?_
    refine lv_iconst (v := 0) hx hb dX9_readCurrent_30 nc_0 ?_
    refine lv_iconst (v := 5) hx hb dX9_readCurrent_31 nc_5 ?_
    refine lv_bipush (v := 59) hx hb dX9_readCurrent_32 nb_59 ?_
    obtain ⟨v7, w8, hv, hf⟩ := bs2 hf
    refine x_cVi (As := [.int 0, .int 5, .int 59]) (rest := []) hx hb hml hts hown hE hP hS hAA (kX9_number hN hD hv) cl_X9_112 (nm0 hN) oM_0 vc_9 (Nat.le_trans (by decide) hRf) (Nat.le_trans (by decide) hRl) (Nat.zero_le _) (Nat.zero_le _) rfl hl.1 rfl (Nat.le_of_ble_eq_true rfl) dX9_readCurrent_34 (fun H locs hP hS => ?_)
    refine lv_istore_n (lv' := [(2, .int v7), (1, .int v5), (0, .ref (ad 0))]) hx hb dX9_readCurrent_37 rfl hl (by decide) rfl (fun ls hl => ?_)
    refine lv_aload_n hx hb dX9_readCurrent_38 rfl (lv_at hl 2 rfl) ?_
    refine x_get hx hb hts hown hE hP fl_X9_108 (nm0 hN) gM_0_19 dX9_readCurrent_39 ?_
    refine lv_if_eq (tgt := 83) hx hb dX9_readCurrent_42 (by decide) (fun hc => ?_) (fun hc => ?_)
    · have hf := ip hc hf
      cases hf
      exact hret _ _ _ _ dX9_readCurrent_83 hP hS
    · have hf := iq hc hf
      refine lv_aload_n hx hb dX9_readCurrent_45 rfl (lv_at hl 2 rfl) ?_
      refine x_get hx hb hts hown hE hP fl_X9_35 (nm0 hN) gM_0_9 dX9_readCurrent_46 ?_
      refine lv_iconst (v := 4) hx hb dX9_readCurrent_49 nc_4 ?_
      refine lv_aload_n hx hb dX9_readCurrent_50 rfl (lv_at hl 2 rfl) ?_
      refine x_get hx hb hts hown hE hP fl_X9_32 (nm0 hN) gM_0_8 dX9_readCurrent_51 ?_
      refine lv_iconst (v := 1) hx hb dX9_readCurrent_54 nc_1 ?_
      obtain ⟨v9, hv, hf⟩ := bs1 hf
      refine x_iald hx hb hE hP (nm8 hN) (aM_8 _) hv dX9_readCurrent_55 ?_
      refine lv_iadd hx hb dX9_readCurrent_56 ?_
      refine lv_iload_n hx hb dX9_readCurrent_57 rfl (lv_at hl 1 rfl) ?_
      obtain ⟨w10, hv, hf⟩ := bs1 hf
      refine x_iast hx hb hE hD hA hP hS (nm9 hN) aM_9 hv dX9_readCurrent_58 (fun H locs hP hS => ?_)
      refine lv_aload_n hx hb dX9_readCurrent_59 rfl (lv_at hl 2 rfl) ?_
      refine x_get hx hb hts hown hE hP fl_X9_38 (nm0 hN) gM_0_10 dX9_readCurrent_60 ?_
      refine lv_iconst (v := 4) hx hb dX9_readCurrent_63 nc_4 ?_
      refine lv_aload_n hx hb dX9_readCurrent_64 rfl (lv_at hl 2 rfl) ?_
      refine x_get hx hb hts hown hE hP fl_X9_32 (nm0 hN) gM_0_8 dX9_readCurrent_65 ?_
      refine lv_iconst (v := 1) hx hb dX9_readCurrent_68 nc_1 ?_
      obtain ⟨v11, hv, hf⟩ := bs1 hf
      refine x_iald hx hb hE hP (nm8 hN) (aM_8 _) hv dX9_readCurrent_69 ?_
      refine lv_iadd hx hb dX9_readCurrent_70 ?_
      refine lv_iload_n hx hb dX9_readCurrent_71 rfl (lv_at hl 0 rfl) ?_
      obtain ⟨w12, hv, hf⟩ := bs1 hf
      refine x_iast hx hb hE hD hA hP hS (nm10 hN) aM_10 hv dX9_readCurrent_72 (fun H locs hP hS => ?_)
      refine lv_aload_n hx hb dX9_readCurrent_73 rfl (lv_at hl 2 rfl) ?_
      refine x_get hx hb hts hown hE hP fl_X9_32 (nm0 hN) gM_0_8 dX9_readCurrent_74 ?_
      refine lv_iconst (v := 1) hx hb dX9_readCurrent_77 nc_1 ?_
      refine lv_dup2_11 hx hb dX9_readCurrent_78 rfl rfl ?_
      obtain ⟨v13, hv, hf⟩ := bs1 hf
      refine x_iald hx hb hE hP (nm8 hN) (aM_8 _) hv dX9_readCurrent_79 ?_
      refine lv_iconst (v := 1) hx hb dX9_readCurrent_80 nc_1 ?_
      refine lv_iadd hx hb dX9_readCurrent_81 ?_
      obtain ⟨w14, hv, hf⟩ := bs1 hf
      refine x_iast hx hb hE hD hA hP hS (nm8 hN) aM_8 hv dX9_readCurrent_82 (fun H locs hP hS => ?_)
      cases hf
      exact hret _ _ _ _ dX9_readCurrent_83 hP hS
  clear hf
  have hf := hq3
  clear hq3
  refine lv_icmp_ge (tgt := 15) hx hb dX9_readCurrent_8 (by decide) (fun hc => ?_) (fun hc => ?_)
  · have hf := ip hc hf
    refine lv_iconst (v := 0) hx hb dX9_readCurrent_15 nc_0 ?_
    cases hf
    exact hJ3 _ _ _ hP hS (lv_sub hl [0] rfl)
  · have hf := iq hc hf
    refine lv_iconst (v := 1) hx hb dX9_readCurrent_11 nc_1 ?_
    refine lv_goto (tgt := 16) hx hb dX9_readCurrent_12 (by decide) ?_
    cases hf
    exact hJ3 _ _ _ hP hS (lv_sub hl [0] rfl)
def fX9_readItem (w : Mm) : Option (Mm) :=
  bd1 (fX9_here w) fun v1 =>
  bd1 (pt w 0 18 ((w 0 18) + 1)) fun w2 =>
  bd1 (pt w2 0 19 1) fun w3 =>
  if v1 = 97 then
    bd1 (fX9_readRaft w3) fun w6 =>
    some w6
  else
  if v1 = 98 then
    bd1 (fX9_readBeast w3) fun w7 =>
    some w7
  else
  if v1 = 99 then
    bd1 (fX9_readCurrent w3) fun w8 =>
    some w8
  else
  if v1 = 114 then
    bd2 (fX9_told w3 44) fun v9 w10 =>
    bd2 (fX9_told w10 59) fun v11 w12 =>
    bd1 (
      if (w12 0 19) = 0 then
        some (0)
      else
        if v9 = v11 then
          some (0)
        else
          some (1)) fun (v13 : Int32) =>
    bd1 (gb v13) fun _ =>
    bd1 (pt w12 0 19 v13) fun w15 =>
    if (w15 0 19) = 0 then
      some w15
    else
      bd1 (wr w15 11 16 (8 + v9) v11) fun w16 =>
      some w16
  else
  if v1 = 115 then
    bd2 (fX9_told w3 59) fun v17 w18 =>
    if (w18 0 19) = 0 then
      some w18
    else
      bd1 (rd w18 14 16 (8 + v17)) fun v19 =>
      if v19 = 0 then
        bd1 (rd w18 15 2 1) fun v20 =>
        bd1 (wr w18 15 2 1 (v20 + 1)) fun w21 =>
        bd1 (rd w21 15 2 1) fun v22 =>
        bd1 (wr w21 14 16 (8 + v17) v22) fun w23 =>
        some w23
      else
        some w18
  else
  if v1 = 118 then
    bd2 (fX9_told w3 44) fun v24 w25 =>
    bd2 (fX9_number w25 1 8 59) fun v26 w27 =>
    if (w27 0 19) = 0 then
      some w27
    else
      bd1 (wr w27 16 16 (8 + v24) v26) fun w28 =>
      some w28
  else
  if v1 = 119 then
    bd2 (fX9_number w3 1 99 59) fun v29 w30 =>
    bd1 (wr w30 7 2 1 v29) fun w31 =>
    some w31
  else
  if v1 = 121 then
    bd2 (fX9_told w3 44) fun v32 w33 =>
    bd2 (fX9_number w33 0 99 59) fun v34 w35 =>
    if (w35 0 19) = 0 then
      some w35
    else
      bd1 (wr w35 17 16 (8 + v32) v34) fun w36 =>
      some w36
  else
  bd1 (pt w3 0 19 0) fun w4 =>
  some w4
set_option maxHeartbeats 4000000 in
set_option maxRecDepth 100000 in
theorem kX9_readItem {l : Launch} {κ : Kp} {N : Nat} {ad : Nat → Nat} {w : Mm} {w' : Mm} (hN : 26 ≤ N) (hD : Apt ad N) (hf : fX9_readItem w = some w') : Met l yX9_readItem (Cond.code yX9_readItem cX9_readItem 4 none :: TB) (rmX 4 91) (PcX κ (wM κ) N ad w [.ref (ad 0)]) (QV κ (wM κ) N ad w') 0 0 (Aof ad N) := by
  refine mkV (by decide +kernel) (Nat.le_of_ble_eq_true rfl) (fun p e R s m args below meth c Q H locs ls hC hRf hRl hP hS hret hl => ?_)
  obtain ⟨hx, hb, hml, hown, hts, hE⟩ := hC
  have hA : ∀ k, k < N → Aof ad N (ad k) := fun k h => Aof_in h
  have hAA : ∀ z, Aof ad N z → Aof ad N z := fun _ h => h
  have hl : lv_has ls 4 [(0, .ref (ad 0))] := hl
  unfold fX9_readItem at hf
  refine lv_aload_n hx hb dX9_readItem_0 rfl (lv_at hl 0 rfl) ?_
  obtain ⟨v1, hv, hf⟩ := bs1 hf
  refine x_cVi (As := []) (rest := []) hx hb hml hts hown hE hP hS hAA (kX9_here hN hD hv) cl_X9_104 (nm0 hN) oM_0 vc_9 (Nat.le_trans (by decide) hRf) (Nat.le_trans (by decide) hRl) (Nat.zero_le _) (Nat.zero_le _) rfl hl.1 rfl (Nat.le_of_ble_eq_true rfl) dX9_readItem_1 (fun H locs hP hS => ?_)
  refine lv_istore_n (lv' := [(1, .int v1), (0, .ref (ad 0))]) hx hb dX9_readItem_4 rfl hl (by decide) rfl (fun ls hl => ?_)
  refine lv_aload_n hx hb dX9_readItem_5 rfl (lv_at hl 1 rfl) ?_
  refine lv_dup hx hb dX9_readItem_6 rfl ?_
  refine x_get hx hb hts hown hE hP fl_X9_101 (nm0 hN) gM_0_18 dX9_readItem_7 ?_
  refine lv_iconst (v := 1) hx hb dX9_readItem_10 nc_1 ?_
  refine lv_iadd hx hb dX9_readItem_11 ?_
  obtain ⟨w2, hv, hf⟩ := bs1 hf
  refine x_put hx hb hts hown hE hD hA hP hS fp_X9_101 (nm0 hN) pM_0_18 rfl rfl hv dX9_readItem_12 (fun H locs hP hS => ?_)
  refine lv_aload_n hx hb dX9_readItem_15 rfl (lv_at hl 1 rfl) ?_
  refine lv_iconst (v := 1) hx hb dX9_readItem_16 nc_1 ?_
  obtain ⟨w3, hv, hf⟩ := bs1 hf
  refine x_put hx hb hts hown hE hD hA hP hS fp_X9_108 (nm0 hN) pM_0_19 rfl rfl hv dX9_readItem_17 (fun H locs hP hS => ?_)
  refine lv_iload_n hx hb dX9_readItem_20 rfl (lv_at hl 0 rfl) ?_
  by_cases hk97 : v1 = 97
  · have hf := ip hk97 hf
    refine lv_tableIn (off := 202) (tgt := 223) hx hb dX9_readItem_21 (by rw [hk97]; decide) (by rw [hk97]; decide) (by rw [hk97]; rfl) (by decide) ?_
    refine lv_aload_n hx hb dX9_readItem_223 rfl (lv_at hl 1 rfl) ?_
    obtain ⟨w6, hv, hf⟩ := bs1 hf
    refine x_cVv (As := []) (rest := []) hx hb hml hts hown hE hP hS hAA (kX9_readRaft hN hD hv) cl_X9_126 (nm0 hN) oM_0 vc_9 (Nat.le_trans (by decide) hRf) (Nat.le_trans (by decide) hRl) (Nat.zero_le _) (Nat.zero_le _) rfl hl.1 rfl (Nat.le_of_ble_eq_true rfl) dX9_readItem_224 (fun H locs hP hS => ?_)
    refine lv_goto (tgt := 363) hx hb dX9_readItem_227 (by decide) ?_
    cases hf
    exact hret _ _ _ _ dX9_readItem_363 hP hS
  · have hf := iq hk97 hf
    by_cases hk98 : v1 = 98
    · have hf := ip hk98 hf
      refine lv_tableIn (off := 115) (tgt := 136) hx hb dX9_readItem_21 (by rw [hk98]; decide) (by rw [hk98]; decide) (by rw [hk98]; rfl) (by decide) ?_
      refine lv_aload_n hx hb dX9_readItem_136 rfl (lv_at hl 1 rfl) ?_
      obtain ⟨w7, hv, hf⟩ := bs1 hf
      refine x_cVv (As := []) (rest := []) hx hb hml hts hown hE hP hS hAA (kX9_readBeast hN hD hv) cl_X9_120 (nm0 hN) oM_0 vc_9 (Nat.le_trans (by decide) hRf) (Nat.le_trans (by decide) hRl) (Nat.zero_le _) (Nat.zero_le _) rfl hl.1 rfl (Nat.le_of_ble_eq_true rfl) dX9_readItem_137 (fun H locs hP hS => ?_)
      refine lv_goto (tgt := 363) hx hb dX9_readItem_140 (by decide) ?_
      cases hf
      exact hret _ _ _ _ dX9_readItem_363 hP hS
    · have hf := iq hk98 hf
      by_cases hk99 : v1 = 99
      · have hf := ip hk99 hf
        refine lv_tableIn (off := 140) (tgt := 161) hx hb dX9_readItem_21 (by rw [hk99]; decide) (by rw [hk99]; decide) (by rw [hk99]; rfl) (by decide) ?_
        refine lv_aload_n hx hb dX9_readItem_161 rfl (lv_at hl 1 rfl) ?_
        obtain ⟨w8, hv, hf⟩ := bs1 hf
        refine x_cVv (As := []) (rest := []) hx hb hml hts hown hE hP hS hAA (kX9_readCurrent hN hD hv) cl_X9_123 (nm0 hN) oM_0 vc_9 (Nat.le_trans (by decide) hRf) (Nat.le_trans (by decide) hRl) (Nat.zero_le _) (Nat.zero_le _) rfl hl.1 rfl (Nat.le_of_ble_eq_true rfl) dX9_readItem_162 (fun H locs hP hS => ?_)
        refine lv_goto (tgt := 363) hx hb dX9_readItem_165 (by decide) ?_
        cases hf
        exact hret _ _ _ _ dX9_readItem_363 hP hS
      · have hf := iq hk99 hf
        by_cases hk114 : v1 = 114
        · have hf := ip hk114 hf
          refine lv_tableIn (off := 147) (tgt := 168) hx hb dX9_readItem_21 (by rw [hk114]; decide) (by rw [hk114]; decide) (by rw [hk114]; rfl) (by decide) ?_
          refine lv_aload_n hx hb dX9_readItem_168 rfl (lv_at hl 1 rfl) ?_
          refine lv_bipush (v := 44) hx hb dX9_readItem_169 nb_44 ?_
          obtain ⟨v9, w10, hv, hf⟩ := bs2 hf
          refine x_cVi (As := [.int 44]) (rest := []) hx hb hml hts hown hE hP hS hAA (kX9_told hN hD hv) cl_X9_116 (nm0 hN) oM_0 vc_9 (Nat.le_trans (by decide) hRf) (Nat.le_trans (by decide) hRl) (Nat.zero_le _) (Nat.zero_le _) rfl hl.1 rfl (Nat.le_of_ble_eq_true rfl) dX9_readItem_171 (fun H locs hP hS => ?_)
          refine lv_istore_n (lv' := [(2, .int v9), (1, .int v1), (0, .ref (ad 0))]) hx hb dX9_readItem_174 rfl hl (by decide) rfl (fun ls hl => ?_)
          refine lv_aload_n hx hb dX9_readItem_175 rfl (lv_at hl 2 rfl) ?_
          refine lv_bipush (v := 59) hx hb dX9_readItem_176 nb_59 ?_
          obtain ⟨v11, w12, hv, hf⟩ := bs2 hf
          refine x_cVi (As := [.int 59]) (rest := []) hx hb hml hts hown hE hP hS hAA (kX9_told hN hD hv) cl_X9_116 (nm0 hN) oM_0 vc_9 (Nat.le_trans (by decide) hRf) (Nat.le_trans (by decide) hRl) (Nat.zero_le _) (Nat.zero_le _) rfl hl.1 rfl (Nat.le_of_ble_eq_true rfl) dX9_readItem_178 (fun H locs hP hS => ?_)
          refine lv_istore_n (lv' := [(3, .int v11), (2, .int v9), (1, .int v1), (0, .ref (ad 0))]) hx hb dX9_readItem_181 rfl hl (by decide) rfl (fun ls hl => ?_)
          refine lv_aload_n hx hb dX9_readItem_182 rfl (lv_at hl 3 rfl) ?_
          refine lv_aload_n hx hb dX9_readItem_183 rfl (lv_at hl 3 rfl) ?_
          refine x_get hx hb hts hown hE hP fl_X9_108 (nm0 hN) gM_0_19 dX9_readItem_184 ?_
          obtain ⟨v13, hq14, hf⟩ := bs1 hf
          have hJ14 : ∀ (H : Heap) (locs : List Loc) (ls : Array Slot), Ho κ (wM κ) N ad w12 H → va_S (Aof ad N) s.heap H locs → lv_has ls 4 [(0, .ref (ad 0)), (2, .int v9), (3, .int v11)] → W p l e R s m args below meth c H locs 0 0 Q (F0 m 200 ls [.int v13, .ref (ad 0)]) := by
            intro H locs ls hP hS hl
            obtain ⟨_, hb1, hf⟩ := bs1 hf
            obtain ⟨w15, hv, hf⟩ := bs1 hf
            refine x_put hx hb hts hown hE hD hA hP hS fp_X9_108 (nm0 hN) pM_0_19 (nbool (gb_some hb1)) (fbool (gb_some hb1)) hv dX9_readItem_200 (fun H locs hP hS => ?_)
            refine lv_aload_n hx hb dX9_readItem_203 rfl (lv_at hl 0 rfl) ?_
            refine x_get hx hb hts hown hE hP fl_X9_108 (nm0 hN) gM_0_19 dX9_readItem_204 ?_
            refine lv_if_eq (tgt := 363) hx hb dX9_readItem_207 (by decide) (fun hc => ?_) (fun hc => ?_)
            · have hf := ip hc hf
              cases hf
              exact hret _ _ _ _ dX9_readItem_363 hP hS
            · have hf := iq hc hf
              refine lv_aload_n hx hb dX9_readItem_210 rfl (lv_at hl 0 rfl) ?_
              refine x_get hx hb hts hown hE hP fl_X9_41 (nm0 hN) gM_0_11 dX9_readItem_211 ?_
              refine lv_bipush (v := 8) hx hb dX9_readItem_214 nb_8 ?_
              refine lv_iload_n hx hb dX9_readItem_216 rfl (lv_at hl 1 rfl) ?_
              refine lv_iadd hx hb dX9_readItem_217 ?_
              refine lv_iload_n hx hb dX9_readItem_218 rfl (lv_at hl 2 rfl) ?_
              obtain ⟨w16, hv, hf⟩ := bs1 hf
              refine x_iast hx hb hE hD hA hP hS (nm11 hN) aM_11 hv dX9_readItem_219 (fun H locs hP hS => ?_)
              refine lv_goto (tgt := 363) hx hb dX9_readItem_220 (by decide) ?_
              cases hf
              exact hret _ _ _ _ dX9_readItem_363 hP hS
          clear hf
          have hf := hq14
          clear hq14
          refine lv_if_eq (tgt := 199) hx hb dX9_readItem_187 (by decide) (fun hc => ?_) (fun hc => ?_)
          · have hf := ip hc hf
            refine lv_iconst (v := 0) hx hb dX9_readItem_199 nc_0 ?_
            cases hf
            exact hJ14 _ _ _ hP hS (lv_sub hl [3, 1, 0] rfl)
          · have hf := iq hc hf
            refine lv_iload_n hx hb dX9_readItem_190 rfl (lv_at hl 1 rfl) ?_
            refine lv_iload_n hx hb dX9_readItem_191 rfl (lv_at hl 0 rfl) ?_
            refine lv_icmp_eq (tgt := 199) hx hb dX9_readItem_192 (by decide) (fun hc => ?_) (fun hc => ?_)
            · have hf := ip hc hf
              refine lv_iconst (v := 0) hx hb dX9_readItem_199 nc_0 ?_
              cases hf
              exact hJ14 _ _ _ hP hS (lv_sub hl [3, 1, 0] rfl)
            · have hf := iq hc hf
              refine lv_iconst (v := 1) hx hb dX9_readItem_195 nc_1 ?_
              refine lv_goto (tgt := 200) hx hb dX9_readItem_196 (by decide) ?_
              cases hf
              exact hJ14 _ _ _ hP hS (lv_sub hl [3, 1, 0] rfl)
        · have hf := iq hk114 hf
          by_cases hk115 : v1 = 115
          · have hf := ip hk115 hf
            refine lv_tableIn (off := 209) (tgt := 230) hx hb dX9_readItem_21 (by rw [hk115]; decide) (by rw [hk115]; decide) (by rw [hk115]; rfl) (by decide) ?_
            refine lv_aload_n hx hb dX9_readItem_230 rfl (lv_at hl 1 rfl) ?_
            refine lv_bipush (v := 59) hx hb dX9_readItem_231 nb_59 ?_
            obtain ⟨v17, w18, hv, hf⟩ := bs2 hf
            refine x_cVi (As := [.int 59]) (rest := []) hx hb hml hts hown hE hP hS hAA (kX9_told hN hD hv) cl_X9_116 (nm0 hN) oM_0 vc_9 (Nat.le_trans (by decide) hRf) (Nat.le_trans (by decide) hRl) (Nat.zero_le _) (Nat.zero_le _) rfl hl.1 rfl (Nat.le_of_ble_eq_true rfl) dX9_readItem_233 (fun H locs hP hS => ?_)
            refine lv_istore_n (lv' := [(2, .int v17), (1, .int v1), (0, .ref (ad 0))]) hx hb dX9_readItem_236 rfl hl (by decide) rfl (fun ls hl => ?_)
            refine lv_aload_n hx hb dX9_readItem_237 rfl (lv_at hl 2 rfl) ?_
            refine x_get hx hb hts hown hE hP fl_X9_108 (nm0 hN) gM_0_19 dX9_readItem_238 ?_
            refine lv_if_eq (tgt := 363) hx hb dX9_readItem_241 (by decide) (fun hc => ?_) (fun hc => ?_)
            · have hf := ip hc hf
              cases hf
              exact hret _ _ _ _ dX9_readItem_363 hP hS
            · have hf := iq hc hf
              refine lv_aload_n hx hb dX9_readItem_244 rfl (lv_at hl 2 rfl) ?_
              refine x_get hx hb hts hown hE hP fl_X9_50 (nm0 hN) gM_0_14 dX9_readItem_245 ?_
              refine lv_bipush (v := 8) hx hb dX9_readItem_248 nb_8 ?_
              refine lv_iload_n hx hb dX9_readItem_250 rfl (lv_at hl 0 rfl) ?_
              refine lv_iadd hx hb dX9_readItem_251 ?_
              obtain ⟨v19, hv, hf⟩ := bs1 hf
              refine x_iald hx hb hE hP (nm14 hN) (aM_14 _) hv dX9_readItem_252 ?_
              refine lv_if_ne (tgt := 363) hx hb dX9_readItem_253 (by decide) (fun hc => ?_) (fun hc => ?_)
              · have hf := iq hc hf
                cases hf
                exact hret _ _ _ _ dX9_readItem_363 hP hS
              · have hf := ip hc hf
                refine lv_aload_n hx hb dX9_readItem_256 rfl (lv_at hl 2 rfl) ?_
                refine x_get hx hb hts hown hE hP fl_X9_53 (nm0 hN) gM_0_15 dX9_readItem_257 ?_
                refine lv_iconst (v := 1) hx hb dX9_readItem_260 nc_1 ?_
                refine lv_dup2_11 hx hb dX9_readItem_261 rfl rfl ?_
                obtain ⟨v20, hv, hf⟩ := bs1 hf
                refine x_iald hx hb hE hP (nm15 hN) (aM_15 _) hv dX9_readItem_262 ?_
                refine lv_iconst (v := 1) hx hb dX9_readItem_263 nc_1 ?_
                refine lv_iadd hx hb dX9_readItem_264 ?_
                obtain ⟨w21, hv, hf⟩ := bs1 hf
                refine x_iast hx hb hE hD hA hP hS (nm15 hN) aM_15 hv dX9_readItem_265 (fun H locs hP hS => ?_)
                refine lv_aload_n hx hb dX9_readItem_266 rfl (lv_at hl 2 rfl) ?_
                refine x_get hx hb hts hown hE hP fl_X9_50 (nm0 hN) gM_0_14 dX9_readItem_267 ?_
                refine lv_bipush (v := 8) hx hb dX9_readItem_270 nb_8 ?_
                refine lv_iload_n hx hb dX9_readItem_272 rfl (lv_at hl 0 rfl) ?_
                refine lv_iadd hx hb dX9_readItem_273 ?_
                refine lv_aload_n hx hb dX9_readItem_274 rfl (lv_at hl 2 rfl) ?_
                refine x_get hx hb hts hown hE hP fl_X9_53 (nm0 hN) gM_0_15 dX9_readItem_275 ?_
                refine lv_iconst (v := 1) hx hb dX9_readItem_278 nc_1 ?_
                obtain ⟨v22, hv, hf⟩ := bs1 hf
                refine x_iald hx hb hE hP (nm15 hN) (aM_15 _) hv dX9_readItem_279 ?_
                obtain ⟨w23, hv, hf⟩ := bs1 hf
                refine x_iast hx hb hE hD hA hP hS (nm14 hN) aM_14 hv dX9_readItem_280 (fun H locs hP hS => ?_)
                refine lv_goto (tgt := 363) hx hb dX9_readItem_281 (by decide) ?_
                cases hf
                exact hret _ _ _ _ dX9_readItem_363 hP hS
          · have hf := iq hk115 hf
            by_cases hk118 : v1 = 118
            · have hf := ip hk118 hf
              refine lv_tableIn (off := 263) (tgt := 284) hx hb dX9_readItem_21 (by rw [hk118]; decide) (by rw [hk118]; decide) (by rw [hk118]; rfl) (by decide) ?_
              refine lv_aload_n hx hb dX9_readItem_284 rfl (lv_at hl 1 rfl) ?_
              refine lv_bipush (v := 44) hx hb dX9_readItem_285 nb_44 ?_
              obtain ⟨v24, w25, hv, hf⟩ := bs2 hf
              refine x_cVi (As := [.int 44]) (rest := []) hx hb hml hts hown hE hP hS hAA (kX9_told hN hD hv) cl_X9_116 (nm0 hN) oM_0 vc_9 (Nat.le_trans (by decide) hRf) (Nat.le_trans (by decide) hRl) (Nat.zero_le _) (Nat.zero_le _) rfl hl.1 rfl (Nat.le_of_ble_eq_true rfl) dX9_readItem_287 (fun H locs hP hS => ?_)
              refine lv_istore_n (lv' := [(2, .int v24), (1, .int v1), (0, .ref (ad 0))]) hx hb dX9_readItem_290 rfl hl (by decide) rfl (fun ls hl => ?_)
              refine lv_aload_n hx hb dX9_readItem_291 rfl (lv_at hl 2 rfl) ?_
              refine lv_iconst (v := 1) hx hb dX9_readItem_292 nc_1 ?_
              refine lv_bipush (v := 8) hx hb dX9_readItem_293 nb_8 ?_
              refine lv_bipush (v := 59) hx hb dX9_readItem_295 nb_59 ?_
              obtain ⟨v26, w27, hv, hf⟩ := bs2 hf
              refine x_cVi (As := [.int 1, .int 8, .int 59]) (rest := []) hx hb hml hts hown hE hP hS hAA (kX9_number hN hD hv) cl_X9_112 (nm0 hN) oM_0 vc_9 (Nat.le_trans (by decide) hRf) (Nat.le_trans (by decide) hRl) (Nat.zero_le _) (Nat.zero_le _) rfl hl.1 rfl (Nat.le_of_ble_eq_true rfl) dX9_readItem_297 (fun H locs hP hS => ?_)
              refine lv_istore_n (lv' := [(3, .int v26), (2, .int v24), (1, .int v1), (0, .ref (ad 0))]) hx hb dX9_readItem_300 rfl hl (by decide) rfl (fun ls hl => ?_)
              refine lv_aload_n hx hb dX9_readItem_301 rfl (lv_at hl 3 rfl) ?_
              refine x_get hx hb hts hown hE hP fl_X9_108 (nm0 hN) gM_0_19 dX9_readItem_302 ?_
              refine lv_if_eq (tgt := 363) hx hb dX9_readItem_305 (by decide) (fun hc => ?_) (fun hc => ?_)
              · have hf := ip hc hf
                cases hf
                exact hret _ _ _ _ dX9_readItem_363 hP hS
              · have hf := iq hc hf
                refine lv_aload_n hx hb dX9_readItem_308 rfl (lv_at hl 3 rfl) ?_
                refine x_get hx hb hts hown hE hP fl_X9_56 (nm0 hN) gM_0_16 dX9_readItem_309 ?_
                refine lv_bipush (v := 8) hx hb dX9_readItem_312 nb_8 ?_
                refine lv_iload_n hx hb dX9_readItem_314 rfl (lv_at hl 1 rfl) ?_
                refine lv_iadd hx hb dX9_readItem_315 ?_
                refine lv_iload_n hx hb dX9_readItem_316 rfl (lv_at hl 0 rfl) ?_
                obtain ⟨w28, hv, hf⟩ := bs1 hf
                refine x_iast hx hb hE hD hA hP hS (nm16 hN) aM_16 hv dX9_readItem_317 (fun H locs hP hS => ?_)
                refine lv_goto (tgt := 363) hx hb dX9_readItem_318 (by decide) ?_
                cases hf
                exact hret _ _ _ _ dX9_readItem_363 hP hS
            · have hf := iq hk118 hf
              by_cases hk119 : v1 = 119
              · have hf := ip hk119 hf
                refine lv_tableIn (off := 122) (tgt := 143) hx hb dX9_readItem_21 (by rw [hk119]; decide) (by rw [hk119]; decide) (by rw [hk119]; rfl) (by decide) ?_
                refine lv_aload_n hx hb dX9_readItem_143 rfl (lv_at hl 1 rfl) ?_
                refine x_get hx hb hts hown hE hP fl_X9_29 (nm0 hN) gM_0_7 dX9_readItem_144 ?_
                refine lv_iconst (v := 1) hx hb dX9_readItem_147 nc_1 ?_
                refine lv_aload_n hx hb dX9_readItem_148 rfl (lv_at hl 1 rfl) ?_
                refine lv_iconst (v := 1) hx hb dX9_readItem_149 nc_1 ?_
                refine lv_bipush (v := 99) hx hb dX9_readItem_150 nb_99 ?_
                refine lv_bipush (v := 59) hx hb dX9_readItem_152 nb_59 ?_
                obtain ⟨v29, w30, hv, hf⟩ := bs2 hf
                refine x_cVi (As := [.int 1, .int 99, .int 59]) (rest := [.int 1, .ref (ad 7)]) hx hb hml hts hown hE hP hS hAA (kX9_number hN hD hv) cl_X9_112 (nm0 hN) oM_0 vc_9 (Nat.le_trans (by decide) hRf) (Nat.le_trans (by decide) hRl) (Nat.zero_le _) (Nat.zero_le _) rfl hl.1 rfl (Nat.le_of_ble_eq_true rfl) dX9_readItem_154 (fun H locs hP hS => ?_)
                obtain ⟨w31, hv, hf⟩ := bs1 hf
                refine x_iast hx hb hE hD hA hP hS (nm7 hN) aM_7 hv dX9_readItem_157 (fun H locs hP hS => ?_)
                refine lv_goto (tgt := 363) hx hb dX9_readItem_158 (by decide) ?_
                cases hf
                exact hret _ _ _ _ dX9_readItem_363 hP hS
              · have hf := iq hk119 hf
                by_cases hk121 : v1 = 121
                · have hf := ip hk121 hf
                  refine lv_tableIn (off := 300) (tgt := 321) hx hb dX9_readItem_21 (by rw [hk121]; decide) (by rw [hk121]; decide) (by rw [hk121]; rfl) (by decide) ?_
                  refine lv_aload_n hx hb dX9_readItem_321 rfl (lv_at hl 1 rfl) ?_
                  refine lv_bipush (v := 44) hx hb dX9_readItem_322 nb_44 ?_
                  obtain ⟨v32, w33, hv, hf⟩ := bs2 hf
                  refine x_cVi (As := [.int 44]) (rest := []) hx hb hml hts hown hE hP hS hAA (kX9_told hN hD hv) cl_X9_116 (nm0 hN) oM_0 vc_9 (Nat.le_trans (by decide) hRf) (Nat.le_trans (by decide) hRl) (Nat.zero_le _) (Nat.zero_le _) rfl hl.1 rfl (Nat.le_of_ble_eq_true rfl) dX9_readItem_324 (fun H locs hP hS => ?_)
                  refine lv_istore_n (lv' := [(2, .int v32), (1, .int v1), (0, .ref (ad 0))]) hx hb dX9_readItem_327 rfl hl (by decide) rfl (fun ls hl => ?_)
                  refine lv_aload_n hx hb dX9_readItem_328 rfl (lv_at hl 2 rfl) ?_
                  refine lv_iconst (v := 0) hx hb dX9_readItem_329 nc_0 ?_
                  refine lv_bipush (v := 99) hx hb dX9_readItem_330 nb_99 ?_
                  refine lv_bipush (v := 59) hx hb dX9_readItem_332 nb_59 ?_
                  obtain ⟨v34, w35, hv, hf⟩ := bs2 hf
                  refine x_cVi (As := [.int 0, .int 99, .int 59]) (rest := []) hx hb hml hts hown hE hP hS hAA (kX9_number hN hD hv) cl_X9_112 (nm0 hN) oM_0 vc_9 (Nat.le_trans (by decide) hRf) (Nat.le_trans (by decide) hRl) (Nat.zero_le _) (Nat.zero_le _) rfl hl.1 rfl (Nat.le_of_ble_eq_true rfl) dX9_readItem_334 (fun H locs hP hS => ?_)
                  refine lv_istore_n (lv' := [(3, .int v34), (2, .int v32), (1, .int v1), (0, .ref (ad 0))]) hx hb dX9_readItem_337 rfl hl (by decide) rfl (fun ls hl => ?_)
                  refine lv_aload_n hx hb dX9_readItem_338 rfl (lv_at hl 3 rfl) ?_
                  refine x_get hx hb hts hown hE hP fl_X9_108 (nm0 hN) gM_0_19 dX9_readItem_339 ?_
                  refine lv_if_eq (tgt := 363) hx hb dX9_readItem_342 (by decide) (fun hc => ?_) (fun hc => ?_)
                  · have hf := ip hc hf
                    cases hf
                    exact hret _ _ _ _ dX9_readItem_363 hP hS
                  · have hf := iq hc hf
                    refine lv_aload_n hx hb dX9_readItem_345 rfl (lv_at hl 3 rfl) ?_
                    refine x_get hx hb hts hown hE hP fl_X9_59 (nm0 hN) gM_0_17 dX9_readItem_346 ?_
                    refine lv_bipush (v := 8) hx hb dX9_readItem_349 nb_8 ?_
                    refine lv_iload_n hx hb dX9_readItem_351 rfl (lv_at hl 1 rfl) ?_
                    refine lv_iadd hx hb dX9_readItem_352 ?_
                    refine lv_iload_n hx hb dX9_readItem_353 rfl (lv_at hl 0 rfl) ?_
                    obtain ⟨w36, hv, hf⟩ := bs1 hf
                    refine x_iast hx hb hE hD hA hP hS (nm17 hN) aM_17 hv dX9_readItem_354 (fun H locs hP hS => ?_)
                    refine lv_goto (tgt := 363) hx hb dX9_readItem_355 (by decide) ?_
                    cases hf
                    exact hret _ _ _ _ dX9_readItem_363 hP hS
                · have hf := iq hk121 hf
                  have hD4 : W p l e R s m args below meth c H locs 0 0 Q (F0 m 358 ls []) := by
                    refine lv_aload_n hx hb dX9_readItem_358 rfl (lv_at hl 1 rfl) ?_
                    refine lv_iconst (v := 0) hx hb dX9_readItem_359 nc_0 ?_
                    obtain ⟨w4, hv, hf⟩ := bs1 hf
                    refine x_put hx hb hts hown hE hD hA hP hS fp_X9_108 (nm0 hN) pM_0_19 rfl rfl hv dX9_readItem_360 (fun H locs hP hS => ?_)
                    cases hf
                    exact hret _ _ _ _ dX9_readItem_363 hP hS
                  by_cases ho : (v1).toInt < 97 ∨ 121 < (v1).toInt
                  · exact lv_tableOut (tgt := 358) hx hb dX9_readItem_21 ho (by decide) hD4
                  · have h1 : ¬ (v1).toInt < 97 := fun q => ho (Or.inl q)
                    have h2 : ¬ 121 < (v1).toInt := fun q => ho (Or.inr q)
                    have hn97 := lv_neT (a := 97) hk97 (by decide)
                    have hn98 := lv_neT (a := 98) hk98 (by decide)
                    have hn99 := lv_neT (a := 99) hk99 (by decide)
                    have hn114 := lv_neT (a := 114) hk114 (by decide)
                    have hn115 := lv_neT (a := 115) hk115 (by decide)
                    have hn118 := lv_neT (a := 118) hk118 (by decide)
                    have hn119 := lv_neT (a := 119) hk119 (by decide)
                    have hn121 := lv_neT (a := 121) hk121 (by decide)
                    have key : ∀ j : Fin 25, (j.val = 0 ∨ j.val = 1 ∨ j.val = 2 ∨ j.val = 17 ∨ j.val = 18 ∨ j.val = 21 ∨ j.val = 22 ∨ j.val = 24) ∨ (#[202, 115, 140, 337, 337, 337, 337, 337, 337, 337, 337, 337, 337, 337, 337, 337, 337, 147, 209, 337, 337, 263, 122, 337, 300] : Array Int)[j.val]? = some 337 := by decide
                    have hj : ((v1).toInt - 97).toNat < 25 := by omega
                    have hk := key ⟨_, hj⟩
                    dsimp only at hk
                    rcases hk with hk | hk
                    · exfalso
                      omega
                    · exact lv_tableIn (off := 337) (tgt := 358) hx hb dX9_readItem_21 h1 h2 hk (by decide) hD4
def LX9_fault_41 : Nat → Mm → Option (Int32 × Mm)
  | 0, _ => none
  | fu + 1, w7 =>
    if (w7 0 1) ≤ (w7 0 18) then
      some ((-4), w7)
    else
      bd1 (fX9_readItem w7) fun w9 =>
      if (w9 0 19) = 0 then
        some ((w7 0 18), w9)
      else
        LX9_fault_41 fu w9
def fX9_fault (w : Mm) : Option (Int32 × Mm) :=
  bd1 (pt w 0 18 0) fun w1 =>
  bd1 (wr w1 2 2 1 0) fun w2 =>
  bd1 (wr w2 7 2 1 30) fun w3 =>
  bd1 (wr w3 8 2 1 0) fun w4 =>
  bd1 (wr w4 12 2 1 0) fun w5 =>
  bd1 (wr w5 15 2 1 0) fun w6 =>
  LX9_fault_41 1000 w6
set_option maxHeartbeats 4000000 in
set_option maxRecDepth 100000 in
theorem kX9_fault {l : Launch} {κ : Kp} {N : Nat} {ad : Nat → Nat} {w : Mm} {r : Int32} {w' : Mm} (hN : 26 ≤ N) (hD : Apt ad N) (hf : fX9_fault w = some (r, w')) : Met l yX9_fault (Cond.code yX9_fault cX9_fault 2 (some .int) :: TB) (rmX 5 114) (PcX κ (wM κ) N ad w [.ref (ad 0)]) (QI κ (wM κ) N ad w' r) 0 0 (Aof ad N) := by
  refine mkI (by decide +kernel) (Nat.le_of_ble_eq_true rfl) (fun p e R s m args below meth c Q H locs ls hC hRf hRl hP hS hret hl => ?_)
  obtain ⟨hx, hb, hml, hown, hts, hE⟩ := hC
  have hA : ∀ k, k < N → Aof ad N (ad k) := fun k h => Aof_in h
  have hAA : ∀ z, Aof ad N z → Aof ad N z := fun _ h => h
  have hl : lv_has ls 2 [(0, .ref (ad 0))] := hl
  unfold fX9_fault at hf
  refine lv_aload_n hx hb dX9_fault_0 rfl (lv_at hl 0 rfl) ?_
  refine lv_iconst (v := 0) hx hb dX9_fault_1 nc_0 ?_
  obtain ⟨w1, hv, hf⟩ := bs1 hf
  refine x_put hx hb hts hown hE hD hA hP hS fp_X9_101 (nm0 hN) pM_0_18 rfl rfl hv dX9_fault_2 (fun H locs hP hS => ?_)
  refine lv_aload_n hx hb dX9_fault_5 rfl (lv_at hl 0 rfl) ?_
  refine x_get hx hb hts hown hE hP fl_X9_13 (nm0 hN) gM_0_2 dX9_fault_6 ?_
  refine lv_iconst (v := 1) hx hb dX9_fault_9 nc_1 ?_
  refine lv_iconst (v := 0) hx hb dX9_fault_10 nc_0 ?_
  obtain ⟨w2, hv, hf⟩ := bs1 hf
  refine x_iast hx hb hE hD hA hP hS (nm2 hN) aM_2 hv dX9_fault_11 (fun H locs hP hS => ?_)
  refine lv_aload_n hx hb dX9_fault_12 rfl (lv_at hl 0 rfl) ?_
  refine x_get hx hb hts hown hE hP fl_X9_29 (nm0 hN) gM_0_7 dX9_fault_13 ?_
  refine lv_iconst (v := 1) hx hb dX9_fault_16 nc_1 ?_
  refine lv_bipush (v := 30) hx hb dX9_fault_17 nb_30 ?_
  obtain ⟨w3, hv, hf⟩ := bs1 hf
  refine x_iast hx hb hE hD hA hP hS (nm7 hN) aM_7 hv dX9_fault_19 (fun H locs hP hS => ?_)
  refine lv_aload_n hx hb dX9_fault_20 rfl (lv_at hl 0 rfl) ?_
  refine x_get hx hb hts hown hE hP fl_X9_32 (nm0 hN) gM_0_8 dX9_fault_21 ?_
  refine lv_iconst (v := 1) hx hb dX9_fault_24 nc_1 ?_
  refine lv_iconst (v := 0) hx hb dX9_fault_25 nc_0 ?_
  obtain ⟨w4, hv, hf⟩ := bs1 hf
  refine x_iast hx hb hE hD hA hP hS (nm8 hN) aM_8 hv dX9_fault_26 (fun H locs hP hS => ?_)
  refine lv_aload_n hx hb dX9_fault_27 rfl (lv_at hl 0 rfl) ?_
  refine x_get hx hb hts hown hE hP fl_X9_44 (nm0 hN) gM_0_12 dX9_fault_28 ?_
  refine lv_iconst (v := 1) hx hb dX9_fault_31 nc_1 ?_
  refine lv_iconst (v := 0) hx hb dX9_fault_32 nc_0 ?_
  obtain ⟨w5, hv, hf⟩ := bs1 hf
  refine x_iast hx hb hE hD hA hP hS (nm12 hN) aM_12 hv dX9_fault_33 (fun H locs hP hS => ?_)
  refine lv_aload_n hx hb dX9_fault_34 rfl (lv_at hl 0 rfl) ?_
  refine x_get hx hb hts hown hE hP fl_X9_53 (nm0 hN) gM_0_15 dX9_fault_35 ?_
  refine lv_iconst (v := 1) hx hb dX9_fault_38 nc_1 ?_
  refine lv_iconst (v := 0) hx hb dX9_fault_39 nc_0 ?_
  obtain ⟨w6, hv, hf⟩ := bs1 hf
  refine x_iast hx hb hE hD hA hP hS (nm15 hN) aM_15 hv dX9_fault_40 (fun H locs hP hS => ?_)
  have hL8 : ∀ (fu : Nat) (w7 : Mm) (H : Heap) (locs : List Loc) (ls : Array Slot), LX9_fault_41 fu w7 = some (r, w') → Ho κ (wM κ) N ad w7 H → va_S (Aof ad N) s.heap H locs → lv_has ls 2 [(0, .ref (ad 0))] → W p l e R s m args below meth c H locs 0 0 Q (F0 m 41 ls []) := by
    intro fu
    induction fu with
    | zero =>
      intro w7 H locs ls hf
      rw [LX9_fault_41] at hf
      cases hf
    | succ fu ih =>
      intro w7 H locs ls hf hP hS hl
      rw [LX9_fault_41] at hf
      refine lv_aload_n hx hb dX9_fault_41 rfl (lv_at hl 0 rfl) ?_
      refine x_get hx hb hts hown hE hP fl_X9_101 (nm0 hN) gM_0_18 dX9_fault_42 ?_
      refine lv_aload_n hx hb dX9_fault_45 rfl (lv_at hl 0 rfl) ?_
      refine x_get hx hb hts hown hE hP fl_X9_97 (nm0 hN) gM_0_1 dX9_fault_46 ?_
      refine lv_icmp_ge (tgt := 73) hx hb dX9_fault_49 (by decide) (fun hc => ?_) (fun hc => ?_)
      · have hf := ip hc hf
        refine lv_bipush (v := (-4)) hx hb dX9_fault_73 nb_m4 ?_
        cases hf
        exact hret _ _ _ _ dX9_fault_75 hP hS
      · have hf := iq hc hf
        refine lv_aload_n hx hb dX9_fault_52 rfl (lv_at hl 0 rfl) ?_
        refine x_get hx hb hts hown hE hP fl_X9_101 (nm0 hN) gM_0_18 dX9_fault_53 ?_
        refine lv_istore_n (lv' := [(1, .int (w7 0 18)), (0, .ref (ad 0))]) hx hb dX9_fault_56 rfl hl (by decide) rfl (fun ls hl => ?_)
        refine lv_aload_n hx hb dX9_fault_57 rfl (lv_at hl 1 rfl) ?_
        obtain ⟨w9, hv, hf⟩ := bs1 hf
        refine x_cVv (As := []) (rest := []) hx hb hml hts hown hE hP hS hAA (kX9_readItem hN hD hv) cl_X9_129 (nm0 hN) oM_0 vc_9 (Nat.le_trans (by decide) hRf) (Nat.le_trans (by decide) hRl) (Nat.zero_le _) (Nat.zero_le _) rfl hl.1 rfl (Nat.le_of_ble_eq_true rfl) dX9_fault_58 (fun H locs hP hS => ?_)
        refine lv_aload_n hx hb dX9_fault_61 rfl (lv_at hl 1 rfl) ?_
        refine x_get hx hb hts hown hE hP fl_X9_108 (nm0 hN) gM_0_19 dX9_fault_62 ?_
        refine lv_if_ne (tgt := 70) hx hb dX9_fault_65 (by decide) (fun hc => ?_) (fun hc => ?_)
        · have hf := iq hc hf
          refine lv_goto (tgt := 41) hx hb dX9_fault_70 (by decide) ?_
          exact ih _ _ _ _ hf hP hS (lv_sub hl [1] rfl)
        · have hf := ip hc hf
          refine lv_iload_n hx hb dX9_fault_68 rfl (lv_at hl 0 rfl) ?_
          cases hf
          exact hret _ _ _ _ dX9_fault_69 hP hS
  exact hL8 _ _ _ _ _ hf hP hS (lv_sub hl [0] rfl)
def LX9_isInRaft_5 (x1 : Int32) (x2 : Int32) (w : Mm) : Nat → Int32 → Int32 → Option (Int32)
  | 0, _, _ => none
  | fu + 1, v1, v2 =>
    bd1 (rd w 12 2 x1) fun v5 =>
    if (3 * v5) ≤ v2 then
      some (v1)
    else
      bd1 (
        if v1 = 0 then
          bd1 (rd w 13 12 ((6 * x1) + v2)) fun v8 =>
          if v8 = x2 then
            some (1)
          else
            some (0)
        else
          some (1)) fun (v6 : Int32) =>
      LX9_isInRaft_5 x1 x2 w fu v6 (v2 + 1)
def fX9_isInRaft (w : Mm) (x1 x2 : Int32) : Option (Int32) :=
  bd1 (LX9_isInRaft_5 x1 x2 w 1000 0 0) fun (v4 : Int32) =>
  bd1 (gb v4) fun _ =>
  some v4
set_option maxHeartbeats 4000000 in
set_option maxRecDepth 100000 in
theorem kX9_isInRaft {l : Launch} {κ : Kp} {N : Nat} {ad : Nat → Nat} {w : Mm} {x1 x2 : Int32} {r : Int32} (hN : 26 ≤ N) (hD : Apt ad N) (hf : fX9_isInRaft w x1 x2 = some r) : Met l yX9_isInRaft (Cond.code yX9_isInRaft cX9_isInRaft 5 (some .boolean) :: TB) (rmX 0 0) (PcX κ (wM κ) N ad w [.ref (ad 0), .int x1, .int x2]) (QI κ (wM κ) N ad w r) 0 0 (Aof ad N) := by
  refine mkZ (by decide +kernel) (Nat.le_of_ble_eq_true rfl) (fun p e R s m args below meth c Q H locs ls hC hRf hRl hP hS hret hl => ?_)
  obtain ⟨hx, hb, hml, hown, hts, hE⟩ := hC
  have hA : ∀ k, k < N → Aof ad N (ad k) := fun k h => Aof_in h
  have hAA : ∀ z, Aof ad N z → Aof ad N z := fun _ h => h
  have hl : lv_has ls 5 [(0, .ref (ad 0)), (1, .int x1), (2, .int x2)] := hl
  unfold fX9_isInRaft at hf
  refine lv_iconst (v := 0) hx hb dX9_isInRaft_0 nc_0 ?_
  refine lv_istore_n (lv' := [(3, .int 0), (0, .ref (ad 0)), (1, .int x1), (2, .int x2)]) hx hb dX9_isInRaft_1 rfl hl (by decide) rfl (fun ls hl => ?_)
  refine lv_iconst (v := 0) hx hb dX9_isInRaft_2 nc_0 ?_
  refine lv_istore (lv' := [(4, .int 0), (3, .int 0), (0, .ref (ad 0)), (1, .int x1), (2, .int x2)]) hx hb dX9_isInRaft_3 hl (by decide) rfl (fun ls hl => ?_)
  obtain ⟨v4, hq3, hf⟩ := bs1 hf
  have hJ3 : ∀ (H : Heap) (locs : List Loc) (ls : Array Slot), Ho κ (wM κ) N ad w H → va_S (Aof ad N) s.heap H locs → lv_has ls 5 [(3, .int v4)] → W p l e R s m args below meth c H locs 0 0 Q (F0 m 50 ls []) := by
    intro H locs ls hP hS hl
    refine lv_iload_n hx hb dX9_isInRaft_50 rfl (lv_at hl 0 rfl) ?_
    obtain ⟨_, hgb, hf⟩ := bs1 hf
    cases hf
    exact hret _ _ _ _ dX9_isInRaft_51 (gb_some hgb) hP hS
  clear hf
  have hf := hq3
  clear hq3
  have hL3 : ∀ (fu : Nat) (v1 : Int32) (v2 : Int32) (H : Heap) (locs : List Loc) (ls : Array Slot), LX9_isInRaft_5 x1 x2 w fu v1 v2 = some (v4) → Ho κ (wM κ) N ad w H → va_S (Aof ad N) s.heap H locs → lv_has ls 5 [(0, .ref (ad 0)), (1, .int x1), (2, .int x2), (3, .int v1), (4, .int v2)] → W p l e R s m args below meth c H locs 0 0 Q (F0 m 5 ls []) := by
    intro fu
    induction fu with
    | zero =>
      intro v1 v2 H locs ls hf
      rw [LX9_isInRaft_5] at hf
      cases hf
    | succ fu ih =>
      intro v1 v2 H locs ls hf hP hS hl
      rw [LX9_isInRaft_5] at hf
      refine lv_iload hx hb dX9_isInRaft_5 (lv_at hl 4 rfl) ?_
      refine lv_iconst (v := 3) hx hb dX9_isInRaft_7 nc_3 ?_
      refine lv_aload_n hx hb dX9_isInRaft_8 rfl (lv_at hl 0 rfl) ?_
      refine x_get hx hb hts hown hE hP fl_X9_44 (nm0 hN) gM_0_12 dX9_isInRaft_9 ?_
      refine lv_iload_n hx hb dX9_isInRaft_12 rfl (lv_at hl 1 rfl) ?_
      obtain ⟨v5, hv, hf⟩ := bs1 hf
      refine x_iald hx hb hE hP (nm12 hN) (aM_12 _) hv dX9_isInRaft_13 ?_
      refine lv_imul hx hb dX9_isInRaft_14 ?_
      refine lv_icmp_ge (tgt := 50) hx hb dX9_isInRaft_15 (by decide) (fun hc => ?_) (fun hc => ?_)
      · have hf := ip hc hf
        cases hf
        exact hJ3 _ _ _ hP hS (lv_sub hl [3] rfl)
      · have hf := iq hc hf
        refine lv_iload_n hx hb dX9_isInRaft_18 rfl (lv_at hl 3 rfl) ?_
        obtain ⟨v6, hq7, hf⟩ := bs1 hf
        have hJ7 : ∀ (H : Heap) (locs : List Loc) (ls : Array Slot), Ho κ (wM κ) N ad w H → va_S (Aof ad N) s.heap H locs → lv_has ls 5 [(0, .ref (ad 0)), (1, .int x1), (2, .int x2), (4, .int v2)] → W p l e R s m args below meth c H locs 0 0 Q (F0 m 43 ls [.int v6]) := by
          intro H locs ls hP hS hl
          refine lv_istore_n (lv' := [(3, .int v6), (0, .ref (ad 0)), (1, .int x1), (2, .int x2), (4, .int v2)]) hx hb dX9_isInRaft_43 rfl hl (by decide) rfl (fun ls hl => ?_)
          refine lv_iinc (v := (v2 + 1)) (lv' := [(4, .int (v2 + 1)), (3, .int v6), (0, .ref (ad 0)), (1, .int x1), (2, .int x2)]) hx hb dX9_isInRaft_44 hl (k := 4) rfl (ni_1 _) (by decide) rfl (fun ls hl => ?_)
          refine lv_goto (tgt := 5) hx hb dX9_isInRaft_47 (by decide) ?_
          exact ih _ _ _ _ _ hf hP hS (lv_sub hl [2, 3, 4, 1, 0] rfl)
        clear hf
        have hf := hq7
        clear hq7
        refine lv_if_ne (tgt := 38) hx hb dX9_isInRaft_19 (by decide) (fun hc => ?_) (fun hc => ?_)
        · have hf := iq hc hf
          refine lv_iconst (v := 1) hx hb dX9_isInRaft_38 nc_1 ?_
          refine lv_goto (tgt := 43) hx hb dX9_isInRaft_39 (by decide) ?_
          cases hf
          exact hJ7 _ _ _ hP hS (lv_sub hl [0, 1, 2, 4] rfl)
        · have hf := ip hc hf
          refine lv_aload_n hx hb dX9_isInRaft_22 rfl (lv_at hl 0 rfl) ?_
          refine x_get hx hb hts hown hE hP fl_X9_47 (nm0 hN) gM_0_13 dX9_isInRaft_23 ?_
          refine lv_bipush (v := 6) hx hb dX9_isInRaft_26 nb_6 ?_
          refine lv_iload_n hx hb dX9_isInRaft_28 rfl (lv_at hl 1 rfl) ?_
          refine lv_imul hx hb dX9_isInRaft_29 ?_
          refine lv_iload hx hb dX9_isInRaft_30 (lv_at hl 4 rfl) ?_
          refine lv_iadd hx hb dX9_isInRaft_32 ?_
          obtain ⟨v8, hv, hf⟩ := bs1 hf
          refine x_iald hx hb hE hP (nm13 hN) (aM_13 _) hv dX9_isInRaft_33 ?_
          refine lv_iload_n hx hb dX9_isInRaft_34 rfl (lv_at hl 2 rfl) ?_
          refine lv_icmp_ne (tgt := 42) hx hb dX9_isInRaft_35 (by decide) (fun hc => ?_) (fun hc => ?_)
          · have hf := iq hc hf
            refine lv_iconst (v := 0) hx hb dX9_isInRaft_42 nc_0 ?_
            cases hf
            exact hJ7 _ _ _ hP hS (lv_sub hl [0, 1, 2, 4] rfl)
          · have hf := ip hc hf
            refine lv_iconst (v := 1) hx hb dX9_isInRaft_38 nc_1 ?_
            refine lv_goto (tgt := 43) hx hb dX9_isInRaft_39 (by decide) ?_
            cases hf
            exact hJ7 _ _ _ hP hS (lv_sub hl [0, 1, 2, 4] rfl)
  exact hL3 _ _ _ _ _ _ hf hP hS (lv_sub hl [2, 3, 4, 1, 0] rfl)
def LX9_canBeLaid_17 (w : Mm) : Nat → Int32 → Int32 → Option (Int32)
  | 0, _, _ => none
  | fu + 1, v4, v5 =>
    bd1 (rd w 2 2 1) fun v8 =>
    if v8 ≤ v5 then
      some (v4)
    else
      bd1 (rd w 11 16 (8 + v5)) fun v9 =>
      bd1 (
        if v4 = 0 then
          some (0)
        else
          if v9 = (-4) then
            some (1)
          else
            bd1 (rd w 11 16 (8 + v9)) fun v12 =>
            if v12 = (-4) then
              bd1 (fX9_isInRaft w 1 v5) fun v13 =>
              if v13 = 0 then
                some (1)
              else
                some (0)
            else
              some (0)) fun (v10 : Int32) =>
      LX9_canBeLaid_17 w fu v10 (v5 + 1)
def LX9_canBeLaid_101 (w : Mm) (v15 : Int32) : Nat → Int32 → Int32 → Option (Int32)
  | 0, _, _ => none
  | fu + 1, v19, v20 =>
    if 3 ≤ v20 then
      some (v19)
    else
      bd1 (
        if v19 = 0 then
          some (0)
        else
          bd1 (rd w 13 12 (6 + v15)) fun v25 =>
          bd1 (rd w 13 12 (9 + v20)) fun v26 =>
          if v25 = v26 then
            some (0)
          else
            some (1)) fun (v23 : Int32) =>
      LX9_canBeLaid_101 w v15 fu v23 (v20 + 1)
def LX9_canBeLaid_84 (w : Mm) : Nat → Int32 → Int32 → Option (Int32)
  | 0, _, _ => none
  | fu + 1, v14, v15 =>
    if 3 ≤ v15 then
      some (v14)
    else
      bd1 (rd w 12 2 1) fun v18 =>
      if v18 = 2 then
        bd1 (LX9_canBeLaid_101 w v15 1000 v14 0) fun (v22 : Int32) =>
        LX9_canBeLaid_84 w fu v22 (v15 + 1)
      else
        some (v14)
def fX9_canBeLaid (w : Mm) : Option (Int32) :=
  bd1 (rd w 2 2 1) fun v1 =>
  bd1 (
    if v1 ≤ 0 then
      some (0)
    else
      some (1)) fun (v2 : Int32) =>
  bd1 (LX9_canBeLaid_17 w 1000 v2 0) fun (v7 : Int32) =>
  bd1 (LX9_canBeLaid_84 w 1000 v7 0) fun (v17 : Int32) =>
  bd1 (gb v17) fun _ =>
  some v17
set_option maxHeartbeats 4000000 in
set_option maxRecDepth 100000 in
theorem kX9_canBeLaid {l : Launch} {κ : Kp} {N : Nat} {ad : Nat → Nat} {w : Mm} {r : Int32} (hN : 26 ≤ N) (hD : Apt ad N) (hf : fX9_canBeLaid w = some r) : Met l yX9_canBeLaid (Cond.code yX9_canBeLaid cX9_canBeLaid 4 (some .boolean) :: TB) (rmX 1 24) (PcX κ (wM κ) N ad w [.ref (ad 0)]) (QI κ (wM κ) N ad w r) 0 0 (Aof ad N) := by
  refine mkZ (by decide +kernel) (Nat.le_of_ble_eq_true rfl) (fun p e R s m args below meth c Q H locs ls hC hRf hRl hP hS hret hl => ?_)
  obtain ⟨hx, hb, hml, hown, hts, hE⟩ := hC
  have hA : ∀ k, k < N → Aof ad N (ad k) := fun k h => Aof_in h
  have hAA : ∀ z, Aof ad N z → Aof ad N z := fun _ h => h
  have hl : lv_has ls 4 [(0, .ref (ad 0))] := hl
  unfold fX9_canBeLaid at hf
  refine lv_aload_n hx hb dX9_canBeLaid_0 rfl (lv_at hl 0 rfl) ?_
  refine x_get hx hb hts hown hE hP fl_X9_13 (nm0 hN) gM_0_2 dX9_canBeLaid_1 ?_
  refine lv_iconst (v := 1) hx hb dX9_canBeLaid_4 nc_1 ?_
  obtain ⟨v1, hv, hf⟩ := bs1 hf
  refine x_iald hx hb hE hP (nm2 hN) (aM_2 _) hv dX9_canBeLaid_5 ?_
  obtain ⟨v2, hq3, hf⟩ := bs1 hf
  have hJ3 : ∀ (H : Heap) (locs : List Loc) (ls : Array Slot), Ho κ (wM κ) N ad w H → va_S (Aof ad N) s.heap H locs → lv_has ls 4 [(0, .ref (ad 0))] → W p l e R s m args below meth c H locs 0 0 Q (F0 m 14 ls [.int v2]) := by
    intro H locs ls hP hS hl
    refine lv_istore_n (lv' := [(1, .int v2), (0, .ref (ad 0))]) hx hb dX9_canBeLaid_14 rfl hl (by decide) rfl (fun ls hl => ?_)
    refine lv_iconst (v := 0) hx hb dX9_canBeLaid_15 nc_0 ?_
    refine lv_istore_n (lv' := [(2, .int 0), (1, .int v2), (0, .ref (ad 0))]) hx hb dX9_canBeLaid_16 rfl hl (by decide) rfl (fun ls hl => ?_)
    obtain ⟨v7, hq6, hf⟩ := bs1 hf
    have hJ6 : ∀ (H : Heap) (locs : List Loc) (ls : Array Slot), Ho κ (wM κ) N ad w H → va_S (Aof ad N) s.heap H locs → lv_has ls 4 [(0, .ref (ad 0)), (1, .int v7)] → W p l e R s m args below meth c H locs 0 0 Q (F0 m 82 ls []) := by
      intro H locs ls hP hS hl
      refine lv_iconst (v := 0) hx hb dX9_canBeLaid_82 nc_0 ?_
      refine lv_istore_n (lv' := [(2, .int 0), (0, .ref (ad 0)), (1, .int v7)]) hx hb dX9_canBeLaid_83 rfl hl (by decide) rfl (fun ls hl => ?_)
      obtain ⟨v17, hq16, hf⟩ := bs1 hf
      have hJ16 : ∀ (H : Heap) (locs : List Loc) (ls : Array Slot), Ho κ (wM κ) N ad w H → va_S (Aof ad N) s.heap H locs → lv_has ls 4 [(1, .int v17)] → W p l e R s m args below meth c H locs 0 0 Q (F0 m 149 ls []) := by
        intro H locs ls hP hS hl
        refine lv_iload_n hx hb dX9_canBeLaid_149 rfl (lv_at hl 0 rfl) ?_
        obtain ⟨_, hgb, hf⟩ := bs1 hf
        cases hf
        exact hret _ _ _ _ dX9_canBeLaid_150 (gb_some hgb) hP hS
      clear hf
      have hf := hq16
      clear hq16
      have hL16 : ∀ (fu : Nat) (v14 : Int32) (v15 : Int32) (H : Heap) (locs : List Loc) (ls : Array Slot), LX9_canBeLaid_84 w fu v14 v15 = some (v17) → Ho κ (wM κ) N ad w H → va_S (Aof ad N) s.heap H locs → lv_has ls 4 [(0, .ref (ad 0)), (1, .int v14), (2, .int v15)] → W p l e R s m args below meth c H locs 0 0 Q (F0 m 84 ls []) := by
        intro fu
        induction fu with
        | zero =>
          intro v14 v15 H locs ls hf
          rw [LX9_canBeLaid_84] at hf
          cases hf
        | succ fu ih =>
          intro v14 v15 H locs ls hf hP hS hl
          rw [LX9_canBeLaid_84] at hf
          refine lv_iload_n hx hb dX9_canBeLaid_84 rfl (lv_at hl 2 rfl) ?_
          refine lv_iconst (v := 3) hx hb dX9_canBeLaid_85 nc_3 ?_
          refine lv_icmp_ge (tgt := 149) hx hb dX9_canBeLaid_86 (by decide) (fun hc => ?_) (fun hc => ?_)
          · have hf := ip hc hf
            cases hf
            exact hJ16 _ _ _ hP hS (lv_sub hl [1] rfl)
          · have hf := iq hc hf
            refine lv_aload_n hx hb dX9_canBeLaid_89 rfl (lv_at hl 0 rfl) ?_
            refine x_get hx hb hts hown hE hP fl_X9_44 (nm0 hN) gM_0_12 dX9_canBeLaid_90 ?_
            refine lv_iconst (v := 1) hx hb dX9_canBeLaid_93 nc_1 ?_
            obtain ⟨v18, hv, hf⟩ := bs1 hf
            refine x_iald hx hb hE hP (nm12 hN) (aM_12 _) hv dX9_canBeLaid_94 ?_
            refine lv_iconst (v := 2) hx hb dX9_canBeLaid_95 nc_2 ?_
            refine lv_icmp_ne (tgt := 149) hx hb dX9_canBeLaid_96 (by decide) (fun hc => ?_) (fun hc => ?_)
            · have hf := iq hc hf
              cases hf
              exact hJ16 _ _ _ hP hS (lv_sub hl [1] rfl)
            · have hf := ip hc hf
              refine lv_iconst (v := 0) hx hb dX9_canBeLaid_99 nc_0 ?_
              refine lv_istore_n (lv' := [(3, .int 0), (0, .ref (ad 0)), (1, .int v14), (2, .int v15)]) hx hb dX9_canBeLaid_100 rfl hl (by decide) rfl (fun ls hl => ?_)
              obtain ⟨v22, hq21, hf⟩ := bs1 hf
              have hJ21 : ∀ (H : Heap) (locs : List Loc) (ls : Array Slot), Ho κ (wM κ) N ad w H → va_S (Aof ad N) s.heap H locs → lv_has ls 4 [(0, .ref (ad 0)), (1, .int v22), (2, .int v15)] → W p l e R s m args below meth c H locs 0 0 Q (F0 m 143 ls []) := by
                intro H locs ls hP hS hl
                refine lv_iinc (v := (v15 + 1)) (lv' := [(2, .int (v15 + 1)), (0, .ref (ad 0)), (1, .int v22)]) hx hb dX9_canBeLaid_143 hl (k := 2) rfl (ni_1 _) (by decide) rfl (fun ls hl => ?_)
                refine lv_goto (tgt := 84) hx hb dX9_canBeLaid_146 (by decide) ?_
                exact ih _ _ _ _ _ hf hP hS (lv_sub hl [1, 2, 0] rfl)
              clear hf
              have hf := hq21
              clear hq21
              have hL21 : ∀ (fu : Nat) (v19 : Int32) (v20 : Int32) (H : Heap) (locs : List Loc) (ls : Array Slot), LX9_canBeLaid_101 w v15 fu v19 v20 = some (v22) → Ho κ (wM κ) N ad w H → va_S (Aof ad N) s.heap H locs → lv_has ls 4 [(0, .ref (ad 0)), (1, .int v19), (2, .int v15), (3, .int v20)] → W p l e R s m args below meth c H locs 0 0 Q (F0 m 101 ls []) := by
                intro fu
                induction fu with
                | zero =>
                  intro v19 v20 H locs ls hf
                  rw [LX9_canBeLaid_101] at hf
                  cases hf
                | succ fu ih =>
                  intro v19 v20 H locs ls hf hP hS hl
                  rw [LX9_canBeLaid_101] at hf
                  refine lv_iload_n hx hb dX9_canBeLaid_101 rfl (lv_at hl 3 rfl) ?_
                  refine lv_iconst (v := 3) hx hb dX9_canBeLaid_102 nc_3 ?_
                  refine lv_icmp_ge (tgt := 143) hx hb dX9_canBeLaid_103 (by decide) (fun hc => ?_) (fun hc => ?_)
                  · have hf := ip hc hf
                    cases hf
                    exact hJ21 _ _ _ hP hS (lv_sub hl [0, 1, 2] rfl)
                  · have hf := iq hc hf
                    refine lv_iload_n hx hb dX9_canBeLaid_106 rfl (lv_at hl 1 rfl) ?_
                    obtain ⟨v23, hq24, hf⟩ := bs1 hf
                    have hJ24 : ∀ (H : Heap) (locs : List Loc) (ls : Array Slot), Ho κ (wM κ) N ad w H → va_S (Aof ad N) s.heap H locs → lv_has ls 4 [(0, .ref (ad 0)), (2, .int v15), (3, .int v20)] → W p l e R s m args below meth c H locs 0 0 Q (F0 m 136 ls [.int v23]) := by
                      intro H locs ls hP hS hl
                      refine lv_istore_n (lv' := [(1, .int v23), (0, .ref (ad 0)), (2, .int v15), (3, .int v20)]) hx hb dX9_canBeLaid_136 rfl hl (by decide) rfl (fun ls hl => ?_)
                      refine lv_iinc (v := (v20 + 1)) (lv' := [(3, .int (v20 + 1)), (1, .int v23), (0, .ref (ad 0)), (2, .int v15)]) hx hb dX9_canBeLaid_137 hl (k := 3) rfl (ni_1 _) (by decide) rfl (fun ls hl => ?_)
                      refine lv_goto (tgt := 101) hx hb dX9_canBeLaid_140 (by decide) ?_
                      exact ih _ _ _ _ _ hf hP hS (lv_sub hl [2, 1, 3, 0] rfl)
                    clear hf
                    have hf := hq24
                    clear hq24
                    refine lv_if_eq (tgt := 135) hx hb dX9_canBeLaid_107 (by decide) (fun hc => ?_) (fun hc => ?_)
                    · have hf := ip hc hf
                      refine lv_iconst (v := 0) hx hb dX9_canBeLaid_135 nc_0 ?_
                      cases hf
                      exact hJ24 _ _ _ hP hS (lv_sub hl [0, 2, 3] rfl)
                    · have hf := iq hc hf
                      refine lv_aload_n hx hb dX9_canBeLaid_110 rfl (lv_at hl 0 rfl) ?_
                      refine x_get hx hb hts hown hE hP fl_X9_47 (nm0 hN) gM_0_13 dX9_canBeLaid_111 ?_
                      refine lv_bipush (v := 6) hx hb dX9_canBeLaid_114 nb_6 ?_
                      refine lv_iload_n hx hb dX9_canBeLaid_116 rfl (lv_at hl 2 rfl) ?_
                      refine lv_iadd hx hb dX9_canBeLaid_117 ?_
                      obtain ⟨v25, hv, hf⟩ := bs1 hf
                      refine x_iald hx hb hE hP (nm13 hN) (aM_13 _) hv dX9_canBeLaid_118 ?_
                      refine lv_aload_n hx hb dX9_canBeLaid_119 rfl (lv_at hl 0 rfl) ?_
                      refine x_get hx hb hts hown hE hP fl_X9_47 (nm0 hN) gM_0_13 dX9_canBeLaid_120 ?_
                      refine lv_bipush (v := 9) hx hb dX9_canBeLaid_123 nb_9 ?_
                      refine lv_iload_n hx hb dX9_canBeLaid_125 rfl (lv_at hl 3 rfl) ?_
                      refine lv_iadd hx hb dX9_canBeLaid_126 ?_
                      obtain ⟨v26, hv, hf⟩ := bs1 hf
                      refine x_iald hx hb hE hP (nm13 hN) (aM_13 _) hv dX9_canBeLaid_127 ?_
                      refine lv_icmp_eq (tgt := 135) hx hb dX9_canBeLaid_128 (by decide) (fun hc => ?_) (fun hc => ?_)
                      · have hf := ip hc hf
                        refine lv_iconst (v := 0) hx hb dX9_canBeLaid_135 nc_0 ?_
                        cases hf
                        exact hJ24 _ _ _ hP hS (lv_sub hl [0, 2, 3] rfl)
                      · have hf := iq hc hf
                        refine lv_iconst (v := 1) hx hb dX9_canBeLaid_131 nc_1 ?_
                        refine lv_goto (tgt := 136) hx hb dX9_canBeLaid_132 (by decide) ?_
                        cases hf
                        exact hJ24 _ _ _ hP hS (lv_sub hl [0, 2, 3] rfl)
              exact hL21 _ _ _ _ _ _ hf hP hS (lv_sub hl [1, 2, 3, 0] rfl)
      exact hL16 _ _ _ _ _ _ hf hP hS (lv_sub hl [1, 2, 0] rfl)
    clear hf
    have hf := hq6
    clear hq6
    have hL6 : ∀ (fu : Nat) (v4 : Int32) (v5 : Int32) (H : Heap) (locs : List Loc) (ls : Array Slot), LX9_canBeLaid_17 w fu v4 v5 = some (v7) → Ho κ (wM κ) N ad w H → va_S (Aof ad N) s.heap H locs → lv_has ls 4 [(0, .ref (ad 0)), (1, .int v4), (2, .int v5)] → W p l e R s m args below meth c H locs 0 0 Q (F0 m 17 ls []) := by
      intro fu
      induction fu with
      | zero =>
        intro v4 v5 H locs ls hf
        rw [LX9_canBeLaid_17] at hf
        cases hf
      | succ fu ih =>
        intro v4 v5 H locs ls hf hP hS hl
        rw [LX9_canBeLaid_17] at hf
        refine lv_iload_n hx hb dX9_canBeLaid_17 rfl (lv_at hl 2 rfl) ?_
        refine lv_aload_n hx hb dX9_canBeLaid_18 rfl (lv_at hl 0 rfl) ?_
        refine x_get hx hb hts hown hE hP fl_X9_13 (nm0 hN) gM_0_2 dX9_canBeLaid_19 ?_
        refine lv_iconst (v := 1) hx hb dX9_canBeLaid_22 nc_1 ?_
        obtain ⟨v8, hv, hf⟩ := bs1 hf
        refine x_iald hx hb hE hP (nm2 hN) (aM_2 _) hv dX9_canBeLaid_23 ?_
        refine lv_icmp_ge (tgt := 82) hx hb dX9_canBeLaid_24 (by decide) (fun hc => ?_) (fun hc => ?_)
        · have hf := ip hc hf
          cases hf
          exact hJ6 _ _ _ hP hS (lv_sub hl [0, 1] rfl)
        · have hf := iq hc hf
          refine lv_aload_n hx hb dX9_canBeLaid_27 rfl (lv_at hl 0 rfl) ?_
          refine x_get hx hb hts hown hE hP fl_X9_41 (nm0 hN) gM_0_11 dX9_canBeLaid_28 ?_
          refine lv_bipush (v := 8) hx hb dX9_canBeLaid_31 nb_8 ?_
          refine lv_iload_n hx hb dX9_canBeLaid_33 rfl (lv_at hl 2 rfl) ?_
          refine lv_iadd hx hb dX9_canBeLaid_34 ?_
          obtain ⟨v9, hv, hf⟩ := bs1 hf
          refine x_iald hx hb hE hP (nm11 hN) (aM_11 _) hv dX9_canBeLaid_35 ?_
          refine lv_istore_n (lv' := [(3, .int v9), (0, .ref (ad 0)), (1, .int v4), (2, .int v5)]) hx hb dX9_canBeLaid_36 rfl hl (by decide) rfl (fun ls hl => ?_)
          refine lv_iload_n hx hb dX9_canBeLaid_37 rfl (lv_at hl 2 rfl) ?_
          obtain ⟨v10, hq11, hf⟩ := bs1 hf
          have hJ11 : ∀ (H : Heap) (locs : List Loc) (ls : Array Slot), Ho κ (wM κ) N ad w H → va_S (Aof ad N) s.heap H locs → lv_has ls 4 [(0, .ref (ad 0)), (2, .int v5)] → W p l e R s m args below meth c H locs 0 0 Q (F0 m 75 ls [.int v10]) := by
            intro H locs ls hP hS hl
            refine lv_istore_n (lv' := [(1, .int v10), (0, .ref (ad 0)), (2, .int v5)]) hx hb dX9_canBeLaid_75 rfl hl (by decide) rfl (fun ls hl => ?_)
            refine lv_iinc (v := (v5 + 1)) (lv' := [(2, .int (v5 + 1)), (1, .int v10), (0, .ref (ad 0))]) hx hb dX9_canBeLaid_76 hl (k := 2) rfl (ni_1 _) (by decide) rfl (fun ls hl => ?_)
            refine lv_goto (tgt := 17) hx hb dX9_canBeLaid_79 (by decide) ?_
            exact ih _ _ _ _ _ hf hP hS (lv_sub hl [2, 1, 0] rfl)
          clear hf
          have hf := hq11
          clear hq11
          refine lv_if_eq (tgt := 74) hx hb dX9_canBeLaid_38 (by decide) (fun hc => ?_) (fun hc => ?_)
          · have hf := ip hc hf
            refine lv_iconst (v := 0) hx hb dX9_canBeLaid_74 nc_0 ?_
            cases hf
            exact hJ11 _ _ _ hP hS (lv_sub hl [1, 3] rfl)
          · have hf := iq hc hf
            refine lv_iload_n hx hb dX9_canBeLaid_41 rfl (lv_at hl 0 rfl) ?_
            refine lv_bipush (v := (-4)) hx hb dX9_canBeLaid_42 nb_m4 ?_
            refine lv_icmp_eq (tgt := 70) hx hb dX9_canBeLaid_44 (by decide) (fun hc => ?_) (fun hc => ?_)
            · have hf := ip hc hf
              refine lv_iconst (v := 1) hx hb dX9_canBeLaid_70 nc_1 ?_
              refine lv_goto (tgt := 75) hx hb dX9_canBeLaid_71 (by decide) ?_
              cases hf
              exact hJ11 _ _ _ hP hS (lv_sub hl [1, 3] rfl)
            · have hf := iq hc hf
              refine lv_aload_n hx hb dX9_canBeLaid_47 rfl (lv_at hl 1 rfl) ?_
              refine x_get hx hb hts hown hE hP fl_X9_41 (nm0 hN) gM_0_11 dX9_canBeLaid_48 ?_
              refine lv_bipush (v := 8) hx hb dX9_canBeLaid_51 nb_8 ?_
              refine lv_iload_n hx hb dX9_canBeLaid_53 rfl (lv_at hl 0 rfl) ?_
              refine lv_iadd hx hb dX9_canBeLaid_54 ?_
              obtain ⟨v12, hv, hf⟩ := bs1 hf
              refine x_iald hx hb hE hP (nm11 hN) (aM_11 _) hv dX9_canBeLaid_55 ?_
              refine lv_bipush (v := (-4)) hx hb dX9_canBeLaid_56 nb_m4 ?_
              refine lv_icmp_ne (tgt := 74) hx hb dX9_canBeLaid_58 (by decide) (fun hc => ?_) (fun hc => ?_)
              · have hf := iq hc hf
                refine lv_iconst (v := 0) hx hb dX9_canBeLaid_74 nc_0 ?_
                cases hf
                exact hJ11 _ _ _ hP hS (lv_sub hl [1, 3] rfl)
              · have hf := ip hc hf
                refine lv_aload_n hx hb dX9_canBeLaid_61 rfl (lv_at hl 1 rfl) ?_
                refine lv_iconst (v := 1) hx hb dX9_canBeLaid_62 nc_1 ?_
                refine lv_iload_n hx hb dX9_canBeLaid_63 rfl (lv_at hl 3 rfl) ?_
                obtain ⟨v13, hv, hf⟩ := bs1 hf
                refine x_cVi (As := [.int 1, .int v5]) (rest := []) hx hb hml hts hown hE hP hS hAA (kX9_isInRaft hN hD hv) cl_X9_132 (nm0 hN) oM_0 vc_9 (Nat.le_trans (by decide) hRf) (Nat.le_trans (by decide) hRl) (Nat.zero_le _) (Nat.zero_le _) rfl hl.1 rfl (Nat.le_of_ble_eq_true rfl) dX9_canBeLaid_64 (fun H locs hP hS => ?_)
                refine lv_if_ne (tgt := 74) hx hb dX9_canBeLaid_67 (by decide) (fun hc => ?_) (fun hc => ?_)
                · have hf := iq hc hf
                  refine lv_iconst (v := 0) hx hb dX9_canBeLaid_74 nc_0 ?_
                  cases hf
                  exact hJ11 _ _ _ hP hS (lv_sub hl [1, 3] rfl)
                · have hf := ip hc hf
                  refine lv_iconst (v := 1) hx hb dX9_canBeLaid_70 nc_1 ?_
                  refine lv_goto (tgt := 75) hx hb dX9_canBeLaid_71 (by decide) ?_
                  cases hf
                  exact hJ11 _ _ _ hP hS (lv_sub hl [1, 3] rfl)
    exact hL6 _ _ _ _ _ _ hf hP hS (lv_sub hl [2, 1, 0] rfl)
  clear hf
  have hf := hq3
  clear hq3
  refine lv_if_le (tgt := 13) hx hb dX9_canBeLaid_6 (by decide) (fun hc => ?_) (fun hc => ?_)
  · have hf := ip hc hf
    refine lv_iconst (v := 0) hx hb dX9_canBeLaid_13 nc_0 ?_
    cases hf
    exact hJ3 _ _ _ hP hS (lv_sub hl [0] rfl)
  · have hf := iq hc hf
    refine lv_iconst (v := 1) hx hb dX9_canBeLaid_9 nc_1 ?_
    refine lv_goto (tgt := 14) hx hb dX9_canBeLaid_10 (by decide) ?_
    cases hf
    exact hJ3 _ _ _ hP hS (lv_sub hl [0] rfl)
def LX9_anew_2 : Nat → Int32 → Mm → Option (Mm)
  | 0, _, _ => none
  | fu + 1, v1, w2 =>
    if 8 ≤ v1 then
      some (w2)
    else
      bd1 (rd w2 6 16 v1) fun v5 =>
      bd1 (wr w2 18 192 (0 + v1) v5) fun w6 =>
      bd1 (rd w6 2 2 0) fun v7 =>
      bd1 (
        if v7 ≤ v1 then
          some ((-4))
        else
          bd1 (rd w6 11 16 v1) fun v10 =>
          some (v10)) fun (v8 : Int32) =>
      bd1 (wr w6 18 192 (8 + v1) v8) fun w11 =>
      LX9_anew_2 fu (v1 + 1) w11
def fX9_anew (w : Mm) : Option (Mm) :=
  bd1 (LX9_anew_2 1000 0 w) fun (w4 : Mm) =>
  bd1 (pt w4 0 21 0) fun w12 =>
  bd1 (pt w12 0 22 0) fun w13 =>
  bd1 (pt w13 0 33 0) fun w14 =>
  some w14
set_option maxHeartbeats 4000000 in
set_option maxRecDepth 100000 in
theorem kX9_anew {l : Launch} {κ : Kp} {N : Nat} {ad : Nat → Nat} {w : Mm} {w' : Mm} (hN : 26 ≤ N) (hD : Apt ad N) (hf : fX9_anew w = some w') : Met l yX9_anew (Cond.code yX9_anew cX9_anew 2 none :: TB) (rmX 0 0) (PcX κ (wM κ) N ad w [.ref (ad 0)]) (QV κ (wM κ) N ad w') 0 0 (Aof ad N) := by
  refine mkV (by decide +kernel) (Nat.le_of_ble_eq_true rfl) (fun p e R s m args below meth c Q H locs ls hC hRf hRl hP hS hret hl => ?_)
  obtain ⟨hx, hb, hml, hown, hts, hE⟩ := hC
  have hA : ∀ k, k < N → Aof ad N (ad k) := fun k h => Aof_in h
  have hAA : ∀ z, Aof ad N z → Aof ad N z := fun _ h => h
  have hl : lv_has ls 2 [(0, .ref (ad 0))] := hl
  unfold fX9_anew at hf
  refine lv_iconst (v := 0) hx hb dX9_anew_0 nc_0 ?_
  refine lv_istore_n (lv' := [(1, .int 0), (0, .ref (ad 0))]) hx hb dX9_anew_1 rfl hl (by decide) rfl (fun ls hl => ?_)
  obtain ⟨w4, hq3, hf⟩ := bs1 hf
  have hJ3 : ∀ (H : Heap) (locs : List Loc) (ls : Array Slot), Ho κ (wM κ) N ad w4 H → va_S (Aof ad N) s.heap H locs → lv_has ls 2 [(0, .ref (ad 0))] → W p l e R s m args below meth c H locs 0 0 Q (F0 m 58 ls []) := by
    intro H locs ls hP hS hl
    refine lv_aload_n hx hb dX9_anew_58 rfl (lv_at hl 0 rfl) ?_
    refine lv_iconst (v := 0) hx hb dX9_anew_59 nc_0 ?_
    obtain ⟨w12, hv, hf⟩ := bs1 hf
    refine x_put hx hb hts hown hE hD hA hP hS fp_X9_143 (nm0 hN) pM_0_21 rfl rfl hv dX9_anew_60 (fun H locs hP hS => ?_)
    refine lv_aload_n hx hb dX9_anew_63 rfl (lv_at hl 0 rfl) ?_
    refine lv_iconst (v := 0) hx hb dX9_anew_64 nc_0 ?_
    obtain ⟨w13, hv, hf⟩ := bs1 hf
    refine x_put hx hb hts hown hE hD hA hP hS fp_X9_146 (nm0 hN) pM_0_22 rfl rfl hv dX9_anew_65 (fun H locs hP hS => ?_)
    refine lv_aload_n hx hb dX9_anew_68 rfl (lv_at hl 0 rfl) ?_
    refine lv_iconst (v := 0) hx hb dX9_anew_69 nc_0 ?_
    obtain ⟨w14, hv, hf⟩ := bs1 hf
    refine x_put hx hb hts hown hE hD hA hP hS fp_X9_149 (nm0 hN) pM_0_33 rfl rfl hv dX9_anew_70 (fun H locs hP hS => ?_)
    cases hf
    exact hret _ _ _ _ dX9_anew_73 hP hS
  clear hf
  have hf := hq3
  clear hq3
  have hL3 : ∀ (fu : Nat) (v1 : Int32) (w2 : Mm) (H : Heap) (locs : List Loc) (ls : Array Slot), LX9_anew_2 fu v1 w2 = some (w4) → Ho κ (wM κ) N ad w2 H → va_S (Aof ad N) s.heap H locs → lv_has ls 2 [(0, .ref (ad 0)), (1, .int v1)] → W p l e R s m args below meth c H locs 0 0 Q (F0 m 2 ls []) := by
    intro fu
    induction fu with
    | zero =>
      intro v1 w2 H locs ls hf
      rw [LX9_anew_2] at hf
      cases hf
    | succ fu ih =>
      intro v1 w2 H locs ls hf hP hS hl
      rw [LX9_anew_2] at hf
      refine lv_iload_n hx hb dX9_anew_2 rfl (lv_at hl 1 rfl) ?_
      refine lv_bipush (v := 8) hx hb dX9_anew_3 nb_8 ?_
      refine lv_icmp_ge (tgt := 58) hx hb dX9_anew_5 (by decide) (fun hc => ?_) (fun hc => ?_)
      · have hf := ip hc hf
        cases hf
        exact hJ3 _ _ _ hP hS (lv_sub hl [0] rfl)
      · have hf := iq hc hf
        refine lv_aload_n hx hb dX9_anew_8 rfl (lv_at hl 0 rfl) ?_
        refine x_get hx hb hts hown hE hP fl_X9_62 (nm0 hN) gM_0_20 dX9_anew_9 ?_
        refine lv_iconst (v := 0) hx hb dX9_anew_12 nc_0 ?_
        refine lv_iload_n hx hb dX9_anew_13 rfl (lv_at hl 1 rfl) ?_
        refine lv_iadd hx hb dX9_anew_14 ?_
        refine lv_aload_n hx hb dX9_anew_15 rfl (lv_at hl 0 rfl) ?_
        refine x_get hx hb hts hown hE hP fl_X9_26 (nm0 hN) gM_0_6 dX9_anew_16 ?_
        refine lv_iload_n hx hb dX9_anew_19 rfl (lv_at hl 1 rfl) ?_
        obtain ⟨v5, hv, hf⟩ := bs1 hf
        refine x_iald hx hb hE hP (nm6 hN) (aM_6 _) hv dX9_anew_20 ?_
        obtain ⟨w6, hv, hf⟩ := bs1 hf
        refine x_iast hx hb hE hD hA hP hS (nm18 hN) aM_18 hv dX9_anew_21 (fun H locs hP hS => ?_)
        refine lv_aload_n hx hb dX9_anew_22 rfl (lv_at hl 0 rfl) ?_
        refine x_get hx hb hts hown hE hP fl_X9_62 (nm0 hN) gM_0_20 dX9_anew_23 ?_
        refine lv_bipush (v := 8) hx hb dX9_anew_26 nb_8 ?_
        refine lv_iload_n hx hb dX9_anew_28 rfl (lv_at hl 1 rfl) ?_
        refine lv_iadd hx hb dX9_anew_29 ?_
        refine lv_iload_n hx hb dX9_anew_30 rfl (lv_at hl 1 rfl) ?_
        refine lv_aload_n hx hb dX9_anew_31 rfl (lv_at hl 0 rfl) ?_
        refine x_get hx hb hts hown hE hP fl_X9_13 (nm0 hN) gM_0_2 dX9_anew_32 ?_
        refine lv_iconst (v := 0) hx hb dX9_anew_35 nc_0 ?_
        obtain ⟨v7, hv, hf⟩ := bs1 hf
        refine x_iald hx hb hE hP (nm2 hN) (aM_2 _) hv dX9_anew_36 ?_
        obtain ⟨v8, hq9, hf⟩ := bs1 hf
        have hJ9 : ∀ (H : Heap) (locs : List Loc) (ls : Array Slot), Ho κ (wM κ) N ad w6 H → va_S (Aof ad N) s.heap H locs → lv_has ls 2 [(0, .ref (ad 0)), (1, .int v1)] → W p l e R s m args below meth c H locs 0 0 Q (F0 m 51 ls [.int v8, .int (8 + v1), .ref (ad 18)]) := by
          intro H locs ls hP hS hl
          obtain ⟨w11, hv, hf⟩ := bs1 hf
          refine x_iast hx hb hE hD hA hP hS (nm18 hN) aM_18 hv dX9_anew_51 (fun H locs hP hS => ?_)
          refine lv_iinc (v := (v1 + 1)) (lv' := [(1, .int (v1 + 1)), (0, .ref (ad 0))]) hx hb dX9_anew_52 hl (k := 1) rfl (ni_1 _) (by decide) rfl (fun ls hl => ?_)
          refine lv_goto (tgt := 2) hx hb dX9_anew_55 (by decide) ?_
          exact ih _ _ _ _ _ hf hP hS (lv_sub hl [1, 0] rfl)
        clear hf
        have hf := hq9
        clear hq9
        refine lv_icmp_ge (tgt := 49) hx hb dX9_anew_37 (by decide) (fun hc => ?_) (fun hc => ?_)
        · have hf := ip hc hf
          refine lv_bipush (v := (-4)) hx hb dX9_anew_49 nb_m4 ?_
          cases hf
          exact hJ9 _ _ _ hP hS (lv_sub hl [0, 1] rfl)
        · have hf := iq hc hf
          refine lv_aload_n hx hb dX9_anew_40 rfl (lv_at hl 0 rfl) ?_
          refine x_get hx hb hts hown hE hP fl_X9_41 (nm0 hN) gM_0_11 dX9_anew_41 ?_
          refine lv_iload_n hx hb dX9_anew_44 rfl (lv_at hl 1 rfl) ?_
          obtain ⟨v10, hv, hf⟩ := bs1 hf
          refine x_iald hx hb hE hP (nm11 hN) (aM_11 _) hv dX9_anew_45 ?_
          refine lv_goto (tgt := 51) hx hb dX9_anew_46 (by decide) ?_
          cases hf
          exact hJ9 _ _ _ hP hS (lv_sub hl [0, 1] rfl)
  exact hL3 _ _ _ _ _ _ hf hP hS (lv_sub hl [1, 0] rfl)
def LX9_lay_81 : Nat → Int32 → Mm → Option (Mm)
  | 0, _, _ => none
  | fu + 1, v14, w15 =>
    if 8 ≤ v14 then
      some (w15)
    else
      bd1 (rd w15 3 16 (8 + v14)) fun v18 =>
      bd1 (rd w15 4 16 (8 + v14)) fun v19 =>
      bd1 (rd w15 5 16 (8 + v14)) fun v20 =>
      bd1 (rd w15 6 16 (8 + v14)) fun v21 =>
      bd1 (fX9_firstBeast w15 v14 v18 v19 v20 v21) fun w22 =>
      bd1 (rd w22 11 16 (8 + v14)) fun v23 =>
      bd1 (wr w22 11 16 v14 v23) fun w24 =>
      bd1 (rd w24 14 16 (8 + v14)) fun v25 =>
      bd1 (wr w24 14 16 v14 v25) fun w26 =>
      bd1 (rd w26 16 16 (8 + v14)) fun v27 =>
      bd1 (wr w26 16 16 v14 v27) fun w28 =>
      bd1 (rd w28 17 16 (8 + v14)) fun v29 =>
      bd1 (wr w28 17 16 v14 v29) fun w30 =>
      LX9_lay_81 fu (v14 + 1) w30
def LX9_lay_196 : Nat → Int32 → Mm → Option (Mm)
  | 0, _, _ => none
  | fu + 1, v31, w32 =>
    if 4 ≤ v31 then
      some (w32)
    else
      bd1 (rd w32 9 8 (4 + v31)) fun v35 =>
      bd1 (wr w32 9 8 v31 v35) fun w36 =>
      bd1 (rd w36 10 8 (4 + v31)) fun v37 =>
      bd1 (wr w36 10 8 v31 v37) fun w38 =>
      LX9_lay_196 fu (v31 + 1) w38
def LX9_lay_237 : Nat → Int32 → Mm → Option (Mm)
  | 0, _, _ => none
  | fu + 1, v39, w40 =>
    if 6 ≤ v39 then
      some (w40)
    else
      bd1 (rd w40 13 12 (6 + v39)) fun v43 =>
      bd1 (wr w40 13 12 v39 v43) fun w44 =>
      LX9_lay_237 fu (v39 + 1) w44
def fX9_lay (w : Mm) : Option (Int32 × Mm) :=
  bd2 (fX9_fault w) fun v1 w2 =>
  if v1 = (-4) then
    bd1 (fX9_canBeLaid w2) fun v3 =>
    if v3 = 0 then
      some ((-2), w2)
    else
      bd1 (rd w2 2 2 1) fun v4 =>
      bd1 (wr w2 2 2 0 v4) fun w5 =>
      bd1 (rd w5 7 2 1) fun v6 =>
      bd1 (wr w5 7 2 0 v6) fun w7 =>
      bd1 (rd w7 8 2 1) fun v8 =>
      bd1 (wr w7 8 2 0 v8) fun w9 =>
      bd1 (rd w9 12 2 1) fun v10 =>
      bd1 (wr w9 12 2 0 v10) fun w11 =>
      bd1 (rd w11 15 2 1) fun v12 =>
      bd1 (wr w11 15 2 0 v12) fun w13 =>
      bd1 (LX9_lay_81 1000 0 w13) fun (w17 : Mm) =>
      bd1 (LX9_lay_196 1000 0 w17) fun (w34 : Mm) =>
      bd1 (LX9_lay_237 1000 0 w34) fun (w42 : Mm) =>
      bd1 (fX9_anew w42) fun w45 =>
      bd1 (rd w45 2 2 0) fun v46 =>
      some (v46, w45)
  else
    some ((-2), w2)
set_option maxHeartbeats 4000000 in
set_option maxRecDepth 100000 in
theorem kX9_lay {l : Launch} {κ : Kp} {N : Nat} {ad : Nat → Nat} {w : Mm} {r : Int32} {w' : Mm} (hN : 26 ≤ N) (hD : Apt ad N) (hf : fX9_lay w = some (r, w')) : Met l yX9_lay (Cond.code yX9_lay cX9_lay 2 (some .int) :: TB) (rmX 6 135) (PcX κ (wM κ) N ad w [.ref (ad 0)]) (QI κ (wM κ) N ad w' r) 0 0 (Aof ad N) := by
  refine mkI (by decide +kernel) (Nat.le_of_ble_eq_true rfl) (fun p e R s m args below meth c Q H locs ls hC hRf hRl hP hS hret hl => ?_)
  obtain ⟨hx, hb, hml, hown, hts, hE⟩ := hC
  have hA : ∀ k, k < N → Aof ad N (ad k) := fun k h => Aof_in h
  have hAA : ∀ z, Aof ad N z → Aof ad N z := fun _ h => h
  have hl : lv_has ls 2 [(0, .ref (ad 0))] := hl
  unfold fX9_lay at hf
  refine lv_aload_n hx hb dX9_lay_0 rfl (lv_at hl 0 rfl) ?_
  obtain ⟨v1, w2, hv, hf⟩ := bs2 hf
  refine x_cVi (As := []) (rest := []) hx hb hml hts hown hE hP hS hAA (kX9_fault hN hD hv) cl_X9_136 (nm0 hN) oM_0 vc_9 (Nat.le_trans (by decide) hRf) (Nat.le_trans (by decide) hRl) (Nat.zero_le _) (Nat.zero_le _) rfl hl.1 rfl (Nat.le_of_ble_eq_true rfl) dX9_lay_1 (fun H locs hP hS => ?_)
  refine lv_bipush (v := (-4)) hx hb dX9_lay_4 nb_m4 ?_
  refine lv_icmp_ne (tgt := 16) hx hb dX9_lay_6 (by decide) (fun hc => ?_) (fun hc => ?_)
  · have hf := iq hc hf
    refine lv_bipush (v := (-2)) hx hb dX9_lay_16 nb_m2 ?_
    cases hf
    exact hret _ _ _ _ dX9_lay_18 hP hS
  · have hf := ip hc hf
    refine lv_aload_n hx hb dX9_lay_9 rfl (lv_at hl 0 rfl) ?_
    obtain ⟨v3, hv, hf⟩ := bs1 hf
    refine x_cVi (As := []) (rest := []) hx hb hml hts hown hE hP hS hAA (kX9_canBeLaid hN hD hv) cl_X9_139 (nm0 hN) oM_0 vc_9 (Nat.le_trans (by decide) hRf) (Nat.le_trans (by decide) hRl) (Nat.zero_le _) (Nat.zero_le _) rfl hl.1 rfl (Nat.le_of_ble_eq_true rfl) dX9_lay_10 (fun H locs hP hS => ?_)
    refine lv_if_ne (tgt := 19) hx hb dX9_lay_13 (by decide) (fun hc => ?_) (fun hc => ?_)
    · have hf := iq hc hf
      refine lv_aload_n hx hb dX9_lay_19 rfl (lv_at hl 0 rfl) ?_
      refine x_get hx hb hts hown hE hP fl_X9_13 (nm0 hN) gM_0_2 dX9_lay_20 ?_
      refine lv_iconst (v := 0) hx hb dX9_lay_23 nc_0 ?_
      refine lv_aload_n hx hb dX9_lay_24 rfl (lv_at hl 0 rfl) ?_
      refine x_get hx hb hts hown hE hP fl_X9_13 (nm0 hN) gM_0_2 dX9_lay_25 ?_
      refine lv_iconst (v := 1) hx hb dX9_lay_28 nc_1 ?_
      obtain ⟨v4, hv, hf⟩ := bs1 hf
      refine x_iald hx hb hE hP (nm2 hN) (aM_2 _) hv dX9_lay_29 ?_
      obtain ⟨w5, hv, hf⟩ := bs1 hf
      refine x_iast hx hb hE hD hA hP hS (nm2 hN) aM_2 hv dX9_lay_30 (fun H locs hP hS => ?_)
      refine lv_aload_n hx hb dX9_lay_31 rfl (lv_at hl 0 rfl) ?_
      refine x_get hx hb hts hown hE hP fl_X9_29 (nm0 hN) gM_0_7 dX9_lay_32 ?_
      refine lv_iconst (v := 0) hx hb dX9_lay_35 nc_0 ?_
      refine lv_aload_n hx hb dX9_lay_36 rfl (lv_at hl 0 rfl) ?_
      refine x_get hx hb hts hown hE hP fl_X9_29 (nm0 hN) gM_0_7 dX9_lay_37 ?_
      refine lv_iconst (v := 1) hx hb dX9_lay_40 nc_1 ?_
      obtain ⟨v6, hv, hf⟩ := bs1 hf
      refine x_iald hx hb hE hP (nm7 hN) (aM_7 _) hv dX9_lay_41 ?_
      obtain ⟨w7, hv, hf⟩ := bs1 hf
      refine x_iast hx hb hE hD hA hP hS (nm7 hN) aM_7 hv dX9_lay_42 (fun H locs hP hS => ?_)
      refine lv_aload_n hx hb dX9_lay_43 rfl (lv_at hl 0 rfl) ?_
      refine x_get hx hb hts hown hE hP fl_X9_32 (nm0 hN) gM_0_8 dX9_lay_44 ?_
      refine lv_iconst (v := 0) hx hb dX9_lay_47 nc_0 ?_
      refine lv_aload_n hx hb dX9_lay_48 rfl (lv_at hl 0 rfl) ?_
      refine x_get hx hb hts hown hE hP fl_X9_32 (nm0 hN) gM_0_8 dX9_lay_49 ?_
      refine lv_iconst (v := 1) hx hb dX9_lay_52 nc_1 ?_
      obtain ⟨v8, hv, hf⟩ := bs1 hf
      refine x_iald hx hb hE hP (nm8 hN) (aM_8 _) hv dX9_lay_53 ?_
      obtain ⟨w9, hv, hf⟩ := bs1 hf
      refine x_iast hx hb hE hD hA hP hS (nm8 hN) aM_8 hv dX9_lay_54 (fun H locs hP hS => ?_)
      refine lv_aload_n hx hb dX9_lay_55 rfl (lv_at hl 0 rfl) ?_
      refine x_get hx hb hts hown hE hP fl_X9_44 (nm0 hN) gM_0_12 dX9_lay_56 ?_
      refine lv_iconst (v := 0) hx hb dX9_lay_59 nc_0 ?_
      refine lv_aload_n hx hb dX9_lay_60 rfl (lv_at hl 0 rfl) ?_
      refine x_get hx hb hts hown hE hP fl_X9_44 (nm0 hN) gM_0_12 dX9_lay_61 ?_
      refine lv_iconst (v := 1) hx hb dX9_lay_64 nc_1 ?_
      obtain ⟨v10, hv, hf⟩ := bs1 hf
      refine x_iald hx hb hE hP (nm12 hN) (aM_12 _) hv dX9_lay_65 ?_
      obtain ⟨w11, hv, hf⟩ := bs1 hf
      refine x_iast hx hb hE hD hA hP hS (nm12 hN) aM_12 hv dX9_lay_66 (fun H locs hP hS => ?_)
      refine lv_aload_n hx hb dX9_lay_67 rfl (lv_at hl 0 rfl) ?_
      refine x_get hx hb hts hown hE hP fl_X9_53 (nm0 hN) gM_0_15 dX9_lay_68 ?_
      refine lv_iconst (v := 0) hx hb dX9_lay_71 nc_0 ?_
      refine lv_aload_n hx hb dX9_lay_72 rfl (lv_at hl 0 rfl) ?_
      refine x_get hx hb hts hown hE hP fl_X9_53 (nm0 hN) gM_0_15 dX9_lay_73 ?_
      refine lv_iconst (v := 1) hx hb dX9_lay_76 nc_1 ?_
      obtain ⟨v12, hv, hf⟩ := bs1 hf
      refine x_iald hx hb hE hP (nm15 hN) (aM_15 _) hv dX9_lay_77 ?_
      obtain ⟨w13, hv, hf⟩ := bs1 hf
      refine x_iast hx hb hE hD hA hP hS (nm15 hN) aM_15 hv dX9_lay_78 (fun H locs hP hS => ?_)
      refine lv_iconst (v := 0) hx hb dX9_lay_79 nc_0 ?_
      refine lv_istore_n (lv' := [(1, .int 0), (0, .ref (ad 0))]) hx hb dX9_lay_80 rfl hl (by decide) rfl (fun ls hl => ?_)
      obtain ⟨w17, hq16, hf⟩ := bs1 hf
      have hJ16 : ∀ (H : Heap) (locs : List Loc) (ls : Array Slot), Ho κ (wM κ) N ad w17 H → va_S (Aof ad N) s.heap H locs → lv_has ls 2 [(0, .ref (ad 0))] → W p l e R s m args below meth c H locs 0 0 Q (F0 m 194 ls []) := by
        intro H locs ls hP hS hl
        refine lv_iconst (v := 0) hx hb dX9_lay_194 nc_0 ?_
        refine lv_istore_n (lv' := [(1, .int 0), (0, .ref (ad 0))]) hx hb dX9_lay_195 rfl hl (by decide) rfl (fun ls hl => ?_)
        obtain ⟨w34, hq33, hf⟩ := bs1 hf
        have hJ33 : ∀ (H : Heap) (locs : List Loc) (ls : Array Slot), Ho κ (wM κ) N ad w34 H → va_S (Aof ad N) s.heap H locs → lv_has ls 2 [(0, .ref (ad 0))] → W p l e R s m args below meth c H locs 0 0 Q (F0 m 235 ls []) := by
          intro H locs ls hP hS hl
          refine lv_iconst (v := 0) hx hb dX9_lay_235 nc_0 ?_
          refine lv_istore_n (lv' := [(1, .int 0), (0, .ref (ad 0))]) hx hb dX9_lay_236 rfl hl (by decide) rfl (fun ls hl => ?_)
          obtain ⟨w42, hq41, hf⟩ := bs1 hf
          have hJ41 : ∀ (H : Heap) (locs : List Loc) (ls : Array Slot), Ho κ (wM κ) N ad w42 H → va_S (Aof ad N) s.heap H locs → lv_has ls 2 [(0, .ref (ad 0))] → W p l e R s m args below meth c H locs 0 0 Q (F0 m 264 ls []) := by
            intro H locs ls hP hS hl
            refine lv_aload_n hx hb dX9_lay_264 rfl (lv_at hl 0 rfl) ?_
            obtain ⟨w45, hv, hf⟩ := bs1 hf
            refine x_cVv (As := []) (rest := []) hx hb hml hts hown hE hP hS hAA (kX9_anew hN hD hv) cl_X9_90 (nm0 hN) oM_0 vc_9 (Nat.le_trans (by decide) hRf) (Nat.le_trans (by decide) hRl) (Nat.zero_le _) (Nat.zero_le _) rfl hl.1 rfl (Nat.le_of_ble_eq_true rfl) dX9_lay_265 (fun H locs hP hS => ?_)
            refine lv_aload_n hx hb dX9_lay_268 rfl (lv_at hl 0 rfl) ?_
            refine x_get hx hb hts hown hE hP fl_X9_13 (nm0 hN) gM_0_2 dX9_lay_269 ?_
            refine lv_iconst (v := 0) hx hb dX9_lay_272 nc_0 ?_
            obtain ⟨v46, hv, hf⟩ := bs1 hf
            refine x_iald hx hb hE hP (nm2 hN) (aM_2 _) hv dX9_lay_273 ?_
            cases hf
            exact hret _ _ _ _ dX9_lay_274 hP hS
          clear hf
          have hf := hq41
          clear hq41
          have hL41 : ∀ (fu : Nat) (v39 : Int32) (w40 : Mm) (H : Heap) (locs : List Loc) (ls : Array Slot), LX9_lay_237 fu v39 w40 = some (w42) → Ho κ (wM κ) N ad w40 H → va_S (Aof ad N) s.heap H locs → lv_has ls 2 [(0, .ref (ad 0)), (1, .int v39)] → W p l e R s m args below meth c H locs 0 0 Q (F0 m 237 ls []) := by
            intro fu
            induction fu with
            | zero =>
              intro v39 w40 H locs ls hf
              rw [LX9_lay_237] at hf
              cases hf
            | succ fu ih =>
              intro v39 w40 H locs ls hf hP hS hl
              rw [LX9_lay_237] at hf
              refine lv_iload_n hx hb dX9_lay_237 rfl (lv_at hl 1 rfl) ?_
              refine lv_bipush (v := 6) hx hb dX9_lay_238 nb_6 ?_
              refine lv_icmp_ge (tgt := 264) hx hb dX9_lay_240 (by decide) (fun hc => ?_) (fun hc => ?_)
              · have hf := ip hc hf
                cases hf
                exact hJ41 _ _ _ hP hS (lv_sub hl [0] rfl)
              · have hf := iq hc hf
                refine lv_aload_n hx hb dX9_lay_243 rfl (lv_at hl 0 rfl) ?_
                refine x_get hx hb hts hown hE hP fl_X9_47 (nm0 hN) gM_0_13 dX9_lay_244 ?_
                refine lv_iload_n hx hb dX9_lay_247 rfl (lv_at hl 1 rfl) ?_
                refine lv_aload_n hx hb dX9_lay_248 rfl (lv_at hl 0 rfl) ?_
                refine x_get hx hb hts hown hE hP fl_X9_47 (nm0 hN) gM_0_13 dX9_lay_249 ?_
                refine lv_bipush (v := 6) hx hb dX9_lay_252 nb_6 ?_
                refine lv_iload_n hx hb dX9_lay_254 rfl (lv_at hl 1 rfl) ?_
                refine lv_iadd hx hb dX9_lay_255 ?_
                obtain ⟨v43, hv, hf⟩ := bs1 hf
                refine x_iald hx hb hE hP (nm13 hN) (aM_13 _) hv dX9_lay_256 ?_
                obtain ⟨w44, hv, hf⟩ := bs1 hf
                refine x_iast hx hb hE hD hA hP hS (nm13 hN) aM_13 hv dX9_lay_257 (fun H locs hP hS => ?_)
                refine lv_iinc (v := (v39 + 1)) (lv' := [(1, .int (v39 + 1)), (0, .ref (ad 0))]) hx hb dX9_lay_258 hl (k := 1) rfl (ni_1 _) (by decide) rfl (fun ls hl => ?_)
                refine lv_goto (tgt := 237) hx hb dX9_lay_261 (by decide) ?_
                exact ih _ _ _ _ _ hf hP hS (lv_sub hl [1, 0] rfl)
          exact hL41 _ _ _ _ _ _ hf hP hS (lv_sub hl [1, 0] rfl)
        clear hf
        have hf := hq33
        clear hq33
        have hL33 : ∀ (fu : Nat) (v31 : Int32) (w32 : Mm) (H : Heap) (locs : List Loc) (ls : Array Slot), LX9_lay_196 fu v31 w32 = some (w34) → Ho κ (wM κ) N ad w32 H → va_S (Aof ad N) s.heap H locs → lv_has ls 2 [(0, .ref (ad 0)), (1, .int v31)] → W p l e R s m args below meth c H locs 0 0 Q (F0 m 196 ls []) := by
          intro fu
          induction fu with
          | zero =>
            intro v31 w32 H locs ls hf
            rw [LX9_lay_196] at hf
            cases hf
          | succ fu ih =>
            intro v31 w32 H locs ls hf hP hS hl
            rw [LX9_lay_196] at hf
            refine lv_iload_n hx hb dX9_lay_196 rfl (lv_at hl 1 rfl) ?_
            refine lv_iconst (v := 4) hx hb dX9_lay_197 nc_4 ?_
            refine lv_icmp_ge (tgt := 235) hx hb dX9_lay_198 (by decide) (fun hc => ?_) (fun hc => ?_)
            · have hf := ip hc hf
              cases hf
              exact hJ33 _ _ _ hP hS (lv_sub hl [0] rfl)
            · have hf := iq hc hf
              refine lv_aload_n hx hb dX9_lay_201 rfl (lv_at hl 0 rfl) ?_
              refine x_get hx hb hts hown hE hP fl_X9_35 (nm0 hN) gM_0_9 dX9_lay_202 ?_
              refine lv_iload_n hx hb dX9_lay_205 rfl (lv_at hl 1 rfl) ?_
              refine lv_aload_n hx hb dX9_lay_206 rfl (lv_at hl 0 rfl) ?_
              refine x_get hx hb hts hown hE hP fl_X9_35 (nm0 hN) gM_0_9 dX9_lay_207 ?_
              refine lv_iconst (v := 4) hx hb dX9_lay_210 nc_4 ?_
              refine lv_iload_n hx hb dX9_lay_211 rfl (lv_at hl 1 rfl) ?_
              refine lv_iadd hx hb dX9_lay_212 ?_
              obtain ⟨v35, hv, hf⟩ := bs1 hf
              refine x_iald hx hb hE hP (nm9 hN) (aM_9 _) hv dX9_lay_213 ?_
              obtain ⟨w36, hv, hf⟩ := bs1 hf
              refine x_iast hx hb hE hD hA hP hS (nm9 hN) aM_9 hv dX9_lay_214 (fun H locs hP hS => ?_)
              refine lv_aload_n hx hb dX9_lay_215 rfl (lv_at hl 0 rfl) ?_
              refine x_get hx hb hts hown hE hP fl_X9_38 (nm0 hN) gM_0_10 dX9_lay_216 ?_
              refine lv_iload_n hx hb dX9_lay_219 rfl (lv_at hl 1 rfl) ?_
              refine lv_aload_n hx hb dX9_lay_220 rfl (lv_at hl 0 rfl) ?_
              refine x_get hx hb hts hown hE hP fl_X9_38 (nm0 hN) gM_0_10 dX9_lay_221 ?_
              refine lv_iconst (v := 4) hx hb dX9_lay_224 nc_4 ?_
              refine lv_iload_n hx hb dX9_lay_225 rfl (lv_at hl 1 rfl) ?_
              refine lv_iadd hx hb dX9_lay_226 ?_
              obtain ⟨v37, hv, hf⟩ := bs1 hf
              refine x_iald hx hb hE hP (nm10 hN) (aM_10 _) hv dX9_lay_227 ?_
              obtain ⟨w38, hv, hf⟩ := bs1 hf
              refine x_iast hx hb hE hD hA hP hS (nm10 hN) aM_10 hv dX9_lay_228 (fun H locs hP hS => ?_)
              refine lv_iinc (v := (v31 + 1)) (lv' := [(1, .int (v31 + 1)), (0, .ref (ad 0))]) hx hb dX9_lay_229 hl (k := 1) rfl (ni_1 _) (by decide) rfl (fun ls hl => ?_)
              refine lv_goto (tgt := 196) hx hb dX9_lay_232 (by decide) ?_
              exact ih _ _ _ _ _ hf hP hS (lv_sub hl [1, 0] rfl)
        exact hL33 _ _ _ _ _ _ hf hP hS (lv_sub hl [1, 0] rfl)
      clear hf
      have hf := hq16
      clear hq16
      have hL16 : ∀ (fu : Nat) (v14 : Int32) (w15 : Mm) (H : Heap) (locs : List Loc) (ls : Array Slot), LX9_lay_81 fu v14 w15 = some (w17) → Ho κ (wM κ) N ad w15 H → va_S (Aof ad N) s.heap H locs → lv_has ls 2 [(0, .ref (ad 0)), (1, .int v14)] → W p l e R s m args below meth c H locs 0 0 Q (F0 m 81 ls []) := by
        intro fu
        induction fu with
        | zero =>
          intro v14 w15 H locs ls hf
          rw [LX9_lay_81] at hf
          cases hf
        | succ fu ih =>
          intro v14 w15 H locs ls hf hP hS hl
          rw [LX9_lay_81] at hf
          refine lv_iload_n hx hb dX9_lay_81 rfl (lv_at hl 1 rfl) ?_
          refine lv_bipush (v := 8) hx hb dX9_lay_82 nb_8 ?_
          refine lv_icmp_ge (tgt := 194) hx hb dX9_lay_84 (by decide) (fun hc => ?_) (fun hc => ?_)
          · have hf := ip hc hf
            cases hf
            exact hJ16 _ _ _ hP hS (lv_sub hl [0] rfl)
          · have hf := iq hc hf
            refine lv_aload_n hx hb dX9_lay_87 rfl (lv_at hl 0 rfl) ?_
            refine lv_iload_n hx hb dX9_lay_88 rfl (lv_at hl 1 rfl) ?_
            refine lv_aload_n hx hb dX9_lay_89 rfl (lv_at hl 0 rfl) ?_
            refine x_get hx hb hts hown hE hP fl_X9_17 (nm0 hN) gM_0_3 dX9_lay_90 ?_
            refine lv_bipush (v := 8) hx hb dX9_lay_93 nb_8 ?_
            refine lv_iload_n hx hb dX9_lay_95 rfl (lv_at hl 1 rfl) ?_
            refine lv_iadd hx hb dX9_lay_96 ?_
            obtain ⟨v18, hv, hf⟩ := bs1 hf
            refine x_iald hx hb hE hP (nm3 hN) (aM_3 _) hv dX9_lay_97 ?_
            refine lv_aload_n hx hb dX9_lay_98 rfl (lv_at hl 0 rfl) ?_
            refine x_get hx hb hts hown hE hP fl_X9_20 (nm0 hN) gM_0_4 dX9_lay_99 ?_
            refine lv_bipush (v := 8) hx hb dX9_lay_102 nb_8 ?_
            refine lv_iload_n hx hb dX9_lay_104 rfl (lv_at hl 1 rfl) ?_
            refine lv_iadd hx hb dX9_lay_105 ?_
            obtain ⟨v19, hv, hf⟩ := bs1 hf
            refine x_iald hx hb hE hP (nm4 hN) (aM_4 _) hv dX9_lay_106 ?_
            refine lv_aload_n hx hb dX9_lay_107 rfl (lv_at hl 0 rfl) ?_
            refine x_get hx hb hts hown hE hP fl_X9_23 (nm0 hN) gM_0_5 dX9_lay_108 ?_
            refine lv_bipush (v := 8) hx hb dX9_lay_111 nb_8 ?_
            refine lv_iload_n hx hb dX9_lay_113 rfl (lv_at hl 1 rfl) ?_
            refine lv_iadd hx hb dX9_lay_114 ?_
            obtain ⟨v20, hv, hf⟩ := bs1 hf
            refine x_iald hx hb hE hP (nm5 hN) (aM_5 _) hv dX9_lay_115 ?_
            refine lv_aload_n hx hb dX9_lay_116 rfl (lv_at hl 0 rfl) ?_
            refine x_get hx hb hts hown hE hP fl_X9_26 (nm0 hN) gM_0_6 dX9_lay_117 ?_
            refine lv_bipush (v := 8) hx hb dX9_lay_120 nb_8 ?_
            refine lv_iload_n hx hb dX9_lay_122 rfl (lv_at hl 1 rfl) ?_
            refine lv_iadd hx hb dX9_lay_123 ?_
            obtain ⟨v21, hv, hf⟩ := bs1 hf
            refine x_iald hx hb hE hP (nm6 hN) (aM_6 _) hv dX9_lay_124 ?_
            obtain ⟨w22, hv, hf⟩ := bs1 hf
            refine x_cVv (As := [.int v14, .int v18, .int v19, .int v20, .int v21]) (rest := []) hx hb hml hts hown hE hP hS hAA (kX9_firstBeast hN hD hv) cl_X9_86 (nm0 hN) oM_0 vc_9 (Nat.le_trans (by decide) hRf) (Nat.le_trans (by decide) hRl) (Nat.zero_le _) (Nat.zero_le _) rfl hl.1 rfl (Nat.le_of_ble_eq_true rfl) dX9_lay_125 (fun H locs hP hS => ?_)
            refine lv_aload_n hx hb dX9_lay_128 rfl (lv_at hl 0 rfl) ?_
            refine x_get hx hb hts hown hE hP fl_X9_41 (nm0 hN) gM_0_11 dX9_lay_129 ?_
            refine lv_iload_n hx hb dX9_lay_132 rfl (lv_at hl 1 rfl) ?_
            refine lv_aload_n hx hb dX9_lay_133 rfl (lv_at hl 0 rfl) ?_
            refine x_get hx hb hts hown hE hP fl_X9_41 (nm0 hN) gM_0_11 dX9_lay_134 ?_
            refine lv_bipush (v := 8) hx hb dX9_lay_137 nb_8 ?_
            refine lv_iload_n hx hb dX9_lay_139 rfl (lv_at hl 1 rfl) ?_
            refine lv_iadd hx hb dX9_lay_140 ?_
            obtain ⟨v23, hv, hf⟩ := bs1 hf
            refine x_iald hx hb hE hP (nm11 hN) (aM_11 _) hv dX9_lay_141 ?_
            obtain ⟨w24, hv, hf⟩ := bs1 hf
            refine x_iast hx hb hE hD hA hP hS (nm11 hN) aM_11 hv dX9_lay_142 (fun H locs hP hS => ?_)
            refine lv_aload_n hx hb dX9_lay_143 rfl (lv_at hl 0 rfl) ?_
            refine x_get hx hb hts hown hE hP fl_X9_50 (nm0 hN) gM_0_14 dX9_lay_144 ?_
            refine lv_iload_n hx hb dX9_lay_147 rfl (lv_at hl 1 rfl) ?_
            refine lv_aload_n hx hb dX9_lay_148 rfl (lv_at hl 0 rfl) ?_
            refine x_get hx hb hts hown hE hP fl_X9_50 (nm0 hN) gM_0_14 dX9_lay_149 ?_
            refine lv_bipush (v := 8) hx hb dX9_lay_152 nb_8 ?_
            refine lv_iload_n hx hb dX9_lay_154 rfl (lv_at hl 1 rfl) ?_
            refine lv_iadd hx hb dX9_lay_155 ?_
            obtain ⟨v25, hv, hf⟩ := bs1 hf
            refine x_iald hx hb hE hP (nm14 hN) (aM_14 _) hv dX9_lay_156 ?_
            obtain ⟨w26, hv, hf⟩ := bs1 hf
            refine x_iast hx hb hE hD hA hP hS (nm14 hN) aM_14 hv dX9_lay_157 (fun H locs hP hS => ?_)
            refine lv_aload_n hx hb dX9_lay_158 rfl (lv_at hl 0 rfl) ?_
            refine x_get hx hb hts hown hE hP fl_X9_56 (nm0 hN) gM_0_16 dX9_lay_159 ?_
            refine lv_iload_n hx hb dX9_lay_162 rfl (lv_at hl 1 rfl) ?_
            refine lv_aload_n hx hb dX9_lay_163 rfl (lv_at hl 0 rfl) ?_
            refine x_get hx hb hts hown hE hP fl_X9_56 (nm0 hN) gM_0_16 dX9_lay_164 ?_
            refine lv_bipush (v := 8) hx hb dX9_lay_167 nb_8 ?_
            refine lv_iload_n hx hb dX9_lay_169 rfl (lv_at hl 1 rfl) ?_
            refine lv_iadd hx hb dX9_lay_170 ?_
            obtain ⟨v27, hv, hf⟩ := bs1 hf
            refine x_iald hx hb hE hP (nm16 hN) (aM_16 _) hv dX9_lay_171 ?_
            obtain ⟨w28, hv, hf⟩ := bs1 hf
            refine x_iast hx hb hE hD hA hP hS (nm16 hN) aM_16 hv dX9_lay_172 (fun H locs hP hS => ?_)
            refine lv_aload_n hx hb dX9_lay_173 rfl (lv_at hl 0 rfl) ?_
            refine x_get hx hb hts hown hE hP fl_X9_59 (nm0 hN) gM_0_17 dX9_lay_174 ?_
            refine lv_iload_n hx hb dX9_lay_177 rfl (lv_at hl 1 rfl) ?_
            refine lv_aload_n hx hb dX9_lay_178 rfl (lv_at hl 0 rfl) ?_
            refine x_get hx hb hts hown hE hP fl_X9_59 (nm0 hN) gM_0_17 dX9_lay_179 ?_
            refine lv_bipush (v := 8) hx hb dX9_lay_182 nb_8 ?_
            refine lv_iload_n hx hb dX9_lay_184 rfl (lv_at hl 1 rfl) ?_
            refine lv_iadd hx hb dX9_lay_185 ?_
            obtain ⟨v29, hv, hf⟩ := bs1 hf
            refine x_iald hx hb hE hP (nm17 hN) (aM_17 _) hv dX9_lay_186 ?_
            obtain ⟨w30, hv, hf⟩ := bs1 hf
            refine x_iast hx hb hE hD hA hP hS (nm17 hN) aM_17 hv dX9_lay_187 (fun H locs hP hS => ?_)
            refine lv_iinc (v := (v14 + 1)) (lv' := [(1, .int (v14 + 1)), (0, .ref (ad 0))]) hx hb dX9_lay_188 hl (k := 1) rfl (ni_1 _) (by decide) rfl (fun ls hl => ?_)
            refine lv_goto (tgt := 81) hx hb dX9_lay_191 (by decide) ?_
            exact ih _ _ _ _ _ hf hP hS (lv_sub hl [1, 0] rfl)
      exact hL16 _ _ _ _ _ _ hf hP hS (lv_sub hl [1, 0] rfl)
    · have hf := ip hc hf
      refine lv_bipush (v := (-2)) hx hb dX9_lay_16 nb_m2 ?_
      cases hf
      exact hret _ _ _ _ dX9_lay_18 hP hS
def fX9_isBeast (w : Mm) (x1 : Int32) : Option (Int32) :=
  bd1 (rd w 2 2 0) fun v1 =>
  bd1 (fX9_in x1 0 (v1 - 1)) fun v2 =>
  bd1 (gb v2) fun _ =>
  some v2
set_option maxHeartbeats 4000000 in
set_option maxRecDepth 100000 in
theorem kX9_isBeast {l : Launch} {κ : Kp} {N : Nat} {ad : Nat → Nat} {w : Mm} {x1 : Int32} {r : Int32} (hN : 26 ≤ N) (hD : Apt ad N) (hf : fX9_isBeast w x1 = some r) : Met l yX9_isBeast (Cond.code yX9_isBeast cX9_isBeast 2 (some .boolean) :: TB) (rmX 1 22) (PcX κ (wM κ) N ad w [.ref (ad 0), .int x1]) (QI κ (wM κ) N ad w r) 0 0 (Aof ad N) := by
  refine mkZ (by decide +kernel) (Nat.le_of_ble_eq_true rfl) (fun p e R s m args below meth c Q H locs ls hC hRf hRl hP hS hret hl => ?_)
  obtain ⟨hx, hb, hml, hown, hts, hE⟩ := hC
  have hA : ∀ k, k < N → Aof ad N (ad k) := fun k h => Aof_in h
  have hAA : ∀ z, Aof ad N z → Aof ad N z := fun _ h => h
  have hl : lv_has ls 2 [(0, .ref (ad 0)), (1, .int x1)] := hl
  unfold fX9_isBeast at hf
  refine lv_iload_n hx hb dX9_isBeast_0 rfl (lv_at hl 1 rfl) ?_
  refine lv_iconst (v := 0) hx hb dX9_isBeast_1 nc_0 ?_
  refine lv_aload_n hx hb dX9_isBeast_2 rfl (lv_at hl 0 rfl) ?_
  refine x_get hx hb hts hown hE hP fl_X9_13 (nm0 hN) gM_0_2 dX9_isBeast_3 ?_
  refine lv_iconst (v := 0) hx hb dX9_isBeast_6 nc_0 ?_
  obtain ⟨v1, hv, hf⟩ := bs1 hf
  refine x_iald hx hb hE hP (nm2 hN) (aM_2 _) hv dX9_isBeast_7 ?_
  refine lv_iconst (v := 1) hx hb dX9_isBeast_8 nc_1 ?_
  refine lv_isub hx hb dX9_isBeast_9 ?_
  obtain ⟨v2, hv, hf⟩ := bs1 hf
  refine x_cSi (As := [.int x1, .int 0, .int (v1 - 1)]) (rest := []) hx hb hml hts hown hE hP hS hAA (kX9_in hv) cl_X9_93 (Nat.le_trans (by decide) hRf) (Nat.le_trans (by decide) hRl) (Nat.zero_le _) (Nat.zero_le _) rfl hl.1 rfl (Nat.le_of_ble_eq_true rfl) dX9_isBeast_10 (fun H locs hP hS => ?_)
  obtain ⟨_, hgb, hf⟩ := bs1 hf
  cases hf
  exact hret _ _ _ _ dX9_isBeast_13 (gb_some hgb) hP hS
def LX9_raftOf_2 (x1 : Int32) (w : Mm) : Nat → Int32 → Option (Int32)
  | 0, _ => none
  | fu + 1, v1 =>
    bd1 (rd w 12 2 0) fun v3 =>
    if (3 * v3) ≤ v1 then
      some (-4)
    else
      bd1 (rd w 13 12 v1) fun v4 =>
      if v4 = x1 then
        some (v1 / 3)
      else
        LX9_raftOf_2 x1 w fu (v1 + 1)
def fX9_raftOf (w : Mm) (x1 : Int32) : Option (Int32) :=
  LX9_raftOf_2 x1 w 1000 0
set_option maxHeartbeats 4000000 in
set_option maxRecDepth 100000 in
theorem kX9_raftOf {l : Launch} {κ : Kp} {N : Nat} {ad : Nat → Nat} {w : Mm} {x1 : Int32} {r : Int32} (hN : 26 ≤ N) (hD : Apt ad N) (hf : fX9_raftOf w x1 = some r) : Met l yX9_raftOf (Cond.code yX9_raftOf cX9_raftOf 3 (some .int) :: TB) (rmX 0 0) (PcX κ (wM κ) N ad w [.ref (ad 0), .int x1]) (QI κ (wM κ) N ad w r) 0 0 (Aof ad N) := by
  refine mkI (by decide +kernel) (Nat.le_of_ble_eq_true rfl) (fun p e R s m args below meth c Q H locs ls hC hRf hRl hP hS hret hl => ?_)
  obtain ⟨hx, hb, hml, hown, hts, hE⟩ := hC
  have hA : ∀ k, k < N → Aof ad N (ad k) := fun k h => Aof_in h
  have hAA : ∀ z, Aof ad N z → Aof ad N z := fun _ h => h
  have hl : lv_has ls 3 [(0, .ref (ad 0)), (1, .int x1)] := hl
  unfold fX9_raftOf at hf
  refine lv_iconst (v := 0) hx hb dX9_raftOf_0 nc_0 ?_
  refine lv_istore_n (lv' := [(2, .int 0), (0, .ref (ad 0)), (1, .int x1)]) hx hb dX9_raftOf_1 rfl hl (by decide) rfl (fun ls hl => ?_)
  have hL2 : ∀ (fu : Nat) (v1 : Int32) (H : Heap) (locs : List Loc) (ls : Array Slot), LX9_raftOf_2 x1 w fu v1 = some r → Ho κ (wM κ) N ad w H → va_S (Aof ad N) s.heap H locs → lv_has ls 3 [(0, .ref (ad 0)), (1, .int x1), (2, .int v1)] → W p l e R s m args below meth c H locs 0 0 Q (F0 m 2 ls []) := by
    intro fu
    induction fu with
    | zero =>
      intro v1 H locs ls hf
      rw [LX9_raftOf_2] at hf
      cases hf
    | succ fu ih =>
      intro v1 H locs ls hf hP hS hl
      rw [LX9_raftOf_2] at hf
      refine lv_iload_n hx hb dX9_raftOf_2 rfl (lv_at hl 2 rfl) ?_
      refine lv_iconst (v := 3) hx hb dX9_raftOf_3 nc_3 ?_
      refine lv_aload_n hx hb dX9_raftOf_4 rfl (lv_at hl 0 rfl) ?_
      refine x_get hx hb hts hown hE hP fl_X9_44 (nm0 hN) gM_0_12 dX9_raftOf_5 ?_
      refine lv_iconst (v := 0) hx hb dX9_raftOf_8 nc_0 ?_
      obtain ⟨v3, hv, hf⟩ := bs1 hf
      refine x_iald hx hb hE hP (nm12 hN) (aM_12 _) hv dX9_raftOf_9 ?_
      refine lv_imul hx hb dX9_raftOf_10 ?_
      refine lv_icmp_ge (tgt := 34) hx hb dX9_raftOf_11 (by decide) (fun hc => ?_) (fun hc => ?_)
      · have hf := ip hc hf
        refine lv_bipush (v := (-4)) hx hb dX9_raftOf_34 nb_m4 ?_
        cases hf
        exact hret _ _ _ _ dX9_raftOf_36 hP hS
      · have hf := iq hc hf
        refine lv_aload_n hx hb dX9_raftOf_14 rfl (lv_at hl 0 rfl) ?_
        refine x_get hx hb hts hown hE hP fl_X9_47 (nm0 hN) gM_0_13 dX9_raftOf_15 ?_
        refine lv_iload_n hx hb dX9_raftOf_18 rfl (lv_at hl 2 rfl) ?_
        obtain ⟨v4, hv, hf⟩ := bs1 hf
        refine x_iald hx hb hE hP (nm13 hN) (aM_13 _) hv dX9_raftOf_19 ?_
        refine lv_iload_n hx hb dX9_raftOf_20 rfl (lv_at hl 1 rfl) ?_
        refine lv_icmp_ne (tgt := 28) hx hb dX9_raftOf_21 (by decide) (fun hc => ?_) (fun hc => ?_)
        · have hf := iq hc hf
          refine lv_iinc (v := (v1 + 1)) (lv' := [(2, .int (v1 + 1)), (0, .ref (ad 0)), (1, .int x1)]) hx hb dX9_raftOf_28 hl (k := 2) rfl (ni_1 _) (by decide) rfl (fun ls hl => ?_)
          refine lv_goto (tgt := 2) hx hb dX9_raftOf_31 (by decide) ?_
          exact ih _ _ _ _ hf hP hS (lv_sub hl [1, 2, 0] rfl)
        · have hf := ip hc hf
          refine lv_iload_n hx hb dX9_raftOf_24 rfl (lv_at hl 2 rfl) ?_
          refine lv_iconst (v := 3) hx hb dX9_raftOf_25 nc_3 ?_
          refine lv_idiv hx hb dX9_raftOf_26 (by decide) ?_
          cases hf
          exact hret _ _ _ _ dX9_raftOf_27 hP hS
  exact hL2 _ _ _ _ _ hf hP hS (lv_sub hl [1, 2, 0] rfl)
def LX9_ahead_4 (x1 : Int32) (w : Mm) : Nat → Int32 → Int32 → Option (Int32)
  | 0, _, _ => none
  | fu + 1, v1, v2 =>
    bd1 (rd w 2 2 0) fun v5 =>
    if v5 ≤ v2 then
      some (v1)
    else
      bd1 (rd w 14 16 x1) fun v6 =>
      bd1 (
        if v6 = 0 then
          bd1 (rd w 14 16 v2) fun v12 =>
          if 0 < v12 then
            some (1)
          else
            if x1 ≤ v2 then
              some (0)
            else
              some (1)
        else
          bd1 (rd w 14 16 v2) fun v9 =>
          if v9 ≤ 0 then
            some (0)
          else
            bd1 (rd w 14 16 v2) fun v10 =>
            bd1 (rd w 14 16 x1) fun v11 =>
            if v11 ≤ v10 then
              some (0)
            else
              some (1)) fun (v7 : Int32) =>
      bd1 (
        if v2 = x1 then
          some (0)
        else
          if v7 = 0 then
            some (0)
          else
            some (1)) fun (v13 : Int32) =>
      LX9_ahead_4 x1 w fu (v1 + v13) (v2 + 1)
def fX9_ahead (w : Mm) (x1 : Int32) : Option (Int32) :=
  bd1 (LX9_ahead_4 x1 w 1000 0 0) fun (v4 : Int32) =>
  some v4
set_option maxHeartbeats 4000000 in
set_option maxRecDepth 100000 in
theorem kX9_ahead {l : Launch} {κ : Kp} {N : Nat} {ad : Nat → Nat} {w : Mm} {x1 : Int32} {r : Int32} (hN : 26 ≤ N) (hD : Apt ad N) (hf : fX9_ahead w x1 = some r) : Met l yX9_ahead (Cond.code yX9_ahead cX9_ahead 5 (some .int) :: TB) (rmX 0 0) (PcX κ (wM κ) N ad w [.ref (ad 0), .int x1]) (QI κ (wM κ) N ad w r) 0 0 (Aof ad N) := by
  refine mkI (by decide +kernel) (Nat.le_of_ble_eq_true rfl) (fun p e R s m args below meth c Q H locs ls hC hRf hRl hP hS hret hl => ?_)
  obtain ⟨hx, hb, hml, hown, hts, hE⟩ := hC
  have hA : ∀ k, k < N → Aof ad N (ad k) := fun k h => Aof_in h
  have hAA : ∀ z, Aof ad N z → Aof ad N z := fun _ h => h
  have hl : lv_has ls 5 [(0, .ref (ad 0)), (1, .int x1)] := hl
  unfold fX9_ahead at hf
  refine lv_iconst (v := 0) hx hb dX9_ahead_0 nc_0 ?_
  refine lv_istore_n (lv' := [(2, .int 0), (0, .ref (ad 0)), (1, .int x1)]) hx hb dX9_ahead_1 rfl hl (by decide) rfl (fun ls hl => ?_)
  refine lv_iconst (v := 0) hx hb dX9_ahead_2 nc_0 ?_
  refine lv_istore_n (lv' := [(3, .int 0), (2, .int 0), (0, .ref (ad 0)), (1, .int x1)]) hx hb dX9_ahead_3 rfl hl (by decide) rfl (fun ls hl => ?_)
  obtain ⟨v4, hq3, hf⟩ := bs1 hf
  have hJ3 : ∀ (H : Heap) (locs : List Loc) (ls : Array Slot), Ho κ (wM κ) N ad w H → va_S (Aof ad N) s.heap H locs → lv_has ls 5 [(2, .int v4)] → W p l e R s m args below meth c H locs 0 0 Q (F0 m 100 ls []) := by
    intro H locs ls hP hS hl
    refine lv_iload_n hx hb dX9_ahead_100 rfl (lv_at hl 0 rfl) ?_
    cases hf
    exact hret _ _ _ _ dX9_ahead_101 hP hS
  clear hf
  have hf := hq3
  clear hq3
  have hL3 : ∀ (fu : Nat) (v1 : Int32) (v2 : Int32) (H : Heap) (locs : List Loc) (ls : Array Slot), LX9_ahead_4 x1 w fu v1 v2 = some (v4) → Ho κ (wM κ) N ad w H → va_S (Aof ad N) s.heap H locs → lv_has ls 5 [(0, .ref (ad 0)), (1, .int x1), (2, .int v1), (3, .int v2)] → W p l e R s m args below meth c H locs 0 0 Q (F0 m 4 ls []) := by
    intro fu
    induction fu with
    | zero =>
      intro v1 v2 H locs ls hf
      rw [LX9_ahead_4] at hf
      cases hf
    | succ fu ih =>
      intro v1 v2 H locs ls hf hP hS hl
      rw [LX9_ahead_4] at hf
      refine lv_iload_n hx hb dX9_ahead_4 rfl (lv_at hl 3 rfl) ?_
      refine lv_aload_n hx hb dX9_ahead_5 rfl (lv_at hl 0 rfl) ?_
      refine x_get hx hb hts hown hE hP fl_X9_13 (nm0 hN) gM_0_2 dX9_ahead_6 ?_
      refine lv_iconst (v := 0) hx hb dX9_ahead_9 nc_0 ?_
      obtain ⟨v5, hv, hf⟩ := bs1 hf
      refine x_iald hx hb hE hP (nm2 hN) (aM_2 _) hv dX9_ahead_10 ?_
      refine lv_icmp_ge (tgt := 100) hx hb dX9_ahead_11 (by decide) (fun hc => ?_) (fun hc => ?_)
      · have hf := ip hc hf
        cases hf
        exact hJ3 _ _ _ hP hS (lv_sub hl [2] rfl)
      · have hf := iq hc hf
        refine lv_aload_n hx hb dX9_ahead_14 rfl (lv_at hl 0 rfl) ?_
        refine x_get hx hb hts hown hE hP fl_X9_50 (nm0 hN) gM_0_14 dX9_ahead_15 ?_
        refine lv_iload_n hx hb dX9_ahead_18 rfl (lv_at hl 1 rfl) ?_
        obtain ⟨v6, hv, hf⟩ := bs1 hf
        refine x_iald hx hb hE hP (nm14 hN) (aM_14 _) hv dX9_ahead_19 ?_
        obtain ⟨v7, hq8, hf⟩ := bs1 hf
        have hJ8 : ∀ (H : Heap) (locs : List Loc) (ls : Array Slot), Ho κ (wM κ) N ad w H → va_S (Aof ad N) s.heap H locs → lv_has ls 5 [(0, .ref (ad 0)), (1, .int x1), (2, .int v1), (3, .int v2)] → W p l e R s m args below meth c H locs 0 0 Q (F0 m 74 ls [.int v7]) := by
          intro H locs ls hP hS hl
          refine lv_istore (lv' := [(4, .int v7), (0, .ref (ad 0)), (1, .int x1), (2, .int v1), (3, .int v2)]) hx hb dX9_ahead_74 hl (by decide) rfl (fun ls hl => ?_)
          refine lv_iload_n hx hb dX9_ahead_76 rfl (lv_at hl 3 rfl) ?_
          refine lv_iload_n hx hb dX9_ahead_77 rfl (lv_at hl 4 rfl) ?_
          refine lv_iload_n hx hb dX9_ahead_78 rfl (lv_at hl 2 rfl) ?_
          obtain ⟨v13, hq14, hf⟩ := bs1 hf
          have hJ14 : ∀ (H : Heap) (locs : List Loc) (ls : Array Slot), Ho κ (wM κ) N ad w H → va_S (Aof ad N) s.heap H locs → lv_has ls 5 [(0, .ref (ad 0)), (1, .int x1), (3, .int v2)] → W p l e R s m args below meth c H locs 0 0 Q (F0 m 92 ls [.int v13, .int v1]) := by
            intro H locs ls hP hS hl
            refine lv_iadd hx hb dX9_ahead_92 ?_
            refine lv_istore_n (lv' := [(2, .int (v1 + v13)), (0, .ref (ad 0)), (1, .int x1), (3, .int v2)]) hx hb dX9_ahead_93 rfl hl (by decide) rfl (fun ls hl => ?_)
            refine lv_iinc (v := (v2 + 1)) (lv' := [(3, .int (v2 + 1)), (2, .int (v1 + v13)), (0, .ref (ad 0)), (1, .int x1)]) hx hb dX9_ahead_94 hl (k := 3) rfl (ni_1 _) (by decide) rfl (fun ls hl => ?_)
            refine lv_goto (tgt := 4) hx hb dX9_ahead_97 (by decide) ?_
            exact ih _ _ _ _ _ hf hP hS (lv_sub hl [2, 3, 1, 0] rfl)
          clear hf
          have hf := hq14
          clear hq14
          refine lv_icmp_eq (tgt := 91) hx hb dX9_ahead_79 (by decide) (fun hc => ?_) (fun hc => ?_)
          · have hf := ip hc hf
            refine lv_iconst (v := 0) hx hb dX9_ahead_91 nc_0 ?_
            cases hf
            exact hJ14 _ _ _ hP hS (lv_sub hl [1, 2, 4] rfl)
          · have hf := iq hc hf
            refine lv_iload hx hb dX9_ahead_82 (lv_at hl 0 rfl) ?_
            refine lv_if_eq (tgt := 91) hx hb dX9_ahead_84 (by decide) (fun hc => ?_) (fun hc => ?_)
            · have hf := ip hc hf
              refine lv_iconst (v := 0) hx hb dX9_ahead_91 nc_0 ?_
              cases hf
              exact hJ14 _ _ _ hP hS (lv_sub hl [1, 2, 4] rfl)
            · have hf := iq hc hf
              refine lv_iconst (v := 1) hx hb dX9_ahead_87 nc_1 ?_
              refine lv_goto (tgt := 92) hx hb dX9_ahead_88 (by decide) ?_
              cases hf
              exact hJ14 _ _ _ hP hS (lv_sub hl [1, 2, 4] rfl)
        clear hf
        have hf := hq8
        clear hq8
        refine lv_if_ne (tgt := 45) hx hb dX9_ahead_20 (by decide) (fun hc => ?_) (fun hc => ?_)
        · have hf := iq hc hf
          refine lv_aload_n hx hb dX9_ahead_45 rfl (lv_at hl 0 rfl) ?_
          refine x_get hx hb hts hown hE hP fl_X9_50 (nm0 hN) gM_0_14 dX9_ahead_46 ?_
          refine lv_iload_n hx hb dX9_ahead_49 rfl (lv_at hl 3 rfl) ?_
          obtain ⟨v9, hv, hf⟩ := bs1 hf
          refine x_iald hx hb hE hP (nm14 hN) (aM_14 _) hv dX9_ahead_50 ?_
          refine lv_if_le (tgt := 73) hx hb dX9_ahead_51 (by decide) (fun hc => ?_) (fun hc => ?_)
          · have hf := ip hc hf
            refine lv_iconst (v := 0) hx hb dX9_ahead_73 nc_0 ?_
            cases hf
            exact hJ8 _ _ _ hP hS (lv_sub hl [0, 1, 2, 3] rfl)
          · have hf := iq hc hf
            refine lv_aload_n hx hb dX9_ahead_54 rfl (lv_at hl 0 rfl) ?_
            refine x_get hx hb hts hown hE hP fl_X9_50 (nm0 hN) gM_0_14 dX9_ahead_55 ?_
            refine lv_iload_n hx hb dX9_ahead_58 rfl (lv_at hl 3 rfl) ?_
            obtain ⟨v10, hv, hf⟩ := bs1 hf
            refine x_iald hx hb hE hP (nm14 hN) (aM_14 _) hv dX9_ahead_59 ?_
            refine lv_aload_n hx hb dX9_ahead_60 rfl (lv_at hl 0 rfl) ?_
            refine x_get hx hb hts hown hE hP fl_X9_50 (nm0 hN) gM_0_14 dX9_ahead_61 ?_
            refine lv_iload_n hx hb dX9_ahead_64 rfl (lv_at hl 1 rfl) ?_
            obtain ⟨v11, hv, hf⟩ := bs1 hf
            refine x_iald hx hb hE hP (nm14 hN) (aM_14 _) hv dX9_ahead_65 ?_
            refine lv_icmp_ge (tgt := 73) hx hb dX9_ahead_66 (by decide) (fun hc => ?_) (fun hc => ?_)
            · have hf := ip hc hf
              refine lv_iconst (v := 0) hx hb dX9_ahead_73 nc_0 ?_
              cases hf
              exact hJ8 _ _ _ hP hS (lv_sub hl [0, 1, 2, 3] rfl)
            · have hf := iq hc hf
              refine lv_iconst (v := 1) hx hb dX9_ahead_69 nc_1 ?_
              refine lv_goto (tgt := 74) hx hb dX9_ahead_70 (by decide) ?_
              cases hf
              exact hJ8 _ _ _ hP hS (lv_sub hl [0, 1, 2, 3] rfl)
        · have hf := ip hc hf
          refine lv_aload_n hx hb dX9_ahead_23 rfl (lv_at hl 0 rfl) ?_
          refine x_get hx hb hts hown hE hP fl_X9_50 (nm0 hN) gM_0_14 dX9_ahead_24 ?_
          refine lv_iload_n hx hb dX9_ahead_27 rfl (lv_at hl 3 rfl) ?_
          obtain ⟨v12, hv, hf⟩ := bs1 hf
          refine x_iald hx hb hE hP (nm14 hN) (aM_14 _) hv dX9_ahead_28 ?_
          refine lv_if_gt (tgt := 37) hx hb dX9_ahead_29 (by decide) (fun hc => ?_) (fun hc => ?_)
          · have hf := ip hc hf
            refine lv_iconst (v := 1) hx hb dX9_ahead_37 nc_1 ?_
            refine lv_goto (tgt := 74) hx hb dX9_ahead_38 (by decide) ?_
            cases hf
            exact hJ8 _ _ _ hP hS (lv_sub hl [0, 1, 2, 3] rfl)
          · have hf := iq hc hf
            refine lv_iload_n hx hb dX9_ahead_32 rfl (lv_at hl 3 rfl) ?_
            refine lv_iload_n hx hb dX9_ahead_33 rfl (lv_at hl 1 rfl) ?_
            refine lv_icmp_ge (tgt := 41) hx hb dX9_ahead_34 (by decide) (fun hc => ?_) (fun hc => ?_)
            · have hf := ip hc hf
              refine lv_iconst (v := 0) hx hb dX9_ahead_41 nc_0 ?_
              refine lv_goto (tgt := 74) hx hb dX9_ahead_42 (by decide) ?_
              cases hf
              exact hJ8 _ _ _ hP hS (lv_sub hl [0, 1, 2, 3] rfl)
            · have hf := iq hc hf
              refine lv_iconst (v := 1) hx hb dX9_ahead_37 nc_1 ?_
              refine lv_goto (tgt := 74) hx hb dX9_ahead_38 (by decide) ?_
              cases hf
              exact hJ8 _ _ _ hP hS (lv_sub hl [0, 1, 2, 3] rfl)
  exact hL3 _ _ _ _ _ _ hf hP hS (lv_sub hl [2, 3, 1, 0] rfl)
def fX9_beast (w : Mm) (x1 x2 : Int32) : Option (Int32) :=
  bd1 (fX9_isBeast w x1) fun v1 =>
  if v1 = 0 then
    some (-1)
  else
    if x2 = 0 then
      bd1 (rd w 3 16 x1) fun v3 =>
      some v3
    else
    if x2 = 1 then
      bd1 (rd w 4 16 x1) fun v4 =>
      some v4
    else
    if x2 = 2 then
      bd1 (rd w 5 16 x1) fun v5 =>
      some v5
    else
    if x2 = 3 then
      bd1 (rd w 18 192 (0 + x1)) fun v6 =>
      some v6
    else
    if x2 = 4 then
      bd1 (rd w 18 192 (8 + x1)) fun v7 =>
      some v7
    else
    if x2 = 5 then
      bd1 (fX9_raftOf w x1) fun v8 =>
      some v8
    else
    if x2 = 6 then
      bd1 (fX9_ahead w x1) fun v9 =>
      some v9
    else
    some (-1)
set_option maxHeartbeats 4000000 in
set_option maxRecDepth 100000 in
theorem kX9_beast {l : Launch} {κ : Kp} {N : Nat} {ad : Nat → Nat} {w : Mm} {x1 x2 : Int32} {r : Int32} (hN : 26 ≤ N) (hD : Apt ad N) (hf : fX9_beast w x1 x2 = some r) : Met l yX9_beast (Cond.code yX9_beast cX9_beast 3 (some .int) :: TB) (rmX 2 43) (PcX κ (wM κ) N ad w [.ref (ad 0), .int x1, .int x2]) (QI κ (wM κ) N ad w r) 0 0 (Aof ad N) := by
  refine mkI (by decide +kernel) (Nat.le_of_ble_eq_true rfl) (fun p e R s m args below meth c Q H locs ls hC hRf hRl hP hS hret hl => ?_)
  obtain ⟨hx, hb, hml, hown, hts, hE⟩ := hC
  have hA : ∀ k, k < N → Aof ad N (ad k) := fun k h => Aof_in h
  have hAA : ∀ z, Aof ad N z → Aof ad N z := fun _ h => h
  have hl : lv_has ls 3 [(0, .ref (ad 0)), (1, .int x1), (2, .int x2)] := hl
  unfold fX9_beast at hf
  refine lv_aload_n hx hb dX9_beast_0 rfl (lv_at hl 0 rfl) ?_
  refine lv_iload_n hx hb dX9_beast_1 rfl (lv_at hl 1 rfl) ?_
  obtain ⟨v1, hv, hf⟩ := bs1 hf
  refine x_cVi (As := [.int x1]) (rest := []) hx hb hml hts hown hE hP hS hAA (kX9_isBeast hN hD hv) cl_X9_152 (nm0 hN) oM_0 vc_9 (Nat.le_trans (by decide) hRf) (Nat.le_trans (by decide) hRl) (Nat.zero_le _) (Nat.zero_le _) rfl hl.1 rfl (Nat.le_of_ble_eq_true rfl) dX9_beast_2 (fun H locs hP hS => ?_)
  refine lv_if_ne (tgt := 10) hx hb dX9_beast_5 (by decide) (fun hc => ?_) (fun hc => ?_)
  · have hf := iq hc hf
    refine lv_iload_n hx hb dX9_beast_10 rfl (lv_at hl 2 rfl) ?_
    by_cases hk0 : x2 = 0
    · have hf := ip hk0 hf
      refine lv_tableIn (off := 41) (tgt := 52) hx hb dX9_beast_11 (by rw [hk0]; decide) (by rw [hk0]; decide) (by rw [hk0]; rfl) (by decide) ?_
      refine lv_aload_n hx hb dX9_beast_52 rfl (lv_at hl 0 rfl) ?_
      refine x_get hx hb hts hown hE hP fl_X9_17 (nm0 hN) gM_0_3 dX9_beast_53 ?_
      refine lv_iload_n hx hb dX9_beast_56 rfl (lv_at hl 1 rfl) ?_
      obtain ⟨v3, hv, hf⟩ := bs1 hf
      refine x_iald hx hb hE hP (nm3 hN) (aM_3 _) hv dX9_beast_57 ?_
      cases hf
      exact hret _ _ _ _ dX9_beast_58 hP hS
    · have hf := iq hk0 hf
      by_cases hk1 : x2 = 1
      · have hf := ip hk1 hf
        refine lv_tableIn (off := 48) (tgt := 59) hx hb dX9_beast_11 (by rw [hk1]; decide) (by rw [hk1]; decide) (by rw [hk1]; rfl) (by decide) ?_
        refine lv_aload_n hx hb dX9_beast_59 rfl (lv_at hl 0 rfl) ?_
        refine x_get hx hb hts hown hE hP fl_X9_20 (nm0 hN) gM_0_4 dX9_beast_60 ?_
        refine lv_iload_n hx hb dX9_beast_63 rfl (lv_at hl 1 rfl) ?_
        obtain ⟨v4, hv, hf⟩ := bs1 hf
        refine x_iald hx hb hE hP (nm4 hN) (aM_4 _) hv dX9_beast_64 ?_
        cases hf
        exact hret _ _ _ _ dX9_beast_65 hP hS
      · have hf := iq hk1 hf
        by_cases hk2 : x2 = 2
        · have hf := ip hk2 hf
          refine lv_tableIn (off := 55) (tgt := 66) hx hb dX9_beast_11 (by rw [hk2]; decide) (by rw [hk2]; decide) (by rw [hk2]; rfl) (by decide) ?_
          refine lv_aload_n hx hb dX9_beast_66 rfl (lv_at hl 0 rfl) ?_
          refine x_get hx hb hts hown hE hP fl_X9_23 (nm0 hN) gM_0_5 dX9_beast_67 ?_
          refine lv_iload_n hx hb dX9_beast_70 rfl (lv_at hl 1 rfl) ?_
          obtain ⟨v5, hv, hf⟩ := bs1 hf
          refine x_iald hx hb hE hP (nm5 hN) (aM_5 _) hv dX9_beast_71 ?_
          cases hf
          exact hret _ _ _ _ dX9_beast_72 hP hS
        · have hf := iq hk2 hf
          by_cases hk3 : x2 = 3
          · have hf := ip hk3 hf
            refine lv_tableIn (off := 62) (tgt := 73) hx hb dX9_beast_11 (by rw [hk3]; decide) (by rw [hk3]; decide) (by rw [hk3]; rfl) (by decide) ?_
            refine lv_aload_n hx hb dX9_beast_73 rfl (lv_at hl 0 rfl) ?_
            refine x_get hx hb hts hown hE hP fl_X9_62 (nm0 hN) gM_0_20 dX9_beast_74 ?_
            refine lv_iconst (v := 0) hx hb dX9_beast_77 nc_0 ?_
            refine lv_iload_n hx hb dX9_beast_78 rfl (lv_at hl 1 rfl) ?_
            refine lv_iadd hx hb dX9_beast_79 ?_
            obtain ⟨v6, hv, hf⟩ := bs1 hf
            refine x_iald hx hb hE hP (nm18 hN) (aM_18 _) hv dX9_beast_80 ?_
            cases hf
            exact hret _ _ _ _ dX9_beast_81 hP hS
          · have hf := iq hk3 hf
            by_cases hk4 : x2 = 4
            · have hf := ip hk4 hf
              refine lv_tableIn (off := 71) (tgt := 82) hx hb dX9_beast_11 (by rw [hk4]; decide) (by rw [hk4]; decide) (by rw [hk4]; rfl) (by decide) ?_
              refine lv_aload_n hx hb dX9_beast_82 rfl (lv_at hl 0 rfl) ?_
              refine x_get hx hb hts hown hE hP fl_X9_62 (nm0 hN) gM_0_20 dX9_beast_83 ?_
              refine lv_bipush (v := 8) hx hb dX9_beast_86 nb_8 ?_
              refine lv_iload_n hx hb dX9_beast_88 rfl (lv_at hl 1 rfl) ?_
              refine lv_iadd hx hb dX9_beast_89 ?_
              obtain ⟨v7, hv, hf⟩ := bs1 hf
              refine x_iald hx hb hE hP (nm18 hN) (aM_18 _) hv dX9_beast_90 ?_
              cases hf
              exact hret _ _ _ _ dX9_beast_91 hP hS
            · have hf := iq hk4 hf
              by_cases hk5 : x2 = 5
              · have hf := ip hk5 hf
                refine lv_tableIn (off := 81) (tgt := 92) hx hb dX9_beast_11 (by rw [hk5]; decide) (by rw [hk5]; decide) (by rw [hk5]; rfl) (by decide) ?_
                refine lv_aload_n hx hb dX9_beast_92 rfl (lv_at hl 0 rfl) ?_
                refine lv_iload_n hx hb dX9_beast_93 rfl (lv_at hl 1 rfl) ?_
                obtain ⟨v8, hv, hf⟩ := bs1 hf
                refine x_cVi (As := [.int x1]) (rest := []) hx hb hml hts hown hE hP hS hAA (kX9_raftOf hN hD hv) cl_X9_156 (nm0 hN) oM_0 vc_9 (Nat.le_trans (by decide) hRf) (Nat.le_trans (by decide) hRl) (Nat.zero_le _) (Nat.zero_le _) rfl hl.1 rfl (Nat.le_of_ble_eq_true rfl) dX9_beast_94 (fun H locs hP hS => ?_)
                cases hf
                exact hret _ _ _ _ dX9_beast_97 hP hS
              · have hf := iq hk5 hf
                by_cases hk6 : x2 = 6
                · have hf := ip hk6 hf
                  refine lv_tableIn (off := 87) (tgt := 98) hx hb dX9_beast_11 (by rw [hk6]; decide) (by rw [hk6]; decide) (by rw [hk6]; rfl) (by decide) ?_
                  refine lv_aload_n hx hb dX9_beast_98 rfl (lv_at hl 0 rfl) ?_
                  refine lv_iload_n hx hb dX9_beast_99 rfl (lv_at hl 1 rfl) ?_
                  obtain ⟨v9, hv, hf⟩ := bs1 hf
                  refine x_cVi (As := [.int x1]) (rest := []) hx hb hml hts hown hE hP hS hAA (kX9_ahead hN hD hv) cl_X9_159 (nm0 hN) oM_0 vc_9 (Nat.le_trans (by decide) hRf) (Nat.le_trans (by decide) hRl) (Nat.zero_le _) (Nat.zero_le _) rfl hl.1 rfl (Nat.le_of_ble_eq_true rfl) dX9_beast_100 (fun H locs hP hS => ?_)
                  cases hf
                  exact hret _ _ _ _ dX9_beast_103 hP hS
                · have hf := iq hk6 hf
                  have hD1 : W p l e R s m args below meth c H locs 0 0 Q (F0 m 104 ls []) := by
                    refine lv_iconst (v := (-1)) hx hb dX9_beast_104 nc_m1 ?_
                    cases hf
                    exact hret _ _ _ _ dX9_beast_105 hP hS
                  by_cases ho : (x2).toInt < 0 ∨ 6 < (x2).toInt
                  · exact lv_tableOut (tgt := 104) hx hb dX9_beast_11 ho (by decide) hD1
                  · exfalso
                    have hn0 := lv_neT (a := 0) hk0 (by decide)
                    have hn1 := lv_neT (a := 1) hk1 (by decide)
                    have hn2 := lv_neT (a := 2) hk2 (by decide)
                    have hn3 := lv_neT (a := 3) hk3 (by decide)
                    have hn4 := lv_neT (a := 4) hk4 (by decide)
                    have hn5 := lv_neT (a := 5) hk5 (by decide)
                    have hn6 := lv_neT (a := 6) hk6 (by decide)
                    omega
  · have hf := ip hc hf
    refine lv_iconst (v := (-1)) hx hb dX9_beast_8 nc_m1 ?_
    cases hf
    exact hret _ _ _ _ dX9_beast_9 hP hS
def LX9_currentIn_7 (x1 : Int32) (w : Mm) : Nat → Int32 → Int32 → Int32 → Option (Int32)
  | 0, _, _, _ => none
  | fu + 1, v1, v2, v3 =>
    bd1 (rd w 8 2 0) fun v6 =>
    if v6 ≤ v3 then
      some (v2)
    else
      bd1 (rd w 9 8 v3) fun v7 =>
      bd2 (
        if x1 < v7 then
          some (v1, v2)
        else
          bd1 (rd w 9 8 v3) fun v11 =>
          if v11 < v1 then
            some (v1, v2)
          else
            bd1 (rd w 9 8 v3) fun v12 =>
            bd1 (rd w 10 8 v3) fun v13 =>
            some (v12, v13)) fun (v8 : Int32) (v9 : Int32) =>
      LX9_currentIn_7 x1 w fu v8 v9 (v3 + 1)
def fX9_currentIn (w : Mm) (x1 : Int32) : Option (Int32) :=
  bd1 (LX9_currentIn_7 x1 w 1000 (-1) 0 0) fun (v5 : Int32) =>
  some v5
set_option maxHeartbeats 4000000 in
set_option maxRecDepth 100000 in
theorem kX9_currentIn {l : Launch} {κ : Kp} {N : Nat} {ad : Nat → Nat} {w : Mm} {x1 : Int32} {r : Int32} (hN : 26 ≤ N) (hD : Apt ad N) (hf : fX9_currentIn w x1 = some r) : Met l yX9_currentIn (Cond.code yX9_currentIn cX9_currentIn 5 (some .int) :: TB) (rmX 0 0) (PcX κ (wM κ) N ad w [.ref (ad 0), .int x1]) (QI κ (wM κ) N ad w r) 0 0 (Aof ad N) := by
  refine mkI (by decide +kernel) (Nat.le_of_ble_eq_true rfl) (fun p e R s m args below meth c Q H locs ls hC hRf hRl hP hS hret hl => ?_)
  obtain ⟨hx, hb, hml, hown, hts, hE⟩ := hC
  have hA : ∀ k, k < N → Aof ad N (ad k) := fun k h => Aof_in h
  have hAA : ∀ z, Aof ad N z → Aof ad N z := fun _ h => h
  have hl : lv_has ls 5 [(0, .ref (ad 0)), (1, .int x1)] := hl
  unfold fX9_currentIn at hf
  refine lv_iconst (v := (-1)) hx hb dX9_currentIn_0 nc_m1 ?_
  refine lv_istore_n (lv' := [(2, .int (-1)), (0, .ref (ad 0)), (1, .int x1)]) hx hb dX9_currentIn_1 rfl hl (by decide) rfl (fun ls hl => ?_)
  refine lv_iconst (v := 0) hx hb dX9_currentIn_2 nc_0 ?_
  refine lv_istore_n (lv' := [(3, .int 0), (2, .int (-1)), (0, .ref (ad 0)), (1, .int x1)]) hx hb dX9_currentIn_3 rfl hl (by decide) rfl (fun ls hl => ?_)
  refine lv_iconst (v := 0) hx hb dX9_currentIn_4 nc_0 ?_
  refine lv_istore (lv' := [(4, .int 0), (3, .int 0), (2, .int (-1)), (0, .ref (ad 0)), (1, .int x1)]) hx hb dX9_currentIn_5 hl (by decide) rfl (fun ls hl => ?_)
  obtain ⟨v5, hq4, hf⟩ := bs1 hf
  have hJ4 : ∀ (H : Heap) (locs : List Loc) (ls : Array Slot), Ho κ (wM κ) N ad w H → va_S (Aof ad N) s.heap H locs → lv_has ls 5 [(3, .int v5)] → W p l e R s m args below meth c H locs 0 0 Q (F0 m 62 ls []) := by
    intro H locs ls hP hS hl
    refine lv_iload_n hx hb dX9_currentIn_62 rfl (lv_at hl 0 rfl) ?_
    cases hf
    exact hret _ _ _ _ dX9_currentIn_63 hP hS
  clear hf
  have hf := hq4
  clear hq4
  have hL4 : ∀ (fu : Nat) (v1 : Int32) (v2 : Int32) (v3 : Int32) (H : Heap) (locs : List Loc) (ls : Array Slot), LX9_currentIn_7 x1 w fu v1 v2 v3 = some (v5) → Ho κ (wM κ) N ad w H → va_S (Aof ad N) s.heap H locs → lv_has ls 5 [(0, .ref (ad 0)), (1, .int x1), (2, .int v1), (3, .int v2), (4, .int v3)] → W p l e R s m args below meth c H locs 0 0 Q (F0 m 7 ls []) := by
    intro fu
    induction fu with
    | zero =>
      intro v1 v2 v3 H locs ls hf
      rw [LX9_currentIn_7] at hf
      cases hf
    | succ fu ih =>
      intro v1 v2 v3 H locs ls hf hP hS hl
      rw [LX9_currentIn_7] at hf
      refine lv_iload hx hb dX9_currentIn_7 (lv_at hl 4 rfl) ?_
      refine lv_aload_n hx hb dX9_currentIn_9 rfl (lv_at hl 0 rfl) ?_
      refine x_get hx hb hts hown hE hP fl_X9_32 (nm0 hN) gM_0_8 dX9_currentIn_10 ?_
      refine lv_iconst (v := 0) hx hb dX9_currentIn_13 nc_0 ?_
      obtain ⟨v6, hv, hf⟩ := bs1 hf
      refine x_iald hx hb hE hP (nm8 hN) (aM_8 _) hv dX9_currentIn_14 ?_
      refine lv_icmp_ge (tgt := 62) hx hb dX9_currentIn_15 (by decide) (fun hc => ?_) (fun hc => ?_)
      · have hf := ip hc hf
        cases hf
        exact hJ4 _ _ _ hP hS (lv_sub hl [3] rfl)
      · have hf := iq hc hf
        refine lv_aload_n hx hb dX9_currentIn_18 rfl (lv_at hl 0 rfl) ?_
        refine x_get hx hb hts hown hE hP fl_X9_35 (nm0 hN) gM_0_9 dX9_currentIn_19 ?_
        refine lv_iload hx hb dX9_currentIn_22 (lv_at hl 4 rfl) ?_
        obtain ⟨v7, hv, hf⟩ := bs1 hf
        refine x_iald hx hb hE hP (nm9 hN) (aM_9 _) hv dX9_currentIn_24 ?_
        refine lv_iload_n hx hb dX9_currentIn_25 rfl (lv_at hl 1 rfl) ?_
        obtain ⟨v8, v9, hq10, hf⟩ := bs2 hf
        have hJ10 : ∀ (H : Heap) (locs : List Loc) (ls : Array Slot), Ho κ (wM κ) N ad w H → va_S (Aof ad N) s.heap H locs → lv_has ls 5 [(0, .ref (ad 0)), (1, .int x1), (2, .int v8), (3, .int v9), (4, .int v3)] → W p l e R s m args below meth c H locs 0 0 Q (F0 m 56 ls []) := by
          intro H locs ls hP hS hl
          refine lv_iinc (v := (v3 + 1)) (lv' := [(4, .int (v3 + 1)), (0, .ref (ad 0)), (1, .int x1), (2, .int v8), (3, .int v9)]) hx hb dX9_currentIn_56 hl (k := 4) rfl (ni_1 _) (by decide) rfl (fun ls hl => ?_)
          refine lv_goto (tgt := 7) hx hb dX9_currentIn_59 (by decide) ?_
          exact ih _ _ _ _ _ _ hf hP hS (lv_sub hl [1, 2, 3, 4, 0] rfl)
        clear hf
        have hf := hq10
        clear hq10
        refine lv_icmp_gt (tgt := 56) hx hb dX9_currentIn_26 (by decide) (fun hc => ?_) (fun hc => ?_)
        · have hf := ip hc hf
          cases hf
          exact hJ10 _ _ _ hP hS (lv_sub hl [0, 1, 2, 3, 4] rfl)
        · have hf := iq hc hf
          refine lv_aload_n hx hb dX9_currentIn_29 rfl (lv_at hl 0 rfl) ?_
          refine x_get hx hb hts hown hE hP fl_X9_35 (nm0 hN) gM_0_9 dX9_currentIn_30 ?_
          refine lv_iload hx hb dX9_currentIn_33 (lv_at hl 4 rfl) ?_
          obtain ⟨v11, hv, hf⟩ := bs1 hf
          refine x_iald hx hb hE hP (nm9 hN) (aM_9 _) hv dX9_currentIn_35 ?_
          refine lv_iload_n hx hb dX9_currentIn_36 rfl (lv_at hl 2 rfl) ?_
          refine lv_icmp_lt (tgt := 56) hx hb dX9_currentIn_37 (by decide) (fun hc => ?_) (fun hc => ?_)
          · have hf := ip hc hf
            cases hf
            exact hJ10 _ _ _ hP hS (lv_sub hl [0, 1, 2, 3, 4] rfl)
          · have hf := iq hc hf
            refine lv_aload_n hx hb dX9_currentIn_40 rfl (lv_at hl 0 rfl) ?_
            refine x_get hx hb hts hown hE hP fl_X9_35 (nm0 hN) gM_0_9 dX9_currentIn_41 ?_
            refine lv_iload hx hb dX9_currentIn_44 (lv_at hl 4 rfl) ?_
            obtain ⟨v12, hv, hf⟩ := bs1 hf
            refine x_iald hx hb hE hP (nm9 hN) (aM_9 _) hv dX9_currentIn_46 ?_
            refine lv_istore_n (lv' := [(2, .int v12), (0, .ref (ad 0)), (1, .int x1), (3, .int v2), (4, .int v3)]) hx hb dX9_currentIn_47 rfl hl (by decide) rfl (fun ls hl => ?_)
            refine lv_aload_n hx hb dX9_currentIn_48 rfl (lv_at hl 1 rfl) ?_
            refine x_get hx hb hts hown hE hP fl_X9_38 (nm0 hN) gM_0_10 dX9_currentIn_49 ?_
            refine lv_iload hx hb dX9_currentIn_52 (lv_at hl 4 rfl) ?_
            obtain ⟨v13, hv, hf⟩ := bs1 hf
            refine x_iald hx hb hE hP (nm10 hN) (aM_10 _) hv dX9_currentIn_54 ?_
            refine lv_istore_n (lv' := [(3, .int v13), (2, .int v12), (0, .ref (ad 0)), (1, .int x1), (4, .int v3)]) hx hb dX9_currentIn_55 rfl hl (by decide) rfl (fun ls hl => ?_)
            cases hf
            exact hJ10 _ _ _ hP hS (lv_sub hl [2, 3, 1, 0, 4] rfl)
  exact hL4 _ _ _ _ _ _ _ hf hP hS (lv_sub hl [3, 4, 2, 1, 0] rfl)
def fX9_current (w : Mm) (x1 : Int32) : Option (Int32) :=
  bd1 (fX9_in x1 1 200) fun v1 =>
  if v1 = 0 then
    some (-1)
  else
    bd1 (fX9_currentIn w x1) fun v2 =>
    some v2
set_option maxHeartbeats 4000000 in
set_option maxRecDepth 100000 in
theorem kX9_current {l : Launch} {κ : Kp} {N : Nat} {ad : Nat → Nat} {w : Mm} {x1 : Int32} {r : Int32} (hN : 26 ≤ N) (hD : Apt ad N) (hf : fX9_current w x1 = some r) : Met l yX9_current (Cond.code yX9_current cX9_current 2 (some .int) :: TB) (rmX 1 24) (PcX κ (wM κ) N ad w [.ref (ad 0), .int x1]) (QI κ (wM κ) N ad w r) 0 0 (Aof ad N) := by
  refine mkI (by decide +kernel) (Nat.le_of_ble_eq_true rfl) (fun p e R s m args below meth c Q H locs ls hC hRf hRl hP hS hret hl => ?_)
  obtain ⟨hx, hb, hml, hown, hts, hE⟩ := hC
  have hA : ∀ k, k < N → Aof ad N (ad k) := fun k h => Aof_in h
  have hAA : ∀ z, Aof ad N z → Aof ad N z := fun _ h => h
  have hl : lv_has ls 2 [(0, .ref (ad 0)), (1, .int x1)] := hl
  unfold fX9_current at hf
  refine lv_iload_n hx hb dX9_current_0 rfl (lv_at hl 1 rfl) ?_
  refine lv_iconst (v := 1) hx hb dX9_current_1 nc_1 ?_
  refine lv_sipush (v := 200) hx hb dX9_current_2 ns_200 ?_
  obtain ⟨v1, hv, hf⟩ := bs1 hf
  refine x_cSi (As := [.int x1, .int 1, .int 200]) (rest := []) hx hb hml hts hown hE hP hS hAA (kX9_in hv) cl_X9_93 (Nat.le_trans (by decide) hRf) (Nat.le_trans (by decide) hRl) (Nat.zero_le _) (Nat.zero_le _) rfl hl.1 rfl (Nat.le_of_ble_eq_true rfl) dX9_current_5 (fun H locs hP hS => ?_)
  refine lv_if_eq (tgt := 19) hx hb dX9_current_8 (by decide) (fun hc => ?_) (fun hc => ?_)
  · have hf := ip hc hf
    refine lv_iconst (v := (-1)) hx hb dX9_current_19 nc_m1 ?_
    cases hf
    exact hret _ _ _ _ dX9_current_20 hP hS
  · have hf := iq hc hf
    refine lv_aload_n hx hb dX9_current_11 rfl (lv_at hl 0 rfl) ?_
    refine lv_iload_n hx hb dX9_current_12 rfl (lv_at hl 1 rfl) ?_
    obtain ⟨v2, hv, hf⟩ := bs1 hf
    refine x_cVi (As := [.int x1]) (rest := []) hx hb hml hts hown hE hP hS hAA (kX9_currentIn hN hD hv) cl_X9_162 (nm0 hN) oM_0 vc_9 (Nat.le_trans (by decide) hRf) (Nat.le_trans (by decide) hRl) (Nat.zero_le _) (Nat.zero_le _) rfl hl.1 rfl (Nat.le_of_ble_eq_true rfl) dX9_current_13 (fun H locs hP hS => ?_)
    refine lv_goto (tgt := 20) hx hb dX9_current_16 (by decide) ?_
    cases hf
    exact hret _ _ _ _ dX9_current_20 hP hS
