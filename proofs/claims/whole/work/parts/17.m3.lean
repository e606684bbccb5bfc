def fX9_rankTried (w : Mm) (x1 : Int32) : Option (Int32 × Mm) :=
  bd1 (fX9_plain w) fun w1 =>
  bd1 (fX9_cross w1 176 200) fun w2 =>
  bd1 (fX9_rankOf w2 176 x1) fun v3 =>
  some (v3, w2)
set_option maxHeartbeats 4000000 in
set_option maxRecDepth 100000 in
theorem kX9_rankTried {l : Launch} {κ : Kp} {N : Nat} {ad : Nat → Nat} {w : Mm} {x1 : Int32} {r : Int32} {w' : Mm} (hN : 26 ≤ N) (hD : Apt ad N) (hf : fX9_rankTried w x1 = some (r, w')) : Met l yX9_rankTried (Cond.code yX9_rankTried cX9_rankTried 2 (some .int) :: TB) (rmX 3 75) (PcX κ (wM κ) N ad w [.ref (ad 0), .int x1]) (QI κ (wM κ) N ad w' r) 0 0 (Aof ad N) := by
  refine mkI (by decide +kernel) (Nat.le_of_ble_eq_true rfl) (fun p e R s m args below meth c Q H locs ls hC hRf hRl hP hS hret hl => ?_)
  obtain ⟨hx, hb, hml, hown, hts, hE⟩ := hC
  have hA : ∀ k, k < N → Aof ad N (ad k) := fun k h => Aof_in h
  have hAA : ∀ z, Aof ad N z → Aof ad N z := fun _ h => h
  have hl : lv_has ls 2 [(0, .ref (ad 0)), (1, .int x1)] := hl
  unfold fX9_rankTried at hf
  refine lv_aload_n hx hb dX9_rankTried_0 rfl (lv_at hl 0 rfl) ?_
  obtain ⟨w1, hv, hf⟩ := bs1 hf
  refine x_cVv (As := []) (rest := []) hx hb hml hts hown hE hP hS hAA (kX9_plain hN hD hv) cl_X9_196 (nm0 hN) oM_0 vc_9 (Nat.le_trans (by decide) hRf) (Nat.le_trans (by decide) hRl) (Nat.zero_le _) (Nat.zero_le _) rfl hl.1 rfl (Nat.le_of_ble_eq_true rfl) dX9_rankTried_1 (fun H locs hP hS => ?_)
  refine lv_aload_n hx hb dX9_rankTried_4 rfl (lv_at hl 0 rfl) ?_
  refine lv_sipush (v := 176) hx hb dX9_rankTried_5 ns_176 ?_
  refine lv_sipush (v := 200) hx hb dX9_rankTried_8 ns_200 ?_
  obtain ⟨w2, hv, hf⟩ := bs1 hf
  refine x_cVv (As := [.int 176, .int 200]) (rest := []) hx hb hml hts hown hE hP hS hAA (kX9_cross hN hD hv) cl_X9_199 (nm0 hN) oM_0 vc_9 (Nat.le_trans (by decide) hRf) (Nat.le_trans (by decide) hRl) (Nat.zero_le _) (Nat.zero_le _) rfl hl.1 rfl (Nat.le_of_ble_eq_true rfl) dX9_rankTried_11 (fun H locs hP hS => ?_)
  refine lv_aload_n hx hb dX9_rankTried_14 rfl (lv_at hl 0 rfl) ?_
  refine lv_sipush (v := 176) hx hb dX9_rankTried_15 ns_176 ?_
  refine lv_iload_n hx hb dX9_rankTried_18 rfl (lv_at hl 1 rfl) ?_
  obtain ⟨v3, hv, hf⟩ := bs1 hf
  refine x_cVi (As := [.int 176, .int x1]) (rest := []) hx hb hml hts hown hE hP hS hAA (kX9_rankOf hN hD hv) cl_X9_213 (nm0 hN) oM_0 vc_9 (Nat.le_trans (by decide) hRf) (Nat.le_trans (by decide) hRl) (Nat.zero_le _) (Nat.zero_le _) rfl hl.1 rfl (Nat.le_of_ble_eq_true rfl) dX9_rankTried_19 (fun H locs hP hS => ?_)
  cases hf
  exact hret _ _ _ _ dX9_rankTried_22 hP hS
def LX9_late_27 (x1 : Int32) (v3 : Int32) : Nat → Int32 → Mm → Option (Int32 × Mm)
  | 0, _, _ => none
  | fu + 1, v5, w6 =>
    if v5 < 0 then
      some ((-4), w6)
    else
      bd1 (wr w6 18 192 (176 + x1) v5) fun w8 =>
      bd2 (fX9_rankTried w8 x1) fun v9 w10 =>
      if v3 < v9 then
        LX9_late_27 x1 v3 fu (v5 - 1) w10
      else
        some (v5, w10)
def fX9_late (w : Mm) (x1 : Int32) : Option (Int32 × Mm) :=
  bd1 (fX9_isBeast w x1) fun v1 =>
  if v1 = 0 then
    some ((-1), w)
  else
    bd1 (fX9_copy w 0 176) fun w2 =>
    bd2 (fX9_rankTried w2 x1) fun v3 w4 =>
    LX9_late_27 x1 v3 1000 30 w4
set_option maxHeartbeats 4000000 in
set_option maxRecDepth 100000 in
theorem kX9_late {l : Launch} {κ : Kp} {N : Nat} {ad : Nat → Nat} {w : Mm} {x1 : Int32} {r : Int32} {w' : Mm} (hN : 26 ≤ N) (hD : Apt ad N) (hf : fX9_late w x1 = some (r, w')) : Met l yX9_late (Cond.code yX9_late cX9_late 4 (some .int) :: TB) (rmX 4 96) (PcX κ (wM κ) N ad w [.ref (ad 0), .int x1]) (QI κ (wM κ) N ad w' r) 0 0 (Aof ad N) := by
  refine mkI (by decide +kernel) (Nat.le_of_ble_eq_true rfl) (fun p e R s m args below meth c Q H locs ls hC hRf hRl hP hS hret hl => ?_)
  obtain ⟨hx, hb, hml, hown, hts, hE⟩ := hC
  have hA : ∀ k, k < N → Aof ad N (ad k) := fun k h => Aof_in h
  have hAA : ∀ z, Aof ad N z → Aof ad N z := fun _ h => h
  have hl : lv_has ls 4 [(0, .ref (ad 0)), (1, .int x1)] := hl
  unfold fX9_late at hf
  refine lv_aload_n hx hb dX9_late_0 rfl (lv_at hl 0 rfl) ?_
  refine lv_iload_n hx hb dX9_late_1 rfl (lv_at hl 1 rfl) ?_
  obtain ⟨v1, hv, hf⟩ := bs1 hf
  refine x_cVi (As := [.int x1]) (rest := []) hx hb hml hts hown hE hP hS hAA (kX9_isBeast hN hD hv) cl_X9_152 (nm0 hN) oM_0 vc_9 (Nat.le_trans (by decide) hRf) (Nat.le_trans (by decide) hRl) (Nat.zero_le _) (Nat.zero_le _) rfl hl.1 rfl (Nat.le_of_ble_eq_true rfl) dX9_late_2 (fun H locs hP hS => ?_)
  refine lv_if_ne (tgt := 10) hx hb dX9_late_5 (by decide) (fun hc => ?_) (fun hc => ?_)
  · have hf := iq hc hf
    refine lv_aload_n hx hb dX9_late_10 rfl (lv_at hl 0 rfl) ?_
    refine lv_iconst (v := 0) hx hb dX9_late_11 nc_0 ?_
    refine lv_sipush (v := 176) hx hb dX9_late_12 ns_176 ?_
    obtain ⟨w2, hv, hf⟩ := bs1 hf
    refine x_cVv (As := [.int 0, .int 176]) (rest := []) hx hb hml hts hown hE hP hS hAA (kX9_copy hN hD hv) cl_X9_220 (nm0 hN) oM_0 vc_9 (Nat.le_trans (by decide) hRf) (Nat.le_trans (by decide) hRl) (Nat.zero_le _) (Nat.zero_le _) rfl hl.1 rfl (Nat.le_of_ble_eq_true rfl) dX9_late_15 (fun H locs hP hS => ?_)
    refine lv_aload_n hx hb dX9_late_18 rfl (lv_at hl 0 rfl) ?_
    refine lv_iload_n hx hb dX9_late_19 rfl (lv_at hl 1 rfl) ?_
    obtain ⟨v3, w4, hv, hf⟩ := bs2 hf
    refine x_cVi (As := [.int x1]) (rest := []) hx hb hml hts hown hE hP hS hAA (kX9_rankTried hN hD hv) cl_X9_229 (nm0 hN) oM_0 vc_9 (Nat.le_trans (by decide) hRf) (Nat.le_trans (by decide) hRl) (Nat.zero_le _) (Nat.zero_le _) rfl hl.1 rfl (Nat.le_of_ble_eq_true rfl) dX9_late_20 (fun H locs hP hS => ?_)
    refine lv_istore_n (lv' := [(2, .int v3), (0, .ref (ad 0)), (1, .int x1)]) hx hb dX9_late_23 rfl hl (by decide) rfl (fun ls hl => ?_)
    refine lv_bipush (v := 30) hx hb dX9_late_24 nb_30 ?_
    refine lv_istore_n (lv' := [(3, .int 30), (2, .int v3), (0, .ref (ad 0)), (1, .int x1)]) hx hb dX9_late_26 rfl hl (by decide) rfl (fun ls hl => ?_)
    have hL7 : ∀ (fu : Nat) (v5 : Int32) (w6 : Mm) (H : Heap) (locs : List Loc) (ls : Array Slot), LX9_late_27 x1 v3 fu v5 w6 = some (r, w') → Ho κ (wM κ) N ad w6 H → va_S (Aof ad N) s.heap H locs → lv_has ls 4 [(0, .ref (ad 0)), (1, .int x1), (2, .int v3), (3, .int v5)] → W p l e R s m args below meth c H locs 0 0 Q (F0 m 27 ls []) := by
      intro fu
      induction fu with
      | zero =>
        intro v5 w6 H locs ls hf
        rw [LX9_late_27] at hf
        cases hf
      | succ fu ih =>
        intro v5 w6 H locs ls hf hP hS hl
        rw [LX9_late_27] at hf
        refine lv_iload_n hx hb dX9_late_27 rfl (lv_at hl 3 rfl) ?_
        refine lv_if_lt (tgt := 59) hx hb dX9_late_28 (by decide) (fun hc => ?_) (fun hc => ?_)
        · have hf := ip hc hf
          refine lv_bipush (v := (-4)) hx hb dX9_late_59 nb_m4 ?_
          cases hf
          exact hret _ _ _ _ dX9_late_61 hP hS
        · have hf := iq hc hf
          refine lv_aload_n hx hb dX9_late_31 rfl (lv_at hl 0 rfl) ?_
          refine x_get hx hb hts hown hE hP fl_X9_62 (nm0 hN) gM_0_20 dX9_late_32 ?_
          refine lv_sipush (v := 176) hx hb dX9_late_35 ns_176 ?_
          refine lv_iload_n hx hb dX9_late_38 rfl (lv_at hl 1 rfl) ?_
          refine lv_iadd hx hb dX9_late_39 ?_
          refine lv_iload_n hx hb dX9_late_40 rfl (lv_at hl 3 rfl) ?_
          obtain ⟨w8, hv, hf⟩ := bs1 hf
          refine x_iast hx hb hE hD hA hP hS (nm18 hN) aM_18 hv dX9_late_41 (fun H locs hP hS => ?_)
          refine lv_aload_n hx hb dX9_late_42 rfl (lv_at hl 0 rfl) ?_
          refine lv_iload_n hx hb dX9_late_43 rfl (lv_at hl 1 rfl) ?_
          obtain ⟨v9, w10, hv, hf⟩ := bs2 hf
          refine x_cVi (As := [.int x1]) (rest := []) hx hb hml hts hown hE hP hS hAA (kX9_rankTried hN hD hv) cl_X9_229 (nm0 hN) oM_0 vc_9 (Nat.le_trans (by decide) hRf) (Nat.le_trans (by decide) hRl) (Nat.zero_le _) (Nat.zero_le _) rfl hl.1 rfl (Nat.le_of_ble_eq_true rfl) dX9_late_44 (fun H locs hP hS => ?_)
          refine lv_iload_n hx hb dX9_late_47 rfl (lv_at hl 2 rfl) ?_
          refine lv_icmp_gt (tgt := 53) hx hb dX9_late_48 (by decide) (fun hc => ?_) (fun hc => ?_)
          · have hf := ip hc hf
            refine lv_iinc (v := (v5 - 1)) (lv' := [(3, .int (v5 - 1)), (0, .ref (ad 0)), (1, .int x1), (2, .int v3)]) hx hb dX9_late_53 hl (k := 3) rfl (ni_m1 _) (by decide) rfl (fun ls hl => ?_)
            refine lv_goto (tgt := 27) hx hb dX9_late_56 (by decide) ?_
            exact ih _ _ _ _ _ hf hP hS (lv_sub hl [1, 2, 3, 0] rfl)
          · have hf := iq hc hf
            refine lv_iload_n hx hb dX9_late_51 rfl (lv_at hl 3 rfl) ?_
            cases hf
            exact hret _ _ _ _ dX9_late_52 hP hS
    exact hL7 _ _ _ _ _ _ hf hP hS (lv_sub hl [2, 3, 1, 0] rfl)
  · have hf := ip hc hf
    refine lv_iconst (v := (-1)) hx hb dX9_late_8 nc_m1 ?_
    cases hf
    exact hret _ _ _ _ dX9_late_9 hP hS
def LX9_back_73 (x1 : Int32) : Nat → Int32 → Int32 → Int32 → Mm → Option (Mm × Int32 × Int32)
  | 0, _, _, _, _ => none
  | fu + 1, v9, v10, v11, w12 =>
    bd1 (rd w12 2 2 0) fun v17 =>
    if v17 ≤ v11 then
      some (w12, v9, v10)
    else
      bd3 (
        if v11 = x1 then
          some (w12, v9, v10)
        else
          bd1 (rd w12 18 192 (8 + v11)) fun v22 =>
          if v22 = (-4) then
            bd1 (wr w12 18 192 (184 + x1) v11) fun w23 =>
            bd2 (fX9_rankTried w23 x1) fun v24 w25 =>
            bd1 (
              if v9 ≤ v24 then
                some (v10)
              else
                some (v11)) fun (v26 : Int32) =>
            bd1 (
              if v9 ≤ v24 then
                some (v9)
              else
                some (v24)) fun (v28 : Int32) =>
            some (w25, v28, v26)
          else
            some (w12, v9, v10)) fun (w18 : Mm) (v19 : Int32) (v20 : Int32) =>
      LX9_back_73 x1 fu v19 v20 (v11 + 1) w18
def fX9_back (w : Mm) (x1 x2 : Int32) : Option (Int32 × Mm) :=
  bd1 (fX9_isBeast w x1) fun v1 =>
  if v1 = 0 then
    some ((-1), w)
  else
    bd1 (fX9_in x2 0 1) fun v2 =>
    if v2 = 0 then
      some ((-1), w)
    else
      bd1 (fX9_hasRider w x1) fun v3 =>
      if v3 = 0 then
        bd1 (fX9_raftOf w x1) fun v4 =>
        if v4 = (-4) then
          bd1 (fX9_copy w 0 176) fun w5 =>
          bd1 (wr w5 18 192 (184 + x1) (-4)) fun w6 =>
          bd2 (fX9_rankTried w6 x1) fun v7 w8 =>
          bd3 (LX9_back_73 x1 1000 v7 (-4) 0 w8) fun (w14 : Mm) (v15 : Int32) (v16 : Int32) =>
          if x2 = 0 then
            some (v16, w14)
          else
            some (v15, w14)
        else
          some ((-2), w)
      else
        some ((-2), w)
set_option maxHeartbeats 4000000 in
set_option maxRecDepth 100000 in
theorem kX9_back {l : Launch} {κ : Kp} {N : Nat} {ad : Nat → Nat} {w : Mm} {x1 x2 : Int32} {r : Int32} {w' : Mm} (hN : 26 ≤ N) (hD : Apt ad N) (hf : fX9_back w x1 x2 = some (r, w')) : Met l yX9_back (Cond.code yX9_back cX9_back 7 (some .int) :: TB) (rmX 4 96) (PcX κ (wM κ) N ad w [.ref (ad 0), .int x1, .int x2]) (QI κ (wM κ) N ad w' r) 0 0 (Aof ad N) := by
  refine mkI (by decide +kernel) (Nat.le_of_ble_eq_true rfl) (fun p e R s m args below meth c Q H locs ls hC hRf hRl hP hS hret hl => ?_)
  obtain ⟨hx, hb, hml, hown, hts, hE⟩ := hC
  have hA : ∀ k, k < N → Aof ad N (ad k) := fun k h => Aof_in h
  have hAA : ∀ z, Aof ad N z → Aof ad N z := fun _ h => h
  have hl : lv_has ls 7 [(0, .ref (ad 0)), (1, .int x1), (2, .int x2)] := hl
  unfold fX9_back at hf
  refine lv_aload_n hx hb dX9_back_0 rfl (lv_at hl 0 rfl) ?_
  refine lv_iload_n hx hb dX9_back_1 rfl (lv_at hl 1 rfl) ?_
  obtain ⟨v1, hv, hf⟩ := bs1 hf
  refine x_cVi (As := [.int x1]) (rest := []) hx hb hml hts hown hE hP hS hAA (kX9_isBeast hN hD hv) cl_X9_152 (nm0 hN) oM_0 vc_9 (Nat.le_trans (by decide) hRf) (Nat.le_trans (by decide) hRl) (Nat.zero_le _) (Nat.zero_le _) rfl hl.1 rfl (Nat.le_of_ble_eq_true rfl) dX9_back_2 (fun H locs hP hS => ?_)
  refine lv_if_eq (tgt := 17) hx hb dX9_back_5 (by decide) (fun hc => ?_) (fun hc => ?_)
  · have hf := ip hc hf
    refine lv_iconst (v := (-1)) hx hb dX9_back_17 nc_m1 ?_
    cases hf
    exact hret _ _ _ _ dX9_back_18 hP hS
  · have hf := iq hc hf
    refine lv_iload_n hx hb dX9_back_8 rfl (lv_at hl 2 rfl) ?_
    refine lv_iconst (v := 0) hx hb dX9_back_9 nc_0 ?_
    refine lv_iconst (v := 1) hx hb dX9_back_10 nc_1 ?_
    obtain ⟨v2, hv, hf⟩ := bs1 hf
    refine x_cSi (As := [.int x2, .int 0, .int 1]) (rest := []) hx hb hml hts hown hE hP hS hAA (kX9_in hv) cl_X9_93 (Nat.le_trans (by decide) hRf) (Nat.le_trans (by decide) hRl) (Nat.zero_le _) (Nat.zero_le _) rfl hl.1 rfl (Nat.le_of_ble_eq_true rfl) dX9_back_11 (fun H locs hP hS => ?_)
    refine lv_if_ne (tgt := 19) hx hb dX9_back_14 (by decide) (fun hc => ?_) (fun hc => ?_)
    · have hf := iq hc hf
      refine lv_aload_n hx hb dX9_back_19 rfl (lv_at hl 0 rfl) ?_
      refine lv_iload_n hx hb dX9_back_20 rfl (lv_at hl 1 rfl) ?_
      obtain ⟨v3, hv, hf⟩ := bs1 hf
      refine x_cVi (As := [.int x1]) (rest := []) hx hb hml hts hown hE hP hS hAA (kX9_hasRider hN hD hv) cl_X9_226 (nm0 hN) oM_0 vc_9 (Nat.le_trans (by decide) hRf) (Nat.le_trans (by decide) hRl) (Nat.zero_le _) (Nat.zero_le _) rfl hl.1 rfl (Nat.le_of_ble_eq_true rfl) dX9_back_21 (fun H locs hP hS => ?_)
      refine lv_if_ne (tgt := 37) hx hb dX9_back_24 (by decide) (fun hc => ?_) (fun hc => ?_)
      · have hf := iq hc hf
        refine lv_bipush (v := (-2)) hx hb dX9_back_37 nb_m2 ?_
        cases hf
        exact hret _ _ _ _ dX9_back_39 hP hS
      · have hf := ip hc hf
        refine lv_aload_n hx hb dX9_back_27 rfl (lv_at hl 0 rfl) ?_
        refine lv_iload_n hx hb dX9_back_28 rfl (lv_at hl 1 rfl) ?_
        obtain ⟨v4, hv, hf⟩ := bs1 hf
        refine x_cVi (As := [.int x1]) (rest := []) hx hb hml hts hown hE hP hS hAA (kX9_raftOf hN hD hv) cl_X9_156 (nm0 hN) oM_0 vc_9 (Nat.le_trans (by decide) hRf) (Nat.le_trans (by decide) hRl) (Nat.zero_le _) (Nat.zero_le _) rfl hl.1 rfl (Nat.le_of_ble_eq_true rfl) dX9_back_29 (fun H locs hP hS => ?_)
        refine lv_bipush (v := (-4)) hx hb dX9_back_32 nb_m4 ?_
        refine lv_icmp_eq (tgt := 40) hx hb dX9_back_34 (by decide) (fun hc => ?_) (fun hc => ?_)
        · have hf := ip hc hf
          refine lv_aload_n hx hb dX9_back_40 rfl (lv_at hl 0 rfl) ?_
          refine lv_iconst (v := 0) hx hb dX9_back_41 nc_0 ?_
          refine lv_sipush (v := 176) hx hb dX9_back_42 ns_176 ?_
          obtain ⟨w5, hv, hf⟩ := bs1 hf
          refine x_cVv (As := [.int 0, .int 176]) (rest := []) hx hb hml hts hown hE hP hS hAA (kX9_copy hN hD hv) cl_X9_220 (nm0 hN) oM_0 vc_9 (Nat.le_trans (by decide) hRf) (Nat.le_trans (by decide) hRl) (Nat.zero_le _) (Nat.zero_le _) rfl hl.1 rfl (Nat.le_of_ble_eq_true rfl) dX9_back_45 (fun H locs hP hS => ?_)
          refine lv_aload_n hx hb dX9_back_48 rfl (lv_at hl 0 rfl) ?_
          refine x_get hx hb hts hown hE hP fl_X9_62 (nm0 hN) gM_0_20 dX9_back_49 ?_
          refine lv_sipush (v := 184) hx hb dX9_back_52 ns_184 ?_
          refine lv_iload_n hx hb dX9_back_55 rfl (lv_at hl 1 rfl) ?_
          refine lv_iadd hx hb dX9_back_56 ?_
          refine lv_bipush (v := (-4)) hx hb dX9_back_57 nb_m4 ?_
          obtain ⟨w6, hv, hf⟩ := bs1 hf
          refine x_iast hx hb hE hD hA hP hS (nm18 hN) aM_18 hv dX9_back_59 (fun H locs hP hS => ?_)
          refine lv_aload_n hx hb dX9_back_60 rfl (lv_at hl 0 rfl) ?_
          refine lv_iload_n hx hb dX9_back_61 rfl (lv_at hl 1 rfl) ?_
          obtain ⟨v7, w8, hv, hf⟩ := bs2 hf
          refine x_cVi (As := [.int x1]) (rest := []) hx hb hml hts hown hE hP hS hAA (kX9_rankTried hN hD hv) cl_X9_229 (nm0 hN) oM_0 vc_9 (Nat.le_trans (by decide) hRf) (Nat.le_trans (by decide) hRl) (Nat.zero_le _) (Nat.zero_le _) rfl hl.1 rfl (Nat.le_of_ble_eq_true rfl) dX9_back_62 (fun H locs hP hS => ?_)
          refine lv_istore_n (lv' := [(3, .int v7), (0, .ref (ad 0)), (1, .int x1), (2, .int x2)]) hx hb dX9_back_65 rfl hl (by decide) rfl (fun ls hl => ?_)
          refine lv_bipush (v := (-4)) hx hb dX9_back_66 nb_m4 ?_
          refine lv_istore (lv' := [(4, .int (-4)), (3, .int v7), (0, .ref (ad 0)), (1, .int x1), (2, .int x2)]) hx hb dX9_back_68 hl (by decide) rfl (fun ls hl => ?_)
          refine lv_iconst (v := 0) hx hb dX9_back_70 nc_0 ?_
          refine lv_istore (lv' := [(5, .int 0), (4, .int (-4)), (3, .int v7), (0, .ref (ad 0)), (1, .int x1), (2, .int x2)]) hx hb dX9_back_71 hl (by decide) rfl (fun ls hl => ?_)
          obtain ⟨w14, v15, v16, hq13, hf⟩ := bs3 hf
          have hJ13 : ∀ (H : Heap) (locs : List Loc) (ls : Array Slot), Ho κ (wM κ) N ad w14 H → va_S (Aof ad N) s.heap H locs → lv_has ls 7 [(2, .int x2), (3, .int v15), (4, .int v16)] → W p l e R s m args below meth c H locs 0 0 Q (F0 m 158 ls []) := by
            intro H locs ls hP hS hl
            refine lv_iload_n hx hb dX9_back_158 rfl (lv_at hl 0 rfl) ?_
            refine lv_if_ne (tgt := 167) hx hb dX9_back_159 (by decide) (fun hc => ?_) (fun hc => ?_)
            · have hf := iq hc hf
              refine lv_iload_n hx hb dX9_back_167 rfl (lv_at hl 1 rfl) ?_
              cases hf
              exact hret _ _ _ _ dX9_back_168 hP hS
            · have hf := ip hc hf
              refine lv_iload hx hb dX9_back_162 (lv_at hl 2 rfl) ?_
              refine lv_goto (tgt := 168) hx hb dX9_back_164 (by decide) ?_
              cases hf
              exact hret _ _ _ _ dX9_back_168 hP hS
          clear hf
          have hf := hq13
          clear hq13
          have hL13 : ∀ (fu : Nat) (v9 : Int32) (v10 : Int32) (v11 : Int32) (w12 : Mm) (H : Heap) (locs : List Loc) (ls : Array Slot), LX9_back_73 x1 fu v9 v10 v11 w12 = some (w14, v15, v16) → Ho κ (wM κ) N ad w12 H → va_S (Aof ad N) s.heap H locs → lv_has ls 7 [(0, .ref (ad 0)), (1, .int x1), (2, .int x2), (3, .int v9), (4, .int v10), (5, .int v11)] → W p l e R s m args below meth c H locs 0 0 Q (F0 m 73 ls []) := by
            intro fu
            induction fu with
            | zero =>
              intro v9 v10 v11 w12 H locs ls hf
              rw [LX9_back_73] at hf
              cases hf
            | succ fu ih =>
              intro v9 v10 v11 w12 H locs ls hf hP hS hl
              rw [LX9_back_73] at hf
              refine lv_iload hx hb dX9_back_73 (lv_at hl 5 rfl) ?_
              refine lv_aload_n hx hb dX9_back_75 rfl (lv_at hl 0 rfl) ?_
              refine x_get hx hb hts hown hE hP fl_X9_13 (nm0 hN) gM_0_2 dX9_back_76 ?_
              refine lv_iconst (v := 0) hx hb dX9_back_79 nc_0 ?_
              obtain ⟨v17, hv, hf⟩ := bs1 hf
              refine x_iald hx hb hE hP (nm2 hN) (aM_2 _) hv dX9_back_80 ?_
              refine lv_icmp_ge (tgt := 158) hx hb dX9_back_81 (by decide) (fun hc => ?_) (fun hc => ?_)
              · have hf := ip hc hf
                cases hf
                exact hJ13 _ _ _ hP hS (lv_sub hl [2, 3, 4] rfl)
              · have hf := iq hc hf
                refine lv_iload hx hb dX9_back_84 (lv_at hl 5 rfl) ?_
                refine lv_iload_n hx hb dX9_back_86 rfl (lv_at hl 1 rfl) ?_
                obtain ⟨w18, v19, v20, hq21, hf⟩ := bs3 hf
                have hJ21 : ∀ (H : Heap) (locs : List Loc) (ls : Array Slot), Ho κ (wM κ) N ad w18 H → va_S (Aof ad N) s.heap H locs → lv_has ls 7 [(0, .ref (ad 0)), (1, .int x1), (2, .int x2), (3, .int v19), (4, .int v20), (5, .int v11)] → W p l e R s m args below meth c H locs 0 0 Q (F0 m 152 ls []) := by
                  intro H locs ls hP hS hl
                  refine lv_iinc (v := (v11 + 1)) (lv' := [(5, .int (v11 + 1)), (0, .ref (ad 0)), (1, .int x1), (2, .int x2), (3, .int v19), (4, .int v20)]) hx hb dX9_back_152 hl (k := 5) rfl (ni_1 _) (by decide) rfl (fun ls hl => ?_)
                  refine lv_goto (tgt := 73) hx hb dX9_back_155 (by decide) ?_
                  exact ih _ _ _ _ _ _ _ hf hP hS (lv_sub hl [1, 2, 3, 4, 5, 0] rfl)
                clear hf
                have hf := hq21
                clear hq21
                refine lv_icmp_eq (tgt := 152) hx hb dX9_back_87 (by decide) (fun hc => ?_) (fun hc => ?_)
                · have hf := ip hc hf
                  cases hf
                  exact hJ21 _ _ _ hP hS (lv_sub hl [0, 1, 2, 3, 4, 5] rfl)
                · have hf := iq hc hf
                  refine lv_aload_n hx hb dX9_back_90 rfl (lv_at hl 0 rfl) ?_
                  refine x_get hx hb hts hown hE hP fl_X9_62 (nm0 hN) gM_0_20 dX9_back_91 ?_
                  refine lv_bipush (v := 8) hx hb dX9_back_94 nb_8 ?_
                  refine lv_iload hx hb dX9_back_96 (lv_at hl 5 rfl) ?_
                  refine lv_iadd hx hb dX9_back_98 ?_
                  obtain ⟨v22, hv, hf⟩ := bs1 hf
                  refine x_iald hx hb hE hP (nm18 hN) (aM_18 _) hv dX9_back_99 ?_
                  refine lv_bipush (v := (-4)) hx hb dX9_back_100 nb_m4 ?_
                  refine lv_icmp_ne (tgt := 152) hx hb dX9_back_102 (by decide) (fun hc => ?_) (fun hc => ?_)
                  · have hf := iq hc hf
                    cases hf
                    exact hJ21 _ _ _ hP hS (lv_sub hl [0, 1, 2, 3, 4, 5] rfl)
                  · have hf := ip hc hf
                    refine lv_aload_n hx hb dX9_back_105 rfl (lv_at hl 0 rfl) ?_
                    refine x_get hx hb hts hown hE hP fl_X9_62 (nm0 hN) gM_0_20 dX9_back_106 ?_
                    refine lv_sipush (v := 184) hx hb dX9_back_109 ns_184 ?_
                    refine lv_iload_n hx hb dX9_back_112 rfl (lv_at hl 1 rfl) ?_
                    refine lv_iadd hx hb dX9_back_113 ?_
                    refine lv_iload hx hb dX9_back_114 (lv_at hl 5 rfl) ?_
                    obtain ⟨w23, hv, hf⟩ := bs1 hf
                    refine x_iast hx hb hE hD hA hP hS (nm18 hN) aM_18 hv dX9_back_116 (fun H locs hP hS => ?_)
                    refine lv_aload_n hx hb dX9_back_117 rfl (lv_at hl 0 rfl) ?_
                    refine lv_iload_n hx hb dX9_back_118 rfl (lv_at hl 1 rfl) ?_
                    obtain ⟨v24, w25, hv, hf⟩ := bs2 hf
                    refine x_cVi (As := [.int x1]) (rest := []) hx hb hml hts hown hE hP hS hAA (kX9_rankTried hN hD hv) cl_X9_229 (nm0 hN) oM_0 vc_9 (Nat.le_trans (by decide) hRf) (Nat.le_trans (by decide) hRl) (Nat.zero_le _) (Nat.zero_le _) rfl hl.1 rfl (Nat.le_of_ble_eq_true rfl) dX9_back_119 (fun H locs hP hS => ?_)
                    refine lv_istore (lv' := [(6, .int v24), (0, .ref (ad 0)), (1, .int x1), (2, .int x2), (3, .int v9), (4, .int v10), (5, .int v11)]) hx hb dX9_back_122 hl (by decide) rfl (fun ls hl => ?_)
                    refine lv_iload hx hb dX9_back_124 (lv_at hl 0 rfl) ?_
                    refine lv_iload_n hx hb dX9_back_126 rfl (lv_at hl 4 rfl) ?_
                    obtain ⟨v26, hq27, hf⟩ := bs1 hf
                    have hJ27 : ∀ (H : Heap) (locs : List Loc) (ls : Array Slot), Ho κ (wM κ) N ad w25 H → va_S (Aof ad N) s.heap H locs → lv_has ls 7 [(0, .ref (ad 0)), (1, .int x1), (2, .int x2), (3, .int v9), (5, .int v11), (6, .int v24)] → W p l e R s m args below meth c H locs 0 0 Q (F0 m 137 ls [.int v26]) := by
                      intro H locs ls hP hS hl
                      refine lv_istore (lv' := [(4, .int v26), (0, .ref (ad 0)), (1, .int x1), (2, .int x2), (3, .int v9), (5, .int v11), (6, .int v24)]) hx hb dX9_back_137 hl (by decide) rfl (fun ls hl => ?_)
                      refine lv_iload hx hb dX9_back_139 (lv_at hl 6 rfl) ?_
                      refine lv_iload_n hx hb dX9_back_141 rfl (lv_at hl 4 rfl) ?_
                      obtain ⟨v28, hq29, hf⟩ := bs1 hf
                      have hJ29 : ∀ (H : Heap) (locs : List Loc) (ls : Array Slot), Ho κ (wM κ) N ad w25 H → va_S (Aof ad N) s.heap H locs → lv_has ls 7 [(0, .ref (ad 0)), (1, .int x1), (2, .int x2), (4, .int v26), (5, .int v11)] → W p l e R s m args below meth c H locs 0 0 Q (F0 m 151 ls [.int v28]) := by
                        intro H locs ls hP hS hl
                        refine lv_istore_n (lv' := [(3, .int v28), (0, .ref (ad 0)), (1, .int x1), (2, .int x2), (4, .int v26), (5, .int v11)]) hx hb dX9_back_151 rfl hl (by decide) rfl (fun ls hl => ?_)
                        cases hf
                        exact hJ21 _ _ _ hP hS (lv_sub hl [1, 2, 3, 0, 4, 5] rfl)
                      clear hf
                      have hf := hq29
                      clear hq29
                      refine lv_icmp_ge (tgt := 150) hx hb dX9_back_142 (by decide) (fun hc => ?_) (fun hc => ?_)
                      · have hf := ip hc hf
                        refine lv_iload_n hx hb dX9_back_150 rfl (lv_at hl 4 rfl) ?_
                        cases hf
                        exact hJ29 _ _ _ hP hS (lv_sub hl [1, 2, 3, 0, 5] rfl)
                      · have hf := iq hc hf
                        refine lv_iload hx hb dX9_back_145 (lv_at hl 6 rfl) ?_
                        refine lv_goto (tgt := 151) hx hb dX9_back_147 (by decide) ?_
                        cases hf
                        exact hJ29 _ _ _ hP hS (lv_sub hl [1, 2, 3, 0, 5] rfl)
                    clear hf
                    have hf := hq27
                    clear hq27
                    refine lv_icmp_ge (tgt := 135) hx hb dX9_back_127 (by decide) (fun hc => ?_) (fun hc => ?_)
                    · have hf := ip hc hf
                      refine lv_iload hx hb dX9_back_135 (lv_at hl 5 rfl) ?_
                      cases hf
                      exact hJ27 _ _ _ hP hS (lv_sub hl [1, 2, 3, 4, 6, 0] rfl)
                    · have hf := iq hc hf
                      refine lv_iload hx hb dX9_back_130 (lv_at hl 6 rfl) ?_
                      refine lv_goto (tgt := 137) hx hb dX9_back_132 (by decide) ?_
                      cases hf
                      exact hJ27 _ _ _ hP hS (lv_sub hl [1, 2, 3, 4, 6, 0] rfl)
          exact hL13 _ _ _ _ _ _ _ _ hf hP hS (lv_sub hl [3, 4, 5, 2, 1, 0] rfl)
        · have hf := iq hc hf
          refine lv_bipush (v := (-2)) hx hb dX9_back_37 nb_m2 ?_
          cases hf
          exact hret _ _ _ _ dX9_back_39 hP hS
    · have hf := ip hc hf
      refine lv_iconst (v := (-1)) hx hb dX9_back_17 nc_m1 ?_
      cases hf
      exact hret _ _ _ _ dX9_back_18 hP hS
def LX9_twos_2 : Nat → Int32 → Mm → Option (Mm)
  | 0, _, _ => none
  | fu + 1, v1, w2 =>
    if 256 ≤ v1 then
      some (w2)
    else
      bd1 (
        if v1 = 0 then
          some (0)
        else
          some ((-4))) fun (v5 : Int32) =>
      bd1 (wr w2 22 256 v1 v5) fun w7 =>
      LX9_twos_2 fu (v1 + 1) w7
def LX9_twos_73 (v8 : Int32) (v17 : Int32) : Nat → Int32 → Mm → Option (Mm)
  | 0, _, _ => none
  | fu + 1, v21, w22 =>
    bd1 (rd w22 2 2 0) fun v25 =>
    if v25 ≤ v21 then
      some (w22)
    else
      bd1 (rd w22 22 256 v17) fun v26 =>
      if v26 = (-4) then
        some (w22)
      else
        bd1 (rd w22 5 16 v21) fun v27 =>
        bd1 (
          if v27 = 1 then
            some (0)
          else
            bd1 (fX9_raftOf w22 v21) fun v30 =>
            if v30 = (-4) then
              bd1 (rd w22 4 16 v21) fun v31 =>
              bd1 (rd w22 4 16 v8) fun v32 =>
              if v31 ≤ v32 then
                some (0)
              else
                if ((v17 >>> (v21 &&& 31)) &&& 1) = 0 then
                  some (1)
                else
                  some (0)
            else
              some (0)) fun (v28 : Int32) =>
        bd1 (
          if v28 = 0 then
            bd1 (rd w22 22 256 (v17 ||| (1 <<< (v21 &&& 31)))) fun v35 =>
            some (v35)
          else
            bd1 (rd w22 22 256 (v17 ||| (1 <<< (v21 &&& 31)))) fun v36 =>
            bd1 (rd w22 22 256 v17) fun v37 =>
            if (v37 + 1) ≤ v36 then
              bd1 (rd w22 22 256 (v17 ||| (1 <<< (v21 &&& 31)))) fun v38 =>
              some (v38)
            else
              bd1 (rd w22 22 256 v17) fun v39 =>
              some ((v39 + 1))) fun (v33 : Int32) =>
        bd1 (wr w22 22 256 (v17 ||| (1 <<< (v21 &&& 31))) v33) fun w40 =>
        LX9_twos_73 v8 v17 fu (v21 + 1) w40
def LX9_twos_67 (v8 : Int32) : Nat → Int32 → Mm → Option (Mm)
  | 0, _, _ => none
  | fu + 1, v17, w18 =>
    if v17 < 0 then
      some (w18)
    else
      bd1 (LX9_twos_73 v8 v17 1000 0 w18) fun (w24 : Mm) =>
      LX9_twos_67 v8 fu (v17 - 1) w24
def LX9_twos_33 : Nat → Int32 → Mm → Option (Mm)
  | 0, _, _ => none
  | fu + 1, v8, w9 =>
    bd1 (rd w9 2 2 0) fun v12 =>
    if v12 ≤ v8 then
      some (w9)
    else
      bd1 (rd w9 5 16 v8) fun v13 =>
      bd1 (
        if v13 = 1 then
          bd1 (fX9_raftOf w9 v8) fun v16 =>
          if v16 = (-4) then
            bd1 (LX9_twos_67 v8 1000 255 w9) fun (w20 : Mm) =>
            some (w20)
          else
            some (w9)
        else
          some (w9)) fun (w14 : Mm) =>
      LX9_twos_33 fu (v8 + 1) w14
def LX9_twos_221 (w11 : Mm) : Nat → Int32 → Int32 → Option (Int32)
  | 0, _, _ => none
  | fu + 1, v41, v42 =>
    if 256 ≤ v42 then
      some (v41)
    else
      bd1 (rd w11 22 256 v42) fun v45 =>
      bd1 (
        if v45 ≤ v41 then
          some (v41)
        else
          bd1 (rd w11 22 256 v42) fun v48 =>
          some (v48)) fun (v46 : Int32) =>
      LX9_twos_221 w11 fu v46 (v42 + 1)
def fX9_twos (w : Mm) : Option (Int32 × Mm) :=
  bd1 (LX9_twos_2 1000 0 w) fun (w4 : Mm) =>
  bd1 (LX9_twos_33 1000 0 w4) fun (w11 : Mm) =>
  bd1 (LX9_twos_221 w11 1000 0 0) fun (v44 : Int32) =>
  some (v44, w11)
set_option maxHeartbeats 4000000 in
set_option maxRecDepth 100000 in
theorem kX9_twos {l : Launch} {κ : Kp} {N : Nat} {ad : Nat → Nat} {w : Mm} {r : Int32} {w' : Mm} (hN : 26 ≤ N) (hD : Apt ad N) (hf : fX9_twos w = some (r, w')) : Met l yX9_twos (Cond.code yX9_twos cX9_twos 6 (some .int) :: TB) (rmX 1 22) (PcX κ (wM κ) N ad w [.ref (ad 0)]) (QI κ (wM κ) N ad w' r) 0 0 (Aof ad N) := by
  refine mkI (by decide +kernel) (Nat.le_of_ble_eq_true rfl) (fun p e R s m args below meth c Q H locs ls hC hRf hRl hP hS hret hl => ?_)
  obtain ⟨hx, hb, hml, hown, hts, hE⟩ := hC
  have hA : ∀ k, k < N → Aof ad N (ad k) := fun k h => Aof_in h
  have hAA : ∀ z, Aof ad N z → Aof ad N z := fun _ h => h
  have hl : lv_has ls 6 [(0, .ref (ad 0))] := hl
  unfold fX9_twos at hf
  refine lv_iconst (v := 0) hx hb dX9_twos_0 nc_0 ?_
  refine lv_istore_n (lv' := [(1, .int 0), (0, .ref (ad 0))]) hx hb dX9_twos_1 rfl hl (by decide) rfl (fun ls hl => ?_)
  obtain ⟨w4, hq3, hf⟩ := bs1 hf
  have hJ3 : ∀ (H : Heap) (locs : List Loc) (ls : Array Slot), Ho κ (wM κ) N ad w4 H → va_S (Aof ad N) s.heap H locs → lv_has ls 6 [(0, .ref (ad 0))] → W p l e R s m args below meth c H locs 0 0 Q (F0 m 31 ls []) := by
    intro H locs ls hP hS hl
    refine lv_iconst (v := 0) hx hb dX9_twos_31 nc_0 ?_
    refine lv_istore_n (lv' := [(1, .int 0), (0, .ref (ad 0))]) hx hb dX9_twos_32 rfl hl (by decide) rfl (fun ls hl => ?_)
    obtain ⟨w11, hq10, hf⟩ := bs1 hf
    have hJ10 : ∀ (H : Heap) (locs : List Loc) (ls : Array Slot), Ho κ (wM κ) N ad w11 H → va_S (Aof ad N) s.heap H locs → lv_has ls 6 [(0, .ref (ad 0))] → W p l e R s m args below meth c H locs 0 0 Q (F0 m 217 ls []) := by
      intro H locs ls hP hS hl
      refine lv_iconst (v := 0) hx hb dX9_twos_217 nc_0 ?_
      refine lv_istore_n (lv' := [(1, .int 0), (0, .ref (ad 0))]) hx hb dX9_twos_218 rfl hl (by decide) rfl (fun ls hl => ?_)
      refine lv_iconst (v := 0) hx hb dX9_twos_219 nc_0 ?_
      refine lv_istore_n (lv' := [(2, .int 0), (1, .int 0), (0, .ref (ad 0))]) hx hb dX9_twos_220 rfl hl (by decide) rfl (fun ls hl => ?_)
      obtain ⟨v44, hq43, hf⟩ := bs1 hf
      have hJ43 : ∀ (H : Heap) (locs : List Loc) (ls : Array Slot), Ho κ (wM κ) N ad w11 H → va_S (Aof ad N) s.heap H locs → lv_has ls 6 [(1, .int v44)] → W p l e R s m args below meth c H locs 0 0 Q (F0 m 255 ls []) := by
        intro H locs ls hP hS hl
        refine lv_iload_n hx hb dX9_twos_255 rfl (lv_at hl 0 rfl) ?_
        cases hf
        exact hret _ _ _ _ dX9_twos_256 hP hS
      clear hf
      have hf := hq43
      clear hq43
      have hL43 : ∀ (fu : Nat) (v41 : Int32) (v42 : Int32) (H : Heap) (locs : List Loc) (ls : Array Slot), LX9_twos_221 w11 fu v41 v42 = some (v44) → Ho κ (wM κ) N ad w11 H → va_S (Aof ad N) s.heap H locs → lv_has ls 6 [(0, .ref (ad 0)), (1, .int v41), (2, .int v42)] → W p l e R s m args below meth c H locs 0 0 Q (F0 m 221 ls []) := by
        intro fu
        induction fu with
        | zero =>
          intro v41 v42 H locs ls hf
          rw [LX9_twos_221] at hf
          cases hf
        | succ fu ih =>
          intro v41 v42 H locs ls hf hP hS hl
          rw [LX9_twos_221] at hf
          refine lv_iload_n hx hb dX9_twos_221 rfl (lv_at hl 2 rfl) ?_
          refine lv_sipush (v := 256) hx hb dX9_twos_222 ns_256 ?_
          refine lv_icmp_ge (tgt := 255) hx hb dX9_twos_225 (by decide) (fun hc => ?_) (fun hc => ?_)
          · have hf := ip hc hf
            cases hf
            exact hJ43 _ _ _ hP hS (lv_sub hl [1] rfl)
          · have hf := iq hc hf
            refine lv_aload_n hx hb dX9_twos_228 rfl (lv_at hl 0 rfl) ?_
            refine x_get hx hb hts hown hE hP fl_X9_74 (nm0 hN) gM_0_29 dX9_twos_229 ?_
            refine lv_iload_n hx hb dX9_twos_232 rfl (lv_at hl 2 rfl) ?_
            obtain ⟨v45, hv, hf⟩ := bs1 hf
            refine x_iald hx hb hE hP (nm22 hN) (aM_22 _) hv dX9_twos_233 ?_
            refine lv_iload_n hx hb dX9_twos_234 rfl (lv_at hl 1 rfl) ?_
            obtain ⟨v46, hq47, hf⟩ := bs1 hf
            have hJ47 : ∀ (H : Heap) (locs : List Loc) (ls : Array Slot), Ho κ (wM κ) N ad w11 H → va_S (Aof ad N) s.heap H locs → lv_has ls 6 [(0, .ref (ad 0)), (2, .int v42)] → W p l e R s m args below meth c H locs 0 0 Q (F0 m 248 ls [.int v46]) := by
              intro H locs ls hP hS hl
              refine lv_istore_n (lv' := [(1, .int v46), (0, .ref (ad 0)), (2, .int v42)]) hx hb dX9_twos_248 rfl hl (by decide) rfl (fun ls hl => ?_)
              refine lv_iinc (v := (v42 + 1)) (lv' := [(2, .int (v42 + 1)), (1, .int v46), (0, .ref (ad 0))]) hx hb dX9_twos_249 hl (k := 2) rfl (ni_1 _) (by decide) rfl (fun ls hl => ?_)
              refine lv_goto (tgt := 221) hx hb dX9_twos_252 (by decide) ?_
              exact ih _ _ _ _ _ hf hP hS (lv_sub hl [2, 1, 0] rfl)
            clear hf
            have hf := hq47
            clear hq47
            refine lv_icmp_le (tgt := 247) hx hb dX9_twos_235 (by decide) (fun hc => ?_) (fun hc => ?_)
            · have hf := ip hc hf
              refine lv_iload_n hx hb dX9_twos_247 rfl (lv_at hl 1 rfl) ?_
              cases hf
              exact hJ47 _ _ _ hP hS (lv_sub hl [0, 2] rfl)
            · have hf := iq hc hf
              refine lv_aload_n hx hb dX9_twos_238 rfl (lv_at hl 0 rfl) ?_
              refine x_get hx hb hts hown hE hP fl_X9_74 (nm0 hN) gM_0_29 dX9_twos_239 ?_
              refine lv_iload_n hx hb dX9_twos_242 rfl (lv_at hl 2 rfl) ?_
              obtain ⟨v48, hv, hf⟩ := bs1 hf
              refine x_iald hx hb hE hP (nm22 hN) (aM_22 _) hv dX9_twos_243 ?_
              refine lv_goto (tgt := 248) hx hb dX9_twos_244 (by decide) ?_
              cases hf
              exact hJ47 _ _ _ hP hS (lv_sub hl [0, 2] rfl)
      exact hL43 _ _ _ _ _ _ hf hP hS (lv_sub hl [2, 1, 0] rfl)
    clear hf
    have hf := hq10
    clear hq10
    have hL10 : ∀ (fu : Nat) (v8 : Int32) (w9 : Mm) (H : Heap) (locs : List Loc) (ls : Array Slot), LX9_twos_33 fu v8 w9 = some (w11) → Ho κ (wM κ) N ad w9 H → va_S (Aof ad N) s.heap H locs → lv_has ls 6 [(0, .ref (ad 0)), (1, .int v8)] → W p l e R s m args below meth c H locs 0 0 Q (F0 m 33 ls []) := by
      intro fu
      induction fu with
      | zero =>
        intro v8 w9 H locs ls hf
        rw [LX9_twos_33] at hf
        cases hf
      | succ fu ih =>
        intro v8 w9 H locs ls hf hP hS hl
        rw [LX9_twos_33] at hf
        refine lv_iload_n hx hb dX9_twos_33 rfl (lv_at hl 1 rfl) ?_
        refine lv_aload_n hx hb dX9_twos_34 rfl (lv_at hl 0 rfl) ?_
        refine x_get hx hb hts hown hE hP fl_X9_13 (nm0 hN) gM_0_2 dX9_twos_35 ?_
        refine lv_iconst (v := 0) hx hb dX9_twos_38 nc_0 ?_
        obtain ⟨v12, hv, hf⟩ := bs1 hf
        refine x_iald hx hb hE hP (nm2 hN) (aM_2 _) hv dX9_twos_39 ?_
        refine lv_icmp_ge (tgt := 217) hx hb dX9_twos_40 (by decide) (fun hc => ?_) (fun hc => ?_)
        · have hf := ip hc hf
          cases hf
          exact hJ10 _ _ _ hP hS (lv_sub hl [0] rfl)
        · have hf := iq hc hf
          refine lv_aload_n hx hb dX9_twos_43 rfl (lv_at hl 0 rfl) ?_
          refine x_get hx hb hts hown hE hP fl_X9_23 (nm0 hN) gM_0_5 dX9_twos_44 ?_
          refine lv_iload_n hx hb dX9_twos_47 rfl (lv_at hl 1 rfl) ?_
          obtain ⟨v13, hv, hf⟩ := bs1 hf
          refine x_iald hx hb hE hP (nm5 hN) (aM_5 _) hv dX9_twos_48 ?_
          refine lv_iconst (v := 1) hx hb dX9_twos_49 nc_1 ?_
          obtain ⟨w14, hq15, hf⟩ := bs1 hf
          have hJ15 : ∀ (H : Heap) (locs : List Loc) (ls : Array Slot), Ho κ (wM κ) N ad w14 H → va_S (Aof ad N) s.heap H locs → lv_has ls 6 [(0, .ref (ad 0)), (1, .int v8)] → W p l e R s m args below meth c H locs 0 0 Q (F0 m 211 ls []) := by
            intro H locs ls hP hS hl
            refine lv_iinc (v := (v8 + 1)) (lv' := [(1, .int (v8 + 1)), (0, .ref (ad 0))]) hx hb dX9_twos_211 hl (k := 1) rfl (ni_1 _) (by decide) rfl (fun ls hl => ?_)
            refine lv_goto (tgt := 33) hx hb dX9_twos_214 (by decide) ?_
            exact ih _ _ _ _ _ hf hP hS (lv_sub hl [1, 0] rfl)
          clear hf
          have hf := hq15
          clear hq15
          refine lv_icmp_ne (tgt := 211) hx hb dX9_twos_50 (by decide) (fun hc => ?_) (fun hc => ?_)
          · have hf := iq hc hf
            cases hf
            exact hJ15 _ _ _ hP hS (lv_sub hl [0, 1] rfl)
          · have hf := ip hc hf
            refine lv_aload_n hx hb dX9_twos_53 rfl (lv_at hl 0 rfl) ?_
            refine lv_iload_n hx hb dX9_twos_54 rfl (lv_at hl 1 rfl) ?_
            obtain ⟨v16, hv, hf⟩ := bs1 hf
            refine x_cVi (As := [.int v8]) (rest := []) hx hb hml hts hown hE hP hS hAA (kX9_raftOf hN hD hv) cl_X9_156 (nm0 hN) oM_0 vc_9 (Nat.le_trans (by decide) hRf) (Nat.le_trans (by decide) hRl) (Nat.zero_le _) (Nat.zero_le _) rfl hl.1 rfl (Nat.le_of_ble_eq_true rfl) dX9_twos_55 (fun H locs hP hS => ?_)
            refine lv_bipush (v := (-4)) hx hb dX9_twos_58 nb_m4 ?_
            refine lv_icmp_ne (tgt := 211) hx hb dX9_twos_60 (by decide) (fun hc => ?_) (fun hc => ?_)
            · have hf := iq hc hf
              cases hf
              exact hJ15 _ _ _ hP hS (lv_sub hl [0, 1] rfl)
            · have hf := ip hc hf
              refine lv_sipush (v := 255) hx hb dX9_twos_63 ns_255 ?_
              refine lv_istore_n (lv' := [(2, .int 255), (0, .ref (ad 0)), (1, .int v8)]) hx hb dX9_twos_66 rfl hl (by decide) rfl (fun ls hl => ?_)
              obtain ⟨w20, hq19, hf⟩ := bs1 hf
              have hJ19 : ∀ (H : Heap) (locs : List Loc) (ls : Array Slot), Ho κ (wM κ) N ad w20 H → va_S (Aof ad N) s.heap H locs → lv_has ls 6 [(0, .ref (ad 0)), (1, .int v8)] → W p l e R s m args below meth c H locs 0 0 Q (F0 m 211 ls []) := by
                intro H locs ls hP hS hl
                cases hf
                exact hJ15 _ _ _ hP hS (lv_sub hl [0, 1] rfl)
              clear hf
              have hf := hq19
              clear hq19
              have hL19 : ∀ (fu : Nat) (v17 : Int32) (w18 : Mm) (H : Heap) (locs : List Loc) (ls : Array Slot), LX9_twos_67 v8 fu v17 w18 = some (w20) → Ho κ (wM κ) N ad w18 H → va_S (Aof ad N) s.heap H locs → lv_has ls 6 [(0, .ref (ad 0)), (1, .int v8), (2, .int v17)] → W p l e R s m args below meth c H locs 0 0 Q (F0 m 67 ls []) := by
                intro fu
                induction fu with
                | zero =>
                  intro v17 w18 H locs ls hf
                  rw [LX9_twos_67] at hf
                  cases hf
                | succ fu ih =>
                  intro v17 w18 H locs ls hf hP hS hl
                  rw [LX9_twos_67] at hf
                  refine lv_iload_n hx hb dX9_twos_67 rfl (lv_at hl 2 rfl) ?_
                  refine lv_if_lt (tgt := 211) hx hb dX9_twos_68 (by decide) (fun hc => ?_) (fun hc => ?_)
                  · have hf := ip hc hf
                    cases hf
                    exact hJ19 _ _ _ hP hS (lv_sub hl [0, 1] rfl)
                  · have hf := iq hc hf
                    refine lv_iconst (v := 0) hx hb dX9_twos_71 nc_0 ?_
                    refine lv_istore_n (lv' := [(3, .int 0), (0, .ref (ad 0)), (1, .int v8), (2, .int v17)]) hx hb dX9_twos_72 rfl hl (by decide) rfl (fun ls hl => ?_)
                    obtain ⟨w24, hq23, hf⟩ := bs1 hf
                    have hJ23 : ∀ (H : Heap) (locs : List Loc) (ls : Array Slot), Ho κ (wM κ) N ad w24 H → va_S (Aof ad N) s.heap H locs → lv_has ls 6 [(0, .ref (ad 0)), (1, .int v8), (2, .int v17)] → W p l e R s m args below meth c H locs 0 0 Q (F0 m 205 ls []) := by
                      intro H locs ls hP hS hl
                      refine lv_iinc (v := (v17 - 1)) (lv' := [(2, .int (v17 - 1)), (0, .ref (ad 0)), (1, .int v8)]) hx hb dX9_twos_205 hl (k := 2) rfl (ni_m1 _) (by decide) rfl (fun ls hl => ?_)
                      refine lv_goto (tgt := 67) hx hb dX9_twos_208 (by decide) ?_
                      exact ih _ _ _ _ _ hf hP hS (lv_sub hl [1, 2, 0] rfl)
                    clear hf
                    have hf := hq23
                    clear hq23
                    have hL23 : ∀ (fu : Nat) (v21 : Int32) (w22 : Mm) (H : Heap) (locs : List Loc) (ls : Array Slot), LX9_twos_73 v8 v17 fu v21 w22 = some (w24) → Ho κ (wM κ) N ad w22 H → va_S (Aof ad N) s.heap H locs → lv_has ls 6 [(0, .ref (ad 0)), (1, .int v8), (2, .int v17), (3, .int v21)] → W p l e R s m args below meth c H locs 0 0 Q (F0 m 73 ls []) := by
                      intro fu
                      induction fu with
                      | zero =>
                        intro v21 w22 H locs ls hf
                        rw [LX9_twos_73] at hf
                        cases hf
                      | succ fu ih =>
                        intro v21 w22 H locs ls hf hP hS hl
                        rw [LX9_twos_73] at hf
                        refine lv_iload_n hx hb dX9_twos_73 rfl (lv_at hl 3 rfl) ?_
                        refine lv_aload_n hx hb dX9_twos_74 rfl (lv_at hl 0 rfl) ?_
                        refine x_get hx hb hts hown hE hP fl_X9_13 (nm0 hN) gM_0_2 dX9_twos_75 ?_
                        refine lv_iconst (v := 0) hx hb dX9_twos_78 nc_0 ?_
                        obtain ⟨v25, hv, hf⟩ := bs1 hf
                        refine x_iald hx hb hE hP (nm2 hN) (aM_2 _) hv dX9_twos_79 ?_
                        refine lv_icmp_ge (tgt := 205) hx hb dX9_twos_80 (by decide) (fun hc => ?_) (fun hc => ?_)
                        · have hf := ip hc hf
                          cases hf
                          exact hJ23 _ _ _ hP hS (lv_sub hl [0, 1, 2] rfl)
                        · have hf := iq hc hf
                          refine lv_aload_n hx hb dX9_twos_83 rfl (lv_at hl 0 rfl) ?_
                          refine x_get hx hb hts hown hE hP fl_X9_74 (nm0 hN) gM_0_29 dX9_twos_84 ?_
                          refine lv_iload_n hx hb dX9_twos_87 rfl (lv_at hl 2 rfl) ?_
                          obtain ⟨v26, hv, hf⟩ := bs1 hf
                          refine x_iald hx hb hE hP (nm22 hN) (aM_22 _) hv dX9_twos_88 ?_
                          refine lv_bipush (v := (-4)) hx hb dX9_twos_89 nb_m4 ?_
                          refine lv_icmp_eq (tgt := 205) hx hb dX9_twos_91 (by decide) (fun hc => ?_) (fun hc => ?_)
                          · have hf := ip hc hf
                            cases hf
                            exact hJ23 _ _ _ hP hS (lv_sub hl [0, 1, 2] rfl)
                          · have hf := iq hc hf
                            refine lv_aload_n hx hb dX9_twos_94 rfl (lv_at hl 0 rfl) ?_
                            refine x_get hx hb hts hown hE hP fl_X9_23 (nm0 hN) gM_0_5 dX9_twos_95 ?_
                            refine lv_iload_n hx hb dX9_twos_98 rfl (lv_at hl 3 rfl) ?_
                            obtain ⟨v27, hv, hf⟩ := bs1 hf
                            refine x_iald hx hb hE hP (nm5 hN) (aM_5 _) hv dX9_twos_99 ?_
                            refine lv_iconst (v := 1) hx hb dX9_twos_100 nc_1 ?_
                            obtain ⟨v28, hq29, hf⟩ := bs1 hf
                            have hJ29 : ∀ (H : Heap) (locs : List Loc) (ls : Array Slot), Ho κ (wM κ) N ad w22 H → va_S (Aof ad N) s.heap H locs → lv_has ls 6 [(0, .ref (ad 0)), (1, .int v8), (2, .int v17), (3, .int v21)] → W p l e R s m args below meth c H locs 0 0 Q (F0 m 142 ls [.int v28]) := by
                              intro H locs ls hP hS hl
                              refine lv_istore (lv' := [(4, .int v28), (0, .ref (ad 0)), (1, .int v8), (2, .int v17), (3, .int v21)]) hx hb dX9_twos_142 hl (by decide) rfl (fun ls hl => ?_)
                              refine lv_iload_n hx hb dX9_twos_144 rfl (lv_at hl 3 rfl) ?_
                              refine lv_iconst (v := 1) hx hb dX9_twos_145 nc_1 ?_
                              refine lv_iload_n hx hb dX9_twos_146 rfl (lv_at hl 4 rfl) ?_
                              refine lv_ishl hx hb dX9_twos_147 ?_
                              refine lv_ior hx hb dX9_twos_148 ?_
                              refine lv_istore (lv' := [(5, .int (v17 ||| (1 <<< (v21 &&& 31)))), (4, .int v28), (0, .ref (ad 0)), (1, .int v8), (2, .int v17), (3, .int v21)]) hx hb dX9_twos_149 hl (by decide) rfl (fun ls hl => ?_)
                              refine lv_aload_n hx hb dX9_twos_151 rfl (lv_at hl 2 rfl) ?_
                              refine x_get hx hb hts hown hE hP fl_X9_74 (nm0 hN) gM_0_29 dX9_twos_152 ?_
                              refine lv_iload hx hb dX9_twos_155 (lv_at hl 0 rfl) ?_
                              refine lv_iload hx hb dX9_twos_157 (lv_at hl 1 rfl) ?_
                              obtain ⟨v33, hq34, hf⟩ := bs1 hf
                              have hJ34 : ∀ (H : Heap) (locs : List Loc) (ls : Array Slot), Ho κ (wM κ) N ad w22 H → va_S (Aof ad N) s.heap H locs → lv_has ls 6 [(0, .ref (ad 0)), (1, .int v8), (2, .int v17), (3, .int v21)] → W p l e R s m args below meth c H locs 0 0 Q (F0 m 198 ls [.int v33, .int (v17 ||| (1 <<< (v21 &&& 31))), .ref (ad 22)]) := by
                                intro H locs ls hP hS hl
                                obtain ⟨w40, hv, hf⟩ := bs1 hf
                                refine x_iast hx hb hE hD hA hP hS (nm22 hN) aM_22 hv dX9_twos_198 (fun H locs hP hS => ?_)
                                refine lv_iinc (v := (v21 + 1)) (lv' := [(3, .int (v21 + 1)), (0, .ref (ad 0)), (1, .int v8), (2, .int v17)]) hx hb dX9_twos_199 hl (k := 3) rfl (ni_1 _) (by decide) rfl (fun ls hl => ?_)
                                refine lv_goto (tgt := 73) hx hb dX9_twos_202 (by decide) ?_
                                exact ih _ _ _ _ _ hf hP hS (lv_sub hl [1, 2, 3, 0] rfl)
                              clear hf
                              have hf := hq34
                              clear hq34
                              refine lv_if_eq (tgt := 191) hx hb dX9_twos_159 (by decide) (fun hc => ?_) (fun hc => ?_)
                              · have hf := ip hc hf
                                refine lv_aload_n hx hb dX9_twos_191 rfl (lv_at hl 2 rfl) ?_
                                refine x_get hx hb hts hown hE hP fl_X9_74 (nm0 hN) gM_0_29 dX9_twos_192 ?_
                                refine lv_iload hx hb dX9_twos_195 (lv_at hl 0 rfl) ?_
                                obtain ⟨v35, hv, hf⟩ := bs1 hf
                                refine x_iald hx hb hE hP (nm22 hN) (aM_22 _) hv dX9_twos_197 ?_
                                cases hf
                                exact hJ34 _ _ _ hP hS (lv_sub hl [2, 3, 4, 5] rfl)
                              · have hf := iq hc hf
                                refine lv_aload_n hx hb dX9_twos_162 rfl (lv_at hl 2 rfl) ?_
                                refine x_get hx hb hts hown hE hP fl_X9_74 (nm0 hN) gM_0_29 dX9_twos_163 ?_
                                refine lv_iload hx hb dX9_twos_166 (lv_at hl 0 rfl) ?_
                                obtain ⟨v36, hv, hf⟩ := bs1 hf
                                refine x_iald hx hb hE hP (nm22 hN) (aM_22 _) hv dX9_twos_168 ?_
                                refine lv_aload_n hx hb dX9_twos_169 rfl (lv_at hl 2 rfl) ?_
                                refine x_get hx hb hts hown hE hP fl_X9_74 (nm0 hN) gM_0_29 dX9_twos_170 ?_
                                refine lv_iload_n hx hb dX9_twos_173 rfl (lv_at hl 4 rfl) ?_
                                obtain ⟨v37, hv, hf⟩ := bs1 hf
                                refine x_iald hx hb hE hP (nm22 hN) (aM_22 _) hv dX9_twos_174 ?_
                                refine lv_iconst (v := 1) hx hb dX9_twos_175 nc_1 ?_
                                refine lv_iadd hx hb dX9_twos_176 ?_
                                refine lv_icmp_ge (tgt := 191) hx hb dX9_twos_177 (by decide) (fun hc => ?_) (fun hc => ?_)
                                · have hf := ip hc hf
                                  refine lv_aload_n hx hb dX9_twos_191 rfl (lv_at hl 2 rfl) ?_
                                  refine x_get hx hb hts hown hE hP fl_X9_74 (nm0 hN) gM_0_29 dX9_twos_192 ?_
                                  refine lv_iload hx hb dX9_twos_195 (lv_at hl 0 rfl) ?_
                                  obtain ⟨v38, hv, hf⟩ := bs1 hf
                                  refine x_iald hx hb hE hP (nm22 hN) (aM_22 _) hv dX9_twos_197 ?_
                                  cases hf
                                  exact hJ34 _ _ _ hP hS (lv_sub hl [2, 3, 4, 5] rfl)
                                · have hf := iq hc hf
                                  refine lv_aload_n hx hb dX9_twos_180 rfl (lv_at hl 2 rfl) ?_
                                  refine x_get hx hb hts hown hE hP fl_X9_74 (nm0 hN) gM_0_29 dX9_twos_181 ?_
                                  refine lv_iload_n hx hb dX9_twos_184 rfl (lv_at hl 4 rfl) ?_
                                  obtain ⟨v39, hv, hf⟩ := bs1 hf
                                  refine x_iald hx hb hE hP (nm22 hN) (aM_22 _) hv dX9_twos_185 ?_
                                  refine lv_iconst (v := 1) hx hb dX9_twos_186 nc_1 ?_
                                  refine lv_iadd hx hb dX9_twos_187 ?_
                                  refine lv_goto (tgt := 198) hx hb dX9_twos_188 (by decide) ?_
                                  cases hf
                                  exact hJ34 _ _ _ hP hS (lv_sub hl [2, 3, 4, 5] rfl)
                            clear hf
                            have hf := hq29
                            clear hq29
                            refine lv_icmp_eq (tgt := 141) hx hb dX9_twos_101 (by decide) (fun hc => ?_) (fun hc => ?_)
                            · have hf := ip hc hf
                              refine lv_iconst (v := 0) hx hb dX9_twos_141 nc_0 ?_
                              cases hf
                              exact hJ29 _ _ _ hP hS (lv_sub hl [0, 1, 2, 3] rfl)
                            · have hf := iq hc hf
                              refine lv_aload_n hx hb dX9_twos_104 rfl (lv_at hl 0 rfl) ?_
                              refine lv_iload_n hx hb dX9_twos_105 rfl (lv_at hl 3 rfl) ?_
                              obtain ⟨v30, hv, hf⟩ := bs1 hf
                              refine x_cVi (As := [.int v21]) (rest := []) hx hb hml hts hown hE hP hS hAA (kX9_raftOf hN hD hv) cl_X9_156 (nm0 hN) oM_0 vc_9 (Nat.le_trans (by decide) hRf) (Nat.le_trans (by decide) hRl) (Nat.zero_le _) (Nat.zero_le _) rfl hl.1 rfl (Nat.le_of_ble_eq_true rfl) dX9_twos_106 (fun H locs hP hS => ?_)
                              refine lv_bipush (v := (-4)) hx hb dX9_twos_109 nb_m4 ?_
                              refine lv_icmp_ne (tgt := 141) hx hb dX9_twos_111 (by decide) (fun hc => ?_) (fun hc => ?_)
                              · have hf := iq hc hf
                                refine lv_iconst (v := 0) hx hb dX9_twos_141 nc_0 ?_
                                cases hf
                                exact hJ29 _ _ _ hP hS (lv_sub hl [0, 1, 2, 3] rfl)
                              · have hf := ip hc hf
                                refine lv_aload_n hx hb dX9_twos_114 rfl (lv_at hl 0 rfl) ?_
                                refine x_get hx hb hts hown hE hP fl_X9_20 (nm0 hN) gM_0_4 dX9_twos_115 ?_
                                refine lv_iload_n hx hb dX9_twos_118 rfl (lv_at hl 3 rfl) ?_
                                obtain ⟨v31, hv, hf⟩ := bs1 hf
                                refine x_iald hx hb hE hP (nm4 hN) (aM_4 _) hv dX9_twos_119 ?_
                                refine lv_aload_n hx hb dX9_twos_120 rfl (lv_at hl 0 rfl) ?_
                                refine x_get hx hb hts hown hE hP fl_X9_20 (nm0 hN) gM_0_4 dX9_twos_121 ?_
                                refine lv_iload_n hx hb dX9_twos_124 rfl (lv_at hl 1 rfl) ?_
                                obtain ⟨v32, hv, hf⟩ := bs1 hf
                                refine x_iald hx hb hE hP (nm4 hN) (aM_4 _) hv dX9_twos_125 ?_
                                refine lv_icmp_le (tgt := 141) hx hb dX9_twos_126 (by decide) (fun hc => ?_) (fun hc => ?_)
                                · have hf := ip hc hf
                                  refine lv_iconst (v := 0) hx hb dX9_twos_141 nc_0 ?_
                                  cases hf
                                  exact hJ29 _ _ _ hP hS (lv_sub hl [0, 1, 2, 3] rfl)
                                · have hf := iq hc hf
                                  refine lv_iload_n hx hb dX9_twos_129 rfl (lv_at hl 2 rfl) ?_
                                  refine lv_iload_n hx hb dX9_twos_130 rfl (lv_at hl 3 rfl) ?_
                                  refine lv_ishr hx hb dX9_twos_131 ?_
                                  refine lv_iconst (v := 1) hx hb dX9_twos_132 nc_1 ?_
                                  refine lv_iand hx hb dX9_twos_133 ?_
                                  refine lv_if_ne (tgt := 141) hx hb dX9_twos_134 (by decide) (fun hc => ?_) (fun hc => ?_)
                                  · have hf := iq hc hf
                                    refine lv_iconst (v := 0) hx hb dX9_twos_141 nc_0 ?_
                                    cases hf
                                    exact hJ29 _ _ _ hP hS (lv_sub hl [0, 1, 2, 3] rfl)
                                  · have hf := ip hc hf
                                    refine lv_iconst (v := 1) hx hb dX9_twos_137 nc_1 ?_
                                    refine lv_goto (tgt := 142) hx hb dX9_twos_138 (by decide) ?_
                                    cases hf
                                    exact hJ29 _ _ _ hP hS (lv_sub hl [0, 1, 2, 3] rfl)
                    exact hL23 _ _ _ _ _ _ hf hP hS (lv_sub hl [1, 2, 3, 0] rfl)
              exact hL19 _ _ _ _ _ _ hf hP hS (lv_sub hl [1, 2, 0] rfl)
    exact hL10 _ _ _ _ _ _ hf hP hS (lv_sub hl [1, 0] rfl)
  clear hf
  have hf := hq3
  clear hq3
  have hL3 : ∀ (fu : Nat) (v1 : Int32) (w2 : Mm) (H : Heap) (locs : List Loc) (ls : Array Slot), LX9_twos_2 fu v1 w2 = some (w4) → Ho κ (wM κ) N ad w2 H → va_S (Aof ad N) s.heap H locs → lv_has ls 6 [(0, .ref (ad 0)), (1, .int v1)] → W p l e R s m args below meth c H locs 0 0 Q (F0 m 2 ls []) := by
    intro fu
    induction fu with
    | zero =>
      intro v1 w2 H locs ls hf
      rw [LX9_twos_2] at hf
      cases hf
    | succ fu ih =>
      intro v1 w2 H locs ls hf hP hS hl
      rw [LX9_twos_2] at hf
      refine lv_iload_n hx hb dX9_twos_2 rfl (lv_at hl 1 rfl) ?_
      refine lv_sipush (v := 256) hx hb dX9_twos_3 ns_256 ?_
      refine lv_icmp_ge (tgt := 31) hx hb dX9_twos_6 (by decide) (fun hc => ?_) (fun hc => ?_)
      · have hf := ip hc hf
        cases hf
        exact hJ3 _ _ _ hP hS (lv_sub hl [0] rfl)
      · have hf := iq hc hf
        refine lv_aload_n hx hb dX9_twos_9 rfl (lv_at hl 0 rfl) ?_
        refine x_get hx hb hts hown hE hP fl_X9_74 (nm0 hN) gM_0_29 dX9_twos_10 ?_
        refine lv_iload_n hx hb dX9_twos_13 rfl (lv_at hl 1 rfl) ?_
        refine lv_iload_n hx hb dX9_twos_14 rfl (lv_at hl 1 rfl) ?_
        obtain ⟨v5, hq6, hf⟩ := bs1 hf
        have hJ6 : ∀ (H : Heap) (locs : List Loc) (ls : Array Slot), Ho κ (wM κ) N ad w2 H → va_S (Aof ad N) s.heap H locs → lv_has ls 6 [(0, .ref (ad 0)), (1, .int v1)] → W p l e R s m args below meth c H locs 0 0 Q (F0 m 24 ls [.int v5, .int v1, .ref (ad 22)]) := by
          intro H locs ls hP hS hl
          obtain ⟨w7, hv, hf⟩ := bs1 hf
          refine x_iast hx hb hE hD hA hP hS (nm22 hN) aM_22 hv dX9_twos_24 (fun H locs hP hS => ?_)
          refine lv_iinc (v := (v1 + 1)) (lv' := [(1, .int (v1 + 1)), (0, .ref (ad 0))]) hx hb dX9_twos_25 hl (k := 1) rfl (ni_1 _) (by decide) rfl (fun ls hl => ?_)
          refine lv_goto (tgt := 2) hx hb dX9_twos_28 (by decide) ?_
          exact ih _ _ _ _ _ hf hP hS (lv_sub hl [1, 0] rfl)
        clear hf
        have hf := hq6
        clear hq6
        refine lv_if_ne (tgt := 22) hx hb dX9_twos_15 (by decide) (fun hc => ?_) (fun hc => ?_)
        · have hf := iq hc hf
          refine lv_bipush (v := (-4)) hx hb dX9_twos_22 nb_m4 ?_
          cases hf
          exact hJ6 _ _ _ hP hS (lv_sub hl [0, 1] rfl)
        · have hf := ip hc hf
          refine lv_iconst (v := 0) hx hb dX9_twos_18 nc_0 ?_
          refine lv_goto (tgt := 24) hx hb dX9_twos_19 (by decide) ?_
          cases hf
          exact hJ6 _ _ _ hP hS (lv_sub hl [0, 1] rfl)
  exact hL3 _ _ _ _ _ _ hf hP hS (lv_sub hl [1, 0] rfl)
def fX9_firstOne (w : Mm) (x1 : Int32) : Option (Int32 × Mm) :=
  bd1 (fX9_findRanks w x1) fun w1 =>
  bd1 (rd w1 21 8 0) fun v2 =>
  some (v2, w1)
set_option maxHeartbeats 4000000 in
set_option maxRecDepth 100000 in
theorem kX9_firstOne {l : Launch} {κ : Kp} {N : Nat} {ad : Nat → Nat} {w : Mm} {x1 : Int32} {r : Int32} {w' : Mm} (hN : 26 ≤ N) (hD : Apt ad N) (hf : fX9_firstOne w x1 = some (r, w')) : Met l yX9_firstOne (Cond.code yX9_firstOne cX9_firstOne 2 (some .int) :: TB) (rmX 4 97) (PcX κ (wM κ) N ad w [.ref (ad 0), .int x1]) (QI κ (wM κ) N ad w' r) 0 0 (Aof ad N) := by
  refine mkI (by decide +kernel) (Nat.le_of_ble_eq_true rfl) (fun p e R s m args below meth c Q H locs ls hC hRf hRl hP hS hret hl => ?_)
  obtain ⟨hx, hb, hml, hown, hts, hE⟩ := hC
  have hA : ∀ k, k < N → Aof ad N (ad k) := fun k h => Aof_in h
  have hAA : ∀ z, Aof ad N z → Aof ad N z := fun _ h => h
  have hl : lv_has ls 2 [(0, .ref (ad 0)), (1, .int x1)] := hl
  unfold fX9_firstOne at hf
  refine lv_aload_n hx hb dX9_firstOne_0 rfl (lv_at hl 0 rfl) ?_
  refine lv_iload_n hx hb dX9_firstOne_1 rfl (lv_at hl 1 rfl) ?_
  obtain ⟨w1, hv, hf⟩ := bs1 hf
  refine x_cVv (As := [.int x1]) (rest := []) hx hb hml hts hown hE hP hS hAA (kX9_findRanks hN hD hv) cl_X9_216 (nm0 hN) oM_0 vc_9 (Nat.le_trans (by decide) hRf) (Nat.le_trans (by decide) hRl) (Nat.zero_le _) (Nat.zero_le _) rfl hl.1 rfl (Nat.le_of_ble_eq_true rfl) dX9_firstOne_2 (fun H locs hP hS => ?_)
  refine lv_aload_n hx hb dX9_firstOne_5 rfl (lv_at hl 0 rfl) ?_
  refine x_get hx hb hts hown hE hP fl_X9_71 (nm0 hN) gM_0_28 dX9_firstOne_6 ?_
  refine lv_iconst (v := 0) hx hb dX9_firstOne_9 nc_0 ?_
  obtain ⟨v2, hv, hf⟩ := bs1 hf
  refine x_iald hx hb hE hP (nm21 hN) (aM_21 _) hv dX9_firstOne_10 ?_
  cases hf
  exact hret _ _ _ _ dX9_firstOne_11 hP hS
def LX9_bridge_22 (x1 : Int32) : Nat → Int32 → Int32 → Int32 → Mm → Option (Mm × Int32 × Int32)
  | 0, _, _, _, _ => none
  | fu + 1, v4, v5, v6, w7 =>
    if 99 < v6 then
      some (w7, v4, v5)
    else
      bd1 (fX9_plain w7) fun w12 =>
      bd1 (pt w12 0 23 v6) fun w13 =>
      bd1 (fX9_cross w13 0 200) fun w14 =>
      bd2 (fX9_firstOne w14 0) fun v15 w16 =>
      bd1 (
        if v15 = x1 then
          some (1)
        else
          some (0)) fun (v17 : Int32) =>
      LX9_bridge_22 x1 fu (v4 ||| (1 <<< (v15 &&& 31))) (v5 + v17) (v6 + 1) w16
def fX9_bridge (w : Mm) (x1 : Int32) : Option (Int32 × Mm) :=
  bd1 (
    if x1 = (-1) then
      some (false)
    else
      bd1 (fX9_isBeast w x1) fun v3 =>
      if v3 = 0 then
        some (true)
      else
        some (false)) fun (b1 : Bool) =>
  if b1 = true then
    some ((-1), w)
  else
    bd3 (LX9_bridge_22 x1 1000 0 0 1 w) fun (w9 : Mm) (v10 : Int32) (v11 : Int32) =>
    if x1 = (-1) then
      some (v10, w9)
    else
      some (v11, w9)
set_option maxHeartbeats 4000000 in
set_option maxRecDepth 100000 in
theorem kX9_bridge {l : Launch} {κ : Kp} {N : Nat} {ad : Nat → Nat} {w : Mm} {x1 : Int32} {r : Int32} {w' : Mm} (hN : 26 ≤ N) (hD : Apt ad N) (hf : fX9_bridge w x1 = some (r, w')) : Met l yX9_bridge (Cond.code yX9_bridge cX9_bridge 6 (some .int) :: TB) (rmX 5 118) (PcX κ (wM κ) N ad w [.ref (ad 0), .int x1]) (QI κ (wM κ) N ad w' r) 0 0 (Aof ad N) := by
  refine mkI (by decide +kernel) (Nat.le_of_ble_eq_true rfl) (fun p e R s m args below meth c Q H locs ls hC hRf hRl hP hS hret hl => ?_)
  obtain ⟨hx, hb, hml, hown, hts, hE⟩ := hC
  have hA : ∀ k, k < N → Aof ad N (ad k) := fun k h => Aof_in h
  have hAA : ∀ z, Aof ad N z → Aof ad N z := fun _ h => h
  have hl : lv_has ls 6 [(0, .ref (ad 0)), (1, .int x1)] := hl
  unfold fX9_bridge at hf
  refine lv_iload_n hx hb dX9_bridge_0 rfl (lv_at hl 1 rfl) ?_
  refine lv_iconst (v := (-1)) hx hb dX9_bridge_1 nc_m1 ?_
  obtain ⟨b1, hq2, hf⟩ := bs1 hf
  have hT2 : b1 = true → ∀ (H : Heap) (locs : List Loc) (ls : Array Slot), Ho κ (wM κ) N ad w H → va_S (Aof ad N) s.heap H locs → lv_has ls 6 [] → W p l e R s m args below meth c H locs 0 0 Q (F0 m 13 ls []) := by
    intro hc H locs ls hP hS hl
    have hf := ip hc hf
    refine lv_iconst (v := (-1)) hx hb dX9_bridge_13 nc_m1 ?_
    cases hf
    exact hret _ _ _ _ dX9_bridge_14 hP hS
  have hF2 : ¬ b1 = true → ∀ (H : Heap) (locs : List Loc) (ls : Array Slot), Ho κ (wM κ) N ad w H → va_S (Aof ad N) s.heap H locs → lv_has ls 6 [(0, .ref (ad 0)), (1, .int x1)] → W p l e R s m args below meth c H locs 0 0 Q (F0 m 15 ls []) := by
    intro hc H locs ls hP hS hl
    have hf := iq hc hf
    refine lv_iconst (v := 0) hx hb dX9_bridge_15 nc_0 ?_
    refine lv_istore_n (lv' := [(2, .int 0), (0, .ref (ad 0)), (1, .int x1)]) hx hb dX9_bridge_16 rfl hl (by decide) rfl (fun ls hl => ?_)
    refine lv_iconst (v := 0) hx hb dX9_bridge_17 nc_0 ?_
    refine lv_istore_n (lv' := [(3, .int 0), (2, .int 0), (0, .ref (ad 0)), (1, .int x1)]) hx hb dX9_bridge_18 rfl hl (by decide) rfl (fun ls hl => ?_)
    refine lv_iconst (v := 1) hx hb dX9_bridge_19 nc_1 ?_
    refine lv_istore (lv' := [(4, .int 1), (3, .int 0), (2, .int 0), (0, .ref (ad 0)), (1, .int x1)]) hx hb dX9_bridge_20 hl (by decide) rfl (fun ls hl => ?_)
    obtain ⟨w9, v10, v11, hq8, hf⟩ := bs3 hf
    have hJ8 : ∀ (H : Heap) (locs : List Loc) (ls : Array Slot), Ho κ (wM κ) N ad w9 H → va_S (Aof ad N) s.heap H locs → lv_has ls 6 [(1, .int x1), (2, .int v10), (3, .int v11)] → W p l e R s m args below meth c H locs 0 0 Q (F0 m 81 ls []) := by
      intro H locs ls hP hS hl
      refine lv_iload_n hx hb dX9_bridge_81 rfl (lv_at hl 0 rfl) ?_
      refine lv_iconst (v := (-1)) hx hb dX9_bridge_82 nc_m1 ?_
      refine lv_icmp_ne (tgt := 90) hx hb dX9_bridge_83 (by decide) (fun hc => ?_) (fun hc => ?_)
      · have hf := iq hc hf
        refine lv_iload_n hx hb dX9_bridge_90 rfl (lv_at hl 2 rfl) ?_
        cases hf
        exact hret _ _ _ _ dX9_bridge_91 hP hS
      · have hf := ip hc hf
        refine lv_iload_n hx hb dX9_bridge_86 rfl (lv_at hl 1 rfl) ?_
        refine lv_goto (tgt := 91) hx hb dX9_bridge_87 (by decide) ?_
        cases hf
        exact hret _ _ _ _ dX9_bridge_91 hP hS
    clear hf
    have hf := hq8
    clear hq8
    have hL8 : ∀ (fu : Nat) (v4 : Int32) (v5 : Int32) (v6 : Int32) (w7 : Mm) (H : Heap) (locs : List Loc) (ls : Array Slot), LX9_bridge_22 x1 fu v4 v5 v6 w7 = some (w9, v10, v11) → Ho κ (wM κ) N ad w7 H → va_S (Aof ad N) s.heap H locs → lv_has ls 6 [(0, .ref (ad 0)), (1, .int x1), (2, .int v4), (3, .int v5), (4, .int v6)] → W p l e R s m args below meth c H locs 0 0 Q (F0 m 22 ls []) := by
      intro fu
      induction fu with
      | zero =>
        intro v4 v5 v6 w7 H locs ls hf
        rw [LX9_bridge_22] at hf
        cases hf
      | succ fu ih =>
        intro v4 v5 v6 w7 H locs ls hf hP hS hl
        rw [LX9_bridge_22] at hf
        refine lv_iload hx hb dX9_bridge_22 (lv_at hl 4 rfl) ?_
        refine lv_bipush (v := 99) hx hb dX9_bridge_24 nb_99 ?_
        refine lv_icmp_gt (tgt := 81) hx hb dX9_bridge_26 (by decide) (fun hc => ?_) (fun hc => ?_)
        · have hf := ip hc hf
          cases hf
          exact hJ8 _ _ _ hP hS (lv_sub hl [1, 2, 3] rfl)
        · have hf := iq hc hf
          refine lv_aload_n hx hb dX9_bridge_29 rfl (lv_at hl 0 rfl) ?_
          obtain ⟨w12, hv, hf⟩ := bs1 hf
          refine x_cVv (As := []) (rest := []) hx hb hml hts hown hE hP hS hAA (kX9_plain hN hD hv) cl_X9_196 (nm0 hN) oM_0 vc_9 (Nat.le_trans (by decide) hRf) (Nat.le_trans (by decide) hRl) (Nat.zero_le _) (Nat.zero_le _) rfl hl.1 rfl (Nat.le_of_ble_eq_true rfl) dX9_bridge_30 (fun H locs hP hS => ?_)
          refine lv_aload_n hx hb dX9_bridge_33 rfl (lv_at hl 0 rfl) ?_
          refine lv_iload hx hb dX9_bridge_34 (lv_at hl 4 rfl) ?_
          obtain ⟨w13, hv, hf⟩ := bs1 hf
          refine x_put hx hb hts hown hE hD hA hP hS fp_X9_193 (nm0 hN) pM_0_23 rfl rfl hv dX9_bridge_36 (fun H locs hP hS => ?_)
          refine lv_aload_n hx hb dX9_bridge_39 rfl (lv_at hl 0 rfl) ?_
          refine lv_iconst (v := 0) hx hb dX9_bridge_40 nc_0 ?_
          refine lv_sipush (v := 200) hx hb dX9_bridge_41 ns_200 ?_
          obtain ⟨w14, hv, hf⟩ := bs1 hf
          refine x_cVv (As := [.int 0, .int 200]) (rest := []) hx hb hml hts hown hE hP hS hAA (kX9_cross hN hD hv) cl_X9_199 (nm0 hN) oM_0 vc_9 (Nat.le_trans (by decide) hRf) (Nat.le_trans (by decide) hRl) (Nat.zero_le _) (Nat.zero_le _) rfl hl.1 rfl (Nat.le_of_ble_eq_true rfl) dX9_bridge_44 (fun H locs hP hS => ?_)
          refine lv_aload_n hx hb dX9_bridge_47 rfl (lv_at hl 0 rfl) ?_
          refine lv_iconst (v := 0) hx hb dX9_bridge_48 nc_0 ?_
          obtain ⟨v15, w16, hv, hf⟩ := bs2 hf
          refine x_cVi (As := [.int 0]) (rest := []) hx hb hml hts hown hE hP hS hAA (kX9_firstOne hN hD hv) cl_X9_232 (nm0 hN) oM_0 vc_9 (Nat.le_trans (by decide) hRf) (Nat.le_trans (by decide) hRl) (Nat.zero_le _) (Nat.zero_le _) rfl hl.1 rfl (Nat.le_of_ble_eq_true rfl) dX9_bridge_49 (fun H locs hP hS => ?_)
          refine lv_istore (lv' := [(5, .int v15), (0, .ref (ad 0)), (1, .int x1), (2, .int v4), (3, .int v5), (4, .int v6)]) hx hb dX9_bridge_52 hl (by decide) rfl (fun ls hl => ?_)
          refine lv_iload_n hx hb dX9_bridge_54 rfl (lv_at hl 3 rfl) ?_
          refine lv_iconst (v := 1) hx hb dX9_bridge_55 nc_1 ?_
          refine lv_iload hx hb dX9_bridge_56 (lv_at hl 0 rfl) ?_
          refine lv_ishl hx hb dX9_bridge_58 ?_
          refine lv_ior hx hb dX9_bridge_59 ?_
          refine lv_istore_n (lv' := [(2, .int (v4 ||| (1 <<< (v15 &&& 31)))), (5, .int v15), (0, .ref (ad 0)), (1, .int x1), (3, .int v5), (4, .int v6)]) hx hb dX9_bridge_60 rfl hl (by decide) rfl (fun ls hl => ?_)
          refine lv_iload_n hx hb dX9_bridge_61 rfl (lv_at hl 4 rfl) ?_
          refine lv_iload hx hb dX9_bridge_62 (lv_at hl 1 rfl) ?_
          refine lv_iload_n hx hb dX9_bridge_64 rfl (lv_at hl 3 rfl) ?_
          obtain ⟨v17, hq18, hf⟩ := bs1 hf
          have hJ18 : ∀ (H : Heap) (locs : List Loc) (ls : Array Slot), Ho κ (wM κ) N ad w16 H → va_S (Aof ad N) s.heap H locs → lv_has ls 6 [(0, .ref (ad 0)), (1, .int x1), (2, .int (v4 ||| (1 <<< (v15 &&& 31)))), (4, .int v6)] → W p l e R s m args below meth c H locs 0 0 Q (F0 m 73 ls [.int v17, .int v5]) := by
            intro H locs ls hP hS hl
            refine lv_iadd hx hb dX9_bridge_73 ?_
            refine lv_istore_n (lv' := [(3, .int (v5 + v17)), (0, .ref (ad 0)), (1, .int x1), (2, .int (v4 ||| (1 <<< (v15 &&& 31)))), (4, .int v6)]) hx hb dX9_bridge_74 rfl hl (by decide) rfl (fun ls hl => ?_)
            refine lv_iinc (v := (v6 + 1)) (lv' := [(4, .int (v6 + 1)), (3, .int (v5 + v17)), (0, .ref (ad 0)), (1, .int x1), (2, .int (v4 ||| (1 <<< (v15 &&& 31))))]) hx hb dX9_bridge_75 hl (k := 4) rfl (ni_1 _) (by decide) rfl (fun ls hl => ?_)
            refine lv_goto (tgt := 22) hx hb dX9_bridge_78 (by decide) ?_
            exact ih _ _ _ _ _ _ _ hf hP hS (lv_sub hl [2, 3, 4, 1, 0] rfl)
          clear hf
          have hf := hq18
          clear hq18
          refine lv_icmp_ne (tgt := 72) hx hb dX9_bridge_65 (by decide) (fun hc => ?_) (fun hc => ?_)
          · have hf := iq hc hf
            refine lv_iconst (v := 0) hx hb dX9_bridge_72 nc_0 ?_
            cases hf
            exact hJ18 _ _ _ hP hS (lv_sub hl [2, 3, 0, 5] rfl)
          · have hf := ip hc hf
            refine lv_iconst (v := 1) hx hb dX9_bridge_68 nc_1 ?_
            refine lv_goto (tgt := 73) hx hb dX9_bridge_69 (by decide) ?_
            cases hf
            exact hJ18 _ _ _ hP hS (lv_sub hl [2, 3, 0, 5] rfl)
    exact hL8 _ _ _ _ _ _ _ _ hf hP hS (lv_sub hl [3, 4, 2, 1, 0] rfl)
  clear hf
  have hf := hq2
  clear hq2
  refine lv_icmp_eq (tgt := 15) hx hb dX9_bridge_2 (by decide) (fun hc => ?_) (fun hc => ?_)
  · have hf := ip hc hf
    cases hf
    exact hF2 Bool.false_ne_true _ _ _ hP hS (lv_sub hl [0, 1] rfl)
  · have hf := iq hc hf
    refine lv_aload_n hx hb dX9_bridge_5 rfl (lv_at hl 0 rfl) ?_
    refine lv_iload_n hx hb dX9_bridge_6 rfl (lv_at hl 1 rfl) ?_
    obtain ⟨v3, hv, hf⟩ := bs1 hf
    refine x_cVi (As := [.int x1]) (rest := []) hx hb hml hts hown hE hP hS hAA (kX9_isBeast hN hD hv) cl_X9_152 (nm0 hN) oM_0 vc_9 (Nat.le_trans (by decide) hRf) (Nat.le_trans (by decide) hRl) (Nat.zero_le _) (Nat.zero_le _) rfl hl.1 rfl (Nat.le_of_ble_eq_true rfl) dX9_bridge_7 (fun H locs hP hS => ?_)
    refine lv_if_ne (tgt := 15) hx hb dX9_bridge_10 (by decide) (fun hc => ?_) (fun hc => ?_)
    · have hf := iq hc hf
      cases hf
      exact hF2 Bool.false_ne_true _ _ _ hP hS (lv_sub hl [0, 1] rfl)
    · have hf := ip hc hf
      cases hf
      exact hT2 rfl _ _ _ hP hS (lv_sub hl [] rfl)
def fX9_off (x0 x1 : Int32) : Option (Int32) :=
  if x1 = 0 then
    some 0
  else
    if x1 ≤ x0 then
      some (x0 - x1)
    else
      some (x1 - x0)
set_option maxHeartbeats 4000000 in
set_option maxRecDepth 100000 in
theorem kX9_off {l : Launch} {κ : Kp} {cf : cfT} {N : Nat} {ad : Nat → Nat} {σ : Mm} {x0 x1 : Int32} {r : Int32} (hf : fX9_off x0 x1 = some r) : Met l yX9_off (Cond.code yX9_off cX9_off 2 (some .int) :: TB) (rmX 0 0) (PcX κ cf N ad σ [.int x0, .int x1]) (QI κ cf N ad σ r) 0 0 (Aof ad N) := by
  refine mkI (by decide +kernel) (Nat.le_of_ble_eq_true rfl) (fun p e R s m args below meth c Q H locs ls hC hRf hRl hP hS hret hl => ?_)
  obtain ⟨hx, hb, hml, hown, hts, hE⟩ := hC
  have hAA : ∀ z, Aof ad N z → Aof ad N z := fun _ h => h
  have hl : lv_has ls 2 [(0, .int x0), (1, .int x1)] := hl
  unfold fX9_off at hf
  refine lv_iload_n hx hb dX9_off_0 rfl (lv_at hl 1 rfl) ?_
  refine lv_if_ne (tgt := 8) hx hb dX9_off_1 (by decide) (fun hc => ?_) (fun hc => ?_)
  · have hf := iq hc hf
    refine lv_iload_n hx hb dX9_off_8 rfl (lv_at hl 0 rfl) ?_
    refine lv_iload_n hx hb dX9_off_9 rfl (lv_at hl 1 rfl) ?_
    refine lv_icmp_ge (tgt := 19) hx hb dX9_off_10 (by decide) (fun hc => ?_) (fun hc => ?_)
    · have hf := ip hc hf
      refine lv_iload_n hx hb dX9_off_19 rfl (lv_at hl 0 rfl) ?_
      refine lv_iload_n hx hb dX9_off_20 rfl (lv_at hl 1 rfl) ?_
      refine lv_isub hx hb dX9_off_21 ?_
      cases hf
      exact hret _ _ _ _ dX9_off_22 hP hS
    · have hf := iq hc hf
      refine lv_iload_n hx hb dX9_off_13 rfl (lv_at hl 1 rfl) ?_
      refine lv_iload_n hx hb dX9_off_14 rfl (lv_at hl 0 rfl) ?_
      refine lv_isub hx hb dX9_off_15 ?_
      refine lv_goto (tgt := 22) hx hb dX9_off_16 (by decide) ?_
      cases hf
      exact hret _ _ _ _ dX9_off_22 hP hS
  · have hf := ip hc hf
    refine lv_iconst (v := 0) hx hb dX9_off_4 nc_0 ?_
    refine lv_goto (tgt := 22) hx hb dX9_off_5 (by decide) ?_
    cases hf
    exact hret _ _ _ _ dX9_off_22 hP hS
def LX9_calm_40 (w2 : Mm) (v5 : Int32) : Nat → Int32 → Int32 → Int32 → Option (Int32 × Int32)
  | 0, _, _, _ => none
  | fu + 1, v10, v11, v12 =>
    bd1 (rd w2 2 2 0) fun v16 =>
    if v16 ≤ v12 then
      some (v10, v11)
    else
      bd1 (fX9_rankOf w2 0 v5) fun v17 =>
      bd1 (fX9_rankOf w2 0 v12) fun v18 =>
      bd1 (rd w2 16 16 v5) fun v19 =>
      bd1 (fX9_off v18 v19) fun v20 =>
      bd1 (rd w2 16 16 v5) fun v21 =>
      bd1 (fX9_off v17 v21) fun v22 =>
      bd2 (
        if v22 ≤ v20 then
          some (v10, v11)
        else
          bd1 (rd w2 16 16 v12) fun v26 =>
          bd1 (fX9_off v17 v26) fun v27 =>
          bd1 (rd w2 16 16 v12) fun v28 =>
          bd1 (fX9_off v18 v28) fun v29 =>
          if v29 ≤ v27 then
            some (v10, v11)
          else
            bd1 (
              if v10 = 0 then
                some (((8 * v5) + v12))
              else
                some (v11)) fun (v30 : Int32) =>
            some ((v10 + 1), v30)) fun (v23 : Int32) (v24 : Int32) =>
      LX9_calm_40 w2 v5 fu v23 v24 (v12 + 1)
def LX9_calm_23 (w2 : Mm) : Nat → Int32 → Int32 → Int32 → Option (Int32 × Int32)
  | 0, _, _, _ => none
  | fu + 1, v3, v4, v5 =>
    bd1 (rd w2 2 2 0) fun v9 =>
    if v9 ≤ v5 then
      some (v3, v4)
    else
      bd2 (LX9_calm_40 w2 v5 1000 v3 v4 (v5 + 1)) fun (v14 : Int32) (v15 : Int32) =>
      LX9_calm_23 w2 fu v14 v15 (v5 + 1)
def fX9_calm (w : Mm) (x1 : Int32) : Option (Int32 × Mm) :=
  bd1 (fX9_in x1 0 1) fun v1 =>
  if v1 = 0 then
    some ((-1), w)
  else
    bd1 (fX9_crossNow w) fun w2 =>
    bd2 (LX9_calm_23 w2 1000 0 (-4) 0) fun (v7 : Int32) (v8 : Int32) =>
    if x1 = 0 then
      some (v7, w2)
    else
      some (v8, w2)
set_option maxHeartbeats 4000000 in
set_option maxRecDepth 100000 in
theorem kX9_calm {l : Launch} {κ : Kp} {N : Nat} {ad : Nat → Nat} {w : Mm} {x1 : Int32} {r : Int32} {w' : Mm} (hN : 26 ≤ N) (hD : Apt ad N) (hf : fX9_calm w x1 = some (r, w')) : Met l yX9_calm (Cond.code yX9_calm cX9_calm 8 (some .int) :: TB) (rmX 4 95) (PcX κ (wM κ) N ad w [.ref (ad 0), .int x1]) (QI κ (wM κ) N ad w' r) 0 0 (Aof ad N) := by
  refine mkI (by decide +kernel) (Nat.le_of_ble_eq_true rfl) (fun p e R s m args below meth c Q H locs ls hC hRf hRl hP hS hret hl => ?_)
  obtain ⟨hx, hb, hml, hown, hts, hE⟩ := hC
  have hA : ∀ k, k < N → Aof ad N (ad k) := fun k h => Aof_in h
  have hAA : ∀ z, Aof ad N z → Aof ad N z := fun _ h => h
  have hl : lv_has ls 8 [(0, .ref (ad 0)), (1, .int x1)] := hl
  unfold fX9_calm at hf
  refine lv_iload_n hx hb dX9_calm_0 rfl (lv_at hl 1 rfl) ?_
  refine lv_iconst (v := 0) hx hb dX9_calm_1 nc_0 ?_
  refine lv_iconst (v := 1) hx hb dX9_calm_2 nc_1 ?_
  obtain ⟨v1, hv, hf⟩ := bs1 hf
  refine x_cSi (As := [.int x1, .int 0, .int 1]) (rest := []) hx hb hml hts hown hE hP hS hAA (kX9_in hv) cl_X9_93 (Nat.le_trans (by decide) hRf) (Nat.le_trans (by decide) hRl) (Nat.zero_le _) (Nat.zero_le _) rfl hl.1 rfl (Nat.le_of_ble_eq_true rfl) dX9_calm_3 (fun H locs hP hS => ?_)
  refine lv_if_ne (tgt := 11) hx hb dX9_calm_6 (by decide) (fun hc => ?_) (fun hc => ?_)
  · have hf := iq hc hf
    refine lv_aload_n hx hb dX9_calm_11 rfl (lv_at hl 0 rfl) ?_
    obtain ⟨w2, hv, hf⟩ := bs1 hf
    refine x_cVv (As := []) (rest := []) hx hb hml hts hown hE hP hS hAA (kX9_crossNow hN hD hv) cl_X9_203 (nm0 hN) oM_0 vc_9 (Nat.le_trans (by decide) hRf) (Nat.le_trans (by decide) hRl) (Nat.zero_le _) (Nat.zero_le _) rfl hl.1 rfl (Nat.le_of_ble_eq_true rfl) dX9_calm_12 (fun H locs hP hS => ?_)
    refine lv_iconst (v := 0) hx hb dX9_calm_15 nc_0 ?_
    refine lv_istore_n (lv' := [(2, .int 0), (0, .ref (ad 0)), (1, .int x1)]) hx hb dX9_calm_16 rfl hl (by decide) rfl (fun ls hl => ?_)
    refine lv_bipush (v := (-4)) hx hb dX9_calm_17 nb_m4 ?_
    refine lv_istore_n (lv' := [(3, .int (-4)), (2, .int 0), (0, .ref (ad 0)), (1, .int x1)]) hx hb dX9_calm_19 rfl hl (by decide) rfl (fun ls hl => ?_)
    refine lv_iconst (v := 0) hx hb dX9_calm_20 nc_0 ?_
    refine lv_istore (lv' := [(4, .int 0), (3, .int (-4)), (2, .int 0), (0, .ref (ad 0)), (1, .int x1)]) hx hb dX9_calm_21 hl (by decide) rfl (fun ls hl => ?_)
    obtain ⟨v7, v8, hq6, hf⟩ := bs2 hf
    have hJ6 : ∀ (H : Heap) (locs : List Loc) (ls : Array Slot), Ho κ (wM κ) N ad w2 H → va_S (Aof ad N) s.heap H locs → lv_has ls 8 [(1, .int x1), (2, .int v7), (3, .int v8)] → W p l e R s m args below meth c H locs 0 0 Q (F0 m 155 ls []) := by
      intro H locs ls hP hS hl
      refine lv_iload_n hx hb dX9_calm_155 rfl (lv_at hl 0 rfl) ?_
      refine lv_if_ne (tgt := 163) hx hb dX9_calm_156 (by decide) (fun hc => ?_) (fun hc => ?_)
      · have hf := iq hc hf
        refine lv_iload_n hx hb dX9_calm_163 rfl (lv_at hl 2 rfl) ?_
        cases hf
        exact hret _ _ _ _ dX9_calm_164 hP hS
      · have hf := ip hc hf
        refine lv_iload_n hx hb dX9_calm_159 rfl (lv_at hl 1 rfl) ?_
        refine lv_goto (tgt := 164) hx hb dX9_calm_160 (by decide) ?_
        cases hf
        exact hret _ _ _ _ dX9_calm_164 hP hS
    clear hf
    have hf := hq6
    clear hq6
    have hL6 : ∀ (fu : Nat) (v3 : Int32) (v4 : Int32) (v5 : Int32) (H : Heap) (locs : List Loc) (ls : Array Slot), LX9_calm_23 w2 fu v3 v4 v5 = some (v7, v8) → Ho κ (wM κ) N ad w2 H → va_S (Aof ad N) s.heap H locs → lv_has ls 8 [(0, .ref (ad 0)), (1, .int x1), (2, .int v3), (3, .int v4), (4, .int v5)] → W p l e R s m args below meth c H locs 0 0 Q (F0 m 23 ls []) := by
      intro fu
      induction fu with
      | zero =>
        intro v3 v4 v5 H locs ls hf
        rw [LX9_calm_23] at hf
        cases hf
      | succ fu ih =>
        intro v3 v4 v5 H locs ls hf hP hS hl
        rw [LX9_calm_23] at hf
        refine lv_iload hx hb dX9_calm_23 (lv_at hl 4 rfl) ?_
        refine lv_aload_n hx hb dX9_calm_25 rfl (lv_at hl 0 rfl) ?_
        refine x_get hx hb hts hown hE hP fl_X9_13 (nm0 hN) gM_0_2 dX9_calm_26 ?_
        refine lv_iconst (v := 0) hx hb dX9_calm_29 nc_0 ?_
        obtain ⟨v9, hv, hf⟩ := bs1 hf
        refine x_iald hx hb hE hP (nm2 hN) (aM_2 _) hv dX9_calm_30 ?_
        refine lv_icmp_ge (tgt := 155) hx hb dX9_calm_31 (by decide) (fun hc => ?_) (fun hc => ?_)
        · have hf := ip hc hf
          cases hf
          exact hJ6 _ _ _ hP hS (lv_sub hl [1, 2, 3] rfl)
        · have hf := iq hc hf
          refine lv_iload hx hb dX9_calm_34 (lv_at hl 4 rfl) ?_
          refine lv_iconst (v := 1) hx hb dX9_calm_36 nc_1 ?_
          refine lv_iadd hx hb dX9_calm_37 ?_
          refine lv_istore (lv' := [(5, .int (v5 + 1)), (0, .ref (ad 0)), (1, .int x1), (2, .int v3), (3, .int v4), (4, .int v5)]) hx hb dX9_calm_38 hl (by decide) rfl (fun ls hl => ?_)
          obtain ⟨v14, v15, hq13, hf⟩ := bs2 hf
          have hJ13 : ∀ (H : Heap) (locs : List Loc) (ls : Array Slot), Ho κ (wM κ) N ad w2 H → va_S (Aof ad N) s.heap H locs → lv_has ls 8 [(0, .ref (ad 0)), (1, .int x1), (2, .int v14), (3, .int v15), (4, .int v5)] → W p l e R s m args below meth c H locs 0 0 Q (F0 m 149 ls []) := by
            intro H locs ls hP hS hl
            refine lv_iinc (v := (v5 + 1)) (lv' := [(4, .int (v5 + 1)), (0, .ref (ad 0)), (1, .int x1), (2, .int v14), (3, .int v15)]) hx hb dX9_calm_149 hl (k := 4) rfl (ni_1 _) (by decide) rfl (fun ls hl => ?_)
            refine lv_goto (tgt := 23) hx hb dX9_calm_152 (by decide) ?_
            exact ih _ _ _ _ _ _ hf hP hS (lv_sub hl [1, 2, 3, 4, 0] rfl)
          clear hf
          have hf := hq13
          clear hq13
          have hL13 : ∀ (fu : Nat) (v10 : Int32) (v11 : Int32) (v12 : Int32) (H : Heap) (locs : List Loc) (ls : Array Slot), LX9_calm_40 w2 v5 fu v10 v11 v12 = some (v14, v15) → Ho κ (wM κ) N ad w2 H → va_S (Aof ad N) s.heap H locs → lv_has ls 8 [(0, .ref (ad 0)), (1, .int x1), (2, .int v10), (3, .int v11), (4, .int v5), (5, .int v12)] → W p l e R s m args below meth c H locs 0 0 Q (F0 m 40 ls []) := by
            intro fu
            induction fu with
            | zero =>
              intro v10 v11 v12 H locs ls hf
              rw [LX9_calm_40] at hf
              cases hf
            | succ fu ih =>
              intro v10 v11 v12 H locs ls hf hP hS hl
              rw [LX9_calm_40] at hf
              refine lv_iload hx hb dX9_calm_40 (lv_at hl 5 rfl) ?_
              refine lv_aload_n hx hb dX9_calm_42 rfl (lv_at hl 0 rfl) ?_
              refine x_get hx hb hts hown hE hP fl_X9_13 (nm0 hN) gM_0_2 dX9_calm_43 ?_
              refine lv_iconst (v := 0) hx hb dX9_calm_46 nc_0 ?_
              obtain ⟨v16, hv, hf⟩ := bs1 hf
              refine x_iald hx hb hE hP (nm2 hN) (aM_2 _) hv dX9_calm_47 ?_
              refine lv_icmp_ge (tgt := 149) hx hb dX9_calm_48 (by decide) (fun hc => ?_) (fun hc => ?_)
              · have hf := ip hc hf
                cases hf
                exact hJ13 _ _ _ hP hS (lv_sub hl [0, 1, 2, 3, 4] rfl)
              · have hf := iq hc hf
                refine lv_aload_n hx hb dX9_calm_51 rfl (lv_at hl 0 rfl) ?_
                refine lv_iconst (v := 0) hx hb dX9_calm_52 nc_0 ?_
                refine lv_iload hx hb dX9_calm_53 (lv_at hl 4 rfl) ?_
                obtain ⟨v17, hv, hf⟩ := bs1 hf
                refine x_cVi (As := [.int 0, .int v5]) (rest := []) hx hb hml hts hown hE hP hS hAA (kX9_rankOf hN hD hv) cl_X9_213 (nm0 hN) oM_0 vc_9 (Nat.le_trans (by decide) hRf) (Nat.le_trans (by decide) hRl) (Nat.zero_le _) (Nat.zero_le _) rfl hl.1 rfl (Nat.le_of_ble_eq_true rfl) dX9_calm_55 (fun H locs hP hS => ?_)
                refine lv_istore (lv' := [(6, .int v17), (0, .ref (ad 0)), (1, .int x1), (2, .int v10), (3, .int v11), (4, .int v5), (5, .int v12)]) hx hb dX9_calm_58 hl (by decide) rfl (fun ls hl => ?_)
                refine lv_aload_n hx hb dX9_calm_60 rfl (lv_at hl 1 rfl) ?_
                refine lv_iconst (v := 0) hx hb dX9_calm_61 nc_0 ?_
                refine lv_iload hx hb dX9_calm_62 (lv_at hl 6 rfl) ?_
                obtain ⟨v18, hv, hf⟩ := bs1 hf
                refine x_cVi (As := [.int 0, .int v12]) (rest := []) hx hb hml hts hown hE hP hS hAA (kX9_rankOf hN hD hv) cl_X9_213 (nm0 hN) oM_0 vc_9 (Nat.le_trans (by decide) hRf) (Nat.le_trans (by decide) hRl) (Nat.zero_le _) (Nat.zero_le _) rfl hl.1 rfl (Nat.le_of_ble_eq_true rfl) dX9_calm_64 (fun H locs hP hS => ?_)
                refine lv_istore (lv' := [(7, .int v18), (6, .int v17), (0, .ref (ad 0)), (1, .int x1), (2, .int v10), (3, .int v11), (4, .int v5), (5, .int v12)]) hx hb dX9_calm_67 hl (by decide) rfl (fun ls hl => ?_)
                refine lv_iload hx hb dX9_calm_69 (lv_at hl 0 rfl) ?_
                refine lv_aload_n hx hb dX9_calm_71 rfl (lv_at hl 2 rfl) ?_
                refine x_get hx hb hts hown hE hP fl_X9_56 (nm0 hN) gM_0_16 dX9_calm_72 ?_
                refine lv_iload hx hb dX9_calm_75 (lv_at hl 6 rfl) ?_
                obtain ⟨v19, hv, hf⟩ := bs1 hf
                refine x_iald hx hb hE hP (nm16 hN) (aM_16 _) hv dX9_calm_77 ?_
                obtain ⟨v20, hv, hf⟩ := bs1 hf
                refine x_cSi (As := [.int v18, .int v19]) (rest := []) hx hb hml hts hown hE hP hS hAA (kX9_off hv) cl_X9_235 (Nat.le_trans (by decide) hRf) (Nat.le_trans (by decide) hRl) (Nat.zero_le _) (Nat.zero_le _) rfl hl.1 rfl (Nat.le_of_ble_eq_true rfl) dX9_calm_78 (fun H locs hP hS => ?_)
                refine lv_iload hx hb dX9_calm_81 (lv_at hl 1 rfl) ?_
                refine lv_aload_n hx hb dX9_calm_83 rfl (lv_at hl 2 rfl) ?_
                refine x_get hx hb hts hown hE hP fl_X9_56 (nm0 hN) gM_0_16 dX9_calm_84 ?_
                refine lv_iload hx hb dX9_calm_87 (lv_at hl 6 rfl) ?_
                obtain ⟨v21, hv, hf⟩ := bs1 hf
                refine x_iald hx hb hE hP (nm16 hN) (aM_16 _) hv dX9_calm_89 ?_
                obtain ⟨v22, hv, hf⟩ := bs1 hf
                refine x_cSi (As := [.int v17, .int v21]) (rest := [.int v20]) hx hb hml hts hown hE hP hS hAA (kX9_off hv) cl_X9_235 (Nat.le_trans (by decide) hRf) (Nat.le_trans (by decide) hRl) (Nat.zero_le _) (Nat.zero_le _) rfl hl.1 rfl (Nat.le_of_ble_eq_true rfl) dX9_calm_90 (fun H locs hP hS => ?_)
                obtain ⟨v23, v24, hq25, hf⟩ := bs2 hf
                have hJ25 : ∀ (H : Heap) (locs : List Loc) (ls : Array Slot), Ho κ (wM κ) N ad w2 H → va_S (Aof ad N) s.heap H locs → lv_has ls 8 [(0, .ref (ad 0)), (1, .int x1), (2, .int v23), (3, .int v24), (4, .int v5), (5, .int v12)] → W p l e R s m args below meth c H locs 0 0 Q (F0 m 143 ls []) := by
                  intro H locs ls hP hS hl
                  refine lv_iinc (v := (v12 + 1)) (lv' := [(5, .int (v12 + 1)), (0, .ref (ad 0)), (1, .int x1), (2, .int v23), (3, .int v24), (4, .int v5)]) hx hb dX9_calm_143 hl (k := 5) rfl (ni_1 _) (by decide) rfl (fun ls hl => ?_)
                  refine lv_goto (tgt := 40) hx hb dX9_calm_146 (by decide) ?_
                  exact ih _ _ _ _ _ _ hf hP hS (lv_sub hl [1, 2, 3, 4, 5, 0] rfl)
                clear hf
                have hf := hq25
                clear hq25
                refine lv_icmp_ge (tgt := 143) hx hb dX9_calm_93 (by decide) (fun hc => ?_) (fun hc => ?_)
                · have hf := ip hc hf
                  cases hf
                  exact hJ25 _ _ _ hP hS (lv_sub hl [2, 3, 4, 5, 6, 7] rfl)
                · have hf := iq hc hf
                  refine lv_iload hx hb dX9_calm_96 (lv_at hl 1 rfl) ?_
                  refine lv_aload_n hx hb dX9_calm_98 rfl (lv_at hl 2 rfl) ?_
                  refine x_get hx hb hts hown hE hP fl_X9_56 (nm0 hN) gM_0_16 dX9_calm_99 ?_
                  refine lv_iload hx hb dX9_calm_102 (lv_at hl 7 rfl) ?_
                  obtain ⟨v26, hv, hf⟩ := bs1 hf
                  refine x_iald hx hb hE hP (nm16 hN) (aM_16 _) hv dX9_calm_104 ?_
                  obtain ⟨v27, hv, hf⟩ := bs1 hf
                  refine x_cSi (As := [.int v17, .int v26]) (rest := []) hx hb hml hts hown hE hP hS hAA (kX9_off hv) cl_X9_235 (Nat.le_trans (by decide) hRf) (Nat.le_trans (by decide) hRl) (Nat.zero_le _) (Nat.zero_le _) rfl hl.1 rfl (Nat.le_of_ble_eq_true rfl) dX9_calm_105 (fun H locs hP hS => ?_)
                  refine lv_iload hx hb dX9_calm_108 (lv_at hl 0 rfl) ?_
                  refine lv_aload_n hx hb dX9_calm_110 rfl (lv_at hl 2 rfl) ?_
                  refine x_get hx hb hts hown hE hP fl_X9_56 (nm0 hN) gM_0_16 dX9_calm_111 ?_
                  refine lv_iload hx hb dX9_calm_114 (lv_at hl 7 rfl) ?_
                  obtain ⟨v28, hv, hf⟩ := bs1 hf
                  refine x_iald hx hb hE hP (nm16 hN) (aM_16 _) hv dX9_calm_116 ?_
                  obtain ⟨v29, hv, hf⟩ := bs1 hf
                  refine x_cSi (As := [.int v18, .int v28]) (rest := [.int v27]) hx hb hml hts hown hE hP hS hAA (kX9_off hv) cl_X9_235 (Nat.le_trans (by decide) hRf) (Nat.le_trans (by decide) hRl) (Nat.zero_le _) (Nat.zero_le _) rfl hl.1 rfl (Nat.le_of_ble_eq_true rfl) dX9_calm_117 (fun H locs hP hS => ?_)
                  refine lv_icmp_ge (tgt := 143) hx hb dX9_calm_120 (by decide) (fun hc => ?_) (fun hc => ?_)
                  · have hf := ip hc hf
                    cases hf
                    exact hJ25 _ _ _ hP hS (lv_sub hl [2, 3, 4, 5, 6, 7] rfl)
                  · have hf := iq hc hf
                    refine lv_iload_n hx hb dX9_calm_123 rfl (lv_at hl 4 rfl) ?_
                    obtain ⟨v30, hq31, hf⟩ := bs1 hf
                    have hJ31 : ∀ (H : Heap) (locs : List Loc) (ls : Array Slot), Ho κ (wM κ) N ad w2 H → va_S (Aof ad N) s.heap H locs → lv_has ls 8 [(0, .ref (ad 0)), (1, .int x1), (2, .int v10), (4, .int v5), (5, .int v12)] → W p l e R s m args below meth c H locs 0 0 Q (F0 m 139 ls [.int v30]) := by
                      intro H locs ls hP hS hl
                      refine lv_istore_n (lv' := [(3, .int v30), (0, .ref (ad 0)), (1, .int x1), (2, .int v10), (4, .int v5), (5, .int v12)]) hx hb dX9_calm_139 rfl hl (by decide) rfl (fun ls hl => ?_)
                      refine lv_iinc (v := (v10 + 1)) (lv' := [(2, .int (v10 + 1)), (3, .int v30), (0, .ref (ad 0)), (1, .int x1), (4, .int v5), (5, .int v12)]) hx hb dX9_calm_140 hl (k := 3) rfl (ni_1 _) (by decide) rfl (fun ls hl => ?_)
                      cases hf
                      exact hJ25 _ _ _ hP hS (lv_sub hl [2, 3, 0, 1, 4, 5] rfl)
                    clear hf
                    have hf := hq31
                    clear hq31
                    refine lv_if_ne (tgt := 138) hx hb dX9_calm_124 (by decide) (fun hc => ?_) (fun hc => ?_)
                    · have hf := iq hc hf
                      refine lv_iload_n hx hb dX9_calm_138 rfl (lv_at hl 5 rfl) ?_
                      cases hf
                      exact hJ31 _ _ _ hP hS (lv_sub hl [2, 3, 4, 6, 7] rfl)
                    · have hf := ip hc hf
                      refine lv_bipush (v := 8) hx hb dX9_calm_127 nb_8 ?_
                      refine lv_iload hx hb dX9_calm_129 (lv_at hl 6 rfl) ?_
                      refine lv_imul hx hb dX9_calm_131 ?_
                      refine lv_iload hx hb dX9_calm_132 (lv_at hl 7 rfl) ?_
                      refine lv_iadd hx hb dX9_calm_134 ?_
                      refine lv_goto (tgt := 139) hx hb dX9_calm_135 (by decide) ?_
                      cases hf
                      exact hJ31 _ _ _ hP hS (lv_sub hl [2, 3, 4, 6, 7] rfl)
          exact hL13 _ _ _ _ _ _ _ hf hP hS (lv_sub hl [1, 2, 3, 4, 5, 0] rfl)
    exact hL6 _ _ _ _ _ _ _ hf hP hS (lv_sub hl [3, 4, 2, 1, 0] rfl)
  · have hf := ip hc hf
    refine lv_iconst (v := (-1)) hx hb dX9_calm_9 nc_m1 ?_
    cases hf
    exact hret _ _ _ _ dX9_calm_10 hP hS
def LX9_findOrder_23 (v1 : Int32) (v2 : Int32) : Nat → Int32 → Int32 → Option (Int32)
  | 0, _, _ => none
  | fu + 1, v6, v7 =>
    if v1 ≤ v7 then
      some (v6)
    else
      LX9_findOrder_23 v1 v2 fu (v6 - ((v2 >>> (v7 &&& 31)) &&& 1)) (v7 + 1)
def LX9_findOrder_60 (v1 : Int32) (v2 : Int32) (w3 : Mm) (v9 : Int32) : Nat → Int32 → Int32 → Option (Int32)
  | 0, _, _ => none
  | fu + 1, v12, v13 =>
    if v1 ≤ v13 then
      some (v12)
    else
      bd1 (
        if ((v2 >>> (v13 &&& 31)) &&& 1) = 1 then
          bd1 (rd w3 16 16 v13) fun v18 =>
          bd1 (fX9_off v9 v18) fun v19 =>
          bd1 (rd w3 23 256 (v2 &&& ((1 <<< (v13 &&& 31)) ^^^ (-1)))) fun v20 =>
          some ((v19 + v20))
        else
          some (999)) fun (v16 : Int32) =>
      bd1 (
        if v12 ≤ v16 then
          some (v12)
        else
          some (v16)) fun (v21 : Int32) =>
      LX9_findOrder_60 v1 v2 w3 v9 fu v21 (v13 + 1)
def LX9_findOrder_9 (v1 : Int32) : Nat → Int32 → Mm → Option (Mm)
  | 0, _, _ => none
  | fu + 1, v2, w3 =>
    if (1 <<< (v1 &&& 31)) ≤ v2 then
      some (w3)
    else
      bd1 (LX9_findOrder_23 v1 v2 1000 (v1 + 1) 0) fun (v9 : Int32) =>
      bd1 (
        if v2 = 0 then
          some (0)
        else
          some (999)) fun (v10 : Int32) =>
      bd1 (LX9_findOrder_60 v1 v2 w3 v9 1000 v10 0) fun (v15 : Int32) =>
      bd1 (wr w3 23 256 v2 v15) fun w23 =>
      LX9_findOrder_9 v1 fu (v2 + 1) w23
def fX9_findOrder (w : Mm) : Option (Mm) :=
  bd1 (rd w 2 2 0) fun v1 =>
  bd1 (LX9_findOrder_9 v1 1000 0 w) fun (w5 : Mm) =>
  some w5
set_option maxHeartbeats 4000000 in
set_option maxRecDepth 100000 in
theorem kX9_findOrder {l : Launch} {κ : Kp} {N : Nat} {ad : Nat → Nat} {w : Mm} {w' : Mm} (hN : 26 ≤ N) (hD : Apt ad N) (hf : fX9_findOrder w = some w') : Met l yX9_findOrder (Cond.code yX9_findOrder cX9_findOrder 7 none :: TB) (rmX 1 21) (PcX κ (wM κ) N ad w [.ref (ad 0)]) (QV κ (wM κ) N ad w') 0 0 (Aof ad N) := by
  refine mkV (by decide +kernel) (Nat.le_of_ble_eq_true rfl) (fun p e R s m args below meth c Q H locs ls hC hRf hRl hP hS hret hl => ?_)
  obtain ⟨hx, hb, hml, hown, hts, hE⟩ := hC
  have hA : ∀ k, k < N → Aof ad N (ad k) := fun k h => Aof_in h
  have hAA : ∀ z, Aof ad N z → Aof ad N z := fun _ h => h
  have hl : lv_has ls 7 [(0, .ref (ad 0))] := hl
  unfold fX9_findOrder at hf
  refine lv_aload_n hx hb dX9_findOrder_0 rfl (lv_at hl 0 rfl) ?_
  refine x_get hx hb hts hown hE hP fl_X9_13 (nm0 hN) gM_0_2 dX9_findOrder_1 ?_
  refine lv_iconst (v := 0) hx hb dX9_findOrder_4 nc_0 ?_
  obtain ⟨v1, hv, hf⟩ := bs1 hf
  refine x_iald hx hb hE hP (nm2 hN) (aM_2 _) hv dX9_findOrder_5 ?_
  refine lv_istore_n (lv' := [(1, .int v1), (0, .ref (ad 0))]) hx hb dX9_findOrder_6 rfl hl (by decide) rfl (fun ls hl => ?_)
  refine lv_iconst (v := 0) hx hb dX9_findOrder_7 nc_0 ?_
  refine lv_istore_n (lv' := [(2, .int 0), (1, .int v1), (0, .ref (ad 0))]) hx hb dX9_findOrder_8 rfl hl (by decide) rfl (fun ls hl => ?_)
  obtain ⟨w5, hq4, hf⟩ := bs1 hf
  have hJ4 : ∀ (H : Heap) (locs : List Loc) (ls : Array Slot), Ho κ (wM κ) N ad w5 H → va_S (Aof ad N) s.heap H locs → lv_has ls 7 [] → W p l e R s m args below meth c H locs 0 0 Q (F0 m 145 ls []) := by
    intro H locs ls hP hS hl
    cases hf
    exact hret _ _ _ _ dX9_findOrder_145 hP hS
  clear hf
  have hf := hq4
  clear hq4
  have hL4 : ∀ (fu : Nat) (v2 : Int32) (w3 : Mm) (H : Heap) (locs : List Loc) (ls : Array Slot), LX9_findOrder_9 v1 fu v2 w3 = some (w5) → Ho κ (wM κ) N ad w3 H → va_S (Aof ad N) s.heap H locs → lv_has ls 7 [(0, .ref (ad 0)), (1, .int v1), (2, .int v2)] → W p l e R s m args below meth c H locs 0 0 Q (F0 m 9 ls []) := by
    intro fu
    induction fu with
    | zero =>
      intro v2 w3 H locs ls hf
      rw [LX9_findOrder_9] at hf
      cases hf
    | succ fu ih =>
      intro v2 w3 H locs ls hf hP hS hl
      rw [LX9_findOrder_9] at hf
      refine lv_iload_n hx hb dX9_findOrder_9 rfl (lv_at hl 2 rfl) ?_
      refine lv_iconst (v := 1) hx hb dX9_findOrder_10 nc_1 ?_
      refine lv_iload_n hx hb dX9_findOrder_11 rfl (lv_at hl 1 rfl) ?_
      refine lv_ishl hx hb dX9_findOrder_12 ?_
      refine lv_icmp_ge (tgt := 145) hx hb dX9_findOrder_13 (by decide) (fun hc => ?_) (fun hc => ?_)
      · have hf := ip hc hf
        cases hf
        exact hJ4 _ _ _ hP hS (lv_sub hl [] rfl)
      · have hf := iq hc hf
        refine lv_iload_n hx hb dX9_findOrder_16 rfl (lv_at hl 1 rfl) ?_
        refine lv_iconst (v := 1) hx hb dX9_findOrder_17 nc_1 ?_
        refine lv_iadd hx hb dX9_findOrder_18 ?_
        refine lv_istore_n (lv' := [(3, .int (v1 + 1)), (0, .ref (ad 0)), (1, .int v1), (2, .int v2)]) hx hb dX9_findOrder_19 rfl hl (by decide) rfl (fun ls hl => ?_)
        refine lv_iconst (v := 0) hx hb dX9_findOrder_20 nc_0 ?_
        refine lv_istore (lv' := [(4, .int 0), (3, .int (v1 + 1)), (0, .ref (ad 0)), (1, .int v1), (2, .int v2)]) hx hb dX9_findOrder_21 hl (by decide) rfl (fun ls hl => ?_)
        obtain ⟨v9, hq8, hf⟩ := bs1 hf
        have hJ8 : ∀ (H : Heap) (locs : List Loc) (ls : Array Slot), Ho κ (wM κ) N ad w3 H → va_S (Aof ad N) s.heap H locs → lv_has ls 7 [(0, .ref (ad 0)), (1, .int v1), (2, .int v2), (3, .int v9)] → W p l e R s m args below meth c H locs 0 0 Q (F0 m 44 ls []) := by
          intro H locs ls hP hS hl
          refine lv_iload_n hx hb dX9_findOrder_44 rfl (lv_at hl 2 rfl) ?_
          obtain ⟨v10, hq11, hf⟩ := bs1 hf
          have hJ11 : ∀ (H : Heap) (locs : List Loc) (ls : Array Slot), Ho κ (wM κ) N ad w3 H → va_S (Aof ad N) s.heap H locs → lv_has ls 7 [(0, .ref (ad 0)), (1, .int v1), (2, .int v2), (3, .int v9)] → W p l e R s m args below meth c H locs 0 0 Q (F0 m 55 ls [.int v10]) := by
            intro H locs ls hP hS hl
            refine lv_istore (lv' := [(4, .int v10), (0, .ref (ad 0)), (1, .int v1), (2, .int v2), (3, .int v9)]) hx hb dX9_findOrder_55 hl (by decide) rfl (fun ls hl => ?_)
            refine lv_iconst (v := 0) hx hb dX9_findOrder_57 nc_0 ?_
            refine lv_istore (lv' := [(5, .int 0), (4, .int v10), (0, .ref (ad 0)), (1, .int v1), (2, .int v2), (3, .int v9)]) hx hb dX9_findOrder_58 hl (by decide) rfl (fun ls hl => ?_)
            obtain ⟨v15, hq14, hf⟩ := bs1 hf
            have hJ14 : ∀ (H : Heap) (locs : List Loc) (ls : Array Slot), Ho κ (wM κ) N ad w3 H → va_S (Aof ad N) s.heap H locs → lv_has ls 7 [(0, .ref (ad 0)), (1, .int v1), (2, .int v2), (4, .int v15)] → W p l e R s m args below meth c H locs 0 0 Q (F0 m 131 ls []) := by
              intro H locs ls hP hS hl
              refine lv_aload_n hx hb dX9_findOrder_131 rfl (lv_at hl 0 rfl) ?_
              refine x_get hx hb hts hown hE hP fl_X9_77 (nm0 hN) gM_0_30 dX9_findOrder_132 ?_
              refine lv_iload_n hx hb dX9_findOrder_135 rfl (lv_at hl 2 rfl) ?_
              refine lv_iload hx hb dX9_findOrder_136 (lv_at hl 3 rfl) ?_
              obtain ⟨w23, hv, hf⟩ := bs1 hf
              refine x_iast hx hb hE hD hA hP hS (nm23 hN) aM_23 hv dX9_findOrder_138 (fun H locs hP hS => ?_)
              refine lv_iinc (v := (v2 + 1)) (lv' := [(2, .int (v2 + 1)), (0, .ref (ad 0)), (1, .int v1), (4, .int v15)]) hx hb dX9_findOrder_139 hl (k := 2) rfl (ni_1 _) (by decide) rfl (fun ls hl => ?_)
              refine lv_goto (tgt := 9) hx hb dX9_findOrder_142 (by decide) ?_
              exact ih _ _ _ _ _ hf hP hS (lv_sub hl [1, 2, 0] rfl)
            clear hf
            have hf := hq14
            clear hq14
            have hL14 : ∀ (fu : Nat) (v12 : Int32) (v13 : Int32) (H : Heap) (locs : List Loc) (ls : Array Slot), LX9_findOrder_60 v1 v2 w3 v9 fu v12 v13 = some (v15) → Ho κ (wM κ) N ad w3 H → va_S (Aof ad N) s.heap H locs → lv_has ls 7 [(0, .ref (ad 0)), (1, .int v1), (2, .int v2), (3, .int v9), (4, .int v12), (5, .int v13)] → W p l e R s m args below meth c H locs 0 0 Q (F0 m 60 ls []) := by
              intro fu
              induction fu with
              | zero =>
                intro v12 v13 H locs ls hf
                rw [LX9_findOrder_60] at hf
                cases hf
              | succ fu ih =>
                intro v12 v13 H locs ls hf hP hS hl
                rw [LX9_findOrder_60] at hf
                refine lv_iload hx hb dX9_findOrder_60 (lv_at hl 5 rfl) ?_
                refine lv_iload_n hx hb dX9_findOrder_62 rfl (lv_at hl 1 rfl) ?_
                refine lv_icmp_ge (tgt := 131) hx hb dX9_findOrder_63 (by decide) (fun hc => ?_) (fun hc => ?_)
                · have hf := ip hc hf
                  cases hf
                  exact hJ14 _ _ _ hP hS (lv_sub hl [0, 1, 2, 4] rfl)
                · have hf := iq hc hf
                  refine lv_iload_n hx hb dX9_findOrder_66 rfl (lv_at hl 2 rfl) ?_
                  refine lv_iload hx hb dX9_findOrder_67 (lv_at hl 5 rfl) ?_
                  refine lv_ishr hx hb dX9_findOrder_69 ?_
                  refine lv_iconst (v := 1) hx hb dX9_findOrder_70 nc_1 ?_
                  refine lv_iand hx hb dX9_findOrder_71 ?_
                  refine lv_iconst (v := 1) hx hb dX9_findOrder_72 nc_1 ?_
                  obtain ⟨v16, hq17, hf⟩ := bs1 hf
                  have hJ17 : ∀ (H : Heap) (locs : List Loc) (ls : Array Slot), Ho κ (wM κ) N ad w3 H → va_S (Aof ad N) s.heap H locs → lv_has ls 7 [(0, .ref (ad 0)), (1, .int v1), (2, .int v2), (3, .int v9), (4, .int v12), (5, .int v13)] → W p l e R s m args below meth c H locs 0 0 Q (F0 m 107 ls [.int v16]) := by
                    intro H locs ls hP hS hl
                    refine lv_istore (lv' := [(6, .int v16), (0, .ref (ad 0)), (1, .int v1), (2, .int v2), (3, .int v9), (4, .int v12), (5, .int v13)]) hx hb dX9_findOrder_107 hl (by decide) rfl (fun ls hl => ?_)
                    refine lv_iload hx hb dX9_findOrder_109 (lv_at hl 0 rfl) ?_
                    refine lv_iload hx hb dX9_findOrder_111 (lv_at hl 5 rfl) ?_
                    obtain ⟨v21, hq22, hf⟩ := bs1 hf
                    have hJ22 : ∀ (H : Heap) (locs : List Loc) (ls : Array Slot), Ho κ (wM κ) N ad w3 H → va_S (Aof ad N) s.heap H locs → lv_has ls 7 [(0, .ref (ad 0)), (1, .int v1), (2, .int v2), (3, .int v9), (5, .int v13)] → W p l e R s m args below meth c H locs 0 0 Q (F0 m 123 ls [.int v21]) := by
                      intro H locs ls hP hS hl
                      refine lv_istore (lv' := [(4, .int v21), (0, .ref (ad 0)), (1, .int v1), (2, .int v2), (3, .int v9), (5, .int v13)]) hx hb dX9_findOrder_123 hl (by decide) rfl (fun ls hl => ?_)
                      refine lv_iinc (v := (v13 + 1)) (lv' := [(5, .int (v13 + 1)), (4, .int v21), (0, .ref (ad 0)), (1, .int v1), (2, .int v2), (3, .int v9)]) hx hb dX9_findOrder_125 hl (k := 5) rfl (ni_1 _) (by decide) rfl (fun ls hl => ?_)
                      refine lv_goto (tgt := 60) hx hb dX9_findOrder_128 (by decide) ?_
                      exact ih _ _ _ _ _ hf hP hS (lv_sub hl [2, 3, 4, 5, 1, 0] rfl)
                    clear hf
                    have hf := hq22
                    clear hq22
                    refine lv_icmp_ge (tgt := 121) hx hb dX9_findOrder_113 (by decide) (fun hc => ?_) (fun hc => ?_)
                    · have hf := ip hc hf
                      refine lv_iload hx hb dX9_findOrder_121 (lv_at hl 5 rfl) ?_
                      cases hf
                      exact hJ22 _ _ _ hP hS (lv_sub hl [1, 2, 3, 4, 6] rfl)
                    · have hf := iq hc hf
                      refine lv_iload hx hb dX9_findOrder_116 (lv_at hl 0 rfl) ?_
                      refine lv_goto (tgt := 123) hx hb dX9_findOrder_118 (by decide) ?_
                      cases hf
                      exact hJ22 _ _ _ hP hS (lv_sub hl [1, 2, 3, 4, 6] rfl)
                  clear hf
                  have hf := hq17
                  clear hq17
                  refine lv_icmp_ne (tgt := 104) hx hb dX9_findOrder_73 (by decide) (fun hc => ?_) (fun hc => ?_)
                  · have hf := iq hc hf
                    refine lv_sipush (v := 999) hx hb dX9_findOrder_104 ns_999 ?_
                    cases hf
                    exact hJ17 _ _ _ hP hS (lv_sub hl [0, 1, 2, 3, 4, 5] rfl)
                  · have hf := ip hc hf
                    refine lv_iload_n hx hb dX9_findOrder_76 rfl (lv_at hl 3 rfl) ?_
                    refine lv_aload_n hx hb dX9_findOrder_77 rfl (lv_at hl 0 rfl) ?_
                    refine x_get hx hb hts hown hE hP fl_X9_56 (nm0 hN) gM_0_16 dX9_findOrder_78 ?_
                    refine lv_iload hx hb dX9_findOrder_81 (lv_at hl 5 rfl) ?_
                    obtain ⟨v18, hv, hf⟩ := bs1 hf
                    refine x_iald hx hb hE hP (nm16 hN) (aM_16 _) hv dX9_findOrder_83 ?_
                    obtain ⟨v19, hv, hf⟩ := bs1 hf
                    refine x_cSi (As := [.int v9, .int v18]) (rest := []) hx hb hml hts hown hE hP hS hAA (kX9_off hv) cl_X9_235 (Nat.le_trans (by decide) hRf) (Nat.le_trans (by decide) hRl) (Nat.zero_le _) (Nat.zero_le _) rfl hl.1 rfl (Nat.le_of_ble_eq_true rfl) dX9_findOrder_84 (fun H locs hP hS => ?_)
                    refine lv_aload_n hx hb dX9_findOrder_87 rfl (lv_at hl 0 rfl) ?_
                    refine x_get hx hb hts hown hE hP fl_X9_77 (nm0 hN) gM_0_30 dX9_findOrder_88 ?_
                    refine lv_iload_n hx hb dX9_findOrder_91 rfl (lv_at hl 2 rfl) ?_
                    refine lv_iconst (v := 1) hx hb dX9_findOrder_92 nc_1 ?_
                    refine lv_iload hx hb dX9_findOrder_93 (lv_at hl 5 rfl) ?_
                    refine lv_ishl hx hb dX9_findOrder_95 ?_
                    refine lv_iconst (v := (-1)) hx hb dX9_findOrder_96 nc_m1 ?_
                    refine lv_ixor hx hb dX9_findOrder_97 ?_
                    refine lv_iand hx hb dX9_findOrder_98 ?_
                    obtain ⟨v20, hv, hf⟩ := bs1 hf
                    refine x_iald hx hb hE hP (nm23 hN) (aM_23 _) hv dX9_findOrder_99 ?_
                    refine lv_iadd hx hb dX9_findOrder_100 ?_
                    refine lv_goto (tgt := 107) hx hb dX9_findOrder_101 (by decide) ?_
                    cases hf
                    exact hJ17 _ _ _ hP hS (lv_sub hl [0, 1, 2, 3, 4, 5] rfl)
            exact hL14 _ _ _ _ _ _ hf hP hS (lv_sub hl [2, 3, 4, 5, 1, 0] rfl)
          clear hf
          have hf := hq11
          clear hq11
          refine lv_if_ne (tgt := 52) hx hb dX9_findOrder_45 (by decide) (fun hc => ?_) (fun hc => ?_)
          · have hf := iq hc hf
            refine lv_sipush (v := 999) hx hb dX9_findOrder_52 ns_999 ?_
            cases hf
            exact hJ11 _ _ _ hP hS (lv_sub hl [0, 1, 2, 3] rfl)
          · have hf := ip hc hf
            refine lv_iconst (v := 0) hx hb dX9_findOrder_48 nc_0 ?_
            refine lv_goto (tgt := 55) hx hb dX9_findOrder_49 (by decide) ?_
            cases hf
            exact hJ11 _ _ _ hP hS (lv_sub hl [0, 1, 2, 3] rfl)
        clear hf
        have hf := hq8
        clear hq8
        have hL8 : ∀ (fu : Nat) (v6 : Int32) (v7 : Int32) (H : Heap) (locs : List Loc) (ls : Array Slot), LX9_findOrder_23 v1 v2 fu v6 v7 = some (v9) → Ho κ (wM κ) N ad w3 H → va_S (Aof ad N) s.heap H locs → lv_has ls 7 [(0, .ref (ad 0)), (1, .int v1), (2, .int v2), (3, .int v6), (4, .int v7)] → W p l e R s m args below meth c H locs 0 0 Q (F0 m 23 ls []) := by
          intro fu
          induction fu with
          | zero =>
            intro v6 v7 H locs ls hf
            rw [LX9_findOrder_23] at hf
            cases hf
          | succ fu ih =>
            intro v6 v7 H locs ls hf hP hS hl
            rw [LX9_findOrder_23] at hf
            refine lv_iload hx hb dX9_findOrder_23 (lv_at hl 4 rfl) ?_
            refine lv_iload_n hx hb dX9_findOrder_25 rfl (lv_at hl 1 rfl) ?_
            refine lv_icmp_ge (tgt := 44) hx hb dX9_findOrder_26 (by decide) (fun hc => ?_) (fun hc => ?_)
            · have hf := ip hc hf
              cases hf
              exact hJ8 _ _ _ hP hS (lv_sub hl [0, 1, 2, 3] rfl)
            · have hf := iq hc hf
              refine lv_iload_n hx hb dX9_findOrder_29 rfl (lv_at hl 3 rfl) ?_
              refine lv_iload_n hx hb dX9_findOrder_30 rfl (lv_at hl 2 rfl) ?_
              refine lv_iload hx hb dX9_findOrder_31 (lv_at hl 4 rfl) ?_
              refine lv_ishr hx hb dX9_findOrder_33 ?_
              refine lv_iconst (v := 1) hx hb dX9_findOrder_34 nc_1 ?_
              refine lv_iand hx hb dX9_findOrder_35 ?_
              refine lv_isub hx hb dX9_findOrder_36 ?_
              refine lv_istore_n (lv' := [(3, .int (v6 - ((v2 >>> (v7 &&& 31)) &&& 1))), (0, .ref (ad 0)), (1, .int v1), (2, .int v2), (4, .int v7)]) hx hb dX9_findOrder_37 rfl hl (by decide) rfl (fun ls hl => ?_)
              refine lv_iinc (v := (v7 + 1)) (lv' := [(4, .int (v7 + 1)), (3, .int (v6 - ((v2 >>> (v7 &&& 31)) &&& 1))), (0, .ref (ad 0)), (1, .int v1), (2, .int v2)]) hx hb dX9_findOrder_38 hl (k := 4) rfl (ni_1 _) (by decide) rfl (fun ls hl => ?_)
              refine lv_goto (tgt := 23) hx hb dX9_findOrder_41 (by decide) ?_
              exact ih _ _ _ _ _ hf hP hS (lv_sub hl [2, 3, 4, 1, 0] rfl)
        exact hL8 _ _ _ _ _ _ hf hP hS (lv_sub hl [2, 3, 4, 1, 0] rfl)
  exact hL4 _ _ _ _ _ _ hf hP hS (lv_sub hl [2, 1, 0] rfl)
def LX9_order_55 (w3 : Mm) (v5 : Int32) (v7 : Int32) : Nat → Int32 → Option (Int32)
  | 0, _ => none
  | fu + 1, v10 =>
    if ((v5 >>> (v10 &&& 31)) &&& 1) = 0 then
      LX9_order_55 w3 v5 v7 fu (v10 + 1)
    else
      bd1 (rd w3 16 16 v10) fun v13 =>
      bd1 (fX9_off v7 v13) fun v14 =>
      bd1 (rd w3 23 256 (v5 &&& ((1 <<< (v10 &&& 31)) ^^^ (-1)))) fun v15 =>
      bd1 (rd w3 23 256 v5) fun v16 =>
      if (v14 + v15) = v16 then
        some (v10)
      else
        LX9_order_55 w3 v5 v7 fu (v10 + 1)
def LX9_order_47 (x1 : Int32) (w3 : Mm) : Nat → Int32 → Int32 → Int32 → Option (Int32)
  | 0, _, _, _ => none
  | fu + 1, v5, v6, v7 =>
    if x1 < v7 then
      some (v6)
    else
      bd1 (LX9_order_55 w3 v5 v7 1000 0) fun (v12 : Int32) =>
      LX9_order_47 x1 w3 fu (v5 &&& ((1 <<< (v12 &&& 31)) ^^^ (-1))) v12 (v7 + 1)
def fX9_order (w : Mm) (x1 : Int32) : Option (Int32 × Mm) :=
  bd1 (rd w 2 2 0) fun v1 =>
  bd1 (fX9_in x1 0 v1) fun v2 =>
  if v2 = 0 then
    some ((-1), w)
  else
    bd1 (fX9_findOrder w) fun w3 =>
    bd1 (rd w3 2 2 0) fun v4 =>
    if x1 = 0 then
      bd1 (rd w3 23 256 ((1 <<< (v4 &&& 31)) - 1)) fun v17 =>
      some (v17, w3)
    else
      bd1 (LX9_order_47 x1 w3 1000 ((1 <<< (v4 &&& 31)) - 1) 0 1) fun (v9 : Int32) =>
      some (v9, w3)
set_option maxHeartbeats 4000000 in
set_option maxRecDepth 100000 in
theorem kX9_order {l : Launch} {κ : Kp} {N : Nat} {ad : Nat → Nat} {w : Mm} {x1 : Int32} {r : Int32} {w' : Mm} (hN : 26 ≤ N) (hD : Apt ad N) (hf : fX9_order w x1 = some (r, w')) : Met l yX9_order (Cond.code yX9_order cX9_order 5 (some .int) :: TB) (rmX 2 47) (PcX κ (wM κ) N ad w [.ref (ad 0), .int x1]) (QI κ (wM κ) N ad w' r) 0 0 (Aof ad N) := by
  refine mkI (by decide +kernel) (Nat.le_of_ble_eq_true rfl) (fun p e R s m args below meth c Q H locs ls hC hRf hRl hP hS hret hl => ?_)
  obtain ⟨hx, hb, hml, hown, hts, hE⟩ := hC
  have hA : ∀ k, k < N → Aof ad N (ad k) := fun k h => Aof_in h
  have hAA : ∀ z, Aof ad N z → Aof ad N z := fun _ h => h
  have hl : lv_has ls 5 [(0, .ref (ad 0)), (1, .int x1)] := hl
  unfold fX9_order at hf
  refine lv_iload_n hx hb dX9_order_0 rfl (lv_at hl 1 rfl) ?_
  refine lv_iconst (v := 0) hx hb dX9_order_1 nc_0 ?_
  refine lv_aload_n hx hb dX9_order_2 rfl (lv_at hl 0 rfl) ?_
  refine x_get hx hb hts hown hE hP fl_X9_13 (nm0 hN) gM_0_2 dX9_order_3 ?_
  refine lv_iconst (v := 0) hx hb dX9_order_6 nc_0 ?_
  obtain ⟨v1, hv, hf⟩ := bs1 hf
  refine x_iald hx hb hE hP (nm2 hN) (aM_2 _) hv dX9_order_7 ?_
  obtain ⟨v2, hv, hf⟩ := bs1 hf
  refine x_cSi (As := [.int x1, .int 0, .int v1]) (rest := []) hx hb hml hts hown hE hP hS hAA (kX9_in hv) cl_X9_93 (Nat.le_trans (by decide) hRf) (Nat.le_trans (by decide) hRl) (Nat.zero_le _) (Nat.zero_le _) rfl hl.1 rfl (Nat.le_of_ble_eq_true rfl) dX9_order_8 (fun H locs hP hS => ?_)
  refine lv_if_ne (tgt := 16) hx hb dX9_order_11 (by decide) (fun hc => ?_) (fun hc => ?_)
  · have hf := iq hc hf
    refine lv_aload_n hx hb dX9_order_16 rfl (lv_at hl 0 rfl) ?_
    obtain ⟨w3, hv, hf⟩ := bs1 hf
    refine x_cVv (As := []) (rest := []) hx hb hml hts hown hE hP hS hAA (kX9_findOrder hN hD hv) cl_X9_238 (nm0 hN) oM_0 vc_9 (Nat.le_trans (by decide) hRf) (Nat.le_trans (by decide) hRl) (Nat.zero_le _) (Nat.zero_le _) rfl hl.1 rfl (Nat.le_of_ble_eq_true rfl) dX9_order_17 (fun H locs hP hS => ?_)
    refine lv_iconst (v := 1) hx hb dX9_order_20 nc_1 ?_
    refine lv_aload_n hx hb dX9_order_21 rfl (lv_at hl 0 rfl) ?_
    refine x_get hx hb hts hown hE hP fl_X9_13 (nm0 hN) gM_0_2 dX9_order_22 ?_
    refine lv_iconst (v := 0) hx hb dX9_order_25 nc_0 ?_
    obtain ⟨v4, hv, hf⟩ := bs1 hf
    refine x_iald hx hb hE hP (nm2 hN) (aM_2 _) hv dX9_order_26 ?_
    refine lv_ishl hx hb dX9_order_27 ?_
    refine lv_iconst (v := 1) hx hb dX9_order_28 nc_1 ?_
    refine lv_isub hx hb dX9_order_29 ?_
    refine lv_istore_n (lv' := [(2, .int ((1 <<< (v4 &&& 31)) - 1)), (0, .ref (ad 0)), (1, .int x1)]) hx hb dX9_order_30 rfl hl (by decide) rfl (fun ls hl => ?_)
    refine lv_iload_n hx hb dX9_order_31 rfl (lv_at hl 2 rfl) ?_
    refine lv_if_ne (tgt := 42) hx hb dX9_order_32 (by decide) (fun hc => ?_) (fun hc => ?_)
    · have hf := iq hc hf
      refine lv_iconst (v := 0) hx hb dX9_order_42 nc_0 ?_
      refine lv_istore_n (lv' := [(3, .int 0), (2, .int ((1 <<< (v4 &&& 31)) - 1)), (0, .ref (ad 0)), (1, .int x1)]) hx hb dX9_order_43 rfl hl (by decide) rfl (fun ls hl => ?_)
      refine lv_iconst (v := 1) hx hb dX9_order_44 nc_1 ?_
      refine lv_istore (lv' := [(4, .int 1), (3, .int 0), (2, .int ((1 <<< (v4 &&& 31)) - 1)), (0, .ref (ad 0)), (1, .int x1)]) hx hb dX9_order_45 hl (by decide) rfl (fun ls hl => ?_)
      obtain ⟨v9, hq8, hf⟩ := bs1 hf
      have hJ8 : ∀ (H : Heap) (locs : List Loc) (ls : Array Slot), Ho κ (wM κ) N ad w3 H → va_S (Aof ad N) s.heap H locs → lv_has ls 5 [(3, .int v9)] → W p l e R s m args below meth c H locs 0 0 Q (F0 m 116 ls []) := by
        intro H locs ls hP hS hl
        refine lv_iload_n hx hb dX9_order_116 rfl (lv_at hl 0 rfl) ?_
        cases hf
        exact hret _ _ _ _ dX9_order_117 hP hS
      clear hf
      have hf := hq8
      clear hq8
      have hL8 : ∀ (fu : Nat) (v5 : Int32) (v6 : Int32) (v7 : Int32) (H : Heap) (locs : List Loc) (ls : Array Slot), LX9_order_47 x1 w3 fu v5 v6 v7 = some (v9) → Ho κ (wM κ) N ad w3 H → va_S (Aof ad N) s.heap H locs → lv_has ls 5 [(0, .ref (ad 0)), (1, .int x1), (2, .int v5), (3, .int v6), (4, .int v7)] → W p l e R s m args below meth c H locs 0 0 Q (F0 m 47 ls []) := by
        intro fu
        induction fu with
        | zero =>
          intro v5 v6 v7 H locs ls hf
          rw [LX9_order_47] at hf
          cases hf
        | succ fu ih =>
          intro v5 v6 v7 H locs ls hf hP hS hl
          rw [LX9_order_47] at hf
          refine lv_iload hx hb dX9_order_47 (lv_at hl 4 rfl) ?_
          refine lv_iload_n hx hb dX9_order_49 rfl (lv_at hl 1 rfl) ?_
          refine lv_icmp_gt (tgt := 116) hx hb dX9_order_50 (by decide) (fun hc => ?_) (fun hc => ?_)
          · have hf := ip hc hf
            cases hf
            exact hJ8 _ _ _ hP hS (lv_sub hl [3] rfl)
          · have hf := iq hc hf
            refine lv_iconst (v := 0) hx hb dX9_order_53 nc_0 ?_
            refine lv_istore_n (lv' := [(3, .int 0), (0, .ref (ad 0)), (1, .int x1), (2, .int v5), (4, .int v7)]) hx hb dX9_order_54 rfl hl (by decide) rfl (fun ls hl => ?_)
            obtain ⟨v12, hq11, hf⟩ := bs1 hf
            have hJ11 : ∀ (H : Heap) (locs : List Loc) (ls : Array Slot), Ho κ (wM κ) N ad w3 H → va_S (Aof ad N) s.heap H locs → lv_has ls 5 [(0, .ref (ad 0)), (1, .int x1), (2, .int v5), (3, .int v12), (4, .int v7)] → W p l e R s m args below meth c H locs 0 0 Q (F0 m 102 ls []) := by
              intro H locs ls hP hS hl
              refine lv_iload_n hx hb dX9_order_102 rfl (lv_at hl 2 rfl) ?_
              refine lv_iconst (v := 1) hx hb dX9_order_103 nc_1 ?_
              refine lv_iload_n hx hb dX9_order_104 rfl (lv_at hl 3 rfl) ?_
              refine lv_ishl hx hb dX9_order_105 ?_
              refine lv_iconst (v := (-1)) hx hb dX9_order_106 nc_m1 ?_
              refine lv_ixor hx hb dX9_order_107 ?_
              refine lv_iand hx hb dX9_order_108 ?_
              refine lv_istore_n (lv' := [(2, .int (v5 &&& ((1 <<< (v12 &&& 31)) ^^^ (-1)))), (0, .ref (ad 0)), (1, .int x1), (3, .int v12), (4, .int v7)]) hx hb dX9_order_109 rfl hl (by decide) rfl (fun ls hl => ?_)
              refine lv_iinc (v := (v7 + 1)) (lv' := [(4, .int (v7 + 1)), (2, .int (v5 &&& ((1 <<< (v12 &&& 31)) ^^^ (-1)))), (0, .ref (ad 0)), (1, .int x1), (3, .int v12)]) hx hb dX9_order_110 hl (k := 4) rfl (ni_1 _) (by decide) rfl (fun ls hl => ?_)
              refine lv_goto (tgt := 47) hx hb dX9_order_113 (by decide) ?_
              exact ih _ _ _ _ _ _ hf hP hS (lv_sub hl [2, 3, 1, 4, 0] rfl)
            clear hf
            have hf := hq11
            clear hq11
            have hL11 : ∀ (fu : Nat) (v10 : Int32) (H : Heap) (locs : List Loc) (ls : Array Slot), LX9_order_55 w3 v5 v7 fu v10 = some (v12) → Ho κ (wM κ) N ad w3 H → va_S (Aof ad N) s.heap H locs → lv_has ls 5 [(0, .ref (ad 0)), (1, .int x1), (2, .int v5), (3, .int v10), (4, .int v7)] → W p l e R s m args below meth c H locs 0 0 Q (F0 m 55 ls []) := by
              intro fu
              induction fu with
              | zero =>
                intro v10 H locs ls hf
                rw [LX9_order_55] at hf
                cases hf
              | succ fu ih =>
                intro v10 H locs ls hf hP hS hl
                rw [LX9_order_55] at hf
                refine lv_iload_n hx hb dX9_order_55 rfl (lv_at hl 2 rfl) ?_
                refine lv_iload_n hx hb dX9_order_56 rfl (lv_at hl 3 rfl) ?_
                refine lv_ishr hx hb dX9_order_57 ?_
                refine lv_iconst (v := 1) hx hb dX9_order_58 nc_1 ?_
                refine lv_iand hx hb dX9_order_59 ?_
                refine lv_if_eq (tgt := 96) hx hb dX9_order_60 (by decide) (fun hc => ?_) (fun hc => ?_)
                · have hf := ip hc hf
                  refine lv_iinc (v := (v10 + 1)) (lv' := [(3, .int (v10 + 1)), (0, .ref (ad 0)), (1, .int x1), (2, .int v5), (4, .int v7)]) hx hb dX9_order_96 hl (k := 3) rfl (ni_1 _) (by decide) rfl (fun ls hl => ?_)
                  refine lv_goto (tgt := 55) hx hb dX9_order_99 (by decide) ?_
                  exact ih _ _ _ _ hf hP hS (lv_sub hl [1, 2, 3, 0, 4] rfl)
                · have hf := iq hc hf
                  refine lv_iload hx hb dX9_order_63 (lv_at hl 4 rfl) ?_
                  refine lv_aload_n hx hb dX9_order_65 rfl (lv_at hl 0 rfl) ?_
                  refine x_get hx hb hts hown hE hP fl_X9_56 (nm0 hN) gM_0_16 dX9_order_66 ?_
                  refine lv_iload_n hx hb dX9_order_69 rfl (lv_at hl 3 rfl) ?_
                  obtain ⟨v13, hv, hf⟩ := bs1 hf
                  refine x_iald hx hb hE hP (nm16 hN) (aM_16 _) hv dX9_order_70 ?_
                  obtain ⟨v14, hv, hf⟩ := bs1 hf
                  refine x_cSi (As := [.int v7, .int v13]) (rest := []) hx hb hml hts hown hE hP hS hAA (kX9_off hv) cl_X9_235 (Nat.le_trans (by decide) hRf) (Nat.le_trans (by decide) hRl) (Nat.zero_le _) (Nat.zero_le _) rfl hl.1 rfl (Nat.le_of_ble_eq_true rfl) dX9_order_71 (fun H locs hP hS => ?_)
                  refine lv_aload_n hx hb dX9_order_74 rfl (lv_at hl 0 rfl) ?_
                  refine x_get hx hb hts hown hE hP fl_X9_77 (nm0 hN) gM_0_30 dX9_order_75 ?_
                  refine lv_iload_n hx hb dX9_order_78 rfl (lv_at hl 2 rfl) ?_
                  refine lv_iconst (v := 1) hx hb dX9_order_79 nc_1 ?_
                  refine lv_iload_n hx hb dX9_order_80 rfl (lv_at hl 3 rfl) ?_
                  refine lv_ishl hx hb dX9_order_81 ?_
                  refine lv_iconst (v := (-1)) hx hb dX9_order_82 nc_m1 ?_
                  refine lv_ixor hx hb dX9_order_83 ?_
                  refine lv_iand hx hb dX9_order_84 ?_
                  obtain ⟨v15, hv, hf⟩ := bs1 hf
                  refine x_iald hx hb hE hP (nm23 hN) (aM_23 _) hv dX9_order_85 ?_
                  refine lv_iadd hx hb dX9_order_86 ?_
                  refine lv_aload_n hx hb dX9_order_87 rfl (lv_at hl 0 rfl) ?_
                  refine x_get hx hb hts hown hE hP fl_X9_77 (nm0 hN) gM_0_30 dX9_order_88 ?_
                  refine lv_iload_n hx hb dX9_order_91 rfl (lv_at hl 2 rfl) ?_
                  obtain ⟨v16, hv, hf⟩ := bs1 hf
                  refine x_iald hx hb hE hP (nm23 hN) (aM_23 _) hv dX9_order_92 ?_
                  refine lv_icmp_eq (tgt := 102) hx hb dX9_order_93 (by decide) (fun hc => ?_) (fun hc => ?_)
                  · have hf := ip hc hf
                    cases hf
                    exact hJ11 _ _ _ hP hS (lv_sub hl [0, 1, 2, 3, 4] rfl)
                  · have hf := iq hc hf
                    refine lv_iinc (v := (v10 + 1)) (lv' := [(3, .int (v10 + 1)), (0, .ref (ad 0)), (1, .int x1), (2, .int v5), (4, .int v7)]) hx hb dX9_order_96 hl (k := 3) rfl (ni_1 _) (by decide) rfl (fun ls hl => ?_)
                    refine lv_goto (tgt := 55) hx hb dX9_order_99 (by decide) ?_
                    exact ih _ _ _ _ hf hP hS (lv_sub hl [1, 2, 3, 0, 4] rfl)
            exact hL11 _ _ _ _ _ hf hP hS (lv_sub hl [1, 2, 3, 0, 4] rfl)
      exact hL8 _ _ _ _ _ _ _ hf hP hS (lv_sub hl [3, 4, 2, 1, 0] rfl)
    · have hf := ip hc hf
      refine lv_aload_n hx hb dX9_order_35 rfl (lv_at hl 1 rfl) ?_
      refine x_get hx hb hts hown hE hP fl_X9_77 (nm0 hN) gM_0_30 dX9_order_36 ?_
      refine lv_iload_n hx hb dX9_order_39 rfl (lv_at hl 0 rfl) ?_
      obtain ⟨v17, hv, hf⟩ := bs1 hf
      refine x_iald hx hb hE hP (nm23 hN) (aM_23 _) hv dX9_order_40 ?_
      cases hf
      exact hret _ _ _ _ dX9_order_41 hP hS
  · have hf := ip hc hf
    refine lv_iconst (v := (-1)) hx hb dX9_order_14 nc_m1 ?_
    cases hf
    exact hret _ _ _ _ dX9_order_15 hP hS
