def LX9_harvest_25 (x1 : Int32) (w3 : Mm) : Nat → Int32 → Int32 → Option (Int32)
  | 0, _, _ => none
  | fu + 1, v4, v5 =>
    if x1 ≤ v5 then
      some (v4)
    else
      bd1 (rd w3 2 2 0) fun v8 =>
      bd1 (gz v8) fun _ =>
      bd1 (rd w3 21 8 (v5 - v5 / v8 * v8)) fun v9 =>
      bd1 (rd w3 17 16 v9) fun v10 =>
      LX9_harvest_25 x1 w3 fu (v4 + v10) (v5 + 1)
def fX9_harvest (w : Mm) (x1 : Int32) : Option (Int32 × Mm) :=
  bd1 (fX9_in x1 1 99) fun v1 =>
  if v1 = 0 then
    some ((-1), w)
  else
    bd1 (fX9_crossNow w) fun w2 =>
    bd1 (fX9_findRanks w2 0) fun w3 =>
    bd1 (LX9_harvest_25 x1 w3 1000 0 0) fun (v7 : Int32) =>
    some (v7, w3)
set_option maxHeartbeats 4000000 in
set_option maxRecDepth 100000 in
theorem kX9_harvest {l : Launch} {κ : Kp} {N : Nat} {ad : Nat → Nat} {w : Mm} {x1 : Int32} {r : Int32} {w' : Mm} (hN : 26 ≤ N) (hD : Apt ad N) (hf : fX9_harvest w x1 = some (r, w')) : Met l yX9_harvest (Cond.code yX9_harvest cX9_harvest 4 (some .int) :: TB) (rmX 4 97) (PcX κ (wM κ) N ad w [.ref (ad 0), .int x1]) (QI κ (wM κ) N ad w' r) 0 0 (Aof ad N) := by
  refine mkI (by decide +kernel) (Nat.le_of_ble_eq_true rfl) (fun p e R s m args below meth c Q H locs ls hC hRf hRl hP hS hret hl => ?_)
  obtain ⟨hx, hb, hml, hown, hts, hE⟩ := hC
  have hA : ∀ k, k < N → Aof ad N (ad k) := fun k h => Aof_in h
  have hAA : ∀ z, Aof ad N z → Aof ad N z := fun _ h => h
  have hl : lv_has ls 4 [(0, .ref (ad 0)), (1, .int x1)] := hl
  unfold fX9_harvest at hf
  refine lv_iload_n hx hb dX9_harvest_0 rfl (lv_at hl 1 rfl) ?_
  refine lv_iconst (v := 1) hx hb dX9_harvest_1 nc_1 ?_
  refine lv_bipush (v := 99) hx hb dX9_harvest_2 nb_99 ?_
  obtain ⟨v1, hv, hf⟩ := bs1 hf
  refine x_cSi (As := [.int x1, .int 1, .int 99]) (rest := []) hx hb hml hts hown hE hP hS hAA (kX9_in hv) cl_X9_93 (Nat.le_trans (by decide) hRf) (Nat.le_trans (by decide) hRl) (Nat.zero_le _) (Nat.zero_le _) rfl hl.1 rfl (Nat.le_of_ble_eq_true rfl) dX9_harvest_4 (fun H locs hP hS => ?_)
  refine lv_if_ne (tgt := 12) hx hb dX9_harvest_7 (by decide) (fun hc => ?_) (fun hc => ?_)
  · have hf := iq hc hf
    refine lv_aload_n hx hb dX9_harvest_12 rfl (lv_at hl 0 rfl) ?_
    obtain ⟨w2, hv, hf⟩ := bs1 hf
    refine x_cVv (As := []) (rest := []) hx hb hml hts hown hE hP hS hAA (kX9_crossNow hN hD hv) cl_X9_203 (nm0 hN) oM_0 vc_9 (Nat.le_trans (by decide) hRf) (Nat.le_trans (by decide) hRl) (Nat.zero_le _) (Nat.zero_le _) rfl hl.1 rfl (Nat.le_of_ble_eq_true rfl) dX9_harvest_13 (fun H locs hP hS => ?_)
    refine lv_aload_n hx hb dX9_harvest_16 rfl (lv_at hl 0 rfl) ?_
    refine lv_iconst (v := 0) hx hb dX9_harvest_17 nc_0 ?_
    obtain ⟨w3, hv, hf⟩ := bs1 hf
    refine x_cVv (As := [.int 0]) (rest := []) hx hb hml hts hown hE hP hS hAA (kX9_findRanks hN hD hv) cl_X9_216 (nm0 hN) oM_0 vc_9 (Nat.le_trans (by decide) hRf) (Nat.le_trans (by decide) hRl) (Nat.zero_le _) (Nat.zero_le _) rfl hl.1 rfl (Nat.le_of_ble_eq_true rfl) dX9_harvest_18 (fun H locs hP hS => ?_)
    refine lv_iconst (v := 0) hx hb dX9_harvest_21 nc_0 ?_
    refine lv_istore_n (lv' := [(2, .int 0), (0, .ref (ad 0)), (1, .int x1)]) hx hb dX9_harvest_22 rfl hl (by decide) rfl (fun ls hl => ?_)
    refine lv_iconst (v := 0) hx hb dX9_harvest_23 nc_0 ?_
    refine lv_istore_n (lv' := [(3, .int 0), (2, .int 0), (0, .ref (ad 0)), (1, .int x1)]) hx hb dX9_harvest_24 rfl hl (by decide) rfl (fun ls hl => ?_)
    obtain ⟨v7, hq6, hf⟩ := bs1 hf
    have hJ6 : ∀ (H : Heap) (locs : List Loc) (ls : Array Slot), Ho κ (wM κ) N ad w3 H → va_S (Aof ad N) s.heap H locs → lv_has ls 4 [(2, .int v7)] → W p l e R s m args below meth c H locs 0 0 Q (F0 m 57 ls []) := by
      intro H locs ls hP hS hl
      refine lv_iload_n hx hb dX9_harvest_57 rfl (lv_at hl 0 rfl) ?_
      cases hf
      exact hret _ _ _ _ dX9_harvest_58 hP hS
    clear hf
    have hf := hq6
    clear hq6
    have hL6 : ∀ (fu : Nat) (v4 : Int32) (v5 : Int32) (H : Heap) (locs : List Loc) (ls : Array Slot), LX9_harvest_25 x1 w3 fu v4 v5 = some (v7) → Ho κ (wM κ) N ad w3 H → va_S (Aof ad N) s.heap H locs → lv_has ls 4 [(0, .ref (ad 0)), (1, .int x1), (2, .int v4), (3, .int v5)] → W p l e R s m args below meth c H locs 0 0 Q (F0 m 25 ls []) := by
      intro fu
      induction fu with
      | zero =>
        intro v4 v5 H locs ls hf
        rw [LX9_harvest_25] at hf
        cases hf
      | succ fu ih =>
        intro v4 v5 H locs ls hf hP hS hl
        rw [LX9_harvest_25] at hf
        refine lv_iload_n hx hb dX9_harvest_25 rfl (lv_at hl 3 rfl) ?_
        refine lv_iload_n hx hb dX9_harvest_26 rfl (lv_at hl 1 rfl) ?_
        refine lv_icmp_ge (tgt := 57) hx hb dX9_harvest_27 (by decide) (fun hc => ?_) (fun hc => ?_)
        · have hf := ip hc hf
          cases hf
          exact hJ6 _ _ _ hP hS (lv_sub hl [2] rfl)
        · have hf := iq hc hf
          refine lv_iload_n hx hb dX9_harvest_30 rfl (lv_at hl 2 rfl) ?_
          refine lv_aload_n hx hb dX9_harvest_31 rfl (lv_at hl 0 rfl) ?_
          refine x_get hx hb hts hown hE hP fl_X9_59 (nm0 hN) gM_0_17 dX9_harvest_32 ?_
          refine lv_aload_n hx hb dX9_harvest_35 rfl (lv_at hl 0 rfl) ?_
          refine x_get hx hb hts hown hE hP fl_X9_71 (nm0 hN) gM_0_28 dX9_harvest_36 ?_
          refine lv_iload_n hx hb dX9_harvest_39 rfl (lv_at hl 3 rfl) ?_
          refine lv_aload_n hx hb dX9_harvest_40 rfl (lv_at hl 0 rfl) ?_
          refine x_get hx hb hts hown hE hP fl_X9_13 (nm0 hN) gM_0_2 dX9_harvest_41 ?_
          refine lv_iconst (v := 0) hx hb dX9_harvest_44 nc_0 ?_
          obtain ⟨v8, hv, hf⟩ := bs1 hf
          refine x_iald hx hb hE hP (nm2 hN) (aM_2 _) hv dX9_harvest_45 ?_
          obtain ⟨_, hv, hf⟩ := bs1 hf
          refine lv_irem hx hb dX9_harvest_46 (gz_some hv) ?_
          obtain ⟨v9, hv, hf⟩ := bs1 hf
          refine x_iald hx hb hE hP (nm21 hN) (aM_21 _) hv dX9_harvest_47 ?_
          obtain ⟨v10, hv, hf⟩ := bs1 hf
          refine x_iald hx hb hE hP (nm17 hN) (aM_17 _) hv dX9_harvest_48 ?_
          refine lv_iadd hx hb dX9_harvest_49 ?_
          refine lv_istore_n (lv' := [(2, .int (v4 + v10)), (0, .ref (ad 0)), (1, .int x1), (3, .int v5)]) hx hb dX9_harvest_50 rfl hl (by decide) rfl (fun ls hl => ?_)
          refine lv_iinc (v := (v5 + 1)) (lv' := [(3, .int (v5 + 1)), (2, .int (v4 + v10)), (0, .ref (ad 0)), (1, .int x1)]) hx hb dX9_harvest_51 hl (k := 3) rfl (ni_1 _) (by decide) rfl (fun ls hl => ?_)
          refine lv_goto (tgt := 25) hx hb dX9_harvest_54 (by decide) ?_
          exact ih _ _ _ _ _ hf hP hS (lv_sub hl [2, 3, 1, 0] rfl)
    exact hL6 _ _ _ _ _ _ hf hP hS (lv_sub hl [2, 3, 1, 0] rfl)
  · have hf := ip hc hf
    refine lv_iconst (v := (-1)) hx hb dX9_harvest_10 nc_m1 ?_
    cases hf
    exact hret _ _ _ _ dX9_harvest_11 hP hS
def LX9_odds_62 (x2 : Int32) (x3 : Int32) (v6 : Int32) : Nat → Int32 → Int32 → Option (Int32)
  | 0, _, _ => none
  | fu + 1, v11, v12 =>
    if x2 ≤ v12 then
      some (v11)
    else
      bd1 (
        if ((v6 >>> (v12 &&& 31)) &&& 1) = 1 then
          some (x3)
        else
          some ((10 - x3))) fun (v15 : Int32) =>
      LX9_odds_62 x2 x3 v6 fu (v11 * v15) (v12 + 1)
def LX9_odds_48 (x1 : Int32) (x2 : Int32) (x3 : Int32) : Nat → Int32 → Int32 → Mm → Option (Mm × Int32)
  | 0, _, _, _ => none
  | fu + 1, v5, v6, w7 =>
    if (1 <<< (x2 &&& 31)) ≤ v6 then
      some (w7, v5)
    else
      bd1 (LX9_odds_62 x2 x3 v6 1000 1 0) fun (v14 : Int32) =>
      bd1 (fX9_plain w7) fun w17 =>
      bd1 (pt w17 0 24 v6) fun w18 =>
      bd1 (fX9_cross w18 0 200) fun w19 =>
      bd2 (fX9_firstOne w19 0) fun v20 w21 =>
      bd1 (
        if v20 = x1 then
          some (v14)
        else
          some (0)) fun (v22 : Int32) =>
      LX9_odds_48 x1 x2 x3 fu (v5 + v22) (v6 + 1) w21
def LX9_odds_145 (x2 : Int32) : Nat → Int32 → Int32 → Option (Int32)
  | 0, _, _ => none
  | fu + 1, v24, v25 =>
    if x2 ≤ v25 then
      some (v24)
    else
      LX9_odds_145 x2 fu (v24 * 10) (v25 + 1)
def LX9_odds_172 : Nat → Int32 → Int32 → Option (Int32)
  | 0, _, _ => none
  | fu + 1, v28, v29 =>
    if v29 = 0 then
      some (v28)
    else
      bd1 (gz v29) fun _ =>
      LX9_odds_172 fu v29 (v28 - v28 / v29 * v29)
def fX9_odds (w : Mm) (x1 x2 x3 x4 : Int32) : Option (Int32 × Mm) :=
  bd1 (fX9_isBeast w x1) fun v1 =>
  if v1 = 0 then
    some ((-1), w)
  else
    bd1 (fX9_in x2 0 5) fun v2 =>
    if v2 = 0 then
      some ((-1), w)
    else
      bd1 (fX9_in x3 0 10) fun v3 =>
      if v3 = 0 then
        some ((-1), w)
      else
        bd1 (fX9_in x4 0 1) fun v4 =>
        if v4 = 0 then
          some ((-1), w)
        else
          bd2 (LX9_odds_48 x1 x2 x3 1000 0 0 w) fun (w9 : Mm) (v10 : Int32) =>
          bd1 (LX9_odds_145 x2 1000 1 0) fun (v27 : Int32) =>
          bd1 (LX9_odds_172 1000 v10 v27) fun (v31 : Int32) =>
          if x4 = 0 then
            bd1 (gz v31) fun _ =>
            some ((v10 / v31), w9)
          else
            bd1 (gz v31) fun _ =>
            some ((v27 / v31), w9)
set_option maxHeartbeats 4000000 in
set_option maxRecDepth 100000 in
theorem kX9_odds {l : Launch} {κ : Kp} {N : Nat} {ad : Nat → Nat} {w : Mm} {x1 x2 x3 x4 : Int32} {r : Int32} {w' : Mm} (hN : 26 ≤ N) (hD : Apt ad N) (hf : fX9_odds w x1 x2 x3 x4 = some (r, w')) : Met l yX9_odds (Cond.code yX9_odds cX9_odds 10 (some .int) :: TB) (rmX 5 118) (PcX κ (wM κ) N ad w [.ref (ad 0), .int x1, .int x2, .int x3, .int x4]) (QI κ (wM κ) N ad w' r) 0 0 (Aof ad N) := by
  refine mkI (by decide +kernel) (Nat.le_of_ble_eq_true rfl) (fun p e R s m args below meth c Q H locs ls hC hRf hRl hP hS hret hl => ?_)
  obtain ⟨hx, hb, hml, hown, hts, hE⟩ := hC
  have hA : ∀ k, k < N → Aof ad N (ad k) := fun k h => Aof_in h
  have hAA : ∀ z, Aof ad N z → Aof ad N z := fun _ h => h
  have hl : lv_has ls 10 [(0, .ref (ad 0)), (1, .int x1), (2, .int x2), (3, .int x3), (4, .int x4)] := hl
  unfold fX9_odds at hf
  refine lv_aload_n hx hb dX9_odds_0 rfl (lv_at hl 0 rfl) ?_
  refine lv_iload_n hx hb dX9_odds_1 rfl (lv_at hl 1 rfl) ?_
  obtain ⟨v1, hv, hf⟩ := bs1 hf
  refine x_cVi (As := [.int x1]) (rest := []) hx hb hml hts hown hE hP hS hAA (kX9_isBeast hN hD hv) cl_X9_152 (nm0 hN) oM_0 vc_9 (Nat.le_trans (by decide) hRf) (Nat.le_trans (by decide) hRl) (Nat.zero_le _) (Nat.zero_le _) rfl hl.1 rfl (Nat.le_of_ble_eq_true rfl) dX9_odds_2 (fun H locs hP hS => ?_)
  refine lv_if_eq (tgt := 37) hx hb dX9_odds_5 (by decide) (fun hc => ?_) (fun hc => ?_)
  · have hf := ip hc hf
    refine lv_iconst (v := (-1)) hx hb dX9_odds_37 nc_m1 ?_
    cases hf
    exact hret _ _ _ _ dX9_odds_38 hP hS
  · have hf := iq hc hf
    refine lv_iload_n hx hb dX9_odds_8 rfl (lv_at hl 2 rfl) ?_
    refine lv_iconst (v := 0) hx hb dX9_odds_9 nc_0 ?_
    refine lv_iconst (v := 5) hx hb dX9_odds_10 nc_5 ?_
    obtain ⟨v2, hv, hf⟩ := bs1 hf
    refine x_cSi (As := [.int x2, .int 0, .int 5]) (rest := []) hx hb hml hts hown hE hP hS hAA (kX9_in hv) cl_X9_93 (Nat.le_trans (by decide) hRf) (Nat.le_trans (by decide) hRl) (Nat.zero_le _) (Nat.zero_le _) rfl hl.1 rfl (Nat.le_of_ble_eq_true rfl) dX9_odds_11 (fun H locs hP hS => ?_)
    refine lv_if_eq (tgt := 37) hx hb dX9_odds_14 (by decide) (fun hc => ?_) (fun hc => ?_)
    · have hf := ip hc hf
      refine lv_iconst (v := (-1)) hx hb dX9_odds_37 nc_m1 ?_
      cases hf
      exact hret _ _ _ _ dX9_odds_38 hP hS
    · have hf := iq hc hf
      refine lv_iload_n hx hb dX9_odds_17 rfl (lv_at hl 3 rfl) ?_
      refine lv_iconst (v := 0) hx hb dX9_odds_18 nc_0 ?_
      refine lv_bipush (v := 10) hx hb dX9_odds_19 nb_10 ?_
      obtain ⟨v3, hv, hf⟩ := bs1 hf
      refine x_cSi (As := [.int x3, .int 0, .int 10]) (rest := []) hx hb hml hts hown hE hP hS hAA (kX9_in hv) cl_X9_93 (Nat.le_trans (by decide) hRf) (Nat.le_trans (by decide) hRl) (Nat.zero_le _) (Nat.zero_le _) rfl hl.1 rfl (Nat.le_of_ble_eq_true rfl) dX9_odds_21 (fun H locs hP hS => ?_)
      refine lv_if_eq (tgt := 37) hx hb dX9_odds_24 (by decide) (fun hc => ?_) (fun hc => ?_)
      · have hf := ip hc hf
        refine lv_iconst (v := (-1)) hx hb dX9_odds_37 nc_m1 ?_
        cases hf
        exact hret _ _ _ _ dX9_odds_38 hP hS
      · have hf := iq hc hf
        refine lv_iload hx hb dX9_odds_27 (lv_at hl 4 rfl) ?_
        refine lv_iconst (v := 0) hx hb dX9_odds_29 nc_0 ?_
        refine lv_iconst (v := 1) hx hb dX9_odds_30 nc_1 ?_
        obtain ⟨v4, hv, hf⟩ := bs1 hf
        refine x_cSi (As := [.int x4, .int 0, .int 1]) (rest := []) hx hb hml hts hown hE hP hS hAA (kX9_in hv) cl_X9_93 (Nat.le_trans (by decide) hRf) (Nat.le_trans (by decide) hRl) (Nat.zero_le _) (Nat.zero_le _) rfl hl.1 rfl (Nat.le_of_ble_eq_true rfl) dX9_odds_31 (fun H locs hP hS => ?_)
        refine lv_if_ne (tgt := 39) hx hb dX9_odds_34 (by decide) (fun hc => ?_) (fun hc => ?_)
        · have hf := iq hc hf
          refine lv_iconst (v := 0) hx hb dX9_odds_39 nc_0 ?_
          refine lv_istore (lv' := [(5, .int 0), (0, .ref (ad 0)), (1, .int x1), (2, .int x2), (3, .int x3), (4, .int x4)]) hx hb dX9_odds_40 hl (by decide) rfl (fun ls hl => ?_)
          refine lv_iconst (v := 1) hx hb dX9_odds_42 nc_1 ?_
          refine lv_istore (lv' := [(6, .int 1), (5, .int 0), (0, .ref (ad 0)), (1, .int x1), (2, .int x2), (3, .int x3), (4, .int x4)]) hx hb dX9_odds_43 hl (by decide) rfl (fun ls hl => ?_)
          refine lv_iconst (v := 0) hx hb dX9_odds_45 nc_0 ?_
          refine lv_istore (lv' := [(7, .int 0), (6, .int 1), (5, .int 0), (0, .ref (ad 0)), (1, .int x1), (2, .int x2), (3, .int x3), (4, .int x4)]) hx hb dX9_odds_46 hl (by decide) rfl (fun ls hl => ?_)
          obtain ⟨w9, v10, hq8, hf⟩ := bs2 hf
          have hJ8 : ∀ (H : Heap) (locs : List Loc) (ls : Array Slot), Ho κ (wM κ) N ad w9 H → va_S (Aof ad N) s.heap H locs → lv_has ls 10 [(2, .int x2), (4, .int x4), (5, .int v10), (6, .int 1)] → W p l e R s m args below meth c H locs 0 0 Q (F0 m 142 ls []) := by
            intro H locs ls hP hS hl
            refine lv_iconst (v := 0) hx hb dX9_odds_142 nc_0 ?_
            refine lv_istore (lv' := [(7, .int 0), (2, .int x2), (4, .int x4), (5, .int v10), (6, .int 1)]) hx hb dX9_odds_143 hl (by decide) rfl (fun ls hl => ?_)
            obtain ⟨v27, hq26, hf⟩ := bs1 hf
            have hJ26 : ∀ (H : Heap) (locs : List Loc) (ls : Array Slot), Ho κ (wM κ) N ad w9 H → va_S (Aof ad N) s.heap H locs → lv_has ls 10 [(4, .int x4), (5, .int v10), (6, .int v27)] → W p l e R s m args below meth c H locs 0 0 Q (F0 m 164 ls []) := by
              intro H locs ls hP hS hl
              refine lv_iload hx hb dX9_odds_164 (lv_at hl 1 rfl) ?_
              refine lv_istore (lv' := [(7, .int v10), (4, .int x4), (5, .int v10), (6, .int v27)]) hx hb dX9_odds_166 hl (by decide) rfl (fun ls hl => ?_)
              refine lv_iload hx hb dX9_odds_168 (lv_at hl 3 rfl) ?_
              refine lv_istore (lv' := [(8, .int v27), (7, .int v10), (4, .int x4), (5, .int v10), (6, .int v27)]) hx hb dX9_odds_170 hl (by decide) rfl (fun ls hl => ?_)
              obtain ⟨v31, hq30, hf⟩ := bs1 hf
              have hJ30 : ∀ (H : Heap) (locs : List Loc) (ls : Array Slot), Ho κ (wM κ) N ad w9 H → va_S (Aof ad N) s.heap H locs → lv_has ls 10 [(4, .int x4), (5, .int v10), (6, .int v27), (7, .int v31)] → W p l e R s m args below meth c H locs 0 0 Q (F0 m 195 ls []) := by
                intro H locs ls hP hS hl
                refine lv_iload hx hb dX9_odds_195 (lv_at hl 0 rfl) ?_
                refine lv_if_ne (tgt := 208) hx hb dX9_odds_197 (by decide) (fun hc => ?_) (fun hc => ?_)
                · have hf := iq hc hf
                  refine lv_iload hx hb dX9_odds_208 (lv_at hl 2 rfl) ?_
                  refine lv_iload hx hb dX9_odds_210 (lv_at hl 3 rfl) ?_
                  obtain ⟨_, hv, hf⟩ := bs1 hf
                  refine lv_idiv hx hb dX9_odds_212 (gz_some hv) ?_
                  cases hf
                  exact hret _ _ _ _ dX9_odds_213 hP hS
                · have hf := ip hc hf
                  refine lv_iload hx hb dX9_odds_200 (lv_at hl 1 rfl) ?_
                  refine lv_iload hx hb dX9_odds_202 (lv_at hl 3 rfl) ?_
                  obtain ⟨_, hv, hf⟩ := bs1 hf
                  refine lv_idiv hx hb dX9_odds_204 (gz_some hv) ?_
                  refine lv_goto (tgt := 213) hx hb dX9_odds_205 (by decide) ?_
                  cases hf
                  exact hret _ _ _ _ dX9_odds_213 hP hS
              clear hf
              have hf := hq30
              clear hq30
              have hL30 : ∀ (fu : Nat) (v28 : Int32) (v29 : Int32) (H : Heap) (locs : List Loc) (ls : Array Slot), LX9_odds_172 fu v28 v29 = some (v31) → Ho κ (wM κ) N ad w9 H → va_S (Aof ad N) s.heap H locs → lv_has ls 10 [(4, .int x4), (5, .int v10), (6, .int v27), (7, .int v28), (8, .int v29)] → W p l e R s m args below meth c H locs 0 0 Q (F0 m 172 ls []) := by
                intro fu
                induction fu with
                | zero =>
                  intro v28 v29 H locs ls hf
                  rw [LX9_odds_172] at hf
                  cases hf
                | succ fu ih =>
                  intro v28 v29 H locs ls hf hP hS hl
                  rw [LX9_odds_172] at hf
                  refine lv_iload hx hb dX9_odds_172 (lv_at hl 4 rfl) ?_
                  refine lv_if_eq (tgt := 195) hx hb dX9_odds_174 (by decide) (fun hc => ?_) (fun hc => ?_)
                  · have hf := ip hc hf
                    cases hf
                    exact hJ30 _ _ _ hP hS (lv_sub hl [0, 1, 2, 3] rfl)
                  · have hf := iq hc hf
                    refine lv_iload hx hb dX9_odds_177 (lv_at hl 3 rfl) ?_
                    refine lv_iload hx hb dX9_odds_179 (lv_at hl 4 rfl) ?_
                    obtain ⟨_, hv, hf⟩ := bs1 hf
                    refine lv_irem hx hb dX9_odds_181 (gz_some hv) ?_
                    refine lv_istore (lv' := [(9, .int (v28 - v28 / v29 * v29)), (4, .int x4), (5, .int v10), (6, .int v27), (7, .int v28), (8, .int v29)]) hx hb dX9_odds_182 hl (by decide) rfl (fun ls hl => ?_)
                    refine lv_iload hx hb dX9_odds_184 (lv_at hl 5 rfl) ?_
                    refine lv_istore (lv' := [(7, .int v29), (9, .int (v28 - v28 / v29 * v29)), (4, .int x4), (5, .int v10), (6, .int v27), (8, .int v29)]) hx hb dX9_odds_186 hl (by decide) rfl (fun ls hl => ?_)
                    refine lv_iload hx hb dX9_odds_188 (lv_at hl 1 rfl) ?_
                    refine lv_istore (lv' := [(8, .int (v28 - v28 / v29 * v29)), (7, .int v29), (9, .int (v28 - v28 / v29 * v29)), (4, .int x4), (5, .int v10), (6, .int v27)]) hx hb dX9_odds_190 hl (by decide) rfl (fun ls hl => ?_)
                    refine lv_goto (tgt := 172) hx hb dX9_odds_192 (by decide) ?_
                    exact ih _ _ _ _ _ hf hP hS (lv_sub hl [3, 4, 5, 1, 0] rfl)
              exact hL30 _ _ _ _ _ _ hf hP hS (lv_sub hl [2, 3, 4, 1, 0] rfl)
            clear hf
            have hf := hq26
            clear hq26
            have hL26 : ∀ (fu : Nat) (v24 : Int32) (v25 : Int32) (H : Heap) (locs : List Loc) (ls : Array Slot), LX9_odds_145 x2 fu v24 v25 = some (v27) → Ho κ (wM κ) N ad w9 H → va_S (Aof ad N) s.heap H locs → lv_has ls 10 [(2, .int x2), (4, .int x4), (5, .int v10), (6, .int v24), (7, .int v25)] → W p l e R s m args below meth c H locs 0 0 Q (F0 m 145 ls []) := by
              intro fu
              induction fu with
              | zero =>
                intro v24 v25 H locs ls hf
                rw [LX9_odds_145] at hf
                cases hf
              | succ fu ih =>
                intro v24 v25 H locs ls hf hP hS hl
                rw [LX9_odds_145] at hf
                refine lv_iload hx hb dX9_odds_145 (lv_at hl 4 rfl) ?_
                refine lv_iload_n hx hb dX9_odds_147 rfl (lv_at hl 0 rfl) ?_
                refine lv_icmp_ge (tgt := 164) hx hb dX9_odds_148 (by decide) (fun hc => ?_) (fun hc => ?_)
                · have hf := ip hc hf
                  cases hf
                  exact hJ26 _ _ _ hP hS (lv_sub hl [1, 2, 3] rfl)
                · have hf := iq hc hf
                  refine lv_iload hx hb dX9_odds_151 (lv_at hl 3 rfl) ?_
                  refine lv_bipush (v := 10) hx hb dX9_odds_153 nb_10 ?_
                  refine lv_imul hx hb dX9_odds_155 ?_
                  refine lv_istore (lv' := [(6, .int (v24 * 10)), (2, .int x2), (4, .int x4), (5, .int v10), (7, .int v25)]) hx hb dX9_odds_156 hl (by decide) rfl (fun ls hl => ?_)
                  refine lv_iinc (v := (v25 + 1)) (lv' := [(7, .int (v25 + 1)), (6, .int (v24 * 10)), (2, .int x2), (4, .int x4), (5, .int v10)]) hx hb dX9_odds_158 hl (k := 4) rfl (ni_1 _) (by decide) rfl (fun ls hl => ?_)
                  refine lv_goto (tgt := 145) hx hb dX9_odds_161 (by decide) ?_
                  exact ih _ _ _ _ _ hf hP hS (lv_sub hl [2, 3, 4, 1, 0] rfl)
            exact hL26 _ _ _ _ _ _ hf hP hS (lv_sub hl [1, 2, 3, 4, 0] rfl)
          clear hf
          have hf := hq8
          clear hq8
          have hL8 : ∀ (fu : Nat) (v5 : Int32) (v6 : Int32) (w7 : Mm) (H : Heap) (locs : List Loc) (ls : Array Slot), LX9_odds_48 x1 x2 x3 fu v5 v6 w7 = some (w9, v10) → Ho κ (wM κ) N ad w7 H → va_S (Aof ad N) s.heap H locs → lv_has ls 10 [(0, .ref (ad 0)), (1, .int x1), (2, .int x2), (3, .int x3), (4, .int x4), (5, .int v5), (6, .int 1), (7, .int v6)] → W p l e R s m args below meth c H locs 0 0 Q (F0 m 48 ls []) := by
            intro fu
            induction fu with
            | zero =>
              intro v5 v6 w7 H locs ls hf
              rw [LX9_odds_48] at hf
              cases hf
            | succ fu ih =>
              intro v5 v6 w7 H locs ls hf hP hS hl
              rw [LX9_odds_48] at hf
              refine lv_iload hx hb dX9_odds_48 (lv_at hl 7 rfl) ?_
              refine lv_iconst (v := 1) hx hb dX9_odds_50 nc_1 ?_
              refine lv_iload_n hx hb dX9_odds_51 rfl (lv_at hl 2 rfl) ?_
              refine lv_ishl hx hb dX9_odds_52 ?_
              refine lv_icmp_ge (tgt := 142) hx hb dX9_odds_53 (by decide) (fun hc => ?_) (fun hc => ?_)
              · have hf := ip hc hf
                cases hf
                exact hJ8 _ _ _ hP hS (lv_sub hl [2, 4, 5, 6] rfl)
              · have hf := iq hc hf
                refine lv_iconst (v := 1) hx hb dX9_odds_56 nc_1 ?_
                refine lv_istore (lv' := [(8, .int 1), (0, .ref (ad 0)), (1, .int x1), (2, .int x2), (3, .int x3), (4, .int x4), (5, .int v5), (6, .int 1), (7, .int v6)]) hx hb dX9_odds_57 hl (by decide) rfl (fun ls hl => ?_)
                refine lv_iconst (v := 0) hx hb dX9_odds_59 nc_0 ?_
                refine lv_istore (lv' := [(9, .int 0), (8, .int 1), (0, .ref (ad 0)), (1, .int x1), (2, .int x2), (3, .int x3), (4, .int x4), (5, .int v5), (6, .int 1), (7, .int v6)]) hx hb dX9_odds_60 hl (by decide) rfl (fun ls hl => ?_)
                obtain ⟨v14, hq13, hf⟩ := bs1 hf
                have hJ13 : ∀ (H : Heap) (locs : List Loc) (ls : Array Slot), Ho κ (wM κ) N ad w7 H → va_S (Aof ad N) s.heap H locs → lv_has ls 10 [(0, .ref (ad 0)), (1, .int x1), (2, .int x2), (3, .int x3), (4, .int x4), (5, .int v5), (6, .int 1), (7, .int v6), (8, .int v14)] → W p l e R s m args below meth c H locs 0 0 Q (F0 m 98 ls []) := by
                  intro H locs ls hP hS hl
                  refine lv_aload_n hx hb dX9_odds_98 rfl (lv_at hl 0 rfl) ?_
                  obtain ⟨w17, hv, hf⟩ := bs1 hf
                  refine x_cVv (As := []) (rest := []) hx hb hml hts hown hE hP hS hAA (kX9_plain hN hD hv) cl_X9_196 (nm0 hN) oM_0 vc_9 (Nat.le_trans (by decide) hRf) (Nat.le_trans (by decide) hRl) (Nat.zero_le _) (Nat.zero_le _) rfl hl.1 rfl (Nat.le_of_ble_eq_true rfl) dX9_odds_99 (fun H locs hP hS => ?_)
                  refine lv_aload_n hx hb dX9_odds_102 rfl (lv_at hl 0 rfl) ?_
                  refine lv_iload hx hb dX9_odds_103 (lv_at hl 7 rfl) ?_
                  obtain ⟨w18, hv, hf⟩ := bs1 hf
                  refine x_put hx hb hts hown hE hD hA hP hS fp_X9_182 (nm0 hN) pM_0_24 rfl rfl hv dX9_odds_105 (fun H locs hP hS => ?_)
                  refine lv_aload_n hx hb dX9_odds_108 rfl (lv_at hl 0 rfl) ?_
                  refine lv_iconst (v := 0) hx hb dX9_odds_109 nc_0 ?_
                  refine lv_sipush (v := 200) hx hb dX9_odds_110 ns_200 ?_
                  obtain ⟨w19, hv, hf⟩ := bs1 hf
                  refine x_cVv (As := [.int 0, .int 200]) (rest := []) hx hb hml hts hown hE hP hS hAA (kX9_cross hN hD hv) cl_X9_199 (nm0 hN) oM_0 vc_9 (Nat.le_trans (by decide) hRf) (Nat.le_trans (by decide) hRl) (Nat.zero_le _) (Nat.zero_le _) rfl hl.1 rfl (Nat.le_of_ble_eq_true rfl) dX9_odds_113 (fun H locs hP hS => ?_)
                  refine lv_iload hx hb dX9_odds_116 (lv_at hl 5 rfl) ?_
                  refine lv_aload_n hx hb dX9_odds_118 rfl (lv_at hl 0 rfl) ?_
                  refine lv_iconst (v := 0) hx hb dX9_odds_119 nc_0 ?_
                  obtain ⟨v20, w21, hv, hf⟩ := bs2 hf
                  refine x_cVi (As := [.int 0]) (rest := [.int v5]) hx hb hml hts hown hE hP hS hAA (kX9_firstOne hN hD hv) cl_X9_232 (nm0 hN) oM_0 vc_9 (Nat.le_trans (by decide) hRf) (Nat.le_trans (by decide) hRl) (Nat.zero_le _) (Nat.zero_le _) rfl hl.1 rfl (Nat.le_of_ble_eq_true rfl) dX9_odds_120 (fun H locs hP hS => ?_)
                  refine lv_iload_n hx hb dX9_odds_123 rfl (lv_at hl 1 rfl) ?_
                  obtain ⟨v22, hq23, hf⟩ := bs1 hf
                  have hJ23 : ∀ (H : Heap) (locs : List Loc) (ls : Array Slot), Ho κ (wM κ) N ad w21 H → va_S (Aof ad N) s.heap H locs → lv_has ls 10 [(0, .ref (ad 0)), (1, .int x1), (2, .int x2), (3, .int x3), (4, .int x4), (6, .int 1), (7, .int v6)] → W p l e R s m args below meth c H locs 0 0 Q (F0 m 133 ls [.int v22, .int v5]) := by
                    intro H locs ls hP hS hl
                    refine lv_iadd hx hb dX9_odds_133 ?_
                    refine lv_istore (lv' := [(5, .int (v5 + v22)), (0, .ref (ad 0)), (1, .int x1), (2, .int x2), (3, .int x3), (4, .int x4), (6, .int 1), (7, .int v6)]) hx hb dX9_odds_134 hl (by decide) rfl (fun ls hl => ?_)
                    refine lv_iinc (v := (v6 + 1)) (lv' := [(7, .int (v6 + 1)), (5, .int (v5 + v22)), (0, .ref (ad 0)), (1, .int x1), (2, .int x2), (3, .int x3), (4, .int x4), (6, .int 1)]) hx hb dX9_odds_136 hl (k := 7) rfl (ni_1 _) (by decide) rfl (fun ls hl => ?_)
                    refine lv_goto (tgt := 48) hx hb dX9_odds_139 (by decide) ?_
                    exact ih _ _ _ _ _ _ hf hP hS (lv_sub hl [2, 3, 4, 5, 6, 1, 7, 0] rfl)
                  clear hf
                  have hf := hq23
                  clear hq23
                  refine lv_icmp_ne (tgt := 132) hx hb dX9_odds_124 (by decide) (fun hc => ?_) (fun hc => ?_)
                  · have hf := iq hc hf
                    refine lv_iconst (v := 0) hx hb dX9_odds_132 nc_0 ?_
                    cases hf
                    exact hJ23 _ _ _ hP hS (lv_sub hl [0, 1, 2, 3, 4, 6, 7] rfl)
                  · have hf := ip hc hf
                    refine lv_iload hx hb dX9_odds_127 (lv_at hl 8 rfl) ?_
                    refine lv_goto (tgt := 133) hx hb dX9_odds_129 (by decide) ?_
                    cases hf
                    exact hJ23 _ _ _ hP hS (lv_sub hl [0, 1, 2, 3, 4, 6, 7] rfl)
                clear hf
                have hf := hq13
                clear hq13
                have hL13 : ∀ (fu : Nat) (v11 : Int32) (v12 : Int32) (H : Heap) (locs : List Loc) (ls : Array Slot), LX9_odds_62 x2 x3 v6 fu v11 v12 = some (v14) → Ho κ (wM κ) N ad w7 H → va_S (Aof ad N) s.heap H locs → lv_has ls 10 [(0, .ref (ad 0)), (1, .int x1), (2, .int x2), (3, .int x3), (4, .int x4), (5, .int v5), (6, .int 1), (7, .int v6), (8, .int v11), (9, .int v12)] → W p l e R s m args below meth c H locs 0 0 Q (F0 m 62 ls []) := by
                  intro fu
                  induction fu with
                  | zero =>
                    intro v11 v12 H locs ls hf
                    rw [LX9_odds_62] at hf
                    cases hf
                  | succ fu ih =>
                    intro v11 v12 H locs ls hf hP hS hl
                    rw [LX9_odds_62] at hf
                    refine lv_iload hx hb dX9_odds_62 (lv_at hl 9 rfl) ?_
                    refine lv_iload_n hx hb dX9_odds_64 rfl (lv_at hl 2 rfl) ?_
                    refine lv_icmp_ge (tgt := 98) hx hb dX9_odds_65 (by decide) (fun hc => ?_) (fun hc => ?_)
                    · have hf := ip hc hf
                      cases hf
                      exact hJ13 _ _ _ hP hS (lv_sub hl [0, 1, 2, 3, 4, 5, 6, 7, 8] rfl)
                    · have hf := iq hc hf
                      refine lv_iload hx hb dX9_odds_68 (lv_at hl 8 rfl) ?_
                      refine lv_iload hx hb dX9_odds_70 (lv_at hl 7 rfl) ?_
                      refine lv_iload hx hb dX9_odds_72 (lv_at hl 9 rfl) ?_
                      refine lv_ishr hx hb dX9_odds_74 ?_
                      refine lv_iconst (v := 1) hx hb dX9_odds_75 nc_1 ?_
                      refine lv_iand hx hb dX9_odds_76 ?_
                      refine lv_iconst (v := 1) hx hb dX9_odds_77 nc_1 ?_
                      obtain ⟨v15, hq16, hf⟩ := bs1 hf
                      have hJ16 : ∀ (H : Heap) (locs : List Loc) (ls : Array Slot), Ho κ (wM κ) N ad w7 H → va_S (Aof ad N) s.heap H locs → lv_has ls 10 [(0, .ref (ad 0)), (1, .int x1), (2, .int x2), (3, .int x3), (4, .int x4), (5, .int v5), (6, .int 1), (7, .int v6), (9, .int v12)] → W p l e R s m args below meth c H locs 0 0 Q (F0 m 89 ls [.int v15, .int v11]) := by
                        intro H locs ls hP hS hl
                        refine lv_imul hx hb dX9_odds_89 ?_
                        refine lv_istore (lv' := [(8, .int (v11 * v15)), (0, .ref (ad 0)), (1, .int x1), (2, .int x2), (3, .int x3), (4, .int x4), (5, .int v5), (6, .int 1), (7, .int v6), (9, .int v12)]) hx hb dX9_odds_90 hl (by decide) rfl (fun ls hl => ?_)
                        refine lv_iinc (v := (v12 + 1)) (lv' := [(9, .int (v12 + 1)), (8, .int (v11 * v15)), (0, .ref (ad 0)), (1, .int x1), (2, .int x2), (3, .int x3), (4, .int x4), (5, .int v5), (6, .int 1), (7, .int v6)]) hx hb dX9_odds_92 hl (k := 9) rfl (ni_1 _) (by decide) rfl (fun ls hl => ?_)
                        refine lv_goto (tgt := 62) hx hb dX9_odds_95 (by decide) ?_
                        exact ih _ _ _ _ _ hf hP hS (lv_sub hl [2, 3, 4, 5, 6, 7, 8, 9, 1, 0] rfl)
                      clear hf
                      have hf := hq16
                      clear hq16
                      refine lv_icmp_ne (tgt := 85) hx hb dX9_odds_78 (by decide) (fun hc => ?_) (fun hc => ?_)
                      · have hf := iq hc hf
                        refine lv_bipush (v := 10) hx hb dX9_odds_85 nb_10 ?_
                        refine lv_iload_n hx hb dX9_odds_87 rfl (lv_at hl 3 rfl) ?_
                        refine lv_isub hx hb dX9_odds_88 ?_
                        cases hf
                        exact hJ16 _ _ _ hP hS (lv_sub hl [0, 1, 2, 3, 4, 5, 6, 7, 9] rfl)
                      · have hf := ip hc hf
                        refine lv_iload_n hx hb dX9_odds_81 rfl (lv_at hl 3 rfl) ?_
                        refine lv_goto (tgt := 89) hx hb dX9_odds_82 (by decide) ?_
                        cases hf
                        exact hJ16 _ _ _ hP hS (lv_sub hl [0, 1, 2, 3, 4, 5, 6, 7, 9] rfl)
                exact hL13 _ _ _ _ _ _ hf hP hS (lv_sub hl [2, 3, 4, 5, 6, 7, 8, 9, 1, 0] rfl)
          exact hL8 _ _ _ _ _ _ _ hf hP hS (lv_sub hl [3, 4, 5, 6, 7, 2, 1, 0] rfl)
        · have hf := ip hc hf
          refine lv_iconst (v := (-1)) hx hb dX9_odds_37 nc_m1 ?_
          cases hf
          exact hret _ _ _ _ dX9_odds_38 hP hS
def fX9_seen (w : Mm) (x1 x2 : Int32) : Option (Int32 × Mm) :=
  bd1 (fX9_isBeast w x1) fun v1 =>
  if v1 = 0 then
    some ((-1), w)
  else
    bd1 (rd w 2 2 0) fun v2 =>
    bd1 (fX9_in x2 1 v2) fun v3 =>
    if v3 = 0 then
      some ((-1), w)
    else
      if (w 0 33) = 6 then
        some ((-3), w)
      else
        bd1 (wr w 24 6 (w 0 33) x1) fun w4 =>
        bd1 (wr w4 25 6 (w4 0 33) x2) fun w5 =>
        bd1 (pt w5 0 33 ((w5 0 33) + 1)) fun w6 =>
        some ((w6 0 33), w6)
set_option maxHeartbeats 4000000 in
set_option maxRecDepth 100000 in
theorem kX9_seen {l : Launch} {κ : Kp} {N : Nat} {ad : Nat → Nat} {w : Mm} {x1 x2 : Int32} {r : Int32} {w' : Mm} (hN : 26 ≤ N) (hD : Apt ad N) (hf : fX9_seen w x1 x2 = some (r, w')) : Met l yX9_seen (Cond.code yX9_seen cX9_seen 3 (some .int) :: TB) (rmX 2 43) (PcX κ (wM κ) N ad w [.ref (ad 0), .int x1, .int x2]) (QI κ (wM κ) N ad w' r) 0 0 (Aof ad N) := by
  refine mkI (by decide +kernel) (Nat.le_of_ble_eq_true rfl) (fun p e R s m args below meth c Q H locs ls hC hRf hRl hP hS hret hl => ?_)
  obtain ⟨hx, hb, hml, hown, hts, hE⟩ := hC
  have hA : ∀ k, k < N → Aof ad N (ad k) := fun k h => Aof_in h
  have hAA : ∀ z, Aof ad N z → Aof ad N z := fun _ h => h
  have hl : lv_has ls 3 [(0, .ref (ad 0)), (1, .int x1), (2, .int x2)] := hl
  unfold fX9_seen at hf
  refine lv_aload_n hx hb dX9_seen_0 rfl (lv_at hl 0 rfl) ?_
  refine lv_iload_n hx hb dX9_seen_1 rfl (lv_at hl 1 rfl) ?_
  obtain ⟨v1, hv, hf⟩ := bs1 hf
  refine x_cVi (As := [.int x1]) (rest := []) hx hb hml hts hown hE hP hS hAA (kX9_isBeast hN hD hv) cl_X9_152 (nm0 hN) oM_0 vc_9 (Nat.le_trans (by decide) hRf) (Nat.le_trans (by decide) hRl) (Nat.zero_le _) (Nat.zero_le _) rfl hl.1 rfl (Nat.le_of_ble_eq_true rfl) dX9_seen_2 (fun H locs hP hS => ?_)
  refine lv_if_eq (tgt := 22) hx hb dX9_seen_5 (by decide) (fun hc => ?_) (fun hc => ?_)
  · have hf := ip hc hf
    refine lv_iconst (v := (-1)) hx hb dX9_seen_22 nc_m1 ?_
    cases hf
    exact hret _ _ _ _ dX9_seen_23 hP hS
  · have hf := iq hc hf
    refine lv_iload_n hx hb dX9_seen_8 rfl (lv_at hl 2 rfl) ?_
    refine lv_iconst (v := 1) hx hb dX9_seen_9 nc_1 ?_
    refine lv_aload_n hx hb dX9_seen_10 rfl (lv_at hl 0 rfl) ?_
    refine x_get hx hb hts hown hE hP fl_X9_13 (nm0 hN) gM_0_2 dX9_seen_11 ?_
    refine lv_iconst (v := 0) hx hb dX9_seen_14 nc_0 ?_
    obtain ⟨v2, hv, hf⟩ := bs1 hf
    refine x_iald hx hb hE hP (nm2 hN) (aM_2 _) hv dX9_seen_15 ?_
    obtain ⟨v3, hv, hf⟩ := bs1 hf
    refine x_cSi (As := [.int x2, .int 1, .int v2]) (rest := []) hx hb hml hts hown hE hP hS hAA (kX9_in hv) cl_X9_93 (Nat.le_trans (by decide) hRf) (Nat.le_trans (by decide) hRl) (Nat.zero_le _) (Nat.zero_le _) rfl hl.1 rfl (Nat.le_of_ble_eq_true rfl) dX9_seen_16 (fun H locs hP hS => ?_)
    refine lv_if_ne (tgt := 24) hx hb dX9_seen_19 (by decide) (fun hc => ?_) (fun hc => ?_)
    · have hf := iq hc hf
      refine lv_aload_n hx hb dX9_seen_24 rfl (lv_at hl 0 rfl) ?_
      refine x_get hx hb hts hown hE hP fl_X9_149 (nm0 hN) gM_0_33 dX9_seen_25 ?_
      refine lv_bipush (v := 6) hx hb dX9_seen_28 nb_6 ?_
      refine lv_icmp_ne (tgt := 36) hx hb dX9_seen_30 (by decide) (fun hc => ?_) (fun hc => ?_)
      · have hf := iq hc hf
        refine lv_aload_n hx hb dX9_seen_36 rfl (lv_at hl 0 rfl) ?_
        refine x_get hx hb hts hown hE hP fl_X9_80 (nm0 hN) gM_0_31 dX9_seen_37 ?_
        refine lv_aload_n hx hb dX9_seen_40 rfl (lv_at hl 0 rfl) ?_
        refine x_get hx hb hts hown hE hP fl_X9_149 (nm0 hN) gM_0_33 dX9_seen_41 ?_
        refine lv_iload_n hx hb dX9_seen_44 rfl (lv_at hl 1 rfl) ?_
        obtain ⟨w4, hv, hf⟩ := bs1 hf
        refine x_iast hx hb hE hD hA hP hS (nm24 hN) aM_24 hv dX9_seen_45 (fun H locs hP hS => ?_)
        refine lv_aload_n hx hb dX9_seen_46 rfl (lv_at hl 0 rfl) ?_
        refine x_get hx hb hts hown hE hP fl_X9_83 (nm0 hN) gM_0_32 dX9_seen_47 ?_
        refine lv_aload_n hx hb dX9_seen_50 rfl (lv_at hl 0 rfl) ?_
        refine x_get hx hb hts hown hE hP fl_X9_149 (nm0 hN) gM_0_33 dX9_seen_51 ?_
        refine lv_iload_n hx hb dX9_seen_54 rfl (lv_at hl 2 rfl) ?_
        obtain ⟨w5, hv, hf⟩ := bs1 hf
        refine x_iast hx hb hE hD hA hP hS (nm25 hN) aM_25 hv dX9_seen_55 (fun H locs hP hS => ?_)
        refine lv_aload_n hx hb dX9_seen_56 rfl (lv_at hl 0 rfl) ?_
        refine lv_dup hx hb dX9_seen_57 rfl ?_
        refine x_get hx hb hts hown hE hP fl_X9_149 (nm0 hN) gM_0_33 dX9_seen_58 ?_
        refine lv_iconst (v := 1) hx hb dX9_seen_61 nc_1 ?_
        refine lv_iadd hx hb dX9_seen_62 ?_
        obtain ⟨w6, hv, hf⟩ := bs1 hf
        refine x_put hx hb hts hown hE hD hA hP hS fp_X9_149 (nm0 hN) pM_0_33 rfl rfl hv dX9_seen_63 (fun H locs hP hS => ?_)
        refine lv_aload_n hx hb dX9_seen_66 rfl (lv_at hl 0 rfl) ?_
        refine x_get hx hb hts hown hE hP fl_X9_149 (nm0 hN) gM_0_33 dX9_seen_67 ?_
        cases hf
        exact hret _ _ _ _ dX9_seen_70 hP hS
      · have hf := ip hc hf
        refine lv_bipush (v := (-3)) hx hb dX9_seen_33 nb_m3 ?_
        cases hf
        exact hret _ _ _ _ dX9_seen_35 hP hS
    · have hf := ip hc hf
      refine lv_iconst (v := (-1)) hx hb dX9_seen_22 nc_m1 ?_
      cases hf
      exact hret _ _ _ _ dX9_seen_23 hP hS
def fX9_forget (w : Mm) : Option (Int32 × Mm) :=
  bd1 (pt w 0 33 0) fun w1 =>
  some ((w 0 33), w1)
set_option maxHeartbeats 4000000 in
set_option maxRecDepth 100000 in
theorem kX9_forget {l : Launch} {κ : Kp} {N : Nat} {ad : Nat → Nat} {w : Mm} {r : Int32} {w' : Mm} (hN : 26 ≤ N) (hD : Apt ad N) (hf : fX9_forget w = some (r, w')) : Met l yX9_forget (Cond.code yX9_forget cX9_forget 2 (some .int) :: TB) (rmX 0 0) (PcX κ (wM κ) N ad w [.ref (ad 0)]) (QI κ (wM κ) N ad w' r) 0 0 (Aof ad N) := by
  refine mkI (by decide +kernel) (Nat.le_of_ble_eq_true rfl) (fun p e R s m args below meth c Q H locs ls hC hRf hRl hP hS hret hl => ?_)
  obtain ⟨hx, hb, hml, hown, hts, hE⟩ := hC
  have hA : ∀ k, k < N → Aof ad N (ad k) := fun k h => Aof_in h
  have hAA : ∀ z, Aof ad N z → Aof ad N z := fun _ h => h
  have hl : lv_has ls 2 [(0, .ref (ad 0))] := hl
  unfold fX9_forget at hf
  refine lv_aload_n hx hb dX9_forget_0 rfl (lv_at hl 0 rfl) ?_
  refine x_get hx hb hts hown hE hP fl_X9_149 (nm0 hN) gM_0_33 dX9_forget_1 ?_
  refine lv_istore_n (lv' := [(1, .int (w 0 33)), (0, .ref (ad 0))]) hx hb dX9_forget_4 rfl hl (by decide) rfl (fun ls hl => ?_)
  refine lv_aload_n hx hb dX9_forget_5 rfl (lv_at hl 1 rfl) ?_
  refine lv_iconst (v := 0) hx hb dX9_forget_6 nc_0 ?_
  obtain ⟨w1, hv, hf⟩ := bs1 hf
  refine x_put hx hb hts hown hE hD hA hP hS fp_X9_149 (nm0 hN) pM_0_33 rfl rfl hv dX9_forget_7 (fun H locs hP hS => ?_)
  refine lv_iload_n hx hb dX9_forget_10 rfl (lv_at hl 0 rfl) ?_
  cases hf
  exact hret _ _ _ _ dX9_forget_11 hP hS
def LX9_fits_10 (x1 : Int32) (x2 : Int32) : Nat → Int32 → Mm → Option (Mm)
  | 0, _, _ => none
  | fu + 1, v2, w3 =>
    if 8 ≤ v2 then
      some (w3)
    else
      bd1 (
        if v2 = x1 then
          some (x2)
        else
          some ((-4))) fun (v6 : Int32) =>
      bd1 (wr w3 18 192 (184 + v2) v6) fun w8 =>
      LX9_fits_10 x1 x2 fu (v2 + 1) w8
def LX9_fits_62 (w10 : Mm) : Nat → Int32 → Int32 → Option (Int32)
  | 0, _, _ => none
  | fu + 1, v11, v12 =>
    if (w10 0 33) ≤ v12 then
      some (v11)
    else
      bd1 (
        if v11 = 0 then
          some (0)
        else
          bd1 (rd w10 24 6 v12) fun v17 =>
          bd1 (fX9_rankOf w10 176 v17) fun v18 =>
          bd1 (rd w10 25 6 v12) fun v19 =>
          if v18 = v19 then
            some (1)
          else
            some (0)) fun (v15 : Int32) =>
      LX9_fits_62 w10 fu v15 (v12 + 1)
def fX9_fits (w : Mm) (x1 x2 : Int32) : Option (Int32 × Mm) :=
  bd1 (fX9_copy w 0 176) fun w1 =>
  bd1 (LX9_fits_10 x1 x2 1000 0 w1) fun (w5 : Mm) =>
  bd1 (fX9_plain w5) fun w9 =>
  bd1 (fX9_cross w9 176 200) fun w10 =>
  bd1 (LX9_fits_62 w10 1000 1 0) fun (v14 : Int32) =>
  bd1 (gb v14) fun _ =>
  some (v14, w10)
set_option maxHeartbeats 4000000 in
set_option maxRecDepth 100000 in
theorem kX9_fits {l : Launch} {κ : Kp} {N : Nat} {ad : Nat → Nat} {w : Mm} {x1 x2 : Int32} {r : Int32} {w' : Mm} (hN : 26 ≤ N) (hD : Apt ad N) (hf : fX9_fits w x1 x2 = some (r, w')) : Met l yX9_fits (Cond.code yX9_fits cX9_fits 5 (some .boolean) :: TB) (rmX 3 75) (PcX κ (wM κ) N ad w [.ref (ad 0), .int x1, .int x2]) (QI κ (wM κ) N ad w' r) 0 0 (Aof ad N) := by
  refine mkZ (by decide +kernel) (Nat.le_of_ble_eq_true rfl) (fun p e R s m args below meth c Q H locs ls hC hRf hRl hP hS hret hl => ?_)
  obtain ⟨hx, hb, hml, hown, hts, hE⟩ := hC
  have hA : ∀ k, k < N → Aof ad N (ad k) := fun k h => Aof_in h
  have hAA : ∀ z, Aof ad N z → Aof ad N z := fun _ h => h
  have hl : lv_has ls 5 [(0, .ref (ad 0)), (1, .int x1), (2, .int x2)] := hl
  unfold fX9_fits at hf
  refine lv_aload_n hx hb dX9_fits_0 rfl (lv_at hl 0 rfl) ?_
  refine lv_iconst (v := 0) hx hb dX9_fits_1 nc_0 ?_
  refine lv_sipush (v := 176) hx hb dX9_fits_2 ns_176 ?_
  obtain ⟨w1, hv, hf⟩ := bs1 hf
  refine x_cVv (As := [.int 0, .int 176]) (rest := []) hx hb hml hts hown hE hP hS hAA (kX9_copy hN hD hv) cl_X9_220 (nm0 hN) oM_0 vc_9 (Nat.le_trans (by decide) hRf) (Nat.le_trans (by decide) hRl) (Nat.zero_le _) (Nat.zero_le _) rfl hl.1 rfl (Nat.le_of_ble_eq_true rfl) dX9_fits_5 (fun H locs hP hS => ?_)
  refine lv_iconst (v := 0) hx hb dX9_fits_8 nc_0 ?_
  refine lv_istore_n (lv' := [(3, .int 0), (0, .ref (ad 0)), (1, .int x1), (2, .int x2)]) hx hb dX9_fits_9 rfl hl (by decide) rfl (fun ls hl => ?_)
  obtain ⟨w5, hq4, hf⟩ := bs1 hf
  have hJ4 : ∀ (H : Heap) (locs : List Loc) (ls : Array Slot), Ho κ (wM κ) N ad w5 H → va_S (Aof ad N) s.heap H locs → lv_has ls 5 [(0, .ref (ad 0))] → W p l e R s m args below meth c H locs 0 0 Q (F0 m 43 ls []) := by
    intro H locs ls hP hS hl
    refine lv_aload_n hx hb dX9_fits_43 rfl (lv_at hl 0 rfl) ?_
    obtain ⟨w9, hv, hf⟩ := bs1 hf
    refine x_cVv (As := []) (rest := []) hx hb hml hts hown hE hP hS hAA (kX9_plain hN hD hv) cl_X9_196 (nm0 hN) oM_0 vc_9 (Nat.le_trans (by decide) hRf) (Nat.le_trans (by decide) hRl) (Nat.zero_le _) (Nat.zero_le _) rfl hl.1 rfl (Nat.le_of_ble_eq_true rfl) dX9_fits_44 (fun H locs hP hS => ?_)
    refine lv_aload_n hx hb dX9_fits_47 rfl (lv_at hl 0 rfl) ?_
    refine lv_sipush (v := 176) hx hb dX9_fits_48 ns_176 ?_
    refine lv_sipush (v := 200) hx hb dX9_fits_51 ns_200 ?_
    obtain ⟨w10, hv, hf⟩ := bs1 hf
    refine x_cVv (As := [.int 176, .int 200]) (rest := []) hx hb hml hts hown hE hP hS hAA (kX9_cross hN hD hv) cl_X9_199 (nm0 hN) oM_0 vc_9 (Nat.le_trans (by decide) hRf) (Nat.le_trans (by decide) hRl) (Nat.zero_le _) (Nat.zero_le _) rfl hl.1 rfl (Nat.le_of_ble_eq_true rfl) dX9_fits_54 (fun H locs hP hS => ?_)
    refine lv_iconst (v := 1) hx hb dX9_fits_57 nc_1 ?_
    refine lv_istore_n (lv' := [(3, .int 1), (0, .ref (ad 0))]) hx hb dX9_fits_58 rfl hl (by decide) rfl (fun ls hl => ?_)
    refine lv_iconst (v := 0) hx hb dX9_fits_59 nc_0 ?_
    refine lv_istore (lv' := [(4, .int 0), (3, .int 1), (0, .ref (ad 0))]) hx hb dX9_fits_60 hl (by decide) rfl (fun ls hl => ?_)
    obtain ⟨v14, hq13, hf⟩ := bs1 hf
    have hJ13 : ∀ (H : Heap) (locs : List Loc) (ls : Array Slot), Ho κ (wM κ) N ad w10 H → va_S (Aof ad N) s.heap H locs → lv_has ls 5 [(3, .int v14)] → W p l e R s m args below meth c H locs 0 0 Q (F0 m 111 ls []) := by
      intro H locs ls hP hS hl
      refine lv_iload_n hx hb dX9_fits_111 rfl (lv_at hl 0 rfl) ?_
      obtain ⟨_, hgb, hf⟩ := bs1 hf
      cases hf
      exact hret _ _ _ _ dX9_fits_112 (gb_some hgb) hP hS
    clear hf
    have hf := hq13
    clear hq13
    have hL13 : ∀ (fu : Nat) (v11 : Int32) (v12 : Int32) (H : Heap) (locs : List Loc) (ls : Array Slot), LX9_fits_62 w10 fu v11 v12 = some (v14) → Ho κ (wM κ) N ad w10 H → va_S (Aof ad N) s.heap H locs → lv_has ls 5 [(0, .ref (ad 0)), (3, .int v11), (4, .int v12)] → W p l e R s m args below meth c H locs 0 0 Q (F0 m 62 ls []) := by
      intro fu
      induction fu with
      | zero =>
        intro v11 v12 H locs ls hf
        rw [LX9_fits_62] at hf
        cases hf
      | succ fu ih =>
        intro v11 v12 H locs ls hf hP hS hl
        rw [LX9_fits_62] at hf
        refine lv_iload hx hb dX9_fits_62 (lv_at hl 2 rfl) ?_
        refine lv_aload_n hx hb dX9_fits_64 rfl (lv_at hl 0 rfl) ?_
        refine x_get hx hb hts hown hE hP fl_X9_149 (nm0 hN) gM_0_33 dX9_fits_65 ?_
        refine lv_icmp_ge (tgt := 111) hx hb dX9_fits_68 (by decide) (fun hc => ?_) (fun hc => ?_)
        · have hf := ip hc hf
          cases hf
          exact hJ13 _ _ _ hP hS (lv_sub hl [1] rfl)
        · have hf := iq hc hf
          refine lv_iload_n hx hb dX9_fits_71 rfl (lv_at hl 1 rfl) ?_
          obtain ⟨v15, hq16, hf⟩ := bs1 hf
          have hJ16 : ∀ (H : Heap) (locs : List Loc) (ls : Array Slot), Ho κ (wM κ) N ad w10 H → va_S (Aof ad N) s.heap H locs → lv_has ls 5 [(0, .ref (ad 0)), (4, .int v12)] → W p l e R s m args below meth c H locs 0 0 Q (F0 m 104 ls [.int v15]) := by
            intro H locs ls hP hS hl
            refine lv_istore_n (lv' := [(3, .int v15), (0, .ref (ad 0)), (4, .int v12)]) hx hb dX9_fits_104 rfl hl (by decide) rfl (fun ls hl => ?_)
            refine lv_iinc (v := (v12 + 1)) (lv' := [(4, .int (v12 + 1)), (3, .int v15), (0, .ref (ad 0))]) hx hb dX9_fits_105 hl (k := 2) rfl (ni_1 _) (by decide) rfl (fun ls hl => ?_)
            refine lv_goto (tgt := 62) hx hb dX9_fits_108 (by decide) ?_
            exact ih _ _ _ _ _ hf hP hS (lv_sub hl [2, 1, 0] rfl)
          clear hf
          have hf := hq16
          clear hq16
          refine lv_if_eq (tgt := 103) hx hb dX9_fits_72 (by decide) (fun hc => ?_) (fun hc => ?_)
          · have hf := ip hc hf
            refine lv_iconst (v := 0) hx hb dX9_fits_103 nc_0 ?_
            cases hf
            exact hJ16 _ _ _ hP hS (lv_sub hl [0, 2] rfl)
          · have hf := iq hc hf
            refine lv_aload_n hx hb dX9_fits_75 rfl (lv_at hl 0 rfl) ?_
            refine lv_sipush (v := 176) hx hb dX9_fits_76 ns_176 ?_
            refine lv_aload_n hx hb dX9_fits_79 rfl (lv_at hl 0 rfl) ?_
            refine x_get hx hb hts hown hE hP fl_X9_80 (nm0 hN) gM_0_31 dX9_fits_80 ?_
            refine lv_iload hx hb dX9_fits_83 (lv_at hl 2 rfl) ?_
            obtain ⟨v17, hv, hf⟩ := bs1 hf
            refine x_iald hx hb hE hP (nm24 hN) (aM_24 _) hv dX9_fits_85 ?_
            obtain ⟨v18, hv, hf⟩ := bs1 hf
            refine x_cVi (As := [.int 176, .int v17]) (rest := []) hx hb hml hts hown hE hP hS hAA (kX9_rankOf hN hD hv) cl_X9_213 (nm0 hN) oM_0 vc_9 (Nat.le_trans (by decide) hRf) (Nat.le_trans (by decide) hRl) (Nat.zero_le _) (Nat.zero_le _) rfl hl.1 rfl (Nat.le_of_ble_eq_true rfl) dX9_fits_86 (fun H locs hP hS => ?_)
            refine lv_aload_n hx hb dX9_fits_89 rfl (lv_at hl 0 rfl) ?_
            refine x_get hx hb hts hown hE hP fl_X9_83 (nm0 hN) gM_0_32 dX9_fits_90 ?_
            refine lv_iload hx hb dX9_fits_93 (lv_at hl 2 rfl) ?_
            obtain ⟨v19, hv, hf⟩ := bs1 hf
            refine x_iald hx hb hE hP (nm25 hN) (aM_25 _) hv dX9_fits_95 ?_
            refine lv_icmp_ne (tgt := 103) hx hb dX9_fits_96 (by decide) (fun hc => ?_) (fun hc => ?_)
            · have hf := iq hc hf
              refine lv_iconst (v := 0) hx hb dX9_fits_103 nc_0 ?_
              cases hf
              exact hJ16 _ _ _ hP hS (lv_sub hl [0, 2] rfl)
            · have hf := ip hc hf
              refine lv_iconst (v := 1) hx hb dX9_fits_99 nc_1 ?_
              refine lv_goto (tgt := 104) hx hb dX9_fits_100 (by decide) ?_
              cases hf
              exact hJ16 _ _ _ hP hS (lv_sub hl [0, 2] rfl)
    exact hL13 _ _ _ _ _ _ hf hP hS (lv_sub hl [2, 1, 0] rfl)
  clear hf
  have hf := hq4
  clear hq4
  have hL4 : ∀ (fu : Nat) (v2 : Int32) (w3 : Mm) (H : Heap) (locs : List Loc) (ls : Array Slot), LX9_fits_10 x1 x2 fu v2 w3 = some (w5) → Ho κ (wM κ) N ad w3 H → va_S (Aof ad N) s.heap H locs → lv_has ls 5 [(0, .ref (ad 0)), (1, .int x1), (2, .int x2), (3, .int v2)] → W p l e R s m args below meth c H locs 0 0 Q (F0 m 10 ls []) := by
    intro fu
    induction fu with
    | zero =>
      intro v2 w3 H locs ls hf
      rw [LX9_fits_10] at hf
      cases hf
    | succ fu ih =>
      intro v2 w3 H locs ls hf hP hS hl
      rw [LX9_fits_10] at hf
      refine lv_iload_n hx hb dX9_fits_10 rfl (lv_at hl 3 rfl) ?_
      refine lv_bipush (v := 8) hx hb dX9_fits_11 nb_8 ?_
      refine lv_icmp_ge (tgt := 43) hx hb dX9_fits_13 (by decide) (fun hc => ?_) (fun hc => ?_)
      · have hf := ip hc hf
        cases hf
        exact hJ4 _ _ _ hP hS (lv_sub hl [0] rfl)
      · have hf := iq hc hf
        refine lv_aload_n hx hb dX9_fits_16 rfl (lv_at hl 0 rfl) ?_
        refine x_get hx hb hts hown hE hP fl_X9_62 (nm0 hN) gM_0_20 dX9_fits_17 ?_
        refine lv_sipush (v := 184) hx hb dX9_fits_20 ns_184 ?_
        refine lv_iload_n hx hb dX9_fits_23 rfl (lv_at hl 3 rfl) ?_
        refine lv_iadd hx hb dX9_fits_24 ?_
        refine lv_iload_n hx hb dX9_fits_25 rfl (lv_at hl 3 rfl) ?_
        refine lv_iload_n hx hb dX9_fits_26 rfl (lv_at hl 1 rfl) ?_
        obtain ⟨v6, hq7, hf⟩ := bs1 hf
        have hJ7 : ∀ (H : Heap) (locs : List Loc) (ls : Array Slot), Ho κ (wM κ) N ad w3 H → va_S (Aof ad N) s.heap H locs → lv_has ls 5 [(0, .ref (ad 0)), (1, .int x1), (2, .int x2), (3, .int v2)] → W p l e R s m args below meth c H locs 0 0 Q (F0 m 36 ls [.int v6, .int (184 + v2), .ref (ad 18)]) := by
          intro H locs ls hP hS hl
          obtain ⟨w8, hv, hf⟩ := bs1 hf
          refine x_iast hx hb hE hD hA hP hS (nm18 hN) aM_18 hv dX9_fits_36 (fun H locs hP hS => ?_)
          refine lv_iinc (v := (v2 + 1)) (lv' := [(3, .int (v2 + 1)), (0, .ref (ad 0)), (1, .int x1), (2, .int x2)]) hx hb dX9_fits_37 hl (k := 3) rfl (ni_1 _) (by decide) rfl (fun ls hl => ?_)
          refine lv_goto (tgt := 10) hx hb dX9_fits_40 (by decide) ?_
          exact ih _ _ _ _ _ hf hP hS (lv_sub hl [1, 2, 3, 0] rfl)
        clear hf
        have hf := hq7
        clear hq7
        refine lv_icmp_ne (tgt := 34) hx hb dX9_fits_27 (by decide) (fun hc => ?_) (fun hc => ?_)
        · have hf := iq hc hf
          refine lv_bipush (v := (-4)) hx hb dX9_fits_34 nb_m4 ?_
          cases hf
          exact hJ7 _ _ _ hP hS (lv_sub hl [0, 1, 2, 3] rfl)
        · have hf := ip hc hf
          refine lv_iload_n hx hb dX9_fits_30 rfl (lv_at hl 2 rfl) ?_
          refine lv_goto (tgt := 36) hx hb dX9_fits_31 (by decide) ?_
          cases hf
          exact hJ7 _ _ _ hP hS (lv_sub hl [0, 1, 2, 3] rfl)
  exact hL4 _ _ _ _ _ _ hf hP hS (lv_sub hl [1, 2, 3, 0] rfl)
def LX9_rides_19 : Nat → Int32 → Int32 → Int32 → Mm → Option (Mm × Int32 × Int32)
  | 0, _, _, _, _ => none
  | fu + 1, v2, v3, v4, w5 =>
    if 64 < v4 then
      some (w5, v2, v3)
    else
      bd1 (
        if v4 = 64 then
          some (1)
        else
          bd1 (fX9_isBeast w5 (v4 / 8)) fun v12 =>
          if v12 = 0 then
            some (0)
          else
            bd1 (fX9_isBeast w5 (v4 - v4 / 8 * 8)) fun v13 =>
            if v13 = 0 then
              some (0)
            else
              if (v4 / 8) = (v4 - v4 / 8 * 8) then
                some (0)
              else
                bd1 (fX9_raftOf w5 (v4 / 8)) fun v14 =>
                if v14 = (-4) then
                  some (1)
                else
                  some (0)) fun (v10 : Int32) =>
      bd3 (
        if v10 = 0 then
          some (w5, v2, v3)
        else
          if v4 = 64 then
            bd2 (fX9_fits w5 (-4) (-4)) fun v23 w24 =>
            if v23 = 0 then
              some (w24, v2, v3)
            else
              bd1 (
                if v2 = 0 then
                  some (v4)
                else
                  some (v3)) fun (v25 : Int32) =>
              some (w24, (v2 + 1), v25)
          else
            bd2 (fX9_fits w5 (v4 / 8) (v4 - v4 / 8 * 8)) fun v19 w20 =>
            if v19 = 0 then
              some (w20, v2, v3)
            else
              bd1 (
                if v2 = 0 then
                  some (v4)
                else
                  some (v3)) fun (v21 : Int32) =>
              some (w20, (v2 + 1), v21)) fun (w15 : Mm) (v16 : Int32) (v17 : Int32) =>
      LX9_rides_19 fu v16 v17 (v4 + 1) w15
def fX9_rides (w : Mm) (x1 : Int32) : Option (Int32 × Mm) :=
  bd1 (fX9_in x1 0 1) fun v1 =>
  if v1 = 0 then
    some ((-1), w)
  else
    bd3 (LX9_rides_19 1000 0 (-4) 0 w) fun (w7 : Mm) (v8 : Int32) (v9 : Int32) =>
    if x1 = 0 then
      some (v8, w7)
    else
      some (v9, w7)
set_option maxHeartbeats 4000000 in
set_option maxRecDepth 100000 in
theorem kX9_rides {l : Launch} {κ : Kp} {N : Nat} {ad : Nat → Nat} {w : Mm} {x1 : Int32} {r : Int32} {w' : Mm} (hN : 26 ≤ N) (hD : Apt ad N) (hf : fX9_rides w x1 = some (r, w')) : Met l yX9_rides (Cond.code yX9_rides cX9_rides 8 (some .int) :: TB) (rmX 4 99) (PcX κ (wM κ) N ad w [.ref (ad 0), .int x1]) (QI κ (wM κ) N ad w' r) 0 0 (Aof ad N) := by
  refine mkI (by decide +kernel) (Nat.le_of_ble_eq_true rfl) (fun p e R s m args below meth c Q H locs ls hC hRf hRl hP hS hret hl => ?_)
  obtain ⟨hx, hb, hml, hown, hts, hE⟩ := hC
  have hA : ∀ k, k < N → Aof ad N (ad k) := fun k h => Aof_in h
  have hAA : ∀ z, Aof ad N z → Aof ad N z := fun _ h => h
  have hl : lv_has ls 8 [(0, .ref (ad 0)), (1, .int x1)] := hl
  unfold fX9_rides at hf
  refine lv_iload_n hx hb dX9_rides_0 rfl (lv_at hl 1 rfl) ?_
  refine lv_iconst (v := 0) hx hb dX9_rides_1 nc_0 ?_
  refine lv_iconst (v := 1) hx hb dX9_rides_2 nc_1 ?_
  obtain ⟨v1, hv, hf⟩ := bs1 hf
  refine x_cSi (As := [.int x1, .int 0, .int 1]) (rest := []) hx hb hml hts hown hE hP hS hAA (kX9_in hv) cl_X9_93 (Nat.le_trans (by decide) hRf) (Nat.le_trans (by decide) hRl) (Nat.zero_le _) (Nat.zero_le _) rfl hl.1 rfl (Nat.le_of_ble_eq_true rfl) dX9_rides_3 (fun H locs hP hS => ?_)
  refine lv_if_ne (tgt := 11) hx hb dX9_rides_6 (by decide) (fun hc => ?_) (fun hc => ?_)
  · have hf := iq hc hf
    refine lv_iconst (v := 0) hx hb dX9_rides_11 nc_0 ?_
    refine lv_istore_n (lv' := [(2, .int 0), (0, .ref (ad 0)), (1, .int x1)]) hx hb dX9_rides_12 rfl hl (by decide) rfl (fun ls hl => ?_)
    refine lv_bipush (v := (-4)) hx hb dX9_rides_13 nb_m4 ?_
    refine lv_istore_n (lv' := [(3, .int (-4)), (2, .int 0), (0, .ref (ad 0)), (1, .int x1)]) hx hb dX9_rides_15 rfl hl (by decide) rfl (fun ls hl => ?_)
    refine lv_iconst (v := 0) hx hb dX9_rides_16 nc_0 ?_
    refine lv_istore (lv' := [(4, .int 0), (3, .int (-4)), (2, .int 0), (0, .ref (ad 0)), (1, .int x1)]) hx hb dX9_rides_17 hl (by decide) rfl (fun ls hl => ?_)
    obtain ⟨w7, v8, v9, hq6, hf⟩ := bs3 hf
    have hJ6 : ∀ (H : Heap) (locs : List Loc) (ls : Array Slot), Ho κ (wM κ) N ad w7 H → va_S (Aof ad N) s.heap H locs → lv_has ls 8 [(1, .int x1), (2, .int v8), (3, .int v9)] → W p l e R s m args below meth c H locs 0 0 Q (F0 m 147 ls []) := by
      intro H locs ls hP hS hl
      refine lv_iload_n hx hb dX9_rides_147 rfl (lv_at hl 0 rfl) ?_
      refine lv_if_ne (tgt := 155) hx hb dX9_rides_148 (by decide) (fun hc => ?_) (fun hc => ?_)
      · have hf := iq hc hf
        refine lv_iload_n hx hb dX9_rides_155 rfl (lv_at hl 2 rfl) ?_
        cases hf
        exact hret _ _ _ _ dX9_rides_156 hP hS
      · have hf := ip hc hf
        refine lv_iload_n hx hb dX9_rides_151 rfl (lv_at hl 1 rfl) ?_
        refine lv_goto (tgt := 156) hx hb dX9_rides_152 (by decide) ?_
        cases hf
        exact hret _ _ _ _ dX9_rides_156 hP hS
    clear hf
    have hf := hq6
    clear hq6
    have hL6 : ∀ (fu : Nat) (v2 : Int32) (v3 : Int32) (v4 : Int32) (w5 : Mm) (H : Heap) (locs : List Loc) (ls : Array Slot), LX9_rides_19 fu v2 v3 v4 w5 = some (w7, v8, v9) → Ho κ (wM κ) N ad w5 H → va_S (Aof ad N) s.heap H locs → lv_has ls 8 [(0, .ref (ad 0)), (1, .int x1), (2, .int v2), (3, .int v3), (4, .int v4)] → W p l e R s m args below meth c H locs 0 0 Q (F0 m 19 ls []) := by
      intro fu
      induction fu with
      | zero =>
        intro v2 v3 v4 w5 H locs ls hf
        rw [LX9_rides_19] at hf
        cases hf
      | succ fu ih =>
        intro v2 v3 v4 w5 H locs ls hf hP hS hl
        rw [LX9_rides_19] at hf
        refine lv_iload hx hb dX9_rides_19 (lv_at hl 4 rfl) ?_
        refine lv_bipush (v := 64) hx hb dX9_rides_21 nb_64 ?_
        refine lv_icmp_gt (tgt := 147) hx hb dX9_rides_23 (by decide) (fun hc => ?_) (fun hc => ?_)
        · have hf := ip hc hf
          cases hf
          exact hJ6 _ _ _ hP hS (lv_sub hl [1, 2, 3] rfl)
        · have hf := iq hc hf
          refine lv_iload hx hb dX9_rides_26 (lv_at hl 4 rfl) ?_
          refine lv_bipush (v := 8) hx hb dX9_rides_28 nb_8 ?_
          refine lv_idiv hx hb dX9_rides_30 (by decide) ?_
          refine lv_istore (lv' := [(5, .int (v4 / 8)), (0, .ref (ad 0)), (1, .int x1), (2, .int v2), (3, .int v3), (4, .int v4)]) hx hb dX9_rides_31 hl (by decide) rfl (fun ls hl => ?_)
          refine lv_iload hx hb dX9_rides_33 (lv_at hl 5 rfl) ?_
          refine lv_bipush (v := 8) hx hb dX9_rides_35 nb_8 ?_
          refine lv_irem hx hb dX9_rides_37 (by decide) ?_
          refine lv_istore (lv' := [(6, .int (v4 - v4 / 8 * 8)), (5, .int (v4 / 8)), (0, .ref (ad 0)), (1, .int x1), (2, .int v2), (3, .int v3), (4, .int v4)]) hx hb dX9_rides_38 hl (by decide) rfl (fun ls hl => ?_)
          refine lv_iload hx hb dX9_rides_40 (lv_at hl 6 rfl) ?_
          refine lv_bipush (v := 64) hx hb dX9_rides_42 nb_64 ?_
          obtain ⟨v10, hq11, hf⟩ := bs1 hf
          have hJ11 : ∀ (H : Heap) (locs : List Loc) (ls : Array Slot), Ho κ (wM κ) N ad w5 H → va_S (Aof ad N) s.heap H locs → lv_has ls 8 [(0, .ref (ad 0)), (1, .int x1), (2, .int v2), (3, .int v3), (4, .int v4), (5, .int (v4 / 8)), (6, .int (v4 - v4 / 8 * 8))] → W p l e R s m args below meth c H locs 0 0 Q (F0 m 88 ls [.int v10]) := by
            intro H locs ls hP hS hl
            refine lv_istore (lv' := [(7, .int v10), (0, .ref (ad 0)), (1, .int x1), (2, .int v2), (3, .int v3), (4, .int v4), (5, .int (v4 / 8)), (6, .int (v4 - v4 / 8 * 8))]) hx hb dX9_rides_88 hl (by decide) rfl (fun ls hl => ?_)
            refine lv_iload hx hb dX9_rides_90 (lv_at hl 0 rfl) ?_
            obtain ⟨w15, v16, v17, hq18, hf⟩ := bs3 hf
            have hJ18 : ∀ (H : Heap) (locs : List Loc) (ls : Array Slot), Ho κ (wM κ) N ad w15 H → va_S (Aof ad N) s.heap H locs → lv_has ls 8 [(0, .ref (ad 0)), (1, .int x1), (2, .int v16), (3, .int v17), (4, .int v4)] → W p l e R s m args below meth c H locs 0 0 Q (F0 m 141 ls []) := by
              intro H locs ls hP hS hl
              refine lv_iinc (v := (v4 + 1)) (lv' := [(4, .int (v4 + 1)), (0, .ref (ad 0)), (1, .int x1), (2, .int v16), (3, .int v17)]) hx hb dX9_rides_141 hl (k := 4) rfl (ni_1 _) (by decide) rfl (fun ls hl => ?_)
              refine lv_goto (tgt := 19) hx hb dX9_rides_144 (by decide) ?_
              exact ih _ _ _ _ _ _ _ hf hP hS (lv_sub hl [1, 2, 3, 4, 0] rfl)
            clear hf
            have hf := hq18
            clear hq18
            refine lv_if_eq (tgt := 141) hx hb dX9_rides_92 (by decide) (fun hc => ?_) (fun hc => ?_)
            · have hf := ip hc hf
              cases hf
              exact hJ18 _ _ _ hP hS (lv_sub hl [1, 2, 3, 4, 5] rfl)
            · have hf := iq hc hf
              refine lv_iload hx hb dX9_rides_95 (lv_at hl 5 rfl) ?_
              refine lv_bipush (v := 64) hx hb dX9_rides_97 nb_64 ?_
              refine lv_icmp_ne (tgt := 116) hx hb dX9_rides_99 (by decide) (fun hc => ?_) (fun hc => ?_)
              · have hf := iq hc hf
                refine lv_aload_n hx hb dX9_rides_116 rfl (lv_at hl 1 rfl) ?_
                refine lv_iload hx hb dX9_rides_117 (lv_at hl 6 rfl) ?_
                refine lv_iload hx hb dX9_rides_119 (lv_at hl 7 rfl) ?_
                obtain ⟨v19, w20, hv, hf⟩ := bs2 hf
                refine x_cVi (As := [.int (v4 / 8), .int (v4 - v4 / 8 * 8)]) (rest := []) hx hb hml hts hown hE hP hS hAA (kX9_fits hN hD hv) cl_X9_241 (nm0 hN) oM_0 vc_9 (Nat.le_trans (by decide) hRf) (Nat.le_trans (by decide) hRl) (Nat.zero_le _) (Nat.zero_le _) rfl hl.1 rfl (Nat.le_of_ble_eq_true rfl) dX9_rides_121 (fun H locs hP hS => ?_)
                refine lv_if_eq (tgt := 141) hx hb dX9_rides_124 (by decide) (fun hc => ?_) (fun hc => ?_)
                · have hf := ip hc hf
                  cases hf
                  exact hJ18 _ _ _ hP hS (lv_sub hl [1, 2, 3, 4, 5] rfl)
                · have hf := iq hc hf
                  refine lv_iload_n hx hb dX9_rides_127 rfl (lv_at hl 3 rfl) ?_
                  obtain ⟨v21, hq22, hf⟩ := bs1 hf
                  have hJ22 : ∀ (H : Heap) (locs : List Loc) (ls : Array Slot), Ho κ (wM κ) N ad w20 H → va_S (Aof ad N) s.heap H locs → lv_has ls 8 [(0, .ref (ad 0)), (1, .int x1), (2, .int v2), (4, .int v4)] → W p l e R s m args below meth c H locs 0 0 Q (F0 m 137 ls [.int v21]) := by
                    intro H locs ls hP hS hl
                    refine lv_istore_n (lv' := [(3, .int v21), (0, .ref (ad 0)), (1, .int x1), (2, .int v2), (4, .int v4)]) hx hb dX9_rides_137 rfl hl (by decide) rfl (fun ls hl => ?_)
                    refine lv_iinc (v := (v2 + 1)) (lv' := [(2, .int (v2 + 1)), (3, .int v21), (0, .ref (ad 0)), (1, .int x1), (4, .int v4)]) hx hb dX9_rides_138 hl (k := 3) rfl (ni_1 _) (by decide) rfl (fun ls hl => ?_)
                    cases hf
                    exact hJ18 _ _ _ hP hS (lv_sub hl [2, 3, 0, 1, 4] rfl)
                  clear hf
                  have hf := hq22
                  clear hq22
                  refine lv_if_ne (tgt := 136) hx hb dX9_rides_128 (by decide) (fun hc => ?_) (fun hc => ?_)
                  · have hf := iq hc hf
                    refine lv_iload_n hx hb dX9_rides_136 rfl (lv_at hl 4 rfl) ?_
                    cases hf
                    exact hJ22 _ _ _ hP hS (lv_sub hl [1, 2, 3, 5] rfl)
                  · have hf := ip hc hf
                    refine lv_iload hx hb dX9_rides_131 (lv_at hl 5 rfl) ?_
                    refine lv_goto (tgt := 137) hx hb dX9_rides_133 (by decide) ?_
                    cases hf
                    exact hJ22 _ _ _ hP hS (lv_sub hl [1, 2, 3, 5] rfl)
              · have hf := ip hc hf
                refine lv_aload_n hx hb dX9_rides_102 rfl (lv_at hl 1 rfl) ?_
                refine lv_bipush (v := (-4)) hx hb dX9_rides_103 nb_m4 ?_
                refine lv_bipush (v := (-4)) hx hb dX9_rides_105 nb_m4 ?_
                obtain ⟨v23, w24, hv, hf⟩ := bs2 hf
                refine x_cVi (As := [.int (-4), .int (-4)]) (rest := []) hx hb hml hts hown hE hP hS hAA (kX9_fits hN hD hv) cl_X9_241 (nm0 hN) oM_0 vc_9 (Nat.le_trans (by decide) hRf) (Nat.le_trans (by decide) hRl) (Nat.zero_le _) (Nat.zero_le _) rfl hl.1 rfl (Nat.le_of_ble_eq_true rfl) dX9_rides_107 (fun H locs hP hS => ?_)
                refine lv_if_eq (tgt := 141) hx hb dX9_rides_110 (by decide) (fun hc => ?_) (fun hc => ?_)
                · have hf := ip hc hf
                  cases hf
                  exact hJ18 _ _ _ hP hS (lv_sub hl [1, 2, 3, 4, 5] rfl)
                · have hf := iq hc hf
                  refine lv_goto (tgt := 127) hx hb dX9_rides_113 (by decide) ?_
                  refine lv_iload_n hx hb dX9_rides_127 rfl (lv_at hl 3 rfl) ?_
                  obtain ⟨v25, hq26, hf⟩ := bs1 hf
                  have hJ26 : ∀ (H : Heap) (locs : List Loc) (ls : Array Slot), Ho κ (wM κ) N ad w24 H → va_S (Aof ad N) s.heap H locs → lv_has ls 8 [(0, .ref (ad 0)), (1, .int x1), (2, .int v2), (4, .int v4)] → W p l e R s m args below meth c H locs 0 0 Q (F0 m 137 ls [.int v25]) := by
                    intro H locs ls hP hS hl
                    refine lv_istore_n (lv' := [(3, .int v25), (0, .ref (ad 0)), (1, .int x1), (2, .int v2), (4, .int v4)]) hx hb dX9_rides_137 rfl hl (by decide) rfl (fun ls hl => ?_)
                    refine lv_iinc (v := (v2 + 1)) (lv' := [(2, .int (v2 + 1)), (3, .int v25), (0, .ref (ad 0)), (1, .int x1), (4, .int v4)]) hx hb dX9_rides_138 hl (k := 3) rfl (ni_1 _) (by decide) rfl (fun ls hl => ?_)
                    cases hf
                    exact hJ18 _ _ _ hP hS (lv_sub hl [2, 3, 0, 1, 4] rfl)
                  clear hf
                  have hf := hq26
                  clear hq26
                  refine lv_if_ne (tgt := 136) hx hb dX9_rides_128 (by decide) (fun hc => ?_) (fun hc => ?_)
                  · have hf := iq hc hf
                    refine lv_iload_n hx hb dX9_rides_136 rfl (lv_at hl 4 rfl) ?_
                    cases hf
                    exact hJ26 _ _ _ hP hS (lv_sub hl [1, 2, 3, 5] rfl)
                  · have hf := ip hc hf
                    refine lv_iload hx hb dX9_rides_131 (lv_at hl 5 rfl) ?_
                    refine lv_goto (tgt := 137) hx hb dX9_rides_133 (by decide) ?_
                    cases hf
                    exact hJ26 _ _ _ hP hS (lv_sub hl [1, 2, 3, 5] rfl)
          clear hf
          have hf := hq11
          clear hq11
          refine lv_icmp_eq (tgt := 83) hx hb dX9_rides_44 (by decide) (fun hc => ?_) (fun hc => ?_)
          · have hf := ip hc hf
            refine lv_iconst (v := 1) hx hb dX9_rides_83 nc_1 ?_
            refine lv_goto (tgt := 88) hx hb dX9_rides_84 (by decide) ?_
            cases hf
            exact hJ11 _ _ _ hP hS (lv_sub hl [2, 3, 4, 5, 6, 1, 0] rfl)
          · have hf := iq hc hf
            refine lv_aload_n hx hb dX9_rides_47 rfl (lv_at hl 2 rfl) ?_
            refine lv_iload hx hb dX9_rides_48 (lv_at hl 1 rfl) ?_
            obtain ⟨v12, hv, hf⟩ := bs1 hf
            refine x_cVi (As := [.int (v4 / 8)]) (rest := []) hx hb hml hts hown hE hP hS hAA (kX9_isBeast hN hD hv) cl_X9_152 (nm0 hN) oM_0 vc_9 (Nat.le_trans (by decide) hRf) (Nat.le_trans (by decide) hRl) (Nat.zero_le _) (Nat.zero_le _) rfl hl.1 rfl (Nat.le_of_ble_eq_true rfl) dX9_rides_50 (fun H locs hP hS => ?_)
            refine lv_if_eq (tgt := 87) hx hb dX9_rides_53 (by decide) (fun hc => ?_) (fun hc => ?_)
            · have hf := ip hc hf
              refine lv_iconst (v := 0) hx hb dX9_rides_87 nc_0 ?_
              cases hf
              exact hJ11 _ _ _ hP hS (lv_sub hl [2, 3, 4, 5, 6, 1, 0] rfl)
            · have hf := iq hc hf
              refine lv_aload_n hx hb dX9_rides_56 rfl (lv_at hl 2 rfl) ?_
              refine lv_iload hx hb dX9_rides_57 (lv_at hl 0 rfl) ?_
              obtain ⟨v13, hv, hf⟩ := bs1 hf
              refine x_cVi (As := [.int (v4 - v4 / 8 * 8)]) (rest := []) hx hb hml hts hown hE hP hS hAA (kX9_isBeast hN hD hv) cl_X9_152 (nm0 hN) oM_0 vc_9 (Nat.le_trans (by decide) hRf) (Nat.le_trans (by decide) hRl) (Nat.zero_le _) (Nat.zero_le _) rfl hl.1 rfl (Nat.le_of_ble_eq_true rfl) dX9_rides_59 (fun H locs hP hS => ?_)
              refine lv_if_eq (tgt := 87) hx hb dX9_rides_62 (by decide) (fun hc => ?_) (fun hc => ?_)
              · have hf := ip hc hf
                refine lv_iconst (v := 0) hx hb dX9_rides_87 nc_0 ?_
                cases hf
                exact hJ11 _ _ _ hP hS (lv_sub hl [2, 3, 4, 5, 6, 1, 0] rfl)
              · have hf := iq hc hf
                refine lv_iload hx hb dX9_rides_65 (lv_at hl 1 rfl) ?_
                refine lv_iload hx hb dX9_rides_67 (lv_at hl 0 rfl) ?_
                refine lv_icmp_eq (tgt := 87) hx hb dX9_rides_69 (by decide) (fun hc => ?_) (fun hc => ?_)
                · have hf := ip hc hf
                  refine lv_iconst (v := 0) hx hb dX9_rides_87 nc_0 ?_
                  cases hf
                  exact hJ11 _ _ _ hP hS (lv_sub hl [2, 3, 4, 5, 6, 1, 0] rfl)
                · have hf := iq hc hf
                  refine lv_aload_n hx hb dX9_rides_72 rfl (lv_at hl 2 rfl) ?_
                  refine lv_iload hx hb dX9_rides_73 (lv_at hl 1 rfl) ?_
                  obtain ⟨v14, hv, hf⟩ := bs1 hf
                  refine x_cVi (As := [.int (v4 / 8)]) (rest := []) hx hb hml hts hown hE hP hS hAA (kX9_raftOf hN hD hv) cl_X9_156 (nm0 hN) oM_0 vc_9 (Nat.le_trans (by decide) hRf) (Nat.le_trans (by decide) hRl) (Nat.zero_le _) (Nat.zero_le _) rfl hl.1 rfl (Nat.le_of_ble_eq_true rfl) dX9_rides_75 (fun H locs hP hS => ?_)
                  refine lv_bipush (v := (-4)) hx hb dX9_rides_78 nb_m4 ?_
                  refine lv_icmp_ne (tgt := 87) hx hb dX9_rides_80 (by decide) (fun hc => ?_) (fun hc => ?_)
                  · have hf := iq hc hf
                    refine lv_iconst (v := 0) hx hb dX9_rides_87 nc_0 ?_
                    cases hf
                    exact hJ11 _ _ _ hP hS (lv_sub hl [2, 3, 4, 5, 6, 1, 0] rfl)
                  · have hf := ip hc hf
                    refine lv_iconst (v := 1) hx hb dX9_rides_83 nc_1 ?_
                    refine lv_goto (tgt := 88) hx hb dX9_rides_84 (by decide) ?_
                    cases hf
                    exact hJ11 _ _ _ hP hS (lv_sub hl [2, 3, 4, 5, 6, 1, 0] rfl)
    exact hL6 _ _ _ _ _ _ _ _ hf hP hS (lv_sub hl [3, 4, 2, 1, 0] rfl)
  · have hf := ip hc hf
    refine lv_iconst (v := (-1)) hx hb dX9_rides_9 nc_m1 ?_
    cases hf
    exact hret _ _ _ _ dX9_rides_10 hP hS
def LX9_river_44 (w5 : Mm) : Nat → Int32 → Int32 → Option (Int32)
  | 0, _, _ => none
  | fu + 1, v6, v7 =>
    bd1 (rd w5 2 2 0) fun v10 =>
    if v10 ≤ v7 then
      some (v6)
    else
      bd1 (rd w5 20 8 v7) fun v11 =>
      bd1 (
        if v11 = 999 then
          some (v6)
        else
          bd1 (rd w5 20 8 v7) fun v14 =>
          if v14 ≤ v6 then
            some (v6)
          else
            bd1 (rd w5 20 8 v7) fun v15 =>
            some (v15)) fun (v12 : Int32) =>
      LX9_river_44 w5 fu v12 (v7 + 1)
def fX9_river (w : Mm) (x1 x2 : Int32) : Option (Int32 × Mm) :=
  bd1 (fX9_in x1 0 9999) fun v1 =>
  if v1 = 0 then
    some ((-1), w)
  else
    bd1 (fX9_in x2 0 1) fun v2 =>
    if v2 = 0 then
      some ((-1), w)
    else
      bd1 (fX9_plain w) fun w3 =>
      bd1 (pt w3 0 25 x1) fun w4 =>
      bd1 (fX9_cross w4 0 200) fun w5 =>
      bd1 (LX9_river_44 w5 1000 0 0) fun (v9 : Int32) =>
      if x2 = 0 then
        bd2 (fX9_firstOne w5 0) fun v16 w17 =>
        some (v16, w17)
      else
        some (v9, w5)
set_option maxHeartbeats 4000000 in
set_option maxRecDepth 100000 in
theorem kX9_river {l : Launch} {κ : Kp} {N : Nat} {ad : Nat → Nat} {w : Mm} {x1 x2 : Int32} {r : Int32} {w' : Mm} (hN : 26 ≤ N) (hD : Apt ad N) (hf : fX9_river w x1 x2 = some (r, w')) : Met l yX9_river (Cond.code yX9_river cX9_river 5 (some .int) :: TB) (rmX 5 118) (PcX κ (wM κ) N ad w [.ref (ad 0), .int x1, .int x2]) (QI κ (wM κ) N ad w' r) 0 0 (Aof ad N) := by
  refine mkI (by decide +kernel) (Nat.le_of_ble_eq_true rfl) (fun p e R s m args below meth c Q H locs ls hC hRf hRl hP hS hret hl => ?_)
  obtain ⟨hx, hb, hml, hown, hts, hE⟩ := hC
  have hA : ∀ k, k < N → Aof ad N (ad k) := fun k h => Aof_in h
  have hAA : ∀ z, Aof ad N z → Aof ad N z := fun _ h => h
  have hl : lv_has ls 5 [(0, .ref (ad 0)), (1, .int x1), (2, .int x2)] := hl
  unfold fX9_river at hf
  refine lv_iload_n hx hb dX9_river_0 rfl (lv_at hl 1 rfl) ?_
  refine lv_iconst (v := 0) hx hb dX9_river_1 nc_0 ?_
  refine lv_sipush (v := 9999) hx hb dX9_river_2 ns_9999 ?_
  obtain ⟨v1, hv, hf⟩ := bs1 hf
  refine x_cSi (As := [.int x1, .int 0, .int 9999]) (rest := []) hx hb hml hts hown hE hP hS hAA (kX9_in hv) cl_X9_93 (Nat.le_trans (by decide) hRf) (Nat.le_trans (by decide) hRl) (Nat.zero_le _) (Nat.zero_le _) rfl hl.1 rfl (Nat.le_of_ble_eq_true rfl) dX9_river_5 (fun H locs hP hS => ?_)
  refine lv_if_eq (tgt := 20) hx hb dX9_river_8 (by decide) (fun hc => ?_) (fun hc => ?_)
  · have hf := ip hc hf
    refine lv_iconst (v := (-1)) hx hb dX9_river_20 nc_m1 ?_
    cases hf
    exact hret _ _ _ _ dX9_river_21 hP hS
  · have hf := iq hc hf
    refine lv_iload_n hx hb dX9_river_11 rfl (lv_at hl 2 rfl) ?_
    refine lv_iconst (v := 0) hx hb dX9_river_12 nc_0 ?_
    refine lv_iconst (v := 1) hx hb dX9_river_13 nc_1 ?_
    obtain ⟨v2, hv, hf⟩ := bs1 hf
    refine x_cSi (As := [.int x2, .int 0, .int 1]) (rest := []) hx hb hml hts hown hE hP hS hAA (kX9_in hv) cl_X9_93 (Nat.le_trans (by decide) hRf) (Nat.le_trans (by decide) hRl) (Nat.zero_le _) (Nat.zero_le _) rfl hl.1 rfl (Nat.le_of_ble_eq_true rfl) dX9_river_14 (fun H locs hP hS => ?_)
    refine lv_if_ne (tgt := 22) hx hb dX9_river_17 (by decide) (fun hc => ?_) (fun hc => ?_)
    · have hf := iq hc hf
      refine lv_aload_n hx hb dX9_river_22 rfl (lv_at hl 0 rfl) ?_
      obtain ⟨w3, hv, hf⟩ := bs1 hf
      refine x_cVv (As := []) (rest := []) hx hb hml hts hown hE hP hS hAA (kX9_plain hN hD hv) cl_X9_196 (nm0 hN) oM_0 vc_9 (Nat.le_trans (by decide) hRf) (Nat.le_trans (by decide) hRl) (Nat.zero_le _) (Nat.zero_le _) rfl hl.1 rfl (Nat.le_of_ble_eq_true rfl) dX9_river_23 (fun H locs hP hS => ?_)
      refine lv_aload_n hx hb dX9_river_26 rfl (lv_at hl 0 rfl) ?_
      refine lv_iload_n hx hb dX9_river_27 rfl (lv_at hl 1 rfl) ?_
      obtain ⟨w4, hv, hf⟩ := bs1 hf
      refine x_put hx hb hts hown hE hD hA hP hS fp_X9_165 (nm0 hN) pM_0_25 rfl rfl hv dX9_river_28 (fun H locs hP hS => ?_)
      refine lv_aload_n hx hb dX9_river_31 rfl (lv_at hl 0 rfl) ?_
      refine lv_iconst (v := 0) hx hb dX9_river_32 nc_0 ?_
      refine lv_sipush (v := 200) hx hb dX9_river_33 ns_200 ?_
      obtain ⟨w5, hv, hf⟩ := bs1 hf
      refine x_cVv (As := [.int 0, .int 200]) (rest := []) hx hb hml hts hown hE hP hS hAA (kX9_cross hN hD hv) cl_X9_199 (nm0 hN) oM_0 vc_9 (Nat.le_trans (by decide) hRf) (Nat.le_trans (by decide) hRl) (Nat.zero_le _) (Nat.zero_le _) rfl hl.1 rfl (Nat.le_of_ble_eq_true rfl) dX9_river_36 (fun H locs hP hS => ?_)
      refine lv_iconst (v := 0) hx hb dX9_river_39 nc_0 ?_
      refine lv_istore_n (lv' := [(3, .int 0), (0, .ref (ad 0)), (1, .int x1), (2, .int x2)]) hx hb dX9_river_40 rfl hl (by decide) rfl (fun ls hl => ?_)
      refine lv_iconst (v := 0) hx hb dX9_river_41 nc_0 ?_
      refine lv_istore (lv' := [(4, .int 0), (3, .int 0), (0, .ref (ad 0)), (1, .int x1), (2, .int x2)]) hx hb dX9_river_42 hl (by decide) rfl (fun ls hl => ?_)
      obtain ⟨v9, hq8, hf⟩ := bs1 hf
      have hJ8 : ∀ (H : Heap) (locs : List Loc) (ls : Array Slot), Ho κ (wM κ) N ad w5 H → va_S (Aof ad N) s.heap H locs → lv_has ls 5 [(0, .ref (ad 0)), (2, .int x2), (3, .int v9)] → W p l e R s m args below meth c H locs 0 0 Q (F0 m 97 ls []) := by
        intro H locs ls hP hS hl
        refine lv_iload_n hx hb dX9_river_97 rfl (lv_at hl 1 rfl) ?_
        refine lv_if_ne (tgt := 109) hx hb dX9_river_98 (by decide) (fun hc => ?_) (fun hc => ?_)
        · have hf := iq hc hf
          refine lv_iload_n hx hb dX9_river_109 rfl (lv_at hl 2 rfl) ?_
          cases hf
          exact hret _ _ _ _ dX9_river_110 hP hS
        · have hf := ip hc hf
          refine lv_aload_n hx hb dX9_river_101 rfl (lv_at hl 0 rfl) ?_
          refine lv_iconst (v := 0) hx hb dX9_river_102 nc_0 ?_
          obtain ⟨v16, w17, hv, hf⟩ := bs2 hf
          refine x_cVi (As := [.int 0]) (rest := []) hx hb hml hts hown hE hP hS hAA (kX9_firstOne hN hD hv) cl_X9_232 (nm0 hN) oM_0 vc_9 (Nat.le_trans (by decide) hRf) (Nat.le_trans (by decide) hRl) (Nat.zero_le _) (Nat.zero_le _) rfl hl.1 rfl (Nat.le_of_ble_eq_true rfl) dX9_river_103 (fun H locs hP hS => ?_)
          refine lv_goto (tgt := 110) hx hb dX9_river_106 (by decide) ?_
          cases hf
          exact hret _ _ _ _ dX9_river_110 hP hS
      clear hf
      have hf := hq8
      clear hq8
      have hL8 : ∀ (fu : Nat) (v6 : Int32) (v7 : Int32) (H : Heap) (locs : List Loc) (ls : Array Slot), LX9_river_44 w5 fu v6 v7 = some (v9) → Ho κ (wM κ) N ad w5 H → va_S (Aof ad N) s.heap H locs → lv_has ls 5 [(0, .ref (ad 0)), (2, .int x2), (3, .int v6), (4, .int v7)] → W p l e R s m args below meth c H locs 0 0 Q (F0 m 44 ls []) := by
        intro fu
        induction fu with
        | zero =>
          intro v6 v7 H locs ls hf
          rw [LX9_river_44] at hf
          cases hf
        | succ fu ih =>
          intro v6 v7 H locs ls hf hP hS hl
          rw [LX9_river_44] at hf
          refine lv_iload hx hb dX9_river_44 (lv_at hl 3 rfl) ?_
          refine lv_aload_n hx hb dX9_river_46 rfl (lv_at hl 0 rfl) ?_
          refine x_get hx hb hts hown hE hP fl_X9_13 (nm0 hN) gM_0_2 dX9_river_47 ?_
          refine lv_iconst (v := 0) hx hb dX9_river_50 nc_0 ?_
          obtain ⟨v10, hv, hf⟩ := bs1 hf
          refine x_iald hx hb hE hP (nm2 hN) (aM_2 _) hv dX9_river_51 ?_
          refine lv_icmp_ge (tgt := 97) hx hb dX9_river_52 (by decide) (fun hc => ?_) (fun hc => ?_)
          · have hf := ip hc hf
            cases hf
            exact hJ8 _ _ _ hP hS (lv_sub hl [0, 1, 2] rfl)
          · have hf := iq hc hf
            refine lv_aload_n hx hb dX9_river_55 rfl (lv_at hl 0 rfl) ?_
            refine x_get hx hb hts hown hE hP fl_X9_68 (nm0 hN) gM_0_27 dX9_river_56 ?_
            refine lv_iload hx hb dX9_river_59 (lv_at hl 3 rfl) ?_
            obtain ⟨v11, hv, hf⟩ := bs1 hf
            refine x_iald hx hb hE hP (nm20 hN) (aM_20 _) hv dX9_river_61 ?_
            refine lv_sipush (v := 999) hx hb dX9_river_62 ns_999 ?_
            obtain ⟨v12, hq13, hf⟩ := bs1 hf
            have hJ13 : ∀ (H : Heap) (locs : List Loc) (ls : Array Slot), Ho κ (wM κ) N ad w5 H → va_S (Aof ad N) s.heap H locs → lv_has ls 5 [(0, .ref (ad 0)), (2, .int x2), (4, .int v7)] → W p l e R s m args below meth c H locs 0 0 Q (F0 m 90 ls [.int v12]) := by
              intro H locs ls hP hS hl
              refine lv_istore_n (lv' := [(3, .int v12), (0, .ref (ad 0)), (2, .int x2), (4, .int v7)]) hx hb dX9_river_90 rfl hl (by decide) rfl (fun ls hl => ?_)
              refine lv_iinc (v := (v7 + 1)) (lv' := [(4, .int (v7 + 1)), (3, .int v12), (0, .ref (ad 0)), (2, .int x2)]) hx hb dX9_river_91 hl (k := 3) rfl (ni_1 _) (by decide) rfl (fun ls hl => ?_)
              refine lv_goto (tgt := 44) hx hb dX9_river_94 (by decide) ?_
              exact ih _ _ _ _ _ hf hP hS (lv_sub hl [2, 3, 1, 0] rfl)
            clear hf
            have hf := hq13
            clear hq13
            refine lv_icmp_eq (tgt := 89) hx hb dX9_river_65 (by decide) (fun hc => ?_) (fun hc => ?_)
            · have hf := ip hc hf
              refine lv_iload_n hx hb dX9_river_89 rfl (lv_at hl 2 rfl) ?_
              cases hf
              exact hJ13 _ _ _ hP hS (lv_sub hl [0, 1, 3] rfl)
            · have hf := iq hc hf
              refine lv_aload_n hx hb dX9_river_68 rfl (lv_at hl 0 rfl) ?_
              refine x_get hx hb hts hown hE hP fl_X9_68 (nm0 hN) gM_0_27 dX9_river_69 ?_
              refine lv_iload hx hb dX9_river_72 (lv_at hl 3 rfl) ?_
              obtain ⟨v14, hv, hf⟩ := bs1 hf
              refine x_iald hx hb hE hP (nm20 hN) (aM_20 _) hv dX9_river_74 ?_
              refine lv_iload_n hx hb dX9_river_75 rfl (lv_at hl 2 rfl) ?_
              refine lv_icmp_le (tgt := 89) hx hb dX9_river_76 (by decide) (fun hc => ?_) (fun hc => ?_)
              · have hf := ip hc hf
                refine lv_iload_n hx hb dX9_river_89 rfl (lv_at hl 2 rfl) ?_
                cases hf
                exact hJ13 _ _ _ hP hS (lv_sub hl [0, 1, 3] rfl)
              · have hf := iq hc hf
                refine lv_aload_n hx hb dX9_river_79 rfl (lv_at hl 0 rfl) ?_
                refine x_get hx hb hts hown hE hP fl_X9_68 (nm0 hN) gM_0_27 dX9_river_80 ?_
                refine lv_iload hx hb dX9_river_83 (lv_at hl 3 rfl) ?_
                obtain ⟨v15, hv, hf⟩ := bs1 hf
                refine x_iald hx hb hE hP (nm20 hN) (aM_20 _) hv dX9_river_85 ?_
                refine lv_goto (tgt := 90) hx hb dX9_river_86 (by decide) ?_
                cases hf
                exact hJ13 _ _ _ hP hS (lv_sub hl [0, 1, 3] rfl)
      exact hL8 _ _ _ _ _ _ hf hP hS (lv_sub hl [2, 4, 1, 0] rfl)
    · have hf := ip hc hf
      refine lv_iconst (v := (-1)) hx hb dX9_river_20 nc_m1 ?_
      cases hf
      exact hret _ _ _ _ dX9_river_21 hP hS
def fX9_keep (w : Mm) : Option (Int32 × Mm) :=
  if (w 0 22) = 2 then
    some ((-3), w)
  else
    bd1 (fX9_copy w 0 (144 + (16 * (w 0 22)))) fun w1 =>
    bd1 (pt w1 0 22 ((w1 0 22) + 1)) fun w2 =>
    some ((w2 0 22), w2)
set_option maxHeartbeats 4000000 in
set_option maxRecDepth 100000 in
theorem kX9_keep {l : Launch} {κ : Kp} {N : Nat} {ad : Nat → Nat} {w : Mm} {r : Int32} {w' : Mm} (hN : 26 ≤ N) (hD : Apt ad N) (hf : fX9_keep w = some (r, w')) : Met l yX9_keep (Cond.code yX9_keep cX9_keep 1 (some .int) :: TB) (rmX 1 23) (PcX κ (wM κ) N ad w [.ref (ad 0)]) (QI κ (wM κ) N ad w' r) 0 0 (Aof ad N) := by
  refine mkI (by decide +kernel) (Nat.le_of_ble_eq_true rfl) (fun p e R s m args below meth c Q H locs ls hC hRf hRl hP hS hret hl => ?_)
  obtain ⟨hx, hb, hml, hown, hts, hE⟩ := hC
  have hA : ∀ k, k < N → Aof ad N (ad k) := fun k h => Aof_in h
  have hAA : ∀ z, Aof ad N z → Aof ad N z := fun _ h => h
  have hl : lv_has ls 1 [(0, .ref (ad 0))] := hl
  unfold fX9_keep at hf
  refine lv_aload_n hx hb dX9_keep_0 rfl (lv_at hl 0 rfl) ?_
  refine x_get hx hb hts hown hE hP fl_X9_146 (nm0 hN) gM_0_22 dX9_keep_1 ?_
  refine lv_iconst (v := 2) hx hb dX9_keep_4 nc_2 ?_
  refine lv_icmp_ne (tgt := 11) hx hb dX9_keep_5 (by decide) (fun hc => ?_) (fun hc => ?_)
  · have hf := iq hc hf
    refine lv_aload_n hx hb dX9_keep_11 rfl (lv_at hl 0 rfl) ?_
    refine lv_iconst (v := 0) hx hb dX9_keep_12 nc_0 ?_
    refine lv_sipush (v := 144) hx hb dX9_keep_13 ns_144 ?_
    refine lv_bipush (v := 16) hx hb dX9_keep_16 nb_16 ?_
    refine lv_aload_n hx hb dX9_keep_18 rfl (lv_at hl 0 rfl) ?_
    refine x_get hx hb hts hown hE hP fl_X9_146 (nm0 hN) gM_0_22 dX9_keep_19 ?_
    refine lv_imul hx hb dX9_keep_22 ?_
    refine lv_iadd hx hb dX9_keep_23 ?_
    obtain ⟨w1, hv, hf⟩ := bs1 hf
    refine x_cVv (As := [.int 0, .int (144 + (16 * (w 0 22)))]) (rest := []) hx hb hml hts hown hE hP hS hAA (kX9_copy hN hD hv) cl_X9_220 (nm0 hN) oM_0 vc_9 (Nat.le_trans (by decide) hRf) (Nat.le_trans (by decide) hRl) (Nat.zero_le _) (Nat.zero_le _) rfl hl.1 rfl (Nat.le_of_ble_eq_true rfl) dX9_keep_24 (fun H locs hP hS => ?_)
    refine lv_aload_n hx hb dX9_keep_27 rfl (lv_at hl 0 rfl) ?_
    refine lv_dup hx hb dX9_keep_28 rfl ?_
    refine x_get hx hb hts hown hE hP fl_X9_146 (nm0 hN) gM_0_22 dX9_keep_29 ?_
    refine lv_iconst (v := 1) hx hb dX9_keep_32 nc_1 ?_
    refine lv_iadd hx hb dX9_keep_33 ?_
    obtain ⟨w2, hv, hf⟩ := bs1 hf
    refine x_put hx hb hts hown hE hD hA hP hS fp_X9_146 (nm0 hN) pM_0_22 rfl rfl hv dX9_keep_34 (fun H locs hP hS => ?_)
    refine lv_aload_n hx hb dX9_keep_37 rfl (lv_at hl 0 rfl) ?_
    refine x_get hx hb hts hown hE hP fl_X9_146 (nm0 hN) gM_0_22 dX9_keep_38 ?_
    cases hf
    exact hret _ _ _ _ dX9_keep_41 hP hS
  · have hf := ip hc hf
    refine lv_bipush (v := (-3)) hx hb dX9_keep_8 nb_m3 ?_
    cases hf
    exact hret _ _ _ _ dX9_keep_10 hP hS
def fX9_restore (w : Mm) : Option (Int32 × Mm) :=
  if (w 0 22) = 0 then
    some ((-2), w)
  else
    bd1 (pt w 0 22 ((w 0 22) - 1)) fun w1 =>
    bd1 (fX9_copy w1 (144 + (16 * (w1 0 22))) 0) fun w2 =>
    bd1 (pt w2 0 21 0) fun w3 =>
    some ((w3 0 22), w3)
set_option maxHeartbeats 4000000 in
set_option maxRecDepth 100000 in
theorem kX9_restore {l : Launch} {κ : Kp} {N : Nat} {ad : Nat → Nat} {w : Mm} {r : Int32} {w' : Mm} (hN : 26 ≤ N) (hD : Apt ad N) (hf : fX9_restore w = some (r, w')) : Met l yX9_restore (Cond.code yX9_restore cX9_restore 1 (some .int) :: TB) (rmX 1 23) (PcX κ (wM κ) N ad w [.ref (ad 0)]) (QI κ (wM κ) N ad w' r) 0 0 (Aof ad N) := by
  refine mkI (by decide +kernel) (Nat.le_of_ble_eq_true rfl) (fun p e R s m args below meth c Q H locs ls hC hRf hRl hP hS hret hl => ?_)
  obtain ⟨hx, hb, hml, hown, hts, hE⟩ := hC
  have hA : ∀ k, k < N → Aof ad N (ad k) := fun k h => Aof_in h
  have hAA : ∀ z, Aof ad N z → Aof ad N z := fun _ h => h
  have hl : lv_has ls 1 [(0, .ref (ad 0))] := hl
  unfold fX9_restore at hf
  refine lv_aload_n hx hb dX9_restore_0 rfl (lv_at hl 0 rfl) ?_
  refine x_get hx hb hts hown hE hP fl_X9_146 (nm0 hN) gM_0_22 dX9_restore_1 ?_
  refine lv_if_ne (tgt := 10) hx hb dX9_restore_4 (by decide) (fun hc => ?_) (fun hc => ?_)
  · have hf := iq hc hf
    refine lv_aload_n hx hb dX9_restore_10 rfl (lv_at hl 0 rfl) ?_
    refine lv_dup hx hb dX9_restore_11 rfl ?_
    refine x_get hx hb hts hown hE hP fl_X9_146 (nm0 hN) gM_0_22 dX9_restore_12 ?_
    refine lv_iconst (v := 1) hx hb dX9_restore_15 nc_1 ?_
    refine lv_isub hx hb dX9_restore_16 ?_
    obtain ⟨w1, hv, hf⟩ := bs1 hf
    refine x_put hx hb hts hown hE hD hA hP hS fp_X9_146 (nm0 hN) pM_0_22 rfl rfl hv dX9_restore_17 (fun H locs hP hS => ?_)
    refine lv_aload_n hx hb dX9_restore_20 rfl (lv_at hl 0 rfl) ?_
    refine lv_sipush (v := 144) hx hb dX9_restore_21 ns_144 ?_
    refine lv_bipush (v := 16) hx hb dX9_restore_24 nb_16 ?_
    refine lv_aload_n hx hb dX9_restore_26 rfl (lv_at hl 0 rfl) ?_
    refine x_get hx hb hts hown hE hP fl_X9_146 (nm0 hN) gM_0_22 dX9_restore_27 ?_
    refine lv_imul hx hb dX9_restore_30 ?_
    refine lv_iadd hx hb dX9_restore_31 ?_
    refine lv_iconst (v := 0) hx hb dX9_restore_32 nc_0 ?_
    obtain ⟨w2, hv, hf⟩ := bs1 hf
    refine x_cVv (As := [.int (144 + (16 * (w1 0 22))), .int 0]) (rest := []) hx hb hml hts hown hE hP hS hAA (kX9_copy hN hD hv) cl_X9_220 (nm0 hN) oM_0 vc_9 (Nat.le_trans (by decide) hRf) (Nat.le_trans (by decide) hRl) (Nat.zero_le _) (Nat.zero_le _) rfl hl.1 rfl (Nat.le_of_ble_eq_true rfl) dX9_restore_33 (fun H locs hP hS => ?_)
    refine lv_aload_n hx hb dX9_restore_36 rfl (lv_at hl 0 rfl) ?_
    refine lv_iconst (v := 0) hx hb dX9_restore_37 nc_0 ?_
    obtain ⟨w3, hv, hf⟩ := bs1 hf
    refine x_put hx hb hts hown hE hD hA hP hS fp_X9_143 (nm0 hN) pM_0_21 rfl rfl hv dX9_restore_38 (fun H locs hP hS => ?_)
    refine lv_aload_n hx hb dX9_restore_41 rfl (lv_at hl 0 rfl) ?_
    refine x_get hx hb hts hown hE hP fl_X9_146 (nm0 hN) gM_0_22 dX9_restore_42 ?_
    cases hf
    exact hret _ _ _ _ dX9_restore_45 hP hS
  · have hf := ip hc hf
    refine lv_bipush (v := (-2)) hx hb dX9_restore_7 nb_m2 ?_
    cases hf
    exact hret _ _ _ _ dX9_restore_9 hP hS
def LX9_count_4 (w : Mm) : Nat → Int32 → Int32 → Option (Int32)
  | 0, _, _ => none
  | fu + 1, v1, v2 =>
    bd1 (rd w 2 2 0) fun v5 =>
    if v5 ≤ v2 then
      some (v1)
    else
      bd1 (rd w 18 192 (8 + v2)) fun v6 =>
      bd1 (
        if v6 = (-4) then
          some (0)
        else
          some (1)) fun (v7 : Int32) =>
      LX9_count_4 w fu (v1 + v7) (v2 + 1)
def fX9_count (w : Mm) (x1 : Int32) : Option (Int32) :=
  bd1 (LX9_count_4 w 1000 0 0) fun (v4 : Int32) =>
  if x1 = 0 then
    bd1 (rd w 2 2 0) fun v10 =>
    some v10
  else
  if x1 = 1 then
    bd1 (rd w 7 2 0) fun v11 =>
    some v11
  else
  if x1 = 2 then
    bd1 (rd w 8 2 0) fun v12 =>
    some v12
  else
  if x1 = 3 then
    bd1 (rd w 12 2 0) fun v13 =>
    some v13
  else
  if x1 = 4 then
    some v4
  else
  if x1 = 5 then
    some (w 0 33)
  else
  if x1 = 6 then
    some (w 0 21)
  else
  if x1 = 7 then
    some (w 0 22)
  else
  if x1 = 8 then
    some (w 0 1)
  else
  some (-1)
set_option maxHeartbeats 4000000 in
set_option maxRecDepth 100000 in
theorem kX9_count {l : Launch} {κ : Kp} {N : Nat} {ad : Nat → Nat} {w : Mm} {x1 : Int32} {r : Int32} (hN : 26 ≤ N) (hD : Apt ad N) (hf : fX9_count w x1 = some r) : Met l yX9_count (Cond.code yX9_count cX9_count 4 (some .int) :: TB) (rmX 0 0) (PcX κ (wM κ) N ad w [.ref (ad 0), .int x1]) (QI κ (wM κ) N ad w r) 0 0 (Aof ad N) := by
  refine mkI (by decide +kernel) (Nat.le_of_ble_eq_true rfl) (fun p e R s m args below meth c Q H locs ls hC hRf hRl hP hS hret hl => ?_)
  obtain ⟨hx, hb, hml, hown, hts, hE⟩ := hC
  have hA : ∀ k, k < N → Aof ad N (ad k) := fun k h => Aof_in h
  have hAA : ∀ z, Aof ad N z → Aof ad N z := fun _ h => h
  have hl : lv_has ls 4 [(0, .ref (ad 0)), (1, .int x1)] := hl
  unfold fX9_count at hf
  refine lv_iconst (v := 0) hx hb dX9_count_0 nc_0 ?_
  refine lv_istore_n (lv' := [(2, .int 0), (0, .ref (ad 0)), (1, .int x1)]) hx hb dX9_count_1 rfl hl (by decide) rfl (fun ls hl => ?_)
  refine lv_iconst (v := 0) hx hb dX9_count_2 nc_0 ?_
  refine lv_istore_n (lv' := [(3, .int 0), (2, .int 0), (0, .ref (ad 0)), (1, .int x1)]) hx hb dX9_count_3 rfl hl (by decide) rfl (fun ls hl => ?_)
  obtain ⟨v4, hq3, hf⟩ := bs1 hf
  have hJ3 : ∀ (H : Heap) (locs : List Loc) (ls : Array Slot), Ho κ (wM κ) N ad w H → va_S (Aof ad N) s.heap H locs → lv_has ls 4 [(0, .ref (ad 0)), (1, .int x1), (2, .int v4)] → W p l e R s m args below meth c H locs 0 0 Q (F0 m 42 ls []) := by
    intro H locs ls hP hS hl
    refine lv_iload_n hx hb dX9_count_42 rfl (lv_at hl 1 rfl) ?_
    by_cases hk0 : x1 = 0
    · have hf := ip hk0 hf
      refine lv_tableIn (off := 49) (tgt := 92) hx hb dX9_count_43 (by rw [hk0]; decide) (by rw [hk0]; decide) (by rw [hk0]; rfl) (by decide) ?_
      refine lv_aload_n hx hb dX9_count_92 rfl (lv_at hl 0 rfl) ?_
      refine x_get hx hb hts hown hE hP fl_X9_13 (nm0 hN) gM_0_2 dX9_count_93 ?_
      refine lv_iconst (v := 0) hx hb dX9_count_96 nc_0 ?_
      obtain ⟨v10, hv, hf⟩ := bs1 hf
      refine x_iald hx hb hE hP (nm2 hN) (aM_2 _) hv dX9_count_97 ?_
      cases hf
      exact hret _ _ _ _ dX9_count_98 hP hS
    · have hf := iq hk0 hf
      by_cases hk1 : x1 = 1
      · have hf := ip hk1 hf
        refine lv_tableIn (off := 56) (tgt := 99) hx hb dX9_count_43 (by rw [hk1]; decide) (by rw [hk1]; decide) (by rw [hk1]; rfl) (by decide) ?_
        refine lv_aload_n hx hb dX9_count_99 rfl (lv_at hl 0 rfl) ?_
        refine x_get hx hb hts hown hE hP fl_X9_29 (nm0 hN) gM_0_7 dX9_count_100 ?_
        refine lv_iconst (v := 0) hx hb dX9_count_103 nc_0 ?_
        obtain ⟨v11, hv, hf⟩ := bs1 hf
        refine x_iald hx hb hE hP (nm7 hN) (aM_7 _) hv dX9_count_104 ?_
        cases hf
        exact hret _ _ _ _ dX9_count_105 hP hS
      · have hf := iq hk1 hf
        by_cases hk2 : x1 = 2
        · have hf := ip hk2 hf
          refine lv_tableIn (off := 63) (tgt := 106) hx hb dX9_count_43 (by rw [hk2]; decide) (by rw [hk2]; decide) (by rw [hk2]; rfl) (by decide) ?_
          refine lv_aload_n hx hb dX9_count_106 rfl (lv_at hl 0 rfl) ?_
          refine x_get hx hb hts hown hE hP fl_X9_32 (nm0 hN) gM_0_8 dX9_count_107 ?_
          refine lv_iconst (v := 0) hx hb dX9_count_110 nc_0 ?_
          obtain ⟨v12, hv, hf⟩ := bs1 hf
          refine x_iald hx hb hE hP (nm8 hN) (aM_8 _) hv dX9_count_111 ?_
          cases hf
          exact hret _ _ _ _ dX9_count_112 hP hS
        · have hf := iq hk2 hf
          by_cases hk3 : x1 = 3
          · have hf := ip hk3 hf
            refine lv_tableIn (off := 70) (tgt := 113) hx hb dX9_count_43 (by rw [hk3]; decide) (by rw [hk3]; decide) (by rw [hk3]; rfl) (by decide) ?_
            refine lv_aload_n hx hb dX9_count_113 rfl (lv_at hl 0 rfl) ?_
            refine x_get hx hb hts hown hE hP fl_X9_44 (nm0 hN) gM_0_12 dX9_count_114 ?_
            refine lv_iconst (v := 0) hx hb dX9_count_117 nc_0 ?_
            obtain ⟨v13, hv, hf⟩ := bs1 hf
            refine x_iald hx hb hE hP (nm12 hN) (aM_12 _) hv dX9_count_118 ?_
            cases hf
            exact hret _ _ _ _ dX9_count_119 hP hS
          · have hf := iq hk3 hf
            by_cases hk4 : x1 = 4
            · have hf := ip hk4 hf
              refine lv_tableIn (off := 77) (tgt := 120) hx hb dX9_count_43 (by rw [hk4]; decide) (by rw [hk4]; decide) (by rw [hk4]; rfl) (by decide) ?_
              refine lv_iload_n hx hb dX9_count_120 rfl (lv_at hl 2 rfl) ?_
              cases hf
              exact hret _ _ _ _ dX9_count_121 hP hS
            · have hf := iq hk4 hf
              by_cases hk5 : x1 = 5
              · have hf := ip hk5 hf
                refine lv_tableIn (off := 79) (tgt := 122) hx hb dX9_count_43 (by rw [hk5]; decide) (by rw [hk5]; decide) (by rw [hk5]; rfl) (by decide) ?_
                refine lv_aload_n hx hb dX9_count_122 rfl (lv_at hl 0 rfl) ?_
                refine x_get hx hb hts hown hE hP fl_X9_149 (nm0 hN) gM_0_33 dX9_count_123 ?_
                cases hf
                exact hret _ _ _ _ dX9_count_126 hP hS
              · have hf := iq hk5 hf
                by_cases hk6 : x1 = 6
                · have hf := ip hk6 hf
                  refine lv_tableIn (off := 84) (tgt := 127) hx hb dX9_count_43 (by rw [hk6]; decide) (by rw [hk6]; decide) (by rw [hk6]; rfl) (by decide) ?_
                  refine lv_aload_n hx hb dX9_count_127 rfl (lv_at hl 0 rfl) ?_
                  refine x_get hx hb hts hown hE hP fl_X9_143 (nm0 hN) gM_0_21 dX9_count_128 ?_
                  cases hf
                  exact hret _ _ _ _ dX9_count_131 hP hS
                · have hf := iq hk6 hf
                  by_cases hk7 : x1 = 7
                  · have hf := ip hk7 hf
                    refine lv_tableIn (off := 89) (tgt := 132) hx hb dX9_count_43 (by rw [hk7]; decide) (by rw [hk7]; decide) (by rw [hk7]; rfl) (by decide) ?_
                    refine lv_aload_n hx hb dX9_count_132 rfl (lv_at hl 0 rfl) ?_
                    refine x_get hx hb hts hown hE hP fl_X9_146 (nm0 hN) gM_0_22 dX9_count_133 ?_
                    cases hf
                    exact hret _ _ _ _ dX9_count_136 hP hS
                  · have hf := iq hk7 hf
                    by_cases hk8 : x1 = 8
                    · have hf := ip hk8 hf
                      refine lv_tableIn (off := 94) (tgt := 137) hx hb dX9_count_43 (by rw [hk8]; decide) (by rw [hk8]; decide) (by rw [hk8]; rfl) (by decide) ?_
                      refine lv_aload_n hx hb dX9_count_137 rfl (lv_at hl 0 rfl) ?_
                      refine x_get hx hb hts hown hE hP fl_X9_97 (nm0 hN) gM_0_1 dX9_count_138 ?_
                      cases hf
                      exact hret _ _ _ _ dX9_count_141 hP hS
                    · have hf := iq hk8 hf
                      have hD8 : W p l e R s m args below meth c H locs 0 0 Q (F0 m 142 ls []) := by
                        refine lv_iconst (v := (-1)) hx hb dX9_count_142 nc_m1 ?_
                        cases hf
                        exact hret _ _ _ _ dX9_count_143 hP hS
                      by_cases ho : (x1).toInt < 0 ∨ 8 < (x1).toInt
                      · exact lv_tableOut (tgt := 142) hx hb dX9_count_43 ho (by decide) hD8
                      · exfalso
                        have hn0 := lv_neT (a := 0) hk0 (by decide)
                        have hn1 := lv_neT (a := 1) hk1 (by decide)
                        have hn2 := lv_neT (a := 2) hk2 (by decide)
                        have hn3 := lv_neT (a := 3) hk3 (by decide)
                        have hn4 := lv_neT (a := 4) hk4 (by decide)
                        have hn5 := lv_neT (a := 5) hk5 (by decide)
                        have hn6 := lv_neT (a := 6) hk6 (by decide)
                        have hn7 := lv_neT (a := 7) hk7 (by decide)
                        have hn8 := lv_neT (a := 8) hk8 (by decide)
                        omega
  clear hf
  have hf := hq3
  clear hq3
  have hL3 : ∀ (fu : Nat) (v1 : Int32) (v2 : Int32) (H : Heap) (locs : List Loc) (ls : Array Slot), LX9_count_4 w fu v1 v2 = some (v4) → Ho κ (wM κ) N ad w H → va_S (Aof ad N) s.heap H locs → lv_has ls 4 [(0, .ref (ad 0)), (1, .int x1), (2, .int v1), (3, .int v2)] → W p l e R s m args below meth c H locs 0 0 Q (F0 m 4 ls []) := by
    intro fu
    induction fu with
    | zero =>
      intro v1 v2 H locs ls hf
      rw [LX9_count_4] at hf
      cases hf
    | succ fu ih =>
      intro v1 v2 H locs ls hf hP hS hl
      rw [LX9_count_4] at hf
      refine lv_iload_n hx hb dX9_count_4 rfl (lv_at hl 3 rfl) ?_
      refine lv_aload_n hx hb dX9_count_5 rfl (lv_at hl 0 rfl) ?_
      refine x_get hx hb hts hown hE hP fl_X9_13 (nm0 hN) gM_0_2 dX9_count_6 ?_
      refine lv_iconst (v := 0) hx hb dX9_count_9 nc_0 ?_
      obtain ⟨v5, hv, hf⟩ := bs1 hf
      refine x_iald hx hb hE hP (nm2 hN) (aM_2 _) hv dX9_count_10 ?_
      refine lv_icmp_ge (tgt := 42) hx hb dX9_count_11 (by decide) (fun hc => ?_) (fun hc => ?_)
      · have hf := ip hc hf
        cases hf
        exact hJ3 _ _ _ hP hS (lv_sub hl [0, 1, 2] rfl)
      · have hf := iq hc hf
        refine lv_iload_n hx hb dX9_count_14 rfl (lv_at hl 2 rfl) ?_
        refine lv_aload_n hx hb dX9_count_15 rfl (lv_at hl 0 rfl) ?_
        refine x_get hx hb hts hown hE hP fl_X9_62 (nm0 hN) gM_0_20 dX9_count_16 ?_
        refine lv_bipush (v := 8) hx hb dX9_count_19 nb_8 ?_
        refine lv_iload_n hx hb dX9_count_21 rfl (lv_at hl 3 rfl) ?_
        refine lv_iadd hx hb dX9_count_22 ?_
        obtain ⟨v6, hv, hf⟩ := bs1 hf
        refine x_iald hx hb hE hP (nm18 hN) (aM_18 _) hv dX9_count_23 ?_
        refine lv_bipush (v := (-4)) hx hb dX9_count_24 nb_m4 ?_
        obtain ⟨v7, hq8, hf⟩ := bs1 hf
        have hJ8 : ∀ (H : Heap) (locs : List Loc) (ls : Array Slot), Ho κ (wM κ) N ad w H → va_S (Aof ad N) s.heap H locs → lv_has ls 4 [(0, .ref (ad 0)), (1, .int x1), (3, .int v2)] → W p l e R s m args below meth c H locs 0 0 Q (F0 m 34 ls [.int v7, .int v1]) := by
          intro H locs ls hP hS hl
          refine lv_iadd hx hb dX9_count_34 ?_
          refine lv_istore_n (lv' := [(2, .int (v1 + v7)), (0, .ref (ad 0)), (1, .int x1), (3, .int v2)]) hx hb dX9_count_35 rfl hl (by decide) rfl (fun ls hl => ?_)
          refine lv_iinc (v := (v2 + 1)) (lv' := [(3, .int (v2 + 1)), (2, .int (v1 + v7)), (0, .ref (ad 0)), (1, .int x1)]) hx hb dX9_count_36 hl (k := 3) rfl (ni_1 _) (by decide) rfl (fun ls hl => ?_)
          refine lv_goto (tgt := 4) hx hb dX9_count_39 (by decide) ?_
          exact ih _ _ _ _ _ hf hP hS (lv_sub hl [2, 3, 1, 0] rfl)
        clear hf
        have hf := hq8
        clear hq8
        refine lv_icmp_ne (tgt := 33) hx hb dX9_count_26 (by decide) (fun hc => ?_) (fun hc => ?_)
        · have hf := iq hc hf
          refine lv_iconst (v := 1) hx hb dX9_count_33 nc_1 ?_
          cases hf
          exact hJ8 _ _ _ hP hS (lv_sub hl [0, 1, 3] rfl)
        · have hf := ip hc hf
          refine lv_iconst (v := 0) hx hb dX9_count_29 nc_0 ?_
          refine lv_goto (tgt := 34) hx hb dX9_count_30 (by decide) ?_
          cases hf
          exact hJ8 _ _ _ hP hS (lv_sub hl [0, 1, 3] rfl)
  exact hL3 _ _ _ _ _ _ hf hP hS (lv_sub hl [2, 3, 1, 0] rfl)
