def fX0_offer (w : Mm) (x2 x3 x4 : Int32) : Option (Mm) :=
  bd1 (rd w 48 100 x2) fun v1 =>
  bd1 (
    if v1 ≤ x3 then
      some (0)
    else
      some (1)) fun (v2 : Int32) =>
  bd1 (rd w 48 100 x2) fun v4 =>
  bd1 (
    if x3 = v4 then
      bd1 (rd w 49 100 x2) fun v7 =>
      bd1 (fX6_has_l w v7) fun v8 =>
      if v8 = 0 then
        some (0)
      else
        bd1 (rd w 24 8 x4) fun v9 =>
        bd1 (rd w 49 100 x2) fun v10 =>
        bd1 (rd w 24 8 v10) fun v11 =>
        if v11 ≤ v9 then
          some (0)
        else
          some (1)
    else
      some (0)) fun (v5 : Int32) =>
  bd1 (
    if v2 = 0 then
      if v5 = 0 then
        some (false)
      else
        some (true)
    else
      some (true)) fun (b12 : Bool) =>
  if b12 = true then
    bd1 (wr w 48 100 x2 x3) fun w14 =>
    bd1 (wr w14 49 100 x2 x4) fun w15 =>
    some w15
  else
    some w
set_option maxHeartbeats 4000000 in
set_option maxRecDepth 100000 in
theorem kX0_offer {l : Launch} {κ : Kp} {tl : Nat} {N : Nat} {ad : Nat → Nat} {w : Mm} {x2 x3 x4 : Int32} {w' : Mm} (hN : 52 ≤ N) (hD : Apt ad N) (hf : fX0_offer w x2 x3 x4 = some w') : Met l yX0_offer (Cond.code yX0_offer cX0_offer 7 none :: TB) (rmX 1 21) (PcX κ (wX κ tl) N ad w [.ref (ad 47), .ref (ad 17), .int x2, .int x3, .int x4]) (QV κ (wX κ tl) N ad w') 0 0 (Aof ad N) := by
  refine mkV (by decide +kernel) (Nat.le_of_ble_eq_true rfl) (fun p e R s m args below meth c Q H locs ls hC hRf hRl hP hS hret hl => ?_)
  obtain ⟨hx, hb, hml, hown, hts, hE⟩ := hC
  have hA : ∀ k, k < N → Aof ad N (ad k) := fun k h => Aof_in h
  have hAA : ∀ z, Aof ad N z → Aof ad N z := fun _ h => h
  have hl : lv_has ls 7 [(0, .ref (ad 47)), (1, .ref (ad 17)), (2, .int x2), (3, .int x3), (4, .int x4)] := hl
  unfold fX0_offer at hf
  refine lv_iload_n hx hb dX0_offer_0 rfl (lv_at hl 3 rfl) ?_
  refine lv_aload_n hx hb dX0_offer_1 rfl (lv_at hl 0 rfl) ?_
  refine x_get hx hb hts hown hE hP fl_X0_9 (nb47 hN) gX_47_0 dX0_offer_2 ?_
  refine lv_iload_n hx hb dX0_offer_5 rfl (lv_at hl 2 rfl) ?_
  obtain ⟨v1, hv, hf⟩ := bs1 hf
  refine x_iald hx hb hE hP (nb48 hN) (aX_48 _) hv dX0_offer_6 ?_
  obtain ⟨v2, hq3, hf⟩ := bs1 hf
  have hJ3 : ∀ (H : Heap) (locs : List Loc) (ls : Array Slot), Ho κ (wX κ tl) N ad w H → va_S (Aof ad N) s.heap H locs → lv_has ls 7 [(0, .ref (ad 47)), (1, .ref (ad 17)), (2, .int x2), (3, .int x3), (4, .int x4)] → W p l e R s m args below meth c H locs 0 0 Q (F0 m 15 ls [.int v2]) := by
    intro H locs ls hP hS hl
    refine lv_istore (lv' := [(5, .int v2), (0, .ref (ad 47)), (1, .ref (ad 17)), (2, .int x2), (3, .int x3), (4, .int x4)]) hx hb dX0_offer_15 hl (by decide) rfl (fun ls hl => ?_)
    refine lv_iload_n hx hb dX0_offer_17 rfl (lv_at hl 4 rfl) ?_
    refine lv_aload_n hx hb dX0_offer_18 rfl (lv_at hl 1 rfl) ?_
    refine x_get hx hb hts hown hE hP fl_X0_9 (nb47 hN) gX_47_0 dX0_offer_19 ?_
    refine lv_iload_n hx hb dX0_offer_22 rfl (lv_at hl 3 rfl) ?_
    obtain ⟨v4, hv, hf⟩ := bs1 hf
    refine x_iald hx hb hE hP (nb48 hN) (aX_48 _) hv dX0_offer_23 ?_
    obtain ⟨v5, hq6, hf⟩ := bs1 hf
    have hJ6 : ∀ (H : Heap) (locs : List Loc) (ls : Array Slot), Ho κ (wX κ tl) N ad w H → va_S (Aof ad N) s.heap H locs → lv_has ls 7 [(0, .ref (ad 47)), (2, .int x2), (3, .int x3), (4, .int x4), (5, .int v2)] → W p l e R s m args below meth c H locs 0 0 Q (F0 m 66 ls [.int v5]) := by
      intro H locs ls hP hS hl
      refine lv_istore (lv' := [(6, .int v5), (0, .ref (ad 47)), (2, .int x2), (3, .int x3), (4, .int x4), (5, .int v2)]) hx hb dX0_offer_66 hl (by decide) rfl (fun ls hl => ?_)
      refine lv_iload hx hb dX0_offer_68 (lv_at hl 5 rfl) ?_
      obtain ⟨b12, hq13, hf⟩ := bs1 hf
      have hT13 : b12 = true → ∀ (H : Heap) (locs : List Loc) (ls : Array Slot), Ho κ (wX κ tl) N ad w H → va_S (Aof ad N) s.heap H locs → lv_has ls 7 [(0, .ref (ad 47)), (2, .int x2), (3, .int x3), (4, .int x4)] → W p l e R s m args below meth c H locs 0 0 Q (F0 m 78 ls []) := by
        intro hc H locs ls hP hS hl
        have hf := ip hc hf
        refine lv_aload_n hx hb dX0_offer_78 rfl (lv_at hl 0 rfl) ?_
        refine x_get hx hb hts hown hE hP fl_X0_9 (nb47 hN) gX_47_0 dX0_offer_79 ?_
        refine lv_iload_n hx hb dX0_offer_82 rfl (lv_at hl 1 rfl) ?_
        refine lv_iload_n hx hb dX0_offer_83 rfl (lv_at hl 2 rfl) ?_
        obtain ⟨w14, hv, hf⟩ := bs1 hf
        refine x_iast hx hb hE hD hA hP hS (nb48 hN) aX_48 hv dX0_offer_84 (fun H locs hP hS => ?_)
        refine lv_aload_n hx hb dX0_offer_85 rfl (lv_at hl 0 rfl) ?_
        refine x_get hx hb hts hown hE hP fl_X0_15 (nb47 hN) gX_47_1 dX0_offer_86 ?_
        refine lv_iload_n hx hb dX0_offer_89 rfl (lv_at hl 1 rfl) ?_
        refine lv_iload hx hb dX0_offer_90 (lv_at hl 3 rfl) ?_
        obtain ⟨w15, hv, hf⟩ := bs1 hf
        refine x_iast hx hb hE hD hA hP hS (nb49 hN) aX_49 hv dX0_offer_92 (fun H locs hP hS => ?_)
        cases hf
        exact hret _ _ _ _ dX0_offer_93 hP hS
      have hF13 : ¬ b12 = true → ∀ (H : Heap) (locs : List Loc) (ls : Array Slot), Ho κ (wX κ tl) N ad w H → va_S (Aof ad N) s.heap H locs → lv_has ls 7 [] → W p l e R s m args below meth c H locs 0 0 Q (F0 m 93 ls []) := by
        intro hc H locs ls hP hS hl
        have hf := iq hc hf
        cases hf
        exact hret _ _ _ _ dX0_offer_93 hP hS
      clear hf
      have hf := hq13
      clear hq13
      refine lv_if_ne (tgt := 78) hx hb dX0_offer_70 (by decide) (fun hc => ?_) (fun hc => ?_)
      · have hf := iq hc hf
        cases hf
        exact hT13 rfl _ _ _ hP hS (lv_sub hl [1, 2, 3, 4] rfl)
      · have hf := ip hc hf
        refine lv_iload hx hb dX0_offer_73 (lv_at hl 0 rfl) ?_
        refine lv_if_eq (tgt := 93) hx hb dX0_offer_75 (by decide) (fun hc => ?_) (fun hc => ?_)
        · have hf := ip hc hf
          cases hf
          exact hF13 Bool.false_ne_true _ _ _ hP hS (lv_sub hl [] rfl)
        · have hf := iq hc hf
          cases hf
          exact hT13 rfl _ _ _ hP hS (lv_sub hl [1, 2, 3, 4] rfl)
    clear hf
    have hf := hq6
    clear hq6
    refine lv_icmp_ne (tgt := 65) hx hb dX0_offer_24 (by decide) (fun hc => ?_) (fun hc => ?_)
    · have hf := iq hc hf
      refine lv_iconst (v := 0) hx hb dX0_offer_65 nc_0 ?_
      cases hf
      exact hJ6 _ _ _ hP hS (lv_sub hl [1, 3, 4, 5, 0] rfl)
    · have hf := ip hc hf
      refine lv_aload_n hx hb dX0_offer_27 rfl (lv_at hl 2 rfl) ?_
      refine lv_aload_n hx hb dX0_offer_28 rfl (lv_at hl 1 rfl) ?_
      refine x_get hx hb hts hown hE hP fl_X0_15 (nb47 hN) gX_47_1 dX0_offer_29 ?_
      refine lv_iload_n hx hb dX0_offer_32 rfl (lv_at hl 3 rfl) ?_
      obtain ⟨v7, hv, hf⟩ := bs1 hf
      refine x_iald hx hb hE hP (nb49 hN) (aX_49 _) hv dX0_offer_33 ?_
      obtain ⟨v8, hv, hf⟩ := bs1 hf
      refine x_cVi (As := [.int v7]) (rest := []) hx hb hml hts hown hE hP hS hAA (kX6_has_l hN hD hv) cl_X0_57 (nb17 hN) oX_17 vc_6 (Nat.le_trans (by decide) hRf) (Nat.le_trans (by decide) hRl) (Nat.zero_le _) (Nat.zero_le _) rfl hl.1 rfl (Nat.le_of_ble_eq_true rfl) dX0_offer_34 (fun H locs hP hS => ?_)
      refine lv_if_eq (tgt := 65) hx hb dX0_offer_37 (by decide) (fun hc => ?_) (fun hc => ?_)
      · have hf := ip hc hf
        refine lv_iconst (v := 0) hx hb dX0_offer_65 nc_0 ?_
        cases hf
        exact hJ6 _ _ _ hP hS (lv_sub hl [1, 3, 4, 5, 0] rfl)
      · have hf := iq hc hf
        refine lv_aload_n hx hb dX0_offer_40 rfl (lv_at hl 2 rfl) ?_
        refine x_get hx hb hts hown hE hP fl_X0_61 (nb17 hN) gX_17_6 dX0_offer_41 ?_
        refine lv_iload hx hb dX0_offer_44 (lv_at hl 5 rfl) ?_
        obtain ⟨v9, hv, hf⟩ := bs1 hf
        refine x_iald hx hb hE hP (nb24 hN) (aX_24 _) hv dX0_offer_46 ?_
        refine lv_aload_n hx hb dX0_offer_47 rfl (lv_at hl 2 rfl) ?_
        refine x_get hx hb hts hown hE hP fl_X0_61 (nb17 hN) gX_17_6 dX0_offer_48 ?_
        refine lv_aload_n hx hb dX0_offer_51 rfl (lv_at hl 1 rfl) ?_
        refine x_get hx hb hts hown hE hP fl_X0_15 (nb47 hN) gX_47_1 dX0_offer_52 ?_
        refine lv_iload_n hx hb dX0_offer_55 rfl (lv_at hl 3 rfl) ?_
        obtain ⟨v10, hv, hf⟩ := bs1 hf
        refine x_iald hx hb hE hP (nb49 hN) (aX_49 _) hv dX0_offer_56 ?_
        obtain ⟨v11, hv, hf⟩ := bs1 hf
        refine x_iald hx hb hE hP (nb24 hN) (aX_24 _) hv dX0_offer_57 ?_
        refine lv_icmp_ge (tgt := 65) hx hb dX0_offer_58 (by decide) (fun hc => ?_) (fun hc => ?_)
        · have hf := ip hc hf
          refine lv_iconst (v := 0) hx hb dX0_offer_65 nc_0 ?_
          cases hf
          exact hJ6 _ _ _ hP hS (lv_sub hl [1, 3, 4, 5, 0] rfl)
        · have hf := iq hc hf
          refine lv_iconst (v := 1) hx hb dX0_offer_61 nc_1 ?_
          refine lv_goto (tgt := 66) hx hb dX0_offer_62 (by decide) ?_
          cases hf
          exact hJ6 _ _ _ hP hS (lv_sub hl [1, 3, 4, 5, 0] rfl)
  clear hf
  have hf := hq3
  clear hq3
  refine lv_icmp_ge (tgt := 14) hx hb dX0_offer_7 (by decide) (fun hc => ?_) (fun hc => ?_)
  · have hf := ip hc hf
    refine lv_iconst (v := 0) hx hb dX0_offer_14 nc_0 ?_
    cases hf
    exact hJ3 _ _ _ hP hS (lv_sub hl [0, 1, 2, 3, 4] rfl)
  · have hf := iq hc hf
    refine lv_iconst (v := 1) hx hb dX0_offer_10 nc_1 ?_
    refine lv_goto (tgt := 15) hx hb dX0_offer_11 (by decide) ?_
    cases hf
    exact hJ3 _ _ _ hP hS (lv_sub hl [0, 1, 2, 3, 4] rfl)
def LX0_crossWidest_57 (x3 : Int32) (v3 : Int32) : Nat → Int32 → Int32 → Mm → Option (Mm × Int32)
  | 0, _, _, _ => none
  | fu + 1, v8, v9, w10 =>
    if v8 < v9 then
      some (w10, v8)
    else
      bd1 (fX0_offer w10 v9 v3 x3) fun w14 =>
      LX0_crossWidest_57 x3 v3 fu v8 (v9 + 1) w14
def LX0_crossWidest_16 (x3 : Int32) : Nat → Int32 → Int32 → Mm → Option (Mm)
  | 0, _, _, _ => none
  | fu + 1, v2, v3, w4 =>
    if 200 < v3 then
      some (w4)
    else
      if 99 ≤ v2 then
        some (w4)
      else
        bd1 (fX4_yardsIn w4 v3) fun v7 =>
        bd2 (LX0_crossWidest_57 x3 v3 1000 (if (v2 + v7) < 99 then (v2 + v7) else 99) (v2 + 1) w4) fun (w12 : Mm) (v13 : Int32) =>
        LX0_crossWidest_16 x3 fu v13 (v3 + 1) w12
def fX0_crossWidest (w : Mm) (x3 : Int32) : Option (Mm) :=
  bd1 (fX4_mount w x3) fun w1 =>
  bd1 (LX0_crossWidest_16 x3 1000 0 ((w1 30 13) + 1) w1) fun (w6 : Mm) =>
  some w6
set_option maxHeartbeats 4000000 in
set_option maxRecDepth 100000 in
theorem kX0_crossWidest {l : Launch} {κ : Kp} {tl : Nat} {N : Nat} {ad : Nat → Nat} {w : Mm} {x3 : Int32} {w' : Mm} (hN : 52 ≤ N) (hD : Apt ad N) (hf : fX0_crossWidest w x3 = some w') : Met l yX0_crossWidest (Cond.code yX0_crossWidest cX0_crossWidest 8 none :: TB) (rmX 3 65) (PcX κ (wX κ tl) N ad w [.ref (ad 47), .ref (ad 30), .ref (ad 17), .int x3]) (QV κ (wX κ tl) N ad w') 0 0 (Aof ad N) := by
  refine mkV (by decide +kernel) (Nat.le_of_ble_eq_true rfl) (fun p e R s m args below meth c Q H locs ls hC hRf hRl hP hS hret hl => ?_)
  obtain ⟨hx, hb, hml, hown, hts, hE⟩ := hC
  have hA : ∀ k, k < N → Aof ad N (ad k) := fun k h => Aof_in h
  have hAA : ∀ z, Aof ad N z → Aof ad N z := fun _ h => h
  have hl : lv_has ls 8 [(0, .ref (ad 47)), (1, .ref (ad 30)), (2, .ref (ad 17)), (3, .int x3)] := hl
  unfold fX0_crossWidest at hf
  refine lv_aload_n hx hb dX0_crossWidest_0 rfl (lv_at hl 1 rfl) ?_
  refine lv_iload_n hx hb dX0_crossWidest_1 rfl (lv_at hl 3 rfl) ?_
  obtain ⟨w1, hv, hf⟩ := bs1 hf
  refine x_cVv (As := [.int x3]) (rest := []) hx hb hml hts hown hE hP hS hAA (kX4_mount hN hD hv) cl_X0_37 (nb30 hN) oX_30 vc_4 (Nat.le_trans (by decide) hRf) (Nat.le_trans (by decide) hRl) (Nat.zero_le _) (Nat.zero_le _) rfl hl.1 rfl (Nat.le_of_ble_eq_true rfl) dX0_crossWidest_2 (fun H locs hP hS => ?_)
  refine lv_iconst (v := 0) hx hb dX0_crossWidest_5 nc_0 ?_
  refine lv_istore (lv' := [(4, .int 0), (0, .ref (ad 47)), (1, .ref (ad 30)), (2, .ref (ad 17)), (3, .int x3)]) hx hb dX0_crossWidest_6 hl (by decide) rfl (fun ls hl => ?_)
  refine lv_aload_n hx hb dX0_crossWidest_8 rfl (lv_at hl 2 rfl) ?_
  refine x_get hx hb hts hown hE hP fl_X0_41 (nb30 hN) gX_30_13 dX0_crossWidest_9 ?_
  refine lv_iconst (v := 1) hx hb dX0_crossWidest_12 nc_1 ?_
  refine lv_iadd hx hb dX0_crossWidest_13 ?_
  refine lv_istore (lv' := [(5, .int ((w1 30 13) + 1)), (4, .int 0), (0, .ref (ad 47)), (1, .ref (ad 30)), (2, .ref (ad 17)), (3, .int x3)]) hx hb dX0_crossWidest_14 hl (by decide) rfl (fun ls hl => ?_)
  obtain ⟨w6, hq5, hf⟩ := bs1 hf
  have hJ5 : ∀ (H : Heap) (locs : List Loc) (ls : Array Slot), Ho κ (wX κ tl) N ad w6 H → va_S (Aof ad N) s.heap H locs → lv_has ls 8 [] → W p l e R s m args below meth c H locs 0 0 Q (F0 m 86 ls []) := by
    intro H locs ls hP hS hl
    cases hf
    exact hret _ _ _ _ dX0_crossWidest_86 hP hS
  clear hf
  have hf := hq5
  clear hq5
  have hL5 : ∀ (fu : Nat) (v2 : Int32) (v3 : Int32) (w4 : Mm) (H : Heap) (locs : List Loc) (ls : Array Slot), LX0_crossWidest_16 x3 fu v2 v3 w4 = some (w6) → Ho κ (wX κ tl) N ad w4 H → va_S (Aof ad N) s.heap H locs → lv_has ls 8 [(0, .ref (ad 47)), (1, .ref (ad 30)), (2, .ref (ad 17)), (3, .int x3), (4, .int v2), (5, .int v3)] → W p l e R s m args below meth c H locs 0 0 Q (F0 m 16 ls []) := by
    intro fu
    induction fu with
    | zero =>
      intro v2 v3 w4 H locs ls hf
      rw [LX0_crossWidest_16] at hf
      cases hf
    | succ fu ih =>
      intro v2 v3 w4 H locs ls hf hP hS hl
      rw [LX0_crossWidest_16] at hf
      refine lv_iload hx hb dX0_crossWidest_16 (lv_at hl 5 rfl) ?_
      refine lv_sipush (v := 200) hx hb dX0_crossWidest_18 ns_200 ?_
      refine lv_icmp_gt (tgt := 86) hx hb dX0_crossWidest_21 (by decide) (fun hc => ?_) (fun hc => ?_)
      · have hf := ip hc hf
        cases hf
        exact hJ5 _ _ _ hP hS (lv_sub hl [] rfl)
      · have hf := iq hc hf
        refine lv_iload hx hb dX0_crossWidest_24 (lv_at hl 4 rfl) ?_
        refine lv_bipush (v := 99) hx hb dX0_crossWidest_26 nb_99 ?_
        refine lv_icmp_ge (tgt := 86) hx hb dX0_crossWidest_28 (by decide) (fun hc => ?_) (fun hc => ?_)
        · have hf := ip hc hf
          cases hf
          exact hJ5 _ _ _ hP hS (lv_sub hl [] rfl)
        · have hf := iq hc hf
          refine lv_iload hx hb dX0_crossWidest_31 (lv_at hl 4 rfl) ?_
          refine lv_istore (lv' := [(6, .int v2), (0, .ref (ad 47)), (1, .ref (ad 30)), (2, .ref (ad 17)), (3, .int x3), (4, .int v2), (5, .int v3)]) hx hb dX0_crossWidest_33 hl (by decide) rfl (fun ls hl => ?_)
          refine lv_bipush (v := 99) hx hb dX0_crossWidest_35 nb_99 ?_
          refine lv_iload hx hb dX0_crossWidest_37 (lv_at hl 5 rfl) ?_
          refine lv_aload_n hx hb dX0_crossWidest_39 rfl (lv_at hl 2 rfl) ?_
          refine lv_iload hx hb dX0_crossWidest_40 (lv_at hl 6 rfl) ?_
          obtain ⟨v7, hv, hf⟩ := bs1 hf
          refine x_cVi (As := [.int v3]) (rest := [.int v2, .int 99]) hx hb hml hts hown hE hP hS hAA (kX4_yardsIn hN hD hv) cl_X0_44 (nb30 hN) oX_30 vc_4 (Nat.le_trans (by decide) hRf) (Nat.le_trans (by decide) hRl) (Nat.zero_le _) (Nat.zero_le _) rfl hl.1 rfl (Nat.le_of_ble_eq_true rfl) dX0_crossWidest_42 (fun H locs hP hS => ?_)
          refine lv_iadd hx hb dX0_crossWidest_45 ?_
          refine x_min hx hb (hml.trans hl.1.symm) hts hown lm_X0_47 (Nat.le_trans (by decide) hRf) (Nat.le_trans (Nat.le_of_ble_eq_true rfl) hRl) (Nat.zero_le _) (Nat.zero_le _) dX0_crossWidest_46 ?_
          refine lv_istore (lv' := [(4, .int (if (v2 + v7) < 99 then (v2 + v7) else 99)), (6, .int v2), (0, .ref (ad 47)), (1, .ref (ad 30)), (2, .ref (ad 17)), (3, .int x3), (5, .int v3)]) hx hb dX0_crossWidest_49 hl (by decide) rfl (fun ls hl => ?_)
          refine lv_iload hx hb dX0_crossWidest_51 (lv_at hl 1 rfl) ?_
          refine lv_iconst (v := 1) hx hb dX0_crossWidest_53 nc_1 ?_
          refine lv_iadd hx hb dX0_crossWidest_54 ?_
          refine lv_istore (lv' := [(7, .int (v2 + 1)), (4, .int (if (v2 + v7) < 99 then (v2 + v7) else 99)), (6, .int v2), (0, .ref (ad 47)), (1, .ref (ad 30)), (2, .ref (ad 17)), (3, .int x3), (5, .int v3)]) hx hb dX0_crossWidest_55 hl (by decide) rfl (fun ls hl => ?_)
          obtain ⟨w12, v13, hq11, hf⟩ := bs2 hf
          have hJ11 : ∀ (H : Heap) (locs : List Loc) (ls : Array Slot), Ho κ (wX κ tl) N ad w12 H → va_S (Aof ad N) s.heap H locs → lv_has ls 8 [(0, .ref (ad 47)), (1, .ref (ad 30)), (2, .ref (ad 17)), (3, .int x3), (4, .int v13), (5, .int v3)] → W p l e R s m args below meth c H locs 0 0 Q (F0 m 80 ls []) := by
            intro H locs ls hP hS hl
            refine lv_iinc (v := (v3 + 1)) (lv' := [(5, .int (v3 + 1)), (0, .ref (ad 47)), (1, .ref (ad 30)), (2, .ref (ad 17)), (3, .int x3), (4, .int v13)]) hx hb dX0_crossWidest_80 hl (k := 5) rfl (ni_1 _) (by decide) rfl (fun ls hl => ?_)
            refine lv_goto (tgt := 16) hx hb dX0_crossWidest_83 (by decide) ?_
            exact ih _ _ _ _ _ _ hf hP hS (lv_sub hl [1, 2, 3, 4, 5, 0] rfl)
          clear hf
          have hf := hq11
          clear hq11
          have hL11 : ∀ (fu : Nat) (v8 : Int32) (v9 : Int32) (w10 : Mm) (H : Heap) (locs : List Loc) (ls : Array Slot), LX0_crossWidest_57 x3 v3 fu v8 v9 w10 = some (w12, v13) → Ho κ (wX κ tl) N ad w10 H → va_S (Aof ad N) s.heap H locs → lv_has ls 8 [(0, .ref (ad 47)), (1, .ref (ad 30)), (2, .ref (ad 17)), (3, .int x3), (4, .int v8), (5, .int v3), (7, .int v9)] → W p l e R s m args below meth c H locs 0 0 Q (F0 m 57 ls []) := by
            intro fu
            induction fu with
            | zero =>
              intro v8 v9 w10 H locs ls hf
              rw [LX0_crossWidest_57] at hf
              cases hf
            | succ fu ih =>
              intro v8 v9 w10 H locs ls hf hP hS hl
              rw [LX0_crossWidest_57] at hf
              refine lv_iload hx hb dX0_crossWidest_57 (lv_at hl 6 rfl) ?_
              refine lv_iload hx hb dX0_crossWidest_59 (lv_at hl 4 rfl) ?_
              refine lv_icmp_gt (tgt := 80) hx hb dX0_crossWidest_61 (by decide) (fun hc => ?_) (fun hc => ?_)
              · have hf := ip hc hf
                cases hf
                exact hJ11 _ _ _ hP hS (lv_sub hl [0, 1, 2, 3, 4, 5] rfl)
              · have hf := iq hc hf
                refine lv_aload_n hx hb dX0_crossWidest_64 rfl (lv_at hl 0 rfl) ?_
                refine lv_aload_n hx hb dX0_crossWidest_65 rfl (lv_at hl 2 rfl) ?_
                refine lv_iload hx hb dX0_crossWidest_66 (lv_at hl 6 rfl) ?_
                refine lv_iload hx hb dX0_crossWidest_68 (lv_at hl 5 rfl) ?_
                refine lv_iload_n hx hb dX0_crossWidest_70 rfl (lv_at hl 3 rfl) ?_
                obtain ⟨w14, hv, hf⟩ := bs1 hf
                refine x_cVv (As := [.ref (ad 17), .int v9, .int v3, .int x3]) (rest := []) hx hb hml hts hown hE hP hS hAA (kX0_offer hN hD hv) cl_X0_53 (nb47 hN) oX_47 vc_0 (Nat.le_trans (by decide) hRf) (Nat.le_trans (by decide) hRl) (Nat.zero_le _) (Nat.zero_le _) rfl hl.1 rfl (Nat.le_of_ble_eq_true rfl) dX0_crossWidest_71 (fun H locs hP hS => ?_)
                refine lv_iinc (v := (v9 + 1)) (lv' := [(7, .int (v9 + 1)), (0, .ref (ad 47)), (1, .ref (ad 30)), (2, .ref (ad 17)), (3, .int x3), (4, .int v8), (5, .int v3)]) hx hb dX0_crossWidest_74 hl (k := 6) rfl (ni_1 _) (by decide) rfl (fun ls hl => ?_)
                refine lv_goto (tgt := 57) hx hb dX0_crossWidest_77 (by decide) ?_
                exact ih _ _ _ _ _ _ hf hP hS (lv_sub hl [1, 2, 3, 4, 5, 6, 0] rfl)
          exact hL11 _ _ _ _ _ _ _ hf hP hS (lv_sub hl [3, 4, 5, 6, 1, 7, 0] rfl)
  exact hL5 _ _ _ _ _ _ _ hf hP hS (lv_sub hl [2, 3, 4, 5, 1, 0] rfl)
def LX4_firstRiderOrSelf_4 (x1 : Int32) (w : Mm) : Nat → Int32 → Int32 → Option (Int32)
  | 0, _, _ => none
  | fu + 1, v1, v2 =>
    bd1 (gq (w 30 6) 17) fun _ =>
    if (w 17 12) ≤ v2 then
      some (v1)
    else
      bd1 (rd w 32 8 v2) fun v5 =>
      bd1 (
        if v5 = x1 then
          if v1 = x1 then
            some (v2)
          else
            bd1 (gq (w 30 6) 17) fun _ =>
            bd1 (rd w 24 8 v2) fun v8 =>
            bd1 (gq (w 30 6) 17) fun _ =>
            bd1 (rd w 24 8 v1) fun v9 =>
            if v9 ≤ v8 then
              some (v1)
            else
              some (v2)
        else
          some (v1)) fun (v6 : Int32) =>
      LX4_firstRiderOrSelf_4 x1 w fu v6 (v2 + 1)
def fX4_firstRiderOrSelf (w : Mm) (x1 : Int32) : Option (Int32) :=
  bd1 (LX4_firstRiderOrSelf_4 x1 w 1000 x1 0) fun (v4 : Int32) =>
  some v4
set_option maxHeartbeats 4000000 in
set_option maxRecDepth 100000 in
theorem kX4_firstRiderOrSelf {l : Launch} {κ : Kp} {tl : Nat} {N : Nat} {ad : Nat → Nat} {w : Mm} {x1 : Int32} {r : Int32} (hN : 52 ≤ N) (hD : Apt ad N) (hf : fX4_firstRiderOrSelf w x1 = some r) : Met l yX4_firstRiderOrSelf (Cond.code yX4_firstRiderOrSelf cX4_firstRiderOrSelf 4 (some .int) :: TB) (rmX 0 0) (PcX κ (wX κ tl) N ad w [.ref (ad 30), .int x1]) (QI κ (wX κ tl) N ad w r) 0 0 (Aof ad N) := by
  refine mkI (by decide +kernel) (Nat.le_of_ble_eq_true rfl) (fun p e R s m args below meth c Q H locs ls hC hRf hRl hP hS hret hl => ?_)
  obtain ⟨hx, hb, hml, hown, hts, hE⟩ := hC
  have hA : ∀ k, k < N → Aof ad N (ad k) := fun k h => Aof_in h
  have hAA : ∀ z, Aof ad N z → Aof ad N z := fun _ h => h
  have hl : lv_has ls 4 [(0, .ref (ad 30)), (1, .int x1)] := hl
  unfold fX4_firstRiderOrSelf at hf
  refine lv_iload_n hx hb dX4_firstRiderOrSelf_0 rfl (lv_at hl 1 rfl) ?_
  refine lv_istore_n (lv' := [(2, .int x1), (0, .ref (ad 30)), (1, .int x1)]) hx hb dX4_firstRiderOrSelf_1 rfl hl (by decide) rfl (fun ls hl => ?_)
  refine lv_iconst (v := 0) hx hb dX4_firstRiderOrSelf_2 nc_0 ?_
  refine lv_istore_n (lv' := [(3, .int 0), (2, .int x1), (0, .ref (ad 30)), (1, .int x1)]) hx hb dX4_firstRiderOrSelf_3 rfl hl (by decide) rfl (fun ls hl => ?_)
  obtain ⟨v4, hq3, hf⟩ := bs1 hf
  have hJ3 : ∀ (H : Heap) (locs : List Loc) (ls : Array Slot), Ho κ (wX κ tl) N ad w H → va_S (Aof ad N) s.heap H locs → lv_has ls 4 [(2, .int v4)] → W p l e R s m args below meth c H locs 0 0 Q (F0 m 59 ls []) := by
    intro H locs ls hP hS hl
    refine lv_iload_n hx hb dX4_firstRiderOrSelf_59 rfl (lv_at hl 0 rfl) ?_
    cases hf
    exact hret _ _ _ _ dX4_firstRiderOrSelf_60 hP hS
  clear hf
  have hf := hq3
  clear hq3
  have hL3 : ∀ (fu : Nat) (v1 : Int32) (v2 : Int32) (H : Heap) (locs : List Loc) (ls : Array Slot), LX4_firstRiderOrSelf_4 x1 w fu v1 v2 = some (v4) → Ho κ (wX κ tl) N ad w H → va_S (Aof ad N) s.heap H locs → lv_has ls 4 [(0, .ref (ad 30)), (1, .int x1), (2, .int v1), (3, .int v2)] → W p l e R s m args below meth c H locs 0 0 Q (F0 m 4 ls []) := by
    intro fu
    induction fu with
    | zero =>
      intro v1 v2 H locs ls hf
      rw [LX4_firstRiderOrSelf_4] at hf
      cases hf
    | succ fu ih =>
      intro v1 v2 H locs ls hf hP hS hl
      rw [LX4_firstRiderOrSelf_4] at hf
      refine lv_iload_n hx hb dX4_firstRiderOrSelf_4 rfl (lv_at hl 3 rfl) ?_
      refine lv_aload_n hx hb dX4_firstRiderOrSelf_5 rfl (lv_at hl 0 rfl) ?_
      obtain ⟨_, hv, hf⟩ := bs1 hf
      refine x_getr hx hb hts hown hE hP fl_X4_30 (nb30 hN) gX_30_6 hv dX4_firstRiderOrSelf_6 ?_
      refine x_get hx hb hts hown hE hP fl_X4_64 (nb17 hN) gX_17_12 dX4_firstRiderOrSelf_9 ?_
      refine lv_icmp_ge (tgt := 59) hx hb dX4_firstRiderOrSelf_12 (by decide) (fun hc => ?_) (fun hc => ?_)
      · have hf := ip hc hf
        cases hf
        exact hJ3 _ _ _ hP hS (lv_sub hl [2] rfl)
      · have hf := iq hc hf
        refine lv_aload_n hx hb dX4_firstRiderOrSelf_15 rfl (lv_at hl 0 rfl) ?_
        refine x_get hx hb hts hown hE hP fl_X4_15 (nb30 hN) gX_30_1 dX4_firstRiderOrSelf_16 ?_
        refine lv_iload_n hx hb dX4_firstRiderOrSelf_19 rfl (lv_at hl 3 rfl) ?_
        obtain ⟨v5, hv, hf⟩ := bs1 hf
        refine x_iald hx hb hE hP (nb32 hN) (aX_32 _) hv dX4_firstRiderOrSelf_20 ?_
        refine lv_iload_n hx hb dX4_firstRiderOrSelf_21 rfl (lv_at hl 1 rfl) ?_
        obtain ⟨v6, hq7, hf⟩ := bs1 hf
        have hJ7 : ∀ (H : Heap) (locs : List Loc) (ls : Array Slot), Ho κ (wX κ tl) N ad w H → va_S (Aof ad N) s.heap H locs → lv_has ls 4 [(0, .ref (ad 30)), (1, .int x1), (2, .int v6), (3, .int v2)] → W p l e R s m args below meth c H locs 0 0 Q (F0 m 53 ls []) := by
          intro H locs ls hP hS hl
          refine lv_iinc (v := (v2 + 1)) (lv' := [(3, .int (v2 + 1)), (0, .ref (ad 30)), (1, .int x1), (2, .int v6)]) hx hb dX4_firstRiderOrSelf_53 hl (k := 3) rfl (ni_1 _) (by decide) rfl (fun ls hl => ?_)
          refine lv_goto (tgt := 4) hx hb dX4_firstRiderOrSelf_56 (by decide) ?_
          exact ih _ _ _ _ _ hf hP hS (lv_sub hl [1, 2, 3, 0] rfl)
        clear hf
        have hf := hq7
        clear hq7
        refine lv_icmp_ne (tgt := 53) hx hb dX4_firstRiderOrSelf_22 (by decide) (fun hc => ?_) (fun hc => ?_)
        · have hf := iq hc hf
          cases hf
          exact hJ7 _ _ _ hP hS (lv_sub hl [0, 1, 2, 3] rfl)
        · have hf := ip hc hf
          refine lv_iload_n hx hb dX4_firstRiderOrSelf_25 rfl (lv_at hl 2 rfl) ?_
          refine lv_iload_n hx hb dX4_firstRiderOrSelf_26 rfl (lv_at hl 1 rfl) ?_
          refine lv_icmp_eq (tgt := 51) hx hb dX4_firstRiderOrSelf_27 (by decide) (fun hc => ?_) (fun hc => ?_)
          · have hf := ip hc hf
            refine lv_iload_n hx hb dX4_firstRiderOrSelf_51 rfl (lv_at hl 3 rfl) ?_
            refine lv_istore_n (lv' := [(2, .int v2), (0, .ref (ad 30)), (1, .int x1), (3, .int v2)]) hx hb dX4_firstRiderOrSelf_52 rfl hl (by decide) rfl (fun ls hl => ?_)
            cases hf
            exact hJ7 _ _ _ hP hS (lv_sub hl [1, 2, 0, 3] rfl)
          · have hf := iq hc hf
            refine lv_aload_n hx hb dX4_firstRiderOrSelf_30 rfl (lv_at hl 0 rfl) ?_
            obtain ⟨_, hv, hf⟩ := bs1 hf
            refine x_getr hx hb hts hown hE hP fl_X4_30 (nb30 hN) gX_30_6 hv dX4_firstRiderOrSelf_31 ?_
            refine x_get hx hb hts hown hE hP fl_X4_142 (nb17 hN) gX_17_6 dX4_firstRiderOrSelf_34 ?_
            refine lv_iload_n hx hb dX4_firstRiderOrSelf_37 rfl (lv_at hl 3 rfl) ?_
            obtain ⟨v8, hv, hf⟩ := bs1 hf
            refine x_iald hx hb hE hP (nb24 hN) (aX_24 _) hv dX4_firstRiderOrSelf_38 ?_
            refine lv_aload_n hx hb dX4_firstRiderOrSelf_39 rfl (lv_at hl 0 rfl) ?_
            obtain ⟨_, hv, hf⟩ := bs1 hf
            refine x_getr hx hb hts hown hE hP fl_X4_30 (nb30 hN) gX_30_6 hv dX4_firstRiderOrSelf_40 ?_
            refine x_get hx hb hts hown hE hP fl_X4_142 (nb17 hN) gX_17_6 dX4_firstRiderOrSelf_43 ?_
            refine lv_iload_n hx hb dX4_firstRiderOrSelf_46 rfl (lv_at hl 2 rfl) ?_
            obtain ⟨v9, hv, hf⟩ := bs1 hf
            refine x_iald hx hb hE hP (nb24 hN) (aX_24 _) hv dX4_firstRiderOrSelf_47 ?_
            refine lv_icmp_ge (tgt := 53) hx hb dX4_firstRiderOrSelf_48 (by decide) (fun hc => ?_) (fun hc => ?_)
            · have hf := ip hc hf
              cases hf
              exact hJ7 _ _ _ hP hS (lv_sub hl [0, 1, 2, 3] rfl)
            · have hf := iq hc hf
              refine lv_iload_n hx hb dX4_firstRiderOrSelf_51 rfl (lv_at hl 3 rfl) ?_
              refine lv_istore_n (lv' := [(2, .int v2), (0, .ref (ad 30)), (1, .int x1), (3, .int v2)]) hx hb dX4_firstRiderOrSelf_52 rfl hl (by decide) rfl (fun ls hl => ?_)
              cases hf
              exact hJ7 _ _ _ hP hS (lv_sub hl [1, 2, 0, 3] rfl)
  exact hL3 _ _ _ _ _ _ hf hP hS (lv_sub hl [2, 3, 1, 0] rfl)
def LX0_span_2 : Nat → Int32 → Mm → Option (Mm)
  | 0, _, _ => none
  | fu + 1, v1, w2 =>
    if 99 < v1 then
      some (w2)
    else
      bd1 (wr w2 48 100 v1 201) fun w5 =>
      bd1 (wr w5 49 100 v1 (-4)) fun w6 =>
      LX0_span_2 fu (v1 + 1) w6
def LX0_span_33 : Nat → Int32 → Mm → Option (Mm)
  | 0, _, _ => none
  | fu + 1, v7, w8 =>
    if (w8 17 12) ≤ v7 then
      some (w8)
    else
      bd1 (rd w8 32 8 v7) fun v11 =>
      bd1 (
        if v11 = (-4) then
          bd1 (fX0_crossWidest w8 v7) fun w14 =>
          some (w14)
        else
          some (w8)) fun (w12 : Mm) =>
      LX0_span_33 fu (v7 + 1) w12
def LX0_span_67 : Nat → Int32 → Mm → Option (Mm)
  | 0, _, _ => none
  | fu + 1, v15, w16 =>
    if 99 < v15 then
      some (w16)
    else
      bd1 (rd w16 49 100 v15) fun v19 =>
      bd1 (
        if v19 = (-4) then
          some (w16)
        else
          bd1 (rd w16 49 100 v15) fun v22 =>
          bd1 (fX4_firstRiderOrSelf w16 v22) fun v23 =>
          bd1 (wr w16 49 100 v15 v23) fun w24 =>
          some (w24)) fun (w20 : Mm) =>
      LX0_span_67 fu (v15 + 1) w20
def fX0_span (w : Mm) : Option (Mm) :=
  bd1 (LX0_span_2 1000 0 w) fun (w4 : Mm) =>
  bd1 (LX0_span_33 1000 0 w4) fun (w10 : Mm) =>
  bd1 (LX0_span_67 1000 1 w10) fun (w18 : Mm) =>
  some w18
set_option maxHeartbeats 4000000 in
set_option maxRecDepth 100000 in
theorem kX0_span {l : Launch} {κ : Kp} {tl : Nat} {N : Nat} {ad : Nat → Nat} {w : Mm} {w' : Mm} (hN : 52 ≤ N) (hD : Apt ad N) (hf : fX0_span w = some w') : Met l yX0_span (Cond.code yX0_span cX0_span 4 none :: TB) (rmX 4 92) (PcX κ (wX κ tl) N ad w [.ref (ad 47), .ref (ad 30), .ref (ad 17)]) (QV κ (wX κ tl) N ad w') 0 0 (Aof ad N) := by
  refine mkV (by decide +kernel) (Nat.le_of_ble_eq_true rfl) (fun p e R s m args below meth c Q H locs ls hC hRf hRl hP hS hret hl => ?_)
  obtain ⟨hx, hb, hml, hown, hts, hE⟩ := hC
  have hA : ∀ k, k < N → Aof ad N (ad k) := fun k h => Aof_in h
  have hAA : ∀ z, Aof ad N z → Aof ad N z := fun _ h => h
  have hl : lv_has ls 4 [(0, .ref (ad 47)), (1, .ref (ad 30)), (2, .ref (ad 17))] := hl
  unfold fX0_span at hf
  refine lv_iconst (v := 0) hx hb dX0_span_0 nc_0 ?_
  refine lv_istore_n (lv' := [(3, .int 0), (0, .ref (ad 47)), (1, .ref (ad 30)), (2, .ref (ad 17))]) hx hb dX0_span_1 rfl hl (by decide) rfl (fun ls hl => ?_)
  obtain ⟨w4, hq3, hf⟩ := bs1 hf
  have hJ3 : ∀ (H : Heap) (locs : List Loc) (ls : Array Slot), Ho κ (wX κ tl) N ad w4 H → va_S (Aof ad N) s.heap H locs → lv_has ls 4 [(0, .ref (ad 47)), (1, .ref (ad 30)), (2, .ref (ad 17))] → W p l e R s m args below meth c H locs 0 0 Q (F0 m 31 ls []) := by
    intro H locs ls hP hS hl
    refine lv_iconst (v := 0) hx hb dX0_span_31 nc_0 ?_
    refine lv_istore_n (lv' := [(3, .int 0), (0, .ref (ad 47)), (1, .ref (ad 30)), (2, .ref (ad 17))]) hx hb dX0_span_32 rfl hl (by decide) rfl (fun ls hl => ?_)
    obtain ⟨w10, hq9, hf⟩ := bs1 hf
    have hJ9 : ∀ (H : Heap) (locs : List Loc) (ls : Array Slot), Ho κ (wX κ tl) N ad w10 H → va_S (Aof ad N) s.heap H locs → lv_has ls 4 [(0, .ref (ad 47)), (1, .ref (ad 30))] → W p l e R s m args below meth c H locs 0 0 Q (F0 m 65 ls []) := by
      intro H locs ls hP hS hl
      refine lv_iconst (v := 1) hx hb dX0_span_65 nc_1 ?_
      refine lv_istore_n (lv' := [(3, .int 1), (0, .ref (ad 47)), (1, .ref (ad 30))]) hx hb dX0_span_66 rfl hl (by decide) rfl (fun ls hl => ?_)
      obtain ⟨w18, hq17, hf⟩ := bs1 hf
      have hJ17 : ∀ (H : Heap) (locs : List Loc) (ls : Array Slot), Ho κ (wX κ tl) N ad w18 H → va_S (Aof ad N) s.heap H locs → lv_has ls 4 [] → W p l e R s m args below meth c H locs 0 0 Q (F0 m 106 ls []) := by
        intro H locs ls hP hS hl
        cases hf
        exact hret _ _ _ _ dX0_span_106 hP hS
      clear hf
      have hf := hq17
      clear hq17
      have hL17 : ∀ (fu : Nat) (v15 : Int32) (w16 : Mm) (H : Heap) (locs : List Loc) (ls : Array Slot), LX0_span_67 fu v15 w16 = some (w18) → Ho κ (wX κ tl) N ad w16 H → va_S (Aof ad N) s.heap H locs → lv_has ls 4 [(0, .ref (ad 47)), (1, .ref (ad 30)), (3, .int v15)] → W p l e R s m args below meth c H locs 0 0 Q (F0 m 67 ls []) := by
        intro fu
        induction fu with
        | zero =>
          intro v15 w16 H locs ls hf
          rw [LX0_span_67] at hf
          cases hf
        | succ fu ih =>
          intro v15 w16 H locs ls hf hP hS hl
          rw [LX0_span_67] at hf
          refine lv_iload_n hx hb dX0_span_67 rfl (lv_at hl 2 rfl) ?_
          refine lv_bipush (v := 99) hx hb dX0_span_68 nb_99 ?_
          refine lv_icmp_gt (tgt := 106) hx hb dX0_span_70 (by decide) (fun hc => ?_) (fun hc => ?_)
          · have hf := ip hc hf
            cases hf
            exact hJ17 _ _ _ hP hS (lv_sub hl [] rfl)
          · have hf := iq hc hf
            refine lv_aload_n hx hb dX0_span_73 rfl (lv_at hl 0 rfl) ?_
            refine x_get hx hb hts hown hE hP fl_X0_15 (nb47 hN) gX_47_1 dX0_span_74 ?_
            refine lv_iload_n hx hb dX0_span_77 rfl (lv_at hl 2 rfl) ?_
            obtain ⟨v19, hv, hf⟩ := bs1 hf
            refine x_iald hx hb hE hP (nb49 hN) (aX_49 _) hv dX0_span_78 ?_
            refine lv_bipush (v := (-4)) hx hb dX0_span_79 nb_m4 ?_
            obtain ⟨w20, hq21, hf⟩ := bs1 hf
            have hJ21 : ∀ (H : Heap) (locs : List Loc) (ls : Array Slot), Ho κ (wX κ tl) N ad w20 H → va_S (Aof ad N) s.heap H locs → lv_has ls 4 [(0, .ref (ad 47)), (1, .ref (ad 30)), (3, .int v15)] → W p l e R s m args below meth c H locs 0 0 Q (F0 m 100 ls []) := by
              intro H locs ls hP hS hl
              refine lv_iinc (v := (v15 + 1)) (lv' := [(3, .int (v15 + 1)), (0, .ref (ad 47)), (1, .ref (ad 30))]) hx hb dX0_span_100 hl (k := 2) rfl (ni_1 _) (by decide) rfl (fun ls hl => ?_)
              refine lv_goto (tgt := 67) hx hb dX0_span_103 (by decide) ?_
              exact ih _ _ _ _ _ hf hP hS (lv_sub hl [1, 2, 0] rfl)
            clear hf
            have hf := hq21
            clear hq21
            refine lv_icmp_eq (tgt := 100) hx hb dX0_span_81 (by decide) (fun hc => ?_) (fun hc => ?_)
            · have hf := ip hc hf
              cases hf
              exact hJ21 _ _ _ hP hS (lv_sub hl [0, 1, 2] rfl)
            · have hf := iq hc hf
              refine lv_aload_n hx hb dX0_span_84 rfl (lv_at hl 0 rfl) ?_
              refine x_get hx hb hts hown hE hP fl_X0_15 (nb47 hN) gX_47_1 dX0_span_85 ?_
              refine lv_iload_n hx hb dX0_span_88 rfl (lv_at hl 2 rfl) ?_
              refine lv_aload_n hx hb dX0_span_89 rfl (lv_at hl 1 rfl) ?_
              refine lv_aload_n hx hb dX0_span_90 rfl (lv_at hl 0 rfl) ?_
              refine x_get hx hb hts hown hE hP fl_X0_15 (nb47 hN) gX_47_1 dX0_span_91 ?_
              refine lv_iload_n hx hb dX0_span_94 rfl (lv_at hl 2 rfl) ?_
              obtain ⟨v22, hv, hf⟩ := bs1 hf
              refine x_iald hx hb hE hP (nb49 hN) (aX_49 _) hv dX0_span_95 ?_
              obtain ⟨v23, hv, hf⟩ := bs1 hf
              refine x_cVi (As := [.int v22]) (rest := [.int v15, .ref (ad 49)]) hx hb hml hts hown hE hP hS hAA (kX4_firstRiderOrSelf hN hD hv) cl_X0_33 (nb30 hN) oX_30 vc_4 (Nat.le_trans (by decide) hRf) (Nat.le_trans (by decide) hRl) (Nat.zero_le _) (Nat.zero_le _) rfl hl.1 rfl (Nat.le_of_ble_eq_true rfl) dX0_span_96 (fun H locs hP hS => ?_)
              obtain ⟨w24, hv, hf⟩ := bs1 hf
              refine x_iast hx hb hE hD hA hP hS (nb49 hN) aX_49 hv dX0_span_99 (fun H locs hP hS => ?_)
              cases hf
              exact hJ21 _ _ _ hP hS (lv_sub hl [0, 1, 2] rfl)
      exact hL17 _ _ _ _ _ _ hf hP hS (lv_sub hl [1, 2, 0] rfl)
    clear hf
    have hf := hq9
    clear hq9
    have hL9 : ∀ (fu : Nat) (v7 : Int32) (w8 : Mm) (H : Heap) (locs : List Loc) (ls : Array Slot), LX0_span_33 fu v7 w8 = some (w10) → Ho κ (wX κ tl) N ad w8 H → va_S (Aof ad N) s.heap H locs → lv_has ls 4 [(0, .ref (ad 47)), (1, .ref (ad 30)), (2, .ref (ad 17)), (3, .int v7)] → W p l e R s m args below meth c H locs 0 0 Q (F0 m 33 ls []) := by
      intro fu
      induction fu with
      | zero =>
        intro v7 w8 H locs ls hf
        rw [LX0_span_33] at hf
        cases hf
      | succ fu ih =>
        intro v7 w8 H locs ls hf hP hS hl
        rw [LX0_span_33] at hf
        refine lv_iload_n hx hb dX0_span_33 rfl (lv_at hl 3 rfl) ?_
        refine lv_aload_n hx hb dX0_span_34 rfl (lv_at hl 2 rfl) ?_
        refine x_get hx hb hts hown hE hP fl_X0_18 (nb17 hN) gX_17_12 dX0_span_35 ?_
        refine lv_icmp_ge (tgt := 65) hx hb dX0_span_38 (by decide) (fun hc => ?_) (fun hc => ?_)
        · have hf := ip hc hf
          cases hf
          exact hJ9 _ _ _ hP hS (lv_sub hl [0, 1] rfl)
        · have hf := iq hc hf
          refine lv_aload_n hx hb dX0_span_41 rfl (lv_at hl 1 rfl) ?_
          refine x_get hx hb hts hown hE hP fl_X0_24 (nb30 hN) gX_30_1 dX0_span_42 ?_
          refine lv_iload_n hx hb dX0_span_45 rfl (lv_at hl 3 rfl) ?_
          obtain ⟨v11, hv, hf⟩ := bs1 hf
          refine x_iald hx hb hE hP (nb32 hN) (aX_32 _) hv dX0_span_46 ?_
          refine lv_bipush (v := (-4)) hx hb dX0_span_47 nb_m4 ?_
          obtain ⟨w12, hq13, hf⟩ := bs1 hf
          have hJ13 : ∀ (H : Heap) (locs : List Loc) (ls : Array Slot), Ho κ (wX κ tl) N ad w12 H → va_S (Aof ad N) s.heap H locs → lv_has ls 4 [(0, .ref (ad 47)), (1, .ref (ad 30)), (2, .ref (ad 17)), (3, .int v7)] → W p l e R s m args below meth c H locs 0 0 Q (F0 m 59 ls []) := by
            intro H locs ls hP hS hl
            refine lv_iinc (v := (v7 + 1)) (lv' := [(3, .int (v7 + 1)), (0, .ref (ad 47)), (1, .ref (ad 30)), (2, .ref (ad 17))]) hx hb dX0_span_59 hl (k := 3) rfl (ni_1 _) (by decide) rfl (fun ls hl => ?_)
            refine lv_goto (tgt := 33) hx hb dX0_span_62 (by decide) ?_
            exact ih _ _ _ _ _ hf hP hS (lv_sub hl [1, 2, 3, 0] rfl)
          clear hf
          have hf := hq13
          clear hq13
          refine lv_icmp_ne (tgt := 59) hx hb dX0_span_49 (by decide) (fun hc => ?_) (fun hc => ?_)
          · have hf := iq hc hf
            cases hf
            exact hJ13 _ _ _ hP hS (lv_sub hl [0, 1, 2, 3] rfl)
          · have hf := ip hc hf
            refine lv_aload_n hx hb dX0_span_52 rfl (lv_at hl 0 rfl) ?_
            refine lv_aload_n hx hb dX0_span_53 rfl (lv_at hl 1 rfl) ?_
            refine lv_aload_n hx hb dX0_span_54 rfl (lv_at hl 2 rfl) ?_
            refine lv_iload_n hx hb dX0_span_55 rfl (lv_at hl 3 rfl) ?_
            obtain ⟨w14, hv, hf⟩ := bs1 hf
            refine x_cVv (As := [.ref (ad 30), .ref (ad 17), .int v7]) (rest := []) hx hb hml hts hown hE hP hS hAA (kX0_crossWidest hN hD hv) cl_X0_29 (nb47 hN) oX_47 vc_0 (Nat.le_trans (by decide) hRf) (Nat.le_trans (by decide) hRl) (Nat.zero_le _) (Nat.zero_le _) rfl hl.1 rfl (Nat.le_of_ble_eq_true rfl) dX0_span_56 (fun H locs hP hS => ?_)
            cases hf
            exact hJ13 _ _ _ hP hS (lv_sub hl [0, 1, 2, 3] rfl)
    exact hL9 _ _ _ _ _ _ hf hP hS (lv_sub hl [1, 2, 3, 0] rfl)
  clear hf
  have hf := hq3
  clear hq3
  have hL3 : ∀ (fu : Nat) (v1 : Int32) (w2 : Mm) (H : Heap) (locs : List Loc) (ls : Array Slot), LX0_span_2 fu v1 w2 = some (w4) → Ho κ (wX κ tl) N ad w2 H → va_S (Aof ad N) s.heap H locs → lv_has ls 4 [(0, .ref (ad 47)), (1, .ref (ad 30)), (2, .ref (ad 17)), (3, .int v1)] → W p l e R s m args below meth c H locs 0 0 Q (F0 m 2 ls []) := by
    intro fu
    induction fu with
    | zero =>
      intro v1 w2 H locs ls hf
      rw [LX0_span_2] at hf
      cases hf
    | succ fu ih =>
      intro v1 w2 H locs ls hf hP hS hl
      rw [LX0_span_2] at hf
      refine lv_iload_n hx hb dX0_span_2 rfl (lv_at hl 3 rfl) ?_
      refine lv_bipush (v := 99) hx hb dX0_span_3 nb_99 ?_
      refine lv_icmp_gt (tgt := 31) hx hb dX0_span_5 (by decide) (fun hc => ?_) (fun hc => ?_)
      · have hf := ip hc hf
        cases hf
        exact hJ3 _ _ _ hP hS (lv_sub hl [0, 1, 2] rfl)
      · have hf := iq hc hf
        refine lv_aload_n hx hb dX0_span_8 rfl (lv_at hl 0 rfl) ?_
        refine x_get hx hb hts hown hE hP fl_X0_9 (nb47 hN) gX_47_0 dX0_span_9 ?_
        refine lv_iload_n hx hb dX0_span_12 rfl (lv_at hl 3 rfl) ?_
        refine lv_sipush (v := 201) hx hb dX0_span_13 ns_201 ?_
        obtain ⟨w5, hv, hf⟩ := bs1 hf
        refine x_iast hx hb hE hD hA hP hS (nb48 hN) aX_48 hv dX0_span_16 (fun H locs hP hS => ?_)
        refine lv_aload_n hx hb dX0_span_17 rfl (lv_at hl 0 rfl) ?_
        refine x_get hx hb hts hown hE hP fl_X0_15 (nb47 hN) gX_47_1 dX0_span_18 ?_
        refine lv_iload_n hx hb dX0_span_21 rfl (lv_at hl 3 rfl) ?_
        refine lv_bipush (v := (-4)) hx hb dX0_span_22 nb_m4 ?_
        obtain ⟨w6, hv, hf⟩ := bs1 hf
        refine x_iast hx hb hE hD hA hP hS (nb49 hN) aX_49 hv dX0_span_24 (fun H locs hP hS => ?_)
        refine lv_iinc (v := (v1 + 1)) (lv' := [(3, .int (v1 + 1)), (0, .ref (ad 47)), (1, .ref (ad 30)), (2, .ref (ad 17))]) hx hb dX0_span_25 hl (k := 3) rfl (ni_1 _) (by decide) rfl (fun ls hl => ?_)
        refine lv_goto (tgt := 2) hx hb dX0_span_28 (by decide) ?_
        exact ih _ _ _ _ _ hf hP hS (lv_sub hl [1, 2, 3, 0] rfl)
  exact hL3 _ _ _ _ _ _ hf hP hS (lv_sub hl [1, 2, 3, 0] rfl)
def LX0_widthsOf_4 (x1 : Int32) (w : Mm) : Nat → Int32 → Int32 → Option (Int32)
  | 0, _, _ => none
  | fu + 1, v1, v2 =>
    if 99 < v2 then
      some (v1)
    else
      bd1 (rd w 49 100 v2) fun v5 =>
      bd1 (
        if v5 = x1 then
          some (1)
        else
          some (0)) fun (v6 : Int32) =>
      LX0_widthsOf_4 x1 w fu (v1 + v6) (v2 + 1)
def fX0_widthsOf (w : Mm) (x1 : Int32) : Option (Int32) :=
  bd1 (LX0_widthsOf_4 x1 w 1000 0 1) fun (v4 : Int32) =>
  some v4
set_option maxHeartbeats 4000000 in
set_option maxRecDepth 100000 in
theorem kX0_widthsOf {l : Launch} {κ : Kp} {tl : Nat} {N : Nat} {ad : Nat → Nat} {w : Mm} {x1 : Int32} {r : Int32} (hN : 52 ≤ N) (hD : Apt ad N) (hf : fX0_widthsOf w x1 = some r) : Met l yX0_widthsOf (Cond.code yX0_widthsOf cX0_widthsOf 4 (some .int) :: TB) (rmX 0 0) (PcX κ (wX κ tl) N ad w [.ref (ad 47), .int x1]) (QI κ (wX κ tl) N ad w r) 0 0 (Aof ad N) := by
  refine mkI (by decide +kernel) (Nat.le_of_ble_eq_true rfl) (fun p e R s m args below meth c Q H locs ls hC hRf hRl hP hS hret hl => ?_)
  obtain ⟨hx, hb, hml, hown, hts, hE⟩ := hC
  have hA : ∀ k, k < N → Aof ad N (ad k) := fun k h => Aof_in h
  have hAA : ∀ z, Aof ad N z → Aof ad N z := fun _ h => h
  have hl : lv_has ls 4 [(0, .ref (ad 47)), (1, .int x1)] := hl
  unfold fX0_widthsOf at hf
  refine lv_iconst (v := 0) hx hb dX0_widthsOf_0 nc_0 ?_
  refine lv_istore_n (lv' := [(2, .int 0), (0, .ref (ad 47)), (1, .int x1)]) hx hb dX0_widthsOf_1 rfl hl (by decide) rfl (fun ls hl => ?_)
  refine lv_iconst (v := 1) hx hb dX0_widthsOf_2 nc_1 ?_
  refine lv_istore_n (lv' := [(3, .int 1), (2, .int 0), (0, .ref (ad 47)), (1, .int x1)]) hx hb dX0_widthsOf_3 rfl hl (by decide) rfl (fun ls hl => ?_)
  obtain ⟨v4, hq3, hf⟩ := bs1 hf
  have hJ3 : ∀ (H : Heap) (locs : List Loc) (ls : Array Slot), Ho κ (wX κ tl) N ad w H → va_S (Aof ad N) s.heap H locs → lv_has ls 4 [(2, .int v4)] → W p l e R s m args below meth c H locs 0 0 Q (F0 m 34 ls []) := by
    intro H locs ls hP hS hl
    refine lv_iload_n hx hb dX0_widthsOf_34 rfl (lv_at hl 0 rfl) ?_
    cases hf
    exact hret _ _ _ _ dX0_widthsOf_35 hP hS
  clear hf
  have hf := hq3
  clear hq3
  have hL3 : ∀ (fu : Nat) (v1 : Int32) (v2 : Int32) (H : Heap) (locs : List Loc) (ls : Array Slot), LX0_widthsOf_4 x1 w fu v1 v2 = some (v4) → Ho κ (wX κ tl) N ad w H → va_S (Aof ad N) s.heap H locs → lv_has ls 4 [(0, .ref (ad 47)), (1, .int x1), (2, .int v1), (3, .int v2)] → W p l e R s m args below meth c H locs 0 0 Q (F0 m 4 ls []) := by
    intro fu
    induction fu with
    | zero =>
      intro v1 v2 H locs ls hf
      rw [LX0_widthsOf_4] at hf
      cases hf
    | succ fu ih =>
      intro v1 v2 H locs ls hf hP hS hl
      rw [LX0_widthsOf_4] at hf
      refine lv_iload_n hx hb dX0_widthsOf_4 rfl (lv_at hl 3 rfl) ?_
      refine lv_bipush (v := 99) hx hb dX0_widthsOf_5 nb_99 ?_
      refine lv_icmp_gt (tgt := 34) hx hb dX0_widthsOf_7 (by decide) (fun hc => ?_) (fun hc => ?_)
      · have hf := ip hc hf
        cases hf
        exact hJ3 _ _ _ hP hS (lv_sub hl [2] rfl)
      · have hf := iq hc hf
        refine lv_iload_n hx hb dX0_widthsOf_10 rfl (lv_at hl 2 rfl) ?_
        refine lv_aload_n hx hb dX0_widthsOf_11 rfl (lv_at hl 0 rfl) ?_
        refine x_get hx hb hts hown hE hP fl_X0_15 (nb47 hN) gX_47_1 dX0_widthsOf_12 ?_
        refine lv_iload_n hx hb dX0_widthsOf_15 rfl (lv_at hl 3 rfl) ?_
        obtain ⟨v5, hv, hf⟩ := bs1 hf
        refine x_iald hx hb hE hP (nb49 hN) (aX_49 _) hv dX0_widthsOf_16 ?_
        refine lv_iload_n hx hb dX0_widthsOf_17 rfl (lv_at hl 1 rfl) ?_
        obtain ⟨v6, hq7, hf⟩ := bs1 hf
        have hJ7 : ∀ (H : Heap) (locs : List Loc) (ls : Array Slot), Ho κ (wX κ tl) N ad w H → va_S (Aof ad N) s.heap H locs → lv_has ls 4 [(0, .ref (ad 47)), (1, .int x1), (3, .int v2)] → W p l e R s m args below meth c H locs 0 0 Q (F0 m 26 ls [.int v6, .int v1]) := by
          intro H locs ls hP hS hl
          refine lv_iadd hx hb dX0_widthsOf_26 ?_
          refine lv_istore_n (lv' := [(2, .int (v1 + v6)), (0, .ref (ad 47)), (1, .int x1), (3, .int v2)]) hx hb dX0_widthsOf_27 rfl hl (by decide) rfl (fun ls hl => ?_)
          refine lv_iinc (v := (v2 + 1)) (lv' := [(3, .int (v2 + 1)), (2, .int (v1 + v6)), (0, .ref (ad 47)), (1, .int x1)]) hx hb dX0_widthsOf_28 hl (k := 3) rfl (ni_1 _) (by decide) rfl (fun ls hl => ?_)
          refine lv_goto (tgt := 4) hx hb dX0_widthsOf_31 (by decide) ?_
          exact ih _ _ _ _ _ hf hP hS (lv_sub hl [2, 3, 1, 0] rfl)
        clear hf
        have hf := hq7
        clear hq7
        refine lv_icmp_ne (tgt := 25) hx hb dX0_widthsOf_18 (by decide) (fun hc => ?_) (fun hc => ?_)
        · have hf := iq hc hf
          refine lv_iconst (v := 0) hx hb dX0_widthsOf_25 nc_0 ?_
          cases hf
          exact hJ7 _ _ _ hP hS (lv_sub hl [0, 1, 3] rfl)
        · have hf := ip hc hf
          refine lv_iconst (v := 1) hx hb dX0_widthsOf_21 nc_1 ?_
          refine lv_goto (tgt := 26) hx hb dX0_widthsOf_22 (by decide) ?_
          cases hf
          exact hJ7 _ _ _ hP hS (lv_sub hl [0, 1, 3] rfl)
  exact hL3 _ _ _ _ _ _ hf hP hS (lv_sub hl [2, 3, 1, 0] rfl)
def LX0_firstBits_4 (w : Mm) : Nat → Int32 → Int32 → Option (Int32)
  | 0, _, _ => none
  | fu + 1, v1, v2 =>
    if 99 < v2 then
      some (v1)
    else
      bd1 (rd w 49 100 v2) fun v5 =>
      bd1 (
        if 0 ≤ v5 then
          bd1 (rd w 49 100 v2) fun v8 =>
          some ((1 <<< (v8 &&& 31)))
        else
          some (0)) fun (v6 : Int32) =>
      LX0_firstBits_4 w fu (v1 ||| v6) (v2 + 1)
def fX0_firstBits (w : Mm) : Option (Int32) :=
  bd1 (LX0_firstBits_4 w 1000 0 1) fun (v4 : Int32) =>
  some v4
set_option maxHeartbeats 4000000 in
set_option maxRecDepth 100000 in
theorem kX0_firstBits {l : Launch} {κ : Kp} {tl : Nat} {N : Nat} {ad : Nat → Nat} {w : Mm} {r : Int32} (hN : 52 ≤ N) (hD : Apt ad N) (hf : fX0_firstBits w = some r) : Met l yX0_firstBits (Cond.code yX0_firstBits cX0_firstBits 3 (some .int) :: TB) (rmX 0 0) (PcX κ (wX κ tl) N ad w [.ref (ad 47)]) (QI κ (wX κ tl) N ad w r) 0 0 (Aof ad N) := by
  refine mkI (by decide +kernel) (Nat.le_of_ble_eq_true rfl) (fun p e R s m args below meth c Q H locs ls hC hRf hRl hP hS hret hl => ?_)
  obtain ⟨hx, hb, hml, hown, hts, hE⟩ := hC
  have hA : ∀ k, k < N → Aof ad N (ad k) := fun k h => Aof_in h
  have hAA : ∀ z, Aof ad N z → Aof ad N z := fun _ h => h
  have hl : lv_has ls 3 [(0, .ref (ad 47))] := hl
  unfold fX0_firstBits at hf
  refine lv_iconst (v := 0) hx hb dX0_firstBits_0 nc_0 ?_
  refine lv_istore_n (lv' := [(1, .int 0), (0, .ref (ad 47))]) hx hb dX0_firstBits_1 rfl hl (by decide) rfl (fun ls hl => ?_)
  refine lv_iconst (v := 1) hx hb dX0_firstBits_2 nc_1 ?_
  refine lv_istore_n (lv' := [(2, .int 1), (1, .int 0), (0, .ref (ad 47))]) hx hb dX0_firstBits_3 rfl hl (by decide) rfl (fun ls hl => ?_)
  obtain ⟨v4, hq3, hf⟩ := bs1 hf
  have hJ3 : ∀ (H : Heap) (locs : List Loc) (ls : Array Slot), Ho κ (wX κ tl) N ad w H → va_S (Aof ad N) s.heap H locs → lv_has ls 3 [(1, .int v4)] → W p l e R s m args below meth c H locs 0 0 Q (F0 m 40 ls []) := by
    intro H locs ls hP hS hl
    refine lv_iload_n hx hb dX0_firstBits_40 rfl (lv_at hl 0 rfl) ?_
    cases hf
    exact hret _ _ _ _ dX0_firstBits_41 hP hS
  clear hf
  have hf := hq3
  clear hq3
  have hL3 : ∀ (fu : Nat) (v1 : Int32) (v2 : Int32) (H : Heap) (locs : List Loc) (ls : Array Slot), LX0_firstBits_4 w fu v1 v2 = some (v4) → Ho κ (wX κ tl) N ad w H → va_S (Aof ad N) s.heap H locs → lv_has ls 3 [(0, .ref (ad 47)), (1, .int v1), (2, .int v2)] → W p l e R s m args below meth c H locs 0 0 Q (F0 m 4 ls []) := by
    intro fu
    induction fu with
    | zero =>
      intro v1 v2 H locs ls hf
      rw [LX0_firstBits_4] at hf
      cases hf
    | succ fu ih =>
      intro v1 v2 H locs ls hf hP hS hl
      rw [LX0_firstBits_4] at hf
      refine lv_iload_n hx hb dX0_firstBits_4 rfl (lv_at hl 2 rfl) ?_
      refine lv_bipush (v := 99) hx hb dX0_firstBits_5 nb_99 ?_
      refine lv_icmp_gt (tgt := 40) hx hb dX0_firstBits_7 (by decide) (fun hc => ?_) (fun hc => ?_)
      · have hf := ip hc hf
        cases hf
        exact hJ3 _ _ _ hP hS (lv_sub hl [1] rfl)
      · have hf := iq hc hf
        refine lv_iload_n hx hb dX0_firstBits_10 rfl (lv_at hl 1 rfl) ?_
        refine lv_aload_n hx hb dX0_firstBits_11 rfl (lv_at hl 0 rfl) ?_
        refine x_get hx hb hts hown hE hP fl_X0_15 (nb47 hN) gX_47_1 dX0_firstBits_12 ?_
        refine lv_iload_n hx hb dX0_firstBits_15 rfl (lv_at hl 2 rfl) ?_
        obtain ⟨v5, hv, hf⟩ := bs1 hf
        refine x_iald hx hb hE hP (nb49 hN) (aX_49 _) hv dX0_firstBits_16 ?_
        obtain ⟨v6, hq7, hf⟩ := bs1 hf
        have hJ7 : ∀ (H : Heap) (locs : List Loc) (ls : Array Slot), Ho κ (wX κ tl) N ad w H → va_S (Aof ad N) s.heap H locs → lv_has ls 3 [(0, .ref (ad 47)), (2, .int v2)] → W p l e R s m args below meth c H locs 0 0 Q (F0 m 32 ls [.int v6, .int v1]) := by
          intro H locs ls hP hS hl
          refine lv_ior hx hb dX0_firstBits_32 ?_
          refine lv_istore_n (lv' := [(1, .int (v1 ||| v6)), (0, .ref (ad 47)), (2, .int v2)]) hx hb dX0_firstBits_33 rfl hl (by decide) rfl (fun ls hl => ?_)
          refine lv_iinc (v := (v2 + 1)) (lv' := [(2, .int (v2 + 1)), (1, .int (v1 ||| v6)), (0, .ref (ad 47))]) hx hb dX0_firstBits_34 hl (k := 2) rfl (ni_1 _) (by decide) rfl (fun ls hl => ?_)
          refine lv_goto (tgt := 4) hx hb dX0_firstBits_37 (by decide) ?_
          exact ih _ _ _ _ _ hf hP hS (lv_sub hl [2, 1, 0] rfl)
        clear hf
        have hf := hq7
        clear hq7
        refine lv_if_ge (tgt := 24) hx hb dX0_firstBits_17 (by decide) (fun hc => ?_) (fun hc => ?_)
        · have hf := ip hc hf
          refine lv_iconst (v := 1) hx hb dX0_firstBits_24 nc_1 ?_
          refine lv_aload_n hx hb dX0_firstBits_25 rfl (lv_at hl 0 rfl) ?_
          refine x_get hx hb hts hown hE hP fl_X0_15 (nb47 hN) gX_47_1 dX0_firstBits_26 ?_
          refine lv_iload_n hx hb dX0_firstBits_29 rfl (lv_at hl 2 rfl) ?_
          obtain ⟨v8, hv, hf⟩ := bs1 hf
          refine x_iald hx hb hE hP (nb49 hN) (aX_49 _) hv dX0_firstBits_30 ?_
          refine lv_ishl hx hb dX0_firstBits_31 ?_
          cases hf
          exact hJ7 _ _ _ hP hS (lv_sub hl [0, 2] rfl)
        · have hf := iq hc hf
          refine lv_iconst (v := 0) hx hb dX0_firstBits_20 nc_0 ?_
          refine lv_goto (tgt := 32) hx hb dX0_firstBits_21 (by decide) ?_
          cases hf
          exact hJ7 _ _ _ hP hS (lv_sub hl [0, 2] rfl)
  exact hL3 _ _ _ _ _ _ hf hP hS (lv_sub hl [2, 1, 0] rfl)
def fX8_bridge (w : Mm) (x1 : Int32) : Option (Int32 × Mm) :=
  bd1 (
    if x1 = (-1) then
      some (false)
    else
      bd1 (gq (w 16 3) 17) fun _ =>
      bd1 (fX6_has_l w x1) fun v3 =>
      if v3 = 0 then
        some (true)
      else
        some (false)) fun (b1 : Bool) =>
  if b1 = true then
    some ((-1), w)
  else
    bd1 (gq (w 16 3) 17) fun _ =>
    bd1 (fX4_prepare w) fun w4 =>
    bd1 (gq (w4 16 3) 17) fun _ =>
    bd1 (fX0_span w4) fun w5 =>
    if x1 = (-1) then
      bd1 (fX0_firstBits w5) fun v7 =>
      some (v7, w5)
    else
      bd1 (fX0_widthsOf w5 x1) fun v6 =>
      some (v6, w5)
set_option maxHeartbeats 4000000 in
set_option maxRecDepth 100000 in
theorem kX8_bridge {l : Launch} {κ : Kp} {tl : Nat} {N : Nat} {ad : Nat → Nat} {w : Mm} {x1 : Int32} {r : Int32} {w' : Mm} (hN : 52 ≤ N) (hD : Apt ad N) (hf : fX8_bridge w x1 = some (r, w')) : Met l yX8_bridge (Cond.code yX8_bridge cX8_bridge 2 (some .int) :: TB) (rmX 5 115) (PcX κ (wX κ tl) N ad w [.ref (ad 16), .int x1]) (QI κ (wX κ tl) N ad w' r) 0 0 (Aof ad N) := by
  refine mkI (by decide +kernel) (Nat.le_of_ble_eq_true rfl) (fun p e R s m args below meth c Q H locs ls hC hRf hRl hP hS hret hl => ?_)
  obtain ⟨hx, hb, hml, hown, hts, hE⟩ := hC
  have hA : ∀ k, k < N → Aof ad N (ad k) := fun k h => Aof_in h
  have hAA : ∀ z, Aof ad N z → Aof ad N z := fun _ h => h
  have hl : lv_has ls 2 [(0, .ref (ad 16)), (1, .int x1)] := hl
  unfold fX8_bridge at hf
  refine lv_iload_n hx hb dX8_bridge_0 rfl (lv_at hl 1 rfl) ?_
  refine lv_iconst (v := (-1)) hx hb dX8_bridge_1 nc_m1 ?_
  obtain ⟨b1, hq2, hf⟩ := bs1 hf
  have hT2 : b1 = true → ∀ (H : Heap) (locs : List Loc) (ls : Array Slot), Ho κ (wX κ tl) N ad w H → va_S (Aof ad N) s.heap H locs → lv_has ls 2 [] → W p l e R s m args below meth c H locs 0 0 Q (F0 m 16 ls []) := by
    intro hc H locs ls hP hS hl
    have hf := ip hc hf
    refine lv_iconst (v := (-1)) hx hb dX8_bridge_16 nc_m1 ?_
    cases hf
    exact hret _ _ _ _ dX8_bridge_17 hP hS
  have hF2 : ¬ b1 = true → ∀ (H : Heap) (locs : List Loc) (ls : Array Slot), Ho κ (wX κ tl) N ad w H → va_S (Aof ad N) s.heap H locs → lv_has ls 2 [(0, .ref (ad 16)), (1, .int x1)] → W p l e R s m args below meth c H locs 0 0 Q (F0 m 18 ls []) := by
    intro hc H locs ls hP hS hl
    have hf := iq hc hf
    refine lv_aload_n hx hb dX8_bridge_18 rfl (lv_at hl 0 rfl) ?_
    refine x_get hx hb hts hown hE hP fl_X8_43 (nb16 hN) gX_16_5 dX8_bridge_19 ?_
    refine lv_aload_n hx hb dX8_bridge_22 rfl (lv_at hl 0 rfl) ?_
    obtain ⟨_, hv, hf⟩ := bs1 hf
    refine x_getr hx hb hts hown hE hP fl_X8_28 (nb16 hN) gX_16_3 hv dX8_bridge_23 ?_
    obtain ⟨w4, hv, hf⟩ := bs1 hf
    refine x_cVv (As := [.ref (ad 17)]) (rest := []) hx hb hml hts hown hE hP hS hAA (kX4_prepare hN hD hv) cl_X8_134 (nb30 hN) oX_30 vc_4 (Nat.le_trans (by decide) hRf) (Nat.le_trans (by decide) hRl) (Nat.zero_le _) (Nat.zero_le _) rfl hl.1 rfl (Nat.le_of_ble_eq_true rfl) dX8_bridge_26 (fun H locs hP hS => ?_)
    refine lv_aload_n hx hb dX8_bridge_29 rfl (lv_at hl 0 rfl) ?_
    refine x_get hx hb hts hown hE hP fl_X8_71 (nb16 hN) gX_16_9 dX8_bridge_30 ?_
    refine lv_aload_n hx hb dX8_bridge_33 rfl (lv_at hl 0 rfl) ?_
    refine x_get hx hb hts hown hE hP fl_X8_43 (nb16 hN) gX_16_5 dX8_bridge_34 ?_
    refine lv_aload_n hx hb dX8_bridge_37 rfl (lv_at hl 0 rfl) ?_
    obtain ⟨_, hv, hf⟩ := bs1 hf
    refine x_getr hx hb hts hown hE hP fl_X8_28 (nb16 hN) gX_16_3 hv dX8_bridge_38 ?_
    obtain ⟨w5, hv, hf⟩ := bs1 hf
    refine x_cVv (As := [.ref (ad 30), .ref (ad 17)]) (rest := []) hx hb hml hts hown hE hP hS hAA (kX0_span hN hD hv) cl_X8_196 (nb47 hN) oX_47 vc_0 (Nat.le_trans (by decide) hRf) (Nat.le_trans (by decide) hRl) (Nat.zero_le _) (Nat.zero_le _) rfl hl.1 rfl (Nat.le_of_ble_eq_true rfl) dX8_bridge_41 (fun H locs hP hS => ?_)
    refine lv_iload_n hx hb dX8_bridge_44 rfl (lv_at hl 1 rfl) ?_
    refine lv_iconst (v := (-1)) hx hb dX8_bridge_45 nc_m1 ?_
    refine lv_icmp_ne (tgt := 59) hx hb dX8_bridge_46 (by decide) (fun hc => ?_) (fun hc => ?_)
    · have hf := iq hc hf
      refine lv_aload_n hx hb dX8_bridge_59 rfl (lv_at hl 0 rfl) ?_
      refine x_get hx hb hts hown hE hP fl_X8_71 (nb16 hN) gX_16_9 dX8_bridge_60 ?_
      refine lv_iload_n hx hb dX8_bridge_63 rfl (lv_at hl 1 rfl) ?_
      obtain ⟨v6, hv, hf⟩ := bs1 hf
      refine x_cVi (As := [.int x1]) (rest := []) hx hb hml hts hown hE hP hS hAA (kX0_widthsOf hN hD hv) cl_X8_204 (nb47 hN) oX_47 vc_0 (Nat.le_trans (by decide) hRf) (Nat.le_trans (by decide) hRl) (Nat.zero_le _) (Nat.zero_le _) rfl hl.1 rfl (Nat.le_of_ble_eq_true rfl) dX8_bridge_64 (fun H locs hP hS => ?_)
      cases hf
      exact hret _ _ _ _ dX8_bridge_67 hP hS
    · have hf := ip hc hf
      refine lv_aload_n hx hb dX8_bridge_49 rfl (lv_at hl 0 rfl) ?_
      refine x_get hx hb hts hown hE hP fl_X8_71 (nb16 hN) gX_16_9 dX8_bridge_50 ?_
      obtain ⟨v7, hv, hf⟩ := bs1 hf
      refine x_cVi (As := []) (rest := []) hx hb hml hts hown hE hP hS hAA (kX0_firstBits hN hD hv) cl_X8_200 (nb47 hN) oX_47 vc_0 (Nat.le_trans (by decide) hRf) (Nat.le_trans (by decide) hRl) (Nat.zero_le _) (Nat.zero_le _) rfl hl.1 rfl (Nat.le_of_ble_eq_true rfl) dX8_bridge_53 (fun H locs hP hS => ?_)
      refine lv_goto (tgt := 67) hx hb dX8_bridge_56 (by decide) ?_
      cases hf
      exact hret _ _ _ _ dX8_bridge_67 hP hS
  clear hf
  have hf := hq2
  clear hq2
  refine lv_icmp_eq (tgt := 18) hx hb dX8_bridge_2 (by decide) (fun hc => ?_) (fun hc => ?_)
  · have hf := ip hc hf
    cases hf
    exact hF2 Bool.false_ne_true _ _ _ hP hS (lv_sub hl [0, 1] rfl)
  · have hf := iq hc hf
    refine lv_aload_n hx hb dX8_bridge_5 rfl (lv_at hl 0 rfl) ?_
    obtain ⟨_, hv, hf⟩ := bs1 hf
    refine x_getr hx hb hts hown hE hP fl_X8_28 (nb16 hN) gX_16_3 hv dX8_bridge_6 ?_
    refine lv_iload_n hx hb dX8_bridge_9 rfl (lv_at hl 1 rfl) ?_
    obtain ⟨v3, hv, hf⟩ := bs1 hf
    refine x_cVi (As := [.int x1]) (rest := []) hx hb hml hts hown hE hP hS hAA (kX6_has_l hN hD hv) cl_X8_105 (nb17 hN) oX_17 vc_6 (Nat.le_trans (by decide) hRf) (Nat.le_trans (by decide) hRl) (Nat.zero_le _) (Nat.zero_le _) rfl hl.1 rfl (Nat.le_of_ble_eq_true rfl) dX8_bridge_10 (fun H locs hP hS => ?_)
    refine lv_if_ne (tgt := 18) hx hb dX8_bridge_13 (by decide) (fun hc => ?_) (fun hc => ?_)
    · have hf := iq hc hf
      cases hf
      exact hF2 Bool.false_ne_true _ _ _ hP hS (lv_sub hl [0, 1] rfl)
    · have hf := ip hc hf
      cases hf
      exact hT2 rfl _ _ _ hP hS (lv_sub hl [] rfl)
def fJ6_bitCount_0f7a4 (x0 : Int32) : Option (Int32) :=
  some ((((((((x0 - ((x0.toUInt32 >>> ((1 : Int32).toUInt32 &&& Int32.toUInt32 31)).toInt32 &&& 1431655765)) &&& 858993459) + (((x0 - ((x0.toUInt32 >>> ((1 : Int32).toUInt32 &&& Int32.toUInt32 31)).toInt32 &&& 1431655765)).toUInt32 >>> ((2 : Int32).toUInt32 &&& Int32.toUInt32 31)).toInt32 &&& 858993459)) + ((((x0 - ((x0.toUInt32 >>> ((1 : Int32).toUInt32 &&& Int32.toUInt32 31)).toInt32 &&& 1431655765)) &&& 858993459) + (((x0 - ((x0.toUInt32 >>> ((1 : Int32).toUInt32 &&& Int32.toUInt32 31)).toInt32 &&& 1431655765)).toUInt32 >>> ((2 : Int32).toUInt32 &&& Int32.toUInt32 31)).toInt32 &&& 858993459)).toUInt32 >>> ((4 : Int32).toUInt32 &&& Int32.toUInt32 31)).toInt32) &&& 252645135) + ((((((x0 - ((x0.toUInt32 >>> ((1 : Int32).toUInt32 &&& Int32.toUInt32 31)).toInt32 &&& 1431655765)) &&& 858993459) + (((x0 - ((x0.toUInt32 >>> ((1 : Int32).toUInt32 &&& Int32.toUInt32 31)).toInt32 &&& 1431655765)).toUInt32 >>> ((2 : Int32).toUInt32 &&& Int32.toUInt32 31)).toInt32 &&& 858993459)) + ((((x0 - ((x0.toUInt32 >>> ((1 : Int32).toUInt32 &&& Int32.toUInt32 31)).toInt32 &&& 1431655765)) &&& 858993459) + (((x0 - ((x0.toUInt32 >>> ((1 : Int32).toUInt32 &&& Int32.toUInt32 31)).toInt32 &&& 1431655765)).toUInt32 >>> ((2 : Int32).toUInt32 &&& Int32.toUInt32 31)).toInt32 &&& 858993459)).toUInt32 >>> ((4 : Int32).toUInt32 &&& Int32.toUInt32 31)).toInt32) &&& 252645135).toUInt32 >>> ((8 : Int32).toUInt32 &&& Int32.toUInt32 31)).toInt32) + (((((((x0 - ((x0.toUInt32 >>> ((1 : Int32).toUInt32 &&& Int32.toUInt32 31)).toInt32 &&& 1431655765)) &&& 858993459) + (((x0 - ((x0.toUInt32 >>> ((1 : Int32).toUInt32 &&& Int32.toUInt32 31)).toInt32 &&& 1431655765)).toUInt32 >>> ((2 : Int32).toUInt32 &&& Int32.toUInt32 31)).toInt32 &&& 858993459)) + ((((x0 - ((x0.toUInt32 >>> ((1 : Int32).toUInt32 &&& Int32.toUInt32 31)).toInt32 &&& 1431655765)) &&& 858993459) + (((x0 - ((x0.toUInt32 >>> ((1 : Int32).toUInt32 &&& Int32.toUInt32 31)).toInt32 &&& 1431655765)).toUInt32 >>> ((2 : Int32).toUInt32 &&& Int32.toUInt32 31)).toInt32 &&& 858993459)).toUInt32 >>> ((4 : Int32).toUInt32 &&& Int32.toUInt32 31)).toInt32) &&& 252645135) + ((((((x0 - ((x0.toUInt32 >>> ((1 : Int32).toUInt32 &&& Int32.toUInt32 31)).toInt32 &&& 1431655765)) &&& 858993459) + (((x0 - ((x0.toUInt32 >>> ((1 : Int32).toUInt32 &&& Int32.toUInt32 31)).toInt32 &&& 1431655765)).toUInt32 >>> ((2 : Int32).toUInt32 &&& Int32.toUInt32 31)).toInt32 &&& 858993459)) + ((((x0 - ((x0.toUInt32 >>> ((1 : Int32).toUInt32 &&& Int32.toUInt32 31)).toInt32 &&& 1431655765)) &&& 858993459) + (((x0 - ((x0.toUInt32 >>> ((1 : Int32).toUInt32 &&& Int32.toUInt32 31)).toInt32 &&& 1431655765)).toUInt32 >>> ((2 : Int32).toUInt32 &&& Int32.toUInt32 31)).toInt32 &&& 858993459)).toUInt32 >>> ((4 : Int32).toUInt32 &&& Int32.toUInt32 31)).toInt32) &&& 252645135).toUInt32 >>> ((8 : Int32).toUInt32 &&& Int32.toUInt32 31)).toInt32).toUInt32 >>> ((16 : Int32).toUInt32 &&& Int32.toUInt32 31)).toInt32) &&& 63)
set_option maxHeartbeats 4000000 in
set_option maxRecDepth 100000 in
theorem kJ6_bitCount_0f7a4 {l : Launch} {κ : Kp} {cf : cfT} {N : Nat} {ad : Nat → Nat} {σ : Mm} {x0 : Int32} {r : Int32} (hf : fJ6_bitCount_0f7a4 x0 = some r) : Met l yJ6_bitCount_0f7a4 (Cond.code yJ6_bitCount_0f7a4 cJ6_bitCount_0f7a4 1 (some .int) :: TB) (rmX 0 0) (PcX κ cf N ad σ [.int x0]) (QI κ cf N ad σ r) 0 0 (Aof ad N) := by
  refine mkI (by decide +kernel) (Nat.le_of_ble_eq_true rfl) (fun p e R s m args below meth c Q H locs ls hC hRf hRl hP hS hret hl => ?_)
  obtain ⟨hx, hb, hml, hown, hts, hE⟩ := hC
  have hAA : ∀ z, Aof ad N z → Aof ad N z := fun _ h => h
  have hl : lv_has ls 1 [(0, .int x0)] := hl
  unfold fJ6_bitCount_0f7a4 at hf
  refine lv_iload_n hx hb dJ6_bitCount_0f7a4_0 rfl (lv_at hl 0 rfl) ?_
  refine lv_iload_n hx hb dJ6_bitCount_0f7a4_1 rfl (lv_at hl 0 rfl) ?_
  refine lv_iconst (v := 1) hx hb dJ6_bitCount_0f7a4_2 nc_1 ?_
  refine lv_iushr hx hb dJ6_bitCount_0f7a4_3 rfl ?_
  refine lv_ldcw (own := RJ6) hx hb hown (hts _ kc_J6_265) dJ6_bitCount_0f7a4_4 ?_
  refine lv_iand hx hb dJ6_bitCount_0f7a4_7 ?_
  refine lv_isub hx hb dJ6_bitCount_0f7a4_8 ?_
  refine lv_istore_n (lv' := [(0, .int (x0 - ((x0.toUInt32 >>> ((1 : Int32).toUInt32 &&& Int32.toUInt32 31)).toInt32 &&& 1431655765)))]) hx hb dJ6_bitCount_0f7a4_9 rfl hl (by decide) rfl (fun ls hl => ?_)
  refine lv_iload_n hx hb dJ6_bitCount_0f7a4_10 rfl (lv_at hl 0 rfl) ?_
  refine lv_ldcw (own := RJ6) hx hb hown (hts _ kc_J6_266) dJ6_bitCount_0f7a4_11 ?_
  refine lv_iand hx hb dJ6_bitCount_0f7a4_14 ?_
  refine lv_iload_n hx hb dJ6_bitCount_0f7a4_15 rfl (lv_at hl 0 rfl) ?_
  refine lv_iconst (v := 2) hx hb dJ6_bitCount_0f7a4_16 nc_2 ?_
  refine lv_iushr hx hb dJ6_bitCount_0f7a4_17 rfl ?_
  refine lv_ldcw (own := RJ6) hx hb hown (hts _ kc_J6_266) dJ6_bitCount_0f7a4_18 ?_
  refine lv_iand hx hb dJ6_bitCount_0f7a4_21 ?_
  refine lv_iadd hx hb dJ6_bitCount_0f7a4_22 ?_
  refine lv_istore_n (lv' := [(0, .int (((x0 - ((x0.toUInt32 >>> ((1 : Int32).toUInt32 &&& Int32.toUInt32 31)).toInt32 &&& 1431655765)) &&& 858993459) + (((x0 - ((x0.toUInt32 >>> ((1 : Int32).toUInt32 &&& Int32.toUInt32 31)).toInt32 &&& 1431655765)).toUInt32 >>> ((2 : Int32).toUInt32 &&& Int32.toUInt32 31)).toInt32 &&& 858993459)))]) hx hb dJ6_bitCount_0f7a4_23 rfl hl (by decide) rfl (fun ls hl => ?_)
  refine lv_iload_n hx hb dJ6_bitCount_0f7a4_24 rfl (lv_at hl 0 rfl) ?_
  refine lv_iload_n hx hb dJ6_bitCount_0f7a4_25 rfl (lv_at hl 0 rfl) ?_
  refine lv_iconst (v := 4) hx hb dJ6_bitCount_0f7a4_26 nc_4 ?_
  refine lv_iushr hx hb dJ6_bitCount_0f7a4_27 rfl ?_
  refine lv_iadd hx hb dJ6_bitCount_0f7a4_28 ?_
  refine lv_ldcw (own := RJ6) hx hb hown (hts _ kc_J6_267) dJ6_bitCount_0f7a4_29 ?_
  refine lv_iand hx hb dJ6_bitCount_0f7a4_32 ?_
  refine lv_istore_n (lv' := [(0, .int (((((x0 - ((x0.toUInt32 >>> ((1 : Int32).toUInt32 &&& Int32.toUInt32 31)).toInt32 &&& 1431655765)) &&& 858993459) + (((x0 - ((x0.toUInt32 >>> ((1 : Int32).toUInt32 &&& Int32.toUInt32 31)).toInt32 &&& 1431655765)).toUInt32 >>> ((2 : Int32).toUInt32 &&& Int32.toUInt32 31)).toInt32 &&& 858993459)) + ((((x0 - ((x0.toUInt32 >>> ((1 : Int32).toUInt32 &&& Int32.toUInt32 31)).toInt32 &&& 1431655765)) &&& 858993459) + (((x0 - ((x0.toUInt32 >>> ((1 : Int32).toUInt32 &&& Int32.toUInt32 31)).toInt32 &&& 1431655765)).toUInt32 >>> ((2 : Int32).toUInt32 &&& Int32.toUInt32 31)).toInt32 &&& 858993459)).toUInt32 >>> ((4 : Int32).toUInt32 &&& Int32.toUInt32 31)).toInt32) &&& 252645135))]) hx hb dJ6_bitCount_0f7a4_33 rfl hl (by decide) rfl (fun ls hl => ?_)
  refine lv_iload_n hx hb dJ6_bitCount_0f7a4_34 rfl (lv_at hl 0 rfl) ?_
  refine lv_iload_n hx hb dJ6_bitCount_0f7a4_35 rfl (lv_at hl 0 rfl) ?_
  refine lv_bipush (v := 8) hx hb dJ6_bitCount_0f7a4_36 nb_8 ?_
  refine lv_iushr hx hb dJ6_bitCount_0f7a4_38 rfl ?_
  refine lv_iadd hx hb dJ6_bitCount_0f7a4_39 ?_
  refine lv_istore_n (lv' := [(0, .int ((((((x0 - ((x0.toUInt32 >>> ((1 : Int32).toUInt32 &&& Int32.toUInt32 31)).toInt32 &&& 1431655765)) &&& 858993459) + (((x0 - ((x0.toUInt32 >>> ((1 : Int32).toUInt32 &&& Int32.toUInt32 31)).toInt32 &&& 1431655765)).toUInt32 >>> ((2 : Int32).toUInt32 &&& Int32.toUInt32 31)).toInt32 &&& 858993459)) + ((((x0 - ((x0.toUInt32 >>> ((1 : Int32).toUInt32 &&& Int32.toUInt32 31)).toInt32 &&& 1431655765)) &&& 858993459) + (((x0 - ((x0.toUInt32 >>> ((1 : Int32).toUInt32 &&& Int32.toUInt32 31)).toInt32 &&& 1431655765)).toUInt32 >>> ((2 : Int32).toUInt32 &&& Int32.toUInt32 31)).toInt32 &&& 858993459)).toUInt32 >>> ((4 : Int32).toUInt32 &&& Int32.toUInt32 31)).toInt32) &&& 252645135) + ((((((x0 - ((x0.toUInt32 >>> ((1 : Int32).toUInt32 &&& Int32.toUInt32 31)).toInt32 &&& 1431655765)) &&& 858993459) + (((x0 - ((x0.toUInt32 >>> ((1 : Int32).toUInt32 &&& Int32.toUInt32 31)).toInt32 &&& 1431655765)).toUInt32 >>> ((2 : Int32).toUInt32 &&& Int32.toUInt32 31)).toInt32 &&& 858993459)) + ((((x0 - ((x0.toUInt32 >>> ((1 : Int32).toUInt32 &&& Int32.toUInt32 31)).toInt32 &&& 1431655765)) &&& 858993459) + (((x0 - ((x0.toUInt32 >>> ((1 : Int32).toUInt32 &&& Int32.toUInt32 31)).toInt32 &&& 1431655765)).toUInt32 >>> ((2 : Int32).toUInt32 &&& Int32.toUInt32 31)).toInt32 &&& 858993459)).toUInt32 >>> ((4 : Int32).toUInt32 &&& Int32.toUInt32 31)).toInt32) &&& 252645135).toUInt32 >>> ((8 : Int32).toUInt32 &&& Int32.toUInt32 31)).toInt32))]) hx hb dJ6_bitCount_0f7a4_40 rfl hl (by decide) rfl (fun ls hl => ?_)
  refine lv_iload_n hx hb dJ6_bitCount_0f7a4_41 rfl (lv_at hl 0 rfl) ?_
  refine lv_iload_n hx hb dJ6_bitCount_0f7a4_42 rfl (lv_at hl 0 rfl) ?_
  refine lv_bipush (v := 16) hx hb dJ6_bitCount_0f7a4_43 nb_16 ?_
  refine lv_iushr hx hb dJ6_bitCount_0f7a4_45 rfl ?_
  refine lv_iadd hx hb dJ6_bitCount_0f7a4_46 ?_
  refine lv_istore_n (lv' := [(0, .int (((((((x0 - ((x0.toUInt32 >>> ((1 : Int32).toUInt32 &&& Int32.toUInt32 31)).toInt32 &&& 1431655765)) &&& 858993459) + (((x0 - ((x0.toUInt32 >>> ((1 : Int32).toUInt32 &&& Int32.toUInt32 31)).toInt32 &&& 1431655765)).toUInt32 >>> ((2 : Int32).toUInt32 &&& Int32.toUInt32 31)).toInt32 &&& 858993459)) + ((((x0 - ((x0.toUInt32 >>> ((1 : Int32).toUInt32 &&& Int32.toUInt32 31)).toInt32 &&& 1431655765)) &&& 858993459) + (((x0 - ((x0.toUInt32 >>> ((1 : Int32).toUInt32 &&& Int32.toUInt32 31)).toInt32 &&& 1431655765)).toUInt32 >>> ((2 : Int32).toUInt32 &&& Int32.toUInt32 31)).toInt32 &&& 858993459)).toUInt32 >>> ((4 : Int32).toUInt32 &&& Int32.toUInt32 31)).toInt32) &&& 252645135) + ((((((x0 - ((x0.toUInt32 >>> ((1 : Int32).toUInt32 &&& Int32.toUInt32 31)).toInt32 &&& 1431655765)) &&& 858993459) + (((x0 - ((x0.toUInt32 >>> ((1 : Int32).toUInt32 &&& Int32.toUInt32 31)).toInt32 &&& 1431655765)).toUInt32 >>> ((2 : Int32).toUInt32 &&& Int32.toUInt32 31)).toInt32 &&& 858993459)) + ((((x0 - ((x0.toUInt32 >>> ((1 : Int32).toUInt32 &&& Int32.toUInt32 31)).toInt32 &&& 1431655765)) &&& 858993459) + (((x0 - ((x0.toUInt32 >>> ((1 : Int32).toUInt32 &&& Int32.toUInt32 31)).toInt32 &&& 1431655765)).toUInt32 >>> ((2 : Int32).toUInt32 &&& Int32.toUInt32 31)).toInt32 &&& 858993459)).toUInt32 >>> ((4 : Int32).toUInt32 &&& Int32.toUInt32 31)).toInt32) &&& 252645135).toUInt32 >>> ((8 : Int32).toUInt32 &&& Int32.toUInt32 31)).toInt32) + (((((((x0 - ((x0.toUInt32 >>> ((1 : Int32).toUInt32 &&& Int32.toUInt32 31)).toInt32 &&& 1431655765)) &&& 858993459) + (((x0 - ((x0.toUInt32 >>> ((1 : Int32).toUInt32 &&& Int32.toUInt32 31)).toInt32 &&& 1431655765)).toUInt32 >>> ((2 : Int32).toUInt32 &&& Int32.toUInt32 31)).toInt32 &&& 858993459)) + ((((x0 - ((x0.toUInt32 >>> ((1 : Int32).toUInt32 &&& Int32.toUInt32 31)).toInt32 &&& 1431655765)) &&& 858993459) + (((x0 - ((x0.toUInt32 >>> ((1 : Int32).toUInt32 &&& Int32.toUInt32 31)).toInt32 &&& 1431655765)).toUInt32 >>> ((2 : Int32).toUInt32 &&& Int32.toUInt32 31)).toInt32 &&& 858993459)).toUInt32 >>> ((4 : Int32).toUInt32 &&& Int32.toUInt32 31)).toInt32) &&& 252645135) + ((((((x0 - ((x0.toUInt32 >>> ((1 : Int32).toUInt32 &&& Int32.toUInt32 31)).toInt32 &&& 1431655765)) &&& 858993459) + (((x0 - ((x0.toUInt32 >>> ((1 : Int32).toUInt32 &&& Int32.toUInt32 31)).toInt32 &&& 1431655765)).toUInt32 >>> ((2 : Int32).toUInt32 &&& Int32.toUInt32 31)).toInt32 &&& 858993459)) + ((((x0 - ((x0.toUInt32 >>> ((1 : Int32).toUInt32 &&& Int32.toUInt32 31)).toInt32 &&& 1431655765)) &&& 858993459) + (((x0 - ((x0.toUInt32 >>> ((1 : Int32).toUInt32 &&& Int32.toUInt32 31)).toInt32 &&& 1431655765)).toUInt32 >>> ((2 : Int32).toUInt32 &&& Int32.toUInt32 31)).toInt32 &&& 858993459)).toUInt32 >>> ((4 : Int32).toUInt32 &&& Int32.toUInt32 31)).toInt32) &&& 252645135).toUInt32 >>> ((8 : Int32).toUInt32 &&& Int32.toUInt32 31)).toInt32).toUInt32 >>> ((16 : Int32).toUInt32 &&& Int32.toUInt32 31)).toInt32))]) hx hb dJ6_bitCount_0f7a4_47 rfl hl (by decide) rfl (fun ls hl => ?_)
  refine lv_iload_n hx hb dJ6_bitCount_0f7a4_48 rfl (lv_at hl 0 rfl) ?_
  refine lv_bipush (v := 63) hx hb dJ6_bitCount_0f7a4_49 nb_63 ?_
  refine lv_iand hx hb dJ6_bitCount_0f7a4_51 ?_
  cases hf
  exact hret _ _ _ _ dJ6_bitCount_0f7a4_52 hP hS
def fX2_off (w : Mm) (x1 x2 : Int32) : Option (Int32) :=
  bd1 (rd w 25 8 x1) fun v1 =>
  if v1 = (-4) then
    some 0
  else
    bd1 (rd w 25 8 x1) fun v2 =>
    some (if 0 ≤ (v2 - x2) then (v2 - x2) else 0 - (v2 - x2))
set_option maxHeartbeats 4000000 in
set_option maxRecDepth 100000 in
theorem kX2_off {l : Launch} {κ : Kp} {tl : Nat} {N : Nat} {ad : Nat → Nat} {w : Mm} {x1 x2 : Int32} {r : Int32} (hN : 52 ≤ N) (hD : Apt ad N) (hf : fX2_off w x1 x2 = some r) : Met l yX2_off (Cond.code yX2_off cX2_off 3 (some .int) :: TB) (rmX 1 13) (PcX κ (wX κ tl) N ad w [.ref (ad 17), .int x1, .int x2]) (QI κ (wX κ tl) N ad w r) 0 0 (Aof ad N) := by
  refine mkI (by decide +kernel) (Nat.le_of_ble_eq_true rfl) (fun p e R s m args below meth c Q H locs ls hC hRf hRl hP hS hret hl => ?_)
  obtain ⟨hx, hb, hml, hown, hts, hE⟩ := hC
  have hA : ∀ k, k < N → Aof ad N (ad k) := fun k h => Aof_in h
  have hAA : ∀ z, Aof ad N z → Aof ad N z := fun _ h => h
  have hl : lv_has ls 3 [(0, .ref (ad 17)), (1, .int x1), (2, .int x2)] := hl
  unfold fX2_off at hf
  refine lv_aload_n hx hb dX2_off_0 rfl (lv_at hl 0 rfl) ?_
  refine x_get hx hb hts hown hE hP fl_X2_40 (nb17 hN) gX_17_7 dX2_off_1 ?_
  refine lv_iload_n hx hb dX2_off_4 rfl (lv_at hl 1 rfl) ?_
  obtain ⟨v1, hv, hf⟩ := bs1 hf
  refine x_iald hx hb hE hP (nb25 hN) (aX_25 _) hv dX2_off_5 ?_
  refine lv_bipush (v := (-4)) hx hb dX2_off_6 nb_m4 ?_
  refine lv_icmp_ne (tgt := 15) hx hb dX2_off_8 (by decide) (fun hc => ?_) (fun hc => ?_)
  · have hf := iq hc hf
    refine lv_aload_n hx hb dX2_off_15 rfl (lv_at hl 0 rfl) ?_
    refine x_get hx hb hts hown hE hP fl_X2_40 (nb17 hN) gX_17_7 dX2_off_16 ?_
    refine lv_iload_n hx hb dX2_off_19 rfl (lv_at hl 1 rfl) ?_
    obtain ⟨v2, hv, hf⟩ := bs1 hf
    refine x_iald hx hb hE hP (nb25 hN) (aX_25 _) hv dX2_off_20 ?_
    refine lv_iload_n hx hb dX2_off_21 rfl (lv_at hl 2 rfl) ?_
    refine lv_isub hx hb dX2_off_22 ?_
    refine x_abs hx hb (hml.trans hl.1.symm) hts hown lm_X2_43 (Nat.le_trans (by decide) hRf) (Nat.le_trans (Nat.le_of_ble_eq_true rfl) hRl) (Nat.zero_le _) (Nat.zero_le _) dX2_off_23 ?_
    cases hf
    exact hret _ _ _ _ dX2_off_26 hP hS
  · have hf := ip hc hf
    refine lv_iconst (v := 0) hx hb dX2_off_11 nc_0 ?_
    refine lv_goto (tgt := 26) hx hb dX2_off_12 (by decide) ?_
    cases hf
    exact hret _ _ _ _ dX2_off_26 hP hS
def LX2_weigh_39 (v2 : Int32) (w3 : Mm) : Nat → Int32 → Int32 → Int32 → Option (Int32)
  | 0, _, _, _ => none
  | fu + 1, v7, v8, v9 =>
    if (w3 17 12) ≤ v9 then
      some (v8)
    else
      bd1 (
        if (v2 &&& (1 <<< (v9 &&& 31))) = 0 then
          bd1 (fX2_off w3 v9 v7) fun v14 =>
          bd1 (rd w3 51 256 (v2 ||| (1 <<< (v9 &&& 31)))) fun v15 =>
          some ((if (v14 + v15) < v8 then (v14 + v15) else v8))
        else
          some (v8)) fun (v12 : Int32) =>
      LX2_weigh_39 v2 w3 fu v7 v12 (v9 + 1)
def LX2_weigh_20 : Nat → Int32 → Mm → Option (Mm)
  | 0, _, _ => none
  | fu + 1, v2, w3 =>
    if v2 < 0 then
      some (w3)
    else
      bd1 (fJ6_bitCount_0f7a4 v2) fun v6 =>
      bd1 (LX2_weigh_39 v2 w3 1000 (v6 + 1) 64 0) fun (v11 : Int32) =>
      bd1 (wr w3 51 256 v2 v11) fun w16 =>
      LX2_weigh_20 fu (v2 - 1) w16
def fX2_weigh (w : Mm) : Option (Mm) :=
  bd1 (wr w 51 256 ((1 <<< ((w 17 12) &&& 31)) - 1) 0) fun w1 =>
  bd1 (LX2_weigh_20 1000 (((1 <<< ((w 17 12) &&& 31)) - 1) - 1) w1) fun (w5 : Mm) =>
  some w5
set_option maxHeartbeats 4000000 in
set_option maxRecDepth 100000 in
theorem kX2_weigh {l : Launch} {κ : Kp} {tl : Nat} {N : Nat} {ad : Nat → Nat} {w : Mm} {w' : Mm} (hN : 52 ≤ N) (hD : Apt ad N) (hf : fX2_weigh w = some w') : Met l yX2_weigh (Cond.code yX2_weigh cX2_weigh 7 none :: TB) (rmX 2 35) (PcX κ (wX κ tl) N ad w [.ref (ad 50), .ref (ad 17)]) (QV κ (wX κ tl) N ad w') 0 0 (Aof ad N) := by
  refine mkV (by decide +kernel) (Nat.le_of_ble_eq_true rfl) (fun p e R s m args below meth c Q H locs ls hC hRf hRl hP hS hret hl => ?_)
  obtain ⟨hx, hb, hml, hown, hts, hE⟩ := hC
  have hA : ∀ k, k < N → Aof ad N (ad k) := fun k h => Aof_in h
  have hAA : ∀ z, Aof ad N z → Aof ad N z := fun _ h => h
  have hl : lv_has ls 7 [(0, .ref (ad 50)), (1, .ref (ad 17))] := hl
  unfold fX2_weigh at hf
  refine lv_iconst (v := 1) hx hb dX2_weigh_0 nc_1 ?_
  refine lv_aload_n hx hb dX2_weigh_1 rfl (lv_at hl 1 rfl) ?_
  refine x_get hx hb hts hown hE hP fl_X2_15 (nb17 hN) gX_17_12 dX2_weigh_2 ?_
  refine lv_ishl hx hb dX2_weigh_5 ?_
  refine lv_iconst (v := 1) hx hb dX2_weigh_6 nc_1 ?_
  refine lv_isub hx hb dX2_weigh_7 ?_
  refine lv_istore_n (lv' := [(2, .int ((1 <<< ((w 17 12) &&& 31)) - 1)), (0, .ref (ad 50)), (1, .ref (ad 17))]) hx hb dX2_weigh_8 rfl hl (by decide) rfl (fun ls hl => ?_)
  refine lv_aload_n hx hb dX2_weigh_9 rfl (lv_at hl 1 rfl) ?_
  refine x_get hx hb hts hown hE hP fl_X2_9 (nb50 hN) gX_50_0 dX2_weigh_10 ?_
  refine lv_iload_n hx hb dX2_weigh_13 rfl (lv_at hl 0 rfl) ?_
  refine lv_iconst (v := 0) hx hb dX2_weigh_14 nc_0 ?_
  obtain ⟨w1, hv, hf⟩ := bs1 hf
  refine x_iast hx hb hE hD hA hP hS (nb51 hN) aX_51 hv dX2_weigh_15 (fun H locs hP hS => ?_)
  refine lv_iload_n hx hb dX2_weigh_16 rfl (lv_at hl 0 rfl) ?_
  refine lv_iconst (v := 1) hx hb dX2_weigh_17 nc_1 ?_
  refine lv_isub hx hb dX2_weigh_18 ?_
  refine lv_istore_n (lv' := [(3, .int (((1 <<< ((w 17 12) &&& 31)) - 1) - 1)), (2, .int ((1 <<< ((w 17 12) &&& 31)) - 1)), (0, .ref (ad 50)), (1, .ref (ad 17))]) hx hb dX2_weigh_19 rfl hl (by decide) rfl (fun ls hl => ?_)
  obtain ⟨w5, hq4, hf⟩ := bs1 hf
  have hJ4 : ∀ (H : Heap) (locs : List Loc) (ls : Array Slot), Ho κ (wX κ tl) N ad w5 H → va_S (Aof ad N) s.heap H locs → lv_has ls 7 [] → W p l e R s m args below meth c H locs 0 0 Q (F0 m 104 ls []) := by
    intro H locs ls hP hS hl
    cases hf
    exact hret _ _ _ _ dX2_weigh_104 hP hS
  clear hf
  have hf := hq4
  clear hq4
  have hL4 : ∀ (fu : Nat) (v2 : Int32) (w3 : Mm) (H : Heap) (locs : List Loc) (ls : Array Slot), LX2_weigh_20 fu v2 w3 = some (w5) → Ho κ (wX κ tl) N ad w3 H → va_S (Aof ad N) s.heap H locs → lv_has ls 7 [(0, .ref (ad 50)), (1, .ref (ad 17)), (3, .int v2)] → W p l e R s m args below meth c H locs 0 0 Q (F0 m 20 ls []) := by
    intro fu
    induction fu with
    | zero =>
      intro v2 w3 H locs ls hf
      rw [LX2_weigh_20] at hf
      cases hf
    | succ fu ih =>
      intro v2 w3 H locs ls hf hP hS hl
      rw [LX2_weigh_20] at hf
      refine lv_iload_n hx hb dX2_weigh_20 rfl (lv_at hl 2 rfl) ?_
      refine lv_if_lt (tgt := 104) hx hb dX2_weigh_21 (by decide) (fun hc => ?_) (fun hc => ?_)
      · have hf := ip hc hf
        cases hf
        exact hJ4 _ _ _ hP hS (lv_sub hl [] rfl)
      · have hf := iq hc hf
        refine lv_iload_n hx hb dX2_weigh_24 rfl (lv_at hl 2 rfl) ?_
        obtain ⟨v6, hv, hf⟩ := bs1 hf
        refine x_cSi (As := [.int v2]) (rest := []) hx hb hml hts hown hE hP hS hAA (kJ6_bitCount_0f7a4 hv) cl_X2_21 (Nat.le_trans (by decide) hRf) (Nat.le_trans (by decide) hRl) (Nat.zero_le _) (Nat.zero_le _) rfl hl.1 rfl (Nat.le_of_ble_eq_true rfl) dX2_weigh_25 (fun H locs hP hS => ?_)
        refine lv_iconst (v := 1) hx hb dX2_weigh_28 nc_1 ?_
        refine lv_iadd hx hb dX2_weigh_29 ?_
        refine lv_istore (lv' := [(4, .int (v6 + 1)), (0, .ref (ad 50)), (1, .ref (ad 17)), (3, .int v2)]) hx hb dX2_weigh_30 hl (by decide) rfl (fun ls hl => ?_)
        refine lv_bipush (v := 64) hx hb dX2_weigh_32 nb_64 ?_
        refine lv_istore (lv' := [(5, .int 64), (4, .int (v6 + 1)), (0, .ref (ad 50)), (1, .ref (ad 17)), (3, .int v2)]) hx hb dX2_weigh_34 hl (by decide) rfl (fun ls hl => ?_)
        refine lv_iconst (v := 0) hx hb dX2_weigh_36 nc_0 ?_
        refine lv_istore (lv' := [(6, .int 0), (5, .int 64), (4, .int (v6 + 1)), (0, .ref (ad 50)), (1, .ref (ad 17)), (3, .int v2)]) hx hb dX2_weigh_37 hl (by decide) rfl (fun ls hl => ?_)
        obtain ⟨v11, hq10, hf⟩ := bs1 hf
        have hJ10 : ∀ (H : Heap) (locs : List Loc) (ls : Array Slot), Ho κ (wX κ tl) N ad w3 H → va_S (Aof ad N) s.heap H locs → lv_has ls 7 [(0, .ref (ad 50)), (1, .ref (ad 17)), (3, .int v2), (5, .int v11)] → W p l e R s m args below meth c H locs 0 0 Q (F0 m 90 ls []) := by
          intro H locs ls hP hS hl
          refine lv_aload_n hx hb dX2_weigh_90 rfl (lv_at hl 0 rfl) ?_
          refine x_get hx hb hts hown hE hP fl_X2_9 (nb50 hN) gX_50_0 dX2_weigh_91 ?_
          refine lv_iload_n hx hb dX2_weigh_94 rfl (lv_at hl 2 rfl) ?_
          refine lv_iload hx hb dX2_weigh_95 (lv_at hl 3 rfl) ?_
          obtain ⟨w16, hv, hf⟩ := bs1 hf
          refine x_iast hx hb hE hD hA hP hS (nb51 hN) aX_51 hv dX2_weigh_97 (fun H locs hP hS => ?_)
          refine lv_iinc (v := (v2 - 1)) (lv' := [(3, .int (v2 - 1)), (0, .ref (ad 50)), (1, .ref (ad 17)), (5, .int v11)]) hx hb dX2_weigh_98 hl (k := 2) rfl (ni_m1 _) (by decide) rfl (fun ls hl => ?_)
          refine lv_goto (tgt := 20) hx hb dX2_weigh_101 (by decide) ?_
          exact ih _ _ _ _ _ hf hP hS (lv_sub hl [1, 2, 0] rfl)
        clear hf
        have hf := hq10
        clear hq10
        have hL10 : ∀ (fu : Nat) (v7 : Int32) (v8 : Int32) (v9 : Int32) (H : Heap) (locs : List Loc) (ls : Array Slot), LX2_weigh_39 v2 w3 fu v7 v8 v9 = some (v11) → Ho κ (wX κ tl) N ad w3 H → va_S (Aof ad N) s.heap H locs → lv_has ls 7 [(0, .ref (ad 50)), (1, .ref (ad 17)), (3, .int v2), (4, .int v7), (5, .int v8), (6, .int v9)] → W p l e R s m args below meth c H locs 0 0 Q (F0 m 39 ls []) := by
          intro fu
          induction fu with
          | zero =>
            intro v7 v8 v9 H locs ls hf
            rw [LX2_weigh_39] at hf
            cases hf
          | succ fu ih =>
            intro v7 v8 v9 H locs ls hf hP hS hl
            rw [LX2_weigh_39] at hf
            refine lv_iload hx hb dX2_weigh_39 (lv_at hl 5 rfl) ?_
            refine lv_aload_n hx hb dX2_weigh_41 rfl (lv_at hl 1 rfl) ?_
            refine x_get hx hb hts hown hE hP fl_X2_15 (nb17 hN) gX_17_12 dX2_weigh_42 ?_
            refine lv_icmp_ge (tgt := 90) hx hb dX2_weigh_45 (by decide) (fun hc => ?_) (fun hc => ?_)
            · have hf := ip hc hf
              cases hf
              exact hJ10 _ _ _ hP hS (lv_sub hl [0, 1, 2, 4] rfl)
            · have hf := iq hc hf
              refine lv_iload_n hx hb dX2_weigh_48 rfl (lv_at hl 2 rfl) ?_
              refine lv_iconst (v := 1) hx hb dX2_weigh_49 nc_1 ?_
              refine lv_iload hx hb dX2_weigh_50 (lv_at hl 5 rfl) ?_
              refine lv_ishl hx hb dX2_weigh_52 ?_
              refine lv_iand hx hb dX2_weigh_53 ?_
              obtain ⟨v12, hq13, hf⟩ := bs1 hf
              have hJ13 : ∀ (H : Heap) (locs : List Loc) (ls : Array Slot), Ho κ (wX κ tl) N ad w3 H → va_S (Aof ad N) s.heap H locs → lv_has ls 7 [(0, .ref (ad 50)), (1, .ref (ad 17)), (3, .int v2), (4, .int v7), (5, .int v12), (6, .int v9)] → W p l e R s m args below meth c H locs 0 0 Q (F0 m 84 ls []) := by
                intro H locs ls hP hS hl
                refine lv_iinc (v := (v9 + 1)) (lv' := [(6, .int (v9 + 1)), (0, .ref (ad 50)), (1, .ref (ad 17)), (3, .int v2), (4, .int v7), (5, .int v12)]) hx hb dX2_weigh_84 hl (k := 5) rfl (ni_1 _) (by decide) rfl (fun ls hl => ?_)
                refine lv_goto (tgt := 39) hx hb dX2_weigh_87 (by decide) ?_
                exact ih _ _ _ _ _ _ hf hP hS (lv_sub hl [1, 2, 3, 4, 5, 0] rfl)
              clear hf
              have hf := hq13
              clear hq13
              refine lv_if_ne (tgt := 84) hx hb dX2_weigh_54 (by decide) (fun hc => ?_) (fun hc => ?_)
              · have hf := iq hc hf
                cases hf
                exact hJ13 _ _ _ hP hS (lv_sub hl [0, 1, 2, 3, 4, 5] rfl)
              · have hf := ip hc hf
                refine lv_iload hx hb dX2_weigh_57 (lv_at hl 4 rfl) ?_
                refine lv_aload_n hx hb dX2_weigh_59 rfl (lv_at hl 1 rfl) ?_
                refine lv_iload hx hb dX2_weigh_60 (lv_at hl 5 rfl) ?_
                refine lv_iload hx hb dX2_weigh_62 (lv_at hl 3 rfl) ?_
                obtain ⟨v14, hv, hf⟩ := bs1 hf
                refine x_cSi (As := [.ref (ad 17), .int v9, .int v7]) (rest := [.int v8]) hx hb hml hts hown hE hP hS hAA (kX2_off hN hD hv) cl_X2_27 (Nat.le_trans (by decide) hRf) (Nat.le_trans (by decide) hRl) (Nat.zero_le _) (Nat.zero_le _) rfl hl.1 rfl (Nat.le_of_ble_eq_true rfl) dX2_weigh_64 (fun H locs hP hS => ?_)
                refine lv_aload_n hx hb dX2_weigh_67 rfl (lv_at hl 0 rfl) ?_
                refine x_get hx hb hts hown hE hP fl_X2_9 (nb50 hN) gX_50_0 dX2_weigh_68 ?_
                refine lv_iload_n hx hb dX2_weigh_71 rfl (lv_at hl 2 rfl) ?_
                refine lv_iconst (v := 1) hx hb dX2_weigh_72 nc_1 ?_
                refine lv_iload hx hb dX2_weigh_73 (lv_at hl 5 rfl) ?_
                refine lv_ishl hx hb dX2_weigh_75 ?_
                refine lv_ior hx hb dX2_weigh_76 ?_
                obtain ⟨v15, hv, hf⟩ := bs1 hf
                refine x_iald hx hb hE hP (nb51 hN) (aX_51 _) hv dX2_weigh_77 ?_
                refine lv_iadd hx hb dX2_weigh_78 ?_
                refine x_min hx hb (hml.trans hl.1.symm) hts hown lm_X2_31 (Nat.le_trans (by decide) hRf) (Nat.le_trans (Nat.le_of_ble_eq_true rfl) hRl) (Nat.zero_le _) (Nat.zero_le _) dX2_weigh_79 ?_
                refine lv_istore (lv' := [(5, .int (if (v14 + v15) < v8 then (v14 + v15) else v8)), (0, .ref (ad 50)), (1, .ref (ad 17)), (3, .int v2), (4, .int v7), (6, .int v9)]) hx hb dX2_weigh_82 hl (by decide) rfl (fun ls hl => ?_)
                cases hf
                exact hJ13 _ _ _ hP hS (lv_sub hl [1, 2, 3, 4, 0, 5] rfl)
        exact hL10 _ _ _ _ _ _ _ hf hP hS (lv_sub hl [3, 4, 5, 2, 1, 0] rfl)
  exact hL4 _ _ _ _ _ _ hf hP hS (lv_sub hl [2, 3, 0] rfl)
def LX2_lowestFitting_3 (x2 : Int32) (x3 : Int32) (w : Mm) : Nat → Int32 → Option (Int32)
  | 0, _ => none
  | fu + 1, v1 =>
    if (w 17 12) ≤ v1 then
      some (-4)
    else
      if (x2 &&& (1 <<< (v1 &&& 31))) = 0 then
        bd1 (fX2_off w v1 x3) fun v3 =>
        bd1 (rd w 51 256 (x2 ||| (1 <<< (v1 &&& 31)))) fun v4 =>
        bd1 (rd w 51 256 x2) fun v5 =>
        if (v3 + v4) = v5 then
          some v1
        else
          LX2_lowestFitting_3 x2 x3 w fu (v1 + 1)
      else
        LX2_lowestFitting_3 x2 x3 w fu (v1 + 1)
def fX2_lowestFitting (w : Mm) (x2 x3 : Int32) : Option (Int32) :=
  LX2_lowestFitting_3 x2 x3 w 1000 0
set_option maxHeartbeats 4000000 in
set_option maxRecDepth 100000 in
theorem kX2_lowestFitting {l : Launch} {κ : Kp} {tl : Nat} {N : Nat} {ad : Nat → Nat} {w : Mm} {x2 x3 : Int32} {r : Int32} (hN : 52 ≤ N) (hD : Apt ad N) (hf : fX2_lowestFitting w x2 x3 = some r) : Met l yX2_lowestFitting (Cond.code yX2_lowestFitting cX2_lowestFitting 5 (some .int) :: TB) (rmX 2 35) (PcX κ (wX κ tl) N ad w [.ref (ad 50), .ref (ad 17), .int x2, .int x3]) (QI κ (wX κ tl) N ad w r) 0 0 (Aof ad N) := by
  refine mkI (by decide +kernel) (Nat.le_of_ble_eq_true rfl) (fun p e R s m args below meth c Q H locs ls hC hRf hRl hP hS hret hl => ?_)
  obtain ⟨hx, hb, hml, hown, hts, hE⟩ := hC
  have hA : ∀ k, k < N → Aof ad N (ad k) := fun k h => Aof_in h
  have hAA : ∀ z, Aof ad N z → Aof ad N z := fun _ h => h
  have hl : lv_has ls 5 [(0, .ref (ad 50)), (1, .ref (ad 17)), (2, .int x2), (3, .int x3)] := hl
  unfold fX2_lowestFitting at hf
  refine lv_iconst (v := 0) hx hb dX2_lowestFitting_0 nc_0 ?_
  refine lv_istore (lv' := [(4, .int 0), (0, .ref (ad 50)), (1, .ref (ad 17)), (2, .int x2), (3, .int x3)]) hx hb dX2_lowestFitting_1 hl (by decide) rfl (fun ls hl => ?_)
  have hL2 : ∀ (fu : Nat) (v1 : Int32) (H : Heap) (locs : List Loc) (ls : Array Slot), LX2_lowestFitting_3 x2 x3 w fu v1 = some r → Ho κ (wX κ tl) N ad w H → va_S (Aof ad N) s.heap H locs → lv_has ls 5 [(0, .ref (ad 50)), (1, .ref (ad 17)), (2, .int x2), (3, .int x3), (4, .int v1)] → W p l e R s m args below meth c H locs 0 0 Q (F0 m 3 ls []) := by
    intro fu
    induction fu with
    | zero =>
      intro v1 H locs ls hf
      rw [LX2_lowestFitting_3] at hf
      cases hf
    | succ fu ih =>
      intro v1 H locs ls hf hP hS hl
      rw [LX2_lowestFitting_3] at hf
      refine lv_iload hx hb dX2_lowestFitting_3 (lv_at hl 4 rfl) ?_
      refine lv_aload_n hx hb dX2_lowestFitting_5 rfl (lv_at hl 1 rfl) ?_
      refine x_get hx hb hts hown hE hP fl_X2_15 (nb17 hN) gX_17_12 dX2_lowestFitting_6 ?_
      refine lv_icmp_ge (tgt := 58) hx hb dX2_lowestFitting_9 (by decide) (fun hc => ?_) (fun hc => ?_)
      · have hf := ip hc hf
        refine lv_bipush (v := (-4)) hx hb dX2_lowestFitting_58 nb_m4 ?_
        cases hf
        exact hret _ _ _ _ dX2_lowestFitting_60 hP hS
      · have hf := iq hc hf
        refine lv_iload_n hx hb dX2_lowestFitting_12 rfl (lv_at hl 2 rfl) ?_
        refine lv_iconst (v := 1) hx hb dX2_lowestFitting_13 nc_1 ?_
        refine lv_iload hx hb dX2_lowestFitting_14 (lv_at hl 4 rfl) ?_
        refine lv_ishl hx hb dX2_lowestFitting_16 ?_
        refine lv_iand hx hb dX2_lowestFitting_17 ?_
        refine lv_if_ne (tgt := 52) hx hb dX2_lowestFitting_18 (by decide) (fun hc => ?_) (fun hc => ?_)
        · have hf := iq hc hf
          refine lv_iinc (v := (v1 + 1)) (lv' := [(4, .int (v1 + 1)), (0, .ref (ad 50)), (1, .ref (ad 17)), (2, .int x2), (3, .int x3)]) hx hb dX2_lowestFitting_52 hl (k := 4) rfl (ni_1 _) (by decide) rfl (fun ls hl => ?_)
          refine lv_goto (tgt := 3) hx hb dX2_lowestFitting_55 (by decide) ?_
          exact ih _ _ _ _ hf hP hS (lv_sub hl [1, 2, 3, 4, 0] rfl)
        · have hf := ip hc hf
          refine lv_aload_n hx hb dX2_lowestFitting_21 rfl (lv_at hl 1 rfl) ?_
          refine lv_iload hx hb dX2_lowestFitting_22 (lv_at hl 4 rfl) ?_
          refine lv_iload_n hx hb dX2_lowestFitting_24 rfl (lv_at hl 3 rfl) ?_
          obtain ⟨v3, hv, hf⟩ := bs1 hf
          refine x_cSi (As := [.ref (ad 17), .int v1, .int x3]) (rest := []) hx hb hml hts hown hE hP hS hAA (kX2_off hN hD hv) cl_X2_27 (Nat.le_trans (by decide) hRf) (Nat.le_trans (by decide) hRl) (Nat.zero_le _) (Nat.zero_le _) rfl hl.1 rfl (Nat.le_of_ble_eq_true rfl) dX2_lowestFitting_25 (fun H locs hP hS => ?_)
          refine lv_aload_n hx hb dX2_lowestFitting_28 rfl (lv_at hl 0 rfl) ?_
          refine x_get hx hb hts hown hE hP fl_X2_9 (nb50 hN) gX_50_0 dX2_lowestFitting_29 ?_
          refine lv_iload_n hx hb dX2_lowestFitting_32 rfl (lv_at hl 2 rfl) ?_
          refine lv_iconst (v := 1) hx hb dX2_lowestFitting_33 nc_1 ?_
          refine lv_iload hx hb dX2_lowestFitting_34 (lv_at hl 4 rfl) ?_
          refine lv_ishl hx hb dX2_lowestFitting_36 ?_
          refine lv_ior hx hb dX2_lowestFitting_37 ?_
          obtain ⟨v4, hv, hf⟩ := bs1 hf
          refine x_iald hx hb hE hP (nb51 hN) (aX_51 _) hv dX2_lowestFitting_38 ?_
          refine lv_iadd hx hb dX2_lowestFitting_39 ?_
          refine lv_aload_n hx hb dX2_lowestFitting_40 rfl (lv_at hl 0 rfl) ?_
          refine x_get hx hb hts hown hE hP fl_X2_9 (nb50 hN) gX_50_0 dX2_lowestFitting_41 ?_
          refine lv_iload_n hx hb dX2_lowestFitting_44 rfl (lv_at hl 2 rfl) ?_
          obtain ⟨v5, hv, hf⟩ := bs1 hf
          refine x_iald hx hb hE hP (nb51 hN) (aX_51 _) hv dX2_lowestFitting_45 ?_
          refine lv_icmp_ne (tgt := 52) hx hb dX2_lowestFitting_46 (by decide) (fun hc => ?_) (fun hc => ?_)
          · have hf := iq hc hf
            refine lv_iinc (v := (v1 + 1)) (lv' := [(4, .int (v1 + 1)), (0, .ref (ad 50)), (1, .ref (ad 17)), (2, .int x2), (3, .int x3)]) hx hb dX2_lowestFitting_52 hl (k := 4) rfl (ni_1 _) (by decide) rfl (fun ls hl => ?_)
            refine lv_goto (tgt := 3) hx hb dX2_lowestFitting_55 (by decide) ?_
            exact ih _ _ _ _ hf hP hS (lv_sub hl [1, 2, 3, 4, 0] rfl)
          · have hf := ip hc hf
            refine lv_iload hx hb dX2_lowestFitting_49 (lv_at hl 4 rfl) ?_
            cases hf
            exact hret _ _ _ _ dX2_lowestFitting_51 hP hS
  exact hL2 _ _ _ _ _ hf hP hS (lv_sub hl [1, 2, 3, 4, 0] rfl)
def LX2_holder_9 (x2 : Int32) (w : Mm) : Nat → Int32 → Int32 → Int32 → Option (Int32)
  | 0, _, _, _ => none
  | fu + 1, v1, v2, v3 =>
    if x2 < v3 then
      some v2
    else
      bd1 (fX2_lowestFitting w v1 v3) fun v5 =>
      if v5 = (-4) then
        some (-4)
      else
        LX2_holder_9 x2 w fu (v1 ||| (1 <<< (v5 &&& 31))) v5 (v3 + 1)
def fX2_holder (w : Mm) (x2 : Int32) : Option (Int32) :=
  LX2_holder_9 x2 w 1000 0 (-4) 1
set_option maxHeartbeats 4000000 in
set_option maxRecDepth 100000 in
theorem kX2_holder {l : Launch} {κ : Kp} {tl : Nat} {N : Nat} {ad : Nat → Nat} {w : Mm} {x2 : Int32} {r : Int32} (hN : 52 ≤ N) (hD : Apt ad N) (hf : fX2_holder w x2 = some r) : Met l yX2_holder (Cond.code yX2_holder cX2_holder 6 (some .int) :: TB) (rmX 3 59) (PcX κ (wX κ tl) N ad w [.ref (ad 50), .ref (ad 17), .int x2]) (QI κ (wX κ tl) N ad w r) 0 0 (Aof ad N) := by
  refine mkI (by decide +kernel) (Nat.le_of_ble_eq_true rfl) (fun p e R s m args below meth c Q H locs ls hC hRf hRl hP hS hret hl => ?_)
  obtain ⟨hx, hb, hml, hown, hts, hE⟩ := hC
  have hA : ∀ k, k < N → Aof ad N (ad k) := fun k h => Aof_in h
  have hAA : ∀ z, Aof ad N z → Aof ad N z := fun _ h => h
  have hl : lv_has ls 6 [(0, .ref (ad 50)), (1, .ref (ad 17)), (2, .int x2)] := hl
  unfold fX2_holder at hf
  refine lv_iconst (v := 0) hx hb dX2_holder_0 nc_0 ?_
  refine lv_istore_n (lv' := [(3, .int 0), (0, .ref (ad 50)), (1, .ref (ad 17)), (2, .int x2)]) hx hb dX2_holder_1 rfl hl (by decide) rfl (fun ls hl => ?_)
  refine lv_bipush (v := (-4)) hx hb dX2_holder_2 nb_m4 ?_
  refine lv_istore (lv' := [(4, .int (-4)), (3, .int 0), (0, .ref (ad 50)), (1, .ref (ad 17)), (2, .int x2)]) hx hb dX2_holder_4 hl (by decide) rfl (fun ls hl => ?_)
  refine lv_iconst (v := 1) hx hb dX2_holder_6 nc_1 ?_
  refine lv_istore (lv' := [(5, .int 1), (4, .int (-4)), (3, .int 0), (0, .ref (ad 50)), (1, .ref (ad 17)), (2, .int x2)]) hx hb dX2_holder_7 hl (by decide) rfl (fun ls hl => ?_)
  have hL4 : ∀ (fu : Nat) (v1 : Int32) (v2 : Int32) (v3 : Int32) (H : Heap) (locs : List Loc) (ls : Array Slot), LX2_holder_9 x2 w fu v1 v2 v3 = some r → Ho κ (wX κ tl) N ad w H → va_S (Aof ad N) s.heap H locs → lv_has ls 6 [(0, .ref (ad 50)), (1, .ref (ad 17)), (2, .int x2), (3, .int v1), (4, .int v2), (5, .int v3)] → W p l e R s m args below meth c H locs 0 0 Q (F0 m 9 ls []) := by
    intro fu
    induction fu with
    | zero =>
      intro v1 v2 v3 H locs ls hf
      rw [LX2_holder_9] at hf
      cases hf
    | succ fu ih =>
      intro v1 v2 v3 H locs ls hf hP hS hl
      rw [LX2_holder_9] at hf
      refine lv_iload hx hb dX2_holder_9 (lv_at hl 5 rfl) ?_
      refine lv_iload_n hx hb dX2_holder_11 rfl (lv_at hl 2 rfl) ?_
      refine lv_icmp_gt (tgt := 48) hx hb dX2_holder_12 (by decide) (fun hc => ?_) (fun hc => ?_)
      · have hf := ip hc hf
        refine lv_iload hx hb dX2_holder_48 (lv_at hl 4 rfl) ?_
        cases hf
        exact hret _ _ _ _ dX2_holder_50 hP hS
      · have hf := iq hc hf
        refine lv_aload_n hx hb dX2_holder_15 rfl (lv_at hl 0 rfl) ?_
        refine lv_aload_n hx hb dX2_holder_16 rfl (lv_at hl 1 rfl) ?_
        refine lv_iload_n hx hb dX2_holder_17 rfl (lv_at hl 3 rfl) ?_
        refine lv_iload hx hb dX2_holder_18 (lv_at hl 5 rfl) ?_
        obtain ⟨v5, hv, hf⟩ := bs1 hf
        refine x_cVi (As := [.ref (ad 17), .int v1, .int v3]) (rest := []) hx hb hml hts hown hE hP hS hAA (kX2_lowestFitting hN hD hv) cl_X2_37 (nb50 hN) oX_50 vc_2 (Nat.le_trans (by decide) hRf) (Nat.le_trans (by decide) hRl) (Nat.zero_le _) (Nat.zero_le _) rfl hl.1 rfl (Nat.le_of_ble_eq_true rfl) dX2_holder_20 (fun H locs hP hS => ?_)
        refine lv_istore (lv' := [(4, .int v5), (0, .ref (ad 50)), (1, .ref (ad 17)), (2, .int x2), (3, .int v1), (5, .int v3)]) hx hb dX2_holder_23 hl (by decide) rfl (fun ls hl => ?_)
        refine lv_iload hx hb dX2_holder_25 (lv_at hl 0 rfl) ?_
        refine lv_bipush (v := (-4)) hx hb dX2_holder_27 nb_m4 ?_
        refine lv_icmp_ne (tgt := 35) hx hb dX2_holder_29 (by decide) (fun hc => ?_) (fun hc => ?_)
        · have hf := iq hc hf
          refine lv_iload_n hx hb dX2_holder_35 rfl (lv_at hl 4 rfl) ?_
          refine lv_iconst (v := 1) hx hb dX2_holder_36 nc_1 ?_
          refine lv_iload hx hb dX2_holder_37 (lv_at hl 0 rfl) ?_
          refine lv_ishl hx hb dX2_holder_39 ?_
          refine lv_ior hx hb dX2_holder_40 ?_
          refine lv_istore_n (lv' := [(3, .int (v1 ||| (1 <<< (v5 &&& 31)))), (4, .int v5), (0, .ref (ad 50)), (1, .ref (ad 17)), (2, .int x2), (5, .int v3)]) hx hb dX2_holder_41 rfl hl (by decide) rfl (fun ls hl => ?_)
          refine lv_iinc (v := (v3 + 1)) (lv' := [(5, .int (v3 + 1)), (3, .int (v1 ||| (1 <<< (v5 &&& 31)))), (4, .int v5), (0, .ref (ad 50)), (1, .ref (ad 17)), (2, .int x2)]) hx hb dX2_holder_42 hl (k := 5) rfl (ni_1 _) (by decide) rfl (fun ls hl => ?_)
          refine lv_goto (tgt := 9) hx hb dX2_holder_45 (by decide) ?_
          exact ih _ _ _ _ _ _ hf hP hS (lv_sub hl [3, 4, 5, 1, 2, 0] rfl)
        · have hf := ip hc hf
          refine lv_bipush (v := (-4)) hx hb dX2_holder_32 nb_m4 ?_
          cases hf
          exact hret _ _ _ _ dX2_holder_34 hP hS
  exact hL4 _ _ _ _ _ _ _ hf hP hS (lv_sub hl [3, 4, 5, 2, 1, 0] rfl)
def fX8_order (w : Mm) (x1 : Int32) : Option (Int32 × Mm) :=
  bd1 (gq (w 16 3) 17) fun _ =>
  bd1 (fX8_within x1 0 (w 17 12)) fun v1 =>
  if v1 = 0 then
    some ((-1), w)
  else
    bd1 (gq (w 16 3) 17) fun _ =>
    bd1 (fX2_weigh w) fun w2 =>
    if x1 = 0 then
      bd1 (rd w2 51 256 0) fun v4 =>
      some (v4, w2)
    else
      bd1 (gq (w2 16 3) 17) fun _ =>
      bd1 (fX2_holder w2 x1) fun v3 =>
      some (v3, w2)
set_option maxHeartbeats 4000000 in
set_option maxRecDepth 100000 in
theorem kX8_order {l : Launch} {κ : Kp} {tl : Nat} {N : Nat} {ad : Nat → Nat} {w : Mm} {x1 : Int32} {r : Int32} {w' : Mm} (hN : 52 ≤ N) (hD : Apt ad N) (hf : fX8_order w x1 = some (r, w')) : Met l yX8_order (Cond.code yX8_order cX8_order 2 (some .int) :: TB) (rmX 4 84) (PcX κ (wX κ tl) N ad w [.ref (ad 16), .int x1]) (QI κ (wX κ tl) N ad w' r) 0 0 (Aof ad N) := by
  refine mkI (by decide +kernel) (Nat.le_of_ble_eq_true rfl) (fun p e R s m args below meth c Q H locs ls hC hRf hRl hP hS hret hl => ?_)
  obtain ⟨hx, hb, hml, hown, hts, hE⟩ := hC
  have hA : ∀ k, k < N → Aof ad N (ad k) := fun k h => Aof_in h
  have hAA : ∀ z, Aof ad N z → Aof ad N z := fun _ h => h
  have hl : lv_has ls 2 [(0, .ref (ad 16)), (1, .int x1)] := hl
  unfold fX8_order at hf
  refine lv_iload_n hx hb dX8_order_0 rfl (lv_at hl 1 rfl) ?_
  refine lv_iconst (v := 0) hx hb dX8_order_1 nc_0 ?_
  refine lv_aload_n hx hb dX8_order_2 rfl (lv_at hl 0 rfl) ?_
  obtain ⟨_, hv, hf⟩ := bs1 hf
  refine x_getr hx hb hts hown hE hP fl_X8_28 (nb16 hN) gX_16_3 hv dX8_order_3 ?_
  refine x_get hx hb hts hown hE hP fl_X8_102 (nb17 hN) gX_17_12 dX8_order_6 ?_
  obtain ⟨v1, hv, hf⟩ := bs1 hf
  refine x_cSi (As := [.int x1, .int 0, .int (w 17 12)]) (rest := []) hx hb hml hts hown hE hP hS hAA (kX8_within hv) cl_X8_82 (Nat.le_trans (by decide) hRf) (Nat.le_trans (by decide) hRl) (Nat.zero_le _) (Nat.zero_le _) rfl hl.1 rfl (Nat.le_of_ble_eq_true rfl) dX8_order_9 (fun H locs hP hS => ?_)
  refine lv_if_ne (tgt := 17) hx hb dX8_order_12 (by decide) (fun hc => ?_) (fun hc => ?_)
  · have hf := iq hc hf
    refine lv_aload_n hx hb dX8_order_17 rfl (lv_at hl 0 rfl) ?_
    refine x_get hx hb hts hown hE hP fl_X8_78 (nb16 hN) gX_16_10 dX8_order_18 ?_
    refine lv_aload_n hx hb dX8_order_21 rfl (lv_at hl 0 rfl) ?_
    obtain ⟨_, hv, hf⟩ := bs1 hf
    refine x_getr hx hb hts hown hE hP fl_X8_28 (nb16 hN) gX_16_3 hv dX8_order_22 ?_
    obtain ⟨w2, hv, hf⟩ := bs1 hf
    refine x_cVv (As := [.ref (ad 17)]) (rest := []) hx hb hml hts hown hE hP hS hAA (kX2_weigh hN hD hv) cl_X8_211 (nb50 hN) oX_50 vc_2 (Nat.le_trans (by decide) hRf) (Nat.le_trans (by decide) hRl) (Nat.zero_le _) (Nat.zero_le _) rfl hl.1 rfl (Nat.le_of_ble_eq_true rfl) dX8_order_25 (fun H locs hP hS => ?_)
    refine lv_iload_n hx hb dX8_order_28 rfl (lv_at hl 1 rfl) ?_
    refine lv_if_ne (tgt := 44) hx hb dX8_order_29 (by decide) (fun hc => ?_) (fun hc => ?_)
    · have hf := iq hc hf
      refine lv_aload_n hx hb dX8_order_44 rfl (lv_at hl 0 rfl) ?_
      refine x_get hx hb hts hown hE hP fl_X8_78 (nb16 hN) gX_16_10 dX8_order_45 ?_
      refine lv_aload_n hx hb dX8_order_48 rfl (lv_at hl 0 rfl) ?_
      obtain ⟨_, hv, hf⟩ := bs1 hf
      refine x_getr hx hb hts hown hE hP fl_X8_28 (nb16 hN) gX_16_3 hv dX8_order_49 ?_
      refine lv_iload_n hx hb dX8_order_52 rfl (lv_at hl 1 rfl) ?_
      obtain ⟨v3, hv, hf⟩ := bs1 hf
      refine x_cVi (As := [.ref (ad 17), .int x1]) (rest := []) hx hb hml hts hown hE hP hS hAA (kX2_holder hN hD hv) cl_X8_217 (nb50 hN) oX_50 vc_2 (Nat.le_trans (by decide) hRf) (Nat.le_trans (by decide) hRl) (Nat.zero_le _) (Nat.zero_le _) rfl hl.1 rfl (Nat.le_of_ble_eq_true rfl) dX8_order_53 (fun H locs hP hS => ?_)
      cases hf
      exact hret _ _ _ _ dX8_order_56 hP hS
    · have hf := ip hc hf
      refine lv_aload_n hx hb dX8_order_32 rfl (lv_at hl 0 rfl) ?_
      refine x_get hx hb hts hown hE hP fl_X8_78 (nb16 hN) gX_16_10 dX8_order_33 ?_
      refine x_get hx hb hts hown hE hP fl_X8_214 (nb50 hN) gX_50_0 dX8_order_36 ?_
      refine lv_iconst (v := 0) hx hb dX8_order_39 nc_0 ?_
      obtain ⟨v4, hv, hf⟩ := bs1 hf
      refine x_iald hx hb hE hP (nb51 hN) (aX_51 _) hv dX8_order_40 ?_
      refine lv_goto (tgt := 56) hx hb dX8_order_41 (by decide) ?_
      cases hf
      exact hret _ _ _ _ dX8_order_56 hP hS
  · have hf := ip hc hf
    refine lv_iconst (v := (-1)) hx hb dX8_order_15 nc_m1 ?_
    cases hf
    exact hret _ _ _ _ dX8_order_16 hP hS
def LX8_chancesOfFirst_31 (x2 : Int32) (x3 : Int32) (v3 : Int32) : Nat → Int32 → Int32 → Option (Int32)
  | 0, _, _ => none
  | fu + 1, v8, v9 =>
    if x2 ≤ v9 then
      some (v8)
    else
      bd1 (
        if ((v3 >>> (v9 &&& 31)) &&& 1) = 1 then
          some (x3)
        else
          some ((10 - x3))) fun (v12 : Int32) =>
      LX8_chancesOfFirst_31 x2 x3 v3 fu (v8 * v12) (v9 + 1)
def LX8_chancesOfFirst_17 (x1 : Int32) (x2 : Int32) (x3 : Int32) : Nat → Int32 → Int32 → Mm → Option (Mm × Int32)
  | 0, _, _, _ => none
  | fu + 1, v2, v3, w4 =>
    if (1 <<< (x2 &&& 31)) ≤ v3 then
      some (w4, v2)
    else
      bd1 (LX8_chancesOfFirst_31 x2 x3 v3 1000 1 0) fun (v11 : Int32) =>
      bd2 (
        if v11 ≤ 0 then
          some (w4, v2)
        else
          bd1 (pt w4 30 9 v3) fun w17 =>
          bd1 (fX4_run w17) fun w18 =>
          bd1 (rd w18 35 8 0) fun v19 =>
          bd1 (
            if v19 = x1 then
              some (v11)
            else
              some (0)) fun (v20 : Int32) =>
          some (w18, (v2 + v20))) fun (w14 : Mm) (v15 : Int32) =>
      LX8_chancesOfFirst_17 x1 x2 x3 fu v15 (v3 + 1) w14
def fX8_chancesOfFirst (w : Mm) (x1 x2 x3 : Int32) : Option (Int32 × Mm) :=
  bd1 (gq (w 16 3) 17) fun _ =>
  bd1 (fX4_prepare w) fun w1 =>
  bd2 (LX8_chancesOfFirst_17 x1 x2 x3 1000 0 0 w1) fun (w6 : Mm) (v7 : Int32) =>
  some (v7, w6)
set_option maxHeartbeats 4000000 in
set_option maxRecDepth 100000 in
theorem kX8_chancesOfFirst {l : Launch} {κ : Kp} {tl : Nat} {N : Nat} {ad : Nat → Nat} {w : Mm} {x1 x2 x3 : Int32} {r : Int32} {w' : Mm} (hN : 52 ≤ N) (hD : Apt ad N) (hf : fX8_chancesOfFirst w x1 x2 x3 = some (r, w')) : Met l yX8_chancesOfFirst (Cond.code yX8_chancesOfFirst cX8_chancesOfFirst 8 (some .int) :: TB) (rmX 5 110) (PcX κ (wX κ tl) N ad w [.ref (ad 16), .int x1, .int x2, .int x3]) (QI κ (wX κ tl) N ad w' r) 0 0 (Aof ad N) := by
  refine mkI (by decide +kernel) (Nat.le_of_ble_eq_true rfl) (fun p e R s m args below meth c Q H locs ls hC hRf hRl hP hS hret hl => ?_)
  obtain ⟨hx, hb, hml, hown, hts, hE⟩ := hC
  have hA : ∀ k, k < N → Aof ad N (ad k) := fun k h => Aof_in h
  have hAA : ∀ z, Aof ad N z → Aof ad N z := fun _ h => h
  have hl : lv_has ls 8 [(0, .ref (ad 16)), (1, .int x1), (2, .int x2), (3, .int x3)] := hl
  unfold fX8_chancesOfFirst at hf
  refine lv_aload_n hx hb dX8_chancesOfFirst_0 rfl (lv_at hl 0 rfl) ?_
  refine x_get hx hb hts hown hE hP fl_X8_43 (nb16 hN) gX_16_5 dX8_chancesOfFirst_1 ?_
  refine lv_aload_n hx hb dX8_chancesOfFirst_4 rfl (lv_at hl 0 rfl) ?_
  obtain ⟨_, hv, hf⟩ := bs1 hf
  refine x_getr hx hb hts hown hE hP fl_X8_28 (nb16 hN) gX_16_3 hv dX8_chancesOfFirst_5 ?_
  obtain ⟨w1, hv, hf⟩ := bs1 hf
  refine x_cVv (As := [.ref (ad 17)]) (rest := []) hx hb hml hts hown hE hP hS hAA (kX4_prepare hN hD hv) cl_X8_134 (nb30 hN) oX_30 vc_4 (Nat.le_trans (by decide) hRf) (Nat.le_trans (by decide) hRl) (Nat.zero_le _) (Nat.zero_le _) rfl hl.1 rfl (Nat.le_of_ble_eq_true rfl) dX8_chancesOfFirst_8 (fun H locs hP hS => ?_)
  refine lv_iconst (v := 0) hx hb dX8_chancesOfFirst_11 nc_0 ?_
  refine lv_istore (lv' := [(4, .int 0), (0, .ref (ad 16)), (1, .int x1), (2, .int x2), (3, .int x3)]) hx hb dX8_chancesOfFirst_12 hl (by decide) rfl (fun ls hl => ?_)
  refine lv_iconst (v := 0) hx hb dX8_chancesOfFirst_14 nc_0 ?_
  refine lv_istore (lv' := [(5, .int 0), (4, .int 0), (0, .ref (ad 16)), (1, .int x1), (2, .int x2), (3, .int x3)]) hx hb dX8_chancesOfFirst_15 hl (by decide) rfl (fun ls hl => ?_)
  obtain ⟨w6, v7, hq5, hf⟩ := bs2 hf
  have hJ5 : ∀ (H : Heap) (locs : List Loc) (ls : Array Slot), Ho κ (wX κ tl) N ad w6 H → va_S (Aof ad N) s.heap H locs → lv_has ls 8 [(4, .int v7)] → W p l e R s m args below meth c H locs 0 0 Q (F0 m 118 ls []) := by
    intro H locs ls hP hS hl
    refine lv_iload hx hb dX8_chancesOfFirst_118 (lv_at hl 0 rfl) ?_
    cases hf
    exact hret _ _ _ _ dX8_chancesOfFirst_120 hP hS
  clear hf
  have hf := hq5
  clear hq5
  have hL5 : ∀ (fu : Nat) (v2 : Int32) (v3 : Int32) (w4 : Mm) (H : Heap) (locs : List Loc) (ls : Array Slot), LX8_chancesOfFirst_17 x1 x2 x3 fu v2 v3 w4 = some (w6, v7) → Ho κ (wX κ tl) N ad w4 H → va_S (Aof ad N) s.heap H locs → lv_has ls 8 [(0, .ref (ad 16)), (1, .int x1), (2, .int x2), (3, .int x3), (4, .int v2), (5, .int v3)] → W p l e R s m args below meth c H locs 0 0 Q (F0 m 17 ls []) := by
    intro fu
    induction fu with
    | zero =>
      intro v2 v3 w4 H locs ls hf
      rw [LX8_chancesOfFirst_17] at hf
      cases hf
    | succ fu ih =>
      intro v2 v3 w4 H locs ls hf hP hS hl
      rw [LX8_chancesOfFirst_17] at hf
      refine lv_iload hx hb dX8_chancesOfFirst_17 (lv_at hl 5 rfl) ?_
      refine lv_iconst (v := 1) hx hb dX8_chancesOfFirst_19 nc_1 ?_
      refine lv_iload_n hx hb dX8_chancesOfFirst_20 rfl (lv_at hl 2 rfl) ?_
      refine lv_ishl hx hb dX8_chancesOfFirst_21 ?_
      refine lv_icmp_ge (tgt := 118) hx hb dX8_chancesOfFirst_22 (by decide) (fun hc => ?_) (fun hc => ?_)
      · have hf := ip hc hf
        cases hf
        exact hJ5 _ _ _ hP hS (lv_sub hl [4] rfl)
      · have hf := iq hc hf
        refine lv_iconst (v := 1) hx hb dX8_chancesOfFirst_25 nc_1 ?_
        refine lv_istore (lv' := [(6, .int 1), (0, .ref (ad 16)), (1, .int x1), (2, .int x2), (3, .int x3), (4, .int v2), (5, .int v3)]) hx hb dX8_chancesOfFirst_26 hl (by decide) rfl (fun ls hl => ?_)
        refine lv_iconst (v := 0) hx hb dX8_chancesOfFirst_28 nc_0 ?_
        refine lv_istore (lv' := [(7, .int 0), (6, .int 1), (0, .ref (ad 16)), (1, .int x1), (2, .int x2), (3, .int x3), (4, .int v2), (5, .int v3)]) hx hb dX8_chancesOfFirst_29 hl (by decide) rfl (fun ls hl => ?_)
        obtain ⟨v11, hq10, hf⟩ := bs1 hf
        have hJ10 : ∀ (H : Heap) (locs : List Loc) (ls : Array Slot), Ho κ (wX κ tl) N ad w4 H → va_S (Aof ad N) s.heap H locs → lv_has ls 8 [(0, .ref (ad 16)), (1, .int x1), (2, .int x2), (3, .int x3), (4, .int v2), (5, .int v3), (6, .int v11)] → W p l e R s m args below meth c H locs 0 0 Q (F0 m 67 ls []) := by
          intro H locs ls hP hS hl
          refine lv_iload hx hb dX8_chancesOfFirst_67 (lv_at hl 6 rfl) ?_
          obtain ⟨w14, v15, hq16, hf⟩ := bs2 hf
          have hJ16 : ∀ (H : Heap) (locs : List Loc) (ls : Array Slot), Ho κ (wX κ tl) N ad w14 H → va_S (Aof ad N) s.heap H locs → lv_has ls 8 [(0, .ref (ad 16)), (1, .int x1), (2, .int x2), (3, .int x3), (4, .int v15), (5, .int v3)] → W p l e R s m args below meth c H locs 0 0 Q (F0 m 112 ls []) := by
            intro H locs ls hP hS hl
            refine lv_iinc (v := (v3 + 1)) (lv' := [(5, .int (v3 + 1)), (0, .ref (ad 16)), (1, .int x1), (2, .int x2), (3, .int x3), (4, .int v15)]) hx hb dX8_chancesOfFirst_112 hl (k := 5) rfl (ni_1 _) (by decide) rfl (fun ls hl => ?_)
            refine lv_goto (tgt := 17) hx hb dX8_chancesOfFirst_115 (by decide) ?_
            exact ih _ _ _ _ _ _ hf hP hS (lv_sub hl [1, 2, 3, 4, 5, 0] rfl)
          clear hf
          have hf := hq16
          clear hq16
          refine lv_if_le (tgt := 112) hx hb dX8_chancesOfFirst_69 (by decide) (fun hc => ?_) (fun hc => ?_)
          · have hf := ip hc hf
            cases hf
            exact hJ16 _ _ _ hP hS (lv_sub hl [0, 1, 2, 3, 4, 5] rfl)
          · have hf := iq hc hf
            refine lv_aload_n hx hb dX8_chancesOfFirst_72 rfl (lv_at hl 0 rfl) ?_
            refine x_get hx hb hts hown hE hP fl_X8_43 (nb16 hN) gX_16_5 dX8_chancesOfFirst_73 ?_
            refine lv_iload hx hb dX8_chancesOfFirst_76 (lv_at hl 5 rfl) ?_
            obtain ⟨w17, hv, hf⟩ := bs1 hf
            refine x_put hx hb hts hown hE hD hA hP hS fp_X8_282 (nb30 hN) pX_30_9 rfl rfl hv dX8_chancesOfFirst_78 (fun H locs hP hS => ?_)
            refine lv_aload_n hx hb dX8_chancesOfFirst_81 rfl (lv_at hl 0 rfl) ?_
            refine x_get hx hb hts hown hE hP fl_X8_43 (nb16 hN) gX_16_5 dX8_chancesOfFirst_82 ?_
            obtain ⟨w18, hv, hf⟩ := bs1 hf
            refine x_cVv (As := []) (rest := []) hx hb hml hts hown hE hP hS hAA (kX4_run hN hD hv) cl_X8_184 (nb30 hN) oX_30 vc_4 (Nat.le_trans (by decide) hRf) (Nat.le_trans (by decide) hRl) (Nat.zero_le _) (Nat.zero_le _) rfl hl.1 rfl (Nat.le_of_ble_eq_true rfl) dX8_chancesOfFirst_85 (fun H locs hP hS => ?_)
            refine lv_iload hx hb dX8_chancesOfFirst_88 (lv_at hl 4 rfl) ?_
            refine lv_aload_n hx hb dX8_chancesOfFirst_90 rfl (lv_at hl 0 rfl) ?_
            refine x_get hx hb hts hown hE hP fl_X8_43 (nb16 hN) gX_16_5 dX8_chancesOfFirst_91 ?_
            refine x_get hx hb hts hown hE hP fl_X8_163 (nb30 hN) gX_30_4 dX8_chancesOfFirst_94 ?_
            refine lv_iconst (v := 0) hx hb dX8_chancesOfFirst_97 nc_0 ?_
            obtain ⟨v19, hv, hf⟩ := bs1 hf
            refine x_iald hx hb hE hP (nb35 hN) (aX_35 _) hv dX8_chancesOfFirst_98 ?_
            refine lv_iload_n hx hb dX8_chancesOfFirst_99 rfl (lv_at hl 1 rfl) ?_
            obtain ⟨v20, hq21, hf⟩ := bs1 hf
            have hJ21 : ∀ (H : Heap) (locs : List Loc) (ls : Array Slot), Ho κ (wX κ tl) N ad w18 H → va_S (Aof ad N) s.heap H locs → lv_has ls 8 [(0, .ref (ad 16)), (1, .int x1), (2, .int x2), (3, .int x3), (5, .int v3)] → W p l e R s m args below meth c H locs 0 0 Q (F0 m 109 ls [.int v20, .int v2]) := by
              intro H locs ls hP hS hl
              refine lv_iadd hx hb dX8_chancesOfFirst_109 ?_
              refine lv_istore (lv' := [(4, .int (v2 + v20)), (0, .ref (ad 16)), (1, .int x1), (2, .int x2), (3, .int x3), (5, .int v3)]) hx hb dX8_chancesOfFirst_110 hl (by decide) rfl (fun ls hl => ?_)
              cases hf
              exact hJ16 _ _ _ hP hS (lv_sub hl [1, 2, 3, 4, 0, 5] rfl)
            clear hf
            have hf := hq21
            clear hq21
            refine lv_icmp_ne (tgt := 108) hx hb dX8_chancesOfFirst_100 (by decide) (fun hc => ?_) (fun hc => ?_)
            · have hf := iq hc hf
              refine lv_iconst (v := 0) hx hb dX8_chancesOfFirst_108 nc_0 ?_
              cases hf
              exact hJ21 _ _ _ hP hS (lv_sub hl [0, 1, 2, 3, 5] rfl)
            · have hf := ip hc hf
              refine lv_iload hx hb dX8_chancesOfFirst_103 (lv_at hl 6 rfl) ?_
              refine lv_goto (tgt := 109) hx hb dX8_chancesOfFirst_105 (by decide) ?_
              cases hf
              exact hJ21 _ _ _ hP hS (lv_sub hl [0, 1, 2, 3, 5] rfl)
        clear hf
        have hf := hq10
        clear hq10
        have hL10 : ∀ (fu : Nat) (v8 : Int32) (v9 : Int32) (H : Heap) (locs : List Loc) (ls : Array Slot), LX8_chancesOfFirst_31 x2 x3 v3 fu v8 v9 = some (v11) → Ho κ (wX κ tl) N ad w4 H → va_S (Aof ad N) s.heap H locs → lv_has ls 8 [(0, .ref (ad 16)), (1, .int x1), (2, .int x2), (3, .int x3), (4, .int v2), (5, .int v3), (6, .int v8), (7, .int v9)] → W p l e R s m args below meth c H locs 0 0 Q (F0 m 31 ls []) := by
          intro fu
          induction fu with
          | zero =>
            intro v8 v9 H locs ls hf
            rw [LX8_chancesOfFirst_31] at hf
            cases hf
          | succ fu ih =>
            intro v8 v9 H locs ls hf hP hS hl
            rw [LX8_chancesOfFirst_31] at hf
            refine lv_iload hx hb dX8_chancesOfFirst_31 (lv_at hl 7 rfl) ?_
            refine lv_iload_n hx hb dX8_chancesOfFirst_33 rfl (lv_at hl 2 rfl) ?_
            refine lv_icmp_ge (tgt := 67) hx hb dX8_chancesOfFirst_34 (by decide) (fun hc => ?_) (fun hc => ?_)
            · have hf := ip hc hf
              cases hf
              exact hJ10 _ _ _ hP hS (lv_sub hl [0, 1, 2, 3, 4, 5, 6] rfl)
            · have hf := iq hc hf
              refine lv_iload hx hb dX8_chancesOfFirst_37 (lv_at hl 6 rfl) ?_
              refine lv_iload hx hb dX8_chancesOfFirst_39 (lv_at hl 5 rfl) ?_
              refine lv_iload hx hb dX8_chancesOfFirst_41 (lv_at hl 7 rfl) ?_
              refine lv_ishr hx hb dX8_chancesOfFirst_43 ?_
              refine lv_iconst (v := 1) hx hb dX8_chancesOfFirst_44 nc_1 ?_
              refine lv_iand hx hb dX8_chancesOfFirst_45 ?_
              refine lv_iconst (v := 1) hx hb dX8_chancesOfFirst_46 nc_1 ?_
              obtain ⟨v12, hq13, hf⟩ := bs1 hf
              have hJ13 : ∀ (H : Heap) (locs : List Loc) (ls : Array Slot), Ho κ (wX κ tl) N ad w4 H → va_S (Aof ad N) s.heap H locs → lv_has ls 8 [(0, .ref (ad 16)), (1, .int x1), (2, .int x2), (3, .int x3), (4, .int v2), (5, .int v3), (7, .int v9)] → W p l e R s m args below meth c H locs 0 0 Q (F0 m 58 ls [.int v12, .int v8]) := by
                intro H locs ls hP hS hl
                refine lv_imul hx hb dX8_chancesOfFirst_58 ?_
                refine lv_istore (lv' := [(6, .int (v8 * v12)), (0, .ref (ad 16)), (1, .int x1), (2, .int x2), (3, .int x3), (4, .int v2), (5, .int v3), (7, .int v9)]) hx hb dX8_chancesOfFirst_59 hl (by decide) rfl (fun ls hl => ?_)
                refine lv_iinc (v := (v9 + 1)) (lv' := [(7, .int (v9 + 1)), (6, .int (v8 * v12)), (0, .ref (ad 16)), (1, .int x1), (2, .int x2), (3, .int x3), (4, .int v2), (5, .int v3)]) hx hb dX8_chancesOfFirst_61 hl (k := 7) rfl (ni_1 _) (by decide) rfl (fun ls hl => ?_)
                refine lv_goto (tgt := 31) hx hb dX8_chancesOfFirst_64 (by decide) ?_
                exact ih _ _ _ _ _ hf hP hS (lv_sub hl [2, 3, 4, 5, 6, 7, 1, 0] rfl)
              clear hf
              have hf := hq13
              clear hq13
              refine lv_icmp_ne (tgt := 54) hx hb dX8_chancesOfFirst_47 (by decide) (fun hc => ?_) (fun hc => ?_)
              · have hf := iq hc hf
                refine lv_bipush (v := 10) hx hb dX8_chancesOfFirst_54 nb_10 ?_
                refine lv_iload_n hx hb dX8_chancesOfFirst_56 rfl (lv_at hl 3 rfl) ?_
                refine lv_isub hx hb dX8_chancesOfFirst_57 ?_
                cases hf
                exact hJ13 _ _ _ hP hS (lv_sub hl [0, 1, 2, 3, 4, 5, 7] rfl)
              · have hf := ip hc hf
                refine lv_iload_n hx hb dX8_chancesOfFirst_50 rfl (lv_at hl 3 rfl) ?_
                refine lv_goto (tgt := 58) hx hb dX8_chancesOfFirst_51 (by decide) ?_
                cases hf
                exact hJ13 _ _ _ hP hS (lv_sub hl [0, 1, 2, 3, 4, 5, 7] rfl)
        exact hL10 _ _ _ _ _ _ hf hP hS (lv_sub hl [2, 3, 4, 5, 6, 7, 1, 0] rfl)
  exact hL5 _ _ _ _ _ _ _ hf hP hS (lv_sub hl [2, 3, 4, 5, 1, 0] rfl)
def LX8_commonDivisor_7 : Nat → Int32 → Int32 → Int32 → Option (Int32)
  | 0, _, _, _ => none
  | fu + 1, v1, v2, v3 =>
    if 64 ≤ v3 then
      some (v1)
    else
      if v2 = 0 then
        some (v1)
      else
        bd1 (gz v2) fun _ =>
        LX8_commonDivisor_7 fu v2 (v1 - v1 / v2 * v2) (v3 + 1)
def fX8_commonDivisor (x0 x1 : Int32) : Option (Int32) :=
  bd1 (LX8_commonDivisor_7 1000 x0 x1 0) fun (v5 : Int32) =>
  some v5
set_option maxHeartbeats 4000000 in
set_option maxRecDepth 100000 in
theorem kX8_commonDivisor {l : Launch} {κ : Kp} {cf : cfT} {N : Nat} {ad : Nat → Nat} {σ : Mm} {x0 x1 : Int32} {r : Int32} (hf : fX8_commonDivisor x0 x1 = some r) : Met l yX8_commonDivisor (Cond.code yX8_commonDivisor cX8_commonDivisor 6 (some .int) :: TB) (rmX 0 0) (PcX κ cf N ad σ [.int x0, .int x1]) (QI κ cf N ad σ r) 0 0 (Aof ad N) := by
  refine mkI (by decide +kernel) (Nat.le_of_ble_eq_true rfl) (fun p e R s m args below meth c Q H locs ls hC hRf hRl hP hS hret hl => ?_)
  obtain ⟨hx, hb, hml, hown, hts, hE⟩ := hC
  have hAA : ∀ z, Aof ad N z → Aof ad N z := fun _ h => h
  have hl : lv_has ls 6 [(0, .int x0), (1, .int x1)] := hl
  unfold fX8_commonDivisor at hf
  refine lv_iload_n hx hb dX8_commonDivisor_0 rfl (lv_at hl 0 rfl) ?_
  refine lv_istore_n (lv' := [(2, .int x0), (0, .int x0), (1, .int x1)]) hx hb dX8_commonDivisor_1 rfl hl (by decide) rfl (fun ls hl => ?_)
  refine lv_iload_n hx hb dX8_commonDivisor_2 rfl (lv_at hl 2 rfl) ?_
  refine lv_istore_n (lv' := [(3, .int x1), (2, .int x0), (0, .int x0), (1, .int x1)]) hx hb dX8_commonDivisor_3 rfl hl (by decide) rfl (fun ls hl => ?_)
  refine lv_iconst (v := 0) hx hb dX8_commonDivisor_4 nc_0 ?_
  refine lv_istore (lv' := [(4, .int 0), (3, .int x1), (2, .int x0), (0, .int x0), (1, .int x1)]) hx hb dX8_commonDivisor_5 hl (by decide) rfl (fun ls hl => ?_)
  obtain ⟨v5, hq4, hf⟩ := bs1 hf
  have hJ4 : ∀ (H : Heap) (locs : List Loc) (ls : Array Slot), Ho κ cf N ad σ H → va_S (Aof ad N) s.heap H locs → lv_has ls 6 [(2, .int v5)] → W p l e R s m args below meth c H locs 0 0 Q (F0 m 34 ls []) := by
    intro H locs ls hP hS hl
    refine lv_iload_n hx hb dX8_commonDivisor_34 rfl (lv_at hl 0 rfl) ?_
    cases hf
    exact hret _ _ _ _ dX8_commonDivisor_35 hP hS
  clear hf
  have hf := hq4
  clear hq4
  have hL4 : ∀ (fu : Nat) (v1 : Int32) (v2 : Int32) (v3 : Int32) (H : Heap) (locs : List Loc) (ls : Array Slot), LX8_commonDivisor_7 fu v1 v2 v3 = some (v5) → Ho κ cf N ad σ H → va_S (Aof ad N) s.heap H locs → lv_has ls 6 [(2, .int v1), (3, .int v2), (4, .int v3)] → W p l e R s m args below meth c H locs 0 0 Q (F0 m 7 ls []) := by
    intro fu
    induction fu with
    | zero =>
      intro v1 v2 v3 H locs ls hf
      rw [LX8_commonDivisor_7] at hf
      cases hf
    | succ fu ih =>
      intro v1 v2 v3 H locs ls hf hP hS hl
      rw [LX8_commonDivisor_7] at hf
      refine lv_iload hx hb dX8_commonDivisor_7 (lv_at hl 2 rfl) ?_
      refine lv_bipush (v := 64) hx hb dX8_commonDivisor_9 nb_64 ?_
      refine lv_icmp_ge (tgt := 34) hx hb dX8_commonDivisor_11 (by decide) (fun hc => ?_) (fun hc => ?_)
      · have hf := ip hc hf
        cases hf
        exact hJ4 _ _ _ hP hS (lv_sub hl [0] rfl)
      · have hf := iq hc hf
        refine lv_iload_n hx hb dX8_commonDivisor_14 rfl (lv_at hl 1 rfl) ?_
        refine lv_if_eq (tgt := 34) hx hb dX8_commonDivisor_15 (by decide) (fun hc => ?_) (fun hc => ?_)
        · have hf := ip hc hf
          cases hf
          exact hJ4 _ _ _ hP hS (lv_sub hl [0] rfl)
        · have hf := iq hc hf
          refine lv_iload_n hx hb dX8_commonDivisor_18 rfl (lv_at hl 0 rfl) ?_
          refine lv_iload_n hx hb dX8_commonDivisor_19 rfl (lv_at hl 1 rfl) ?_
          obtain ⟨_, hv, hf⟩ := bs1 hf
          refine lv_irem hx hb dX8_commonDivisor_20 (gz_some hv) ?_
          refine lv_istore (lv' := [(5, .int (v1 - v1 / v2 * v2)), (2, .int v1), (3, .int v2), (4, .int v3)]) hx hb dX8_commonDivisor_21 hl (by decide) rfl (fun ls hl => ?_)
          refine lv_iload_n hx hb dX8_commonDivisor_23 rfl (lv_at hl 2 rfl) ?_
          refine lv_istore_n (lv' := [(2, .int v2), (5, .int (v1 - v1 / v2 * v2)), (3, .int v2), (4, .int v3)]) hx hb dX8_commonDivisor_24 rfl hl (by decide) rfl (fun ls hl => ?_)
          refine lv_iload hx hb dX8_commonDivisor_25 (lv_at hl 1 rfl) ?_
          refine lv_istore_n (lv' := [(3, .int (v1 - v1 / v2 * v2)), (2, .int v2), (5, .int (v1 - v1 / v2 * v2)), (4, .int v3)]) hx hb dX8_commonDivisor_27 rfl hl (by decide) rfl (fun ls hl => ?_)
          refine lv_iinc (v := (v3 + 1)) (lv' := [(4, .int (v3 + 1)), (3, .int (v1 - v1 / v2 * v2)), (2, .int v2), (5, .int (v1 - v1 / v2 * v2))]) hx hb dX8_commonDivisor_28 hl (k := 3) rfl (ni_1 _) (by decide) rfl (fun ls hl => ?_)
          refine lv_goto (tgt := 7) hx hb dX8_commonDivisor_31 (by decide) ?_
          exact ih _ _ _ _ _ _ hf hP hS (lv_sub hl [2, 1, 0] rfl)
  exact hL4 _ _ _ _ _ _ _ hf hP hS (lv_sub hl [2, 1, 0] rfl)
def LX8_odds_48 (x2 : Int32) : Nat → Int32 → Int32 → Option (Int32)
  | 0, _, _ => none
  | fu + 1, v5, v6 =>
    if x2 ≤ v6 then
      some (v5)
    else
      LX8_odds_48 x2 fu (v5 * 10) (v6 + 1)
def fX8_odds (w : Mm) (x1 x2 x3 x4 : Int32) : Option (Int32 × Mm) :=
  bd1 (gq (w 16 3) 17) fun _ =>
  bd1 (fX6_has_l w x1) fun v1 =>
  if v1 = 0 then
    some ((-1), w)
  else
    bd1 (fX8_within x2 0 5) fun v2 =>
    if v2 = 0 then
      some ((-1), w)
    else
      bd1 (fX8_within x3 0 10) fun v3 =>
      if v3 = 0 then
        some ((-1), w)
      else
        bd1 (fX8_within x4 0 1) fun v4 =>
        if v4 = 0 then
          some ((-1), w)
        else
          bd1 (LX8_odds_48 x2 1000 1 0) fun (v8 : Int32) =>
          bd2 (fX8_chancesOfFirst w x1 x2 x3) fun v9 w10 =>
          bd1 (fX8_commonDivisor v9 v8) fun v11 =>
          if 1 ≤ v11 then
            if x4 = 0 then
              bd1 (gz v11) fun _ =>
              some ((v9 / v11), w10)
            else
              bd1 (gz v11) fun _ =>
              some ((v8 / v11), w10)
          else
            some ((-1), w10)
set_option maxHeartbeats 4000000 in
set_option maxRecDepth 100000 in
theorem kX8_odds {l : Launch} {κ : Kp} {tl : Nat} {N : Nat} {ad : Nat → Nat} {w : Mm} {x1 x2 x3 x4 : Int32} {r : Int32} {w' : Mm} (hN : 52 ≤ N) (hD : Apt ad N) (hf : fX8_odds w x1 x2 x3 x4 = some (r, w')) : Met l yX8_odds (Cond.code yX8_odds cX8_odds 8 (some .int) :: TB) (rmX 6 137) (PcX κ (wX κ tl) N ad w [.ref (ad 16), .int x1, .int x2, .int x3, .int x4]) (QI κ (wX κ tl) N ad w' r) 0 0 (Aof ad N) := by
  refine mkI (by decide +kernel) (Nat.le_of_ble_eq_true rfl) (fun p e R s m args below meth c Q H locs ls hC hRf hRl hP hS hret hl => ?_)
  obtain ⟨hx, hb, hml, hown, hts, hE⟩ := hC
  have hA : ∀ k, k < N → Aof ad N (ad k) := fun k h => Aof_in h
  have hAA : ∀ z, Aof ad N z → Aof ad N z := fun _ h => h
  have hl : lv_has ls 8 [(0, .ref (ad 16)), (1, .int x1), (2, .int x2), (3, .int x3), (4, .int x4)] := hl
  unfold fX8_odds at hf
  refine lv_aload_n hx hb dX8_odds_0 rfl (lv_at hl 0 rfl) ?_
  obtain ⟨_, hv, hf⟩ := bs1 hf
  refine x_getr hx hb hts hown hE hP fl_X8_28 (nb16 hN) gX_16_3 hv dX8_odds_1 ?_
  refine lv_iload_n hx hb dX8_odds_4 rfl (lv_at hl 1 rfl) ?_
  obtain ⟨v1, hv, hf⟩ := bs1 hf
  refine x_cVi (As := [.int x1]) (rest := []) hx hb hml hts hown hE hP hS hAA (kX6_has_l hN hD hv) cl_X8_105 (nb17 hN) oX_17 vc_6 (Nat.le_trans (by decide) hRf) (Nat.le_trans (by decide) hRl) (Nat.zero_le _) (Nat.zero_le _) rfl hl.1 rfl (Nat.le_of_ble_eq_true rfl) dX8_odds_5 (fun H locs hP hS => ?_)
  refine lv_if_eq (tgt := 40) hx hb dX8_odds_8 (by decide) (fun hc => ?_) (fun hc => ?_)
  · have hf := ip hc hf
    refine lv_iconst (v := (-1)) hx hb dX8_odds_40 nc_m1 ?_
    cases hf
    exact hret _ _ _ _ dX8_odds_41 hP hS
  · have hf := iq hc hf
    refine lv_iload_n hx hb dX8_odds_11 rfl (lv_at hl 2 rfl) ?_
    refine lv_iconst (v := 0) hx hb dX8_odds_12 nc_0 ?_
    refine lv_iconst (v := 5) hx hb dX8_odds_13 nc_5 ?_
    obtain ⟨v2, hv, hf⟩ := bs1 hf
    refine x_cSi (As := [.int x2, .int 0, .int 5]) (rest := []) hx hb hml hts hown hE hP hS hAA (kX8_within hv) cl_X8_82 (Nat.le_trans (by decide) hRf) (Nat.le_trans (by decide) hRl) (Nat.zero_le _) (Nat.zero_le _) rfl hl.1 rfl (Nat.le_of_ble_eq_true rfl) dX8_odds_14 (fun H locs hP hS => ?_)
    refine lv_if_eq (tgt := 40) hx hb dX8_odds_17 (by decide) (fun hc => ?_) (fun hc => ?_)
    · have hf := ip hc hf
      refine lv_iconst (v := (-1)) hx hb dX8_odds_40 nc_m1 ?_
      cases hf
      exact hret _ _ _ _ dX8_odds_41 hP hS
    · have hf := iq hc hf
      refine lv_iload_n hx hb dX8_odds_20 rfl (lv_at hl 3 rfl) ?_
      refine lv_iconst (v := 0) hx hb dX8_odds_21 nc_0 ?_
      refine lv_bipush (v := 10) hx hb dX8_odds_22 nb_10 ?_
      obtain ⟨v3, hv, hf⟩ := bs1 hf
      refine x_cSi (As := [.int x3, .int 0, .int 10]) (rest := []) hx hb hml hts hown hE hP hS hAA (kX8_within hv) cl_X8_82 (Nat.le_trans (by decide) hRf) (Nat.le_trans (by decide) hRl) (Nat.zero_le _) (Nat.zero_le _) rfl hl.1 rfl (Nat.le_of_ble_eq_true rfl) dX8_odds_24 (fun H locs hP hS => ?_)
      refine lv_if_eq (tgt := 40) hx hb dX8_odds_27 (by decide) (fun hc => ?_) (fun hc => ?_)
      · have hf := ip hc hf
        refine lv_iconst (v := (-1)) hx hb dX8_odds_40 nc_m1 ?_
        cases hf
        exact hret _ _ _ _ dX8_odds_41 hP hS
      · have hf := iq hc hf
        refine lv_iload hx hb dX8_odds_30 (lv_at hl 4 rfl) ?_
        refine lv_iconst (v := 0) hx hb dX8_odds_32 nc_0 ?_
        refine lv_iconst (v := 1) hx hb dX8_odds_33 nc_1 ?_
        obtain ⟨v4, hv, hf⟩ := bs1 hf
        refine x_cSi (As := [.int x4, .int 0, .int 1]) (rest := []) hx hb hml hts hown hE hP hS hAA (kX8_within hv) cl_X8_82 (Nat.le_trans (by decide) hRf) (Nat.le_trans (by decide) hRl) (Nat.zero_le _) (Nat.zero_le _) rfl hl.1 rfl (Nat.le_of_ble_eq_true rfl) dX8_odds_34 (fun H locs hP hS => ?_)
        refine lv_if_ne (tgt := 42) hx hb dX8_odds_37 (by decide) (fun hc => ?_) (fun hc => ?_)
        · have hf := iq hc hf
          refine lv_iconst (v := 1) hx hb dX8_odds_42 nc_1 ?_
          refine lv_istore (lv' := [(5, .int 1), (0, .ref (ad 16)), (1, .int x1), (2, .int x2), (3, .int x3), (4, .int x4)]) hx hb dX8_odds_43 hl (by decide) rfl (fun ls hl => ?_)
          refine lv_iconst (v := 0) hx hb dX8_odds_45 nc_0 ?_
          refine lv_istore (lv' := [(6, .int 0), (5, .int 1), (0, .ref (ad 16)), (1, .int x1), (2, .int x2), (3, .int x3), (4, .int x4)]) hx hb dX8_odds_46 hl (by decide) rfl (fun ls hl => ?_)
          obtain ⟨v8, hq7, hf⟩ := bs1 hf
          have hJ7 : ∀ (H : Heap) (locs : List Loc) (ls : Array Slot), Ho κ (wX κ tl) N ad w H → va_S (Aof ad N) s.heap H locs → lv_has ls 8 [(0, .ref (ad 16)), (1, .int x1), (2, .int x2), (3, .int x3), (4, .int x4), (5, .int v8)] → W p l e R s m args below meth c H locs 0 0 Q (F0 m 67 ls []) := by
            intro H locs ls hP hS hl
            refine lv_aload_n hx hb dX8_odds_67 rfl (lv_at hl 0 rfl) ?_
            refine lv_iload_n hx hb dX8_odds_68 rfl (lv_at hl 1 rfl) ?_
            refine lv_iload_n hx hb dX8_odds_69 rfl (lv_at hl 2 rfl) ?_
            refine lv_iload_n hx hb dX8_odds_70 rfl (lv_at hl 3 rfl) ?_
            obtain ⟨v9, w10, hv, hf⟩ := bs2 hf
            refine x_cVi (As := [.int x1, .int x2, .int x3]) (rest := []) hx hb hml hts hown hE hP hS hAA (kX8_chancesOfFirst hN hD hv) cl_X8_224 (nb16 hN) oX_16 vc_8 (Nat.le_trans (by decide) hRf) (Nat.le_trans (by decide) hRl) (Nat.zero_le _) (Nat.zero_le _) rfl hl.1 rfl (Nat.le_of_ble_eq_true rfl) dX8_odds_71 (fun H locs hP hS => ?_)
            refine lv_istore (lv' := [(6, .int v9), (0, .ref (ad 16)), (1, .int x1), (2, .int x2), (3, .int x3), (4, .int x4), (5, .int v8)]) hx hb dX8_odds_74 hl (by decide) rfl (fun ls hl => ?_)
            refine lv_iload hx hb dX8_odds_76 (lv_at hl 0 rfl) ?_
            refine lv_iload hx hb dX8_odds_78 (lv_at hl 6 rfl) ?_
            obtain ⟨v11, hv, hf⟩ := bs1 hf
            refine x_cSi (As := [.int v9, .int v8]) (rest := []) hx hb hml hts hown hE hP hS hAA (kX8_commonDivisor hv) cl_X8_228 (Nat.le_trans (by decide) hRf) (Nat.le_trans (by decide) hRl) (Nat.zero_le _) (Nat.zero_le _) rfl hl.1 rfl (Nat.le_of_ble_eq_true rfl) dX8_odds_80 (fun H locs hP hS => ?_)
            refine lv_istore (lv' := [(7, .int v11), (6, .int v9), (0, .ref (ad 16)), (1, .int x1), (2, .int x2), (3, .int x3), (4, .int x4), (5, .int v8)]) hx hb dX8_odds_83 hl (by decide) rfl (fun ls hl => ?_)
            refine lv_iload hx hb dX8_odds_85 (lv_at hl 0 rfl) ?_
            refine lv_iconst (v := 1) hx hb dX8_odds_87 nc_1 ?_
            refine lv_icmp_ge (tgt := 93) hx hb dX8_odds_88 (by decide) (fun hc => ?_) (fun hc => ?_)
            · have hf := ip hc hf
              refine lv_iload hx hb dX8_odds_93 (lv_at hl 6 rfl) ?_
              refine lv_if_ne (tgt := 103) hx hb dX8_odds_95 (by decide) (fun hc => ?_) (fun hc => ?_)
              · have hf := iq hc hf
                refine lv_iload hx hb dX8_odds_103 (lv_at hl 7 rfl) ?_
                refine lv_iload hx hb dX8_odds_105 (lv_at hl 0 rfl) ?_
                obtain ⟨_, hv, hf⟩ := bs1 hf
                refine lv_idiv hx hb dX8_odds_107 (gz_some hv) ?_
                cases hf
                exact hret _ _ _ _ dX8_odds_108 hP hS
              · have hf := ip hc hf
                refine lv_iload hx hb dX8_odds_98 (lv_at hl 1 rfl) ?_
                refine lv_goto (tgt := 105) hx hb dX8_odds_100 (by decide) ?_
                refine lv_iload hx hb dX8_odds_105 (lv_at hl 0 rfl) ?_
                obtain ⟨_, hv, hf⟩ := bs1 hf
                refine lv_idiv hx hb dX8_odds_107 (gz_some hv) ?_
                cases hf
                exact hret _ _ _ _ dX8_odds_108 hP hS
            · have hf := iq hc hf
              refine lv_iconst (v := (-1)) hx hb dX8_odds_91 nc_m1 ?_
              cases hf
              exact hret _ _ _ _ dX8_odds_92 hP hS
          clear hf
          have hf := hq7
          clear hq7
          have hL7 : ∀ (fu : Nat) (v5 : Int32) (v6 : Int32) (H : Heap) (locs : List Loc) (ls : Array Slot), LX8_odds_48 x2 fu v5 v6 = some (v8) → Ho κ (wX κ tl) N ad w H → va_S (Aof ad N) s.heap H locs → lv_has ls 8 [(0, .ref (ad 16)), (1, .int x1), (2, .int x2), (3, .int x3), (4, .int x4), (5, .int v5), (6, .int v6)] → W p l e R s m args below meth c H locs 0 0 Q (F0 m 48 ls []) := by
            intro fu
            induction fu with
            | zero =>
              intro v5 v6 H locs ls hf
              rw [LX8_odds_48] at hf
              cases hf
            | succ fu ih =>
              intro v5 v6 H locs ls hf hP hS hl
              rw [LX8_odds_48] at hf
              refine lv_iload hx hb dX8_odds_48 (lv_at hl 6 rfl) ?_
              refine lv_iload_n hx hb dX8_odds_50 rfl (lv_at hl 2 rfl) ?_
              refine lv_icmp_ge (tgt := 67) hx hb dX8_odds_51 (by decide) (fun hc => ?_) (fun hc => ?_)
              · have hf := ip hc hf
                cases hf
                exact hJ7 _ _ _ hP hS (lv_sub hl [0, 1, 2, 3, 4, 5] rfl)
              · have hf := iq hc hf
                refine lv_iload hx hb dX8_odds_54 (lv_at hl 5 rfl) ?_
                refine lv_bipush (v := 10) hx hb dX8_odds_56 nb_10 ?_
                refine lv_imul hx hb dX8_odds_58 ?_
                refine lv_istore (lv' := [(5, .int (v5 * 10)), (0, .ref (ad 16)), (1, .int x1), (2, .int x2), (3, .int x3), (4, .int x4), (6, .int v6)]) hx hb dX8_odds_59 hl (by decide) rfl (fun ls hl => ?_)
                refine lv_iinc (v := (v6 + 1)) (lv' := [(6, .int (v6 + 1)), (5, .int (v5 * 10)), (0, .ref (ad 16)), (1, .int x1), (2, .int x2), (3, .int x3), (4, .int x4)]) hx hb dX8_odds_61 hl (k := 6) rfl (ni_1 _) (by decide) rfl (fun ls hl => ?_)
                refine lv_goto (tgt := 48) hx hb dX8_odds_64 (by decide) ?_
                exact ih _ _ _ _ _ hf hP hS (lv_sub hl [2, 3, 4, 5, 6, 1, 0] rfl)
          exact hL7 _ _ _ _ _ _ hf hP hS (lv_sub hl [2, 3, 4, 5, 6, 1, 0] rfl)
        · have hf := ip hc hf
          refine lv_iconst (v := (-1)) hx hb dX8_odds_40 nc_m1 ?_
          cases hf
          exact hret _ _ _ _ dX8_odds_41 hP hS
def fX7_add (w : Mm) (x1 x2 : Int32) : Option (Int32 × Mm) :=
  if (w 44 2) < 6 then
    bd1 (wr w 45 6 (w 44 2) x1) fun w1 =>
    bd1 (wr w1 46 6 (w1 44 2) x2) fun w2 =>
    bd1 (pt w2 44 2 ((w2 44 2) + 1)) fun w3 =>
    some (1, w3)
  else
    some (0, w)
set_option maxHeartbeats 4000000 in
set_option maxRecDepth 100000 in
theorem kX7_add {l : Launch} {κ : Kp} {tl : Nat} {N : Nat} {ad : Nat → Nat} {w : Mm} {x1 x2 : Int32} {r : Int32} {w' : Mm} (hN : 52 ≤ N) (hD : Apt ad N) (hf : fX7_add w x1 x2 = some (r, w')) : Met l yX7_add (Cond.code yX7_add cX7_add 3 (some .boolean) :: TB) (rmX 0 0) (PcX κ (wX κ tl) N ad w [.ref (ad 44), .int x1, .int x2]) (QI κ (wX κ tl) N ad w' r) 0 0 (Aof ad N) := by
  refine mkZ (by decide +kernel) (Nat.le_of_ble_eq_true rfl) (fun p e R s m args below meth c Q H locs ls hC hRf hRl hP hS hret hl => ?_)
  obtain ⟨hx, hb, hml, hown, hts, hE⟩ := hC
  have hA : ∀ k, k < N → Aof ad N (ad k) := fun k h => Aof_in h
  have hAA : ∀ z, Aof ad N z → Aof ad N z := fun _ h => h
  have hl : lv_has ls 3 [(0, .ref (ad 44)), (1, .int x1), (2, .int x2)] := hl
  unfold fX7_add at hf
  refine lv_aload_n hx hb dX7_add_0 rfl (lv_at hl 0 rfl) ?_
  refine x_get hx hb hts hown hE hP fl_X7_18 (nb44 hN) gX_44_2 dX7_add_1 ?_
  refine lv_bipush (v := 6) hx hb dX7_add_4 nb_6 ?_
  refine lv_icmp_lt (tgt := 11) hx hb dX7_add_6 (by decide) (fun hc => ?_) (fun hc => ?_)
  · have hf := ip hc hf
    refine lv_aload_n hx hb dX7_add_11 rfl (lv_at hl 0 rfl) ?_
    refine x_get hx hb hts hown hE hP fl_X7_9 (nb44 hN) gX_44_0 dX7_add_12 ?_
    refine lv_aload_n hx hb dX7_add_15 rfl (lv_at hl 0 rfl) ?_
    refine x_get hx hb hts hown hE hP fl_X7_18 (nb44 hN) gX_44_2 dX7_add_16 ?_
    refine lv_iload_n hx hb dX7_add_19 rfl (lv_at hl 1 rfl) ?_
    obtain ⟨w1, hv, hf⟩ := bs1 hf
    refine x_iast hx hb hE hD hA hP hS (nb45 hN) aX_45 hv dX7_add_20 (fun H locs hP hS => ?_)
    refine lv_aload_n hx hb dX7_add_21 rfl (lv_at hl 0 rfl) ?_
    refine x_get hx hb hts hown hE hP fl_X7_15 (nb44 hN) gX_44_1 dX7_add_22 ?_
    refine lv_aload_n hx hb dX7_add_25 rfl (lv_at hl 0 rfl) ?_
    refine x_get hx hb hts hown hE hP fl_X7_18 (nb44 hN) gX_44_2 dX7_add_26 ?_
    refine lv_iload_n hx hb dX7_add_29 rfl (lv_at hl 2 rfl) ?_
    obtain ⟨w2, hv, hf⟩ := bs1 hf
    refine x_iast hx hb hE hD hA hP hS (nb46 hN) aX_46 hv dX7_add_30 (fun H locs hP hS => ?_)
    refine lv_aload_n hx hb dX7_add_31 rfl (lv_at hl 0 rfl) ?_
    refine lv_dup hx hb dX7_add_32 rfl ?_
    refine x_get hx hb hts hown hE hP fl_X7_18 (nb44 hN) gX_44_2 dX7_add_33 ?_
    refine lv_iconst (v := 1) hx hb dX7_add_36 nc_1 ?_
    refine lv_iadd hx hb dX7_add_37 ?_
    obtain ⟨w3, hv, hf⟩ := bs1 hf
    refine x_put hx hb hts hown hE hD hA hP hS fp_X7_18 (nb44 hN) pX_44_2 rfl rfl hv dX7_add_38 (fun H locs hP hS => ?_)
    refine lv_iconst (v := 1) hx hb dX7_add_41 nc_1 ?_
    cases hf
    exact hret _ _ _ _ dX7_add_42 (Or.inr rfl) hP hS
  · have hf := iq hc hf
    refine lv_iconst (v := 0) hx hb dX7_add_9 nc_0 ?_
    cases hf
    exact hret _ _ _ _ dX7_add_10 (Or.inl rfl) hP hS
def fX8_seen (w : Mm) (x1 x2 : Int32) : Option (Int32 × Mm) :=
  bd1 (gq (w 16 3) 17) fun _ =>
  bd1 (fX6_has_l w x1) fun v1 =>
  if v1 = 0 then
    some ((-1), w)
  else
    bd1 (gq (w 16 3) 17) fun _ =>
    bd1 (fX8_within x2 1 (w 17 12)) fun v2 =>
    if v2 = 0 then
      some ((-1), w)
    else
      bd2 (fX7_add w x1 x2) fun v3 w4 =>
      if v3 = 0 then
        some ((-3), w4)
      else
        some ((w4 44 2), w4)
set_option maxHeartbeats 4000000 in
set_option maxRecDepth 100000 in
theorem kX8_seen {l : Launch} {κ : Kp} {tl : Nat} {N : Nat} {ad : Nat → Nat} {w : Mm} {x1 x2 : Int32} {r : Int32} {w' : Mm} (hN : 52 ≤ N) (hD : Apt ad N) (hf : fX8_seen w x1 x2 = some (r, w')) : Met l yX8_seen (Cond.code yX8_seen cX8_seen 3 (some .int) :: TB) (rmX 1 22) (PcX κ (wX κ tl) N ad w [.ref (ad 16), .int x1, .int x2]) (QI κ (wX κ tl) N ad w' r) 0 0 (Aof ad N) := by
  refine mkI (by decide +kernel) (Nat.le_of_ble_eq_true rfl) (fun p e R s m args below meth c Q H locs ls hC hRf hRl hP hS hret hl => ?_)
  obtain ⟨hx, hb, hml, hown, hts, hE⟩ := hC
  have hA : ∀ k, k < N → Aof ad N (ad k) := fun k h => Aof_in h
  have hAA : ∀ z, Aof ad N z → Aof ad N z := fun _ h => h
  have hl : lv_has ls 3 [(0, .ref (ad 16)), (1, .int x1), (2, .int x2)] := hl
  unfold fX8_seen at hf
  refine lv_aload_n hx hb dX8_seen_0 rfl (lv_at hl 0 rfl) ?_
  obtain ⟨_, hv, hf⟩ := bs1 hf
  refine x_getr hx hb hts hown hE hP fl_X8_28 (nb16 hN) gX_16_3 hv dX8_seen_1 ?_
  refine lv_iload_n hx hb dX8_seen_4 rfl (lv_at hl 1 rfl) ?_
  obtain ⟨v1, hv, hf⟩ := bs1 hf
  refine x_cVi (As := [.int x1]) (rest := []) hx hb hml hts hown hE hP hS hAA (kX6_has_l hN hD hv) cl_X8_105 (nb17 hN) oX_17 vc_6 (Nat.le_trans (by decide) hRf) (Nat.le_trans (by decide) hRl) (Nat.zero_le _) (Nat.zero_le _) rfl hl.1 rfl (Nat.le_of_ble_eq_true rfl) dX8_seen_5 (fun H locs hP hS => ?_)
  refine lv_if_eq (tgt := 26) hx hb dX8_seen_8 (by decide) (fun hc => ?_) (fun hc => ?_)
  · have hf := ip hc hf
    refine lv_iconst (v := (-1)) hx hb dX8_seen_26 nc_m1 ?_
    cases hf
    exact hret _ _ _ _ dX8_seen_27 hP hS
  · have hf := iq hc hf
    refine lv_iload_n hx hb dX8_seen_11 rfl (lv_at hl 2 rfl) ?_
    refine lv_iconst (v := 1) hx hb dX8_seen_12 nc_1 ?_
    refine lv_aload_n hx hb dX8_seen_13 rfl (lv_at hl 0 rfl) ?_
    obtain ⟨_, hv, hf⟩ := bs1 hf
    refine x_getr hx hb hts hown hE hP fl_X8_28 (nb16 hN) gX_16_3 hv dX8_seen_14 ?_
    refine x_get hx hb hts hown hE hP fl_X8_102 (nb17 hN) gX_17_12 dX8_seen_17 ?_
    obtain ⟨v2, hv, hf⟩ := bs1 hf
    refine x_cSi (As := [.int x2, .int 1, .int (w 17 12)]) (rest := []) hx hb hml hts hown hE hP hS hAA (kX8_within hv) cl_X8_82 (Nat.le_trans (by decide) hRf) (Nat.le_trans (by decide) hRl) (Nat.zero_le _) (Nat.zero_le _) rfl hl.1 rfl (Nat.le_of_ble_eq_true rfl) dX8_seen_20 (fun H locs hP hS => ?_)
    refine lv_if_ne (tgt := 28) hx hb dX8_seen_23 (by decide) (fun hc => ?_) (fun hc => ?_)
    · have hf := iq hc hf
      refine lv_aload_n hx hb dX8_seen_28 rfl (lv_at hl 0 rfl) ?_
      refine x_get hx hb hts hown hE hP fl_X8_64 (nb16 hN) gX_16_8 dX8_seen_29 ?_
      refine lv_iload_n hx hb dX8_seen_32 rfl (lv_at hl 1 rfl) ?_
      refine lv_iload_n hx hb dX8_seen_33 rfl (lv_at hl 2 rfl) ?_
      obtain ⟨v3, w4, hv, hf⟩ := bs2 hf
      refine x_cVi (As := [.int x1, .int x2]) (rest := []) hx hb hml hts hown hE hP hS hAA (kX7_add hN hD hv) cl_X8_231 (nb44 hN) oX_44 vc_7 (Nat.le_trans (by decide) hRf) (Nat.le_trans (by decide) hRl) (Nat.zero_le _) (Nat.zero_le _) rfl hl.1 rfl (Nat.le_of_ble_eq_true rfl) dX8_seen_34 (fun H locs hP hS => ?_)
      refine lv_if_eq (tgt := 50) hx hb dX8_seen_37 (by decide) (fun hc => ?_) (fun hc => ?_)
      · have hf := ip hc hf
        refine lv_bipush (v := (-3)) hx hb dX8_seen_50 nb_m3 ?_
        cases hf
        exact hret _ _ _ _ dX8_seen_52 hP hS
      · have hf := iq hc hf
        refine lv_aload_n hx hb dX8_seen_40 rfl (lv_at hl 0 rfl) ?_
        refine x_get hx hb hts hown hE hP fl_X8_64 (nb16 hN) gX_16_8 dX8_seen_41 ?_
        refine x_get hx hb hts hown hE hP fl_X8_234 (nb44 hN) gX_44_2 dX8_seen_44 ?_
        refine lv_goto (tgt := 52) hx hb dX8_seen_47 (by decide) ?_
        cases hf
        exact hret _ _ _ _ dX8_seen_52 hP hS
    · have hf := ip hc hf
      refine lv_iconst (v := (-1)) hx hb dX8_seen_26 nc_m1 ?_
      cases hf
      exact hret _ _ _ _ dX8_seen_27 hP hS
def fX8_forget (w : Mm) : Option (Int32 × Mm) :=
  bd1 (fX7_clear w) fun w1 =>
  some ((w 44 2), w1)
set_option maxHeartbeats 4000000 in
set_option maxRecDepth 100000 in
theorem kX8_forget {l : Launch} {κ : Kp} {tl : Nat} {N : Nat} {ad : Nat → Nat} {w : Mm} {r : Int32} {w' : Mm} (hN : 52 ≤ N) (hD : Apt ad N) (hf : fX8_forget w = some (r, w')) : Met l yX8_forget (Cond.code yX8_forget cX8_forget 2 (some .int) :: TB) (rmX 1 20) (PcX κ (wX κ tl) N ad w [.ref (ad 16)]) (QI κ (wX κ tl) N ad w' r) 0 0 (Aof ad N) := by
  refine mkI (by decide +kernel) (Nat.le_of_ble_eq_true rfl) (fun p e R s m args below meth c Q H locs ls hC hRf hRl hP hS hret hl => ?_)
  obtain ⟨hx, hb, hml, hown, hts, hE⟩ := hC
  have hA : ∀ k, k < N → Aof ad N (ad k) := fun k h => Aof_in h
  have hAA : ∀ z, Aof ad N z → Aof ad N z := fun _ h => h
  have hl : lv_has ls 2 [(0, .ref (ad 16))] := hl
  unfold fX8_forget at hf
  refine lv_aload_n hx hb dX8_forget_0 rfl (lv_at hl 0 rfl) ?_
  refine x_get hx hb hts hown hE hP fl_X8_64 (nb16 hN) gX_16_8 dX8_forget_1 ?_
  refine x_get hx hb hts hown hE hP fl_X8_234 (nb44 hN) gX_44_2 dX8_forget_4 ?_
  refine lv_istore_n (lv' := [(1, .int (w 44 2)), (0, .ref (ad 16))]) hx hb dX8_forget_7 rfl hl (by decide) rfl (fun ls hl => ?_)
  refine lv_aload_n hx hb dX8_forget_8 rfl (lv_at hl 1 rfl) ?_
  refine x_get hx hb hts hown hE hP fl_X8_64 (nb16 hN) gX_16_8 dX8_forget_9 ?_
  obtain ⟨w1, hv, hf⟩ := bs1 hf
  refine x_cVv (As := []) (rest := []) hx hb hml hts hown hE hP hS hAA (kX7_clear hN hD hv) cl_X8_101 (nb44 hN) oX_44 vc_7 (Nat.le_trans (by decide) hRf) (Nat.le_trans (by decide) hRl) (Nat.zero_le _) (Nat.zero_le _) rfl hl.1 rfl (Nat.le_of_ble_eq_true rfl) dX8_forget_12 (fun H locs hP hS => ?_)
  refine lv_iload_n hx hb dX8_forget_15 rfl (lv_at hl 0 rfl) ?_
  cases hf
  exact hret _ _ _ _ dX8_forget_16 hP hS
def LX4_unseatAll_2 : Nat → Int32 → Mm → Option (Mm)
  | 0, _, _ => none
  | fu + 1, v1, w2 =>
    if 8 ≤ v1 then
      some (w2)
    else
      bd1 (wr w2 32 8 v1 (-4)) fun w5 =>
      LX4_unseatAll_2 fu (v1 + 1) w5
def fX4_unseatAll (w : Mm) : Option (Mm) :=
  bd1 (LX4_unseatAll_2 1000 0 w) fun (w4 : Mm) =>
  some w4
set_option maxHeartbeats 4000000 in
set_option maxRecDepth 100000 in
theorem kX4_unseatAll {l : Launch} {κ : Kp} {tl : Nat} {N : Nat} {ad : Nat → Nat} {w : Mm} {w' : Mm} (hN : 52 ≤ N) (hD : Apt ad N) (hf : fX4_unseatAll w = some w') : Met l yX4_unseatAll (Cond.code yX4_unseatAll cX4_unseatAll 2 none :: TB) (rmX 0 0) (PcX κ (wX κ tl) N ad w [.ref (ad 30)]) (QV κ (wX κ tl) N ad w') 0 0 (Aof ad N) := by
  refine mkV (by decide +kernel) (Nat.le_of_ble_eq_true rfl) (fun p e R s m args below meth c Q H locs ls hC hRf hRl hP hS hret hl => ?_)
  obtain ⟨hx, hb, hml, hown, hts, hE⟩ := hC
  have hA : ∀ k, k < N → Aof ad N (ad k) := fun k h => Aof_in h
  have hAA : ∀ z, Aof ad N z → Aof ad N z := fun _ h => h
  have hl : lv_has ls 2 [(0, .ref (ad 30))] := hl
  unfold fX4_unseatAll at hf
  refine lv_iconst (v := 0) hx hb dX4_unseatAll_0 nc_0 ?_
  refine lv_istore_n (lv' := [(1, .int 0), (0, .ref (ad 30))]) hx hb dX4_unseatAll_1 rfl hl (by decide) rfl (fun ls hl => ?_)
  obtain ⟨w4, hq3, hf⟩ := bs1 hf
  have hJ3 : ∀ (H : Heap) (locs : List Loc) (ls : Array Slot), Ho κ (wX κ tl) N ad w4 H → va_S (Aof ad N) s.heap H locs → lv_has ls 2 [] → W p l e R s m args below meth c H locs 0 0 Q (F0 m 22 ls []) := by
    intro H locs ls hP hS hl
    cases hf
    exact hret _ _ _ _ dX4_unseatAll_22 hP hS
  clear hf
  have hf := hq3
  clear hq3
  have hL3 : ∀ (fu : Nat) (v1 : Int32) (w2 : Mm) (H : Heap) (locs : List Loc) (ls : Array Slot), LX4_unseatAll_2 fu v1 w2 = some (w4) → Ho κ (wX κ tl) N ad w2 H → va_S (Aof ad N) s.heap H locs → lv_has ls 2 [(0, .ref (ad 30)), (1, .int v1)] → W p l e R s m args below meth c H locs 0 0 Q (F0 m 2 ls []) := by
    intro fu
    induction fu with
    | zero =>
      intro v1 w2 H locs ls hf
      rw [LX4_unseatAll_2] at hf
      cases hf
    | succ fu ih =>
      intro v1 w2 H locs ls hf hP hS hl
      rw [LX4_unseatAll_2] at hf
      refine lv_iload_n hx hb dX4_unseatAll_2 rfl (lv_at hl 1 rfl) ?_
      refine lv_bipush (v := 8) hx hb dX4_unseatAll_3 nb_8 ?_
      refine lv_icmp_ge (tgt := 22) hx hb dX4_unseatAll_5 (by decide) (fun hc => ?_) (fun hc => ?_)
      · have hf := ip hc hf
        cases hf
        exact hJ3 _ _ _ hP hS (lv_sub hl [] rfl)
      · have hf := iq hc hf
        refine lv_aload_n hx hb dX4_unseatAll_8 rfl (lv_at hl 0 rfl) ?_
        refine x_get hx hb hts hown hE hP fl_X4_15 (nb30 hN) gX_30_1 dX4_unseatAll_9 ?_
        refine lv_iload_n hx hb dX4_unseatAll_12 rfl (lv_at hl 1 rfl) ?_
        refine lv_bipush (v := (-4)) hx hb dX4_unseatAll_13 nb_m4 ?_
        obtain ⟨w5, hv, hf⟩ := bs1 hf
        refine x_iast hx hb hE hD hA hP hS (nb32 hN) aX_32 hv dX4_unseatAll_15 (fun H locs hP hS => ?_)
        refine lv_iinc (v := (v1 + 1)) (lv' := [(1, .int (v1 + 1)), (0, .ref (ad 30))]) hx hb dX4_unseatAll_16 hl (k := 1) rfl (ni_1 _) (by decide) rfl (fun ls hl => ?_)
        refine lv_goto (tgt := 2) hx hb dX4_unseatAll_19 (by decide) ?_
        exact ih _ _ _ _ _ hf hP hS (lv_sub hl [1, 0] rfl)
  exact hL3 _ _ _ _ _ _ hf hP hS (lv_sub hl [1, 0] rfl)
def LX7_agreeWith_2 (w : Mm) : Nat → Int32 → Option (Int32)
  | 0, _ => none
  | fu + 1, v1 =>
    if (w 44 2) ≤ v1 then
      some 1
    else
      bd1 (rd w 45 6 v1) fun v3 =>
      bd1 (rd w 34 8 v3) fun v4 =>
      bd1 (rd w 46 6 v1) fun v5 =>
      if v4 = v5 then
        LX7_agreeWith_2 w fu (v1 + 1)
      else
        some 0
def fX7_agreeWith (w : Mm) : Option (Int32) :=
  LX7_agreeWith_2 w 1000 0
set_option maxHeartbeats 4000000 in
set_option maxRecDepth 100000 in
theorem kX7_agreeWith {l : Launch} {κ : Kp} {tl : Nat} {N : Nat} {ad : Nat → Nat} {w : Mm} {r : Int32} (hN : 52 ≤ N) (hD : Apt ad N) (hf : fX7_agreeWith w = some r) : Met l yX7_agreeWith (Cond.code yX7_agreeWith cX7_agreeWith 3 (some .boolean) :: TB) (rmX 0 0) (PcX κ (wX κ tl) N ad w [.ref (ad 44), .ref (ad 30)]) (QI κ (wX κ tl) N ad w r) 0 0 (Aof ad N) := by
  refine mkZ (by decide +kernel) (Nat.le_of_ble_eq_true rfl) (fun p e R s m args below meth c Q H locs ls hC hRf hRl hP hS hret hl => ?_)
  obtain ⟨hx, hb, hml, hown, hts, hE⟩ := hC
  have hA : ∀ k, k < N → Aof ad N (ad k) := fun k h => Aof_in h
  have hAA : ∀ z, Aof ad N z → Aof ad N z := fun _ h => h
  have hl : lv_has ls 3 [(0, .ref (ad 44)), (1, .ref (ad 30))] := hl
  unfold fX7_agreeWith at hf
  refine lv_iconst (v := 0) hx hb dX7_agreeWith_0 nc_0 ?_
  refine lv_istore_n (lv' := [(2, .int 0), (0, .ref (ad 44)), (1, .ref (ad 30))]) hx hb dX7_agreeWith_1 rfl hl (by decide) rfl (fun ls hl => ?_)
  have hL2 : ∀ (fu : Nat) (v1 : Int32) (H : Heap) (locs : List Loc) (ls : Array Slot), LX7_agreeWith_2 w fu v1 = some r → Ho κ (wX κ tl) N ad w H → va_S (Aof ad N) s.heap H locs → lv_has ls 3 [(0, .ref (ad 44)), (1, .ref (ad 30)), (2, .int v1)] → W p l e R s m args below meth c H locs 0 0 Q (F0 m 2 ls []) := by
    intro fu
    induction fu with
    | zero =>
      intro v1 H locs ls hf
      rw [LX7_agreeWith_2] at hf
      cases hf
    | succ fu ih =>
      intro v1 H locs ls hf hP hS hl
      rw [LX7_agreeWith_2] at hf
      refine lv_iload_n hx hb dX7_agreeWith_2 rfl (lv_at hl 2 rfl) ?_
      refine lv_aload_n hx hb dX7_agreeWith_3 rfl (lv_at hl 0 rfl) ?_
      refine x_get hx hb hts hown hE hP fl_X7_18 (nb44 hN) gX_44_2 dX7_agreeWith_4 ?_
      refine lv_icmp_ge (tgt := 38) hx hb dX7_agreeWith_7 (by decide) (fun hc => ?_) (fun hc => ?_)
      · have hf := ip hc hf
        refine lv_iconst (v := 1) hx hb dX7_agreeWith_38 nc_1 ?_
        cases hf
        exact hret _ _ _ _ dX7_agreeWith_39 (Or.inr rfl) hP hS
      · have hf := iq hc hf
        refine lv_aload_n hx hb dX7_agreeWith_10 rfl (lv_at hl 1 rfl) ?_
        refine x_get hx hb hts hown hE hP fl_X7_22 (nb30 hN) gX_30_3 dX7_agreeWith_11 ?_
        refine lv_aload_n hx hb dX7_agreeWith_14 rfl (lv_at hl 0 rfl) ?_
        refine x_get hx hb hts hown hE hP fl_X7_9 (nb44 hN) gX_44_0 dX7_agreeWith_15 ?_
        refine lv_iload_n hx hb dX7_agreeWith_18 rfl (lv_at hl 2 rfl) ?_
        obtain ⟨v3, hv, hf⟩ := bs1 hf
        refine x_iald hx hb hE hP (nb45 hN) (aX_45 _) hv dX7_agreeWith_19 ?_
        obtain ⟨v4, hv, hf⟩ := bs1 hf
        refine x_iald hx hb hE hP (nb34 hN) (aX_34 _) hv dX7_agreeWith_20 ?_
        refine lv_aload_n hx hb dX7_agreeWith_21 rfl (lv_at hl 0 rfl) ?_
        refine x_get hx hb hts hown hE hP fl_X7_15 (nb44 hN) gX_44_1 dX7_agreeWith_22 ?_
        refine lv_iload_n hx hb dX7_agreeWith_25 rfl (lv_at hl 2 rfl) ?_
        obtain ⟨v5, hv, hf⟩ := bs1 hf
        refine x_iald hx hb hE hP (nb46 hN) (aX_46 _) hv dX7_agreeWith_26 ?_
        refine lv_icmp_eq (tgt := 32) hx hb dX7_agreeWith_27 (by decide) (fun hc => ?_) (fun hc => ?_)
        · have hf := ip hc hf
          refine lv_iinc (v := (v1 + 1)) (lv' := [(2, .int (v1 + 1)), (0, .ref (ad 44)), (1, .ref (ad 30))]) hx hb dX7_agreeWith_32 hl (k := 2) rfl (ni_1 _) (by decide) rfl (fun ls hl => ?_)
          refine lv_goto (tgt := 2) hx hb dX7_agreeWith_35 (by decide) ?_
          exact ih _ _ _ _ hf hP hS (lv_sub hl [1, 2, 0] rfl)
        · have hf := iq hc hf
          refine lv_iconst (v := 0) hx hb dX7_agreeWith_30 nc_0 ?_
          cases hf
          exact hret _ _ _ _ dX7_agreeWith_31 (Or.inl rfl) hP hS
  exact hL2 _ _ _ _ _ hf hP hS (lv_sub hl [1, 2, 0] rfl)
def fX8_explains (w : Mm) (x1 x2 : Int32) : Option (Int32 × Mm) :=
  bd1 (wr w 32 8 x1 x2) fun w1 =>
  bd1 (fX4_run w1) fun w2 =>
  bd1 (wr w2 32 8 x1 (-4)) fun w3 =>
  bd1 (fX7_agreeWith w3) fun v4 =>
  bd1 (gb v4) fun _ =>
  some (v4, w3)
set_option maxHeartbeats 4000000 in
set_option maxRecDepth 100000 in
theorem kX8_explains {l : Launch} {κ : Kp} {tl : Nat} {N : Nat} {ad : Nat → Nat} {w : Mm} {x1 x2 : Int32} {r : Int32} {w' : Mm} (hN : 52 ≤ N) (hD : Apt ad N) (hf : fX8_explains w x1 x2 = some (r, w')) : Met l yX8_explains (Cond.code yX8_explains cX8_explains 3 (some .boolean) :: TB) (rmX 5 110) (PcX κ (wX κ tl) N ad w [.ref (ad 16), .int x1, .int x2]) (QI κ (wX κ tl) N ad w' r) 0 0 (Aof ad N) := by
  refine mkZ (by decide +kernel) (Nat.le_of_ble_eq_true rfl) (fun p e R s m args below meth c Q H locs ls hC hRf hRl hP hS hret hl => ?_)
  obtain ⟨hx, hb, hml, hown, hts, hE⟩ := hC
  have hA : ∀ k, k < N → Aof ad N (ad k) := fun k h => Aof_in h
  have hAA : ∀ z, Aof ad N z → Aof ad N z := fun _ h => h
  have hl : lv_has ls 3 [(0, .ref (ad 16)), (1, .int x1), (2, .int x2)] := hl
  unfold fX8_explains at hf
  refine lv_aload_n hx hb dX8_explains_0 rfl (lv_at hl 0 rfl) ?_
  refine x_get hx hb hts hown hE hP fl_X8_43 (nb16 hN) gX_16_5 dX8_explains_1 ?_
  refine x_get hx hb hts hown hE hP fl_X8_275 (nb30 hN) gX_30_1 dX8_explains_4 ?_
  refine lv_iload_n hx hb dX8_explains_7 rfl (lv_at hl 1 rfl) ?_
  refine lv_iload_n hx hb dX8_explains_8 rfl (lv_at hl 2 rfl) ?_
  obtain ⟨w1, hv, hf⟩ := bs1 hf
  refine x_iast hx hb hE hD hA hP hS (nb32 hN) aX_32 hv dX8_explains_9 (fun H locs hP hS => ?_)
  refine lv_aload_n hx hb dX8_explains_10 rfl (lv_at hl 0 rfl) ?_
  refine x_get hx hb hts hown hE hP fl_X8_43 (nb16 hN) gX_16_5 dX8_explains_11 ?_
  obtain ⟨w2, hv, hf⟩ := bs1 hf
  refine x_cVv (As := []) (rest := []) hx hb hml hts hown hE hP hS hAA (kX4_run hN hD hv) cl_X8_184 (nb30 hN) oX_30 vc_4 (Nat.le_trans (by decide) hRf) (Nat.le_trans (by decide) hRl) (Nat.zero_le _) (Nat.zero_le _) rfl hl.1 rfl (Nat.le_of_ble_eq_true rfl) dX8_explains_14 (fun H locs hP hS => ?_)
  refine lv_aload_n hx hb dX8_explains_17 rfl (lv_at hl 0 rfl) ?_
  refine x_get hx hb hts hown hE hP fl_X8_43 (nb16 hN) gX_16_5 dX8_explains_18 ?_
  refine x_get hx hb hts hown hE hP fl_X8_275 (nb30 hN) gX_30_1 dX8_explains_21 ?_
  refine lv_iload_n hx hb dX8_explains_24 rfl (lv_at hl 1 rfl) ?_
  refine lv_bipush (v := (-4)) hx hb dX8_explains_25 nb_m4 ?_
  obtain ⟨w3, hv, hf⟩ := bs1 hf
  refine x_iast hx hb hE hD hA hP hS (nb32 hN) aX_32 hv dX8_explains_27 (fun H locs hP hS => ?_)
  refine lv_aload_n hx hb dX8_explains_28 rfl (lv_at hl 0 rfl) ?_
  refine x_get hx hb hts hown hE hP fl_X8_64 (nb16 hN) gX_16_8 dX8_explains_29 ?_
  refine lv_aload_n hx hb dX8_explains_32 rfl (lv_at hl 0 rfl) ?_
  refine x_get hx hb hts hown hE hP fl_X8_43 (nb16 hN) gX_16_5 dX8_explains_33 ?_
  obtain ⟨v4, hv, hf⟩ := bs1 hf
  refine x_cVi (As := [.ref (ad 30)]) (rest := []) hx hb hml hts hown hE hP hS hAA (kX7_agreeWith hN hD hv) cl_X8_241 (nb44 hN) oX_44 vc_7 (Nat.le_trans (by decide) hRf) (Nat.le_trans (by decide) hRl) (Nat.zero_le _) (Nat.zero_le _) rfl hl.1 rfl (Nat.le_of_ble_eq_true rfl) dX8_explains_36 (fun H locs hP hS => ?_)
  obtain ⟨_, hgb, hf⟩ := bs1 hf
  cases hf
  exact hret _ _ _ _ dX8_explains_39 (gb_some hgb) hP hS
def LX8_rides_52 (v6 : Int32) : Nat → Int32 → Int32 → Int32 → Mm → Option (Mm × Int32 × Int32)
  | 0, _, _, _, _ => none
  | fu + 1, v12, v13, v14, w15 =>
    bd1 (gq (w15 16 3) 17) fun _ =>
    if (w15 17 12) ≤ v14 then
      some (w15, v12, v13)
    else
      bd3 (
        if v6 = v14 then
          some (w15, v12, v13)
        else
          bd1 (gq (w15 16 3) 17) fun _ =>
          bd1 (rd w15 23 8 v6) fun v24 =>
          if v24 = (-4) then
            bd2 (fX8_explains w15 v6 v14) fun v25 w26 =>
            if v25 = 0 then
              some (w26, v12, v13)
            else
              if v13 = (-4) then
                some (w26, (v12 + 1), ((8 * v6) + v14))
              else
                some (w26, (v12 + 1), v13)
          else
            some (w15, v12, v13)) fun (w20 : Mm) (v21 : Int32) (v22 : Int32) =>
      LX8_rides_52 v6 fu v21 v22 (v14 + 1) w20
def LX8_rides_37 : Nat → Int32 → Int32 → Int32 → Mm → Option (Mm × Int32 × Int32)
  | 0, _, _, _, _ => none
  | fu + 1, v4, v5, v6, w7 =>
    bd1 (gq (w7 16 3) 17) fun _ =>
    if (w7 17 12) ≤ v6 then
      some (w7, v4, v5)
    else
      bd3 (LX8_rides_52 v6 1000 v4 v5 0 w7) fun (w17 : Mm) (v18 : Int32) (v19 : Int32) =>
      LX8_rides_37 fu v18 v19 (v6 + 1) w17
def fX8_rides (w : Mm) (x1 : Int32) : Option (Int32 × Mm) :=
  bd1 (fX8_within x1 0 1) fun v1 =>
  if v1 = 0 then
    some ((-1), w)
  else
    bd1 (gq (w 16 3) 17) fun _ =>
    bd1 (fX4_prepare w) fun w2 =>
    bd1 (fX4_unseatAll w2) fun w3 =>
    bd3 (LX8_rides_37 1000 0 (-4) 0 w3) fun (w9 : Mm) (v10 : Int32) (v11 : Int32) =>
    bd1 (fX4_run w9) fun w27 =>
    bd1 (fX7_agreeWith w27) fun v28 =>
    bd2 (
      if v28 = 0 then
        some (v10, v11)
      else
        if v11 = (-4) then
          some ((v10 + 1), 64)
        else
          some ((v10 + 1), v11)) fun (v29 : Int32) (v30 : Int32) =>
    if x1 = 0 then
      some (v29, w27)
    else
      some (v30, w27)
set_option maxHeartbeats 4000000 in
set_option maxRecDepth 100000 in
theorem kX8_rides {l : Launch} {κ : Kp} {tl : Nat} {N : Nat} {ad : Nat → Nat} {w : Mm} {x1 : Int32} {r : Int32} {w' : Mm} (hN : 52 ≤ N) (hD : Apt ad N) (hf : fX8_rides w x1 = some (r, w')) : Met l yX8_rides (Cond.code yX8_rides cX8_rides 6 (some .int) :: TB) (rmX 6 132) (PcX κ (wX κ tl) N ad w [.ref (ad 16), .int x1]) (QI κ (wX κ tl) N ad w' r) 0 0 (Aof ad N) := by
  refine mkI (by decide +kernel) (Nat.le_of_ble_eq_true rfl) (fun p e R s m args below meth c Q H locs ls hC hRf hRl hP hS hret hl => ?_)
  obtain ⟨hx, hb, hml, hown, hts, hE⟩ := hC
  have hA : ∀ k, k < N → Aof ad N (ad k) := fun k h => Aof_in h
  have hAA : ∀ z, Aof ad N z → Aof ad N z := fun _ h => h
  have hl : lv_has ls 6 [(0, .ref (ad 16)), (1, .int x1)] := hl
  unfold fX8_rides at hf
  refine lv_iload_n hx hb dX8_rides_0 rfl (lv_at hl 1 rfl) ?_
  refine lv_iconst (v := 0) hx hb dX8_rides_1 nc_0 ?_
  refine lv_iconst (v := 1) hx hb dX8_rides_2 nc_1 ?_
  obtain ⟨v1, hv, hf⟩ := bs1 hf
  refine x_cSi (As := [.int x1, .int 0, .int 1]) (rest := []) hx hb hml hts hown hE hP hS hAA (kX8_within hv) cl_X8_82 (Nat.le_trans (by decide) hRf) (Nat.le_trans (by decide) hRl) (Nat.zero_le _) (Nat.zero_le _) rfl hl.1 rfl (Nat.le_of_ble_eq_true rfl) dX8_rides_3 (fun H locs hP hS => ?_)
  refine lv_if_ne (tgt := 11) hx hb dX8_rides_6 (by decide) (fun hc => ?_) (fun hc => ?_)
  · have hf := iq hc hf
    refine lv_aload_n hx hb dX8_rides_11 rfl (lv_at hl 0 rfl) ?_
    refine x_get hx hb hts hown hE hP fl_X8_43 (nb16 hN) gX_16_5 dX8_rides_12 ?_
    refine lv_aload_n hx hb dX8_rides_15 rfl (lv_at hl 0 rfl) ?_
    obtain ⟨_, hv, hf⟩ := bs1 hf
    refine x_getr hx hb hts hown hE hP fl_X8_28 (nb16 hN) gX_16_3 hv dX8_rides_16 ?_
    obtain ⟨w2, hv, hf⟩ := bs1 hf
    refine x_cVv (As := [.ref (ad 17)]) (rest := []) hx hb hml hts hown hE hP hS hAA (kX4_prepare hN hD hv) cl_X8_134 (nb30 hN) oX_30 vc_4 (Nat.le_trans (by decide) hRf) (Nat.le_trans (by decide) hRl) (Nat.zero_le _) (Nat.zero_le _) rfl hl.1 rfl (Nat.le_of_ble_eq_true rfl) dX8_rides_19 (fun H locs hP hS => ?_)
    refine lv_aload_n hx hb dX8_rides_22 rfl (lv_at hl 0 rfl) ?_
    refine x_get hx hb hts hown hE hP fl_X8_43 (nb16 hN) gX_16_5 dX8_rides_23 ?_
    obtain ⟨w3, hv, hf⟩ := bs1 hf
    refine x_cVv (As := []) (rest := []) hx hb hml hts hown hE hP hS hAA (kX4_unseatAll hN hD hv) cl_X8_235 (nb30 hN) oX_30 vc_4 (Nat.le_trans (by decide) hRf) (Nat.le_trans (by decide) hRl) (Nat.zero_le _) (Nat.zero_le _) rfl hl.1 rfl (Nat.le_of_ble_eq_true rfl) dX8_rides_26 (fun H locs hP hS => ?_)
    refine lv_iconst (v := 0) hx hb dX8_rides_29 nc_0 ?_
    refine lv_istore_n (lv' := [(2, .int 0), (0, .ref (ad 16)), (1, .int x1)]) hx hb dX8_rides_30 rfl hl (by decide) rfl (fun ls hl => ?_)
    refine lv_bipush (v := (-4)) hx hb dX8_rides_31 nb_m4 ?_
    refine lv_istore_n (lv' := [(3, .int (-4)), (2, .int 0), (0, .ref (ad 16)), (1, .int x1)]) hx hb dX8_rides_33 rfl hl (by decide) rfl (fun ls hl => ?_)
    refine lv_iconst (v := 0) hx hb dX8_rides_34 nc_0 ?_
    refine lv_istore (lv' := [(4, .int 0), (3, .int (-4)), (2, .int 0), (0, .ref (ad 16)), (1, .int x1)]) hx hb dX8_rides_35 hl (by decide) rfl (fun ls hl => ?_)
    obtain ⟨w9, v10, v11, hq8, hf⟩ := bs3 hf
    have hJ8 : ∀ (H : Heap) (locs : List Loc) (ls : Array Slot), Ho κ (wX κ tl) N ad w9 H → va_S (Aof ad N) s.heap H locs → lv_has ls 6 [(0, .ref (ad 16)), (1, .int x1), (2, .int v10), (3, .int v11)] → W p l e R s m args below meth c H locs 0 0 Q (F0 m 127 ls []) := by
      intro H locs ls hP hS hl
      refine lv_aload_n hx hb dX8_rides_127 rfl (lv_at hl 0 rfl) ?_
      refine x_get hx hb hts hown hE hP fl_X8_43 (nb16 hN) gX_16_5 dX8_rides_128 ?_
      obtain ⟨w27, hv, hf⟩ := bs1 hf
      refine x_cVv (As := []) (rest := []) hx hb hml hts hown hE hP hS hAA (kX4_run hN hD hv) cl_X8_184 (nb30 hN) oX_30 vc_4 (Nat.le_trans (by decide) hRf) (Nat.le_trans (by decide) hRl) (Nat.zero_le _) (Nat.zero_le _) rfl hl.1 rfl (Nat.le_of_ble_eq_true rfl) dX8_rides_131 (fun H locs hP hS => ?_)
      refine lv_aload_n hx hb dX8_rides_134 rfl (lv_at hl 0 rfl) ?_
      refine x_get hx hb hts hown hE hP fl_X8_64 (nb16 hN) gX_16_8 dX8_rides_135 ?_
      refine lv_aload_n hx hb dX8_rides_138 rfl (lv_at hl 0 rfl) ?_
      refine x_get hx hb hts hown hE hP fl_X8_43 (nb16 hN) gX_16_5 dX8_rides_139 ?_
      obtain ⟨v28, hv, hf⟩ := bs1 hf
      refine x_cVi (As := [.ref (ad 30)]) (rest := []) hx hb hml hts hown hE hP hS hAA (kX7_agreeWith hN hD hv) cl_X8_241 (nb44 hN) oX_44 vc_7 (Nat.le_trans (by decide) hRf) (Nat.le_trans (by decide) hRl) (Nat.zero_le _) (Nat.zero_le _) rfl hl.1 rfl (Nat.le_of_ble_eq_true rfl) dX8_rides_142 (fun H locs hP hS => ?_)
      obtain ⟨v29, v30, hq31, hf⟩ := bs2 hf
      have hJ31 : ∀ (H : Heap) (locs : List Loc) (ls : Array Slot), Ho κ (wX κ tl) N ad w27 H → va_S (Aof ad N) s.heap H locs → lv_has ls 6 [(1, .int x1), (2, .int v29), (3, .int v30)] → W p l e R s m args below meth c H locs 0 0 Q (F0 m 160 ls []) := by
        intro H locs ls hP hS hl
        refine lv_iload_n hx hb dX8_rides_160 rfl (lv_at hl 0 rfl) ?_
        refine lv_if_ne (tgt := 168) hx hb dX8_rides_161 (by decide) (fun hc => ?_) (fun hc => ?_)
        · have hf := iq hc hf
          refine lv_iload_n hx hb dX8_rides_168 rfl (lv_at hl 2 rfl) ?_
          cases hf
          exact hret _ _ _ _ dX8_rides_169 hP hS
        · have hf := ip hc hf
          refine lv_iload_n hx hb dX8_rides_164 rfl (lv_at hl 1 rfl) ?_
          refine lv_goto (tgt := 169) hx hb dX8_rides_165 (by decide) ?_
          cases hf
          exact hret _ _ _ _ dX8_rides_169 hP hS
      clear hf
      have hf := hq31
      clear hq31
      refine lv_if_eq (tgt := 160) hx hb dX8_rides_145 (by decide) (fun hc => ?_) (fun hc => ?_)
      · have hf := ip hc hf
        cases hf
        exact hJ31 _ _ _ hP hS (lv_sub hl [1, 2, 3] rfl)
      · have hf := iq hc hf
        refine lv_iinc (v := (v10 + 1)) (lv' := [(2, .int (v10 + 1)), (0, .ref (ad 16)), (1, .int x1), (3, .int v11)]) hx hb dX8_rides_148 hl (k := 2) rfl (ni_1 _) (by decide) rfl (fun ls hl => ?_)
        refine lv_iload_n hx hb dX8_rides_151 rfl (lv_at hl 3 rfl) ?_
        refine lv_bipush (v := (-4)) hx hb dX8_rides_152 nb_m4 ?_
        refine lv_icmp_ne (tgt := 160) hx hb dX8_rides_154 (by decide) (fun hc => ?_) (fun hc => ?_)
        · have hf := iq hc hf
          cases hf
          exact hJ31 _ _ _ hP hS (lv_sub hl [2, 0, 3] rfl)
        · have hf := ip hc hf
          refine lv_bipush (v := 64) hx hb dX8_rides_157 nb_64 ?_
          refine lv_istore_n (lv' := [(3, .int 64), (2, .int (v10 + 1)), (0, .ref (ad 16)), (1, .int x1)]) hx hb dX8_rides_159 rfl hl (by decide) rfl (fun ls hl => ?_)
          cases hf
          exact hJ31 _ _ _ hP hS (lv_sub hl [3, 1, 0] rfl)
    clear hf
    have hf := hq8
    clear hq8
    have hL8 : ∀ (fu : Nat) (v4 : Int32) (v5 : Int32) (v6 : Int32) (w7 : Mm) (H : Heap) (locs : List Loc) (ls : Array Slot), LX8_rides_37 fu v4 v5 v6 w7 = some (w9, v10, v11) → Ho κ (wX κ tl) N ad w7 H → va_S (Aof ad N) s.heap H locs → lv_has ls 6 [(0, .ref (ad 16)), (1, .int x1), (2, .int v4), (3, .int v5), (4, .int v6)] → W p l e R s m args below meth c H locs 0 0 Q (F0 m 37 ls []) := by
      intro fu
      induction fu with
      | zero =>
        intro v4 v5 v6 w7 H locs ls hf
        rw [LX8_rides_37] at hf
        cases hf
      | succ fu ih =>
        intro v4 v5 v6 w7 H locs ls hf hP hS hl
        rw [LX8_rides_37] at hf
        refine lv_iload hx hb dX8_rides_37 (lv_at hl 4 rfl) ?_
        refine lv_aload_n hx hb dX8_rides_39 rfl (lv_at hl 0 rfl) ?_
        obtain ⟨_, hv, hf⟩ := bs1 hf
        refine x_getr hx hb hts hown hE hP fl_X8_28 (nb16 hN) gX_16_3 hv dX8_rides_40 ?_
        refine x_get hx hb hts hown hE hP fl_X8_102 (nb17 hN) gX_17_12 dX8_rides_43 ?_
        refine lv_icmp_ge (tgt := 127) hx hb dX8_rides_46 (by decide) (fun hc => ?_) (fun hc => ?_)
        · have hf := ip hc hf
          cases hf
          exact hJ8 _ _ _ hP hS (lv_sub hl [0, 1, 2, 3] rfl)
        · have hf := iq hc hf
          refine lv_iconst (v := 0) hx hb dX8_rides_49 nc_0 ?_
          refine lv_istore (lv' := [(5, .int 0), (0, .ref (ad 16)), (1, .int x1), (2, .int v4), (3, .int v5), (4, .int v6)]) hx hb dX8_rides_50 hl (by decide) rfl (fun ls hl => ?_)
          obtain ⟨w17, v18, v19, hq16, hf⟩ := bs3 hf
          have hJ16 : ∀ (H : Heap) (locs : List Loc) (ls : Array Slot), Ho κ (wX κ tl) N ad w17 H → va_S (Aof ad N) s.heap H locs → lv_has ls 6 [(0, .ref (ad 16)), (1, .int x1), (2, .int v18), (3, .int v19), (4, .int v6)] → W p l e R s m args below meth c H locs 0 0 Q (F0 m 121 ls []) := by
            intro H locs ls hP hS hl
            refine lv_iinc (v := (v6 + 1)) (lv' := [(4, .int (v6 + 1)), (0, .ref (ad 16)), (1, .int x1), (2, .int v18), (3, .int v19)]) hx hb dX8_rides_121 hl (k := 4) rfl (ni_1 _) (by decide) rfl (fun ls hl => ?_)
            refine lv_goto (tgt := 37) hx hb dX8_rides_124 (by decide) ?_
            exact ih _ _ _ _ _ _ _ hf hP hS (lv_sub hl [1, 2, 3, 4, 0] rfl)
          clear hf
          have hf := hq16
          clear hq16
          have hL16 : ∀ (fu : Nat) (v12 : Int32) (v13 : Int32) (v14 : Int32) (w15 : Mm) (H : Heap) (locs : List Loc) (ls : Array Slot), LX8_rides_52 v6 fu v12 v13 v14 w15 = some (w17, v18, v19) → Ho κ (wX κ tl) N ad w15 H → va_S (Aof ad N) s.heap H locs → lv_has ls 6 [(0, .ref (ad 16)), (1, .int x1), (2, .int v12), (3, .int v13), (4, .int v6), (5, .int v14)] → W p l e R s m args below meth c H locs 0 0 Q (F0 m 52 ls []) := by
            intro fu
            induction fu with
            | zero =>
              intro v12 v13 v14 w15 H locs ls hf
              rw [LX8_rides_52] at hf
              cases hf
            | succ fu ih =>
              intro v12 v13 v14 w15 H locs ls hf hP hS hl
              rw [LX8_rides_52] at hf
              refine lv_iload hx hb dX8_rides_52 (lv_at hl 5 rfl) ?_
              refine lv_aload_n hx hb dX8_rides_54 rfl (lv_at hl 0 rfl) ?_
              obtain ⟨_, hv, hf⟩ := bs1 hf
              refine x_getr hx hb hts hown hE hP fl_X8_28 (nb16 hN) gX_16_3 hv dX8_rides_55 ?_
              refine x_get hx hb hts hown hE hP fl_X8_102 (nb17 hN) gX_17_12 dX8_rides_58 ?_
              refine lv_icmp_ge (tgt := 121) hx hb dX8_rides_61 (by decide) (fun hc => ?_) (fun hc => ?_)
              · have hf := ip hc hf
                cases hf
                exact hJ16 _ _ _ hP hS (lv_sub hl [0, 1, 2, 3, 4] rfl)
              · have hf := iq hc hf
                refine lv_iload hx hb dX8_rides_64 (lv_at hl 4 rfl) ?_
                refine lv_iload hx hb dX8_rides_66 (lv_at hl 5 rfl) ?_
                obtain ⟨w20, v21, v22, hq23, hf⟩ := bs3 hf
                have hJ23 : ∀ (H : Heap) (locs : List Loc) (ls : Array Slot), Ho κ (wX κ tl) N ad w20 H → va_S (Aof ad N) s.heap H locs → lv_has ls 6 [(0, .ref (ad 16)), (1, .int x1), (2, .int v21), (3, .int v22), (4, .int v6), (5, .int v14)] → W p l e R s m args below meth c H locs 0 0 Q (F0 m 115 ls []) := by
                  intro H locs ls hP hS hl
                  refine lv_iinc (v := (v14 + 1)) (lv' := [(5, .int (v14 + 1)), (0, .ref (ad 16)), (1, .int x1), (2, .int v21), (3, .int v22), (4, .int v6)]) hx hb dX8_rides_115 hl (k := 5) rfl (ni_1 _) (by decide) rfl (fun ls hl => ?_)
                  refine lv_goto (tgt := 52) hx hb dX8_rides_118 (by decide) ?_
                  exact ih _ _ _ _ _ _ _ hf hP hS (lv_sub hl [1, 2, 3, 4, 5, 0] rfl)
                clear hf
                have hf := hq23
                clear hq23
                refine lv_icmp_eq (tgt := 115) hx hb dX8_rides_68 (by decide) (fun hc => ?_) (fun hc => ?_)
                · have hf := ip hc hf
                  cases hf
                  exact hJ23 _ _ _ hP hS (lv_sub hl [0, 1, 2, 3, 4, 5] rfl)
                · have hf := iq hc hf
                  refine lv_aload_n hx hb dX8_rides_71 rfl (lv_at hl 0 rfl) ?_
                  obtain ⟨_, hv, hf⟩ := bs1 hf
                  refine x_getr hx hb hts hown hE hP fl_X8_28 (nb16 hN) gX_16_3 hv dX8_rides_72 ?_
                  refine x_get hx hb hts hown hE hP fl_X8_125 (nb17 hN) gX_17_5 dX8_rides_75 ?_
                  refine lv_iload hx hb dX8_rides_78 (lv_at hl 4 rfl) ?_
                  obtain ⟨v24, hv, hf⟩ := bs1 hf
                  refine x_iald hx hb hE hP (nb23 hN) (aX_23 _) hv dX8_rides_80 ?_
                  refine lv_bipush (v := (-4)) hx hb dX8_rides_81 nb_m4 ?_
                  refine lv_icmp_ne (tgt := 115) hx hb dX8_rides_83 (by decide) (fun hc => ?_) (fun hc => ?_)
                  · have hf := iq hc hf
                    cases hf
                    exact hJ23 _ _ _ hP hS (lv_sub hl [0, 1, 2, 3, 4, 5] rfl)
                  · have hf := ip hc hf
                    refine lv_aload_n hx hb dX8_rides_86 rfl (lv_at hl 0 rfl) ?_
                    refine lv_iload hx hb dX8_rides_87 (lv_at hl 4 rfl) ?_
                    refine lv_iload hx hb dX8_rides_89 (lv_at hl 5 rfl) ?_
                    obtain ⟨v25, w26, hv, hf⟩ := bs2 hf
                    refine x_cVi (As := [.int v6, .int v14]) (rest := []) hx hb hml hts hown hE hP hS hAA (kX8_explains hN hD hv) cl_X8_238 (nb16 hN) oX_16 vc_8 (Nat.le_trans (by decide) hRf) (Nat.le_trans (by decide) hRl) (Nat.zero_le _) (Nat.zero_le _) rfl hl.1 rfl (Nat.le_of_ble_eq_true rfl) dX8_rides_91 (fun H locs hP hS => ?_)
                    refine lv_if_eq (tgt := 115) hx hb dX8_rides_94 (by decide) (fun hc => ?_) (fun hc => ?_)
                    · have hf := ip hc hf
                      cases hf
                      exact hJ23 _ _ _ hP hS (lv_sub hl [0, 1, 2, 3, 4, 5] rfl)
                    · have hf := iq hc hf
                      refine lv_iinc (v := (v12 + 1)) (lv' := [(2, .int (v12 + 1)), (0, .ref (ad 16)), (1, .int x1), (3, .int v13), (4, .int v6), (5, .int v14)]) hx hb dX8_rides_97 hl (k := 2) rfl (ni_1 _) (by decide) rfl (fun ls hl => ?_)
                      refine lv_iload_n hx hb dX8_rides_100 rfl (lv_at hl 3 rfl) ?_
                      refine lv_bipush (v := (-4)) hx hb dX8_rides_101 nb_m4 ?_
                      refine lv_icmp_ne (tgt := 115) hx hb dX8_rides_103 (by decide) (fun hc => ?_) (fun hc => ?_)
                      · have hf := iq hc hf
                        cases hf
                        exact hJ23 _ _ _ hP hS (lv_sub hl [1, 2, 0, 3, 4, 5] rfl)
                      · have hf := ip hc hf
                        refine lv_bipush (v := 8) hx hb dX8_rides_106 nb_8 ?_
                        refine lv_iload hx hb dX8_rides_108 (lv_at hl 4 rfl) ?_
                        refine lv_imul hx hb dX8_rides_110 ?_
                        refine lv_iload hx hb dX8_rides_111 (lv_at hl 5 rfl) ?_
                        refine lv_iadd hx hb dX8_rides_113 ?_
                        refine lv_istore_n (lv' := [(3, .int ((8 * v6) + v14)), (2, .int (v12 + 1)), (0, .ref (ad 16)), (1, .int x1), (4, .int v6), (5, .int v14)]) hx hb dX8_rides_114 rfl hl (by decide) rfl (fun ls hl => ?_)
                        cases hf
                        exact hJ23 _ _ _ hP hS (lv_sub hl [2, 3, 1, 0, 4, 5] rfl)
          exact hL16 _ _ _ _ _ _ _ _ hf hP hS (lv_sub hl [1, 2, 3, 4, 5, 0] rfl)
    exact hL8 _ _ _ _ _ _ _ _ hf hP hS (lv_sub hl [3, 4, 2, 1, 0] rfl)
  · have hf := ip hc hf
    refine lv_iconst (v := (-1)) hx hb dX8_rides_9 nc_m1 ?_
    cases hf
    exact hret _ _ _ _ dX8_rides_10 hP hS
def LX4_drawFlow_2 (x1 : Int32) : Nat → Int32 → Mm → Option (Mm)
  | 0, _, _ => none
  | fu + 1, v1, w2 =>
    if 200 < v1 then
      some (w2)
    else
      bd1 (wr w2 36 201 v1 (((((((7919 * x1.toInt64) + (6151 * v1.toInt64)) + 1) * (((7919 * x1.toInt64) + (6151 * v1.toInt64)) + 1)) - ((((7919 * x1.toInt64) + (6151 * v1.toInt64)) + 1) * (((7919 * x1.toInt64) + (6151 * v1.toInt64)) + 1)) / 65521 * 65521) - (((((7919 * x1.toInt64) + (6151 * v1.toInt64)) + 1) * (((7919 * x1.toInt64) + (6151 * v1.toInt64)) + 1)) - ((((7919 * x1.toInt64) + (6151 * v1.toInt64)) + 1) * (((7919 * x1.toInt64) + (6151 * v1.toInt64)) + 1)) / 65521 * 65521) / 6 * 6).toInt32)) fun w5 =>
      LX4_drawFlow_2 x1 fu (v1 + 1) w5
def fX4_drawFlow (w : Mm) (x1 : Int32) : Option (Mm) :=
  bd1 (LX4_drawFlow_2 x1 1000 1 w) fun (w4 : Mm) =>
  bd1 (pt w4 30 7 36) fun w6 =>
  some w6
set_option maxHeartbeats 4000000 in
set_option maxRecDepth 100000 in
theorem kX4_drawFlow {l : Launch} {κ : Kp} {tl : Nat} {N : Nat} {ad : Nat → Nat} {w : Mm} {x1 : Int32} {w' : Mm} (hN : 52 ≤ N) (hD : Apt ad N) (hf : fX4_drawFlow w x1 = some w') : Met l yX4_drawFlow (Cond.code yX4_drawFlow cX4_drawFlow 5 none :: TB) (rmX 0 0) (PcX κ (wX κ tl) N ad w [.ref (ad 30), .int x1]) (QV κ (wX κ tl) N ad w') 0 0 (Aof ad N) := by
  refine mkV (by decide +kernel) (Nat.le_of_ble_eq_true rfl) (fun p e R s m args below meth c Q H locs ls hC hRf hRl hP hS hret hl => ?_)
  obtain ⟨hx, hb, hml, hown, hts, hE⟩ := hC
  have hA : ∀ k, k < N → Aof ad N (ad k) := fun k h => Aof_in h
  have hAA : ∀ z, Aof ad N z → Aof ad N z := fun _ h => h
  have hl : lv_has ls 5 [(0, .ref (ad 30)), (1, .int x1)] := hl
  unfold fX4_drawFlow at hf
  refine lv_iconst (v := 1) hx hb dX4_drawFlow_0 nc_1 ?_
  refine lv_istore_n (lv' := [(2, .int 1), (0, .ref (ad 30)), (1, .int x1)]) hx hb dX4_drawFlow_1 rfl hl (by decide) rfl (fun ls hl => ?_)
  obtain ⟨w4, hq3, hf⟩ := bs1 hf
  have hJ3 : ∀ (H : Heap) (locs : List Loc) (ls : Array Slot), Ho κ (wX κ tl) N ad w4 H → va_S (Aof ad N) s.heap H locs → lv_has ls 5 [(0, .ref (ad 30))] → W p l e R s m args below meth c H locs 0 0 Q (F0 m 49 ls []) := by
    intro H locs ls hP hS hl
    refine lv_aload_n hx hb dX4_drawFlow_49 rfl (lv_at hl 0 rfl) ?_
    refine lv_aload_n hx hb dX4_drawFlow_50 rfl (lv_at hl 0 rfl) ?_
    refine x_get hx hb hts hown hE hP fl_X4_27 (nb30 hN) gX_30_5 dX4_drawFlow_51 ?_
    obtain ⟨w6, hv, hf⟩ := bs1 hf
    refine x_put (v := .ref (ad 36)) hx hb hts hown hE hD hA hP hS fp_X4_39 (nb30 hN) pX_30_7 rfl rfl hv dX4_drawFlow_54 (fun H locs hP hS => ?_)
    cases hf
    exact hret _ _ _ _ dX4_drawFlow_57 hP hS
  clear hf
  have hf := hq3
  clear hq3
  have hL3 : ∀ (fu : Nat) (v1 : Int32) (w2 : Mm) (H : Heap) (locs : List Loc) (ls : Array Slot), LX4_drawFlow_2 x1 fu v1 w2 = some (w4) → Ho κ (wX κ tl) N ad w2 H → va_S (Aof ad N) s.heap H locs → lv_has ls 5 [(0, .ref (ad 30)), (1, .int x1), (2, .int v1)] → W p l e R s m args below meth c H locs 0 0 Q (F0 m 2 ls []) := by
    intro fu
    induction fu with
    | zero =>
      intro v1 w2 H locs ls hf
      rw [LX4_drawFlow_2] at hf
      cases hf
    | succ fu ih =>
      intro v1 w2 H locs ls hf hP hS hl
      rw [LX4_drawFlow_2] at hf
      refine lv_iload_n hx hb dX4_drawFlow_2 rfl (lv_at hl 2 rfl) ?_
      refine lv_sipush (v := 200) hx hb dX4_drawFlow_3 ns_200 ?_
      refine lv_icmp_gt (tgt := 49) hx hb dX4_drawFlow_6 (by decide) (fun hc => ?_) (fun hc => ?_)
      · have hf := ip hc hf
        cases hf
        exact hJ3 _ _ _ hP hS (lv_sub hl [0] rfl)
      · have hf := iq hc hf
        refine lv_ldc2 (own := RX4) hx hb hown (hts _ kl_X4_56) dX4_drawFlow_9 ?_
        refine lv_iload_n hx hb dX4_drawFlow_12 rfl (lv_at hl 1 rfl) ?_
        refine lv_i2l hx hb dX4_drawFlow_13 rfl ?_
        refine lv_lmul hx hb dX4_drawFlow_14 ?_
        refine lv_ldc2 (own := RX4) hx hb hown (hts _ kl_X4_58) dX4_drawFlow_15 ?_
        refine lv_iload_n hx hb dX4_drawFlow_18 rfl (lv_at hl 2 rfl) ?_
        refine lv_i2l hx hb dX4_drawFlow_19 rfl ?_
        refine lv_lmul hx hb dX4_drawFlow_20 ?_
        refine lv_ladd hx hb dX4_drawFlow_21 ?_
        refine lv_lconst (v := 1) hx hb dX4_drawFlow_22 rfl ?_
        refine lv_ladd hx hb dX4_drawFlow_23 ?_
        refine lv_lstore_n (lv' := [(3, .long (((7919 * x1.toInt64) + (6151 * v1.toInt64)) + 1)), (0, .ref (ad 30)), (1, .int x1), (2, .int v1)]) hx hb dX4_drawFlow_24 rfl hl (by decide) rfl (fun ls hl => ?_)
        refine lv_aload_n hx hb dX4_drawFlow_25 rfl (lv_at hl 1 rfl) ?_
        refine x_get hx hb hts hown hE hP fl_X4_27 (nb30 hN) gX_30_5 dX4_drawFlow_26 ?_
        refine lv_iload_n hx hb dX4_drawFlow_29 rfl (lv_at hl 3 rfl) ?_
        refine lv_lload_n hx hb dX4_drawFlow_30 rfl (lv_at hl 0 rfl) ?_
        refine lv_lload_n hx hb dX4_drawFlow_31 rfl (lv_at hl 0 rfl) ?_
        refine lv_lmul hx hb dX4_drawFlow_32 ?_
        refine lv_ldc2 (own := RX4) hx hb hown (hts _ kl_X4_60) dX4_drawFlow_33 ?_
        refine lv_lrem hx hb dX4_drawFlow_36 (by decide) ?_
        refine lv_ldc2 (own := RX4) hx hb hown (hts _ kl_X4_62) dX4_drawFlow_37 ?_
        refine lv_lrem hx hb dX4_drawFlow_40 (by decide) ?_
        refine lv_l2i hx hb dX4_drawFlow_41 rfl ?_
        obtain ⟨w5, hv, hf⟩ := bs1 hf
        refine x_iast hx hb hE hD hA hP hS (nb36 hN) aX_36 hv dX4_drawFlow_42 (fun H locs hP hS => ?_)
        refine lv_iinc (v := (v1 + 1)) (lv' := [(2, .int (v1 + 1)), (3, .long (((7919 * x1.toInt64) + (6151 * v1.toInt64)) + 1)), (0, .ref (ad 30)), (1, .int x1)]) hx hb dX4_drawFlow_43 hl (k := 3) rfl (ni_1 _) (by decide) rfl (fun ls hl => ?_)
        refine lv_goto (tgt := 2) hx hb dX4_drawFlow_46 (by decide) ?_
        exact ih _ _ _ _ _ hf hP hS (lv_sub hl [2, 3, 0] rfl)
  exact hL3 _ _ _ _ _ _ hf hP hS (lv_sub hl [1, 2, 0] rfl)
def LX4_lastLanding_4 (w : Mm) : Nat → Int32 → Int32 → Option (Int32)
  | 0, _, _ => none
  | fu + 1, v1, v2 =>
    bd1 (gq (w 30 6) 17) fun _ =>
    if (w 17 12) ≤ v2 then
      some (v1)
    else
      bd1 (rd w 33 8 v2) fun v5 =>
      bd1 (
        if v5 = 201 then
          some (v1)
        else
          bd1 (rd w 33 8 v2) fun v8 =>
          some ((if v1 < v8 then v8 else v1))) fun (v6 : Int32) =>
      LX4_lastLanding_4 w fu v6 (v2 + 1)
def fX4_lastLanding (w : Mm) : Option (Int32) :=
  bd1 (LX4_lastLanding_4 w 1000 0 0) fun (v4 : Int32) =>
  some v4
set_option maxHeartbeats 4000000 in
set_option maxRecDepth 100000 in
theorem kX4_lastLanding {l : Launch} {κ : Kp} {tl : Nat} {N : Nat} {ad : Nat → Nat} {w : Mm} {r : Int32} (hN : 52 ≤ N) (hD : Apt ad N) (hf : fX4_lastLanding w = some r) : Met l yX4_lastLanding (Cond.code yX4_lastLanding cX4_lastLanding 3 (some .int) :: TB) (rmX 1 13) (PcX κ (wX κ tl) N ad w [.ref (ad 30)]) (QI κ (wX κ tl) N ad w r) 0 0 (Aof ad N) := by
  refine mkI (by decide +kernel) (Nat.le_of_ble_eq_true rfl) (fun p e R s m args below meth c Q H locs ls hC hRf hRl hP hS hret hl => ?_)
  obtain ⟨hx, hb, hml, hown, hts, hE⟩ := hC
  have hA : ∀ k, k < N → Aof ad N (ad k) := fun k h => Aof_in h
  have hAA : ∀ z, Aof ad N z → Aof ad N z := fun _ h => h
  have hl : lv_has ls 3 [(0, .ref (ad 30))] := hl
  unfold fX4_lastLanding at hf
  refine lv_iconst (v := 0) hx hb dX4_lastLanding_0 nc_0 ?_
  refine lv_istore_n (lv' := [(1, .int 0), (0, .ref (ad 30))]) hx hb dX4_lastLanding_1 rfl hl (by decide) rfl (fun ls hl => ?_)
  refine lv_iconst (v := 0) hx hb dX4_lastLanding_2 nc_0 ?_
  refine lv_istore_n (lv' := [(2, .int 0), (1, .int 0), (0, .ref (ad 30))]) hx hb dX4_lastLanding_3 rfl hl (by decide) rfl (fun ls hl => ?_)
  obtain ⟨v4, hq3, hf⟩ := bs1 hf
  have hJ3 : ∀ (H : Heap) (locs : List Loc) (ls : Array Slot), Ho κ (wX κ tl) N ad w H → va_S (Aof ad N) s.heap H locs → lv_has ls 3 [(1, .int v4)] → W p l e R s m args below meth c H locs 0 0 Q (F0 m 44 ls []) := by
    intro H locs ls hP hS hl
    refine lv_iload_n hx hb dX4_lastLanding_44 rfl (lv_at hl 0 rfl) ?_
    cases hf
    exact hret _ _ _ _ dX4_lastLanding_45 hP hS
  clear hf
  have hf := hq3
  clear hq3
  have hL3 : ∀ (fu : Nat) (v1 : Int32) (v2 : Int32) (H : Heap) (locs : List Loc) (ls : Array Slot), LX4_lastLanding_4 w fu v1 v2 = some (v4) → Ho κ (wX κ tl) N ad w H → va_S (Aof ad N) s.heap H locs → lv_has ls 3 [(0, .ref (ad 30)), (1, .int v1), (2, .int v2)] → W p l e R s m args below meth c H locs 0 0 Q (F0 m 4 ls []) := by
    intro fu
    induction fu with
    | zero =>
      intro v1 v2 H locs ls hf
      rw [LX4_lastLanding_4] at hf
      cases hf
    | succ fu ih =>
      intro v1 v2 H locs ls hf hP hS hl
      rw [LX4_lastLanding_4] at hf
      refine lv_iload_n hx hb dX4_lastLanding_4 rfl (lv_at hl 2 rfl) ?_
      refine lv_aload_n hx hb dX4_lastLanding_5 rfl (lv_at hl 0 rfl) ?_
      obtain ⟨_, hv, hf⟩ := bs1 hf
      refine x_getr hx hb hts hown hE hP fl_X4_30 (nb30 hN) gX_30_6 hv dX4_lastLanding_6 ?_
      refine x_get hx hb hts hown hE hP fl_X4_64 (nb17 hN) gX_17_12 dX4_lastLanding_9 ?_
      refine lv_icmp_ge (tgt := 44) hx hb dX4_lastLanding_12 (by decide) (fun hc => ?_) (fun hc => ?_)
      · have hf := ip hc hf
        cases hf
        exact hJ3 _ _ _ hP hS (lv_sub hl [1] rfl)
      · have hf := iq hc hf
        refine lv_aload_n hx hb dX4_lastLanding_15 rfl (lv_at hl 0 rfl) ?_
        refine x_get hx hb hts hown hE hP fl_X4_18 (nb30 hN) gX_30_2 dX4_lastLanding_16 ?_
        refine lv_iload_n hx hb dX4_lastLanding_19 rfl (lv_at hl 2 rfl) ?_
        obtain ⟨v5, hv, hf⟩ := bs1 hf
        refine x_iald hx hb hE hP (nb33 hN) (aX_33 _) hv dX4_lastLanding_20 ?_
        refine lv_sipush (v := 201) hx hb dX4_lastLanding_21 ns_201 ?_
        obtain ⟨v6, hq7, hf⟩ := bs1 hf
        have hJ7 : ∀ (H : Heap) (locs : List Loc) (ls : Array Slot), Ho κ (wX κ tl) N ad w H → va_S (Aof ad N) s.heap H locs → lv_has ls 3 [(0, .ref (ad 30)), (1, .int v6), (2, .int v2)] → W p l e R s m args below meth c H locs 0 0 Q (F0 m 38 ls []) := by
          intro H locs ls hP hS hl
          refine lv_iinc (v := (v2 + 1)) (lv' := [(2, .int (v2 + 1)), (0, .ref (ad 30)), (1, .int v6)]) hx hb dX4_lastLanding_38 hl (k := 2) rfl (ni_1 _) (by decide) rfl (fun ls hl => ?_)
          refine lv_goto (tgt := 4) hx hb dX4_lastLanding_41 (by decide) ?_
          exact ih _ _ _ _ _ hf hP hS (lv_sub hl [1, 2, 0] rfl)
        clear hf
        have hf := hq7
        clear hq7
        refine lv_icmp_eq (tgt := 38) hx hb dX4_lastLanding_24 (by decide) (fun hc => ?_) (fun hc => ?_)
        · have hf := ip hc hf
          cases hf
          exact hJ7 _ _ _ hP hS (lv_sub hl [0, 1, 2] rfl)
        · have hf := iq hc hf
          refine lv_iload_n hx hb dX4_lastLanding_27 rfl (lv_at hl 1 rfl) ?_
          refine lv_aload_n hx hb dX4_lastLanding_28 rfl (lv_at hl 0 rfl) ?_
          refine x_get hx hb hts hown hE hP fl_X4_18 (nb30 hN) gX_30_2 dX4_lastLanding_29 ?_
          refine lv_iload_n hx hb dX4_lastLanding_32 rfl (lv_at hl 2 rfl) ?_
          obtain ⟨v8, hv, hf⟩ := bs1 hf
          refine x_iald hx hb hE hP (nb33 hN) (aX_33 _) hv dX4_lastLanding_33 ?_
          refine x_max hx hb (hml.trans hl.1.symm) hts hown lm_X4_117 (Nat.le_trans (by decide) hRf) (Nat.le_trans (Nat.le_of_ble_eq_true rfl) hRl) (Nat.zero_le _) (Nat.zero_le _) dX4_lastLanding_34 ?_
          refine lv_istore_n (lv' := [(1, .int (if v1 < v8 then v8 else v1)), (0, .ref (ad 30)), (2, .int v2)]) hx hb dX4_lastLanding_37 rfl hl (by decide) rfl (fun ls hl => ?_)
          cases hf
          exact hJ7 _ _ _ hP hS (lv_sub hl [1, 0, 2] rfl)
  exact hL3 _ _ _ _ _ _ hf hP hS (lv_sub hl [2, 1, 0] rfl)
def fX8_river (w : Mm) (x1 x2 : Int32) : Option (Int32 × Mm) :=
  bd1 (fX8_within x1 0 9999) fun v1 =>
  if v1 = 0 then
    some ((-1), w)
  else
    bd1 (fX8_within x2 0 1) fun v2 =>
    if v2 = 0 then
      some ((-1), w)
    else
      bd1 (gq (w 16 3) 17) fun _ =>
      bd1 (fX4_prepare w) fun w3 =>
      bd1 (fX4_drawFlow w3 x1) fun w4 =>
      bd1 (fX4_run w4) fun w5 =>
      if x2 = 0 then
        bd1 (rd w5 35 8 0) fun v7 =>
        some (v7, w5)
      else
        bd1 (fX4_lastLanding w5) fun v6 =>
        some (v6, w5)
set_option maxHeartbeats 4000000 in
set_option maxRecDepth 100000 in
theorem kX8_river {l : Launch} {κ : Kp} {tl : Nat} {N : Nat} {ad : Nat → Nat} {w : Mm} {x1 x2 : Int32} {r : Int32} {w' : Mm} (hN : 52 ≤ N) (hD : Apt ad N) (hf : fX8_river w x1 x2 = some (r, w')) : Met l yX8_river (Cond.code yX8_river cX8_river 3 (some .int) :: TB) (rmX 5 110) (PcX κ (wX κ tl) N ad w [.ref (ad 16), .int x1, .int x2]) (QI κ (wX κ tl) N ad w' r) 0 0 (Aof ad N) := by
  refine mkI (by decide +kernel) (Nat.le_of_ble_eq_true rfl) (fun p e R s m args below meth c Q H locs ls hC hRf hRl hP hS hret hl => ?_)
  obtain ⟨hx, hb, hml, hown, hts, hE⟩ := hC
  have hA : ∀ k, k < N → Aof ad N (ad k) := fun k h => Aof_in h
  have hAA : ∀ z, Aof ad N z → Aof ad N z := fun _ h => h
  have hl : lv_has ls 3 [(0, .ref (ad 16)), (1, .int x1), (2, .int x2)] := hl
  unfold fX8_river at hf
  refine lv_iload_n hx hb dX8_river_0 rfl (lv_at hl 1 rfl) ?_
  refine lv_iconst (v := 0) hx hb dX8_river_1 nc_0 ?_
  refine lv_sipush (v := 9999) hx hb dX8_river_2 ns_9999 ?_
  obtain ⟨v1, hv, hf⟩ := bs1 hf
  refine x_cSi (As := [.int x1, .int 0, .int 9999]) (rest := []) hx hb hml hts hown hE hP hS hAA (kX8_within hv) cl_X8_82 (Nat.le_trans (by decide) hRf) (Nat.le_trans (by decide) hRl) (Nat.zero_le _) (Nat.zero_le _) rfl hl.1 rfl (Nat.le_of_ble_eq_true rfl) dX8_river_5 (fun H locs hP hS => ?_)
  refine lv_if_eq (tgt := 20) hx hb dX8_river_8 (by decide) (fun hc => ?_) (fun hc => ?_)
  · have hf := ip hc hf
    refine lv_iconst (v := (-1)) hx hb dX8_river_20 nc_m1 ?_
    cases hf
    exact hret _ _ _ _ dX8_river_21 hP hS
  · have hf := iq hc hf
    refine lv_iload_n hx hb dX8_river_11 rfl (lv_at hl 2 rfl) ?_
    refine lv_iconst (v := 0) hx hb dX8_river_12 nc_0 ?_
    refine lv_iconst (v := 1) hx hb dX8_river_13 nc_1 ?_
    obtain ⟨v2, hv, hf⟩ := bs1 hf
    refine x_cSi (As := [.int x2, .int 0, .int 1]) (rest := []) hx hb hml hts hown hE hP hS hAA (kX8_within hv) cl_X8_82 (Nat.le_trans (by decide) hRf) (Nat.le_trans (by decide) hRl) (Nat.zero_le _) (Nat.zero_le _) rfl hl.1 rfl (Nat.le_of_ble_eq_true rfl) dX8_river_14 (fun H locs hP hS => ?_)
    refine lv_if_ne (tgt := 22) hx hb dX8_river_17 (by decide) (fun hc => ?_) (fun hc => ?_)
    · have hf := iq hc hf
      refine lv_aload_n hx hb dX8_river_22 rfl (lv_at hl 0 rfl) ?_
      refine x_get hx hb hts hown hE hP fl_X8_43 (nb16 hN) gX_16_5 dX8_river_23 ?_
      refine lv_aload_n hx hb dX8_river_26 rfl (lv_at hl 0 rfl) ?_
      obtain ⟨_, hv, hf⟩ := bs1 hf
      refine x_getr hx hb hts hown hE hP fl_X8_28 (nb16 hN) gX_16_3 hv dX8_river_27 ?_
      obtain ⟨w3, hv, hf⟩ := bs1 hf
      refine x_cVv (As := [.ref (ad 17)]) (rest := []) hx hb hml hts hown hE hP hS hAA (kX4_prepare hN hD hv) cl_X8_134 (nb30 hN) oX_30 vc_4 (Nat.le_trans (by decide) hRf) (Nat.le_trans (by decide) hRl) (Nat.zero_le _) (Nat.zero_le _) rfl hl.1 rfl (Nat.le_of_ble_eq_true rfl) dX8_river_30 (fun H locs hP hS => ?_)
      refine lv_aload_n hx hb dX8_river_33 rfl (lv_at hl 0 rfl) ?_
      refine x_get hx hb hts hown hE hP fl_X8_43 (nb16 hN) gX_16_5 dX8_river_34 ?_
      refine lv_iload_n hx hb dX8_river_37 rfl (lv_at hl 1 rfl) ?_
      obtain ⟨w4, hv, hf⟩ := bs1 hf
      refine x_cVv (As := [.int x1]) (rest := []) hx hb hml hts hown hE hP hS hAA (kX4_drawFlow hN hD hv) cl_X8_245 (nb30 hN) oX_30 vc_4 (Nat.le_trans (by decide) hRf) (Nat.le_trans (by decide) hRl) (Nat.zero_le _) (Nat.zero_le _) rfl hl.1 rfl (Nat.le_of_ble_eq_true rfl) dX8_river_38 (fun H locs hP hS => ?_)
      refine lv_aload_n hx hb dX8_river_41 rfl (lv_at hl 0 rfl) ?_
      refine x_get hx hb hts hown hE hP fl_X8_43 (nb16 hN) gX_16_5 dX8_river_42 ?_
      obtain ⟨w5, hv, hf⟩ := bs1 hf
      refine x_cVv (As := []) (rest := []) hx hb hml hts hown hE hP hS hAA (kX4_run hN hD hv) cl_X8_184 (nb30 hN) oX_30 vc_4 (Nat.le_trans (by decide) hRf) (Nat.le_trans (by decide) hRl) (Nat.zero_le _) (Nat.zero_le _) rfl hl.1 rfl (Nat.le_of_ble_eq_true rfl) dX8_river_45 (fun H locs hP hS => ?_)
      refine lv_iload_n hx hb dX8_river_48 rfl (lv_at hl 2 rfl) ?_
      refine lv_if_ne (tgt := 64) hx hb dX8_river_49 (by decide) (fun hc => ?_) (fun hc => ?_)
      · have hf := iq hc hf
        refine lv_aload_n hx hb dX8_river_64 rfl (lv_at hl 0 rfl) ?_
        refine x_get hx hb hts hown hE hP fl_X8_43 (nb16 hN) gX_16_5 dX8_river_65 ?_
        obtain ⟨v6, hv, hf⟩ := bs1 hf
        refine x_cVi (As := []) (rest := []) hx hb hml hts hown hE hP hS hAA (kX4_lastLanding hN hD hv) cl_X8_248 (nb30 hN) oX_30 vc_4 (Nat.le_trans (by decide) hRf) (Nat.le_trans (by decide) hRl) (Nat.zero_le _) (Nat.zero_le _) rfl hl.1 rfl (Nat.le_of_ble_eq_true rfl) dX8_river_68 (fun H locs hP hS => ?_)
        cases hf
        exact hret _ _ _ _ dX8_river_71 hP hS
      · have hf := ip hc hf
        refine lv_aload_n hx hb dX8_river_52 rfl (lv_at hl 0 rfl) ?_
        refine x_get hx hb hts hown hE hP fl_X8_43 (nb16 hN) gX_16_5 dX8_river_53 ?_
        refine x_get hx hb hts hown hE hP fl_X8_163 (nb30 hN) gX_30_4 dX8_river_56 ?_
        refine lv_iconst (v := 0) hx hb dX8_river_59 nc_0 ?_
        obtain ⟨v7, hv, hf⟩ := bs1 hf
        refine x_iald hx hb hE hP (nb35 hN) (aX_35 _) hv dX8_river_60 ?_
        refine lv_goto (tgt := 71) hx hb dX8_river_61 (by decide) ?_
        cases hf
        exact hret _ _ _ _ dX8_river_71 hP hS
    · have hf := ip hc hf
      refine lv_iconst (v := (-1)) hx hb dX8_river_20 nc_m1 ?_
      cases hf
      exact hret _ _ _ _ dX8_river_21 hP hS
def fX3_push (w : Mm) : Option (Int32 × Mm) :=
  if (w 41 2) < 2 then
    bd1 (cy w 21 8 0 42 16 ((w 41 2) * 8) 8) fun w1 =>
    bd1 (cy w1 22 8 0 43 16 ((w1 41 2) * 8) 8) fun w2 =>
    bd1 (pt w2 41 2 ((w2 41 2) + 1)) fun w3 =>
    some (1, w3)
  else
    some (0, w)
set_option maxHeartbeats 4000000 in
set_option maxRecDepth 100000 in
theorem kX3_push {l : Launch} {κ : Kp} {tl : Nat} {N : Nat} {ad : Nat → Nat} {w : Mm} {r : Int32} {w' : Mm} (hN : 52 ≤ N) (hD : Apt ad N) (hf : fX3_push w = some (r, w')) : Met l yX3_push (Cond.code yX3_push cX3_push 2 (some .boolean) :: TB) (rmX 1 60) (PcX κ (wX κ tl) N ad w [.ref (ad 41), .ref (ad 17)]) (QI κ (wX κ tl) N ad w' r) 0 0 (Aof ad N) := by
  refine mkZ (by decide +kernel) (Nat.le_of_ble_eq_true rfl) (fun p e R s m args below meth c Q H locs ls hC hRf hRl hP hS hret hl => ?_)
  obtain ⟨hx, hb, hml, hown, hts, hE⟩ := hC
  have hA : ∀ k, k < N → Aof ad N (ad k) := fun k h => Aof_in h
  have hAA : ∀ z, Aof ad N z → Aof ad N z := fun _ h => h
  have hl : lv_has ls 2 [(0, .ref (ad 41)), (1, .ref (ad 17))] := hl
  unfold fX3_push at hf
  refine lv_aload_n hx hb dX3_push_0 rfl (lv_at hl 0 rfl) ?_
  refine x_get hx hb hts hown hE hP fl_X3_18 (nb41 hN) gX_41_2 dX3_push_1 ?_
  refine lv_iconst (v := 2) hx hb dX3_push_4 nc_2 ?_
  refine lv_icmp_lt (tgt := 10) hx hb dX3_push_5 (by decide) (fun hc => ?_) (fun hc => ?_)
  · have hf := ip hc hf
    refine lv_aload_n hx hb dX3_push_10 rfl (lv_at hl 1 rfl) ?_
    refine x_get hx hb hts hown hE hP fl_X3_22 (nb17 hN) gX_17_3 dX3_push_11 ?_
    refine lv_iconst (v := 0) hx hb dX3_push_14 nc_0 ?_
    refine lv_aload_n hx hb dX3_push_15 rfl (lv_at hl 0 rfl) ?_
    refine x_get hx hb hts hown hE hP fl_X3_9 (nb41 hN) gX_41_0 dX3_push_16 ?_
    refine lv_aload_n hx hb dX3_push_19 rfl (lv_at hl 0 rfl) ?_
    refine x_get hx hb hts hown hE hP fl_X3_18 (nb41 hN) gX_41_2 dX3_push_20 ?_
    refine lv_bipush (v := 8) hx hb dX3_push_23 nb_8 ?_
    refine lv_imul hx hb dX3_push_25 ?_
    refine lv_bipush (v := 8) hx hb dX3_push_26 nb_8 ?_
    obtain ⟨w1, hv, hf⟩ := bs1 hf
    refine x_copy hx hb (hml.trans hl.1.symm) hts hown hE hD hA hP hS lc_X3_25 (nb21 hN) (nb42 hN) aX_21 aX_42 hv (Nat.le_trans (by decide) hRf) (Nat.le_trans (Nat.le_of_ble_eq_true (by decide +kernel)) hRl) dX3_push_28 (fun H locs hP hS => ?_)
    refine lv_aload_n hx hb dX3_push_31 rfl (lv_at hl 1 rfl) ?_
    refine x_get hx hb hts hown hE hP fl_X3_31 (nb17 hN) gX_17_4 dX3_push_32 ?_
    refine lv_iconst (v := 0) hx hb dX3_push_35 nc_0 ?_
    refine lv_aload_n hx hb dX3_push_36 rfl (lv_at hl 0 rfl) ?_
    refine x_get hx hb hts hown hE hP fl_X3_15 (nb41 hN) gX_41_1 dX3_push_37 ?_
    refine lv_aload_n hx hb dX3_push_40 rfl (lv_at hl 0 rfl) ?_
    refine x_get hx hb hts hown hE hP fl_X3_18 (nb41 hN) gX_41_2 dX3_push_41 ?_
    refine lv_bipush (v := 8) hx hb dX3_push_44 nb_8 ?_
    refine lv_imul hx hb dX3_push_46 ?_
    refine lv_bipush (v := 8) hx hb dX3_push_47 nb_8 ?_
    obtain ⟨w2, hv, hf⟩ := bs1 hf
    refine x_copy hx hb (hml.trans hl.1.symm) hts hown hE hD hA hP hS lc_X3_25 (nb22 hN) (nb43 hN) aX_22 aX_43 hv (Nat.le_trans (by decide) hRf) (Nat.le_trans (Nat.le_of_ble_eq_true (by decide +kernel)) hRl) dX3_push_49 (fun H locs hP hS => ?_)
    refine lv_aload_n hx hb dX3_push_52 rfl (lv_at hl 0 rfl) ?_
    refine lv_dup hx hb dX3_push_53 rfl ?_
    refine x_get hx hb hts hown hE hP fl_X3_18 (nb41 hN) gX_41_2 dX3_push_54 ?_
    refine lv_iconst (v := 1) hx hb dX3_push_57 nc_1 ?_
    refine lv_iadd hx hb dX3_push_58 ?_
    obtain ⟨w3, hv, hf⟩ := bs1 hf
    refine x_put hx hb hts hown hE hD hA hP hS fp_X3_18 (nb41 hN) pX_41_2 rfl rfl hv dX3_push_59 (fun H locs hP hS => ?_)
    refine lv_iconst (v := 1) hx hb dX3_push_62 nc_1 ?_
    cases hf
    exact hret _ _ _ _ dX3_push_63 (Or.inr rfl) hP hS
  · have hf := iq hc hf
    refine lv_iconst (v := 0) hx hb dX3_push_8 nc_0 ?_
    cases hf
    exact hret _ _ _ _ dX3_push_9 (Or.inl rfl) hP hS
def fX8_keep (w : Mm) : Option (Int32 × Mm) :=
  bd1 (gq (w 16 3) 17) fun _ =>
  bd2 (fX3_push w) fun v1 w2 =>
  if v1 = 0 then
    some ((-3), w2)
  else
    some ((w2 41 2), w2)
set_option maxHeartbeats 4000000 in
set_option maxRecDepth 100000 in
theorem kX8_keep {l : Launch} {κ : Kp} {tl : Nat} {N : Nat} {ad : Nat → Nat} {w : Mm} {r : Int32} {w' : Mm} (hN : 52 ≤ N) (hD : Apt ad N) (hf : fX8_keep w = some (r, w')) : Met l yX8_keep (Cond.code yX8_keep cX8_keep 1 (some .int) :: TB) (rmX 2 81) (PcX κ (wX κ tl) N ad w [.ref (ad 16)]) (QI κ (wX κ tl) N ad w' r) 0 0 (Aof ad N) := by
  refine mkI (by decide +kernel) (Nat.le_of_ble_eq_true rfl) (fun p e R s m args below meth c Q H locs ls hC hRf hRl hP hS hret hl => ?_)
  obtain ⟨hx, hb, hml, hown, hts, hE⟩ := hC
  have hA : ∀ k, k < N → Aof ad N (ad k) := fun k h => Aof_in h
  have hAA : ∀ z, Aof ad N z → Aof ad N z := fun _ h => h
  have hl : lv_has ls 1 [(0, .ref (ad 16))] := hl
  unfold fX8_keep at hf
  refine lv_aload_n hx hb dX8_keep_0 rfl (lv_at hl 0 rfl) ?_
  refine x_get hx hb hts hown hE hP fl_X8_57 (nb16 hN) gX_16_7 dX8_keep_1 ?_
  refine lv_aload_n hx hb dX8_keep_4 rfl (lv_at hl 0 rfl) ?_
  obtain ⟨_, hv, hf⟩ := bs1 hf
  refine x_getr hx hb hts hown hE hP fl_X8_28 (nb16 hN) gX_16_3 hv dX8_keep_5 ?_
  obtain ⟨v1, w2, hv, hf⟩ := bs2 hf
  refine x_cVi (As := [.ref (ad 17)]) (rest := []) hx hb hml hts hown hE hP hS hAA (kX3_push hN hD hv) cl_X8_251 (nb41 hN) oX_41 vc_3 (Nat.le_trans (by decide) hRf) (Nat.le_trans (by decide) hRl) (Nat.zero_le _) (Nat.zero_le _) rfl hl.1 rfl (Nat.le_of_ble_eq_true rfl) dX8_keep_8 (fun H locs hP hS => ?_)
  refine lv_if_eq (tgt := 24) hx hb dX8_keep_11 (by decide) (fun hc => ?_) (fun hc => ?_)
  · have hf := ip hc hf
    refine lv_bipush (v := (-3)) hx hb dX8_keep_24 nb_m3 ?_
    cases hf
    exact hret _ _ _ _ dX8_keep_26 hP hS
  · have hf := iq hc hf
    refine lv_aload_n hx hb dX8_keep_14 rfl (lv_at hl 0 rfl) ?_
    refine x_get hx hb hts hown hE hP fl_X8_57 (nb16 hN) gX_16_7 dX8_keep_15 ?_
    refine x_get hx hb hts hown hE hP fl_X8_254 (nb41 hN) gX_41_2 dX8_keep_18 ?_
    refine lv_goto (tgt := 26) hx hb dX8_keep_21 (by decide) ?_
    cases hf
    exact hret _ _ _ _ dX8_keep_26 hP hS
def fX3_pop (w : Mm) : Option (Int32 × Mm) :=
  if 1 ≤ (w 41 2) then
    bd1 (pt w 41 2 ((w 41 2) - 1)) fun w1 =>
    bd1 (cy w1 42 16 ((w1 41 2) * 8) 21 8 0 8) fun w2 =>
    bd1 (cy w2 43 16 ((w2 41 2) * 8) 22 8 0 8) fun w3 =>
    some (1, w3)
  else
    some (0, w)
set_option maxHeartbeats 4000000 in
set_option maxRecDepth 100000 in
theorem kX3_pop {l : Launch} {κ : Kp} {tl : Nat} {N : Nat} {ad : Nat → Nat} {w : Mm} {r : Int32} {w' : Mm} (hN : 52 ≤ N) (hD : Apt ad N) (hf : fX3_pop w = some (r, w')) : Met l yX3_pop (Cond.code yX3_pop cX3_pop 2 (some .boolean) :: TB) (rmX 1 60) (PcX κ (wX κ tl) N ad w [.ref (ad 41), .ref (ad 17)]) (QI κ (wX κ tl) N ad w' r) 0 0 (Aof ad N) := by
  refine mkZ (by decide +kernel) (Nat.le_of_ble_eq_true rfl) (fun p e R s m args below meth c Q H locs ls hC hRf hRl hP hS hret hl => ?_)
  obtain ⟨hx, hb, hml, hown, hts, hE⟩ := hC
  have hA : ∀ k, k < N → Aof ad N (ad k) := fun k h => Aof_in h
  have hAA : ∀ z, Aof ad N z → Aof ad N z := fun _ h => h
  have hl : lv_has ls 2 [(0, .ref (ad 41)), (1, .ref (ad 17))] := hl
  unfold fX3_pop at hf
  refine lv_aload_n hx hb dX3_pop_0 rfl (lv_at hl 0 rfl) ?_
  refine x_get hx hb hts hown hE hP fl_X3_18 (nb41 hN) gX_41_2 dX3_pop_1 ?_
  refine lv_iconst (v := 1) hx hb dX3_pop_4 nc_1 ?_
  refine lv_icmp_ge (tgt := 10) hx hb dX3_pop_5 (by decide) (fun hc => ?_) (fun hc => ?_)
  · have hf := ip hc hf
    refine lv_aload_n hx hb dX3_pop_10 rfl (lv_at hl 0 rfl) ?_
    refine lv_dup hx hb dX3_pop_11 rfl ?_
    refine x_get hx hb hts hown hE hP fl_X3_18 (nb41 hN) gX_41_2 dX3_pop_12 ?_
    refine lv_iconst (v := 1) hx hb dX3_pop_15 nc_1 ?_
    refine lv_isub hx hb dX3_pop_16 ?_
    obtain ⟨w1, hv, hf⟩ := bs1 hf
    refine x_put hx hb hts hown hE hD hA hP hS fp_X3_18 (nb41 hN) pX_41_2 rfl rfl hv dX3_pop_17 (fun H locs hP hS => ?_)
    refine lv_aload_n hx hb dX3_pop_20 rfl (lv_at hl 0 rfl) ?_
    refine x_get hx hb hts hown hE hP fl_X3_9 (nb41 hN) gX_41_0 dX3_pop_21 ?_
    refine lv_aload_n hx hb dX3_pop_24 rfl (lv_at hl 0 rfl) ?_
    refine x_get hx hb hts hown hE hP fl_X3_18 (nb41 hN) gX_41_2 dX3_pop_25 ?_
    refine lv_bipush (v := 8) hx hb dX3_pop_28 nb_8 ?_
    refine lv_imul hx hb dX3_pop_30 ?_
    refine lv_aload_n hx hb dX3_pop_31 rfl (lv_at hl 1 rfl) ?_
    refine x_get hx hb hts hown hE hP fl_X3_22 (nb17 hN) gX_17_3 dX3_pop_32 ?_
    refine lv_iconst (v := 0) hx hb dX3_pop_35 nc_0 ?_
    refine lv_bipush (v := 8) hx hb dX3_pop_36 nb_8 ?_
    obtain ⟨w2, hv, hf⟩ := bs1 hf
    refine x_copy hx hb (hml.trans hl.1.symm) hts hown hE hD hA hP hS lc_X3_25 (nb42 hN) (nb21 hN) aX_42 aX_21 hv (Nat.le_trans (by decide) hRf) (Nat.le_trans (Nat.le_of_ble_eq_true (by decide +kernel)) hRl) dX3_pop_38 (fun H locs hP hS => ?_)
    refine lv_aload_n hx hb dX3_pop_41 rfl (lv_at hl 0 rfl) ?_
    refine x_get hx hb hts hown hE hP fl_X3_15 (nb41 hN) gX_41_1 dX3_pop_42 ?_
    refine lv_aload_n hx hb dX3_pop_45 rfl (lv_at hl 0 rfl) ?_
    refine x_get hx hb hts hown hE hP fl_X3_18 (nb41 hN) gX_41_2 dX3_pop_46 ?_
    refine lv_bipush (v := 8) hx hb dX3_pop_49 nb_8 ?_
    refine lv_imul hx hb dX3_pop_51 ?_
    refine lv_aload_n hx hb dX3_pop_52 rfl (lv_at hl 1 rfl) ?_
    refine x_get hx hb hts hown hE hP fl_X3_31 (nb17 hN) gX_17_4 dX3_pop_53 ?_
    refine lv_iconst (v := 0) hx hb dX3_pop_56 nc_0 ?_
    refine lv_bipush (v := 8) hx hb dX3_pop_57 nb_8 ?_
    obtain ⟨w3, hv, hf⟩ := bs1 hf
    refine x_copy hx hb (hml.trans hl.1.symm) hts hown hE hD hA hP hS lc_X3_25 (nb43 hN) (nb22 hN) aX_43 aX_22 hv (Nat.le_trans (by decide) hRf) (Nat.le_trans (Nat.le_of_ble_eq_true (by decide +kernel)) hRl) dX3_pop_59 (fun H locs hP hS => ?_)
    refine lv_iconst (v := 1) hx hb dX3_pop_62 nc_1 ?_
    cases hf
    exact hret _ _ _ _ dX3_pop_63 (Or.inr rfl) hP hS
  · have hf := iq hc hf
    refine lv_iconst (v := 0) hx hb dX3_pop_8 nc_0 ?_
    cases hf
    exact hret _ _ _ _ dX3_pop_9 (Or.inl rfl) hP hS
def fX8_restore (w : Mm) : Option (Int32 × Mm) :=
  bd1 (gq (w 16 3) 17) fun _ =>
  bd2 (fX3_pop w) fun v1 w2 =>
  if v1 = 0 then
    some ((-2), w2)
  else
    bd1 (fX1_clear w2) fun w3 =>
    some ((w3 41 2), w3)
set_option maxHeartbeats 4000000 in
set_option maxRecDepth 100000 in
theorem kX8_restore {l : Launch} {κ : Kp} {tl : Nat} {N : Nat} {ad : Nat → Nat} {w : Mm} {r : Int32} {w' : Mm} (hN : 52 ≤ N) (hD : Apt ad N) (hf : fX8_restore w = some (r, w')) : Met l yX8_restore (Cond.code yX8_restore cX8_restore 1 (some .int) :: TB) (rmX 2 81) (PcX κ (wX κ tl) N ad w [.ref (ad 16)]) (QI κ (wX κ tl) N ad w' r) 0 0 (Aof ad N) := by
  refine mkI (by decide +kernel) (Nat.le_of_ble_eq_true rfl) (fun p e R s m args below meth c Q H locs ls hC hRf hRl hP hS hret hl => ?_)
  obtain ⟨hx, hb, hml, hown, hts, hE⟩ := hC
  have hA : ∀ k, k < N → Aof ad N (ad k) := fun k h => Aof_in h
  have hAA : ∀ z, Aof ad N z → Aof ad N z := fun _ h => h
  have hl : lv_has ls 1 [(0, .ref (ad 16))] := hl
  unfold fX8_restore at hf
  refine lv_aload_n hx hb dX8_restore_0 rfl (lv_at hl 0 rfl) ?_
  refine x_get hx hb hts hown hE hP fl_X8_57 (nb16 hN) gX_16_7 dX8_restore_1 ?_
  refine lv_aload_n hx hb dX8_restore_4 rfl (lv_at hl 0 rfl) ?_
  obtain ⟨_, hv, hf⟩ := bs1 hf
  refine x_getr hx hb hts hown hE hP fl_X8_28 (nb16 hN) gX_16_3 hv dX8_restore_5 ?_
  obtain ⟨v1, w2, hv, hf⟩ := bs2 hf
  refine x_cVi (As := [.ref (ad 17)]) (rest := []) hx hb hml hts hown hE hP hS hAA (kX3_pop hN hD hv) cl_X8_255 (nb41 hN) oX_41 vc_3 (Nat.le_trans (by decide) hRf) (Nat.le_trans (by decide) hRl) (Nat.zero_le _) (Nat.zero_le _) rfl hl.1 rfl (Nat.le_of_ble_eq_true rfl) dX8_restore_8 (fun H locs hP hS => ?_)
  refine lv_if_ne (tgt := 17) hx hb dX8_restore_11 (by decide) (fun hc => ?_) (fun hc => ?_)
  · have hf := iq hc hf
    refine lv_aload_n hx hb dX8_restore_17 rfl (lv_at hl 0 rfl) ?_
    refine x_get hx hb hts hown hE hP fl_X8_50 (nb16 hN) gX_16_6 dX8_restore_18 ?_
    obtain ⟨w3, hv, hf⟩ := bs1 hf
    refine x_cVv (As := []) (rest := []) hx hb hml hts hown hE hP hS hAA (kX1_clear hN hD hv) cl_X8_97 (nb37 hN) oX_37 vc_1 (Nat.le_trans (by decide) hRf) (Nat.le_trans (by decide) hRl) (Nat.zero_le _) (Nat.zero_le _) rfl hl.1 rfl (Nat.le_of_ble_eq_true rfl) dX8_restore_21 (fun H locs hP hS => ?_)
    refine lv_aload_n hx hb dX8_restore_24 rfl (lv_at hl 0 rfl) ?_
    refine x_get hx hb hts hown hE hP fl_X8_57 (nb16 hN) gX_16_7 dX8_restore_25 ?_
    refine x_get hx hb hts hown hE hP fl_X8_254 (nb41 hN) gX_41_2 dX8_restore_28 ?_
    cases hf
    exact hret _ _ _ _ dX8_restore_31 hP hS
  · have hf := ip hc hf
    refine lv_bipush (v := (-2)) hx hb dX8_restore_14 nb_m2 ?_
    cases hf
    exact hret _ _ _ _ dX8_restore_16 hP hS
def LX6_riders_l_4 (w : Mm) : Nat → Int32 → Int32 → Option (Int32)
  | 0, _, _ => none
  | fu + 1, v1, v2 =>
    if (w 17 12) ≤ v2 then
      some (v1)
    else
      bd1 (rd w 22 8 v2) fun v5 =>
      bd1 (
        if v5 = (-4) then
          some (0)
        else
          some (1)) fun (v6 : Int32) =>
      LX6_riders_l_4 w fu (v1 + v6) (v2 + 1)
def fX6_riders_l (w : Mm) : Option (Int32) :=
  bd1 (LX6_riders_l_4 w 1000 0 0) fun (v4 : Int32) =>
  some v4
set_option maxHeartbeats 4000000 in
set_option maxRecDepth 100000 in
theorem kX6_riders_l {l : Launch} {κ : Kp} {tl : Nat} {N : Nat} {ad : Nat → Nat} {w : Mm} {r : Int32} (hN : 52 ≤ N) (hD : Apt ad N) (hf : fX6_riders_l w = some r) : Met l yX6_riders (Cond.code yX6_riders cX6_riders 3 (some .int) :: TB) (rmX 0 0) (PcX κ (wX κ tl) N ad w [.ref (ad 17)]) (QI κ (wX κ tl) N ad w r) 0 0 (Aof ad N) := by
  refine mkI (by decide +kernel) (Nat.le_of_ble_eq_true rfl) (fun p e R s m args below meth c Q H locs ls hC hRf hRl hP hS hret hl => ?_)
  obtain ⟨hx, hb, hml, hown, hts, hE⟩ := hC
  have hA : ∀ k, k < N → Aof ad N (ad k) := fun k h => Aof_in h
  have hAA : ∀ z, Aof ad N z → Aof ad N z := fun _ h => h
  have hl : lv_has ls 3 [(0, .ref (ad 17))] := hl
  unfold fX6_riders_l at hf
  refine lv_iconst (v := 0) hx hb dX6_riders_0 nc_0 ?_
  refine lv_istore_n (lv' := [(1, .int 0), (0, .ref (ad 17))]) hx hb dX6_riders_1 rfl hl (by decide) rfl (fun ls hl => ?_)
  refine lv_iconst (v := 0) hx hb dX6_riders_2 nc_0 ?_
  refine lv_istore_n (lv' := [(2, .int 0), (1, .int 0), (0, .ref (ad 17))]) hx hb dX6_riders_3 rfl hl (by decide) rfl (fun ls hl => ?_)
  obtain ⟨v4, hq3, hf⟩ := bs1 hf
  have hJ3 : ∀ (H : Heap) (locs : List Loc) (ls : Array Slot), Ho κ (wX κ tl) N ad w H → va_S (Aof ad N) s.heap H locs → lv_has ls 3 [(1, .int v4)] → W p l e R s m args below meth c H locs 0 0 Q (F0 m 37 ls []) := by
    intro H locs ls hP hS hl
    refine lv_iload_n hx hb dX6_riders_37 rfl (lv_at hl 0 rfl) ?_
    cases hf
    exact hret _ _ _ _ dX6_riders_38 hP hS
  clear hf
  have hf := hq3
  clear hq3
  have hL3 : ∀ (fu : Nat) (v1 : Int32) (v2 : Int32) (H : Heap) (locs : List Loc) (ls : Array Slot), LX6_riders_l_4 w fu v1 v2 = some (v4) → Ho κ (wX κ tl) N ad w H → va_S (Aof ad N) s.heap H locs → lv_has ls 3 [(0, .ref (ad 17)), (1, .int v1), (2, .int v2)] → W p l e R s m args below meth c H locs 0 0 Q (F0 m 4 ls []) := by
    intro fu
    induction fu with
    | zero =>
      intro v1 v2 H locs ls hf
      rw [LX6_riders_l_4] at hf
      cases hf
    | succ fu ih =>
      intro v1 v2 H locs ls hf hP hS hl
      rw [LX6_riders_l_4] at hf
      refine lv_iload_n hx hb dX6_riders_4 rfl (lv_at hl 2 rfl) ?_
      refine lv_aload_n hx hb dX6_riders_5 rfl (lv_at hl 0 rfl) ?_
      refine x_get hx hb hts hown hE hP fl_X6_48 (nb17 hN) gX_17_12 dX6_riders_6 ?_
      refine lv_icmp_ge (tgt := 37) hx hb dX6_riders_9 (by decide) (fun hc => ?_) (fun hc => ?_)
      · have hf := ip hc hf
        cases hf
        exact hJ3 _ _ _ hP hS (lv_sub hl [1] rfl)
      · have hf := iq hc hf
        refine lv_iload_n hx hb dX6_riders_12 rfl (lv_at hl 1 rfl) ?_
        refine lv_aload_n hx hb dX6_riders_13 rfl (lv_at hl 0 rfl) ?_
        refine x_get hx hb hts hown hE hP fl_X6_24 (nb17 hN) gX_17_4 dX6_riders_14 ?_
        refine lv_iload_n hx hb dX6_riders_17 rfl (lv_at hl 2 rfl) ?_
        obtain ⟨v5, hv, hf⟩ := bs1 hf
        refine x_iald hx hb hE hP (nb22 hN) (aX_22 _) hv dX6_riders_18 ?_
        refine lv_bipush (v := (-4)) hx hb dX6_riders_19 nb_m4 ?_
        obtain ⟨v6, hq7, hf⟩ := bs1 hf
        have hJ7 : ∀ (H : Heap) (locs : List Loc) (ls : Array Slot), Ho κ (wX κ tl) N ad w H → va_S (Aof ad N) s.heap H locs → lv_has ls 3 [(0, .ref (ad 17)), (2, .int v2)] → W p l e R s m args below meth c H locs 0 0 Q (F0 m 29 ls [.int v6, .int v1]) := by
          intro H locs ls hP hS hl
          refine lv_iadd hx hb dX6_riders_29 ?_
          refine lv_istore_n (lv' := [(1, .int (v1 + v6)), (0, .ref (ad 17)), (2, .int v2)]) hx hb dX6_riders_30 rfl hl (by decide) rfl (fun ls hl => ?_)
          refine lv_iinc (v := (v2 + 1)) (lv' := [(2, .int (v2 + 1)), (1, .int (v1 + v6)), (0, .ref (ad 17))]) hx hb dX6_riders_31 hl (k := 2) rfl (ni_1 _) (by decide) rfl (fun ls hl => ?_)
          refine lv_goto (tgt := 4) hx hb dX6_riders_34 (by decide) ?_
          exact ih _ _ _ _ _ hf hP hS (lv_sub hl [2, 1, 0] rfl)
        clear hf
        have hf := hq7
        clear hq7
        refine lv_icmp_ne (tgt := 28) hx hb dX6_riders_21 (by decide) (fun hc => ?_) (fun hc => ?_)
        · have hf := iq hc hf
          refine lv_iconst (v := 1) hx hb dX6_riders_28 nc_1 ?_
          cases hf
          exact hJ7 _ _ _ hP hS (lv_sub hl [0, 2] rfl)
        · have hf := ip hc hf
          refine lv_iconst (v := 0) hx hb dX6_riders_24 nc_0 ?_
          refine lv_goto (tgt := 29) hx hb dX6_riders_25 (by decide) ?_
          cases hf
          exact hJ7 _ _ _ hP hS (lv_sub hl [0, 2] rfl)
  exact hL3 _ _ _ _ _ _ hf hP hS (lv_sub hl [2, 1, 0] rfl)
def fX8_count (w : Mm) (x1 : Int32) : Option (Int32) :=
  if x1 = 0 then
    bd1 (gq (w 16 3) 17) fun _ =>
    some (w 17 12)
  else
  if x1 = 1 then
    bd1 (gq (w 16 3) 17) fun _ =>
    some (w 17 13)
  else
  if x1 = 2 then
    bd1 (gq (w 16 3) 17) fun _ =>
    some (w 17 14)
  else
  if x1 = 3 then
    bd1 (gq (w 16 3) 17) fun _ =>
    some (w 17 15)
  else
  if x1 = 4 then
    bd1 (gq (w 16 3) 17) fun _ =>
    bd1 (fX6_riders_l w) fun v2 =>
    some v2
  else
  if x1 = 5 then
    some (w 44 2)
  else
  if x1 = 6 then
    some (w 37 3)
  else
  if x1 = 7 then
    some (w 41 2)
  else
  if x1 = 8 then
    some (w 16 1)
  else
  some (-1)
set_option maxHeartbeats 4000000 in
set_option maxRecDepth 100000 in
theorem kX8_count {l : Launch} {κ : Kp} {tl : Nat} {N : Nat} {ad : Nat → Nat} {w : Mm} {x1 : Int32} {r : Int32} (hN : 52 ≤ N) (hD : Apt ad N) (hf : fX8_count w x1 = some r) : Met l yX8_count (Cond.code yX8_count cX8_count 2 (some .int) :: TB) (rmX 1 22) (PcX κ (wX κ tl) N ad w [.ref (ad 16), .int x1]) (QI κ (wX κ tl) N ad w r) 0 0 (Aof ad N) := by
  refine mkI (by decide +kernel) (Nat.le_of_ble_eq_true rfl) (fun p e R s m args below meth c Q H locs ls hC hRf hRl hP hS hret hl => ?_)
  obtain ⟨hx, hb, hml, hown, hts, hE⟩ := hC
  have hA : ∀ k, k < N → Aof ad N (ad k) := fun k h => Aof_in h
  have hAA : ∀ z, Aof ad N z → Aof ad N z := fun _ h => h
  have hl : lv_has ls 2 [(0, .ref (ad 16)), (1, .int x1)] := hl
  unfold fX8_count at hf
  refine lv_iload_n hx hb dX8_count_0 rfl (lv_at hl 1 rfl) ?_
  by_cases hk0 : x1 = 0
  · have hf := ip hk0 hf
    refine lv_tableIn (off := 51) (tgt := 52) hx hb dX8_count_1 (by rw [hk0]; decide) (by rw [hk0]; decide) (by rw [hk0]; rfl) (by decide) ?_
    refine lv_aload_n hx hb dX8_count_52 rfl (lv_at hl 0 rfl) ?_
    obtain ⟨_, hv, hf⟩ := bs1 hf
    refine x_getr hx hb hts hown hE hP fl_X8_28 (nb16 hN) gX_16_3 hv dX8_count_53 ?_
    refine x_get hx hb hts hown hE hP fl_X8_102 (nb17 hN) gX_17_12 dX8_count_56 ?_
    cases hf
    exact hret _ _ _ _ dX8_count_59 hP hS
  · have hf := iq hk0 hf
    by_cases hk1 : x1 = 1
    · have hf := ip hk1 hf
      refine lv_tableIn (off := 59) (tgt := 60) hx hb dX8_count_1 (by rw [hk1]; decide) (by rw [hk1]; decide) (by rw [hk1]; rfl) (by decide) ?_
      refine lv_aload_n hx hb dX8_count_60 rfl (lv_at hl 0 rfl) ?_
      obtain ⟨_, hv, hf⟩ := bs1 hf
      refine x_getr hx hb hts hown hE hP fl_X8_28 (nb16 hN) gX_16_3 hv dX8_count_61 ?_
      refine x_get hx hb hts hown hE hP fl_X8_148 (nb17 hN) gX_17_13 dX8_count_64 ?_
      cases hf
      exact hret _ _ _ _ dX8_count_67 hP hS
    · have hf := iq hk1 hf
      by_cases hk2 : x1 = 2
      · have hf := ip hk2 hf
        refine lv_tableIn (off := 67) (tgt := 68) hx hb dX8_count_1 (by rw [hk2]; decide) (by rw [hk2]; decide) (by rw [hk2]; rfl) (by decide) ?_
        refine lv_aload_n hx hb dX8_count_68 rfl (lv_at hl 0 rfl) ?_
        obtain ⟨_, hv, hf⟩ := bs1 hf
        refine x_getr hx hb hts hown hE hP fl_X8_28 (nb16 hN) gX_16_3 hv dX8_count_69 ?_
        refine x_get hx hb hts hown hE hP fl_X8_258 (nb17 hN) gX_17_14 dX8_count_72 ?_
        cases hf
        exact hret _ _ _ _ dX8_count_75 hP hS
      · have hf := iq hk2 hf
        by_cases hk3 : x1 = 3
        · have hf := ip hk3 hf
          refine lv_tableIn (off := 75) (tgt := 76) hx hb dX8_count_1 (by rw [hk3]; decide) (by rw [hk3]; decide) (by rw [hk3]; rfl) (by decide) ?_
          refine lv_aload_n hx hb dX8_count_76 rfl (lv_at hl 0 rfl) ?_
          obtain ⟨_, hv, hf⟩ := bs1 hf
          refine x_getr hx hb hts hown hE hP fl_X8_28 (nb16 hN) gX_16_3 hv dX8_count_77 ?_
          refine x_get hx hb hts hown hE hP fl_X8_261 (nb17 hN) gX_17_15 dX8_count_80 ?_
          cases hf
          exact hret _ _ _ _ dX8_count_83 hP hS
        · have hf := iq hk3 hf
          by_cases hk4 : x1 = 4
          · have hf := ip hk4 hf
            refine lv_tableIn (off := 83) (tgt := 84) hx hb dX8_count_1 (by rw [hk4]; decide) (by rw [hk4]; decide) (by rw [hk4]; rfl) (by decide) ?_
            refine lv_aload_n hx hb dX8_count_84 rfl (lv_at hl 0 rfl) ?_
            obtain ⟨_, hv, hf⟩ := bs1 hf
            refine x_getr hx hb hts hown hE hP fl_X8_28 (nb16 hN) gX_16_3 hv dX8_count_85 ?_
            obtain ⟨v2, hv, hf⟩ := bs1 hf
            refine x_cVi (As := []) (rest := []) hx hb hml hts hown hE hP hS hAA (kX6_riders_l hN hD hv) cl_X8_264 (nb17 hN) oX_17 vc_6 (Nat.le_trans (by decide) hRf) (Nat.le_trans (by decide) hRl) (Nat.zero_le _) (Nat.zero_le _) rfl hl.1 rfl (Nat.le_of_ble_eq_true rfl) dX8_count_88 (fun H locs hP hS => ?_)
            cases hf
            exact hret _ _ _ _ dX8_count_91 hP hS
          · have hf := iq hk4 hf
            by_cases hk5 : x1 = 5
            · have hf := ip hk5 hf
              refine lv_tableIn (off := 91) (tgt := 92) hx hb dX8_count_1 (by rw [hk5]; decide) (by rw [hk5]; decide) (by rw [hk5]; rfl) (by decide) ?_
              refine lv_aload_n hx hb dX8_count_92 rfl (lv_at hl 0 rfl) ?_
              refine x_get hx hb hts hown hE hP fl_X8_64 (nb16 hN) gX_16_8 dX8_count_93 ?_
              refine x_get hx hb hts hown hE hP fl_X8_234 (nb44 hN) gX_44_2 dX8_count_96 ?_
              cases hf
              exact hret _ _ _ _ dX8_count_99 hP hS
            · have hf := iq hk5 hf
              by_cases hk6 : x1 = 6
              · have hf := ip hk6 hf
                refine lv_tableIn (off := 99) (tgt := 100) hx hb dX8_count_1 (by rw [hk6]; decide) (by rw [hk6]; decide) (by rw [hk6]; rfl) (by decide) ?_
                refine lv_aload_n hx hb dX8_count_100 rfl (lv_at hl 0 rfl) ?_
                refine x_get hx hb hts hown hE hP fl_X8_50 (nb16 hN) gX_16_6 dX8_count_101 ?_
                refine x_get hx hb hts hown hE hP fl_X8_180 (nb37 hN) gX_37_3 dX8_count_104 ?_
                cases hf
                exact hret _ _ _ _ dX8_count_107 hP hS
              · have hf := iq hk6 hf
                by_cases hk7 : x1 = 7
                · have hf := ip hk7 hf
                  refine lv_tableIn (off := 107) (tgt := 108) hx hb dX8_count_1 (by rw [hk7]; decide) (by rw [hk7]; decide) (by rw [hk7]; rfl) (by decide) ?_
                  refine lv_aload_n hx hb dX8_count_108 rfl (lv_at hl 0 rfl) ?_
                  refine x_get hx hb hts hown hE hP fl_X8_57 (nb16 hN) gX_16_7 dX8_count_109 ?_
                  refine x_get hx hb hts hown hE hP fl_X8_254 (nb41 hN) gX_41_2 dX8_count_112 ?_
                  cases hf
                  exact hret _ _ _ _ dX8_count_115 hP hS
                · have hf := iq hk7 hf
                  by_cases hk8 : x1 = 8
                  · have hf := ip hk8 hf
                    refine lv_tableIn (off := 115) (tgt := 116) hx hb dX8_count_1 (by rw [hk8]; decide) (by rw [hk8]; decide) (by rw [hk8]; rfl) (by decide) ?_
                    refine lv_aload_n hx hb dX8_count_116 rfl (lv_at hl 0 rfl) ?_
                    refine x_get hx hb hts hown hE hP fl_X8_13 (nb16 hN) gX_16_1 dX8_count_117 ?_
                    cases hf
                    exact hret _ _ _ _ dX8_count_120 hP hS
                  · have hf := iq hk8 hf
                    have hD0 : W p l e R s m args below meth c H locs 0 0 Q (F0 m 121 ls []) := by
                      refine lv_iconst (v := (-1)) hx hb dX8_count_121 nc_m1 ?_
                      cases hf
                      exact hret _ _ _ _ dX8_count_122 hP hS
                    by_cases ho : (x1).toInt < 0 ∨ 8 < (x1).toInt
                    · exact lv_tableOut (tgt := 121) hx hb dX8_count_1 ho (by decide) hD0
                    · exfalso
                      have hn0 := lv_neT (a := 0) hk0 (by decide)
                      have hn1 := lv_neT (a := 1) hk1 (by decide)
                      have hn2 := lv_neT (a := 2) hk2 (by decide)
                      have hn3 := lv_neT (a := 3) hk3 (by decide)
                      have hn4 := lv_neT (a := 4) hk4 (by decide)
                      have hn5 := lv_neT (a := 5) hk5 (by decide)
                      have hn6 := lv_neT (a := 6) hk6 (by decide)
                      have hn7 := lv_neT (a := 7) hk7 (by decide)
                      have hn8 := lv_neT (a := 8) hk8 (by decide)
                      omega
