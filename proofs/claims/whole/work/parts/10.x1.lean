def fX8_within (x0 x1 x2 : Int32) : Option (Int32) :=
  if x0 < x1 then
    some 0
  else
    if x2 < x0 then
      some 0
    else
      some 1
set_option maxHeartbeats 4000000 in
set_option maxRecDepth 100000 in
theorem kX8_within {l : Launch} {κ : Kp} {cf : cfT} {N : Nat} {ad : Nat → Nat} {σ : Mm} {x0 x1 x2 : Int32} {r : Int32} (hf : fX8_within x0 x1 x2 = some r) : Met l yX8_within (Cond.code yX8_within cX8_within 3 (some .boolean) :: TB) (rmX 0 0) (PcX κ cf N ad σ [.int x0, .int x1, .int x2]) (QI κ cf N ad σ r) 0 0 (Aof ad N) := by
  refine mkZ (by decide +kernel) (Nat.le_of_ble_eq_true rfl) (fun p e R s m args below meth c Q H locs ls hC hRf hRl hP hS hret hl => ?_)
  obtain ⟨hx, hb, hml, hown, hts, hE⟩ := hC
  have hAA : ∀ z, Aof ad N z → Aof ad N z := fun _ h => h
  have hl : lv_has ls 3 [(0, .int x0), (1, .int x1), (2, .int x2)] := hl
  unfold fX8_within at hf
  refine lv_iload_n hx hb dX8_within_0 rfl (lv_at hl 0 rfl) ?_
  refine lv_iload_n hx hb dX8_within_1 rfl (lv_at hl 1 rfl) ?_
  refine lv_icmp_lt (tgt := 14) hx hb dX8_within_2 (by decide) (fun hc => ?_) (fun hc => ?_)
  · have hf := ip hc hf
    refine lv_iconst (v := 0) hx hb dX8_within_14 nc_0 ?_
    cases hf
    exact hret _ _ _ _ dX8_within_15 (Or.inl rfl) hP hS
  · have hf := iq hc hf
    refine lv_iload_n hx hb dX8_within_5 rfl (lv_at hl 0 rfl) ?_
    refine lv_iload_n hx hb dX8_within_6 rfl (lv_at hl 2 rfl) ?_
    refine lv_icmp_gt (tgt := 14) hx hb dX8_within_7 (by decide) (fun hc => ?_) (fun hc => ?_)
    · have hf := ip hc hf
      refine lv_iconst (v := 0) hx hb dX8_within_14 nc_0 ?_
      cases hf
      exact hret _ _ _ _ dX8_within_15 (Or.inl rfl) hP hS
    · have hf := iq hc hf
      refine lv_iconst (v := 1) hx hb dX8_within_10 nc_1 ?_
      refine lv_goto (tgt := 15) hx hb dX8_within_11 (by decide) ?_
      cases hf
      exact hret _ _ _ _ dX8_within_15 (Or.inr rfl) hP hS
def fX8_write (tl : Nat) (w : Mm) (x1 : Int32) : Option (Int32 × Mm) :=
  bd1 (fX8_within x1 32 126) fun v1 =>
  if v1 = 0 then
    some ((-1), w)
  else
    if (w 16 1) < 0 then
      some ((-3), w)
    else
      if (w 16 1) < 200 then
        bd1 (wr w 0 tl (w 16 1) ((x1.toUInt32 % 65536).toInt32)) fun w2 =>
        bd1 (pt w2 16 1 ((w2 16 1) + 1)) fun w3 =>
        some ((w3 16 1), w3)
      else
        some ((-3), w)
set_option maxHeartbeats 4000000 in
set_option maxRecDepth 100000 in
theorem kX8_write {l : Launch} {κ : Kp} {tl : Nat} {N : Nat} {ad : Nat → Nat} {w : Mm} {x1 : Int32} {r : Int32} {w' : Mm} (hN : 52 ≤ N) (hD : Apt ad N) (hf : fX8_write tl w x1 = some (r, w')) : Met l yX8_write (Cond.code yX8_write cX8_write 2 (some .int) :: TB) (rmX 1 22) (PcX κ (wX κ tl) N ad w [.ref (ad 16), .int x1]) (QI κ (wX κ tl) N ad w' r) 0 0 (Aof ad N) := by
  refine mkI (by decide +kernel) (Nat.le_of_ble_eq_true rfl) (fun p e R s m args below meth c Q H locs ls hC hRf hRl hP hS hret hl => ?_)
  obtain ⟨hx, hb, hml, hown, hts, hE⟩ := hC
  have hA : ∀ k, k < N → Aof ad N (ad k) := fun k h => Aof_in h
  have hAA : ∀ z, Aof ad N z → Aof ad N z := fun _ h => h
  have hl : lv_has ls 2 [(0, .ref (ad 16)), (1, .int x1)] := hl
  unfold fX8_write at hf
  refine lv_iload_n hx hb dX8_write_0 rfl (lv_at hl 1 rfl) ?_
  refine lv_bipush (v := 32) hx hb dX8_write_1 nb_32 ?_
  refine lv_bipush (v := 126) hx hb dX8_write_3 nb_126 ?_
  obtain ⟨v1, hv, hf⟩ := bs1 hf
  refine x_cSi (As := [.int x1, .int 32, .int 126]) (rest := []) hx hb hml hts hown hE hP hS hAA (kX8_within hv) cl_X8_82 (Nat.le_trans (by decide) hRf) (Nat.le_trans (by decide) hRl) (Nat.zero_le _) (Nat.zero_le _) rfl hl.1 rfl (Nat.le_of_ble_eq_true rfl) dX8_write_5 (fun H locs hP hS => ?_)
  refine lv_if_ne (tgt := 13) hx hb dX8_write_8 (by decide) (fun hc => ?_) (fun hc => ?_)
  · have hf := iq hc hf
    refine lv_aload_n hx hb dX8_write_13 rfl (lv_at hl 0 rfl) ?_
    refine x_get hx hb hts hown hE hP fl_X8_13 (nb16 hN) gX_16_1 dX8_write_14 ?_
    refine lv_if_lt (tgt := 30) hx hb dX8_write_17 (by decide) (fun hc => ?_) (fun hc => ?_)
    · have hf := ip hc hf
      refine lv_bipush (v := (-3)) hx hb dX8_write_30 nb_m3 ?_
      cases hf
      exact hret _ _ _ _ dX8_write_32 hP hS
    · have hf := iq hc hf
      refine lv_aload_n hx hb dX8_write_20 rfl (lv_at hl 0 rfl) ?_
      refine x_get hx hb hts hown hE hP fl_X8_13 (nb16 hN) gX_16_1 dX8_write_21 ?_
      refine lv_sipush (v := 200) hx hb dX8_write_24 ns_200 ?_
      refine lv_icmp_lt (tgt := 33) hx hb dX8_write_27 (by decide) (fun hc => ?_) (fun hc => ?_)
      · have hf := ip hc hf
        refine lv_aload_n hx hb dX8_write_33 rfl (lv_at hl 0 rfl) ?_
        refine x_get hx hb hts hown hE hP fl_X8_9 (nb16 hN) gX_16_0 dX8_write_34 ?_
        refine lv_aload_n hx hb dX8_write_37 rfl (lv_at hl 0 rfl) ?_
        refine x_get hx hb hts hown hE hP fl_X8_13 (nb16 hN) gX_16_1 dX8_write_38 ?_
        refine lv_iload_n hx hb dX8_write_41 rfl (lv_at hl 1 rfl) ?_
        refine lv_i2c hx hb dX8_write_42 rfl ?_
        obtain ⟨w2, hv, hf⟩ := bs1 hf
        refine x_cast hx hb hE hD hA hP hS (nb0 hN) aX_0 (pk_vc _) hv dX8_write_43 (fun H locs hP hS => ?_)
        refine lv_aload_n hx hb dX8_write_44 rfl (lv_at hl 0 rfl) ?_
        refine lv_dup hx hb dX8_write_45 rfl ?_
        refine x_get hx hb hts hown hE hP fl_X8_13 (nb16 hN) gX_16_1 dX8_write_46 ?_
        refine lv_iconst (v := 1) hx hb dX8_write_49 nc_1 ?_
        refine lv_iadd hx hb dX8_write_50 ?_
        obtain ⟨w3, hv, hf⟩ := bs1 hf
        refine x_put hx hb hts hown hE hD hA hP hS fp_X8_13 (nb16 hN) pX_16_1 rfl rfl hv dX8_write_51 (fun H locs hP hS => ?_)
        refine lv_aload_n hx hb dX8_write_54 rfl (lv_at hl 0 rfl) ?_
        refine x_get hx hb hts hown hE hP fl_X8_13 (nb16 hN) gX_16_1 dX8_write_55 ?_
        cases hf
        exact hret _ _ _ _ dX8_write_58 hP hS
      · have hf := iq hc hf
        refine lv_bipush (v := (-3)) hx hb dX8_write_30 nb_m3 ?_
        cases hf
        exact hret _ _ _ _ dX8_write_32 hP hS
  · have hf := ip hc hf
    refine lv_iconst (v := (-1)) hx hb dX8_write_11 nc_m1 ?_
    cases hf
    exact hret _ _ _ _ dX8_write_12 hP hS
def fX8_wipe (w : Mm) : Option (Int32 × Mm) :=
  bd1 (pt w 16 1 0) fun w1 =>
  some ((w 16 1), w1)
set_option maxHeartbeats 4000000 in
set_option maxRecDepth 100000 in
theorem kX8_wipe {l : Launch} {κ : Kp} {tl : Nat} {N : Nat} {ad : Nat → Nat} {w : Mm} {r : Int32} {w' : Mm} (hN : 52 ≤ N) (hD : Apt ad N) (hf : fX8_wipe w = some (r, w')) : Met l yX8_wipe (Cond.code yX8_wipe cX8_wipe 2 (some .int) :: TB) (rmX 0 0) (PcX κ (wX κ tl) N ad w [.ref (ad 16)]) (QI κ (wX κ tl) N ad w' r) 0 0 (Aof ad N) := by
  refine mkI (by decide +kernel) (Nat.le_of_ble_eq_true rfl) (fun p e R s m args below meth c Q H locs ls hC hRf hRl hP hS hret hl => ?_)
  obtain ⟨hx, hb, hml, hown, hts, hE⟩ := hC
  have hA : ∀ k, k < N → Aof ad N (ad k) := fun k h => Aof_in h
  have hAA : ∀ z, Aof ad N z → Aof ad N z := fun _ h => h
  have hl : lv_has ls 2 [(0, .ref (ad 16))] := hl
  unfold fX8_wipe at hf
  refine lv_aload_n hx hb dX8_wipe_0 rfl (lv_at hl 0 rfl) ?_
  refine x_get hx hb hts hown hE hP fl_X8_13 (nb16 hN) gX_16_1 dX8_wipe_1 ?_
  refine lv_istore_n (lv' := [(1, .int (w 16 1)), (0, .ref (ad 16))]) hx hb dX8_wipe_4 rfl hl (by decide) rfl (fun ls hl => ?_)
  refine lv_aload_n hx hb dX8_wipe_5 rfl (lv_at hl 1 rfl) ?_
  refine lv_iconst (v := 0) hx hb dX8_wipe_6 nc_0 ?_
  obtain ⟨w1, hv, hf⟩ := bs1 hf
  refine x_put hx hb hts hown hE hD hA hP hS fp_X8_13 (nb16 hN) pX_16_1 rfl rfl hv dX8_wipe_7 (fun H locs hP hS => ?_)
  refine lv_iload_n hx hb dX8_wipe_10 rfl (lv_at hl 0 rfl) ?_
  cases hf
  exact hret _ _ _ _ dX8_wipe_11 hP hS
def fX6_clear_s (w : Mm) : Option (Mm) :=
  bd1 (pt w 3 12 0) fun w1 =>
  bd1 (pt w1 3 13 30) fun w2 =>
  bd1 (pt w2 3 14 0) fun w3 =>
  bd1 (pt w3 3 15 0) fun w4 =>
  bd1 (pt w4 3 16 0) fun w5 =>
  bd1 (pt w5 3 17 0) fun w6 =>
  some w6
set_option maxHeartbeats 4000000 in
set_option maxRecDepth 100000 in
theorem kX6_clear_s {l : Launch} {κ : Kp} {tl : Nat} {N : Nat} {ad : Nat → Nat} {w : Mm} {w' : Mm} (hN : 16 ≤ N) (hD : Apt ad N) (hf : fX6_clear_s w = some w') : Met l yX6_clear (Cond.code yX6_clear cX6_clear 1 none :: TB) (rmX 0 0) (PcX κ (wX κ tl) N ad w [.ref (ad 3)]) (QV κ (wX κ tl) N ad w') 0 0 (Aof ad N) := by
  refine mkV (by decide +kernel) (Nat.le_of_ble_eq_true rfl) (fun p e R s m args below meth c Q H locs ls hC hRf hRl hP hS hret hl => ?_)
  obtain ⟨hx, hb, hml, hown, hts, hE⟩ := hC
  have hA : ∀ k, k < N → Aof ad N (ad k) := fun k h => Aof_in h
  have hAA : ∀ z, Aof ad N z → Aof ad N z := fun _ h => h
  have hl : lv_has ls 1 [(0, .ref (ad 3))] := hl
  unfold fX6_clear_s at hf
  refine lv_aload_n hx hb dX6_clear_0 rfl (lv_at hl 0 rfl) ?_
  refine lv_iconst (v := 0) hx hb dX6_clear_1 nc_0 ?_
  obtain ⟨w1, hv, hf⟩ := bs1 hf
  refine x_put hx hb hts hown hE hD hA hP hS fp_X6_48 (na3 hN) pX_3_12 rfl rfl hv dX6_clear_2 (fun H locs hP hS => ?_)
  refine lv_aload_n hx hb dX6_clear_5 rfl (lv_at hl 0 rfl) ?_
  refine lv_bipush (v := 30) hx hb dX6_clear_6 nb_30 ?_
  obtain ⟨w2, hv, hf⟩ := bs1 hf
  refine x_put hx hb hts hown hE hD hA hP hS fp_X6_52 (na3 hN) pX_3_13 rfl rfl hv dX6_clear_8 (fun H locs hP hS => ?_)
  refine lv_aload_n hx hb dX6_clear_11 rfl (lv_at hl 0 rfl) ?_
  refine lv_iconst (v := 0) hx hb dX6_clear_12 nc_0 ?_
  obtain ⟨w3, hv, hf⟩ := bs1 hf
  refine x_put hx hb hts hown hE hD hA hP hS fp_X6_55 (na3 hN) pX_3_14 rfl rfl hv dX6_clear_13 (fun H locs hP hS => ?_)
  refine lv_aload_n hx hb dX6_clear_16 rfl (lv_at hl 0 rfl) ?_
  refine lv_iconst (v := 0) hx hb dX6_clear_17 nc_0 ?_
  obtain ⟨w4, hv, hf⟩ := bs1 hf
  refine x_put hx hb hts hown hE hD hA hP hS fp_X6_58 (na3 hN) pX_3_15 rfl rfl hv dX6_clear_18 (fun H locs hP hS => ?_)
  refine lv_aload_n hx hb dX6_clear_21 rfl (lv_at hl 0 rfl) ?_
  refine lv_iconst (v := 0) hx hb dX6_clear_22 nc_0 ?_
  obtain ⟨w5, hv, hf⟩ := bs1 hf
  refine x_put hx hb hts hown hE hD hA hP hS fp_X6_61 (na3 hN) pX_3_16 rfl rfl hv dX6_clear_23 (fun H locs hP hS => ?_)
  refine lv_aload_n hx hb dX6_clear_26 rfl (lv_at hl 0 rfl) ?_
  refine lv_iconst (v := 0) hx hb dX6_clear_27 nc_0 ?_
  obtain ⟨w6, hv, hf⟩ := bs1 hf
  refine x_put hx hb hts hown hE hD hA hP hS fp_X6_64 (na3 hN) pX_3_17 rfl rfl hv dX6_clear_28 (fun H locs hP hS => ?_)
  cases hf
  exact hret _ _ _ _ dX6_clear_31 hP hS
def fX5_numbersBehind (x0 : Int32) : Option (Int32) :=
  if x0 = 97 then
    some 3
  else
  if x0 = 98 then
    some 4
  else
  if x0 = 99 then
    some 2
  else
  if x0 = 114 then
    some 2
  else
  if x0 = 115 then
    some 1
  else
  if x0 = 118 then
    some 2
  else
  if x0 = 119 then
    some 1
  else
  if x0 = 121 then
    some 2
  else
  some 0
set_option maxHeartbeats 4000000 in
set_option maxRecDepth 100000 in
theorem kX5_numbersBehind {l : Launch} {κ : Kp} {cf : cfT} {N : Nat} {ad : Nat → Nat} {σ : Mm} {x0 : Int32} {r : Int32} (hf : fX5_numbersBehind x0 = some r) : Met l yX5_numbersBehind (Cond.code yX5_numbersBehind cX5_numbersBehind 1 (some .int) :: TB) (rmX 0 0) (PcX κ cf N ad σ [.int x0]) (QI κ cf N ad σ r) 0 0 (Aof ad N) := by
  refine mkI (by decide +kernel) (Nat.le_of_ble_eq_true rfl) (fun p e R s m args below meth c Q H locs ls hC hRf hRl hP hS hret hl => ?_)
  obtain ⟨hx, hb, hml, hown, hts, hE⟩ := hC
  have hAA : ∀ z, Aof ad N z → Aof ad N z := fun _ h => h
  have hl : lv_has ls 1 [(0, .int x0)] := hl
  unfold fX5_numbersBehind at hf
  refine lv_iload_n hx hb dX5_numbersBehind_0 rfl (lv_at hl 0 rfl) ?_
  by_cases hk97 : x0 = 97
  · have hf := ip hk97 hf
    refine lv_tableIn (off := 117) (tgt := 118) hx hb dX5_numbersBehind_1 (by rw [hk97]; decide) (by rw [hk97]; decide) (by rw [hk97]; rfl) (by decide) ?_
    refine lv_iconst (v := 3) hx hb dX5_numbersBehind_118 nc_3 ?_
    cases hf
    exact hret _ _ _ _ dX5_numbersBehind_119 hP hS
  · have hf := iq hk97 hf
    by_cases hk98 : x0 = 98
    · have hf := ip hk98 hf
      refine lv_tableIn (off := 115) (tgt := 116) hx hb dX5_numbersBehind_1 (by rw [hk98]; decide) (by rw [hk98]; decide) (by rw [hk98]; rfl) (by decide) ?_
      refine lv_iconst (v := 4) hx hb dX5_numbersBehind_116 nc_4 ?_
      cases hf
      exact hret _ _ _ _ dX5_numbersBehind_117 hP hS
    · have hf := iq hk98 hf
      by_cases hk99 : x0 = 99
      · have hf := ip hk99 hf
        refine lv_tableIn (off := 119) (tgt := 120) hx hb dX5_numbersBehind_1 (by rw [hk99]; decide) (by rw [hk99]; decide) (by rw [hk99]; rfl) (by decide) ?_
        refine lv_iconst (v := 2) hx hb dX5_numbersBehind_120 nc_2 ?_
        cases hf
        exact hret _ _ _ _ dX5_numbersBehind_121 hP hS
      · have hf := iq hk99 hf
        by_cases hk114 : x0 = 114
        · have hf := ip hk114 hf
          refine lv_tableIn (off := 119) (tgt := 120) hx hb dX5_numbersBehind_1 (by rw [hk114]; decide) (by rw [hk114]; decide) (by rw [hk114]; rfl) (by decide) ?_
          refine lv_iconst (v := 2) hx hb dX5_numbersBehind_120 nc_2 ?_
          cases hf
          exact hret _ _ _ _ dX5_numbersBehind_121 hP hS
        · have hf := iq hk114 hf
          by_cases hk115 : x0 = 115
          · have hf := ip hk115 hf
            refine lv_tableIn (off := 121) (tgt := 122) hx hb dX5_numbersBehind_1 (by rw [hk115]; decide) (by rw [hk115]; decide) (by rw [hk115]; rfl) (by decide) ?_
            refine lv_iconst (v := 1) hx hb dX5_numbersBehind_122 nc_1 ?_
            cases hf
            exact hret _ _ _ _ dX5_numbersBehind_123 hP hS
          · have hf := iq hk115 hf
            by_cases hk118 : x0 = 118
            · have hf := ip hk118 hf
              refine lv_tableIn (off := 119) (tgt := 120) hx hb dX5_numbersBehind_1 (by rw [hk118]; decide) (by rw [hk118]; decide) (by rw [hk118]; rfl) (by decide) ?_
              refine lv_iconst (v := 2) hx hb dX5_numbersBehind_120 nc_2 ?_
              cases hf
              exact hret _ _ _ _ dX5_numbersBehind_121 hP hS
            · have hf := iq hk118 hf
              by_cases hk119 : x0 = 119
              · have hf := ip hk119 hf
                refine lv_tableIn (off := 121) (tgt := 122) hx hb dX5_numbersBehind_1 (by rw [hk119]; decide) (by rw [hk119]; decide) (by rw [hk119]; rfl) (by decide) ?_
                refine lv_iconst (v := 1) hx hb dX5_numbersBehind_122 nc_1 ?_
                cases hf
                exact hret _ _ _ _ dX5_numbersBehind_123 hP hS
              · have hf := iq hk119 hf
                by_cases hk121 : x0 = 121
                · have hf := ip hk121 hf
                  refine lv_tableIn (off := 119) (tgt := 120) hx hb dX5_numbersBehind_1 (by rw [hk121]; decide) (by rw [hk121]; decide) (by rw [hk121]; rfl) (by decide) ?_
                  refine lv_iconst (v := 2) hx hb dX5_numbersBehind_120 nc_2 ?_
                  cases hf
                  exact hret _ _ _ _ dX5_numbersBehind_121 hP hS
                · have hf := iq hk121 hf
                  have hD0 : W p l e R s m args below meth c H locs 0 0 Q (F0 m 124 ls []) := by
                    refine lv_iconst (v := 0) hx hb dX5_numbersBehind_124 nc_0 ?_
                    cases hf
                    exact hret _ _ _ _ dX5_numbersBehind_125 hP hS
                  by_cases ho : (x0).toInt < 97 ∨ 121 < (x0).toInt
                  · exact lv_tableOut (tgt := 124) hx hb dX5_numbersBehind_1 ho (by decide) hD0
                  · have h1 : ¬ (x0).toInt < 97 := fun q => ho (Or.inl q)
                    have h2 : ¬ 121 < (x0).toInt := fun q => ho (Or.inr q)
                    have hn97 := lv_neT (a := 97) hk97 (by decide)
                    have hn98 := lv_neT (a := 98) hk98 (by decide)
                    have hn99 := lv_neT (a := 99) hk99 (by decide)
                    have hn114 := lv_neT (a := 114) hk114 (by decide)
                    have hn115 := lv_neT (a := 115) hk115 (by decide)
                    have hn118 := lv_neT (a := 118) hk118 (by decide)
                    have hn119 := lv_neT (a := 119) hk119 (by decide)
                    have hn121 := lv_neT (a := 121) hk121 (by decide)
                    have key : ∀ j : Fin 25, (j.val = 0 ∨ j.val = 1 ∨ j.val = 2 ∨ j.val = 17 ∨ j.val = 18 ∨ j.val = 21 ∨ j.val = 22 ∨ j.val = 24) ∨ (#[117, 115, 119, 123, 123, 123, 123, 123, 123, 123, 123, 123, 123, 123, 123, 123, 123, 119, 121, 123, 123, 119, 121, 123, 119] : Array Int)[j.val]? = some 123 := by decide
                    have hj : ((x0).toInt - 97).toNat < 25 := by omega
                    have hk := key ⟨_, hj⟩
                    dsimp only at hk
                    rcases hk with hk | hk
                    · exfalso
                      omega
                    · exact lv_tableIn (off := 123) (tgt := 124) hx hb dX5_numbersBehind_1 h1 h2 hk (by decide) hD0
def LX5_readNumber_6 (x2 : Int32) (tl : Nat) : Nat → Int32 → Int32 → Mm → Option (Mm × Int32 × Int32)
  | 0, _, _, _ => none
  | fu + 1, v1, v2, w3 =>
    if 2 ≤ v2 then
      some (w3, v1, v2)
    else
      if x2 ≤ (w3 1 1) then
        some (w3, v1, v2)
      else
        bd1 (rd w3 0 tl (w3 1 1)) fun v8 =>
        bd1 (fX8_within v8 48 57) fun v9 =>
        if v9 = 0 then
          some (w3, v1, v2)
        else
          bd1 (rd w3 0 tl (w3 1 1)) fun v10 =>
          bd1 (pt w3 1 1 ((w3 1 1) + 1)) fun w11 =>
          LX5_readNumber_6 x2 tl fu (((10 * v1) + v10) - 48) (v2 + 1) w11
def fX5_readNumber (tl : Nat) (w : Mm) (x2 x3 : Int32) : Option (Int32 × Mm) :=
  bd3 (LX5_readNumber_6 x2 tl 1000 0 0 w) fun (w5 : Mm) (v6 : Int32) (v7 : Int32) =>
  bd1 (wr w5 2 4 x3 v6) fun w12 =>
  if v7 ≤ 0 then
    some (0, w12)
  else
    some (1, w12)
set_option maxHeartbeats 4000000 in
set_option maxRecDepth 100000 in
theorem kX5_readNumber {l : Launch} {κ : Kp} {tl : Nat} {N : Nat} {ad : Nat → Nat} {w : Mm} {x2 x3 : Int32} {r : Int32} {w' : Mm} (hN : 16 ≤ N) (hD : Apt ad N) (hf : fX5_readNumber tl w x2 x3 = some (r, w')) : Met l yX5_readNumber (Cond.code yX5_readNumber cX5_readNumber 6 (some .boolean) :: TB) (rmX 1 22) (PcX κ (wX κ tl) N ad w [.ref (ad 1), .ref (ad 0), .int x2, .int x3]) (QI κ (wX κ tl) N ad w' r) 0 0 (Aof ad N) := by
  refine mkZ (by decide +kernel) (Nat.le_of_ble_eq_true rfl) (fun p e R s m args below meth c Q H locs ls hC hRf hRl hP hS hret hl => ?_)
  obtain ⟨hx, hb, hml, hown, hts, hE⟩ := hC
  have hA : ∀ k, k < N → Aof ad N (ad k) := fun k h => Aof_in h
  have hAA : ∀ z, Aof ad N z → Aof ad N z := fun _ h => h
  have hl : lv_has ls 6 [(0, .ref (ad 1)), (1, .ref (ad 0)), (2, .int x2), (3, .int x3)] := hl
  unfold fX5_readNumber at hf
  refine lv_iconst (v := 0) hx hb dX5_readNumber_0 nc_0 ?_
  refine lv_istore (lv' := [(4, .int 0), (0, .ref (ad 1)), (1, .ref (ad 0)), (2, .int x2), (3, .int x3)]) hx hb dX5_readNumber_1 hl (by decide) rfl (fun ls hl => ?_)
  refine lv_iconst (v := 0) hx hb dX5_readNumber_3 nc_0 ?_
  refine lv_istore (lv' := [(5, .int 0), (4, .int 0), (0, .ref (ad 1)), (1, .ref (ad 0)), (2, .int x2), (3, .int x3)]) hx hb dX5_readNumber_4 hl (by decide) rfl (fun ls hl => ?_)
  obtain ⟨w5, v6, v7, hq4, hf⟩ := bs3 hf
  have hJ4 : ∀ (H : Heap) (locs : List Loc) (ls : Array Slot), Ho κ (wX κ tl) N ad w5 H → va_S (Aof ad N) s.heap H locs → lv_has ls 6 [(0, .ref (ad 1)), (3, .int x3), (4, .int v6), (5, .int v7)] → W p l e R s m args below meth c H locs 0 0 Q (F0 m 69 ls []) := by
    intro H locs ls hP hS hl
    refine lv_aload_n hx hb dX5_readNumber_69 rfl (lv_at hl 0 rfl) ?_
    refine x_get hx hb hts hown hE hP fl_X5_9 (na1 hN) gX_1_0 dX5_readNumber_70 ?_
    refine lv_iload_n hx hb dX5_readNumber_73 rfl (lv_at hl 1 rfl) ?_
    refine lv_iload hx hb dX5_readNumber_74 (lv_at hl 2 rfl) ?_
    obtain ⟨w12, hv, hf⟩ := bs1 hf
    refine x_iast hx hb hE hD hA hP hS (na2 hN) aX_2 hv dX5_readNumber_76 (fun H locs hP hS => ?_)
    refine lv_iload hx hb dX5_readNumber_77 (lv_at hl 3 rfl) ?_
    refine lv_if_le (tgt := 86) hx hb dX5_readNumber_79 (by decide) (fun hc => ?_) (fun hc => ?_)
    · have hf := ip hc hf
      refine lv_iconst (v := 0) hx hb dX5_readNumber_86 nc_0 ?_
      cases hf
      exact hret _ _ _ _ dX5_readNumber_87 (Or.inl rfl) hP hS
    · have hf := iq hc hf
      refine lv_iconst (v := 1) hx hb dX5_readNumber_82 nc_1 ?_
      refine lv_goto (tgt := 87) hx hb dX5_readNumber_83 (by decide) ?_
      cases hf
      exact hret _ _ _ _ dX5_readNumber_87 (Or.inr rfl) hP hS
  clear hf
  have hf := hq4
  clear hq4
  have hL4 : ∀ (fu : Nat) (v1 : Int32) (v2 : Int32) (w3 : Mm) (H : Heap) (locs : List Loc) (ls : Array Slot), LX5_readNumber_6 x2 tl fu v1 v2 w3 = some (w5, v6, v7) → Ho κ (wX κ tl) N ad w3 H → va_S (Aof ad N) s.heap H locs → lv_has ls 6 [(0, .ref (ad 1)), (1, .ref (ad 0)), (2, .int x2), (3, .int x3), (4, .int v1), (5, .int v2)] → W p l e R s m args below meth c H locs 0 0 Q (F0 m 6 ls []) := by
    intro fu
    induction fu with
    | zero =>
      intro v1 v2 w3 H locs ls hf
      rw [LX5_readNumber_6] at hf
      cases hf
    | succ fu ih =>
      intro v1 v2 w3 H locs ls hf hP hS hl
      rw [LX5_readNumber_6] at hf
      refine lv_iload hx hb dX5_readNumber_6 (lv_at hl 5 rfl) ?_
      refine lv_iconst (v := 2) hx hb dX5_readNumber_8 nc_2 ?_
      refine lv_icmp_ge (tgt := 69) hx hb dX5_readNumber_9 (by decide) (fun hc => ?_) (fun hc => ?_)
      · have hf := ip hc hf
        cases hf
        exact hJ4 _ _ _ hP hS (lv_sub hl [0, 3, 4, 5] rfl)
      · have hf := iq hc hf
        refine lv_aload_n hx hb dX5_readNumber_12 rfl (lv_at hl 0 rfl) ?_
        refine x_get hx hb hts hown hE hP fl_X5_15 (na1 hN) gX_1_1 dX5_readNumber_13 ?_
        refine lv_iload_n hx hb dX5_readNumber_16 rfl (lv_at hl 2 rfl) ?_
        refine lv_icmp_ge (tgt := 69) hx hb dX5_readNumber_17 (by decide) (fun hc => ?_) (fun hc => ?_)
        · have hf := ip hc hf
          cases hf
          exact hJ4 _ _ _ hP hS (lv_sub hl [0, 3, 4, 5] rfl)
        · have hf := iq hc hf
          refine lv_aload_n hx hb dX5_readNumber_20 rfl (lv_at hl 1 rfl) ?_
          refine lv_aload_n hx hb dX5_readNumber_21 rfl (lv_at hl 0 rfl) ?_
          refine x_get hx hb hts hown hE hP fl_X5_15 (na1 hN) gX_1_1 dX5_readNumber_22 ?_
          obtain ⟨v8, hv, hf⟩ := bs1 hf
          refine x_cald hx hb hE hP (na0 hN) (aX_0 _) hv dX5_readNumber_25 ?_
          refine lv_bipush (v := 48) hx hb dX5_readNumber_26 nb_48 ?_
          refine lv_bipush (v := 57) hx hb dX5_readNumber_28 nb_57 ?_
          obtain ⟨v9, hv, hf⟩ := bs1 hf
          refine x_cNi (As := [.int v8, .int 48, .int 57]) (rest := []) hx hb hml hts hown hE hP hS hAA (kX8_within hv) cn_within hE.2.2.1 (Nat.le_trans (by decide) hRf) (Nat.le_trans (by decide) hRl) (Nat.zero_le _) (Nat.zero_le _) rfl hl.1 rfl (Nat.le_of_ble_eq_true rfl) dX5_readNumber_30 (fun H locs hP hS => ?_)
          refine lv_if_eq (tgt := 69) hx hb dX5_readNumber_33 (by decide) (fun hc => ?_) (fun hc => ?_)
          · have hf := ip hc hf
            cases hf
            exact hJ4 _ _ _ hP hS (lv_sub hl [0, 3, 4, 5] rfl)
          · have hf := iq hc hf
            refine lv_bipush (v := 10) hx hb dX5_readNumber_36 nb_10 ?_
            refine lv_iload hx hb dX5_readNumber_38 (lv_at hl 4 rfl) ?_
            refine lv_imul hx hb dX5_readNumber_40 ?_
            refine lv_aload_n hx hb dX5_readNumber_41 rfl (lv_at hl 1 rfl) ?_
            refine lv_aload_n hx hb dX5_readNumber_42 rfl (lv_at hl 0 rfl) ?_
            refine x_get hx hb hts hown hE hP fl_X5_15 (na1 hN) gX_1_1 dX5_readNumber_43 ?_
            obtain ⟨v10, hv, hf⟩ := bs1 hf
            refine x_cald hx hb hE hP (na0 hN) (aX_0 _) hv dX5_readNumber_46 ?_
            refine lv_iadd hx hb dX5_readNumber_47 ?_
            refine lv_bipush (v := 48) hx hb dX5_readNumber_48 nb_48 ?_
            refine lv_isub hx hb dX5_readNumber_50 ?_
            refine lv_istore (lv' := [(4, .int (((10 * v1) + v10) - 48)), (0, .ref (ad 1)), (1, .ref (ad 0)), (2, .int x2), (3, .int x3), (5, .int v2)]) hx hb dX5_readNumber_51 hl (by decide) rfl (fun ls hl => ?_)
            refine lv_iinc (v := (v2 + 1)) (lv' := [(5, .int (v2 + 1)), (4, .int (((10 * v1) + v10) - 48)), (0, .ref (ad 1)), (1, .ref (ad 0)), (2, .int x2), (3, .int x3)]) hx hb dX5_readNumber_53 hl (k := 5) rfl (ni_1 _) (by decide) rfl (fun ls hl => ?_)
            refine lv_aload_n hx hb dX5_readNumber_56 rfl (lv_at hl 2 rfl) ?_
            refine lv_dup hx hb dX5_readNumber_57 rfl ?_
            refine x_get hx hb hts hown hE hP fl_X5_15 (na1 hN) gX_1_1 dX5_readNumber_58 ?_
            refine lv_iconst (v := 1) hx hb dX5_readNumber_61 nc_1 ?_
            refine lv_iadd hx hb dX5_readNumber_62 ?_
            obtain ⟨w11, hv, hf⟩ := bs1 hf
            refine x_put hx hb hts hown hE hD hA hP hS fp_X5_15 (na1 hN) pX_1_1 rfl rfl hv dX5_readNumber_63 (fun H locs hP hS => ?_)
            refine lv_goto (tgt := 6) hx hb dX5_readNumber_66 (by decide) ?_
            exact ih _ _ _ _ _ _ hf hP hS (lv_sub hl [2, 3, 4, 5, 1, 0] rfl)
  exact hL4 _ _ _ _ _ _ _ hf hP hS (lv_sub hl [2, 3, 4, 5, 1, 0] rfl)
def LX5_readItem_18 (x2 : Int32) (tl : Nat) (v2 : Int32) : Nat → Int32 → Mm → Option (Int32 × Mm)
  | 0, _, _ => none
  | fu + 1, v4, w5 =>
    if v2 ≤ v4 then
      if v2 ≤ 0 then
        some (0, w5)
      else
        some (1, w5)
    else
      bd2 (fX5_readNumber tl w5 x2 v4) fun v7 w8 =>
      if v7 = 0 then
        some (0, w8)
      else
        bd1 (
          if v4 = (v2 - 1) then
            some (59)
          else
            some (44)) fun (v9 : Int32) =>
        if x2 ≤ (w8 1 1) then
          some (0, w8)
        else
          bd1 (rd w8 0 tl (w8 1 1)) fun v11 =>
          if v11 = v9 then
            bd1 (pt w8 1 1 ((w8 1 1) + 1)) fun w12 =>
            LX5_readItem_18 x2 tl v2 fu (v4 + 1) w12
          else
            some (0, w8)
def fX5_readItem (tl : Nat) (w : Mm) (x2 x3 : Int32) : Option (Int32 × Mm) :=
  bd1 (rd w 0 tl x3) fun v1 =>
  bd1 (fX5_numbersBehind v1) fun v2 =>
  bd1 (pt w 1 1 (x3 + 1)) fun w3 =>
  LX5_readItem_18 x2 tl v2 1000 0 w3
set_option maxHeartbeats 4000000 in
set_option maxRecDepth 100000 in
theorem kX5_readItem {l : Launch} {κ : Kp} {tl : Nat} {N : Nat} {ad : Nat → Nat} {w : Mm} {x2 x3 : Int32} {r : Int32} {w' : Mm} (hN : 16 ≤ N) (hD : Apt ad N) (hf : fX5_readItem tl w x2 x3 = some (r, w')) : Met l yX5_readItem (Cond.code yX5_readItem cX5_readItem 7 (some .boolean) :: TB) (rmX 2 47) (PcX κ (wX κ tl) N ad w [.ref (ad 1), .ref (ad 0), .int x2, .int x3]) (QI κ (wX κ tl) N ad w' r) 0 0 (Aof ad N) := by
  refine mkZ (by decide +kernel) (Nat.le_of_ble_eq_true rfl) (fun p e R s m args below meth c Q H locs ls hC hRf hRl hP hS hret hl => ?_)
  obtain ⟨hx, hb, hml, hown, hts, hE⟩ := hC
  have hA : ∀ k, k < N → Aof ad N (ad k) := fun k h => Aof_in h
  have hAA : ∀ z, Aof ad N z → Aof ad N z := fun _ h => h
  have hl : lv_has ls 7 [(0, .ref (ad 1)), (1, .ref (ad 0)), (2, .int x2), (3, .int x3)] := hl
  unfold fX5_readItem at hf
  refine lv_aload_n hx hb dX5_readItem_0 rfl (lv_at hl 1 rfl) ?_
  refine lv_iload_n hx hb dX5_readItem_1 rfl (lv_at hl 3 rfl) ?_
  obtain ⟨v1, hv, hf⟩ := bs1 hf
  refine x_cald hx hb hE hP (na0 hN) (aX_0 _) hv dX5_readItem_2 ?_
  obtain ⟨v2, hv, hf⟩ := bs1 hf
  refine x_cSi (As := [.int v1]) (rest := []) hx hb hml hts hown hE hP hS hAA (kX5_numbersBehind hv) cl_X5_32 (Nat.le_trans (by decide) hRf) (Nat.le_trans (by decide) hRl) (Nat.zero_le _) (Nat.zero_le _) rfl hl.1 rfl (Nat.le_of_ble_eq_true rfl) dX5_readItem_3 (fun H locs hP hS => ?_)
  refine lv_istore (lv' := [(4, .int v2), (0, .ref (ad 1)), (1, .ref (ad 0)), (2, .int x2), (3, .int x3)]) hx hb dX5_readItem_6 hl (by decide) rfl (fun ls hl => ?_)
  refine lv_aload_n hx hb dX5_readItem_8 rfl (lv_at hl 1 rfl) ?_
  refine lv_iload_n hx hb dX5_readItem_9 rfl (lv_at hl 4 rfl) ?_
  refine lv_iconst (v := 1) hx hb dX5_readItem_10 nc_1 ?_
  refine lv_iadd hx hb dX5_readItem_11 ?_
  obtain ⟨w3, hv, hf⟩ := bs1 hf
  refine x_put hx hb hts hown hE hD hA hP hS fp_X5_15 (na1 hN) pX_1_1 rfl rfl hv dX5_readItem_12 (fun H locs hP hS => ?_)
  refine lv_iconst (v := 0) hx hb dX5_readItem_15 nc_0 ?_
  refine lv_istore (lv' := [(5, .int 0), (4, .int v2), (0, .ref (ad 1)), (1, .ref (ad 0)), (2, .int x2), (3, .int x3)]) hx hb dX5_readItem_16 hl (by decide) rfl (fun ls hl => ?_)
  have hL6 : ∀ (fu : Nat) (v4 : Int32) (w5 : Mm) (H : Heap) (locs : List Loc) (ls : Array Slot), LX5_readItem_18 x2 tl v2 fu v4 w5 = some (r, w') → Ho κ (wX κ tl) N ad w5 H → va_S (Aof ad N) s.heap H locs → lv_has ls 7 [(0, .ref (ad 1)), (1, .ref (ad 0)), (2, .int x2), (4, .int v2), (5, .int v4)] → W p l e R s m args below meth c H locs 0 0 Q (F0 m 18 ls []) := by
    intro fu
    induction fu with
    | zero =>
      intro v4 w5 H locs ls hf
      rw [LX5_readItem_18] at hf
      cases hf
    | succ fu ih =>
      intro v4 w5 H locs ls hf hP hS hl
      rw [LX5_readItem_18] at hf
      refine lv_iload hx hb dX5_readItem_18 (lv_at hl 4 rfl) ?_
      refine lv_iload hx hb dX5_readItem_20 (lv_at hl 3 rfl) ?_
      refine lv_icmp_ge (tgt := 93) hx hb dX5_readItem_22 (by decide) (fun hc => ?_) (fun hc => ?_)
      · have hf := ip hc hf
        refine lv_iload hx hb dX5_readItem_93 (lv_at hl 3 rfl) ?_
        refine lv_if_le (tgt := 102) hx hb dX5_readItem_95 (by decide) (fun hc => ?_) (fun hc => ?_)
        · have hf := ip hc hf
          refine lv_iconst (v := 0) hx hb dX5_readItem_102 nc_0 ?_
          cases hf
          exact hret _ _ _ _ dX5_readItem_103 (Or.inl rfl) hP hS
        · have hf := iq hc hf
          refine lv_iconst (v := 1) hx hb dX5_readItem_98 nc_1 ?_
          refine lv_goto (tgt := 103) hx hb dX5_readItem_99 (by decide) ?_
          cases hf
          exact hret _ _ _ _ dX5_readItem_103 (Or.inr rfl) hP hS
      · have hf := iq hc hf
        refine lv_aload_n hx hb dX5_readItem_25 rfl (lv_at hl 0 rfl) ?_
        refine lv_aload_n hx hb dX5_readItem_26 rfl (lv_at hl 1 rfl) ?_
        refine lv_iload_n hx hb dX5_readItem_27 rfl (lv_at hl 2 rfl) ?_
        refine lv_iload hx hb dX5_readItem_28 (lv_at hl 4 rfl) ?_
        obtain ⟨v7, w8, hv, hf⟩ := bs2 hf
        refine x_cVi (As := [.ref (ad 0), .int x2, .int v4]) (rest := []) hx hb hml hts hown hE hP hS hAA (kX5_readNumber hN hD hv) cl_X5_36 (na1 hN) oX_1 vc_5 (Nat.le_trans (by decide) hRf) (Nat.le_trans (by decide) hRl) (Nat.zero_le _) (Nat.zero_le _) rfl hl.1 rfl (Nat.le_of_ble_eq_true rfl) dX5_readItem_30 (fun H locs hP hS => ?_)
        refine lv_if_ne (tgt := 38) hx hb dX5_readItem_33 (by decide) (fun hc => ?_) (fun hc => ?_)
        · have hf := iq hc hf
          refine lv_iload hx hb dX5_readItem_38 (lv_at hl 4 rfl) ?_
          refine lv_iload hx hb dX5_readItem_40 (lv_at hl 3 rfl) ?_
          refine lv_iconst (v := 1) hx hb dX5_readItem_42 nc_1 ?_
          refine lv_isub hx hb dX5_readItem_43 ?_
          obtain ⟨v9, hq10, hf⟩ := bs1 hf
          have hJ10 : ∀ (H : Heap) (locs : List Loc) (ls : Array Slot), Ho κ (wX κ tl) N ad w8 H → va_S (Aof ad N) s.heap H locs → lv_has ls 7 [(0, .ref (ad 1)), (1, .ref (ad 0)), (2, .int x2), (4, .int v2), (5, .int v4)] → W p l e R s m args below meth c H locs 0 0 Q (F0 m 54 ls [.int v9]) := by
            intro H locs ls hP hS hl
            refine lv_istore (lv' := [(6, .int v9), (0, .ref (ad 1)), (1, .ref (ad 0)), (2, .int x2), (4, .int v2), (5, .int v4)]) hx hb dX5_readItem_54 hl (by decide) rfl (fun ls hl => ?_)
            refine lv_aload_n hx hb dX5_readItem_56 rfl (lv_at hl 1 rfl) ?_
            refine x_get hx hb hts hown hE hP fl_X5_15 (na1 hN) gX_1_1 dX5_readItem_57 ?_
            refine lv_iload_n hx hb dX5_readItem_60 rfl (lv_at hl 3 rfl) ?_
            refine lv_icmp_ge (tgt := 75) hx hb dX5_readItem_61 (by decide) (fun hc => ?_) (fun hc => ?_)
            · have hf := ip hc hf
              refine lv_iconst (v := 0) hx hb dX5_readItem_75 nc_0 ?_
              cases hf
              exact hret _ _ _ _ dX5_readItem_76 (Or.inl rfl) hP hS
            · have hf := iq hc hf
              refine lv_aload_n hx hb dX5_readItem_64 rfl (lv_at hl 2 rfl) ?_
              refine lv_aload_n hx hb dX5_readItem_65 rfl (lv_at hl 1 rfl) ?_
              refine x_get hx hb hts hown hE hP fl_X5_15 (na1 hN) gX_1_1 dX5_readItem_66 ?_
              obtain ⟨v11, hv, hf⟩ := bs1 hf
              refine x_cald hx hb hE hP (na0 hN) (aX_0 _) hv dX5_readItem_69 ?_
              refine lv_iload hx hb dX5_readItem_70 (lv_at hl 0 rfl) ?_
              refine lv_icmp_eq (tgt := 77) hx hb dX5_readItem_72 (by decide) (fun hc => ?_) (fun hc => ?_)
              · have hf := ip hc hf
                refine lv_aload_n hx hb dX5_readItem_77 rfl (lv_at hl 1 rfl) ?_
                refine lv_dup hx hb dX5_readItem_78 rfl ?_
                refine x_get hx hb hts hown hE hP fl_X5_15 (na1 hN) gX_1_1 dX5_readItem_79 ?_
                refine lv_iconst (v := 1) hx hb dX5_readItem_82 nc_1 ?_
                refine lv_iadd hx hb dX5_readItem_83 ?_
                obtain ⟨w12, hv, hf⟩ := bs1 hf
                refine x_put hx hb hts hown hE hD hA hP hS fp_X5_15 (na1 hN) pX_1_1 rfl rfl hv dX5_readItem_84 (fun H locs hP hS => ?_)
                refine lv_iinc (v := (v4 + 1)) (lv' := [(5, .int (v4 + 1)), (6, .int v9), (0, .ref (ad 1)), (1, .ref (ad 0)), (2, .int x2), (4, .int v2)]) hx hb dX5_readItem_87 hl (k := 5) rfl (ni_1 _) (by decide) rfl (fun ls hl => ?_)
                refine lv_goto (tgt := 18) hx hb dX5_readItem_90 (by decide) ?_
                exact ih _ _ _ _ _ hf hP hS (lv_sub hl [2, 3, 4, 5, 0] rfl)
              · have hf := iq hc hf
                refine lv_iconst (v := 0) hx hb dX5_readItem_75 nc_0 ?_
                cases hf
                exact hret _ _ _ _ dX5_readItem_76 (Or.inl rfl) hP hS
          clear hf
          have hf := hq10
          clear hq10
          refine lv_icmp_ne (tgt := 52) hx hb dX5_readItem_44 (by decide) (fun hc => ?_) (fun hc => ?_)
          · have hf := iq hc hf
            refine lv_bipush (v := 44) hx hb dX5_readItem_52 nb_44 ?_
            cases hf
            exact hJ10 _ _ _ hP hS (lv_sub hl [0, 1, 2, 3, 4] rfl)
          · have hf := ip hc hf
            refine lv_bipush (v := 59) hx hb dX5_readItem_47 nb_59 ?_
            refine lv_goto (tgt := 54) hx hb dX5_readItem_49 (by decide) ?_
            cases hf
            exact hJ10 _ _ _ hP hS (lv_sub hl [0, 1, 2, 3, 4] rfl)
        · have hf := ip hc hf
          refine lv_iconst (v := 0) hx hb dX5_readItem_36 nc_0 ?_
          cases hf
          exact hret _ _ _ _ dX5_readItem_37 (Or.inl rfl) hP hS
  exact hL6 _ _ _ _ _ _ hf hP hS (lv_sub hl [2, 3, 4, 1, 0] rfl)
def fX6_has_s (w : Mm) (x1 : Int32) : Option (Int32) :=
  if x1 < 0 then
    some 0
  else
    if (w 3 12) ≤ x1 then
      some 0
    else
      some 1
set_option maxHeartbeats 4000000 in
set_option maxRecDepth 100000 in
theorem kX6_has_s {l : Launch} {κ : Kp} {tl : Nat} {N : Nat} {ad : Nat → Nat} {w : Mm} {x1 : Int32} {r : Int32} (hN : 16 ≤ N) (hD : Apt ad N) (hf : fX6_has_s w x1 = some r) : Met l yX6_has (Cond.code yX6_has cX6_has 2 (some .boolean) :: TB) (rmX 0 0) (PcX κ (wX κ tl) N ad w [.ref (ad 3), .int x1]) (QI κ (wX κ tl) N ad w r) 0 0 (Aof ad N) := by
  refine mkZ (by decide +kernel) (Nat.le_of_ble_eq_true rfl) (fun p e R s m args below meth c Q H locs ls hC hRf hRl hP hS hret hl => ?_)
  obtain ⟨hx, hb, hml, hown, hts, hE⟩ := hC
  have hA : ∀ k, k < N → Aof ad N (ad k) := fun k h => Aof_in h
  have hAA : ∀ z, Aof ad N z → Aof ad N z := fun _ h => h
  have hl : lv_has ls 2 [(0, .ref (ad 3)), (1, .int x1)] := hl
  unfold fX6_has_s at hf
  refine lv_iload_n hx hb dX6_has_0 rfl (lv_at hl 1 rfl) ?_
  refine lv_if_lt (tgt := 16) hx hb dX6_has_1 (by decide) (fun hc => ?_) (fun hc => ?_)
  · have hf := ip hc hf
    refine lv_iconst (v := 0) hx hb dX6_has_16 nc_0 ?_
    cases hf
    exact hret _ _ _ _ dX6_has_17 (Or.inl rfl) hP hS
  · have hf := iq hc hf
    refine lv_iload_n hx hb dX6_has_4 rfl (lv_at hl 1 rfl) ?_
    refine lv_aload_n hx hb dX6_has_5 rfl (lv_at hl 0 rfl) ?_
    refine x_get hx hb hts hown hE hP fl_X6_48 (na3 hN) gX_3_12 dX6_has_6 ?_
    refine lv_icmp_ge (tgt := 16) hx hb dX6_has_9 (by decide) (fun hc => ?_) (fun hc => ?_)
    · have hf := ip hc hf
      refine lv_iconst (v := 0) hx hb dX6_has_16 nc_0 ?_
      cases hf
      exact hret _ _ _ _ dX6_has_17 (Or.inl rfl) hP hS
    · have hf := iq hc hf
      refine lv_iconst (v := 1) hx hb dX6_has_12 nc_1 ?_
      refine lv_goto (tgt := 17) hx hb dX6_has_13 (by decide) ?_
      cases hf
      exact hret _ _ _ _ dX6_has_17 (Or.inr rfl) hP hS
def fX6_putOnRaft_s (w : Mm) (x1 : Int32) : Option (Mm) :=
  bd1 (rd w 9 8 x1) fun v1 =>
  bd1 (
    if v1 = (-4) then
      some (w)
    else
      bd1 (pt w 3 17 1) fun w4 =>
      some (w4)) fun (w2 : Mm) =>
  bd1 (wr w2 9 8 x1 (w2 3 15)) fun w5 =>
  some w5
set_option maxHeartbeats 4000000 in
set_option maxRecDepth 100000 in
theorem kX6_putOnRaft_s {l : Launch} {κ : Kp} {tl : Nat} {N : Nat} {ad : Nat → Nat} {w : Mm} {x1 : Int32} {w' : Mm} (hN : 16 ≤ N) (hD : Apt ad N) (hf : fX6_putOnRaft_s w x1 = some w') : Met l yX6_putOnRaft (Cond.code yX6_putOnRaft cX6_putOnRaft 2 none :: TB) (rmX 0 0) (PcX κ (wX κ tl) N ad w [.ref (ad 3), .int x1]) (QV κ (wX κ tl) N ad w') 0 0 (Aof ad N) := by
  refine mkV (by decide +kernel) (Nat.le_of_ble_eq_true rfl) (fun p e R s m args below meth c Q H locs ls hC hRf hRl hP hS hret hl => ?_)
  obtain ⟨hx, hb, hml, hown, hts, hE⟩ := hC
  have hA : ∀ k, k < N → Aof ad N (ad k) := fun k h => Aof_in h
  have hAA : ∀ z, Aof ad N z → Aof ad N z := fun _ h => h
  have hl : lv_has ls 2 [(0, .ref (ad 3)), (1, .int x1)] := hl
  unfold fX6_putOnRaft_s at hf
  refine lv_aload_n hx hb dX6_putOnRaft_0 rfl (lv_at hl 0 rfl) ?_
  refine x_get hx hb hts hown hE hP fl_X6_27 (na3 hN) gX_3_5 dX6_putOnRaft_1 ?_
  refine lv_iload_n hx hb dX6_putOnRaft_4 rfl (lv_at hl 1 rfl) ?_
  obtain ⟨v1, hv, hf⟩ := bs1 hf
  refine x_iald hx hb hE hP (na9 hN) (aX_9 _) hv dX6_putOnRaft_5 ?_
  refine lv_bipush (v := (-4)) hx hb dX6_putOnRaft_6 nb_m4 ?_
  obtain ⟨w2, hq3, hf⟩ := bs1 hf
  have hJ3 : ∀ (H : Heap) (locs : List Loc) (ls : Array Slot), Ho κ (wX κ tl) N ad w2 H → va_S (Aof ad N) s.heap H locs → lv_has ls 2 [(0, .ref (ad 3)), (1, .int x1)] → W p l e R s m args below meth c H locs 0 0 Q (F0 m 16 ls []) := by
    intro H locs ls hP hS hl
    refine lv_aload_n hx hb dX6_putOnRaft_16 rfl (lv_at hl 0 rfl) ?_
    refine x_get hx hb hts hown hE hP fl_X6_27 (na3 hN) gX_3_5 dX6_putOnRaft_17 ?_
    refine lv_iload_n hx hb dX6_putOnRaft_20 rfl (lv_at hl 1 rfl) ?_
    refine lv_aload_n hx hb dX6_putOnRaft_21 rfl (lv_at hl 0 rfl) ?_
    refine x_get hx hb hts hown hE hP fl_X6_58 (na3 hN) gX_3_15 dX6_putOnRaft_22 ?_
    obtain ⟨w5, hv, hf⟩ := bs1 hf
    refine x_iast hx hb hE hD hA hP hS (na9 hN) aX_9 hv dX6_putOnRaft_25 (fun H locs hP hS => ?_)
    cases hf
    exact hret _ _ _ _ dX6_putOnRaft_26 hP hS
  clear hf
  have hf := hq3
  clear hq3
  refine lv_icmp_eq (tgt := 16) hx hb dX6_putOnRaft_8 (by decide) (fun hc => ?_) (fun hc => ?_)
  · have hf := ip hc hf
    cases hf
    exact hJ3 _ _ _ hP hS (lv_sub hl [0, 1] rfl)
  · have hf := iq hc hf
    refine lv_aload_n hx hb dX6_putOnRaft_11 rfl (lv_at hl 0 rfl) ?_
    refine lv_iconst (v := 1) hx hb dX6_putOnRaft_12 nc_1 ?_
    obtain ⟨w4, hv, hf⟩ := bs1 hf
    refine x_put hx hb hts hown hE hD hA hP hS fp_X6_64 (na3 hN) pX_3_17 rfl rfl hv dX6_putOnRaft_13 (fun H locs hP hS => ?_)
    cases hf
    exact hJ3 _ _ _ hP hS (lv_sub hl [0, 1] rfl)
def fX6_addRaft_s (w : Mm) (x1 x2 x3 : Int32) : Option (Int32 × Mm) :=
  if 2 ≤ (w 3 15) then
    some (0, w)
  else
    bd1 (fX6_has_s w x1) fun v1 =>
    if v1 = 0 then
      some (0, w)
    else
      bd1 (fX6_has_s w x2) fun v2 =>
      if v2 = 0 then
        some (0, w)
      else
        bd1 (fX6_has_s w x3) fun v3 =>
        if v3 = 0 then
          some (0, w)
        else
          if x1 = x2 then
            some (0, w)
          else
            if x1 = x3 then
              some (0, w)
            else
              if x2 = x3 then
                some (0, w)
              else
                bd1 (fX6_putOnRaft_s w x1) fun w4 =>
                bd1 (fX6_putOnRaft_s w4 x2) fun w5 =>
                bd1 (fX6_putOnRaft_s w5 x3) fun w6 =>
                bd1 (pt w6 3 15 ((w6 3 15) + 1)) fun w7 =>
                some (1, w7)
set_option maxHeartbeats 4000000 in
set_option maxRecDepth 100000 in
theorem kX6_addRaft_s {l : Launch} {κ : Kp} {tl : Nat} {N : Nat} {ad : Nat → Nat} {w : Mm} {x1 x2 x3 : Int32} {r : Int32} {w' : Mm} (hN : 16 ≤ N) (hD : Apt ad N) (hf : fX6_addRaft_s w x1 x2 x3 = some (r, w')) : Met l yX6_addRaft (Cond.code yX6_addRaft cX6_addRaft 4 (some .boolean) :: TB) (rmX 1 21) (PcX κ (wX κ tl) N ad w [.ref (ad 3), .int x1, .int x2, .int x3]) (QI κ (wX κ tl) N ad w' r) 0 0 (Aof ad N) := by
  refine mkZ (by decide +kernel) (Nat.le_of_ble_eq_true rfl) (fun p e R s m args below meth c Q H locs ls hC hRf hRl hP hS hret hl => ?_)
  obtain ⟨hx, hb, hml, hown, hts, hE⟩ := hC
  have hA : ∀ k, k < N → Aof ad N (ad k) := fun k h => Aof_in h
  have hAA : ∀ z, Aof ad N z → Aof ad N z := fun _ h => h
  have hl : lv_has ls 4 [(0, .ref (ad 3)), (1, .int x1), (2, .int x2), (3, .int x3)] := hl
  unfold fX6_addRaft_s at hf
  refine lv_aload_n hx hb dX6_addRaft_0 rfl (lv_at hl 0 rfl) ?_
  refine x_get hx hb hts hown hE hP fl_X6_58 (na3 hN) gX_3_15 dX6_addRaft_1 ?_
  refine lv_iconst (v := 2) hx hb dX6_addRaft_4 nc_2 ?_
  refine lv_icmp_ge (tgt := 47) hx hb dX6_addRaft_5 (by decide) (fun hc => ?_) (fun hc => ?_)
  · have hf := ip hc hf
    refine lv_iconst (v := 0) hx hb dX6_addRaft_47 nc_0 ?_
    cases hf
    exact hret _ _ _ _ dX6_addRaft_48 (Or.inl rfl) hP hS
  · have hf := iq hc hf
    refine lv_aload_n hx hb dX6_addRaft_8 rfl (lv_at hl 0 rfl) ?_
    refine lv_iload_n hx hb dX6_addRaft_9 rfl (lv_at hl 1 rfl) ?_
    obtain ⟨v1, hv, hf⟩ := bs1 hf
    refine x_cVi (As := [.int x1]) (rest := []) hx hb hml hts hown hE hP hS hAA (kX6_has_s hN hD hv) cl_X6_72 (na3 hN) oX_3 vc_6 (Nat.le_trans (by decide) hRf) (Nat.le_trans (by decide) hRl) (Nat.zero_le _) (Nat.zero_le _) rfl hl.1 rfl (Nat.le_of_ble_eq_true rfl) dX6_addRaft_10 (fun H locs hP hS => ?_)
    refine lv_if_eq (tgt := 47) hx hb dX6_addRaft_13 (by decide) (fun hc => ?_) (fun hc => ?_)
    · have hf := ip hc hf
      refine lv_iconst (v := 0) hx hb dX6_addRaft_47 nc_0 ?_
      cases hf
      exact hret _ _ _ _ dX6_addRaft_48 (Or.inl rfl) hP hS
    · have hf := iq hc hf
      refine lv_aload_n hx hb dX6_addRaft_16 rfl (lv_at hl 0 rfl) ?_
      refine lv_iload_n hx hb dX6_addRaft_17 rfl (lv_at hl 2 rfl) ?_
      obtain ⟨v2, hv, hf⟩ := bs1 hf
      refine x_cVi (As := [.int x2]) (rest := []) hx hb hml hts hown hE hP hS hAA (kX6_has_s hN hD hv) cl_X6_72 (na3 hN) oX_3 vc_6 (Nat.le_trans (by decide) hRf) (Nat.le_trans (by decide) hRl) (Nat.zero_le _) (Nat.zero_le _) rfl hl.1 rfl (Nat.le_of_ble_eq_true rfl) dX6_addRaft_18 (fun H locs hP hS => ?_)
      refine lv_if_eq (tgt := 47) hx hb dX6_addRaft_21 (by decide) (fun hc => ?_) (fun hc => ?_)
      · have hf := ip hc hf
        refine lv_iconst (v := 0) hx hb dX6_addRaft_47 nc_0 ?_
        cases hf
        exact hret _ _ _ _ dX6_addRaft_48 (Or.inl rfl) hP hS
      · have hf := iq hc hf
        refine lv_aload_n hx hb dX6_addRaft_24 rfl (lv_at hl 0 rfl) ?_
        refine lv_iload_n hx hb dX6_addRaft_25 rfl (lv_at hl 3 rfl) ?_
        obtain ⟨v3, hv, hf⟩ := bs1 hf
        refine x_cVi (As := [.int x3]) (rest := []) hx hb hml hts hown hE hP hS hAA (kX6_has_s hN hD hv) cl_X6_72 (na3 hN) oX_3 vc_6 (Nat.le_trans (by decide) hRf) (Nat.le_trans (by decide) hRl) (Nat.zero_le _) (Nat.zero_le _) rfl hl.1 rfl (Nat.le_of_ble_eq_true rfl) dX6_addRaft_26 (fun H locs hP hS => ?_)
        refine lv_if_eq (tgt := 47) hx hb dX6_addRaft_29 (by decide) (fun hc => ?_) (fun hc => ?_)
        · have hf := ip hc hf
          refine lv_iconst (v := 0) hx hb dX6_addRaft_47 nc_0 ?_
          cases hf
          exact hret _ _ _ _ dX6_addRaft_48 (Or.inl rfl) hP hS
        · have hf := iq hc hf
          refine lv_iload_n hx hb dX6_addRaft_32 rfl (lv_at hl 1 rfl) ?_
          refine lv_iload_n hx hb dX6_addRaft_33 rfl (lv_at hl 2 rfl) ?_
          refine lv_icmp_eq (tgt := 47) hx hb dX6_addRaft_34 (by decide) (fun hc => ?_) (fun hc => ?_)
          · have hf := ip hc hf
            refine lv_iconst (v := 0) hx hb dX6_addRaft_47 nc_0 ?_
            cases hf
            exact hret _ _ _ _ dX6_addRaft_48 (Or.inl rfl) hP hS
          · have hf := iq hc hf
            refine lv_iload_n hx hb dX6_addRaft_37 rfl (lv_at hl 1 rfl) ?_
            refine lv_iload_n hx hb dX6_addRaft_38 rfl (lv_at hl 3 rfl) ?_
            refine lv_icmp_eq (tgt := 47) hx hb dX6_addRaft_39 (by decide) (fun hc => ?_) (fun hc => ?_)
            · have hf := ip hc hf
              refine lv_iconst (v := 0) hx hb dX6_addRaft_47 nc_0 ?_
              cases hf
              exact hret _ _ _ _ dX6_addRaft_48 (Or.inl rfl) hP hS
            · have hf := iq hc hf
              refine lv_iload_n hx hb dX6_addRaft_42 rfl (lv_at hl 2 rfl) ?_
              refine lv_iload_n hx hb dX6_addRaft_43 rfl (lv_at hl 3 rfl) ?_
              refine lv_icmp_ne (tgt := 49) hx hb dX6_addRaft_44 (by decide) (fun hc => ?_) (fun hc => ?_)
              · have hf := iq hc hf
                refine lv_aload_n hx hb dX6_addRaft_49 rfl (lv_at hl 0 rfl) ?_
                refine lv_iload_n hx hb dX6_addRaft_50 rfl (lv_at hl 1 rfl) ?_
                obtain ⟨w4, hv, hf⟩ := bs1 hf
                refine x_cVv (As := [.int x1]) (rest := []) hx hb hml hts hown hE hP hS hAA (kX6_putOnRaft_s hN hD hv) cl_X6_76 (na3 hN) oX_3 vc_6 (Nat.le_trans (by decide) hRf) (Nat.le_trans (by decide) hRl) (Nat.zero_le _) (Nat.zero_le _) rfl hl.1 rfl (Nat.le_of_ble_eq_true rfl) dX6_addRaft_51 (fun H locs hP hS => ?_)
                refine lv_aload_n hx hb dX6_addRaft_54 rfl (lv_at hl 0 rfl) ?_
                refine lv_iload_n hx hb dX6_addRaft_55 rfl (lv_at hl 2 rfl) ?_
                obtain ⟨w5, hv, hf⟩ := bs1 hf
                refine x_cVv (As := [.int x2]) (rest := []) hx hb hml hts hown hE hP hS hAA (kX6_putOnRaft_s hN hD hv) cl_X6_76 (na3 hN) oX_3 vc_6 (Nat.le_trans (by decide) hRf) (Nat.le_trans (by decide) hRl) (Nat.zero_le _) (Nat.zero_le _) rfl hl.1 rfl (Nat.le_of_ble_eq_true rfl) dX6_addRaft_56 (fun H locs hP hS => ?_)
                refine lv_aload_n hx hb dX6_addRaft_59 rfl (lv_at hl 0 rfl) ?_
                refine lv_iload_n hx hb dX6_addRaft_60 rfl (lv_at hl 3 rfl) ?_
                obtain ⟨w6, hv, hf⟩ := bs1 hf
                refine x_cVv (As := [.int x3]) (rest := []) hx hb hml hts hown hE hP hS hAA (kX6_putOnRaft_s hN hD hv) cl_X6_76 (na3 hN) oX_3 vc_6 (Nat.le_trans (by decide) hRf) (Nat.le_trans (by decide) hRl) (Nat.zero_le _) (Nat.zero_le _) rfl hl.1 rfl (Nat.le_of_ble_eq_true rfl) dX6_addRaft_61 (fun H locs hP hS => ?_)
                refine lv_aload_n hx hb dX6_addRaft_64 rfl (lv_at hl 0 rfl) ?_
                refine lv_dup hx hb dX6_addRaft_65 rfl ?_
                refine x_get hx hb hts hown hE hP fl_X6_58 (na3 hN) gX_3_15 dX6_addRaft_66 ?_
                refine lv_iconst (v := 1) hx hb dX6_addRaft_69 nc_1 ?_
                refine lv_iadd hx hb dX6_addRaft_70 ?_
                obtain ⟨w7, hv, hf⟩ := bs1 hf
                refine x_put hx hb hts hown hE hD hA hP hS fp_X6_58 (na3 hN) pX_3_15 rfl rfl hv dX6_addRaft_71 (fun H locs hP hS => ?_)
                refine lv_iconst (v := 1) hx hb dX6_addRaft_74 nc_1 ?_
                cases hf
                exact hret _ _ _ _ dX6_addRaft_75 (Or.inr rfl) hP hS
              · have hf := ip hc hf
                refine lv_iconst (v := 0) hx hb dX6_addRaft_47 nc_0 ?_
                cases hf
                exact hret _ _ _ _ dX6_addRaft_48 (Or.inl rfl) hP hS
def fX6_addBeast_s (w : Mm) (x1 x2 x3 x4 : Int32) : Option (Int32 × Mm) :=
  if 8 ≤ (w 3 12) then
    some (0, w)
  else
    bd1 (fX8_within x1 1 9) fun v1 =>
    if v1 = 0 then
      some (0, w)
    else
      bd1 (fX8_within x2 1 9) fun v2 =>
      if v2 = 0 then
        some (0, w)
      else
        bd1 (fX8_within x3 0 3) fun v3 =>
        if v3 = 0 then
          some (0, w)
        else
          bd1 (fX8_within x4 0 30) fun v4 =>
          if v4 = 0 then
            some (0, w)
          else
            bd1 (wr w 4 8 (w 3 12) x1) fun w5 =>
            bd1 (wr w5 5 8 (w5 3 12) x2) fun w6 =>
            bd1 (wr w6 6 8 (w6 3 12) x3) fun w7 =>
            bd1 (wr w7 7 8 (w7 3 12) x4) fun w8 =>
            bd1 (wr w8 8 8 (w8 3 12) (-4)) fun w9 =>
            bd1 (wr w9 9 8 (w9 3 12) (-4)) fun w10 =>
            bd1 (wr w10 10 8 (w10 3 12) (-4)) fun w11 =>
            bd1 (wr w11 11 8 (w11 3 12) (-4)) fun w12 =>
            bd1 (wr w12 12 8 (w12 3 12) 0) fun w13 =>
            bd1 (pt w13 3 12 ((w13 3 12) + 1)) fun w14 =>
            some (1, w14)
set_option maxHeartbeats 4000000 in
set_option maxRecDepth 100000 in
theorem kX6_addBeast_s {l : Launch} {κ : Kp} {tl : Nat} {N : Nat} {ad : Nat → Nat} {w : Mm} {x1 x2 x3 x4 : Int32} {r : Int32} {w' : Mm} (hN : 16 ≤ N) (hD : Apt ad N) (hf : fX6_addBeast_s w x1 x2 x3 x4 = some (r, w')) : Met l yX6_addBeast (Cond.code yX6_addBeast cX6_addBeast 5 (some .boolean) :: TB) (rmX 1 22) (PcX κ (wX κ tl) N ad w [.ref (ad 3), .int x1, .int x2, .int x3, .int x4]) (QI κ (wX κ tl) N ad w' r) 0 0 (Aof ad N) := by
  refine mkZ (by decide +kernel) (Nat.le_of_ble_eq_true rfl) (fun p e R s m args below meth c Q H locs ls hC hRf hRl hP hS hret hl => ?_)
  obtain ⟨hx, hb, hml, hown, hts, hE⟩ := hC
  have hA : ∀ k, k < N → Aof ad N (ad k) := fun k h => Aof_in h
  have hAA : ∀ z, Aof ad N z → Aof ad N z := fun _ h => h
  have hl : lv_has ls 5 [(0, .ref (ad 3)), (1, .int x1), (2, .int x2), (3, .int x3), (4, .int x4)] := hl
  unfold fX6_addBeast_s at hf
  refine lv_aload_n hx hb dX6_addBeast_0 rfl (lv_at hl 0 rfl) ?_
  refine x_get hx hb hts hown hE hP fl_X6_48 (na3 hN) gX_3_12 dX6_addBeast_1 ?_
  refine lv_bipush (v := 8) hx hb dX6_addBeast_4 nb_8 ?_
  refine lv_icmp_ge (tgt := 49) hx hb dX6_addBeast_6 (by decide) (fun hc => ?_) (fun hc => ?_)
  · have hf := ip hc hf
    refine lv_iconst (v := 0) hx hb dX6_addBeast_49 nc_0 ?_
    cases hf
    exact hret _ _ _ _ dX6_addBeast_50 (Or.inl rfl) hP hS
  · have hf := iq hc hf
    refine lv_iload_n hx hb dX6_addBeast_9 rfl (lv_at hl 1 rfl) ?_
    refine lv_iconst (v := 1) hx hb dX6_addBeast_10 nc_1 ?_
    refine lv_bipush (v := 9) hx hb dX6_addBeast_11 nb_9 ?_
    obtain ⟨v1, hv, hf⟩ := bs1 hf
    refine x_cNi (As := [.int x1, .int 1, .int 9]) (rest := []) hx hb hml hts hown hE hP hS hAA (kX8_within hv) cn_within hE.2.2.2 (Nat.le_trans (by decide) hRf) (Nat.le_trans (by decide) hRl) (Nat.zero_le _) (Nat.zero_le _) rfl hl.1 rfl (Nat.le_of_ble_eq_true rfl) dX6_addBeast_13 (fun H locs hP hS => ?_)
    refine lv_if_eq (tgt := 49) hx hb dX6_addBeast_16 (by decide) (fun hc => ?_) (fun hc => ?_)
    · have hf := ip hc hf
      refine lv_iconst (v := 0) hx hb dX6_addBeast_49 nc_0 ?_
      cases hf
      exact hret _ _ _ _ dX6_addBeast_50 (Or.inl rfl) hP hS
    · have hf := iq hc hf
      refine lv_iload_n hx hb dX6_addBeast_19 rfl (lv_at hl 2 rfl) ?_
      refine lv_iconst (v := 1) hx hb dX6_addBeast_20 nc_1 ?_
      refine lv_bipush (v := 9) hx hb dX6_addBeast_21 nb_9 ?_
      obtain ⟨v2, hv, hf⟩ := bs1 hf
      refine x_cNi (As := [.int x2, .int 1, .int 9]) (rest := []) hx hb hml hts hown hE hP hS hAA (kX8_within hv) cn_within hE.2.2.2 (Nat.le_trans (by decide) hRf) (Nat.le_trans (by decide) hRl) (Nat.zero_le _) (Nat.zero_le _) rfl hl.1 rfl (Nat.le_of_ble_eq_true rfl) dX6_addBeast_23 (fun H locs hP hS => ?_)
      refine lv_if_eq (tgt := 49) hx hb dX6_addBeast_26 (by decide) (fun hc => ?_) (fun hc => ?_)
      · have hf := ip hc hf
        refine lv_iconst (v := 0) hx hb dX6_addBeast_49 nc_0 ?_
        cases hf
        exact hret _ _ _ _ dX6_addBeast_50 (Or.inl rfl) hP hS
      · have hf := iq hc hf
        refine lv_iload_n hx hb dX6_addBeast_29 rfl (lv_at hl 3 rfl) ?_
        refine lv_iconst (v := 0) hx hb dX6_addBeast_30 nc_0 ?_
        refine lv_iconst (v := 3) hx hb dX6_addBeast_31 nc_3 ?_
        obtain ⟨v3, hv, hf⟩ := bs1 hf
        refine x_cNi (As := [.int x3, .int 0, .int 3]) (rest := []) hx hb hml hts hown hE hP hS hAA (kX8_within hv) cn_within hE.2.2.2 (Nat.le_trans (by decide) hRf) (Nat.le_trans (by decide) hRl) (Nat.zero_le _) (Nat.zero_le _) rfl hl.1 rfl (Nat.le_of_ble_eq_true rfl) dX6_addBeast_32 (fun H locs hP hS => ?_)
        refine lv_if_eq (tgt := 49) hx hb dX6_addBeast_35 (by decide) (fun hc => ?_) (fun hc => ?_)
        · have hf := ip hc hf
          refine lv_iconst (v := 0) hx hb dX6_addBeast_49 nc_0 ?_
          cases hf
          exact hret _ _ _ _ dX6_addBeast_50 (Or.inl rfl) hP hS
        · have hf := iq hc hf
          refine lv_iload hx hb dX6_addBeast_38 (lv_at hl 4 rfl) ?_
          refine lv_iconst (v := 0) hx hb dX6_addBeast_40 nc_0 ?_
          refine lv_bipush (v := 30) hx hb dX6_addBeast_41 nb_30 ?_
          obtain ⟨v4, hv, hf⟩ := bs1 hf
          refine x_cNi (As := [.int x4, .int 0, .int 30]) (rest := []) hx hb hml hts hown hE hP hS hAA (kX8_within hv) cn_within hE.2.2.2 (Nat.le_trans (by decide) hRf) (Nat.le_trans (by decide) hRl) (Nat.zero_le _) (Nat.zero_le _) rfl hl.1 rfl (Nat.le_of_ble_eq_true rfl) dX6_addBeast_43 (fun H locs hP hS => ?_)
          refine lv_if_ne (tgt := 51) hx hb dX6_addBeast_46 (by decide) (fun hc => ?_) (fun hc => ?_)
          · have hf := iq hc hf
            refine lv_aload_n hx hb dX6_addBeast_51 rfl (lv_at hl 0 rfl) ?_
            refine x_get hx hb hts hown hE hP fl_X6_9 (na3 hN) gX_3_0 dX6_addBeast_52 ?_
            refine lv_aload_n hx hb dX6_addBeast_55 rfl (lv_at hl 0 rfl) ?_
            refine x_get hx hb hts hown hE hP fl_X6_48 (na3 hN) gX_3_12 dX6_addBeast_56 ?_
            refine lv_iload_n hx hb dX6_addBeast_59 rfl (lv_at hl 1 rfl) ?_
            obtain ⟨w5, hv, hf⟩ := bs1 hf
            refine x_iast hx hb hE hD hA hP hS (na4 hN) aX_4 hv dX6_addBeast_60 (fun H locs hP hS => ?_)
            refine lv_aload_n hx hb dX6_addBeast_61 rfl (lv_at hl 0 rfl) ?_
            refine x_get hx hb hts hown hE hP fl_X6_15 (na3 hN) gX_3_1 dX6_addBeast_62 ?_
            refine lv_aload_n hx hb dX6_addBeast_65 rfl (lv_at hl 0 rfl) ?_
            refine x_get hx hb hts hown hE hP fl_X6_48 (na3 hN) gX_3_12 dX6_addBeast_66 ?_
            refine lv_iload_n hx hb dX6_addBeast_69 rfl (lv_at hl 2 rfl) ?_
            obtain ⟨w6, hv, hf⟩ := bs1 hf
            refine x_iast hx hb hE hD hA hP hS (na5 hN) aX_5 hv dX6_addBeast_70 (fun H locs hP hS => ?_)
            refine lv_aload_n hx hb dX6_addBeast_71 rfl (lv_at hl 0 rfl) ?_
            refine x_get hx hb hts hown hE hP fl_X6_18 (na3 hN) gX_3_2 dX6_addBeast_72 ?_
            refine lv_aload_n hx hb dX6_addBeast_75 rfl (lv_at hl 0 rfl) ?_
            refine x_get hx hb hts hown hE hP fl_X6_48 (na3 hN) gX_3_12 dX6_addBeast_76 ?_
            refine lv_iload_n hx hb dX6_addBeast_79 rfl (lv_at hl 3 rfl) ?_
            obtain ⟨w7, hv, hf⟩ := bs1 hf
            refine x_iast hx hb hE hD hA hP hS (na6 hN) aX_6 hv dX6_addBeast_80 (fun H locs hP hS => ?_)
            refine lv_aload_n hx hb dX6_addBeast_81 rfl (lv_at hl 0 rfl) ?_
            refine x_get hx hb hts hown hE hP fl_X6_21 (na3 hN) gX_3_3 dX6_addBeast_82 ?_
            refine lv_aload_n hx hb dX6_addBeast_85 rfl (lv_at hl 0 rfl) ?_
            refine x_get hx hb hts hown hE hP fl_X6_48 (na3 hN) gX_3_12 dX6_addBeast_86 ?_
            refine lv_iload hx hb dX6_addBeast_89 (lv_at hl 4 rfl) ?_
            obtain ⟨w8, hv, hf⟩ := bs1 hf
            refine x_iast hx hb hE hD hA hP hS (na7 hN) aX_7 hv dX6_addBeast_91 (fun H locs hP hS => ?_)
            refine lv_aload_n hx hb dX6_addBeast_92 rfl (lv_at hl 0 rfl) ?_
            refine x_get hx hb hts hown hE hP fl_X6_24 (na3 hN) gX_3_4 dX6_addBeast_93 ?_
            refine lv_aload_n hx hb dX6_addBeast_96 rfl (lv_at hl 0 rfl) ?_
            refine x_get hx hb hts hown hE hP fl_X6_48 (na3 hN) gX_3_12 dX6_addBeast_97 ?_
            refine lv_bipush (v := (-4)) hx hb dX6_addBeast_100 nb_m4 ?_
            obtain ⟨w9, hv, hf⟩ := bs1 hf
            refine x_iast hx hb hE hD hA hP hS (na8 hN) aX_8 hv dX6_addBeast_102 (fun H locs hP hS => ?_)
            refine lv_aload_n hx hb dX6_addBeast_103 rfl (lv_at hl 0 rfl) ?_
            refine x_get hx hb hts hown hE hP fl_X6_27 (na3 hN) gX_3_5 dX6_addBeast_104 ?_
            refine lv_aload_n hx hb dX6_addBeast_107 rfl (lv_at hl 0 rfl) ?_
            refine x_get hx hb hts hown hE hP fl_X6_48 (na3 hN) gX_3_12 dX6_addBeast_108 ?_
            refine lv_bipush (v := (-4)) hx hb dX6_addBeast_111 nb_m4 ?_
            obtain ⟨w10, hv, hf⟩ := bs1 hf
            refine x_iast hx hb hE hD hA hP hS (na9 hN) aX_9 hv dX6_addBeast_113 (fun H locs hP hS => ?_)
            refine lv_aload_n hx hb dX6_addBeast_114 rfl (lv_at hl 0 rfl) ?_
            refine x_get hx hb hts hown hE hP fl_X6_30 (na3 hN) gX_3_6 dX6_addBeast_115 ?_
            refine lv_aload_n hx hb dX6_addBeast_118 rfl (lv_at hl 0 rfl) ?_
            refine x_get hx hb hts hown hE hP fl_X6_48 (na3 hN) gX_3_12 dX6_addBeast_119 ?_
            refine lv_bipush (v := (-4)) hx hb dX6_addBeast_122 nb_m4 ?_
            obtain ⟨w11, hv, hf⟩ := bs1 hf
            refine x_iast hx hb hE hD hA hP hS (na10 hN) aX_10 hv dX6_addBeast_124 (fun H locs hP hS => ?_)
            refine lv_aload_n hx hb dX6_addBeast_125 rfl (lv_at hl 0 rfl) ?_
            refine x_get hx hb hts hown hE hP fl_X6_33 (na3 hN) gX_3_7 dX6_addBeast_126 ?_
            refine lv_aload_n hx hb dX6_addBeast_129 rfl (lv_at hl 0 rfl) ?_
            refine x_get hx hb hts hown hE hP fl_X6_48 (na3 hN) gX_3_12 dX6_addBeast_130 ?_
            refine lv_bipush (v := (-4)) hx hb dX6_addBeast_133 nb_m4 ?_
            obtain ⟨w12, hv, hf⟩ := bs1 hf
            refine x_iast hx hb hE hD hA hP hS (na11 hN) aX_11 hv dX6_addBeast_135 (fun H locs hP hS => ?_)
            refine lv_aload_n hx hb dX6_addBeast_136 rfl (lv_at hl 0 rfl) ?_
            refine x_get hx hb hts hown hE hP fl_X6_36 (na3 hN) gX_3_8 dX6_addBeast_137 ?_
            refine lv_aload_n hx hb dX6_addBeast_140 rfl (lv_at hl 0 rfl) ?_
            refine x_get hx hb hts hown hE hP fl_X6_48 (na3 hN) gX_3_12 dX6_addBeast_141 ?_
            refine lv_iconst (v := 0) hx hb dX6_addBeast_144 nc_0 ?_
            obtain ⟨w13, hv, hf⟩ := bs1 hf
            refine x_iast hx hb hE hD hA hP hS (na12 hN) aX_12 hv dX6_addBeast_145 (fun H locs hP hS => ?_)
            refine lv_aload_n hx hb dX6_addBeast_146 rfl (lv_at hl 0 rfl) ?_
            refine lv_dup hx hb dX6_addBeast_147 rfl ?_
            refine x_get hx hb hts hown hE hP fl_X6_48 (na3 hN) gX_3_12 dX6_addBeast_148 ?_
            refine lv_iconst (v := 1) hx hb dX6_addBeast_151 nc_1 ?_
            refine lv_iadd hx hb dX6_addBeast_152 ?_
            obtain ⟨w14, hv, hf⟩ := bs1 hf
            refine x_put hx hb hts hown hE hD hA hP hS fp_X6_48 (na3 hN) pX_3_12 rfl rfl hv dX6_addBeast_153 (fun H locs hP hS => ?_)
            refine lv_iconst (v := 1) hx hb dX6_addBeast_156 nc_1 ?_
            cases hf
            exact hret _ _ _ _ dX6_addBeast_157 (Or.inr rfl) hP hS
          · have hf := ip hc hf
            refine lv_iconst (v := 0) hx hb dX6_addBeast_49 nc_0 ?_
            cases hf
            exact hret _ _ _ _ dX6_addBeast_50 (Or.inl rfl) hP hS
def fX6_addCurrent_s (w : Mm) (x1 x2 : Int32) : Option (Int32 × Mm) :=
  if 4 ≤ (w 3 14) then
    some (0, w)
  else
    bd1 (fX8_within x1 0 99) fun v1 =>
    if v1 = 0 then
      some (0, w)
    else
      bd1 (fX8_within x2 0 5) fun v2 =>
      if v2 = 0 then
        some (0, w)
      else
        bd1 (wr w 13 4 (w 3 14) x1) fun w3 =>
        bd1 (wr w3 14 4 (w3 3 14) x2) fun w4 =>
        bd1 (pt w4 3 14 ((w4 3 14) + 1)) fun w5 =>
        some (1, w5)
set_option maxHeartbeats 4000000 in
set_option maxRecDepth 100000 in
theorem kX6_addCurrent_s {l : Launch} {κ : Kp} {tl : Nat} {N : Nat} {ad : Nat → Nat} {w : Mm} {x1 x2 : Int32} {r : Int32} {w' : Mm} (hN : 16 ≤ N) (hD : Apt ad N) (hf : fX6_addCurrent_s w x1 x2 = some (r, w')) : Met l yX6_addCurrent (Cond.code yX6_addCurrent cX6_addCurrent 3 (some .boolean) :: TB) (rmX 1 22) (PcX κ (wX κ tl) N ad w [.ref (ad 3), .int x1, .int x2]) (QI κ (wX κ tl) N ad w' r) 0 0 (Aof ad N) := by
  refine mkZ (by decide +kernel) (Nat.le_of_ble_eq_true rfl) (fun p e R s m args below meth c Q H locs ls hC hRf hRl hP hS hret hl => ?_)
  obtain ⟨hx, hb, hml, hown, hts, hE⟩ := hC
  have hA : ∀ k, k < N → Aof ad N (ad k) := fun k h => Aof_in h
  have hAA : ∀ z, Aof ad N z → Aof ad N z := fun _ h => h
  have hl : lv_has ls 3 [(0, .ref (ad 3)), (1, .int x1), (2, .int x2)] := hl
  unfold fX6_addCurrent_s at hf
  refine lv_aload_n hx hb dX6_addCurrent_0 rfl (lv_at hl 0 rfl) ?_
  refine x_get hx hb hts hown hE hP fl_X6_55 (na3 hN) gX_3_14 dX6_addCurrent_1 ?_
  refine lv_iconst (v := 4) hx hb dX6_addCurrent_4 nc_4 ?_
  refine lv_icmp_ge (tgt := 27) hx hb dX6_addCurrent_5 (by decide) (fun hc => ?_) (fun hc => ?_)
  · have hf := ip hc hf
    refine lv_iconst (v := 0) hx hb dX6_addCurrent_27 nc_0 ?_
    cases hf
    exact hret _ _ _ _ dX6_addCurrent_28 (Or.inl rfl) hP hS
  · have hf := iq hc hf
    refine lv_iload_n hx hb dX6_addCurrent_8 rfl (lv_at hl 1 rfl) ?_
    refine lv_iconst (v := 0) hx hb dX6_addCurrent_9 nc_0 ?_
    refine lv_bipush (v := 99) hx hb dX6_addCurrent_10 nb_99 ?_
    obtain ⟨v1, hv, hf⟩ := bs1 hf
    refine x_cNi (As := [.int x1, .int 0, .int 99]) (rest := []) hx hb hml hts hown hE hP hS hAA (kX8_within hv) cn_within hE.2.2.2 (Nat.le_trans (by decide) hRf) (Nat.le_trans (by decide) hRl) (Nat.zero_le _) (Nat.zero_le _) rfl hl.1 rfl (Nat.le_of_ble_eq_true rfl) dX6_addCurrent_12 (fun H locs hP hS => ?_)
    refine lv_if_eq (tgt := 27) hx hb dX6_addCurrent_15 (by decide) (fun hc => ?_) (fun hc => ?_)
    · have hf := ip hc hf
      refine lv_iconst (v := 0) hx hb dX6_addCurrent_27 nc_0 ?_
      cases hf
      exact hret _ _ _ _ dX6_addCurrent_28 (Or.inl rfl) hP hS
    · have hf := iq hc hf
      refine lv_iload_n hx hb dX6_addCurrent_18 rfl (lv_at hl 2 rfl) ?_
      refine lv_iconst (v := 0) hx hb dX6_addCurrent_19 nc_0 ?_
      refine lv_iconst (v := 5) hx hb dX6_addCurrent_20 nc_5 ?_
      obtain ⟨v2, hv, hf⟩ := bs1 hf
      refine x_cNi (As := [.int x2, .int 0, .int 5]) (rest := []) hx hb hml hts hown hE hP hS hAA (kX8_within hv) cn_within hE.2.2.2 (Nat.le_trans (by decide) hRf) (Nat.le_trans (by decide) hRl) (Nat.zero_le _) (Nat.zero_le _) rfl hl.1 rfl (Nat.le_of_ble_eq_true rfl) dX6_addCurrent_21 (fun H locs hP hS => ?_)
      refine lv_if_ne (tgt := 29) hx hb dX6_addCurrent_24 (by decide) (fun hc => ?_) (fun hc => ?_)
      · have hf := iq hc hf
        refine lv_aload_n hx hb dX6_addCurrent_29 rfl (lv_at hl 0 rfl) ?_
        refine x_get hx hb hts hown hE hP fl_X6_39 (na3 hN) gX_3_9 dX6_addCurrent_30 ?_
        refine lv_aload_n hx hb dX6_addCurrent_33 rfl (lv_at hl 0 rfl) ?_
        refine x_get hx hb hts hown hE hP fl_X6_55 (na3 hN) gX_3_14 dX6_addCurrent_34 ?_
        refine lv_iload_n hx hb dX6_addCurrent_37 rfl (lv_at hl 1 rfl) ?_
        obtain ⟨w3, hv, hf⟩ := bs1 hf
        refine x_iast hx hb hE hD hA hP hS (na13 hN) aX_13 hv dX6_addCurrent_38 (fun H locs hP hS => ?_)
        refine lv_aload_n hx hb dX6_addCurrent_39 rfl (lv_at hl 0 rfl) ?_
        refine x_get hx hb hts hown hE hP fl_X6_42 (na3 hN) gX_3_10 dX6_addCurrent_40 ?_
        refine lv_aload_n hx hb dX6_addCurrent_43 rfl (lv_at hl 0 rfl) ?_
        refine x_get hx hb hts hown hE hP fl_X6_55 (na3 hN) gX_3_14 dX6_addCurrent_44 ?_
        refine lv_iload_n hx hb dX6_addCurrent_47 rfl (lv_at hl 2 rfl) ?_
        obtain ⟨w4, hv, hf⟩ := bs1 hf
        refine x_iast hx hb hE hD hA hP hS (na14 hN) aX_14 hv dX6_addCurrent_48 (fun H locs hP hS => ?_)
        refine lv_aload_n hx hb dX6_addCurrent_49 rfl (lv_at hl 0 rfl) ?_
        refine lv_dup hx hb dX6_addCurrent_50 rfl ?_
        refine x_get hx hb hts hown hE hP fl_X6_55 (na3 hN) gX_3_14 dX6_addCurrent_51 ?_
        refine lv_iconst (v := 1) hx hb dX6_addCurrent_54 nc_1 ?_
        refine lv_iadd hx hb dX6_addCurrent_55 ?_
        obtain ⟨w5, hv, hf⟩ := bs1 hf
        refine x_put hx hb hts hown hE hD hA hP hS fp_X6_55 (na3 hN) pX_3_14 rfl rfl hv dX6_addCurrent_56 (fun H locs hP hS => ?_)
        refine lv_iconst (v := 1) hx hb dX6_addCurrent_59 nc_1 ?_
        cases hf
        exact hret _ _ _ _ dX6_addCurrent_60 (Or.inr rfl) hP hS
      · have hf := ip hc hf
        refine lv_iconst (v := 0) hx hb dX6_addCurrent_27 nc_0 ?_
        cases hf
        exact hret _ _ _ _ dX6_addCurrent_28 (Or.inl rfl) hP hS
def fX6_setCarrier_s (w : Mm) (x1 x2 : Int32) : Option (Int32 × Mm) :=
  bd1 (fX6_has_s w x1) fun v1 =>
  if v1 = 0 then
    some (0, w)
  else
    bd1 (fX6_has_s w x2) fun v2 =>
    if v2 = 0 then
      some (0, w)
    else
      if x1 = x2 then
        some (0, w)
      else
        bd1 (wr w 8 8 x1 x2) fun w3 =>
        some (1, w3)
set_option maxHeartbeats 4000000 in
set_option maxRecDepth 100000 in
theorem kX6_setCarrier_s {l : Launch} {κ : Kp} {tl : Nat} {N : Nat} {ad : Nat → Nat} {w : Mm} {x1 x2 : Int32} {r : Int32} {w' : Mm} (hN : 16 ≤ N) (hD : Apt ad N) (hf : fX6_setCarrier_s w x1 x2 = some (r, w')) : Met l yX6_setCarrier (Cond.code yX6_setCarrier cX6_setCarrier 3 (some .boolean) :: TB) (rmX 1 21) (PcX κ (wX κ tl) N ad w [.ref (ad 3), .int x1, .int x2]) (QI κ (wX κ tl) N ad w' r) 0 0 (Aof ad N) := by
  refine mkZ (by decide +kernel) (Nat.le_of_ble_eq_true rfl) (fun p e R s m args below meth c Q H locs ls hC hRf hRl hP hS hret hl => ?_)
  obtain ⟨hx, hb, hml, hown, hts, hE⟩ := hC
  have hA : ∀ k, k < N → Aof ad N (ad k) := fun k h => Aof_in h
  have hAA : ∀ z, Aof ad N z → Aof ad N z := fun _ h => h
  have hl : lv_has ls 3 [(0, .ref (ad 3)), (1, .int x1), (2, .int x2)] := hl
  unfold fX6_setCarrier_s at hf
  refine lv_aload_n hx hb dX6_setCarrier_0 rfl (lv_at hl 0 rfl) ?_
  refine lv_iload_n hx hb dX6_setCarrier_1 rfl (lv_at hl 1 rfl) ?_
  obtain ⟨v1, hv, hf⟩ := bs1 hf
  refine x_cVi (As := [.int x1]) (rest := []) hx hb hml hts hown hE hP hS hAA (kX6_has_s hN hD hv) cl_X6_72 (na3 hN) oX_3 vc_6 (Nat.le_trans (by decide) hRf) (Nat.le_trans (by decide) hRl) (Nat.zero_le _) (Nat.zero_le _) rfl hl.1 rfl (Nat.le_of_ble_eq_true rfl) dX6_setCarrier_2 (fun H locs hP hS => ?_)
  refine lv_if_eq (tgt := 21) hx hb dX6_setCarrier_5 (by decide) (fun hc => ?_) (fun hc => ?_)
  · have hf := ip hc hf
    refine lv_iconst (v := 0) hx hb dX6_setCarrier_21 nc_0 ?_
    cases hf
    exact hret _ _ _ _ dX6_setCarrier_22 (Or.inl rfl) hP hS
  · have hf := iq hc hf
    refine lv_aload_n hx hb dX6_setCarrier_8 rfl (lv_at hl 0 rfl) ?_
    refine lv_iload_n hx hb dX6_setCarrier_9 rfl (lv_at hl 2 rfl) ?_
    obtain ⟨v2, hv, hf⟩ := bs1 hf
    refine x_cVi (As := [.int x2]) (rest := []) hx hb hml hts hown hE hP hS hAA (kX6_has_s hN hD hv) cl_X6_72 (na3 hN) oX_3 vc_6 (Nat.le_trans (by decide) hRf) (Nat.le_trans (by decide) hRl) (Nat.zero_le _) (Nat.zero_le _) rfl hl.1 rfl (Nat.le_of_ble_eq_true rfl) dX6_setCarrier_10 (fun H locs hP hS => ?_)
    refine lv_if_eq (tgt := 21) hx hb dX6_setCarrier_13 (by decide) (fun hc => ?_) (fun hc => ?_)
    · have hf := ip hc hf
      refine lv_iconst (v := 0) hx hb dX6_setCarrier_21 nc_0 ?_
      cases hf
      exact hret _ _ _ _ dX6_setCarrier_22 (Or.inl rfl) hP hS
    · have hf := iq hc hf
      refine lv_iload_n hx hb dX6_setCarrier_16 rfl (lv_at hl 1 rfl) ?_
      refine lv_iload_n hx hb dX6_setCarrier_17 rfl (lv_at hl 2 rfl) ?_
      refine lv_icmp_ne (tgt := 23) hx hb dX6_setCarrier_18 (by decide) (fun hc => ?_) (fun hc => ?_)
      · have hf := iq hc hf
        refine lv_aload_n hx hb dX6_setCarrier_23 rfl (lv_at hl 0 rfl) ?_
        refine x_get hx hb hts hown hE hP fl_X6_24 (na3 hN) gX_3_4 dX6_setCarrier_24 ?_
        refine lv_iload_n hx hb dX6_setCarrier_27 rfl (lv_at hl 1 rfl) ?_
        refine lv_iload_n hx hb dX6_setCarrier_28 rfl (lv_at hl 2 rfl) ?_
        obtain ⟨w3, hv, hf⟩ := bs1 hf
        refine x_iast hx hb hE hD hA hP hS (na8 hN) aX_8 hv dX6_setCarrier_29 (fun H locs hP hS => ?_)
        refine lv_iconst (v := 1) hx hb dX6_setCarrier_30 nc_1 ?_
        cases hf
        exact hret _ _ _ _ dX6_setCarrier_31 (Or.inr rfl) hP hS
      · have hf := ip hc hf
        refine lv_iconst (v := 0) hx hb dX6_setCarrier_21 nc_0 ?_
        cases hf
        exact hret _ _ _ _ dX6_setCarrier_22 (Or.inl rfl) hP hS
def fX6_addVoice_s (w : Mm) (x1 : Int32) : Option (Int32 × Mm) :=
  bd1 (fX6_has_s w x1) fun v1 =>
  if v1 = 0 then
    some (0, w)
  else
    bd1 (rd w 10 8 x1) fun v2 =>
    if v2 = (-4) then
      bd1 (wr w 10 8 x1 (w 3 16)) fun w3 =>
      bd1 (pt w3 3 16 ((w3 3 16) + 1)) fun w4 =>
      some (1, w4)
    else
      some (1, w)
set_option maxHeartbeats 4000000 in
set_option maxRecDepth 100000 in
theorem kX6_addVoice_s {l : Launch} {κ : Kp} {tl : Nat} {N : Nat} {ad : Nat → Nat} {w : Mm} {x1 : Int32} {r : Int32} {w' : Mm} (hN : 16 ≤ N) (hD : Apt ad N) (hf : fX6_addVoice_s w x1 = some (r, w')) : Met l yX6_addVoice (Cond.code yX6_addVoice cX6_addVoice 2 (some .boolean) :: TB) (rmX 1 21) (PcX κ (wX κ tl) N ad w [.ref (ad 3), .int x1]) (QI κ (wX κ tl) N ad w' r) 0 0 (Aof ad N) := by
  refine mkZ (by decide +kernel) (Nat.le_of_ble_eq_true rfl) (fun p e R s m args below meth c Q H locs ls hC hRf hRl hP hS hret hl => ?_)
  obtain ⟨hx, hb, hml, hown, hts, hE⟩ := hC
  have hA : ∀ k, k < N → Aof ad N (ad k) := fun k h => Aof_in h
  have hAA : ∀ z, Aof ad N z → Aof ad N z := fun _ h => h
  have hl : lv_has ls 2 [(0, .ref (ad 3)), (1, .int x1)] := hl
  unfold fX6_addVoice_s at hf
  refine lv_aload_n hx hb dX6_addVoice_0 rfl (lv_at hl 0 rfl) ?_
  refine lv_iload_n hx hb dX6_addVoice_1 rfl (lv_at hl 1 rfl) ?_
  obtain ⟨v1, hv, hf⟩ := bs1 hf
  refine x_cVi (As := [.int x1]) (rest := []) hx hb hml hts hown hE hP hS hAA (kX6_has_s hN hD hv) cl_X6_72 (na3 hN) oX_3 vc_6 (Nat.le_trans (by decide) hRf) (Nat.le_trans (by decide) hRl) (Nat.zero_le _) (Nat.zero_le _) rfl hl.1 rfl (Nat.le_of_ble_eq_true rfl) dX6_addVoice_2 (fun H locs hP hS => ?_)
  refine lv_if_ne (tgt := 10) hx hb dX6_addVoice_5 (by decide) (fun hc => ?_) (fun hc => ?_)
  · have hf := iq hc hf
    refine lv_aload_n hx hb dX6_addVoice_10 rfl (lv_at hl 0 rfl) ?_
    refine x_get hx hb hts hown hE hP fl_X6_30 (na3 hN) gX_3_6 dX6_addVoice_11 ?_
    refine lv_iload_n hx hb dX6_addVoice_14 rfl (lv_at hl 1 rfl) ?_
    obtain ⟨v2, hv, hf⟩ := bs1 hf
    refine x_iald hx hb hE hP (na10 hN) (aX_10 _) hv dX6_addVoice_15 ?_
    refine lv_bipush (v := (-4)) hx hb dX6_addVoice_16 nb_m4 ?_
    refine lv_icmp_ne (tgt := 41) hx hb dX6_addVoice_18 (by decide) (fun hc => ?_) (fun hc => ?_)
    · have hf := iq hc hf
      refine lv_iconst (v := 1) hx hb dX6_addVoice_41 nc_1 ?_
      cases hf
      exact hret _ _ _ _ dX6_addVoice_42 (Or.inr rfl) hP hS
    · have hf := ip hc hf
      refine lv_aload_n hx hb dX6_addVoice_21 rfl (lv_at hl 0 rfl) ?_
      refine x_get hx hb hts hown hE hP fl_X6_30 (na3 hN) gX_3_6 dX6_addVoice_22 ?_
      refine lv_iload_n hx hb dX6_addVoice_25 rfl (lv_at hl 1 rfl) ?_
      refine lv_aload_n hx hb dX6_addVoice_26 rfl (lv_at hl 0 rfl) ?_
      refine x_get hx hb hts hown hE hP fl_X6_61 (na3 hN) gX_3_16 dX6_addVoice_27 ?_
      obtain ⟨w3, hv, hf⟩ := bs1 hf
      refine x_iast hx hb hE hD hA hP hS (na10 hN) aX_10 hv dX6_addVoice_30 (fun H locs hP hS => ?_)
      refine lv_aload_n hx hb dX6_addVoice_31 rfl (lv_at hl 0 rfl) ?_
      refine lv_dup hx hb dX6_addVoice_32 rfl ?_
      refine x_get hx hb hts hown hE hP fl_X6_61 (na3 hN) gX_3_16 dX6_addVoice_33 ?_
      refine lv_iconst (v := 1) hx hb dX6_addVoice_36 nc_1 ?_
      refine lv_iadd hx hb dX6_addVoice_37 ?_
      obtain ⟨w4, hv, hf⟩ := bs1 hf
      refine x_put hx hb hts hown hE hD hA hP hS fp_X6_61 (na3 hN) pX_3_16 rfl rfl hv dX6_addVoice_38 (fun H locs hP hS => ?_)
      refine lv_iconst (v := 1) hx hb dX6_addVoice_41 nc_1 ?_
      cases hf
      exact hret _ _ _ _ dX6_addVoice_42 (Or.inr rfl) hP hS
  · have hf := ip hc hf
    refine lv_iconst (v := 0) hx hb dX6_addVoice_8 nc_0 ?_
    cases hf
    exact hret _ _ _ _ dX6_addVoice_9 (Or.inl rfl) hP hS
def fX6_setWant_s (w : Mm) (x1 x2 : Int32) : Option (Int32 × Mm) :=
  bd1 (fX6_has_s w x1) fun v1 =>
  if v1 = 0 then
    some (0, w)
  else
    bd1 (fX8_within x2 1 8) fun v2 =>
    if v2 = 0 then
      some (0, w)
    else
      bd1 (wr w 11 8 x1 x2) fun w3 =>
      some (1, w3)
set_option maxHeartbeats 4000000 in
set_option maxRecDepth 100000 in
theorem kX6_setWant_s {l : Launch} {κ : Kp} {tl : Nat} {N : Nat} {ad : Nat → Nat} {w : Mm} {x1 x2 : Int32} {r : Int32} {w' : Mm} (hN : 16 ≤ N) (hD : Apt ad N) (hf : fX6_setWant_s w x1 x2 = some (r, w')) : Met l yX6_setWant (Cond.code yX6_setWant cX6_setWant 3 (some .boolean) :: TB) (rmX 1 22) (PcX κ (wX κ tl) N ad w [.ref (ad 3), .int x1, .int x2]) (QI κ (wX κ tl) N ad w' r) 0 0 (Aof ad N) := by
  refine mkZ (by decide +kernel) (Nat.le_of_ble_eq_true rfl) (fun p e R s m args below meth c Q H locs ls hC hRf hRl hP hS hret hl => ?_)
  obtain ⟨hx, hb, hml, hown, hts, hE⟩ := hC
  have hA : ∀ k, k < N → Aof ad N (ad k) := fun k h => Aof_in h
  have hAA : ∀ z, Aof ad N z → Aof ad N z := fun _ h => h
  have hl : lv_has ls 3 [(0, .ref (ad 3)), (1, .int x1), (2, .int x2)] := hl
  unfold fX6_setWant_s at hf
  refine lv_aload_n hx hb dX6_setWant_0 rfl (lv_at hl 0 rfl) ?_
  refine lv_iload_n hx hb dX6_setWant_1 rfl (lv_at hl 1 rfl) ?_
  obtain ⟨v1, hv, hf⟩ := bs1 hf
  refine x_cVi (As := [.int x1]) (rest := []) hx hb hml hts hown hE hP hS hAA (kX6_has_s hN hD hv) cl_X6_72 (na3 hN) oX_3 vc_6 (Nat.le_trans (by decide) hRf) (Nat.le_trans (by decide) hRl) (Nat.zero_le _) (Nat.zero_le _) rfl hl.1 rfl (Nat.le_of_ble_eq_true rfl) dX6_setWant_2 (fun H locs hP hS => ?_)
  refine lv_if_eq (tgt := 18) hx hb dX6_setWant_5 (by decide) (fun hc => ?_) (fun hc => ?_)
  · have hf := ip hc hf
    refine lv_iconst (v := 0) hx hb dX6_setWant_18 nc_0 ?_
    cases hf
    exact hret _ _ _ _ dX6_setWant_19 (Or.inl rfl) hP hS
  · have hf := iq hc hf
    refine lv_iload_n hx hb dX6_setWant_8 rfl (lv_at hl 2 rfl) ?_
    refine lv_iconst (v := 1) hx hb dX6_setWant_9 nc_1 ?_
    refine lv_bipush (v := 8) hx hb dX6_setWant_10 nb_8 ?_
    obtain ⟨v2, hv, hf⟩ := bs1 hf
    refine x_cNi (As := [.int x2, .int 1, .int 8]) (rest := []) hx hb hml hts hown hE hP hS hAA (kX8_within hv) cn_within hE.2.2.2 (Nat.le_trans (by decide) hRf) (Nat.le_trans (by decide) hRl) (Nat.zero_le _) (Nat.zero_le _) rfl hl.1 rfl (Nat.le_of_ble_eq_true rfl) dX6_setWant_12 (fun H locs hP hS => ?_)
    refine lv_if_ne (tgt := 20) hx hb dX6_setWant_15 (by decide) (fun hc => ?_) (fun hc => ?_)
    · have hf := iq hc hf
      refine lv_aload_n hx hb dX6_setWant_20 rfl (lv_at hl 0 rfl) ?_
      refine x_get hx hb hts hown hE hP fl_X6_33 (na3 hN) gX_3_7 dX6_setWant_21 ?_
      refine lv_iload_n hx hb dX6_setWant_24 rfl (lv_at hl 1 rfl) ?_
      refine lv_iload_n hx hb dX6_setWant_25 rfl (lv_at hl 2 rfl) ?_
      obtain ⟨w3, hv, hf⟩ := bs1 hf
      refine x_iast hx hb hE hD hA hP hS (na11 hN) aX_11 hv dX6_setWant_26 (fun H locs hP hS => ?_)
      refine lv_iconst (v := 1) hx hb dX6_setWant_27 nc_1 ?_
      cases hf
      exact hret _ _ _ _ dX6_setWant_28 (Or.inr rfl) hP hS
    · have hf := ip hc hf
      refine lv_iconst (v := 0) hx hb dX6_setWant_18 nc_0 ?_
      cases hf
      exact hret _ _ _ _ dX6_setWant_19 (Or.inl rfl) hP hS
def fX6_setWidth_s (w : Mm) (x1 : Int32) : Option (Int32 × Mm) :=
  bd1 (fX8_within x1 1 99) fun v1 =>
  if v1 = 0 then
    some (0, w)
  else
    bd1 (pt w 3 13 x1) fun w2 =>
    some (1, w2)
set_option maxHeartbeats 4000000 in
set_option maxRecDepth 100000 in
theorem kX6_setWidth_s {l : Launch} {κ : Kp} {tl : Nat} {N : Nat} {ad : Nat → Nat} {w : Mm} {x1 : Int32} {r : Int32} {w' : Mm} (hN : 16 ≤ N) (hD : Apt ad N) (hf : fX6_setWidth_s w x1 = some (r, w')) : Met l yX6_setWidth (Cond.code yX6_setWidth cX6_setWidth 2 (some .boolean) :: TB) (rmX 1 22) (PcX κ (wX κ tl) N ad w [.ref (ad 3), .int x1]) (QI κ (wX κ tl) N ad w' r) 0 0 (Aof ad N) := by
  refine mkZ (by decide +kernel) (Nat.le_of_ble_eq_true rfl) (fun p e R s m args below meth c Q H locs ls hC hRf hRl hP hS hret hl => ?_)
  obtain ⟨hx, hb, hml, hown, hts, hE⟩ := hC
  have hA : ∀ k, k < N → Aof ad N (ad k) := fun k h => Aof_in h
  have hAA : ∀ z, Aof ad N z → Aof ad N z := fun _ h => h
  have hl : lv_has ls 2 [(0, .ref (ad 3)), (1, .int x1)] := hl
  unfold fX6_setWidth_s at hf
  refine lv_iload_n hx hb dX6_setWidth_0 rfl (lv_at hl 1 rfl) ?_
  refine lv_iconst (v := 1) hx hb dX6_setWidth_1 nc_1 ?_
  refine lv_bipush (v := 99) hx hb dX6_setWidth_2 nb_99 ?_
  obtain ⟨v1, hv, hf⟩ := bs1 hf
  refine x_cNi (As := [.int x1, .int 1, .int 99]) (rest := []) hx hb hml hts hown hE hP hS hAA (kX8_within hv) cn_within hE.2.2.2 (Nat.le_trans (by decide) hRf) (Nat.le_trans (by decide) hRl) (Nat.zero_le _) (Nat.zero_le _) rfl hl.1 rfl (Nat.le_of_ble_eq_true rfl) dX6_setWidth_4 (fun H locs hP hS => ?_)
  refine lv_if_ne (tgt := 12) hx hb dX6_setWidth_7 (by decide) (fun hc => ?_) (fun hc => ?_)
  · have hf := iq hc hf
    refine lv_aload_n hx hb dX6_setWidth_12 rfl (lv_at hl 0 rfl) ?_
    refine lv_iload_n hx hb dX6_setWidth_13 rfl (lv_at hl 1 rfl) ?_
    obtain ⟨w2, hv, hf⟩ := bs1 hf
    refine x_put hx hb hts hown hE hD hA hP hS fp_X6_52 (na3 hN) pX_3_13 rfl rfl hv dX6_setWidth_14 (fun H locs hP hS => ?_)
    refine lv_iconst (v := 1) hx hb dX6_setWidth_17 nc_1 ?_
    cases hf
    exact hret _ _ _ _ dX6_setWidth_18 (Or.inr rfl) hP hS
  · have hf := ip hc hf
    refine lv_iconst (v := 0) hx hb dX6_setWidth_10 nc_0 ?_
    cases hf
    exact hret _ _ _ _ dX6_setWidth_11 (Or.inl rfl) hP hS
def fX6_setHarvest_s (w : Mm) (x1 x2 : Int32) : Option (Int32 × Mm) :=
  bd1 (fX6_has_s w x1) fun v1 =>
  if v1 = 0 then
    some (0, w)
  else
    bd1 (fX8_within x2 0 99) fun v2 =>
    if v2 = 0 then
      some (0, w)
    else
      bd1 (wr w 12 8 x1 x2) fun w3 =>
      some (1, w3)
set_option maxHeartbeats 4000000 in
set_option maxRecDepth 100000 in
theorem kX6_setHarvest_s {l : Launch} {κ : Kp} {tl : Nat} {N : Nat} {ad : Nat → Nat} {w : Mm} {x1 x2 : Int32} {r : Int32} {w' : Mm} (hN : 16 ≤ N) (hD : Apt ad N) (hf : fX6_setHarvest_s w x1 x2 = some (r, w')) : Met l yX6_setHarvest (Cond.code yX6_setHarvest cX6_setHarvest 3 (some .boolean) :: TB) (rmX 1 22) (PcX κ (wX κ tl) N ad w [.ref (ad 3), .int x1, .int x2]) (QI κ (wX κ tl) N ad w' r) 0 0 (Aof ad N) := by
  refine mkZ (by decide +kernel) (Nat.le_of_ble_eq_true rfl) (fun p e R s m args below meth c Q H locs ls hC hRf hRl hP hS hret hl => ?_)
  obtain ⟨hx, hb, hml, hown, hts, hE⟩ := hC
  have hA : ∀ k, k < N → Aof ad N (ad k) := fun k h => Aof_in h
  have hAA : ∀ z, Aof ad N z → Aof ad N z := fun _ h => h
  have hl : lv_has ls 3 [(0, .ref (ad 3)), (1, .int x1), (2, .int x2)] := hl
  unfold fX6_setHarvest_s at hf
  refine lv_aload_n hx hb dX6_setHarvest_0 rfl (lv_at hl 0 rfl) ?_
  refine lv_iload_n hx hb dX6_setHarvest_1 rfl (lv_at hl 1 rfl) ?_
  obtain ⟨v1, hv, hf⟩ := bs1 hf
  refine x_cVi (As := [.int x1]) (rest := []) hx hb hml hts hown hE hP hS hAA (kX6_has_s hN hD hv) cl_X6_72 (na3 hN) oX_3 vc_6 (Nat.le_trans (by decide) hRf) (Nat.le_trans (by decide) hRl) (Nat.zero_le _) (Nat.zero_le _) rfl hl.1 rfl (Nat.le_of_ble_eq_true rfl) dX6_setHarvest_2 (fun H locs hP hS => ?_)
  refine lv_if_eq (tgt := 18) hx hb dX6_setHarvest_5 (by decide) (fun hc => ?_) (fun hc => ?_)
  · have hf := ip hc hf
    refine lv_iconst (v := 0) hx hb dX6_setHarvest_18 nc_0 ?_
    cases hf
    exact hret _ _ _ _ dX6_setHarvest_19 (Or.inl rfl) hP hS
  · have hf := iq hc hf
    refine lv_iload_n hx hb dX6_setHarvest_8 rfl (lv_at hl 2 rfl) ?_
    refine lv_iconst (v := 0) hx hb dX6_setHarvest_9 nc_0 ?_
    refine lv_bipush (v := 99) hx hb dX6_setHarvest_10 nb_99 ?_
    obtain ⟨v2, hv, hf⟩ := bs1 hf
    refine x_cNi (As := [.int x2, .int 0, .int 99]) (rest := []) hx hb hml hts hown hE hP hS hAA (kX8_within hv) cn_within hE.2.2.2 (Nat.le_trans (by decide) hRf) (Nat.le_trans (by decide) hRl) (Nat.zero_le _) (Nat.zero_le _) rfl hl.1 rfl (Nat.le_of_ble_eq_true rfl) dX6_setHarvest_12 (fun H locs hP hS => ?_)
    refine lv_if_ne (tgt := 20) hx hb dX6_setHarvest_15 (by decide) (fun hc => ?_) (fun hc => ?_)
    · have hf := iq hc hf
      refine lv_aload_n hx hb dX6_setHarvest_20 rfl (lv_at hl 0 rfl) ?_
      refine x_get hx hb hts hown hE hP fl_X6_36 (na3 hN) gX_3_8 dX6_setHarvest_21 ?_
      refine lv_iload_n hx hb dX6_setHarvest_24 rfl (lv_at hl 1 rfl) ?_
      refine lv_iload_n hx hb dX6_setHarvest_25 rfl (lv_at hl 2 rfl) ?_
      obtain ⟨w3, hv, hf⟩ := bs1 hf
      refine x_iast hx hb hE hD hA hP hS (na12 hN) aX_12 hv dX6_setHarvest_26 (fun H locs hP hS => ?_)
      refine lv_iconst (v := 1) hx hb dX6_setHarvest_27 nc_1 ?_
      cases hf
      exact hret _ _ _ _ dX6_setHarvest_28 (Or.inr rfl) hP hS
    · have hf := ip hc hf
      refine lv_iconst (v := 0) hx hb dX6_setHarvest_18 nc_0 ?_
      cases hf
      exact hret _ _ _ _ dX6_setHarvest_19 (Or.inl rfl) hP hS
def fX5_tell (w : Mm) (x1 : Int32) : Option (Int32 × Mm) :=
  if x1 = 97 then
    bd1 (rd w 2 4 0) fun v2 =>
    bd1 (rd w 2 4 1) fun v3 =>
    bd1 (rd w 2 4 2) fun v4 =>
    bd2 (fX6_addRaft_s w v2 v3 v4) fun v5 w6 =>
    bd1 (gb v5) fun _ =>
    some (v5, w6)
  else
  if x1 = 98 then
    bd1 (rd w 2 4 0) fun v7 =>
    bd1 (rd w 2 4 1) fun v8 =>
    bd1 (rd w 2 4 2) fun v9 =>
    bd1 (rd w 2 4 3) fun v10 =>
    bd2 (fX6_addBeast_s w v7 v8 v9 v10) fun v11 w12 =>
    bd1 (gb v11) fun _ =>
    some (v11, w12)
  else
  if x1 = 99 then
    bd1 (rd w 2 4 0) fun v13 =>
    bd1 (rd w 2 4 1) fun v14 =>
    bd2 (fX6_addCurrent_s w v13 v14) fun v15 w16 =>
    bd1 (gb v15) fun _ =>
    some (v15, w16)
  else
  if x1 = 114 then
    bd1 (rd w 2 4 0) fun v17 =>
    bd1 (rd w 2 4 1) fun v18 =>
    bd2 (fX6_setCarrier_s w v17 v18) fun v19 w20 =>
    bd1 (gb v19) fun _ =>
    some (v19, w20)
  else
  if x1 = 115 then
    bd1 (rd w 2 4 0) fun v21 =>
    bd2 (fX6_addVoice_s w v21) fun v22 w23 =>
    bd1 (gb v22) fun _ =>
    some (v22, w23)
  else
  if x1 = 118 then
    bd1 (rd w 2 4 0) fun v24 =>
    bd1 (rd w 2 4 1) fun v25 =>
    bd2 (fX6_setWant_s w v24 v25) fun v26 w27 =>
    bd1 (gb v26) fun _ =>
    some (v26, w27)
  else
  if x1 = 119 then
    bd1 (rd w 2 4 0) fun v28 =>
    bd2 (fX6_setWidth_s w v28) fun v29 w30 =>
    bd1 (gb v29) fun _ =>
    some (v29, w30)
  else
  if x1 = 121 then
    bd1 (rd w 2 4 0) fun v31 =>
    bd1 (rd w 2 4 1) fun v32 =>
    bd2 (fX6_setHarvest_s w v31 v32) fun v33 w34 =>
    bd1 (gb v33) fun _ =>
    some (v33, w34)
  else
  some (0, w)
set_option maxHeartbeats 4000000 in
set_option maxRecDepth 100000 in
theorem kX5_tell {l : Launch} {κ : Kp} {tl : Nat} {N : Nat} {ad : Nat → Nat} {w : Mm} {x1 : Int32} {r : Int32} {w' : Mm} (hN : 16 ≤ N) (hD : Apt ad N) (hf : fX5_tell w x1 = some (r, w')) : Met l yX5_tell (Cond.code yX5_tell cX5_tell 3 (some .boolean) :: TB) (rmX 2 46) (PcX κ (wX κ tl) N ad w [.ref (ad 1), .int x1, .ref (ad 3)]) (QI κ (wX κ tl) N ad w' r) 0 0 (Aof ad N) := by
  refine mkZ (by decide +kernel) (Nat.le_of_ble_eq_true rfl) (fun p e R s m args below meth c Q H locs ls hC hRf hRl hP hS hret hl => ?_)
  obtain ⟨hx, hb, hml, hown, hts, hE⟩ := hC
  have hA : ∀ k, k < N → Aof ad N (ad k) := fun k h => Aof_in h
  have hAA : ∀ z, Aof ad N z → Aof ad N z := fun _ h => h
  have hl : lv_has ls 3 [(0, .ref (ad 1)), (1, .int x1), (2, .ref (ad 3))] := hl
  unfold fX5_tell at hf
  refine lv_iload_n hx hb dX5_tell_0 rfl (lv_at hl 1 rfl) ?_
  by_cases hk97 : x1 = 97
  · have hf := ip hk97 hf
    refine lv_tableIn (off := 189) (tgt := 190) hx hb dX5_tell_1 (by rw [hk97]; decide) (by rw [hk97]; decide) (by rw [hk97]; rfl) (by decide) ?_
    refine lv_aload_n hx hb dX5_tell_190 rfl (lv_at hl 2 rfl) ?_
    refine lv_aload_n hx hb dX5_tell_191 rfl (lv_at hl 0 rfl) ?_
    refine x_get hx hb hts hown hE hP fl_X5_9 (na1 hN) gX_1_0 dX5_tell_192 ?_
    refine lv_iconst (v := 0) hx hb dX5_tell_195 nc_0 ?_
    obtain ⟨v2, hv, hf⟩ := bs1 hf
    refine x_iald hx hb hE hP (na2 hN) (aX_2 _) hv dX5_tell_196 ?_
    refine lv_aload_n hx hb dX5_tell_197 rfl (lv_at hl 0 rfl) ?_
    refine x_get hx hb hts hown hE hP fl_X5_9 (na1 hN) gX_1_0 dX5_tell_198 ?_
    refine lv_iconst (v := 1) hx hb dX5_tell_201 nc_1 ?_
    obtain ⟨v3, hv, hf⟩ := bs1 hf
    refine x_iald hx hb hE hP (na2 hN) (aX_2 _) hv dX5_tell_202 ?_
    refine lv_aload_n hx hb dX5_tell_203 rfl (lv_at hl 0 rfl) ?_
    refine x_get hx hb hts hown hE hP fl_X5_9 (na1 hN) gX_1_0 dX5_tell_204 ?_
    refine lv_iconst (v := 2) hx hb dX5_tell_207 nc_2 ?_
    obtain ⟨v4, hv, hf⟩ := bs1 hf
    refine x_iald hx hb hE hP (na2 hN) (aX_2 _) hv dX5_tell_208 ?_
    obtain ⟨v5, w6, hv, hf⟩ := bs2 hf
    refine x_cVi (As := [.int v2, .int v3, .int v4]) (rest := []) hx hb hml hts hown hE hP hS hAA (kX6_addRaft_s hN hD hv) cl_X5_58 (na3 hN) oX_3 vc_6 (Nat.le_trans (by decide) hRf) (Nat.le_trans (by decide) hRl) (Nat.zero_le _) (Nat.zero_le _) rfl hl.1 rfl (Nat.le_of_ble_eq_true rfl) dX5_tell_209 (fun H locs hP hS => ?_)
    obtain ⟨_, hgb, hf⟩ := bs1 hf
    cases hf
    exact hret _ _ _ _ dX5_tell_212 (gb_some hgb) hP hS
  · have hf := iq hk97 hf
    by_cases hk98 : x1 = 98
    · have hf := ip hk98 hf
      refine lv_tableIn (off := 115) (tgt := 116) hx hb dX5_tell_1 (by rw [hk98]; decide) (by rw [hk98]; decide) (by rw [hk98]; rfl) (by decide) ?_
      refine lv_aload_n hx hb dX5_tell_116 rfl (lv_at hl 2 rfl) ?_
      refine lv_aload_n hx hb dX5_tell_117 rfl (lv_at hl 0 rfl) ?_
      refine x_get hx hb hts hown hE hP fl_X5_9 (na1 hN) gX_1_0 dX5_tell_118 ?_
      refine lv_iconst (v := 0) hx hb dX5_tell_121 nc_0 ?_
      obtain ⟨v7, hv, hf⟩ := bs1 hf
      refine x_iald hx hb hE hP (na2 hN) (aX_2 _) hv dX5_tell_122 ?_
      refine lv_aload_n hx hb dX5_tell_123 rfl (lv_at hl 0 rfl) ?_
      refine x_get hx hb hts hown hE hP fl_X5_9 (na1 hN) gX_1_0 dX5_tell_124 ?_
      refine lv_iconst (v := 1) hx hb dX5_tell_127 nc_1 ?_
      obtain ⟨v8, hv, hf⟩ := bs1 hf
      refine x_iald hx hb hE hP (na2 hN) (aX_2 _) hv dX5_tell_128 ?_
      refine lv_aload_n hx hb dX5_tell_129 rfl (lv_at hl 0 rfl) ?_
      refine x_get hx hb hts hown hE hP fl_X5_9 (na1 hN) gX_1_0 dX5_tell_130 ?_
      refine lv_iconst (v := 2) hx hb dX5_tell_133 nc_2 ?_
      obtain ⟨v9, hv, hf⟩ := bs1 hf
      refine x_iald hx hb hE hP (na2 hN) (aX_2 _) hv dX5_tell_134 ?_
      refine lv_aload_n hx hb dX5_tell_135 rfl (lv_at hl 0 rfl) ?_
      refine x_get hx hb hts hown hE hP fl_X5_9 (na1 hN) gX_1_0 dX5_tell_136 ?_
      refine lv_iconst (v := 3) hx hb dX5_tell_139 nc_3 ?_
      obtain ⟨v10, hv, hf⟩ := bs1 hf
      refine x_iald hx hb hE hP (na2 hN) (aX_2 _) hv dX5_tell_140 ?_
      obtain ⟨v11, w12, hv, hf⟩ := bs2 hf
      refine x_cVi (As := [.int v7, .int v8, .int v9, .int v10]) (rest := []) hx hb hml hts hown hE hP hS hAA (kX6_addBeast_s hN hD hv) cl_X5_43 (na3 hN) oX_3 vc_6 (Nat.le_trans (by decide) hRf) (Nat.le_trans (by decide) hRl) (Nat.zero_le _) (Nat.zero_le _) rfl hl.1 rfl (Nat.le_of_ble_eq_true rfl) dX5_tell_141 (fun H locs hP hS => ?_)
      obtain ⟨_, hgb, hf⟩ := bs1 hf
      cases hf
      exact hret _ _ _ _ dX5_tell_144 (gb_some hgb) hP hS
    · have hf := iq hk98 hf
      by_cases hk99 : x1 = 99
      · have hf := ip hk99 hf
        refine lv_tableIn (off := 155) (tgt := 156) hx hb dX5_tell_1 (by rw [hk99]; decide) (by rw [hk99]; decide) (by rw [hk99]; rfl) (by decide) ?_
        refine lv_aload_n hx hb dX5_tell_156 rfl (lv_at hl 2 rfl) ?_
        refine lv_aload_n hx hb dX5_tell_157 rfl (lv_at hl 0 rfl) ?_
        refine x_get hx hb hts hown hE hP fl_X5_9 (na1 hN) gX_1_0 dX5_tell_158 ?_
        refine lv_iconst (v := 0) hx hb dX5_tell_161 nc_0 ?_
        obtain ⟨v13, hv, hf⟩ := bs1 hf
        refine x_iald hx hb hE hP (na2 hN) (aX_2 _) hv dX5_tell_162 ?_
        refine lv_aload_n hx hb dX5_tell_163 rfl (lv_at hl 0 rfl) ?_
        refine x_get hx hb hts hown hE hP fl_X5_9 (na1 hN) gX_1_0 dX5_tell_164 ?_
        refine lv_iconst (v := 1) hx hb dX5_tell_167 nc_1 ?_
        obtain ⟨v14, hv, hf⟩ := bs1 hf
        refine x_iald hx hb hE hP (na2 hN) (aX_2 _) hv dX5_tell_168 ?_
        obtain ⟨v15, w16, hv, hf⟩ := bs2 hf
        refine x_cVi (As := [.int v13, .int v14]) (rest := []) hx hb hml hts hown hE hP hS hAA (kX6_addCurrent_s hN hD hv) cl_X5_51 (na3 hN) oX_3 vc_6 (Nat.le_trans (by decide) hRf) (Nat.le_trans (by decide) hRl) (Nat.zero_le _) (Nat.zero_le _) rfl hl.1 rfl (Nat.le_of_ble_eq_true rfl) dX5_tell_169 (fun H locs hP hS => ?_)
        obtain ⟨_, hgb, hf⟩ := bs1 hf
        cases hf
        exact hret _ _ _ _ dX5_tell_172 (gb_some hgb) hP hS
      · have hf := iq hk99 hf
        by_cases hk114 : x1 = 114
        · have hf := ip hk114 hf
          refine lv_tableIn (off := 172) (tgt := 173) hx hb dX5_tell_1 (by rw [hk114]; decide) (by rw [hk114]; decide) (by rw [hk114]; rfl) (by decide) ?_
          refine lv_aload_n hx hb dX5_tell_173 rfl (lv_at hl 2 rfl) ?_
          refine lv_aload_n hx hb dX5_tell_174 rfl (lv_at hl 0 rfl) ?_
          refine x_get hx hb hts hown hE hP fl_X5_9 (na1 hN) gX_1_0 dX5_tell_175 ?_
          refine lv_iconst (v := 0) hx hb dX5_tell_178 nc_0 ?_
          obtain ⟨v17, hv, hf⟩ := bs1 hf
          refine x_iald hx hb hE hP (na2 hN) (aX_2 _) hv dX5_tell_179 ?_
          refine lv_aload_n hx hb dX5_tell_180 rfl (lv_at hl 0 rfl) ?_
          refine x_get hx hb hts hown hE hP fl_X5_9 (na1 hN) gX_1_0 dX5_tell_181 ?_
          refine lv_iconst (v := 1) hx hb dX5_tell_184 nc_1 ?_
          obtain ⟨v18, hv, hf⟩ := bs1 hf
          refine x_iald hx hb hE hP (na2 hN) (aX_2 _) hv dX5_tell_185 ?_
          obtain ⟨v19, w20, hv, hf⟩ := bs2 hf
          refine x_cVi (As := [.int v17, .int v18]) (rest := []) hx hb hml hts hown hE hP hS hAA (kX6_setCarrier_s hN hD hv) cl_X5_55 (na3 hN) oX_3 vc_6 (Nat.le_trans (by decide) hRf) (Nat.le_trans (by decide) hRl) (Nat.zero_le _) (Nat.zero_le _) rfl hl.1 rfl (Nat.le_of_ble_eq_true rfl) dX5_tell_186 (fun H locs hP hS => ?_)
          obtain ⟨_, hgb, hf⟩ := bs1 hf
          cases hf
          exact hret _ _ _ _ dX5_tell_189 (gb_some hgb) hP hS
        · have hf := iq hk114 hf
          by_cases hk115 : x1 = 115
          · have hf := ip hk115 hf
            refine lv_tableIn (off := 212) (tgt := 213) hx hb dX5_tell_1 (by rw [hk115]; decide) (by rw [hk115]; decide) (by rw [hk115]; rfl) (by decide) ?_
            refine lv_aload_n hx hb dX5_tell_213 rfl (lv_at hl 2 rfl) ?_
            refine lv_aload_n hx hb dX5_tell_214 rfl (lv_at hl 0 rfl) ?_
            refine x_get hx hb hts hown hE hP fl_X5_9 (na1 hN) gX_1_0 dX5_tell_215 ?_
            refine lv_iconst (v := 0) hx hb dX5_tell_218 nc_0 ?_
            obtain ⟨v21, hv, hf⟩ := bs1 hf
            refine x_iald hx hb hE hP (na2 hN) (aX_2 _) hv dX5_tell_219 ?_
            obtain ⟨v22, w23, hv, hf⟩ := bs2 hf
            refine x_cVi (As := [.int v21]) (rest := []) hx hb hml hts hown hE hP hS hAA (kX6_addVoice_s hN hD hv) cl_X5_61 (na3 hN) oX_3 vc_6 (Nat.le_trans (by decide) hRf) (Nat.le_trans (by decide) hRl) (Nat.zero_le _) (Nat.zero_le _) rfl hl.1 rfl (Nat.le_of_ble_eq_true rfl) dX5_tell_220 (fun H locs hP hS => ?_)
            obtain ⟨_, hgb, hf⟩ := bs1 hf
            cases hf
            exact hret _ _ _ _ dX5_tell_223 (gb_some hgb) hP hS
          · have hf := iq hk115 hf
            by_cases hk118 : x1 = 118
            · have hf := ip hk118 hf
              refine lv_tableIn (off := 223) (tgt := 224) hx hb dX5_tell_1 (by rw [hk118]; decide) (by rw [hk118]; decide) (by rw [hk118]; rfl) (by decide) ?_
              refine lv_aload_n hx hb dX5_tell_224 rfl (lv_at hl 2 rfl) ?_
              refine lv_aload_n hx hb dX5_tell_225 rfl (lv_at hl 0 rfl) ?_
              refine x_get hx hb hts hown hE hP fl_X5_9 (na1 hN) gX_1_0 dX5_tell_226 ?_
              refine lv_iconst (v := 0) hx hb dX5_tell_229 nc_0 ?_
              obtain ⟨v24, hv, hf⟩ := bs1 hf
              refine x_iald hx hb hE hP (na2 hN) (aX_2 _) hv dX5_tell_230 ?_
              refine lv_aload_n hx hb dX5_tell_231 rfl (lv_at hl 0 rfl) ?_
              refine x_get hx hb hts hown hE hP fl_X5_9 (na1 hN) gX_1_0 dX5_tell_232 ?_
              refine lv_iconst (v := 1) hx hb dX5_tell_235 nc_1 ?_
              obtain ⟨v25, hv, hf⟩ := bs1 hf
              refine x_iald hx hb hE hP (na2 hN) (aX_2 _) hv dX5_tell_236 ?_
              obtain ⟨v26, w27, hv, hf⟩ := bs2 hf
              refine x_cVi (As := [.int v24, .int v25]) (rest := []) hx hb hml hts hown hE hP hS hAA (kX6_setWant_s hN hD hv) cl_X5_64 (na3 hN) oX_3 vc_6 (Nat.le_trans (by decide) hRf) (Nat.le_trans (by decide) hRl) (Nat.zero_le _) (Nat.zero_le _) rfl hl.1 rfl (Nat.le_of_ble_eq_true rfl) dX5_tell_237 (fun H locs hP hS => ?_)
              obtain ⟨_, hgb, hf⟩ := bs1 hf
              cases hf
              exact hret _ _ _ _ dX5_tell_240 (gb_some hgb) hP hS
            · have hf := iq hk118 hf
              by_cases hk119 : x1 = 119
              · have hf := ip hk119 hf
                refine lv_tableIn (off := 144) (tgt := 145) hx hb dX5_tell_1 (by rw [hk119]; decide) (by rw [hk119]; decide) (by rw [hk119]; rfl) (by decide) ?_
                refine lv_aload_n hx hb dX5_tell_145 rfl (lv_at hl 2 rfl) ?_
                refine lv_aload_n hx hb dX5_tell_146 rfl (lv_at hl 0 rfl) ?_
                refine x_get hx hb hts hown hE hP fl_X5_9 (na1 hN) gX_1_0 dX5_tell_147 ?_
                refine lv_iconst (v := 0) hx hb dX5_tell_150 nc_0 ?_
                obtain ⟨v28, hv, hf⟩ := bs1 hf
                refine x_iald hx hb hE hP (na2 hN) (aX_2 _) hv dX5_tell_151 ?_
                obtain ⟨v29, w30, hv, hf⟩ := bs2 hf
                refine x_cVi (As := [.int v28]) (rest := []) hx hb hml hts hown hE hP hS hAA (kX6_setWidth_s hN hD hv) cl_X5_47 (na3 hN) oX_3 vc_6 (Nat.le_trans (by decide) hRf) (Nat.le_trans (by decide) hRl) (Nat.zero_le _) (Nat.zero_le _) rfl hl.1 rfl (Nat.le_of_ble_eq_true rfl) dX5_tell_152 (fun H locs hP hS => ?_)
                obtain ⟨_, hgb, hf⟩ := bs1 hf
                cases hf
                exact hret _ _ _ _ dX5_tell_155 (gb_some hgb) hP hS
              · have hf := iq hk119 hf
                by_cases hk121 : x1 = 121
                · have hf := ip hk121 hf
                  refine lv_tableIn (off := 240) (tgt := 241) hx hb dX5_tell_1 (by rw [hk121]; decide) (by rw [hk121]; decide) (by rw [hk121]; rfl) (by decide) ?_
                  refine lv_aload_n hx hb dX5_tell_241 rfl (lv_at hl 2 rfl) ?_
                  refine lv_aload_n hx hb dX5_tell_242 rfl (lv_at hl 0 rfl) ?_
                  refine x_get hx hb hts hown hE hP fl_X5_9 (na1 hN) gX_1_0 dX5_tell_243 ?_
                  refine lv_iconst (v := 0) hx hb dX5_tell_246 nc_0 ?_
                  obtain ⟨v31, hv, hf⟩ := bs1 hf
                  refine x_iald hx hb hE hP (na2 hN) (aX_2 _) hv dX5_tell_247 ?_
                  refine lv_aload_n hx hb dX5_tell_248 rfl (lv_at hl 0 rfl) ?_
                  refine x_get hx hb hts hown hE hP fl_X5_9 (na1 hN) gX_1_0 dX5_tell_249 ?_
                  refine lv_iconst (v := 1) hx hb dX5_tell_252 nc_1 ?_
                  obtain ⟨v32, hv, hf⟩ := bs1 hf
                  refine x_iald hx hb hE hP (na2 hN) (aX_2 _) hv dX5_tell_253 ?_
                  obtain ⟨v33, w34, hv, hf⟩ := bs2 hf
                  refine x_cVi (As := [.int v31, .int v32]) (rest := []) hx hb hml hts hown hE hP hS hAA (kX6_setHarvest_s hN hD hv) cl_X5_67 (na3 hN) oX_3 vc_6 (Nat.le_trans (by decide) hRf) (Nat.le_trans (by decide) hRl) (Nat.zero_le _) (Nat.zero_le _) rfl hl.1 rfl (Nat.le_of_ble_eq_true rfl) dX5_tell_254 (fun H locs hP hS => ?_)
                  obtain ⟨_, hgb, hf⟩ := bs1 hf
                  cases hf
                  exact hret _ _ _ _ dX5_tell_257 (gb_some hgb) hP hS
                · have hf := iq hk121 hf
                  have hD0 : W p l e R s m args below meth c H locs 0 0 Q (F0 m 258 ls []) := by
                    refine lv_iconst (v := 0) hx hb dX5_tell_258 nc_0 ?_
                    cases hf
                    exact hret _ _ _ _ dX5_tell_259 (Or.inl rfl) hP hS
                  by_cases ho : (x1).toInt < 97 ∨ 121 < (x1).toInt
                  · exact lv_tableOut (tgt := 258) hx hb dX5_tell_1 ho (by decide) hD0
                  · have h1 : ¬ (x1).toInt < 97 := fun q => ho (Or.inl q)
                    have h2 : ¬ 121 < (x1).toInt := fun q => ho (Or.inr q)
                    have hn97 := lv_neT (a := 97) hk97 (by decide)
                    have hn98 := lv_neT (a := 98) hk98 (by decide)
                    have hn99 := lv_neT (a := 99) hk99 (by decide)
                    have hn114 := lv_neT (a := 114) hk114 (by decide)
                    have hn115 := lv_neT (a := 115) hk115 (by decide)
                    have hn118 := lv_neT (a := 118) hk118 (by decide)
                    have hn119 := lv_neT (a := 119) hk119 (by decide)
                    have hn121 := lv_neT (a := 121) hk121 (by decide)
                    have key : ∀ j : Fin 25, (j.val = 0 ∨ j.val = 1 ∨ j.val = 2 ∨ j.val = 17 ∨ j.val = 18 ∨ j.val = 21 ∨ j.val = 22 ∨ j.val = 24) ∨ (#[189, 115, 155, 257, 257, 257, 257, 257, 257, 257, 257, 257, 257, 257, 257, 257, 257, 172, 212, 257, 257, 223, 144, 257, 240] : Array Int)[j.val]? = some 257 := by decide
                    have hj : ((x1).toInt - 97).toNat < 25 := by omega
                    have hk := key ⟨_, hj⟩
                    dsimp only at hk
                    rcases hk with hk | hk
                    · exfalso
                      omega
                    · exact lv_tableIn (off := 257) (tgt := 258) hx hb dX5_tell_1 h1 h2 hk (by decide) hD0
def LX5_readText_10 (x2 : Int32) (tl : Nat) : Nat → Int32 → Int32 → Mm → Option (Int32 × Mm)
  | 0, _, _, _ => none
  | fu + 1, v2, v3, w4 =>
    if 200 ≤ v3 then
      some ((-4), w4)
    else
      if x2 ≤ v2 then
        some ((-4), w4)
      else
        bd2 (fX5_readItem tl w4 x2 v2) fun v6 w7 =>
        if v6 = 0 then
          some (v2, w7)
        else
          bd1 (rd w7 0 tl v2) fun v8 =>
          bd2 (fX5_tell w7 v8) fun v9 w10 =>
          if v9 = 0 then
            some (v2, w10)
          else
            LX5_readText_10 x2 tl fu (w10 1 1) (v3 + 1) w10
def fX5_readText (tl : Nat) (w : Mm) (x2 : Int32) : Option (Int32 × Mm) :=
  bd1 (fX6_clear_s w) fun w1 =>
  LX5_readText_10 x2 tl 1000 0 0 w1
set_option maxHeartbeats 4000000 in
set_option maxRecDepth 100000 in
theorem kX5_readText {l : Launch} {κ : Kp} {tl : Nat} {N : Nat} {ad : Nat → Nat} {w : Mm} {x2 : Int32} {r : Int32} {w' : Mm} (hN : 16 ≤ N) (hD : Apt ad N) (hf : fX5_readText tl w x2 = some (r, w')) : Met l yX5_readText (Cond.code yX5_readText cX5_readText 6 (some .int) :: TB) (rmX 3 73) (PcX κ (wX κ tl) N ad w [.ref (ad 1), .ref (ad 0), .int x2, .ref (ad 3)]) (QI κ (wX κ tl) N ad w' r) 0 0 (Aof ad N) := by
  refine mkI (by decide +kernel) (Nat.le_of_ble_eq_true rfl) (fun p e R s m args below meth c Q H locs ls hC hRf hRl hP hS hret hl => ?_)
  obtain ⟨hx, hb, hml, hown, hts, hE⟩ := hC
  have hA : ∀ k, k < N → Aof ad N (ad k) := fun k h => Aof_in h
  have hAA : ∀ z, Aof ad N z → Aof ad N z := fun _ h => h
  have hl : lv_has ls 6 [(0, .ref (ad 1)), (1, .ref (ad 0)), (2, .int x2), (3, .ref (ad 3))] := hl
  unfold fX5_readText at hf
  refine lv_aload_n hx hb dX5_readText_0 rfl (lv_at hl 3 rfl) ?_
  obtain ⟨w1, hv, hf⟩ := bs1 hf
  refine x_cVv (As := []) (rest := []) hx hb hml hts hown hE hP hS hAA (kX6_clear_s hN hD hv) cl_X5_19 (na3 hN) oX_3 vc_6 (Nat.le_trans (by decide) hRf) (Nat.le_trans (by decide) hRl) (Nat.zero_le _) (Nat.zero_le _) rfl hl.1 rfl (Nat.le_of_ble_eq_true rfl) dX5_readText_1 (fun H locs hP hS => ?_)
  refine lv_iconst (v := 0) hx hb dX5_readText_4 nc_0 ?_
  refine lv_istore (lv' := [(4, .int 0), (0, .ref (ad 1)), (1, .ref (ad 0)), (2, .int x2), (3, .ref (ad 3))]) hx hb dX5_readText_5 hl (by decide) rfl (fun ls hl => ?_)
  refine lv_iconst (v := 0) hx hb dX5_readText_7 nc_0 ?_
  refine lv_istore (lv' := [(5, .int 0), (4, .int 0), (0, .ref (ad 1)), (1, .ref (ad 0)), (2, .int x2), (3, .ref (ad 3))]) hx hb dX5_readText_8 hl (by decide) rfl (fun ls hl => ?_)
  have hL5 : ∀ (fu : Nat) (v2 : Int32) (v3 : Int32) (w4 : Mm) (H : Heap) (locs : List Loc) (ls : Array Slot), LX5_readText_10 x2 tl fu v2 v3 w4 = some (r, w') → Ho κ (wX κ tl) N ad w4 H → va_S (Aof ad N) s.heap H locs → lv_has ls 6 [(0, .ref (ad 1)), (1, .ref (ad 0)), (2, .int x2), (3, .ref (ad 3)), (4, .int v2), (5, .int v3)] → W p l e R s m args below meth c H locs 0 0 Q (F0 m 10 ls []) := by
    intro fu
    induction fu with
    | zero =>
      intro v2 v3 w4 H locs ls hf
      rw [LX5_readText_10] at hf
      cases hf
    | succ fu ih =>
      intro v2 v3 w4 H locs ls hf hP hS hl
      rw [LX5_readText_10] at hf
      refine lv_iload hx hb dX5_readText_10 (lv_at hl 5 rfl) ?_
      refine lv_sipush (v := 200) hx hb dX5_readText_12 ns_200 ?_
      refine lv_icmp_ge (tgt := 62) hx hb dX5_readText_15 (by decide) (fun hc => ?_) (fun hc => ?_)
      · have hf := ip hc hf
        refine lv_bipush (v := (-4)) hx hb dX5_readText_62 nb_m4 ?_
        cases hf
        exact hret _ _ _ _ dX5_readText_64 hP hS
      · have hf := iq hc hf
        refine lv_iload hx hb dX5_readText_18 (lv_at hl 4 rfl) ?_
        refine lv_iload_n hx hb dX5_readText_20 rfl (lv_at hl 2 rfl) ?_
        refine lv_icmp_ge (tgt := 62) hx hb dX5_readText_21 (by decide) (fun hc => ?_) (fun hc => ?_)
        · have hf := ip hc hf
          refine lv_bipush (v := (-4)) hx hb dX5_readText_62 nb_m4 ?_
          cases hf
          exact hret _ _ _ _ dX5_readText_64 hP hS
        · have hf := iq hc hf
          refine lv_aload_n hx hb dX5_readText_24 rfl (lv_at hl 0 rfl) ?_
          refine lv_aload_n hx hb dX5_readText_25 rfl (lv_at hl 1 rfl) ?_
          refine lv_iload_n hx hb dX5_readText_26 rfl (lv_at hl 2 rfl) ?_
          refine lv_iload hx hb dX5_readText_27 (lv_at hl 4 rfl) ?_
          obtain ⟨v6, w7, hv, hf⟩ := bs2 hf
          refine x_cVi (As := [.ref (ad 0), .int x2, .int v2]) (rest := []) hx hb hml hts hown hE hP hS hAA (kX5_readItem hN hD hv) cl_X5_24 (na1 hN) oX_1 vc_5 (Nat.le_trans (by decide) hRf) (Nat.le_trans (by decide) hRl) (Nat.zero_le _) (Nat.zero_le _) rfl hl.1 rfl (Nat.le_of_ble_eq_true rfl) dX5_readText_29 (fun H locs hP hS => ?_)
          refine lv_if_eq (tgt := 47) hx hb dX5_readText_32 (by decide) (fun hc => ?_) (fun hc => ?_)
          · have hf := ip hc hf
            refine lv_iload hx hb dX5_readText_47 (lv_at hl 4 rfl) ?_
            cases hf
            exact hret _ _ _ _ dX5_readText_49 hP hS
          · have hf := iq hc hf
            refine lv_aload_n hx hb dX5_readText_35 rfl (lv_at hl 0 rfl) ?_
            refine lv_aload_n hx hb dX5_readText_36 rfl (lv_at hl 1 rfl) ?_
            refine lv_iload hx hb dX5_readText_37 (lv_at hl 4 rfl) ?_
            obtain ⟨v8, hv, hf⟩ := bs1 hf
            refine x_cald hx hb hE hP (na0 hN) (aX_0 _) hv dX5_readText_39 ?_
            refine lv_aload_n hx hb dX5_readText_40 rfl (lv_at hl 3 rfl) ?_
            obtain ⟨v9, w10, hv, hf⟩ := bs2 hf
            refine x_cVi (As := [.int v8, .ref (ad 3)]) (rest := []) hx hb hml hts hown hE hP hS hAA (kX5_tell hN hD hv) cl_X5_28 (na1 hN) oX_1 vc_5 (Nat.le_trans (by decide) hRf) (Nat.le_trans (by decide) hRl) (Nat.zero_le _) (Nat.zero_le _) rfl hl.1 rfl (Nat.le_of_ble_eq_true rfl) dX5_readText_41 (fun H locs hP hS => ?_)
            refine lv_if_ne (tgt := 50) hx hb dX5_readText_44 (by decide) (fun hc => ?_) (fun hc => ?_)
            · have hf := iq hc hf
              refine lv_aload_n hx hb dX5_readText_50 rfl (lv_at hl 0 rfl) ?_
              refine x_get hx hb hts hown hE hP fl_X5_15 (na1 hN) gX_1_1 dX5_readText_51 ?_
              refine lv_istore (lv' := [(4, .int (w10 1 1)), (0, .ref (ad 1)), (1, .ref (ad 0)), (2, .int x2), (3, .ref (ad 3)), (5, .int v3)]) hx hb dX5_readText_54 hl (by decide) rfl (fun ls hl => ?_)
              refine lv_iinc (v := (v3 + 1)) (lv' := [(5, .int (v3 + 1)), (4, .int (w10 1 1)), (0, .ref (ad 1)), (1, .ref (ad 0)), (2, .int x2), (3, .ref (ad 3))]) hx hb dX5_readText_56 hl (k := 5) rfl (ni_1 _) (by decide) rfl (fun ls hl => ?_)
              refine lv_goto (tgt := 10) hx hb dX5_readText_59 (by decide) ?_
              exact ih _ _ _ _ _ _ hf hP hS (lv_sub hl [2, 3, 4, 5, 1, 0] rfl)
            · have hf := ip hc hf
              refine lv_iload hx hb dX5_readText_47 (lv_at hl 4 rfl) ?_
              cases hf
              exact hret _ _ _ _ dX5_readText_49 hP hS
  exact hL5 _ _ _ _ _ _ _ hf hP hS (lv_sub hl [2, 3, 4, 5, 1, 0] rfl)
def fX8_fault (tl : Nat) (w : Mm) : Option (Int32 × Mm) :=
  bd1 (gq (w 16 4) 3) fun _ =>
  bd2 (fX5_readText tl w (w 16 1)) fun v1 w2 =>
  some (v1, w2)
set_option maxHeartbeats 4000000 in
set_option maxRecDepth 100000 in
theorem kX8_fault {l : Launch} {κ : Kp} {tl : Nat} {N : Nat} {ad : Nat → Nat} {w : Mm} {r : Int32} {w' : Mm} (hN : 52 ≤ N) (hD : Apt ad N) (hf : fX8_fault tl w = some (r, w')) : Met l yX8_fault (Cond.code yX8_fault cX8_fault 1 (some .int) :: TB) (rmX 4 98) (PcX κ (wX κ tl) N ad w [.ref (ad 16)]) (QI κ (wX κ tl) N ad w' r) 0 0 (Aof ad N) := by
  refine mkI (by decide +kernel) (Nat.le_of_ble_eq_true rfl) (fun p e R s m args below meth c Q H locs ls hC hRf hRl hP hS hret hl => ?_)
  obtain ⟨hx, hb, hml, hown, hts, hE⟩ := hC
  have hA : ∀ k, k < N → Aof ad N (ad k) := fun k h => Aof_in h
  have hAA : ∀ z, Aof ad N z → Aof ad N z := fun _ h => h
  have hl : lv_has ls 1 [(0, .ref (ad 16))] := hl
  unfold fX8_fault at hf
  refine lv_aload_n hx hb dX8_fault_0 rfl (lv_at hl 0 rfl) ?_
  refine x_get hx hb hts hown hE hP fl_X8_20 (nb16 hN) gX_16_2 dX8_fault_1 ?_
  refine lv_aload_n hx hb dX8_fault_4 rfl (lv_at hl 0 rfl) ?_
  refine x_get hx hb hts hown hE hP fl_X8_9 (nb16 hN) gX_16_0 dX8_fault_5 ?_
  refine lv_aload_n hx hb dX8_fault_8 rfl (lv_at hl 0 rfl) ?_
  refine x_get hx hb hts hown hE hP fl_X8_13 (nb16 hN) gX_16_1 dX8_fault_9 ?_
  refine lv_aload_n hx hb dX8_fault_12 rfl (lv_at hl 0 rfl) ?_
  obtain ⟨_, hv, hf⟩ := bs1 hf
  refine x_getr hx hb hts hown hE hP fl_X8_35 (nb16 hN) gX_16_4 hv dX8_fault_13 ?_
  obtain ⟨v1, w2, hv, hf⟩ := bs2 hf
  refine x_cVi (As := [.ref (ad 0), .int (w 16 1), .ref (ad 3)]) (rest := []) hx hb hml hts hown hE hP hS hAA (kX5_readText (Nat.le_trans (by decide) hN) hD hv) cl_X8_86 (nb1 hN) oX_1 vc_5 (Nat.le_trans (by decide) hRf) (Nat.le_trans (by decide) hRl) (Nat.zero_le _) (Nat.zero_le _) rfl hl.1 rfl (Nat.le_of_ble_eq_true rfl) dX8_fault_16 (fun H locs hP hS => ?_)
  cases hf
  exact hret _ _ _ _ dX8_fault_19 hP hS
def LX6_canBeLaid_s_19 (w : Mm) : Nat → Int32 → Option (Int32)
  | 0, _ => none
  | fu + 1, v1 =>
    if (w 3 12) ≤ v1 then
      some 1
    else
      bd1 (rd w 8 8 v1) fun v3 =>
      if v3 = (-4) then
        LX6_canBeLaid_s_19 w fu (v1 + 1)
      else
        bd1 (rd w 9 8 v1) fun v4 =>
        if v4 = (-4) then
          bd1 (fX6_has_s w v3) fun v5 =>
          if v5 = 0 then
            some 0
          else
            bd1 (rd w 8 8 v3) fun v6 =>
            if v6 = (-4) then
              LX6_canBeLaid_s_19 w fu (v1 + 1)
            else
              some 0
        else
          some 0
def fX6_canBeLaid_s (w : Mm) : Option (Int32) :=
  if (w 3 12) < 1 then
    some 0
  else
    if (w 3 17) = 0 then
      LX6_canBeLaid_s_19 w 1000 0
    else
      some 0
set_option maxHeartbeats 4000000 in
set_option maxRecDepth 100000 in
theorem kX6_canBeLaid_s {l : Launch} {κ : Kp} {tl : Nat} {N : Nat} {ad : Nat → Nat} {w : Mm} {r : Int32} (hN : 16 ≤ N) (hD : Apt ad N) (hf : fX6_canBeLaid_s w = some r) : Met l yX6_canBeLaid (Cond.code yX6_canBeLaid cX6_canBeLaid 3 (some .boolean) :: TB) (rmX 1 21) (PcX κ (wX κ tl) N ad w [.ref (ad 3)]) (QI κ (wX κ tl) N ad w r) 0 0 (Aof ad N) := by
  refine mkZ (by decide +kernel) (Nat.le_of_ble_eq_true rfl) (fun p e R s m args below meth c Q H locs ls hC hRf hRl hP hS hret hl => ?_)
  obtain ⟨hx, hb, hml, hown, hts, hE⟩ := hC
  have hA : ∀ k, k < N → Aof ad N (ad k) := fun k h => Aof_in h
  have hAA : ∀ z, Aof ad N z → Aof ad N z := fun _ h => h
  have hl : lv_has ls 3 [(0, .ref (ad 3))] := hl
  unfold fX6_canBeLaid_s at hf
  refine lv_aload_n hx hb dX6_canBeLaid_0 rfl (lv_at hl 0 rfl) ?_
  refine x_get hx hb hts hown hE hP fl_X6_48 (na3 hN) gX_3_12 dX6_canBeLaid_1 ?_
  refine lv_iconst (v := 1) hx hb dX6_canBeLaid_4 nc_1 ?_
  refine lv_icmp_lt (tgt := 15) hx hb dX6_canBeLaid_5 (by decide) (fun hc => ?_) (fun hc => ?_)
  · have hf := ip hc hf
    refine lv_iconst (v := 0) hx hb dX6_canBeLaid_15 nc_0 ?_
    cases hf
    exact hret _ _ _ _ dX6_canBeLaid_16 (Or.inl rfl) hP hS
  · have hf := iq hc hf
    refine lv_aload_n hx hb dX6_canBeLaid_8 rfl (lv_at hl 0 rfl) ?_
    refine x_get hx hb hts hown hE hP fl_X6_64 (na3 hN) gX_3_17 dX6_canBeLaid_9 ?_
    refine lv_if_eq (tgt := 17) hx hb dX6_canBeLaid_12 (by decide) (fun hc => ?_) (fun hc => ?_)
    · have hf := ip hc hf
      refine lv_iconst (v := 0) hx hb dX6_canBeLaid_17 nc_0 ?_
      refine lv_istore_n (lv' := [(1, .int 0), (0, .ref (ad 3))]) hx hb dX6_canBeLaid_18 rfl hl (by decide) rfl (fun ls hl => ?_)
      have hL2 : ∀ (fu : Nat) (v1 : Int32) (H : Heap) (locs : List Loc) (ls : Array Slot), LX6_canBeLaid_s_19 w fu v1 = some r → Ho κ (wX κ tl) N ad w H → va_S (Aof ad N) s.heap H locs → lv_has ls 3 [(0, .ref (ad 3)), (1, .int v1)] → W p l e R s m args below meth c H locs 0 0 Q (F0 m 19 ls []) := by
        intro fu
        induction fu with
        | zero =>
          intro v1 H locs ls hf
          rw [LX6_canBeLaid_s_19] at hf
          cases hf
        | succ fu ih =>
          intro v1 H locs ls hf hP hS hl
          rw [LX6_canBeLaid_s_19] at hf
          refine lv_iload_n hx hb dX6_canBeLaid_19 rfl (lv_at hl 1 rfl) ?_
          refine lv_aload_n hx hb dX6_canBeLaid_20 rfl (lv_at hl 0 rfl) ?_
          refine x_get hx hb hts hown hE hP fl_X6_48 (na3 hN) gX_3_12 dX6_canBeLaid_21 ?_
          refine lv_icmp_ge (tgt := 78) hx hb dX6_canBeLaid_24 (by decide) (fun hc => ?_) (fun hc => ?_)
          · have hf := ip hc hf
            refine lv_iconst (v := 1) hx hb dX6_canBeLaid_78 nc_1 ?_
            cases hf
            exact hret _ _ _ _ dX6_canBeLaid_79 (Or.inr rfl) hP hS
          · have hf := iq hc hf
            refine lv_aload_n hx hb dX6_canBeLaid_27 rfl (lv_at hl 0 rfl) ?_
            refine x_get hx hb hts hown hE hP fl_X6_24 (na3 hN) gX_3_4 dX6_canBeLaid_28 ?_
            refine lv_iload_n hx hb dX6_canBeLaid_31 rfl (lv_at hl 1 rfl) ?_
            obtain ⟨v3, hv, hf⟩ := bs1 hf
            refine x_iald hx hb hE hP (na8 hN) (aX_8 _) hv dX6_canBeLaid_32 ?_
            refine lv_istore_n (lv' := [(2, .int v3), (0, .ref (ad 3)), (1, .int v1)]) hx hb dX6_canBeLaid_33 rfl hl (by decide) rfl (fun ls hl => ?_)
            refine lv_iload_n hx hb dX6_canBeLaid_34 rfl (lv_at hl 0 rfl) ?_
            refine lv_bipush (v := (-4)) hx hb dX6_canBeLaid_35 nb_m4 ?_
            refine lv_icmp_eq (tgt := 72) hx hb dX6_canBeLaid_37 (by decide) (fun hc => ?_) (fun hc => ?_)
            · have hf := ip hc hf
              refine lv_iinc (v := (v1 + 1)) (lv' := [(1, .int (v1 + 1)), (2, .int v3), (0, .ref (ad 3))]) hx hb dX6_canBeLaid_72 hl (k := 2) rfl (ni_1 _) (by decide) rfl (fun ls hl => ?_)
              refine lv_goto (tgt := 19) hx hb dX6_canBeLaid_75 (by decide) ?_
              exact ih _ _ _ _ hf hP hS (lv_sub hl [2, 0] rfl)
            · have hf := iq hc hf
              refine lv_aload_n hx hb dX6_canBeLaid_40 rfl (lv_at hl 1 rfl) ?_
              refine x_get hx hb hts hown hE hP fl_X6_27 (na3 hN) gX_3_5 dX6_canBeLaid_41 ?_
              refine lv_iload_n hx hb dX6_canBeLaid_44 rfl (lv_at hl 2 rfl) ?_
              obtain ⟨v4, hv, hf⟩ := bs1 hf
              refine x_iald hx hb hE hP (na9 hN) (aX_9 _) hv dX6_canBeLaid_45 ?_
              refine lv_bipush (v := (-4)) hx hb dX6_canBeLaid_46 nb_m4 ?_
              refine lv_icmp_ne (tgt := 70) hx hb dX6_canBeLaid_48 (by decide) (fun hc => ?_) (fun hc => ?_)
              · have hf := iq hc hf
                refine lv_iconst (v := 0) hx hb dX6_canBeLaid_70 nc_0 ?_
                cases hf
                exact hret _ _ _ _ dX6_canBeLaid_71 (Or.inl rfl) hP hS
              · have hf := ip hc hf
                refine lv_aload_n hx hb dX6_canBeLaid_51 rfl (lv_at hl 1 rfl) ?_
                refine lv_iload_n hx hb dX6_canBeLaid_52 rfl (lv_at hl 0 rfl) ?_
                obtain ⟨v5, hv, hf⟩ := bs1 hf
                refine x_cVi (As := [.int v3]) (rest := []) hx hb hml hts hown hE hP hS hAA (kX6_has_s hN hD hv) cl_X6_72 (na3 hN) oX_3 vc_6 (Nat.le_trans (by decide) hRf) (Nat.le_trans (by decide) hRl) (Nat.zero_le _) (Nat.zero_le _) rfl hl.1 rfl (Nat.le_of_ble_eq_true rfl) dX6_canBeLaid_53 (fun H locs hP hS => ?_)
                refine lv_if_eq (tgt := 70) hx hb dX6_canBeLaid_56 (by decide) (fun hc => ?_) (fun hc => ?_)
                · have hf := ip hc hf
                  refine lv_iconst (v := 0) hx hb dX6_canBeLaid_70 nc_0 ?_
                  cases hf
                  exact hret _ _ _ _ dX6_canBeLaid_71 (Or.inl rfl) hP hS
                · have hf := iq hc hf
                  refine lv_aload_n hx hb dX6_canBeLaid_59 rfl (lv_at hl 1 rfl) ?_
                  refine x_get hx hb hts hown hE hP fl_X6_24 (na3 hN) gX_3_4 dX6_canBeLaid_60 ?_
                  refine lv_iload_n hx hb dX6_canBeLaid_63 rfl (lv_at hl 0 rfl) ?_
                  obtain ⟨v6, hv, hf⟩ := bs1 hf
                  refine x_iald hx hb hE hP (na8 hN) (aX_8 _) hv dX6_canBeLaid_64 ?_
                  refine lv_bipush (v := (-4)) hx hb dX6_canBeLaid_65 nb_m4 ?_
                  refine lv_icmp_eq (tgt := 72) hx hb dX6_canBeLaid_67 (by decide) (fun hc => ?_) (fun hc => ?_)
                  · have hf := ip hc hf
                    refine lv_iinc (v := (v1 + 1)) (lv' := [(1, .int (v1 + 1)), (2, .int v3), (0, .ref (ad 3))]) hx hb dX6_canBeLaid_72 hl (k := 2) rfl (ni_1 _) (by decide) rfl (fun ls hl => ?_)
                    refine lv_goto (tgt := 19) hx hb dX6_canBeLaid_75 (by decide) ?_
                    exact ih _ _ _ _ hf hP hS (lv_sub hl [2, 0] rfl)
                  · have hf := iq hc hf
                    refine lv_iconst (v := 0) hx hb dX6_canBeLaid_70 nc_0 ?_
                    cases hf
                    exact hret _ _ _ _ dX6_canBeLaid_71 (Or.inl rfl) hP hS
      exact hL2 _ _ _ _ _ hf hP hS (lv_sub hl [1, 0] rfl)
    · have hf := iq hc hf
      refine lv_iconst (v := 0) hx hb dX6_canBeLaid_15 nc_0 ?_
      cases hf
      exact hret _ _ _ _ dX6_canBeLaid_16 (Or.inl rfl) hP hS
def LX6_takenFrom_s_7 (x1 : Int32) (w : Mm) : Nat → Int32 → Int32 → Int32 → Option (Int32)
  | 0, _, _, _ => none
  | fu + 1, v1, v2, v3 =>
    if (w 3 14) ≤ v3 then
      some (v2)
    else
      bd1 (rd w 13 4 v3) fun v6 =>
      bd2 (
        if x1 < v6 then
          some (v1, v2)
        else
          bd1 (rd w 13 4 v3) fun v10 =>
          if v10 < v1 then
            some (v1, v2)
          else
            bd1 (rd w 13 4 v3) fun v11 =>
            bd1 (rd w 14 4 v3) fun v12 =>
            some (v11, v12)) fun (v7 : Int32) (v8 : Int32) =>
      LX6_takenFrom_s_7 x1 w fu v7 v8 (v3 + 1)
def fX6_takenFrom_s (w : Mm) (x1 : Int32) : Option (Int32) :=
  bd1 (LX6_takenFrom_s_7 x1 w 1000 (-1) 0 0) fun (v5 : Int32) =>
  some v5
set_option maxHeartbeats 4000000 in
set_option maxRecDepth 100000 in
theorem kX6_takenFrom_s {l : Launch} {κ : Kp} {tl : Nat} {N : Nat} {ad : Nat → Nat} {w : Mm} {x1 : Int32} {r : Int32} (hN : 16 ≤ N) (hD : Apt ad N) (hf : fX6_takenFrom_s w x1 = some r) : Met l yX6_takenFrom (Cond.code yX6_takenFrom cX6_takenFrom 5 (some .int) :: TB) (rmX 0 0) (PcX κ (wX κ tl) N ad w [.ref (ad 3), .int x1]) (QI κ (wX κ tl) N ad w r) 0 0 (Aof ad N) := by
  refine mkI (by decide +kernel) (Nat.le_of_ble_eq_true rfl) (fun p e R s m args below meth c Q H locs ls hC hRf hRl hP hS hret hl => ?_)
  obtain ⟨hx, hb, hml, hown, hts, hE⟩ := hC
  have hA : ∀ k, k < N → Aof ad N (ad k) := fun k h => Aof_in h
  have hAA : ∀ z, Aof ad N z → Aof ad N z := fun _ h => h
  have hl : lv_has ls 5 [(0, .ref (ad 3)), (1, .int x1)] := hl
  unfold fX6_takenFrom_s at hf
  refine lv_iconst (v := (-1)) hx hb dX6_takenFrom_0 nc_m1 ?_
  refine lv_istore_n (lv' := [(2, .int (-1)), (0, .ref (ad 3)), (1, .int x1)]) hx hb dX6_takenFrom_1 rfl hl (by decide) rfl (fun ls hl => ?_)
  refine lv_iconst (v := 0) hx hb dX6_takenFrom_2 nc_0 ?_
  refine lv_istore_n (lv' := [(3, .int 0), (2, .int (-1)), (0, .ref (ad 3)), (1, .int x1)]) hx hb dX6_takenFrom_3 rfl hl (by decide) rfl (fun ls hl => ?_)
  refine lv_iconst (v := 0) hx hb dX6_takenFrom_4 nc_0 ?_
  refine lv_istore (lv' := [(4, .int 0), (3, .int 0), (2, .int (-1)), (0, .ref (ad 3)), (1, .int x1)]) hx hb dX6_takenFrom_5 hl (by decide) rfl (fun ls hl => ?_)
  obtain ⟨v5, hq4, hf⟩ := bs1 hf
  have hJ4 : ∀ (H : Heap) (locs : List Loc) (ls : Array Slot), Ho κ (wX κ tl) N ad w H → va_S (Aof ad N) s.heap H locs → lv_has ls 5 [(3, .int v5)] → W p l e R s m args below meth c H locs 0 0 Q (F0 m 60 ls []) := by
    intro H locs ls hP hS hl
    refine lv_iload_n hx hb dX6_takenFrom_60 rfl (lv_at hl 0 rfl) ?_
    cases hf
    exact hret _ _ _ _ dX6_takenFrom_61 hP hS
  clear hf
  have hf := hq4
  clear hq4
  have hL4 : ∀ (fu : Nat) (v1 : Int32) (v2 : Int32) (v3 : Int32) (H : Heap) (locs : List Loc) (ls : Array Slot), LX6_takenFrom_s_7 x1 w fu v1 v2 v3 = some (v5) → Ho κ (wX κ tl) N ad w H → va_S (Aof ad N) s.heap H locs → lv_has ls 5 [(0, .ref (ad 3)), (1, .int x1), (2, .int v1), (3, .int v2), (4, .int v3)] → W p l e R s m args below meth c H locs 0 0 Q (F0 m 7 ls []) := by
    intro fu
    induction fu with
    | zero =>
      intro v1 v2 v3 H locs ls hf
      rw [LX6_takenFrom_s_7] at hf
      cases hf
    | succ fu ih =>
      intro v1 v2 v3 H locs ls hf hP hS hl
      rw [LX6_takenFrom_s_7] at hf
      refine lv_iload hx hb dX6_takenFrom_7 (lv_at hl 4 rfl) ?_
      refine lv_aload_n hx hb dX6_takenFrom_9 rfl (lv_at hl 0 rfl) ?_
      refine x_get hx hb hts hown hE hP fl_X6_55 (na3 hN) gX_3_14 dX6_takenFrom_10 ?_
      refine lv_icmp_ge (tgt := 60) hx hb dX6_takenFrom_13 (by decide) (fun hc => ?_) (fun hc => ?_)
      · have hf := ip hc hf
        cases hf
        exact hJ4 _ _ _ hP hS (lv_sub hl [3] rfl)
      · have hf := iq hc hf
        refine lv_aload_n hx hb dX6_takenFrom_16 rfl (lv_at hl 0 rfl) ?_
        refine x_get hx hb hts hown hE hP fl_X6_39 (na3 hN) gX_3_9 dX6_takenFrom_17 ?_
        refine lv_iload hx hb dX6_takenFrom_20 (lv_at hl 4 rfl) ?_
        obtain ⟨v6, hv, hf⟩ := bs1 hf
        refine x_iald hx hb hE hP (na13 hN) (aX_13 _) hv dX6_takenFrom_22 ?_
        refine lv_iload_n hx hb dX6_takenFrom_23 rfl (lv_at hl 1 rfl) ?_
        obtain ⟨v7, v8, hq9, hf⟩ := bs2 hf
        have hJ9 : ∀ (H : Heap) (locs : List Loc) (ls : Array Slot), Ho κ (wX κ tl) N ad w H → va_S (Aof ad N) s.heap H locs → lv_has ls 5 [(0, .ref (ad 3)), (1, .int x1), (2, .int v7), (3, .int v8), (4, .int v3)] → W p l e R s m args below meth c H locs 0 0 Q (F0 m 54 ls []) := by
          intro H locs ls hP hS hl
          refine lv_iinc (v := (v3 + 1)) (lv' := [(4, .int (v3 + 1)), (0, .ref (ad 3)), (1, .int x1), (2, .int v7), (3, .int v8)]) hx hb dX6_takenFrom_54 hl (k := 4) rfl (ni_1 _) (by decide) rfl (fun ls hl => ?_)
          refine lv_goto (tgt := 7) hx hb dX6_takenFrom_57 (by decide) ?_
          exact ih _ _ _ _ _ _ hf hP hS (lv_sub hl [1, 2, 3, 4, 0] rfl)
        clear hf
        have hf := hq9
        clear hq9
        refine lv_icmp_gt (tgt := 54) hx hb dX6_takenFrom_24 (by decide) (fun hc => ?_) (fun hc => ?_)
        · have hf := ip hc hf
          cases hf
          exact hJ9 _ _ _ hP hS (lv_sub hl [0, 1, 2, 3, 4] rfl)
        · have hf := iq hc hf
          refine lv_aload_n hx hb dX6_takenFrom_27 rfl (lv_at hl 0 rfl) ?_
          refine x_get hx hb hts hown hE hP fl_X6_39 (na3 hN) gX_3_9 dX6_takenFrom_28 ?_
          refine lv_iload hx hb dX6_takenFrom_31 (lv_at hl 4 rfl) ?_
          obtain ⟨v10, hv, hf⟩ := bs1 hf
          refine x_iald hx hb hE hP (na13 hN) (aX_13 _) hv dX6_takenFrom_33 ?_
          refine lv_iload_n hx hb dX6_takenFrom_34 rfl (lv_at hl 2 rfl) ?_
          refine lv_icmp_lt (tgt := 54) hx hb dX6_takenFrom_35 (by decide) (fun hc => ?_) (fun hc => ?_)
          · have hf := ip hc hf
            cases hf
            exact hJ9 _ _ _ hP hS (lv_sub hl [0, 1, 2, 3, 4] rfl)
          · have hf := iq hc hf
            refine lv_aload_n hx hb dX6_takenFrom_38 rfl (lv_at hl 0 rfl) ?_
            refine x_get hx hb hts hown hE hP fl_X6_39 (na3 hN) gX_3_9 dX6_takenFrom_39 ?_
            refine lv_iload hx hb dX6_takenFrom_42 (lv_at hl 4 rfl) ?_
            obtain ⟨v11, hv, hf⟩ := bs1 hf
            refine x_iald hx hb hE hP (na13 hN) (aX_13 _) hv dX6_takenFrom_44 ?_
            refine lv_istore_n (lv' := [(2, .int v11), (0, .ref (ad 3)), (1, .int x1), (3, .int v2), (4, .int v3)]) hx hb dX6_takenFrom_45 rfl hl (by decide) rfl (fun ls hl => ?_)
            refine lv_aload_n hx hb dX6_takenFrom_46 rfl (lv_at hl 1 rfl) ?_
            refine x_get hx hb hts hown hE hP fl_X6_42 (na3 hN) gX_3_10 dX6_takenFrom_47 ?_
            refine lv_iload hx hb dX6_takenFrom_50 (lv_at hl 4 rfl) ?_
            obtain ⟨v12, hv, hf⟩ := bs1 hf
            refine x_iald hx hb hE hP (na14 hN) (aX_14 _) hv dX6_takenFrom_52 ?_
            refine lv_istore_n (lv' := [(3, .int v12), (2, .int v11), (0, .ref (ad 3)), (1, .int x1), (4, .int v3)]) hx hb dX6_takenFrom_53 rfl hl (by decide) rfl (fun ls hl => ?_)
            cases hf
            exact hJ9 _ _ _ hP hS (lv_sub hl [2, 3, 1, 0, 4] rfl)
  exact hL4 _ _ _ _ _ _ _ hf hP hS (lv_sub hl [3, 4, 2, 1, 0] rfl)
def LX6_settle_s_2 : Nat → Int32 → Mm → Option (Mm)
  | 0, _, _ => none
  | fu + 1, v1, w2 =>
    if (w2 3 12) ≤ v1 then
      some (w2)
    else
      bd2 (fX6_addVoice_s w2 v1) fun v5 w6 =>
      LX6_settle_s_2 fu (v1 + 1) w6
def LX6_settle_s_24 : Nat → Int32 → Mm → Option (Mm)
  | 0, _, _ => none
  | fu + 1, v7, w8 =>
    if 200 < v7 then
      some (w8)
    else
      bd1 (fX6_takenFrom_s w8 v7) fun v11 =>
      bd1 (wr w8 15 201 v7 v11) fun w12 =>
      LX6_settle_s_24 fu (v7 + 1) w12
def fX6_settle_s (w : Mm) : Option (Mm) :=
  bd1 (LX6_settle_s_2 1000 0 w) fun (w4 : Mm) =>
  bd1 (LX6_settle_s_24 1000 0 w4) fun (w10 : Mm) =>
  some w10
set_option maxHeartbeats 4000000 in
set_option maxRecDepth 100000 in
theorem kX6_settle_s {l : Launch} {κ : Kp} {tl : Nat} {N : Nat} {ad : Nat → Nat} {w : Mm} {w' : Mm} (hN : 16 ≤ N) (hD : Apt ad N) (hf : fX6_settle_s w = some w') : Met l yX6_settle (Cond.code yX6_settle cX6_settle 2 none :: TB) (rmX 2 42) (PcX κ (wX κ tl) N ad w [.ref (ad 3)]) (QV κ (wX κ tl) N ad w') 0 0 (Aof ad N) := by
  refine mkV (by decide +kernel) (Nat.le_of_ble_eq_true rfl) (fun p e R s m args below meth c Q H locs ls hC hRf hRl hP hS hret hl => ?_)
  obtain ⟨hx, hb, hml, hown, hts, hE⟩ := hC
  have hA : ∀ k, k < N → Aof ad N (ad k) := fun k h => Aof_in h
  have hAA : ∀ z, Aof ad N z → Aof ad N z := fun _ h => h
  have hl : lv_has ls 2 [(0, .ref (ad 3))] := hl
  unfold fX6_settle_s at hf
  refine lv_iconst (v := 0) hx hb dX6_settle_0 nc_0 ?_
  refine lv_istore_n (lv' := [(1, .int 0), (0, .ref (ad 3))]) hx hb dX6_settle_1 rfl hl (by decide) rfl (fun ls hl => ?_)
  obtain ⟨w4, hq3, hf⟩ := bs1 hf
  have hJ3 : ∀ (H : Heap) (locs : List Loc) (ls : Array Slot), Ho κ (wX κ tl) N ad w4 H → va_S (Aof ad N) s.heap H locs → lv_has ls 2 [(0, .ref (ad 3))] → W p l e R s m args below meth c H locs 0 0 Q (F0 m 22 ls []) := by
    intro H locs ls hP hS hl
    refine lv_iconst (v := 0) hx hb dX6_settle_22 nc_0 ?_
    refine lv_istore_n (lv' := [(1, .int 0), (0, .ref (ad 3))]) hx hb dX6_settle_23 rfl hl (by decide) rfl (fun ls hl => ?_)
    obtain ⟨w10, hq9, hf⟩ := bs1 hf
    have hJ9 : ∀ (H : Heap) (locs : List Loc) (ls : Array Slot), Ho κ (wX κ tl) N ad w10 H → va_S (Aof ad N) s.heap H locs → lv_has ls 2 [] → W p l e R s m args below meth c H locs 0 0 Q (F0 m 48 ls []) := by
      intro H locs ls hP hS hl
      cases hf
      exact hret _ _ _ _ dX6_settle_48 hP hS
    clear hf
    have hf := hq9
    clear hq9
    have hL9 : ∀ (fu : Nat) (v7 : Int32) (w8 : Mm) (H : Heap) (locs : List Loc) (ls : Array Slot), LX6_settle_s_24 fu v7 w8 = some (w10) → Ho κ (wX κ tl) N ad w8 H → va_S (Aof ad N) s.heap H locs → lv_has ls 2 [(0, .ref (ad 3)), (1, .int v7)] → W p l e R s m args below meth c H locs 0 0 Q (F0 m 24 ls []) := by
      intro fu
      induction fu with
      | zero =>
        intro v7 w8 H locs ls hf
        rw [LX6_settle_s_24] at hf
        cases hf
      | succ fu ih =>
        intro v7 w8 H locs ls hf hP hS hl
        rw [LX6_settle_s_24] at hf
        refine lv_iload_n hx hb dX6_settle_24 rfl (lv_at hl 1 rfl) ?_
        refine lv_sipush (v := 200) hx hb dX6_settle_25 ns_200 ?_
        refine lv_icmp_gt (tgt := 48) hx hb dX6_settle_28 (by decide) (fun hc => ?_) (fun hc => ?_)
        · have hf := ip hc hf
          cases hf
          exact hJ9 _ _ _ hP hS (lv_sub hl [] rfl)
        · have hf := iq hc hf
          refine lv_aload_n hx hb dX6_settle_31 rfl (lv_at hl 0 rfl) ?_
          refine x_get hx hb hts hown hE hP fl_X6_45 (na3 hN) gX_3_11 dX6_settle_32 ?_
          refine lv_iload_n hx hb dX6_settle_35 rfl (lv_at hl 1 rfl) ?_
          refine lv_aload_n hx hb dX6_settle_36 rfl (lv_at hl 0 rfl) ?_
          refine lv_iload_n hx hb dX6_settle_37 rfl (lv_at hl 1 rfl) ?_
          obtain ⟨v11, hv, hf⟩ := bs1 hf
          refine x_cVi (As := [.int v7]) (rest := [.int v7, .ref (ad 15)]) hx hb hml hts hown hE hP hS hAA (kX6_takenFrom_s hN hD hv) cl_X6_83 (na3 hN) oX_3 vc_6 (Nat.le_trans (by decide) hRf) (Nat.le_trans (by decide) hRl) (Nat.zero_le _) (Nat.zero_le _) rfl hl.1 rfl (Nat.le_of_ble_eq_true rfl) dX6_settle_38 (fun H locs hP hS => ?_)
          obtain ⟨w12, hv, hf⟩ := bs1 hf
          refine x_iast hx hb hE hD hA hP hS (na15 hN) aX_15 hv dX6_settle_41 (fun H locs hP hS => ?_)
          refine lv_iinc (v := (v7 + 1)) (lv' := [(1, .int (v7 + 1)), (0, .ref (ad 3))]) hx hb dX6_settle_42 hl (k := 1) rfl (ni_1 _) (by decide) rfl (fun ls hl => ?_)
          refine lv_goto (tgt := 24) hx hb dX6_settle_45 (by decide) ?_
          exact ih _ _ _ _ _ hf hP hS (lv_sub hl [1, 0] rfl)
    exact hL9 _ _ _ _ _ _ hf hP hS (lv_sub hl [1, 0] rfl)
  clear hf
  have hf := hq3
  clear hq3
  have hL3 : ∀ (fu : Nat) (v1 : Int32) (w2 : Mm) (H : Heap) (locs : List Loc) (ls : Array Slot), LX6_settle_s_2 fu v1 w2 = some (w4) → Ho κ (wX κ tl) N ad w2 H → va_S (Aof ad N) s.heap H locs → lv_has ls 2 [(0, .ref (ad 3)), (1, .int v1)] → W p l e R s m args below meth c H locs 0 0 Q (F0 m 2 ls []) := by
    intro fu
    induction fu with
    | zero =>
      intro v1 w2 H locs ls hf
      rw [LX6_settle_s_2] at hf
      cases hf
    | succ fu ih =>
      intro v1 w2 H locs ls hf hP hS hl
      rw [LX6_settle_s_2] at hf
      refine lv_iload_n hx hb dX6_settle_2 rfl (lv_at hl 1 rfl) ?_
      refine lv_aload_n hx hb dX6_settle_3 rfl (lv_at hl 0 rfl) ?_
      refine x_get hx hb hts hown hE hP fl_X6_48 (na3 hN) gX_3_12 dX6_settle_4 ?_
      refine lv_icmp_ge (tgt := 22) hx hb dX6_settle_7 (by decide) (fun hc => ?_) (fun hc => ?_)
      · have hf := ip hc hf
        cases hf
        exact hJ3 _ _ _ hP hS (lv_sub hl [0] rfl)
      · have hf := iq hc hf
        refine lv_aload_n hx hb dX6_settle_10 rfl (lv_at hl 0 rfl) ?_
        refine lv_iload_n hx hb dX6_settle_11 rfl (lv_at hl 1 rfl) ?_
        obtain ⟨v5, w6, hv, hf⟩ := bs2 hf
        refine x_cVi (As := [.int v1]) (rest := []) hx hb hml hts hown hE hP hS hAA (kX6_addVoice_s hN hD hv) cl_X6_80 (na3 hN) oX_3 vc_6 (Nat.le_trans (by decide) hRf) (Nat.le_trans (by decide) hRl) (Nat.zero_le _) (Nat.zero_le _) rfl hl.1 rfl (Nat.le_of_ble_eq_true rfl) dX6_settle_12 (fun H locs hP hS => ?_)
        refine lv_pop hx hb dX6_settle_15 rfl ?_
        refine lv_iinc (v := (v1 + 1)) (lv' := [(1, .int (v1 + 1)), (0, .ref (ad 3))]) hx hb dX6_settle_16 hl (k := 1) rfl (ni_1 _) (by decide) rfl (fun ls hl => ?_)
        refine lv_goto (tgt := 2) hx hb dX6_settle_19 (by decide) ?_
        exact ih _ _ _ _ _ hf hP hS (lv_sub hl [1, 0] rfl)
  exact hL3 _ _ _ _ _ _ hf hP hS (lv_sub hl [1, 0] rfl)
def fX1_clear (w : Mm) : Option (Mm) :=
  bd1 (pt w 37 3 0) fun w1 =>
  some w1
set_option maxHeartbeats 4000000 in
set_option maxRecDepth 100000 in
theorem kX1_clear {l : Launch} {κ : Kp} {tl : Nat} {N : Nat} {ad : Nat → Nat} {w : Mm} {w' : Mm} (hN : 52 ≤ N) (hD : Apt ad N) (hf : fX1_clear w = some w') : Met l yX1_clear (Cond.code yX1_clear cX1_clear 1 none :: TB) (rmX 0 0) (PcX κ (wX κ tl) N ad w [.ref (ad 37)]) (QV κ (wX κ tl) N ad w') 0 0 (Aof ad N) := by
  refine mkV (by decide +kernel) (Nat.le_of_ble_eq_true rfl) (fun p e R s m args below meth c Q H locs ls hC hRf hRl hP hS hret hl => ?_)
  obtain ⟨hx, hb, hml, hown, hts, hE⟩ := hC
  have hA : ∀ k, k < N → Aof ad N (ad k) := fun k h => Aof_in h
  have hAA : ∀ z, Aof ad N z → Aof ad N z := fun _ h => h
  have hl : lv_has ls 1 [(0, .ref (ad 37))] := hl
  unfold fX1_clear at hf
  refine lv_aload_n hx hb dX1_clear_0 rfl (lv_at hl 0 rfl) ?_
  refine lv_iconst (v := 0) hx hb dX1_clear_1 nc_0 ?_
  obtain ⟨w1, hv, hf⟩ := bs1 hf
  refine x_put hx hb hts hown hE hD hA hP hS fp_X1_21 (nb37 hN) pX_37_3 rfl rfl hv dX1_clear_2 (fun H locs hP hS => ?_)
  cases hf
  exact hret _ _ _ _ dX1_clear_5 hP hS
def fX3_clear (w : Mm) : Option (Mm) :=
  bd1 (pt w 41 2 0) fun w1 =>
  some w1
set_option maxHeartbeats 4000000 in
set_option maxRecDepth 100000 in
theorem kX3_clear {l : Launch} {κ : Kp} {tl : Nat} {N : Nat} {ad : Nat → Nat} {w : Mm} {w' : Mm} (hN : 52 ≤ N) (hD : Apt ad N) (hf : fX3_clear w = some w') : Met l yX3_clear (Cond.code yX3_clear cX3_clear 1 none :: TB) (rmX 0 0) (PcX κ (wX κ tl) N ad w [.ref (ad 41)]) (QV κ (wX κ tl) N ad w') 0 0 (Aof ad N) := by
  refine mkV (by decide +kernel) (Nat.le_of_ble_eq_true rfl) (fun p e R s m args below meth c Q H locs ls hC hRf hRl hP hS hret hl => ?_)
  obtain ⟨hx, hb, hml, hown, hts, hE⟩ := hC
  have hA : ∀ k, k < N → Aof ad N (ad k) := fun k h => Aof_in h
  have hAA : ∀ z, Aof ad N z → Aof ad N z := fun _ h => h
  have hl : lv_has ls 1 [(0, .ref (ad 41))] := hl
  unfold fX3_clear at hf
  refine lv_aload_n hx hb dX3_clear_0 rfl (lv_at hl 0 rfl) ?_
  refine lv_iconst (v := 0) hx hb dX3_clear_1 nc_0 ?_
  obtain ⟨w1, hv, hf⟩ := bs1 hf
  refine x_put hx hb hts hown hE hD hA hP hS fp_X3_18 (nb41 hN) pX_41_2 rfl rfl hv dX3_clear_2 (fun H locs hP hS => ?_)
  cases hf
  exact hret _ _ _ _ dX3_clear_5 hP hS
def fX7_clear (w : Mm) : Option (Mm) :=
  bd1 (pt w 44 2 0) fun w1 =>
  some w1
set_option maxHeartbeats 4000000 in
set_option maxRecDepth 100000 in
theorem kX7_clear {l : Launch} {κ : Kp} {tl : Nat} {N : Nat} {ad : Nat → Nat} {w : Mm} {w' : Mm} (hN : 52 ≤ N) (hD : Apt ad N) (hf : fX7_clear w = some w') : Met l yX7_clear (Cond.code yX7_clear cX7_clear 1 none :: TB) (rmX 0 0) (PcX κ (wX κ tl) N ad w [.ref (ad 44)]) (QV κ (wX κ tl) N ad w') 0 0 (Aof ad N) := by
  refine mkV (by decide +kernel) (Nat.le_of_ble_eq_true rfl) (fun p e R s m args below meth c Q H locs ls hC hRf hRl hP hS hret hl => ?_)
  obtain ⟨hx, hb, hml, hown, hts, hE⟩ := hC
  have hA : ∀ k, k < N → Aof ad N (ad k) := fun k h => Aof_in h
  have hAA : ∀ z, Aof ad N z → Aof ad N z := fun _ h => h
  have hl : lv_has ls 1 [(0, .ref (ad 44))] := hl
  unfold fX7_clear at hf
  refine lv_aload_n hx hb dX7_clear_0 rfl (lv_at hl 0 rfl) ?_
  refine lv_iconst (v := 0) hx hb dX7_clear_1 nc_0 ?_
  obtain ⟨w1, hv, hf⟩ := bs1 hf
  refine x_put hx hb hts hown hE hD hA hP hS fp_X7_18 (nb44 hN) pX_44_2 rfl rfl hv dX7_clear_2 (fun H locs hP hS => ?_)
  cases hf
  exact hret _ _ _ _ dX7_clear_5 hP hS
def fX8_lay (tl : Nat) (w : Mm) : Option (Int32 × Mm) :=
  bd1 (gq (w 16 4) 3) fun _ =>
  bd2 (fX5_readText tl w (w 16 1)) fun v1 w2 =>
  if v1 = (-4) then
    bd1 (gq (w2 16 4) 3) fun _ =>
    bd1 (fX6_canBeLaid_s w2) fun v3 =>
    if v3 = 0 then
      some ((-2), w2)
    else
      bd1 (gq (w2 16 4) 3) fun _ =>
      bd1 (fX6_settle_s w2) fun w4 =>
      bd1 (gq (w4 16 3) 17) fun _ =>
      bd1 (gq (w4 16 4) 3) fun _ =>
      bd1 (pt w4 16 3 3) fun w5 =>
      bd1 (pt w5 16 4 17) fun w6 =>
      bd1 (fX1_clear w6) fun w7 =>
      bd1 (fX3_clear w7) fun w8 =>
      bd1 (fX7_clear w8) fun w9 =>
      bd1 (gq (w9 16 3) 3) fun _ =>
      some ((w9 3 12), w9)
  else
    some ((-2), w2)
set_option maxHeartbeats 4000000 in
set_option maxRecDepth 100000 in
theorem kX8_lay {l : Launch} {κ : Kp} {tl : Nat} {N : Nat} {ad : Nat → Nat} {w : Mm} {r : Int32} {w' : Mm} (hN : 52 ≤ N) (hD : Apt ad N) (hf : fX8_lay tl w = some (r, w')) : Met l yX8_lay (Cond.code yX8_lay cX8_lay 2 (some .int) :: TB) (rmX 4 98) (PcX κ (wX κ tl) N ad w [.ref (ad 16)]) (QI κ (wX κ tl) N ad w' r) 0 0 (Aof ad N) := by
  refine mkI (by decide +kernel) (Nat.le_of_ble_eq_true rfl) (fun p e R s m args below meth c Q H locs ls hC hRf hRl hP hS hret hl => ?_)
  obtain ⟨hx, hb, hml, hown, hts, hE⟩ := hC
  have hA : ∀ k, k < N → Aof ad N (ad k) := fun k h => Aof_in h
  have hAA : ∀ z, Aof ad N z → Aof ad N z := fun _ h => h
  have hl : lv_has ls 2 [(0, .ref (ad 16))] := hl
  unfold fX8_lay at hf
  refine lv_aload_n hx hb dX8_lay_0 rfl (lv_at hl 0 rfl) ?_
  refine x_get hx hb hts hown hE hP fl_X8_20 (nb16 hN) gX_16_2 dX8_lay_1 ?_
  refine lv_aload_n hx hb dX8_lay_4 rfl (lv_at hl 0 rfl) ?_
  refine x_get hx hb hts hown hE hP fl_X8_9 (nb16 hN) gX_16_0 dX8_lay_5 ?_
  refine lv_aload_n hx hb dX8_lay_8 rfl (lv_at hl 0 rfl) ?_
  refine x_get hx hb hts hown hE hP fl_X8_13 (nb16 hN) gX_16_1 dX8_lay_9 ?_
  refine lv_aload_n hx hb dX8_lay_12 rfl (lv_at hl 0 rfl) ?_
  obtain ⟨_, hv, hf⟩ := bs1 hf
  refine x_getr hx hb hts hown hE hP fl_X8_35 (nb16 hN) gX_16_4 hv dX8_lay_13 ?_
  obtain ⟨v1, w2, hv, hf⟩ := bs2 hf
  refine x_cVi (As := [.ref (ad 0), .int (w 16 1), .ref (ad 3)]) (rest := []) hx hb hml hts hown hE hP hS hAA (kX5_readText (Nat.le_trans (by decide) hN) hD hv) cl_X8_86 (nb1 hN) oX_1 vc_5 (Nat.le_trans (by decide) hRf) (Nat.le_trans (by decide) hRl) (Nat.zero_le _) (Nat.zero_le _) rfl hl.1 rfl (Nat.le_of_ble_eq_true rfl) dX8_lay_16 (fun H locs hP hS => ?_)
  refine lv_bipush (v := (-4)) hx hb dX8_lay_19 nb_m4 ?_
  refine lv_icmp_ne (tgt := 34) hx hb dX8_lay_21 (by decide) (fun hc => ?_) (fun hc => ?_)
  · have hf := iq hc hf
    refine lv_bipush (v := (-2)) hx hb dX8_lay_34 nb_m2 ?_
    cases hf
    exact hret _ _ _ _ dX8_lay_36 hP hS
  · have hf := ip hc hf
    refine lv_aload_n hx hb dX8_lay_24 rfl (lv_at hl 0 rfl) ?_
    obtain ⟨_, hv, hf⟩ := bs1 hf
    refine x_getr hx hb hts hown hE hP fl_X8_35 (nb16 hN) gX_16_4 hv dX8_lay_25 ?_
    obtain ⟨v3, hv, hf⟩ := bs1 hf
    refine x_cVi (As := []) (rest := []) hx hb hml hts hown hE hP hS hAA (kX6_canBeLaid_s (Nat.le_trans (by decide) hN) hD hv) cl_X8_90 (nb3 hN) oX_3 vc_6 (Nat.le_trans (by decide) hRf) (Nat.le_trans (by decide) hRl) (Nat.zero_le _) (Nat.zero_le _) rfl hl.1 rfl (Nat.le_of_ble_eq_true rfl) dX8_lay_28 (fun H locs hP hS => ?_)
    refine lv_if_ne (tgt := 37) hx hb dX8_lay_31 (by decide) (fun hc => ?_) (fun hc => ?_)
    · have hf := iq hc hf
      refine lv_aload_n hx hb dX8_lay_37 rfl (lv_at hl 0 rfl) ?_
      obtain ⟨_, hv, hf⟩ := bs1 hf
      refine x_getr hx hb hts hown hE hP fl_X8_35 (nb16 hN) gX_16_4 hv dX8_lay_38 ?_
      obtain ⟨w4, hv, hf⟩ := bs1 hf
      refine x_cVv (As := []) (rest := []) hx hb hml hts hown hE hP hS hAA (kX6_settle_s (Nat.le_trans (by decide) hN) hD hv) cl_X8_94 (nb3 hN) oX_3 vc_6 (Nat.le_trans (by decide) hRf) (Nat.le_trans (by decide) hRl) (Nat.zero_le _) (Nat.zero_le _) rfl hl.1 rfl (Nat.le_of_ble_eq_true rfl) dX8_lay_41 (fun H locs hP hS => ?_)
      refine lv_aload_n hx hb dX8_lay_44 rfl (lv_at hl 0 rfl) ?_
      obtain ⟨_, hv, hf⟩ := bs1 hf
      refine x_getr hx hb hts hown hE hP fl_X8_28 (nb16 hN) gX_16_3 hv dX8_lay_45 ?_
      refine lv_astore_n (lv' := [(1, .ref (ad 17)), (0, .ref (ad 16))]) hx hb dX8_lay_48 rfl hl (by decide) rfl (fun ls hl => ?_)
      refine lv_aload_n hx hb dX8_lay_49 rfl (lv_at hl 1 rfl) ?_
      refine lv_aload_n hx hb dX8_lay_50 rfl (lv_at hl 1 rfl) ?_
      obtain ⟨_, hv, hf⟩ := bs1 hf
      refine x_getr hx hb hts hown hE hP fl_X8_35 (nb16 hN) gX_16_4 hv dX8_lay_51 ?_
      obtain ⟨w5, hv, hf⟩ := bs1 hf
      refine x_put (v := .ref (ad 3)) hx hb hts hown hE hD hA hP hS fp_X8_28 (nb16 hN) pX_16_3 rfl rfl hv dX8_lay_54 (fun H locs hP hS => ?_)
      refine lv_aload_n hx hb dX8_lay_57 rfl (lv_at hl 1 rfl) ?_
      refine lv_aload_n hx hb dX8_lay_58 rfl (lv_at hl 0 rfl) ?_
      obtain ⟨w6, hv, hf⟩ := bs1 hf
      refine x_put (v := .ref (ad 17)) hx hb hts hown hE hD hA hP hS fp_X8_35 (nb16 hN) pX_16_4 rfl rfl hv dX8_lay_59 (fun H locs hP hS => ?_)
      refine lv_aload_n hx hb dX8_lay_62 rfl (lv_at hl 1 rfl) ?_
      refine x_get hx hb hts hown hE hP fl_X8_50 (nb16 hN) gX_16_6 dX8_lay_63 ?_
      obtain ⟨w7, hv, hf⟩ := bs1 hf
      refine x_cVv (As := []) (rest := []) hx hb hml hts hown hE hP hS hAA (kX1_clear hN hD hv) cl_X8_97 (nb37 hN) oX_37 vc_1 (Nat.le_trans (by decide) hRf) (Nat.le_trans (by decide) hRl) (Nat.zero_le _) (Nat.zero_le _) rfl hl.1 rfl (Nat.le_of_ble_eq_true rfl) dX8_lay_66 (fun H locs hP hS => ?_)
      refine lv_aload_n hx hb dX8_lay_69 rfl (lv_at hl 1 rfl) ?_
      refine x_get hx hb hts hown hE hP fl_X8_57 (nb16 hN) gX_16_7 dX8_lay_70 ?_
      obtain ⟨w8, hv, hf⟩ := bs1 hf
      refine x_cVv (As := []) (rest := []) hx hb hml hts hown hE hP hS hAA (kX3_clear hN hD hv) cl_X8_100 (nb41 hN) oX_41 vc_3 (Nat.le_trans (by decide) hRf) (Nat.le_trans (by decide) hRl) (Nat.zero_le _) (Nat.zero_le _) rfl hl.1 rfl (Nat.le_of_ble_eq_true rfl) dX8_lay_73 (fun H locs hP hS => ?_)
      refine lv_aload_n hx hb dX8_lay_76 rfl (lv_at hl 1 rfl) ?_
      refine x_get hx hb hts hown hE hP fl_X8_64 (nb16 hN) gX_16_8 dX8_lay_77 ?_
      obtain ⟨w9, hv, hf⟩ := bs1 hf
      refine x_cVv (As := []) (rest := []) hx hb hml hts hown hE hP hS hAA (kX7_clear hN hD hv) cl_X8_101 (nb44 hN) oX_44 vc_7 (Nat.le_trans (by decide) hRf) (Nat.le_trans (by decide) hRl) (Nat.zero_le _) (Nat.zero_le _) rfl hl.1 rfl (Nat.le_of_ble_eq_true rfl) dX8_lay_80 (fun H locs hP hS => ?_)
      refine lv_aload_n hx hb dX8_lay_83 rfl (lv_at hl 1 rfl) ?_
      obtain ⟨_, hv, hf⟩ := bs1 hf
      refine x_getr hx hb hts hown hE hP fl_X8_28 (nb16 hN) gX_16_3 hv dX8_lay_84 ?_
      refine x_get hx hb hts hown hE hP fl_X8_102 (nb3 hN) gX_3_12 dX8_lay_87 ?_
      cases hf
      exact hret _ _ _ _ dX8_lay_90 hP hS
    · have hf := ip hc hf
      refine lv_bipush (v := (-2)) hx hb dX8_lay_34 nb_m2 ?_
      cases hf
      exact hret _ _ _ _ dX8_lay_36 hP hS
def fX6_has_l (w : Mm) (x1 : Int32) : Option (Int32) :=
  if x1 < 0 then
    some 0
  else
    if (w 17 12) ≤ x1 then
      some 0
    else
      some 1
set_option maxHeartbeats 4000000 in
set_option maxRecDepth 100000 in
theorem kX6_has_l {l : Launch} {κ : Kp} {tl : Nat} {N : Nat} {ad : Nat → Nat} {w : Mm} {x1 : Int32} {r : Int32} (hN : 52 ≤ N) (hD : Apt ad N) (hf : fX6_has_l w x1 = some r) : Met l yX6_has (Cond.code yX6_has cX6_has 2 (some .boolean) :: TB) (rmX 0 0) (PcX κ (wX κ tl) N ad w [.ref (ad 17), .int x1]) (QI κ (wX κ tl) N ad w r) 0 0 (Aof ad N) := by
  refine mkZ (by decide +kernel) (Nat.le_of_ble_eq_true rfl) (fun p e R s m args below meth c Q H locs ls hC hRf hRl hP hS hret hl => ?_)
  obtain ⟨hx, hb, hml, hown, hts, hE⟩ := hC
  have hA : ∀ k, k < N → Aof ad N (ad k) := fun k h => Aof_in h
  have hAA : ∀ z, Aof ad N z → Aof ad N z := fun _ h => h
  have hl : lv_has ls 2 [(0, .ref (ad 17)), (1, .int x1)] := hl
  unfold fX6_has_l at hf
  refine lv_iload_n hx hb dX6_has_0 rfl (lv_at hl 1 rfl) ?_
  refine lv_if_lt (tgt := 16) hx hb dX6_has_1 (by decide) (fun hc => ?_) (fun hc => ?_)
  · have hf := ip hc hf
    refine lv_iconst (v := 0) hx hb dX6_has_16 nc_0 ?_
    cases hf
    exact hret _ _ _ _ dX6_has_17 (Or.inl rfl) hP hS
  · have hf := iq hc hf
    refine lv_iload_n hx hb dX6_has_4 rfl (lv_at hl 1 rfl) ?_
    refine lv_aload_n hx hb dX6_has_5 rfl (lv_at hl 0 rfl) ?_
    refine x_get hx hb hts hown hE hP fl_X6_48 (nb17 hN) gX_17_12 dX6_has_6 ?_
    refine lv_icmp_ge (tgt := 16) hx hb dX6_has_9 (by decide) (fun hc => ?_) (fun hc => ?_)
    · have hf := ip hc hf
      refine lv_iconst (v := 0) hx hb dX6_has_16 nc_0 ?_
      cases hf
      exact hret _ _ _ _ dX6_has_17 (Or.inl rfl) hP hS
    · have hf := iq hc hf
      refine lv_iconst (v := 1) hx hb dX6_has_12 nc_1 ?_
      refine lv_goto (tgt := 17) hx hb dX6_has_13 (by decide) ?_
      cases hf
      exact hret _ _ _ _ dX6_has_17 (Or.inr rfl) hP hS
def fX8_beast (w : Mm) (x1 x2 : Int32) : Option (Int32) :=
  bd1 (gq (w 16 3) 17) fun _ =>
  bd1 (fX6_has_l w x1) fun v1 =>
  if v1 = 0 then
    some (-1)
  else
    if x2 = 0 then
      bd1 (gq (w 16 3) 17) fun _ =>
      bd1 (rd w 18 8 x1) fun v3 =>
      some v3
    else
    if x2 = 1 then
      bd1 (gq (w 16 3) 17) fun _ =>
      bd1 (rd w 19 8 x1) fun v4 =>
      some v4
    else
    if x2 = 2 then
      bd1 (gq (w 16 3) 17) fun _ =>
      bd1 (rd w 20 8 x1) fun v5 =>
      some v5
    else
    if x2 = 3 then
      bd1 (gq (w 16 3) 17) fun _ =>
      bd1 (rd w 21 8 x1) fun v6 =>
      some v6
    else
    if x2 = 4 then
      bd1 (gq (w 16 3) 17) fun _ =>
      bd1 (rd w 22 8 x1) fun v7 =>
      some v7
    else
    if x2 = 5 then
      bd1 (gq (w 16 3) 17) fun _ =>
      bd1 (rd w 23 8 x1) fun v8 =>
      some v8
    else
    if x2 = 6 then
      bd1 (gq (w 16 3) 17) fun _ =>
      bd1 (rd w 24 8 x1) fun v9 =>
      some v9
    else
    some (-1)
set_option maxHeartbeats 4000000 in
set_option maxRecDepth 100000 in
theorem kX8_beast {l : Launch} {κ : Kp} {tl : Nat} {N : Nat} {ad : Nat → Nat} {w : Mm} {x1 x2 : Int32} {r : Int32} (hN : 52 ≤ N) (hD : Apt ad N) (hf : fX8_beast w x1 x2 = some r) : Met l yX8_beast (Cond.code yX8_beast cX8_beast 3 (some .int) :: TB) (rmX 1 21) (PcX κ (wX κ tl) N ad w [.ref (ad 16), .int x1, .int x2]) (QI κ (wX κ tl) N ad w r) 0 0 (Aof ad N) := by
  refine mkI (by decide +kernel) (Nat.le_of_ble_eq_true rfl) (fun p e R s m args below meth c Q H locs ls hC hRf hRl hP hS hret hl => ?_)
  obtain ⟨hx, hb, hml, hown, hts, hE⟩ := hC
  have hA : ∀ k, k < N → Aof ad N (ad k) := fun k h => Aof_in h
  have hAA : ∀ z, Aof ad N z → Aof ad N z := fun _ h => h
  have hl : lv_has ls 3 [(0, .ref (ad 16)), (1, .int x1), (2, .int x2)] := hl
  unfold fX8_beast at hf
  refine lv_aload_n hx hb dX8_beast_0 rfl (lv_at hl 0 rfl) ?_
  obtain ⟨_, hv, hf⟩ := bs1 hf
  refine x_getr hx hb hts hown hE hP fl_X8_28 (nb16 hN) gX_16_3 hv dX8_beast_1 ?_
  refine lv_iload_n hx hb dX8_beast_4 rfl (lv_at hl 1 rfl) ?_
  obtain ⟨v1, hv, hf⟩ := bs1 hf
  refine x_cVi (As := [.int x1]) (rest := []) hx hb hml hts hown hE hP hS hAA (kX6_has_l hN hD hv) cl_X8_105 (nb17 hN) oX_17 vc_6 (Nat.le_trans (by decide) hRf) (Nat.le_trans (by decide) hRl) (Nat.zero_le _) (Nat.zero_le _) rfl hl.1 rfl (Nat.le_of_ble_eq_true rfl) dX8_beast_5 (fun H locs hP hS => ?_)
  refine lv_if_ne (tgt := 13) hx hb dX8_beast_8 (by decide) (fun hc => ?_) (fun hc => ?_)
  · have hf := iq hc hf
    refine lv_iload_n hx hb dX8_beast_13 rfl (lv_at hl 2 rfl) ?_
    by_cases hk0 : x2 = 0
    · have hf := ip hk0 hf
      refine lv_tableIn (off := 42) (tgt := 56) hx hb dX8_beast_14 (by rw [hk0]; decide) (by rw [hk0]; decide) (by rw [hk0]; rfl) (by decide) ?_
      refine lv_aload_n hx hb dX8_beast_56 rfl (lv_at hl 0 rfl) ?_
      obtain ⟨_, hv, hf⟩ := bs1 hf
      refine x_getr hx hb hts hown hE hP fl_X8_28 (nb16 hN) gX_16_3 hv dX8_beast_57 ?_
      refine x_get hx hb hts hown hE hP fl_X8_109 (nb17 hN) gX_17_0 dX8_beast_60 ?_
      refine lv_iload_n hx hb dX8_beast_63 rfl (lv_at hl 1 rfl) ?_
      obtain ⟨v3, hv, hf⟩ := bs1 hf
      refine x_iald hx hb hE hP (nb18 hN) (aX_18 _) hv dX8_beast_64 ?_
      cases hf
      exact hret _ _ _ _ dX8_beast_65 hP hS
    · have hf := iq hk0 hf
      by_cases hk1 : x2 = 1
      · have hf := ip hk1 hf
        refine lv_tableIn (off := 52) (tgt := 66) hx hb dX8_beast_14 (by rw [hk1]; decide) (by rw [hk1]; decide) (by rw [hk1]; rfl) (by decide) ?_
        refine lv_aload_n hx hb dX8_beast_66 rfl (lv_at hl 0 rfl) ?_
        obtain ⟨_, hv, hf⟩ := bs1 hf
        refine x_getr hx hb hts hown hE hP fl_X8_28 (nb16 hN) gX_16_3 hv dX8_beast_67 ?_
        refine x_get hx hb hts hown hE hP fl_X8_113 (nb17 hN) gX_17_1 dX8_beast_70 ?_
        refine lv_iload_n hx hb dX8_beast_73 rfl (lv_at hl 1 rfl) ?_
        obtain ⟨v4, hv, hf⟩ := bs1 hf
        refine x_iald hx hb hE hP (nb19 hN) (aX_19 _) hv dX8_beast_74 ?_
        cases hf
        exact hret _ _ _ _ dX8_beast_75 hP hS
      · have hf := iq hk1 hf
        by_cases hk2 : x2 = 2
        · have hf := ip hk2 hf
          refine lv_tableIn (off := 62) (tgt := 76) hx hb dX8_beast_14 (by rw [hk2]; decide) (by rw [hk2]; decide) (by rw [hk2]; rfl) (by decide) ?_
          refine lv_aload_n hx hb dX8_beast_76 rfl (lv_at hl 0 rfl) ?_
          obtain ⟨_, hv, hf⟩ := bs1 hf
          refine x_getr hx hb hts hown hE hP fl_X8_28 (nb16 hN) gX_16_3 hv dX8_beast_77 ?_
          refine x_get hx hb hts hown hE hP fl_X8_116 (nb17 hN) gX_17_2 dX8_beast_80 ?_
          refine lv_iload_n hx hb dX8_beast_83 rfl (lv_at hl 1 rfl) ?_
          obtain ⟨v5, hv, hf⟩ := bs1 hf
          refine x_iald hx hb hE hP (nb20 hN) (aX_20 _) hv dX8_beast_84 ?_
          cases hf
          exact hret _ _ _ _ dX8_beast_85 hP hS
        · have hf := iq hk2 hf
          by_cases hk3 : x2 = 3
          · have hf := ip hk3 hf
            refine lv_tableIn (off := 72) (tgt := 86) hx hb dX8_beast_14 (by rw [hk3]; decide) (by rw [hk3]; decide) (by rw [hk3]; rfl) (by decide) ?_
            refine lv_aload_n hx hb dX8_beast_86 rfl (lv_at hl 0 rfl) ?_
            obtain ⟨_, hv, hf⟩ := bs1 hf
            refine x_getr hx hb hts hown hE hP fl_X8_28 (nb16 hN) gX_16_3 hv dX8_beast_87 ?_
            refine x_get hx hb hts hown hE hP fl_X8_119 (nb17 hN) gX_17_3 dX8_beast_90 ?_
            refine lv_iload_n hx hb dX8_beast_93 rfl (lv_at hl 1 rfl) ?_
            obtain ⟨v6, hv, hf⟩ := bs1 hf
            refine x_iald hx hb hE hP (nb21 hN) (aX_21 _) hv dX8_beast_94 ?_
            cases hf
            exact hret _ _ _ _ dX8_beast_95 hP hS
          · have hf := iq hk3 hf
            by_cases hk4 : x2 = 4
            · have hf := ip hk4 hf
              refine lv_tableIn (off := 82) (tgt := 96) hx hb dX8_beast_14 (by rw [hk4]; decide) (by rw [hk4]; decide) (by rw [hk4]; rfl) (by decide) ?_
              refine lv_aload_n hx hb dX8_beast_96 rfl (lv_at hl 0 rfl) ?_
              obtain ⟨_, hv, hf⟩ := bs1 hf
              refine x_getr hx hb hts hown hE hP fl_X8_28 (nb16 hN) gX_16_3 hv dX8_beast_97 ?_
              refine x_get hx hb hts hown hE hP fl_X8_122 (nb17 hN) gX_17_4 dX8_beast_100 ?_
              refine lv_iload_n hx hb dX8_beast_103 rfl (lv_at hl 1 rfl) ?_
              obtain ⟨v7, hv, hf⟩ := bs1 hf
              refine x_iald hx hb hE hP (nb22 hN) (aX_22 _) hv dX8_beast_104 ?_
              cases hf
              exact hret _ _ _ _ dX8_beast_105 hP hS
            · have hf := iq hk4 hf
              by_cases hk5 : x2 = 5
              · have hf := ip hk5 hf
                refine lv_tableIn (off := 92) (tgt := 106) hx hb dX8_beast_14 (by rw [hk5]; decide) (by rw [hk5]; decide) (by rw [hk5]; rfl) (by decide) ?_
                refine lv_aload_n hx hb dX8_beast_106 rfl (lv_at hl 0 rfl) ?_
                obtain ⟨_, hv, hf⟩ := bs1 hf
                refine x_getr hx hb hts hown hE hP fl_X8_28 (nb16 hN) gX_16_3 hv dX8_beast_107 ?_
                refine x_get hx hb hts hown hE hP fl_X8_125 (nb17 hN) gX_17_5 dX8_beast_110 ?_
                refine lv_iload_n hx hb dX8_beast_113 rfl (lv_at hl 1 rfl) ?_
                obtain ⟨v8, hv, hf⟩ := bs1 hf
                refine x_iald hx hb hE hP (nb23 hN) (aX_23 _) hv dX8_beast_114 ?_
                cases hf
                exact hret _ _ _ _ dX8_beast_115 hP hS
              · have hf := iq hk5 hf
                by_cases hk6 : x2 = 6
                · have hf := ip hk6 hf
                  refine lv_tableIn (off := 102) (tgt := 116) hx hb dX8_beast_14 (by rw [hk6]; decide) (by rw [hk6]; decide) (by rw [hk6]; rfl) (by decide) ?_
                  refine lv_aload_n hx hb dX8_beast_116 rfl (lv_at hl 0 rfl) ?_
                  obtain ⟨_, hv, hf⟩ := bs1 hf
                  refine x_getr hx hb hts hown hE hP fl_X8_28 (nb16 hN) gX_16_3 hv dX8_beast_117 ?_
                  refine x_get hx hb hts hown hE hP fl_X8_128 (nb17 hN) gX_17_6 dX8_beast_120 ?_
                  refine lv_iload_n hx hb dX8_beast_123 rfl (lv_at hl 1 rfl) ?_
                  obtain ⟨v9, hv, hf⟩ := bs1 hf
                  refine x_iald hx hb hE hP (nb24 hN) (aX_24 _) hv dX8_beast_124 ?_
                  cases hf
                  exact hret _ _ _ _ dX8_beast_125 hP hS
                · have hf := iq hk6 hf
                  have hD1 : W p l e R s m args below meth c H locs 0 0 Q (F0 m 126 ls []) := by
                    refine lv_iconst (v := (-1)) hx hb dX8_beast_126 nc_m1 ?_
                    cases hf
                    exact hret _ _ _ _ dX8_beast_127 hP hS
                  by_cases ho : (x2).toInt < 0 ∨ 6 < (x2).toInt
                  · exact lv_tableOut (tgt := 126) hx hb dX8_beast_14 ho (by decide) hD1
                  · exfalso
                    have hn0 := lv_neT (a := 0) hk0 (by decide)
                    have hn1 := lv_neT (a := 1) hk1 (by decide)
                    have hn2 := lv_neT (a := 2) hk2 (by decide)
                    have hn3 := lv_neT (a := 3) hk3 (by decide)
                    have hn4 := lv_neT (a := 4) hk4 (by decide)
                    have hn5 := lv_neT (a := 5) hk5 (by decide)
                    have hn6 := lv_neT (a := 6) hk6 (by decide)
                    omega
  · have hf := ip hc hf
    refine lv_iconst (v := (-1)) hx hb dX8_beast_11 nc_m1 ?_
    cases hf
    exact hret _ _ _ _ dX8_beast_12 hP hS
def fX8_current (w : Mm) (x1 : Int32) : Option (Int32) :=
  bd1 (fX8_within x1 1 200) fun v1 =>
  if v1 = 0 then
    some (-1)
  else
    bd1 (gq (w 16 3) 17) fun _ =>
    bd1 (rd w 29 201 x1) fun v2 =>
    some v2
set_option maxHeartbeats 4000000 in
set_option maxRecDepth 100000 in
theorem kX8_current {l : Launch} {κ : Kp} {tl : Nat} {N : Nat} {ad : Nat → Nat} {w : Mm} {x1 : Int32} {r : Int32} (hN : 52 ≤ N) (hD : Apt ad N) (hf : fX8_current w x1 = some r) : Met l yX8_current (Cond.code yX8_current cX8_current 2 (some .int) :: TB) (rmX 1 22) (PcX κ (wX κ tl) N ad w [.ref (ad 16), .int x1]) (QI κ (wX κ tl) N ad w r) 0 0 (Aof ad N) := by
  refine mkI (by decide +kernel) (Nat.le_of_ble_eq_true rfl) (fun p e R s m args below meth c Q H locs ls hC hRf hRl hP hS hret hl => ?_)
  obtain ⟨hx, hb, hml, hown, hts, hE⟩ := hC
  have hA : ∀ k, k < N → Aof ad N (ad k) := fun k h => Aof_in h
  have hAA : ∀ z, Aof ad N z → Aof ad N z := fun _ h => h
  have hl : lv_has ls 2 [(0, .ref (ad 16)), (1, .int x1)] := hl
  unfold fX8_current at hf
  refine lv_iload_n hx hb dX8_current_0 rfl (lv_at hl 1 rfl) ?_
  refine lv_iconst (v := 1) hx hb dX8_current_1 nc_1 ?_
  refine lv_sipush (v := 200) hx hb dX8_current_2 ns_200 ?_
  obtain ⟨v1, hv, hf⟩ := bs1 hf
  refine x_cSi (As := [.int x1, .int 1, .int 200]) (rest := []) hx hb hml hts hown hE hP hS hAA (kX8_within hv) cl_X8_82 (Nat.le_trans (by decide) hRf) (Nat.le_trans (by decide) hRl) (Nat.zero_le _) (Nat.zero_le _) rfl hl.1 rfl (Nat.le_of_ble_eq_true rfl) dX8_current_5 (fun H locs hP hS => ?_)
  refine lv_if_eq (tgt := 23) hx hb dX8_current_8 (by decide) (fun hc => ?_) (fun hc => ?_)
  · have hf := ip hc hf
    refine lv_iconst (v := (-1)) hx hb dX8_current_23 nc_m1 ?_
    cases hf
    exact hret _ _ _ _ dX8_current_24 hP hS
  · have hf := iq hc hf
    refine lv_aload_n hx hb dX8_current_11 rfl (lv_at hl 0 rfl) ?_
    obtain ⟨_, hv, hf⟩ := bs1 hf
    refine x_getr hx hb hts hown hE hP fl_X8_28 (nb16 hN) gX_16_3 hv dX8_current_12 ?_
    refine x_get hx hb hts hown hE hP fl_X8_131 (nb17 hN) gX_17_11 dX8_current_15 ?_
    refine lv_iload_n hx hb dX8_current_18 rfl (lv_at hl 1 rfl) ?_
    obtain ⟨v2, hv, hf⟩ := bs1 hf
    refine x_iald hx hb hE hP (nb29 hN) (aX_29 _) hv dX8_current_19 ?_
    refine lv_goto (tgt := 24) hx hb dX8_current_20 (by decide) ?_
    cases hf
    exact hret _ _ _ _ dX8_current_24 hP hS
