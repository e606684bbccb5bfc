section LW
variable {p : Program} {l : Launch} {e : Env} {s : State} {m : MethodId} {below : List Frame} {meth : Method} {c : Code} {b L : Nat} {xs : Nat → Int32} {κ : Kp}

set_option maxHeartbeats 4000000 in
set_option maxRecDepth 100000 in
/-- turn by turn -/
theorem law_loop (C0 : lw_At p s m meth c b L xs) (hE : Ev κ s) (hL : L ≤ 320) {qx qm : Nat} : ∀ (n i : Nat) (adX adM : Nat → Nat) (σ τ : Mm) (H : Heap) (locs : List Loc) (ls : Array Slot), i ≤ 320 → 320 - i < n → adX 16 = qx → adM 0 = qm → Wld κ (AL s) adX adM σ τ H → va_S (AL s) s.heap H locs → lv_has ls 4 [(0, .ref b), (1, .ref qx), (2, .ref qm), (3, .int (nI i))] → W p l e room_1 s m #[Value.ref b] below meth c H locs 81 2872 (lw_Z below #[Value.ref b] s) (F0 m 18 ls []) := by
  obtain ⟨hx, hb, hr, hml, hown, hts0, hX, hbl, hlocks, hgv⟩ := id C0
  have hbA : ¬ AL s b := Nat.not_le.mpr hbl
  intro n
  induction n with
  | zero => intro i adX adM σ τ H locs ls _ h; omega
  | succ n ih =>
    intro i adX adM σ τ H locs ls hi hn e1 e2 hw hS hl
    refine lv_iload_n hx hb dL_law_18 rfl (lv_at hl 3 rfl) ?_
    refine lv_aload_n hx hb dL_law_19 rfl (lv_at hl 0 rfl) ?_
    refine va_slen hx hb hX hbl hbA hS dL_law_20 ?_
    refine lv_iconst (v := 5) hx hb dL_law_21 nc_5 ?_
    refine lv_isub hx hb dL_law_22 ?_
    have hLI : (nI L).toInt = (L : Int) := nI_toInt (by omega)
    have h5 : (5 : Int32).toInt = 5 := by decide
    have hd5 : (nI L - 5).toInt = (L : Int) - 5 := by rw [fb_subI (by rw [hLI, h5]; omega) (by rw [hLI, h5]; omega), hLI, h5]
    refine lv_icmp_gt (tgt := 857) hx hb dL_law_23 (by decide) (fun hc => ?_) (fun hc => ?_)
    · refine lv_iconst (v := 1) hx hb dL_law_857 nc_1 ?_
      refine va_forget (fun q hq => hS.2.2 q hq) ?_
      refine W.widen (k := 600000) (n := 7302250) (by omega) (by omega) ?_
      exact lw_ret hx hb hr hlocks dL_law_858
    · have hi5 : i + 5 ≤ L := by
        have h1 : ¬ (nI L - 5).toInt < (nI i).toInt := fun z => hc ((i_lt _ _).mpr z)
        rw [hd5, nI_toInt (by omega)] at h1
        omega
      have K : KL p l e s m below meth c b κ qx qm i := by
        intro adX adM σ τ H locs ls e1 e2 hw hS hl
        refine lv_iinc (v := nI i + 5) (lv' := [(3, .int (nI i + 5)), (0, .ref b), (1, .ref qx), (2, .ref qm)]) hx hb dL_law_851 hl (k := 3) rfl (ni_5 _) (by decide) rfl (fun ls hl => ?_)
        refine lv_goto (tgt := 18) hx hb dL_law_854 (by decide) ?_
        rw [show nI i + 5 = nI (i + 5) from nI_add i 5] at hl
        exact ih (i + 5) adX adM σ τ H locs ls (by omega) (by omega) e1 e2 hw hS (lv_sub hl [1, 2, 3, 0] rfl)
      refine lv_aload_n hx hb dL_law_26 rfl (lv_at hl 0 rfl) ?_
      refine lv_iload_n hx hb dL_law_27 rfl (lv_at hl 3 rfl) ?_
      refine va_sld hx hb hX hbl hbA hS (vp_in_nI (by omega) (by omega)) dL_law_28 ?_
      refine lv_bipush (v := 31) hx hb dL_law_29 nb_31 ?_
      refine lv_iand hx hb dL_law_31 ?_
      obtain ⟨j, hj, ej⟩ := pk_andE (xs (nI i).toNatClampNeg) (m := 31) 5 (by decide)
      rw [ej]
      clear ej
      have hj : j < 32 := hj
      match j, hj with
        | 0, _ => exact lv_tableIn (off := 132) (tgt := 164) hx hb dL_law_32 (by decide) (by decide) (by decide) (by decide) (lw_case_0 C0 hE hL (by omega) K e1 e2 hw hS hl)
        | 1, _ => exact lv_tableIn (off := 155) (tgt := 187) hx hb dL_law_32 (by decide) (by decide) (by decide) (by decide) (lw_case_1 C0 hE hL (by omega) K e1 e2 hw hS hl)
        | 2, _ => exact lv_tableIn (off := 168) (tgt := 200) hx hb dL_law_32 (by decide) (by decide) (by decide) (by decide) (lw_case_2 C0 hE hL (by omega) K e1 e2 hw hS hl)
        | 3, _ => exact lv_tableIn (off := 181) (tgt := 213) hx hb dL_law_32 (by decide) (by decide) (by decide) (by decide) (lw_case_3 C0 hE hL (by omega) K e1 e2 hw hS hl)
        | 4, _ => exact lv_tableIn (off := 194) (tgt := 226) hx hb dL_law_32 (by decide) (by decide) (by decide) (by decide) (lw_case_4 C0 hE hL (by omega) K e1 e2 hw hS hl)
        | 5, _ => exact lv_tableIn (off := 227) (tgt := 259) hx hb dL_law_32 (by decide) (by decide) (by decide) (by decide) (lw_case_5 C0 hE hL (by omega) K e1 e2 hw hS hl)
        | 6, _ => exact lv_tableIn (off := 250) (tgt := 282) hx hb dL_law_32 (by decide) (by decide) (by decide) (by decide) (lw_case_6 C0 hE hL (by omega) K e1 e2 hw hS hl)
        | 7, _ => exact lv_tableIn (off := 283) (tgt := 315) hx hb dL_law_32 (by decide) (by decide) (by decide) (by decide) (lw_case_7 C0 hE hL (by omega) K e1 e2 hw hS hl)
        | 8, _ => exact lv_tableIn (off := 306) (tgt := 338) hx hb dL_law_32 (by decide) (by decide) (by decide) (by decide) (lw_case_8 C0 hE hL (by omega) K e1 e2 hw hS hl)
        | 9, _ => exact lv_tableIn (off := 329) (tgt := 361) hx hb dL_law_32 (by decide) (by decide) (by decide) (by decide) (lw_case_9 C0 hE hL (by omega) K e1 e2 hw hS hl)
        | 10, _ => exact lv_tableIn (off := 352) (tgt := 384) hx hb dL_law_32 (by decide) (by decide) (by decide) (by decide) (lw_case_10 C0 hE hL (by omega) K e1 e2 hw hS hl)
        | 11, _ => exact lv_tableIn (off := 385) (tgt := 417) hx hb dL_law_32 (by decide) (by decide) (by decide) (by decide) (lw_case_11 C0 hE hL (by omega) K e1 e2 hw hS hl)
        | 12, _ => exact lv_tableIn (off := 418) (tgt := 450) hx hb dL_law_32 (by decide) (by decide) (by decide) (by decide) (lw_case_12 C0 hE hL (by omega) K e1 e2 hw hS hl)
        | 13, _ => exact lv_tableIn (off := 441) (tgt := 473) hx hb dL_law_32 (by decide) (by decide) (by decide) (by decide) (lw_case_13 C0 hE hL (by omega) K e1 e2 hw hS hl)
        | 14, _ => exact lv_tableIn (off := 454) (tgt := 486) hx hb dL_law_32 (by decide) (by decide) (by decide) (by decide) (lw_case_14 C0 hE hL (by omega) K e1 e2 hw hS hl)
        | 15, _ => exact lv_tableIn (off := 477) (tgt := 509) hx hb dL_law_32 (by decide) (by decide) (by decide) (by decide) (lw_case_15 C0 hE hL (by omega) K e1 e2 hw hS hl)
        | 16, _ => exact lv_tableIn (off := 510) (tgt := 542) hx hb dL_law_32 (by decide) (by decide) (by decide) (by decide) (lw_case_16 C0 hE hL (by omega) K e1 e2 hw hS hl)
        | 17, _ => exact lv_tableIn (off := 523) (tgt := 555) hx hb dL_law_32 (by decide) (by decide) (by decide) (by decide) (lw_case_17 C0 hE hL (by omega) K e1 e2 hw hS hl)
        | 18, _ => exact lv_tableIn (off := 546) (tgt := 578) hx hb dL_law_32 (by decide) (by decide) (by decide) (by decide) (lw_case_18 C0 hE hL (by omega) K e1 e2 hw hS hl)
        | 19, _ => exact lv_tableIn (off := 569) (tgt := 601) hx hb dL_law_32 (by decide) (by decide) (by decide) (by decide) (lw_case_19 C0 hE hL (by omega) K e1 e2 hw hS hl)
        | 20, _ => exact lv_tableIn (off := 592) (tgt := 624) hx hb dL_law_32 (by decide) (by decide) (by decide) (by decide) (lw_case_20 C0 hE hL (by omega) K e1 e2 hw hS hl)
        | 21, _ => exact lv_tableIn (off := 615) (tgt := 647) hx hb dL_law_32 (by decide) (by decide) (by decide) (by decide) (lw_case_21 C0 hE hL (by omega) K e1 e2 hw hS hl)
        | 22, _ => exact lv_tableIn (off := 668) (tgt := 700) hx hb dL_law_32 (by decide) (by decide) (by decide) (by decide) (lw_case_22 C0 hE hL (by omega) K e1 e2 hw hS hl)
        | 23, _ => exact lv_tableIn (off := 701) (tgt := 733) hx hb dL_law_32 (by decide) (by decide) (by decide) (by decide) (lw_case_23 C0 hE hL (by omega) K e1 e2 hw hS hl)
        | 24, _ => exact lv_tableIn (off := 714) (tgt := 746) hx hb dL_law_32 (by decide) (by decide) (by decide) (by decide) (lw_case_24 C0 hE hL (by omega) K e1 e2 hw hS hl)
        | 25, _ => exact lv_tableIn (off := 737) (tgt := 769) hx hb dL_law_32 (by decide) (by decide) (by decide) (by decide) (lw_case_25 C0 hE hL (by omega) K e1 e2 hw hS hl)
        | 26, _ => exact lv_tableIn (off := 770) (tgt := 802) hx hb dL_law_32 (by decide) (by decide) (by decide) (by decide) (lw_case_26 C0 hE hL (by omega) K e1 e2 hw hS hl)
        | 27, _ => exact lv_tableIn (off := 783) (tgt := 815) hx hb dL_law_32 (by decide) (by decide) (by decide) (by decide) (lw_case_27 C0 hE hL (by omega) K e1 e2 hw hS hl)
        | 28, _ => exact lv_tableIn (off := 796) (tgt := 828) hx hb dL_law_32 (by decide) (by decide) (by decide) (by decide) (lw_case_28 C0 hE hL (by omega) K e1 e2 hw hS hl)
        | 29, _ => exact lv_tableOut (tgt := 851) hx hb dL_law_32 (by decide) (by decide) (K adX adM σ τ H locs ls e1 e2 hw hS hl)
        | 30, _ => exact lv_tableOut (tgt := 851) hx hb dL_law_32 (by decide) (by decide) (K adX adM σ τ H locs ls e1 e2 hw hS hl)
        | 31, _ => exact lv_tableOut (tgt := 851) hx hb dL_law_32 (by decide) (by decide) (K adX adM σ τ H locs ls e1 e2 hw hS hl)
        | j + 32, h => exact absurd h (by omega)
end LW
