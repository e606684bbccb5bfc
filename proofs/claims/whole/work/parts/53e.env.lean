theorem P_app {D : va_G} {cl : List vw_C} {w1 w2 : va_W} {H : Heap} (h : va_P D cl (w1 ++ w2) H) : va_P D cl w1 H ∧ va_P D cl w2 H := ⟨fun k q hk => h k q (by rw [List.getElem?_append_left (List.getElem?_eq_some_iff.mp hk).1]; exact hk), fun k q hk => h (w1.length + k) q (by rw [List.getElem?_append_right (by omega), Nat.add_sub_cancel_left]; exact hk)⟩
theorem D_app {A : Nat → Prop} {cf1 cf2 : cfT} {N1 N2 : Nat} {ad1 ad2 : Nat → Nat} {σ τ : Mm} (h : va_D A (wl cf1 N1 ad1 σ ++ wl cf2 N2 ad2 τ)) : (Apt ad1 N1 ∧ Apt ad2 N2) ∧ ((∀ k, k < N1 → A (ad1 k)) ∧ ∀ k, k < N2 → A (ad2 k)) ∧ ∀ i j, i < N1 → j < N2 → ad1 i ≠ ad2 j := by
  have l1 : ∀ i, i < N1 → (wl cf1 N1 ad1 σ ++ wl cf2 N2 ad2 τ)[i]? = some (ad1 i, cf1 ad1 i (σ i)) := fun i hi => by rw [List.getElem?_append_left (by rw [wl_len]; exact hi), wl_at hi]
  have l2 : ∀ i, i < N2 → (wl cf1 N1 ad1 σ ++ wl cf2 N2 ad2 τ)[N1 + i]? = some (ad2 i, cf2 ad2 i (τ i)) := fun i hi => by rw [List.getElem?_append_right (by rw [wl_len]; omega), wl_len, Nat.add_sub_cancel_left, wl_at hi]
  refine ⟨⟨fun i j hi hj e => h.1 i j _ _ (l1 i hi) (l1 j hj) e, fun i j hi hj e => ?_⟩, ⟨fun k hk => h.2 k _ (l1 k hk), fun k hk => h.2 (N1 + k) _ (l2 k hk)⟩, fun i j hi hj e => ?_⟩
  · have := h.1 (N1 + i) (N1 + j) _ _ (l2 i hi) (l2 j hj) e
    omega
  · have := h.1 i (N1 + j) _ _ (l1 i hi) (l2 j hj) e
    omega
theorem arr_of {s : State} {args : Array Value} {ty : FieldType} (h : (Cond.arrayClass ty).before args s = true) : ∃ cA : ClassId, ArrOfT s cA ty ∧ s.vm.findClass ("[" ++ ty.toString) = some cA := by
  obtain ⟨cA, kA, comp, h1, h2, h3⟩ := Cond.arrayClass_spec h
  exact ⟨cA, fun n z => ⟨fun k h => (by cases h), kA, h2, comp, h3⟩, h1⟩
set_option maxHeartbeats 4000000 in
theorem ev_of {s : State} {args : Array Value} (hts : ∀ w ∈ TB, w.before args s = true) (hn : nst s) : ∃ κ : Kp, Ev κ s := by
  obtain ⟨c0, i0, k0⟩ := u_known (C := RX0) (T := TX0) (N := 2) (n := 2) hts inT_X0 (hts (.instantiable RX0 2) (tb2 136 rfl rfl))
  obtain ⟨c1, i1, k1⟩ := u_known (C := RX1) (T := TX1) (N := 4) (n := 4) hts inT_X1 (hts (.instantiable RX1 4) (tb2 82 rfl rfl))
  obtain ⟨c2, i2, k2⟩ := u_known (C := RX2) (T := TX2) (N := 1) (n := 1) hts inT_X2 (hts (.instantiable RX2 1) (tb2 149 rfl rfl))
  obtain ⟨c3, i3, k3⟩ := u_known (C := RX3) (T := TX3) (N := 3) (n := 3) hts inT_X3 (hts (.instantiable RX3 3) (tb2 102 rfl rfl))
  obtain ⟨c4, i4, k4⟩ := u_known (C := RX4) (T := TX4) (N := 15) (n := 15) hts inT_X4 (hts (.instantiable RX4 15) (tb2 20 rfl rfl))
  obtain ⟨c5, i5, k5⟩ := u_known (C := RX5) (T := TX5) (N := 2) (n := 2) hts inT_X5 (hts (.instantiable RX5 2) (tb1 27 rfl rfl))
  obtain ⟨c6, i6, k6⟩ := u_known (C := RX6) (T := TX6) (N := 18) (n := 18) hts inT_X6 (hts (.instantiable RX6 18) (tb1 45 rfl rfl))
  obtain ⟨c7, i7, k7⟩ := u_known (C := RX7) (T := TX7) (N := 3) (n := 3) hts inT_X7 (hts (.instantiable RX7 3) (tb2 119 rfl rfl))
  obtain ⟨c8, i8, k8⟩ := u_known (C := RX8) (T := TX8) (N := 11) (n := 11) hts inT_X8 (hts (.instantiable RX8 11) (tb1 19 rfl rfl))
  obtain ⟨c9, i9, k9⟩ := u_known (C := RX9) (T := TX9) (N := 34) (n := 34) hts inT_X9 (hts (.instantiable RX9 34) (tb4 50 rfl rfl))
  obtain ⟨a0, p0, q0⟩ := arr_of (hts _ w_ai)
  obtain ⟨a1, p1, q1⟩ := arr_of (hts _ w_ac)
  obtain ⟨a2, p2, q2⟩ := arr_of (hts _ w_ab)
  refine ⟨((fun k => match k with | 0 => c0 | 1 => c1 | 2 => c2 | 3 => c3 | 4 => c4 | 5 => c5 | 6 => c6 | 7 => c7 | 8 => c8 | _ => c9, fun k => match k with | 0 => i0 | 1 => i1 | 2 => i2 | 3 => i3 | 4 => i4 | 5 => i5 | 6 => i6 | 7 => i7 | 8 => i8 | _ => i9), a0, a1, a2), ⟨fun k q hq => ?_, fun k q hq => ?_⟩, hn⟩
  · match k, hq with
    | 0, hq => cases hq; exact k0
    | 1, hq => cases hq; exact k1
    | 2, hq => cases hq; exact k2
    | 3, hq => cases hq; exact k3
    | 4, hq => cases hq; exact k4
    | 5, hq => cases hq; exact k5
    | 6, hq => cases hq; exact k6
    | 7, hq => cases hq; exact k7
    | 8, hq => cases hq; exact k8
    | 9, hq => cases hq; exact k9
    | k + 10, hq => simp [vwCl] at hq
  · match k, hq with
    | 0, hq => cases hq; exact ⟨p0, q0⟩
    | 1, hq => cases hq; exact ⟨p1, q1⟩
    | 2, hq => cases hq; exact ⟨p2, q2⟩
    | k + 3, hq => simp at hq
theorem el_in : ∀ j, j < 118 → Cond.eq (.elem (.field (.string "CrossedFirst" 267) "java/lang/String" "value" "[B") (.int (Int32.ofNat j))) (.int (BL.getD j 0)) ∈ flatC (Jvm.Cond.and given_1 narrow_1) := by decide +kernel
theorem str_of {s : State} {b : Nat} (hts0 : ∀ w ∈ lw_tbl, w.before #[Value.ref b] s = true) (hgv : (Jvm.Cond.and given_1 narrow_1).before #[Value.ref b] s = true) : ∃ qs qb, Str qs qb (AL s) s s.heap ∧ Lk qs s := by
  have hs := flat_of_before _ hgv
  have hA : ∀ a : Nat, a < s.heap.size → ¬ AL s a := fun a h => Nat.not_le.mpr h
  obtain ⟨adK, adV, ⟨h1, -⟩, h2⟩ := vk_Sof (args := #[Value.ref b]) (s := s) (N := 1) (tm := fun _ => .string "CrossedFirst" 267) (len := [118]) (byt := [BL]) (A := AL s) (fun i hi => by rw [show i = 0 by omega]; decide) (fun i hi => hs _ (by decide +kernel)) (fun i hi => hs _ (by decide +kernel)) (fun i hi => hs _ (by decide +kernel)) (fun i hi => by rw [show i = 0 by omega]; exact hs _ (by decide +kernel)) (fun i hi j hj => by
    have e : i = 0 := by omega
    subst e
    exact hs _ (el_in j hj)) (fun i j hi hj h => absurd (show i = j by omega) h) hA
  obtain ⟨g1, g2, g3, g4⟩ := h1 0 (by omega)
  refine ⟨adK 0, adV 0, ⟨va_Zof (hts0 (.laysStatic "java/lang/String" "COMPACT_STRINGS" "Z") (List.mem_append_right _ (List.mem_append_left _ (List.mem_of_getElem? (i := 147) rfl)))) (hts0 (.initialized "java/lang/String") (List.mem_append_right _ (List.mem_append_left _ (List.mem_of_getElem? (i := 4) rfl)))) (va_eqi (hs _ (by decide +kernel))) hA, g1, g2, g3, g4⟩, vk_R.of (hts0 (.stringRef RX8 267 TXT) (List.mem_append_right _ (List.mem_append_left _ (List.mem_of_getElem? (i := 137) rfl)))) (h2 0 (by omega)), va_Nw.of rfl (hts0 (.methodLinkNest RX8 34 yX6_init RX8) (List.mem_append_right _ (List.mem_append_left _ (List.mem_of_getElem? (i := 46) rfl)))), va_Nw.of rfl (hts0 (.methodLinkNest RX8 19 yX5_init RX8) (List.mem_append_right _ (List.mem_append_left _ (List.mem_of_getElem? (i := 28) rfl)))), va_Nw.of rfl (hts0 (.methodLinkNest RX8 49 yX1_init RX8) (List.mem_append_right _ (List.mem_append_right _ (List.mem_append_left _ (List.mem_of_getElem? (i := 83) rfl))))), va_Nw.of rfl (hts0 (.methodLinkNest RX8 56 yX3_init RX8) (List.mem_append_right _ (List.mem_append_right _ (List.mem_append_left _ (List.mem_of_getElem? (i := 103) rfl))))), va_Nw.of rfl (hts0 (.methodLinkNest RX8 63 yX7_init RX8) (List.mem_append_right _ (List.mem_append_right _ (List.mem_append_left _ (List.mem_of_getElem? (i := 120) rfl))))), va_Nw.of rfl (hts0 (.methodLinkNest RX8 70 yX0_init RX8) (List.mem_append_right _ (List.mem_append_right _ (List.mem_append_left _ (List.mem_of_getElem? (i := 137) rfl))))), va_Nw.of rfl (hts0 (.methodLinkNest RX8 77 yX2_init RX8) (List.mem_append_right _ (List.mem_append_right _ (List.mem_append_left _ (List.mem_of_getElem? (i := 150) rfl)))))⟩
theorem nst_of {s : State} {b : Nat} (hts0 : ∀ w ∈ lw_tbl, w.before #[Value.ref b] s = true) : nst s := ⟨va_Nw.of rfl (hts0 (.methodLinkNest RX4 135 yX8_within RX8) (List.mem_append_right _ (List.mem_append_right _ (List.mem_append_right _ (List.mem_append_left _ (List.mem_of_getElem? (i := 41) rfl)))))), va_Nw.of rfl (hts0 (.methodLinkNest RX5 39 yX8_within RX8) (List.mem_append_right _ (List.mem_append_left _ (List.mem_of_getElem? (i := 202) rfl)))), va_Nw.of rfl (hts0 (.methodLinkNest RX6 68 yX8_within RX8) (List.mem_append_right _ (List.mem_append_left _ (List.mem_of_getElem? (i := 213) rfl))))⟩
