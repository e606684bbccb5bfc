theorem D0 {A : Nat → Prop} : va_D A [] := ⟨fun i j p q h => by simp at h, fun k q h => by simp at h⟩
set_option maxHeartbeats 4000000 in
set_option maxRecDepth 100000 in
theorem k_tch (l : Launch) (κ : Kp) (qs qb sz : Nat) : Met l yJ1_toChars_9d188 (Cond.code yJ1_toChars_9d188 cJ1_toChars_9d188 2 (some (.array .char)) :: TB) (rmC 1 1 118 25) (PcC κ [] sz [.ref qb] (fun U => Str qs qb (va_A [] sz) U U.heap)) (QrC κ [] sz (fun _ : Unit => True) (fun _ ra => [(ra, .inl (κ.2.2.1, 118, .inl (fb_put Z0 CH 0 118)))])) 1 118 (va_A [] sz) := by
  refine mkR (Or.inr ⟨_, rfl⟩) (by decide +kernel) (Nat.le_of_ble_eq_true rfl) (fun p e s m args below meth c Q ls A hC hsz hAe hP hD hA hX hret hl => ?_)
  obtain ⟨hx, hb, hml, hown, hts, hE⟩ := hC
  rw [← hAe] at hX
  have hT := hX.2.2.2.2
  have hS : va_S A s.heap s.heap [] := va_S.rf
  have hl : lv_has ls 2 [(0, .ref qb)] := hl
  refine lv_aload_n hx hb dJ1_toChars_9d188_0 rfl (lv_at hl 0 rfl) ?_
  refine va_tlen (v := 118) hx hb hT hS rfl dJ1_toChars_9d188_1 ?_
  refine y_newc hx hb hts hE hP hD hS hA 118 (by decide) (by decide) (by decide) (Nat.le_of_ble_eq_true rfl) (Nat.le_of_ble_eq_true rfl) dJ1_toChars_9d188_2 (fun qc H hP hD hS => ?_)
  have hP : va_P κ.1 vwCl [(qc, .inl (κ.2.2.1, 118, .inl Z0))] H := hP
  have hD : va_D A [(qc, .inl (κ.2.2.1, 118, .inl Z0))] := hD
  refine lv_astore_n (lv' := [(1, .ref qc), (0, .ref qb)]) hx hb dJ1_toChars_9d188_4 rfl hl (by decide) rfl (fun ls hl => ?_)
  refine lv_aload_n hx hb dJ1_toChars_9d188_5 rfl (lv_at hl 1 rfl) ?_
  refine lv_iconst (v := 0) hx hb dJ1_toChars_9d188_6 nc_0 ?_
  refine lv_aload_n hx hb dJ1_toChars_9d188_7 rfl (lv_at hl 0 rfl) ?_
  refine lv_iconst (v := 0) hx hb dJ1_toChars_9d188_8 nc_0 ?_
  refine lv_aload_n hx hb dJ1_toChars_9d188_9 rfl (lv_at hl 1 rfl) ?_
  refine va_tlen (v := 118) hx hb hT hS rfl dJ1_toChars_9d188_10 ?_
  refine y_cSv (As := [.ref qb, .int 0, .ref qc, .int 0, .int 118]) (rest := []) (wr := []) hx hb hml hts hown hE hP hD hS hA [0] [] rfl rfl rfl (by decide) (by decide) (by decide) (k_inf l κ qs qb qc H.size) cl_inf (fun U hU hW hF => hX.to hW hU hS hF) (fun U g mk a h => h.calling) (Nat.le_of_ble_eq_true rfl) (Nat.le_of_ble_eq_true rfl) (Nat.le_of_ble_eq_true rfl) (Nat.le_of_ble_eq_true rfl) rfl hl.1 rfl (Nat.le_of_ble_eq_true rfl) dJ1_toChars_9d188_11 (fun u H locs hu hP hD hS => ?_)
  refine lv_aload_n hx hb dJ1_toChars_9d188_14 rfl (lv_at hl 0 rfl) ?_
  exact hret 15 H locs ls () qc dJ1_toChars_9d188_15 trivial hP hD hS
set_option maxHeartbeats 4000000 in
set_option maxRecDepth 100000 in
theorem k_lat (l : Launch) (κ : Kp) (qs qb sz : Nat) : Met l yJ0_isLatin1_aae02 (Cond.code yJ0_isLatin1_aae02 cJ0_isLatin1_aae02 1 (some .boolean) :: TB) (rmC 0 0 0 0) (PcC κ [] sz [.ref qs] (fun U => Str qs qb (va_A [] sz) U U.heap)) (va_Qi (fun r' (_ : Unit) => r' = 1) (fun _ t => va_P κ.1 vwCl [] t.heap) (va_A [] sz)) 0 0 (va_A [] sz) := by
  refine Met.ofW (cc := cJ0_isLatin1_aae02) (maxL := 1) (ret := some .boolean) (by decide +kernel) rfl ?_
  intro p e s m args below meth c s₁ B hml hv
  obtain ⟨rfl, hsz, hP, hE, hD0, hX⟩ := hv
  have hts0 := atoms_spec (ws := Cond.code yJ0_isLatin1_aae02 cJ0_isLatin1_aae02 1 (some .boolean) :: TB) B.pre
  have hts : ∀ w ∈ TB, w.before _ s = true := fun w h => hts0 w (List.mem_cons_of_mem _ h)
  have hlocks := B.notSynchronized
  have hx := B.exec
  have hb := B.bytes
  have hown : s.vm.findClass RJ0 = some m.cls := findClass_of_methodNamed B.named
  generalize hAe : va_A [] sz = A at hX ⊢
  have hS : va_S A s.heap s.heap [] := va_S.rf
  rw [lg_entry_eq]
  have hl := lv_entry ([.ref qs]) (n := 1) (Nat.le_of_ble_eq_true rfl)
  generalize (lg_sl ([.ref qs]) ++ List.replicate (1 - (lg_sl ([.ref qs])).length) Slot.unset).toArray = ls at hl ⊢
  have hl : lv_has ls 1 [(0, .ref qs)] := hl
  refine va_gets hx hb hX.1 hS hown (hts _ w_sp) (fun _ h => h) dJ0_isLatin1_aae02_0 ?_
  refine lv_if_eq (tgt := 17) hx hb dJ0_isLatin1_aae02_3 (by decide) (fun hc => absurd hc (by decide)) (fun _ => ?_)
  refine lv_aload_n hx hb dJ0_isLatin1_aae02_6 rfl (lv_at hl 0 rfl) ?_
  refine vk_getf hx hb hX.2.2.1 hS hown (hts _ w_co) (fun _ h => h) dJ0_isLatin1_aae02_7 ?_
  refine lv_if_ne (tgt := 17) hx hb dJ0_isLatin1_aae02_10 (by decide) (fun hc => absurd rfl hc) (fun _ => ?_)
  refine lv_iconst (v := 1) hx hb dJ0_isLatin1_aae02_13 nc_1 ?_
  refine lv_goto (tgt := 18) hx hb dJ0_isLatin1_aae02_14 (by decide) ?_
  exact W.zret (ty := .boolean) B.exec B.bytes B.returns rfl (fun t ht hW => ⟨⟨1, (), rfl, rfl, fun k q h => by simp at h⟩, hS.F ht⟩) hS.2.2 dJ0_isLatin1_aae02_18
set_option maxHeartbeats 4000000 in
set_option maxRecDepth 100000 in
theorem k_tca (l : Launch) (κ : Kp) (qs qb sz : Nat) : Met l yJ0_toCharArray_70df3 (Cond.code yJ0_toCharArray_70df3 cJ0_toCharArray_70df3 1 (some (.array .char)) :: TB) (rmC 2 1 118 46) (PcC κ [] sz [.ref qs] (fun U => Str qs qb (va_A [] sz) U U.heap)) (QrC κ [] sz (fun _ : Unit => True) (fun _ ra => [(ra, .inl (κ.2.2.1, 118, .inl (fb_put Z0 CH 0 118)))])) 1 118 (va_A [] sz) := by
  refine mkR (Or.inr ⟨_, rfl⟩) (by decide +kernel) (Nat.le_of_ble_eq_true rfl) (fun p e s m args below meth c Q ls A hC hsz hAe hP hD hA hX hret hl => ?_)
  obtain ⟨hx, hb, hml, hown, hts, hE⟩ := hC
  rw [← hAe] at hX
  have hS : va_S A s.heap s.heap [] := va_S.rf
  have hl : lv_has ls 1 [(0, .ref qs)] := hl
  refine lv_aload_n hx hb dJ0_toCharArray_70df3_0 rfl (lv_at hl 0 rfl) ?_
  refine y_cVi (r := 1) (As := []) (rest := []) (wr := []) hx hb hml hts hown hE hP hD hS hA [] [] rfl rfl rfl (by decide) (by decide) (by decide) (k_lat l κ qs qb s.heap.size) cl_lat (by obtain ⟨cell, h1, h2, h3, -⟩ := hX.2.1; exact ⟨cell, h1, h2, h3⟩) (fun U hU hW hF => hX.to hW hU hS hF) (fun U g mk a h => h.calling) (Nat.le_of_ble_eq_true rfl) (Nat.le_of_ble_eq_true rfl) (Nat.le_of_ble_eq_true rfl) (Nat.le_of_ble_eq_true rfl) rfl hl.1 rfl (Nat.le_of_ble_eq_true rfl) dJ0_toCharArray_70df3_1 (fun H locs hP hD hS => ?_)
  have hP : va_P κ.1 vwCl [] H := hP
  have hD : va_D A [] := hD
  refine lv_if_eq (tgt := 17) hx hb dJ0_toCharArray_70df3_4 (by decide) (fun hc => absurd hc (by decide)) (fun _ => ?_)
  refine lv_aload_n hx hb dJ0_toCharArray_70df3_7 rfl (lv_at hl 0 rfl) ?_
  refine vk_getf hx hb hX.2.2.2.1 hS hown (hts _ w_va) (fun _ h => h) dJ0_toCharArray_70df3_8 ?_
  refine y_cSr (As := [.ref qb]) (rest := []) (wr := []) hx hb hml hts hown hE hP hD hS hA [] [] rfl rfl rfl (by decide) (by decide) (by decide) (k_tch l κ qs qb H.size) cl_tch (fun U hU hW hF => hX.to hW hU hS hF) (fun U g mk a h => h.calling) (Nat.le_of_ble_eq_true rfl) (Nat.le_of_ble_eq_true rfl) (Nat.le_of_ble_eq_true rfl) (Nat.le_of_ble_eq_true rfl) rfl hl.1 rfl (Nat.le_of_ble_eq_true rfl) dJ0_toCharArray_70df3_11 (fun u ra H locs hu hP hD hS => ?_)
  refine lv_goto (tgt := 24) hx hb dJ0_toCharArray_70df3_14 (by decide) ?_
  exact hret 24 H locs ls () ra dJ0_toCharArray_70df3_24 trivial hP hD hS
