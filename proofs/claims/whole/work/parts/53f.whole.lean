set_option maxHeartbeats 8000000 in
set_option maxRecDepth 100000 in
/-- THE LAW, from its entry -/
theorem whole_start {p : Program} {e : Env} {s : State} {m : MethodId} {below : List Frame} {meth : Method} {c : Code} (l : Launch) {b L : Nat} {xs : Nat → Int32} (hL : L ≤ 320) (C0 : lw_At p s m meth c b L xs) : W p l e room_1 s m #[Value.ref b] below meth c s.heap [] 0 0 (lw_Z below #[Value.ref b] s) (entryFrame m ([Value.ref b] : List Value).toArray 4) := by
  obtain ⟨hx, hb, hr, hml, hown, hts0, hX, hbl, hlocks, hgv⟩ := id C0
  have hown : s.vm.findClass RL = some m.cls := hown
  have hts : ∀ w ∈ TB, w.before #[Value.ref b] s = true := fun w h => hts0 w (tb_lw h)
  have hA : ∀ q : Nat, s.heap.size ≤ q → AL s q := fun _ h => h
  obtain ⟨κ, hE⟩ := ev_of hts (nst_of hts0)
  obtain ⟨qs, qb, hStr, hLk⟩ := str_of hts0 hgv
  obtain ⟨r, σ1, x4, τ, hf1, hf2, hf3, hrel⟩ := start_rel
  have hS : va_S (AL s) s.heap s.heap [] := va_S.rf
  have hP : va_P κ.1 vwCl [] s.heap := fun k q h => by simp at h
  have hD : va_D (AL s) [] := D0
  have hl := lv_entry ([.ref b]) (n := 4) (Nat.le_of_ble_eq_true rfl)
  rw [lg_entry_eq]
  generalize (lg_sl ([.ref b]) ++ List.replicate (4 - (lg_sl ([.ref b])).length) Slot.unset).toArray = ls at hl ⊢
  have hl : lv_has ls 4 [(0, .ref b)] := hl
  refine y_new (ws := []) hx hb hts hown hE hP hD hS hA nw_L_7 [.null, .int 0, .null, .null, .null, .null, .null, .null, .null, .null, .null] (fun j hj => by match j, hj with | 0, _ => rfl | 1, _ => rfl | 2, _ => rfl | 3, _ => rfl | 4, _ => rfl | 5, _ => rfl | 6, _ => rfl | 7, _ => rfl | 8, _ => rfl | 9, _ => rfl | 10, _ => rfl | j + 11, hj => omega) (Nat.le_of_ble_eq_true rfl) (Nat.le_of_ble_eq_true rfl) dL_law_0 (fun qx H hP hD hS => ?_)
  have hP : va_P κ.1 vwCl [(qx, .inr (8, [.null, .int 0, .null, .null, .null, .null, .null, .null, .null, .null, .null]))] H := hP
  have hD : va_D (AL s) [(qx, .inr (8, [.null, .int 0, .null, .null, .null, .null, .null, .null, .null, .null, .null]))] := hD
  refine lv_dup hx hb dL_law_3 rfl ?_
  have hF := va_free (wc := [(qx, .inr (8, [.null, .int 0, .null, .null, .null, .null, .null, .null, .null, .null, .null]))]) hD hS hA [0] rfl
  refine y_cI (As := []) (rest := [.ref qx]) (wr := []) hx hb hml hts hown hE hP hD hS hA [0] [] rfl rfl rfl (by decide) (by decide) (by decide) (kX8_init l κ qs qb hf1 hf2 qx H.size) ci_X8 (tb1 20 rfl rfl) (fun U hU hW => ⟨hStr.to hW hU hS hF, hLk.warm hW⟩) (fun U g mk a h => ⟨h.1.calling, h.2.calling⟩) (Nat.le_of_ble_eq_true rfl) (Nat.le_of_ble_eq_true rfl) (Nat.le_of_ble_eq_true rfl) (Nat.le_of_ble_eq_true rfl) rfl hl.1 rfl (Nat.le_of_ble_eq_true rfl) dL_law_4 (fun adX H locs e1 hP hD hS => ?_)
  have hP : va_P κ.1 vwCl (wl (wX κ 200) 52 adX (σI x4)) H := hP
  have hD : va_D (AL s) (wl (wX κ 200) 52 adX (σI x4)) := hD
  refine lv_astore_n (lv' := [(1, .ref qx), (0, .ref b)]) hx hb dL_law_7 rfl hl (by decide) rfl (fun ls hl => ?_)
  refine y_new hx hb hts hown hE hP hD hS hA nw_L_10 [.null, .int 0, .null, .null, .null, .null, .null, .null, .null, .null, .null, .null, .null, .null, .null, .null, .null, .null, .int 0, .int 0, .null, .int 0, .int 0, .int 0, .int 0, .int 0, .null, .null, .null, .null, .null, .null, .null, .int 0] (fun j hj => by match j, hj with | 0, _ => rfl | 1, _ => rfl | 2, _ => rfl | 3, _ => rfl | 4, _ => rfl | 5, _ => rfl | 6, _ => rfl | 7, _ => rfl | 8, _ => rfl | 9, _ => rfl | 10, _ => rfl | 11, _ => rfl | 12, _ => rfl | 13, _ => rfl | 14, _ => rfl | 15, _ => rfl | 16, _ => rfl | 17, _ => rfl | 18, _ => rfl | 19, _ => rfl | 20, _ => rfl | 21, _ => rfl | 22, _ => rfl | 23, _ => rfl | 24, _ => rfl | 25, _ => rfl | 26, _ => rfl | 27, _ => rfl | 28, _ => rfl | 29, _ => rfl | 30, _ => rfl | 31, _ => rfl | 32, _ => rfl | 33, _ => rfl | j + 34, hj => omega) (Nat.le_of_ble_eq_true rfl) (Nat.le_of_ble_eq_true rfl) dL_law_8 (fun qm H hP hD hS => ?_)
  refine lv_dup hx hb dL_law_11 rfl ?_
  refine y_cI (As := []) (rest := [.ref qm]) (wc := [(qm, .inr (9, [.null, .int 0, .null, .null, .null, .null, .null, .null, .null, .null, .null, .null, .null, .null, .null, .null, .null, .null, .int 0, .int 0, .null, .int 0, .int 0, .int 0, .int 0, .int 0, .null, .null, .null, .null, .null, .null, .null, .int 0]))]) (wr := wl (wX κ 200) 52 adX (σI x4)) hx hb hml hts hown hE hP hD hS hA [52] (List.range 52) rfl rfl (by rfl) (by decide) (by decide) (by decide) (kX9_init l κ hf3 qm H.size) ci_X9 (tb4 51 rfl rfl) (fun _ _ _ => trivial) (fun _ _ _ _ h => h) (Nat.le_of_ble_eq_true rfl) (Nat.le_of_ble_eq_true rfl) (Nat.le_of_ble_eq_true rfl) (Nat.le_of_ble_eq_true rfl) rfl hl.1 rfl (Nat.le_of_ble_eq_true rfl) dL_law_12 (fun adM H locs e2 hP hD hS => ?_)
  obtain ⟨hPX, hPM⟩ := P_app hP
  obtain ⟨h1, h2, h3⟩ := D_app hD
  refine lv_astore_n (lv' := [(2, .ref qm), (1, .ref qx), (0, .ref b)]) hx hb dL_law_15 rfl hl (by decide) rfl (fun ls hl => ?_)
  refine lv_iconst (v := 0) hx hb dL_law_16 nc_0 ?_
  refine lv_istore_n (lv' := [(3, .int 0), (2, .ref qm), (1, .ref qx), (0, .ref b)]) hx hb dL_law_17 rfl hl (by decide) rfl (fun ls hl => ?_)
  refine W.widen (k := 81) (n := 2872) (Nat.le_of_ble_eq_true rfl) (Nat.le_of_ble_eq_true rfl) ?_
  exact law_loop C0 hE hL 321 0 adX adM (σI x4) τ H locs ls (by omega) (by omega) e1 e2 ⟨⟨hPX, hPM⟩, h1, h2, h3, hrel⟩ hS (lv_sub hl [3, 2, 1, 0] rfl)
