/-- what the law makes lies behind all that was there -/
def AL (s : State) : Nat → Prop := fun q => s.heap.size ≤ q
/-- behind a call the next turn begins -/
def KL (p : Program) (l : Launch) (e : Env) (s : State) (m : MethodId) (below : List Frame) (meth : Method) (c : Code) (b : Nat) (κ : Kp) (qx qm i : Nat) : Prop := ∀ (adX adM : Nat → Nat) (σ τ : Mm) (H : Heap) (locs : List Loc) (ls : Array Slot), adX 16 = qx → adM 0 = qm → Wld κ (AL s) adX adM σ τ H → va_S (AL s) s.heap H locs → lv_has ls 4 [(0, .ref b), (1, .ref qx), (2, .ref qm), (3, .int (nI i))] → W p l e room_1 s m #[Value.ref b] below meth c H locs 81 2872 (lw_Z below #[Value.ref b] s) (F0 m 851 ls [])
theorem in_s {i j L : Nat} (h : i + j < L) (hL : L ≤ 320) : vp_in (nI i + nI j) L := by
  rw [nI_add]
  exact vp_in_nI h (by omega)
section LW
variable {p : Program} {l : Launch} {e : Env} {s : State} {m : MethodId} {below : List Frame} {meth : Method} {c : Code} {b L : Nat} {xs : Nat → Int32} {κ : Kp}

set_option maxHeartbeats 4000000 in
set_option maxRecDepth 100000 in
theorem lw_case_0 (C0 : lw_At p s m meth c b L xs) (hE : Ev κ s) (hL : L ≤ 320) {i qx qm : Nat} (hi : i + 4 < L) (K : KL p l e s m below meth c b κ qx qm i) {adX adM : Nat → Nat} {σ τ : Mm} {H : Heap} {locs : List Loc} {ls : Array Slot} (e1 : adX 16 = qx) (e2 : adM 0 = qm) (hw : Wld κ (AL s) adX adM σ τ H) (hS : va_S (AL s) s.heap H locs) (hl : lv_has ls 4 [(0, .ref b), (1, .ref qx), (2, .ref qm), (3, .int (nI i))]) : W p l e room_1 s m #[Value.ref b] below meth c H locs 81 2872 (lw_Z below #[Value.ref b] s) (F0 m 164 ls []) := by
  obtain ⟨hx, hb, hr, hml, hown, hts0, hX, hbl, hlocks, hgv⟩ := C0
  have hown : s.vm.findClass RL = some m.cls := hown
  have hts : ∀ w ∈ TB, w.before #[Value.ref b] s = true := fun w h => hts0 w (tb_lw h)
  have hbA : ¬ AL s b := Nat.not_le.mpr hbl
  obtain ⟨⟨hPX, hPM⟩, ⟨hDX, hDM⟩, ⟨hAX, hAM⟩, hdis, hrel⟩ := hw
  subst e1
  subst e2
  obtain ⟨r, σ', τ', f1, f2, hrel'⟩ := op_write hrel (xs (nI i + 1).toNatClampNeg)
  refine lv_aload_n hx hb dL_law_164 rfl (lv_at hl 1 rfl) ?_
  refine lv_aload_n hx hb dL_law_165 rfl (lv_at hl 0 rfl) ?_
  refine lv_iload_n hx hb dL_law_166 rfl (lv_at hl 3 rfl) ?_
  refine lv_iconst (v := 1) hx hb dL_law_167 nc_1 ?_
  refine lv_iadd hx hb dL_law_168 ?_
  refine va_sld hx hb hX hbl hbA hS (in_s (j := 1) (by omega) hL) dL_law_169 ?_
  refine l_call (As := [.int (xs (nI i + 1).toNatClampNeg)]) (rest := []) hx hb hml hts hown hE hPX hPM hdis hAX hS (kX8_write (Nat.le_refl _) hDX f1) cl_L_13 (show 16 < 52 by decide) oX_16 vc_8 (Nat.le_of_ble_eq_true rfl) (Nat.le_of_ble_eq_true rfl) (Nat.le_of_ble_eq_true rfl) (Nat.le_of_ble_eq_true rfl) rfl hl.1 rfl (Nat.le_of_ble_eq_true rfl) dL_law_170 (fun H locs hPX hPM hS => ?_)
  refine lv_aload_n hx hb dL_law_173 rfl (lv_at hl 2 rfl) ?_
  refine lv_aload_n hx hb dL_law_174 rfl (lv_at hl 0 rfl) ?_
  refine lv_iload_n hx hb dL_law_175 rfl (lv_at hl 3 rfl) ?_
  refine lv_iconst (v := 1) hx hb dL_law_176 nc_1 ?_
  refine lv_iadd hx hb dL_law_177 ?_
  refine va_sld hx hb hX hbl hbA hS (in_s (j := 1) (by omega) hL) dL_law_178 ?_
  refine l_call (As := [.int (xs (nI i + 1).toNatClampNeg)]) (rest := [.int r]) hx hb hml hts hown hE hPM hPX (fun i j hi hj => Ne.symm (hdis j i hj hi)) hAM hS (kX9_write (Nat.le_refl _) hDM f2) cl_L_17 (show 0 < 26 by decide) oM_0 vc_9 (Nat.le_of_ble_eq_true rfl) (Nat.le_of_ble_eq_true rfl) (Nat.le_of_ble_eq_true rfl) (Nat.le_of_ble_eq_true rfl) rfl hl.1 rfl (Nat.le_of_ble_eq_true rfl) dL_law_179 (fun H locs hPM hPX hS => ?_)
  refine lv_icmp_eq (tgt := 851) hx hb dL_law_182 (by decide) (fun _ => ?_) (fun hc => absurd rfl hc)
  exact K adX adM σ' τ' H locs ls rfl rfl ⟨⟨hPX, hPM⟩, ⟨hDX, hDM⟩, ⟨hAX, hAM⟩, hdis, hrel'⟩ hS hl
set_option maxHeartbeats 4000000 in
set_option maxRecDepth 100000 in
theorem lw_case_1 (C0 : lw_At p s m meth c b L xs) (hE : Ev κ s) (hL : L ≤ 320) {i qx qm : Nat} (hi : i + 4 < L) (K : KL p l e s m below meth c b κ qx qm i) {adX adM : Nat → Nat} {σ τ : Mm} {H : Heap} {locs : List Loc} {ls : Array Slot} (e1 : adX 16 = qx) (e2 : adM 0 = qm) (hw : Wld κ (AL s) adX adM σ τ H) (hS : va_S (AL s) s.heap H locs) (hl : lv_has ls 4 [(0, .ref b), (1, .ref qx), (2, .ref qm), (3, .int (nI i))]) : W p l e room_1 s m #[Value.ref b] below meth c H locs 81 2872 (lw_Z below #[Value.ref b] s) (F0 m 187 ls []) := by
  obtain ⟨hx, hb, hr, hml, hown, hts0, hX, hbl, hlocks, hgv⟩ := C0
  have hown : s.vm.findClass RL = some m.cls := hown
  have hts : ∀ w ∈ TB, w.before #[Value.ref b] s = true := fun w h => hts0 w (tb_lw h)
  have hbA : ¬ AL s b := Nat.not_le.mpr hbl
  obtain ⟨⟨hPX, hPM⟩, ⟨hDX, hDM⟩, ⟨hAX, hAM⟩, hdis, hrel⟩ := hw
  subst e1
  subst e2
  obtain ⟨r, σ', τ', f1, f2, hrel'⟩ := op_wipe hrel 
  refine lv_aload_n hx hb dL_law_187 rfl (lv_at hl 1 rfl) ?_
  refine l_call (As := []) (rest := []) hx hb hml hts hown hE hPX hPM hdis hAX hS (kX8_wipe (Nat.le_refl _) hDX f1) cl_L_18 (show 16 < 52 by decide) oX_16 vc_8 (Nat.le_of_ble_eq_true rfl) (Nat.le_of_ble_eq_true rfl) (Nat.le_of_ble_eq_true rfl) (Nat.le_of_ble_eq_true rfl) rfl hl.1 rfl (Nat.le_of_ble_eq_true rfl) dL_law_188 (fun H locs hPX hPM hS => ?_)
  refine lv_aload_n hx hb dL_law_191 rfl (lv_at hl 2 rfl) ?_
  refine l_call (As := []) (rest := [.int r]) hx hb hml hts hown hE hPM hPX (fun i j hi hj => Ne.symm (hdis j i hj hi)) hAM hS (kX9_wipe (Nat.le_refl _) hDM f2) cl_L_22 (show 0 < 26 by decide) oM_0 vc_9 (Nat.le_of_ble_eq_true rfl) (Nat.le_of_ble_eq_true rfl) (Nat.le_of_ble_eq_true rfl) (Nat.le_of_ble_eq_true rfl) rfl hl.1 rfl (Nat.le_of_ble_eq_true rfl) dL_law_192 (fun H locs hPM hPX hS => ?_)
  refine lv_icmp_eq (tgt := 851) hx hb dL_law_195 (by decide) (fun _ => ?_) (fun hc => absurd rfl hc)
  exact K adX adM σ' τ' H locs ls rfl rfl ⟨⟨hPX, hPM⟩, ⟨hDX, hDM⟩, ⟨hAX, hAM⟩, hdis, hrel'⟩ hS hl
set_option maxHeartbeats 4000000 in
set_option maxRecDepth 100000 in
theorem lw_case_2 (C0 : lw_At p s m meth c b L xs) (hE : Ev κ s) (hL : L ≤ 320) {i qx qm : Nat} (hi : i + 4 < L) (K : KL p l e s m below meth c b κ qx qm i) {adX adM : Nat → Nat} {σ τ : Mm} {H : Heap} {locs : List Loc} {ls : Array Slot} (e1 : adX 16 = qx) (e2 : adM 0 = qm) (hw : Wld κ (AL s) adX adM σ τ H) (hS : va_S (AL s) s.heap H locs) (hl : lv_has ls 4 [(0, .ref b), (1, .ref qx), (2, .ref qm), (3, .int (nI i))]) : W p l e room_1 s m #[Value.ref b] below meth c H locs 81 2872 (lw_Z below #[Value.ref b] s) (F0 m 200 ls []) := by
  obtain ⟨hx, hb, hr, hml, hown, hts0, hX, hbl, hlocks, hgv⟩ := C0
  have hown : s.vm.findClass RL = some m.cls := hown
  have hts : ∀ w ∈ TB, w.before #[Value.ref b] s = true := fun w h => hts0 w (tb_lw h)
  have hbA : ¬ AL s b := Nat.not_le.mpr hbl
  obtain ⟨⟨hPX, hPM⟩, ⟨hDX, hDM⟩, ⟨hAX, hAM⟩, hdis, hrel⟩ := hw
  subst e1
  subst e2
  obtain ⟨r, σ', τ', f1, f2, hrel'⟩ := op_fault hrel 
  refine lv_aload_n hx hb dL_law_200 rfl (lv_at hl 1 rfl) ?_
  refine l_call (As := []) (rest := []) hx hb hml hts hown hE hPX hPM hdis hAX hS (kX8_fault (Nat.le_refl _) hDX f1) cl_L_23 (show 16 < 52 by decide) oX_16 vc_8 (Nat.le_of_ble_eq_true rfl) (Nat.le_of_ble_eq_true rfl) (Nat.le_of_ble_eq_true rfl) (Nat.le_of_ble_eq_true rfl) rfl hl.1 rfl (Nat.le_of_ble_eq_true rfl) dL_law_201 (fun H locs hPX hPM hS => ?_)
  refine lv_aload_n hx hb dL_law_204 rfl (lv_at hl 2 rfl) ?_
  refine l_call (As := []) (rest := [.int r]) hx hb hml hts hown hE hPM hPX (fun i j hi hj => Ne.symm (hdis j i hj hi)) hAM hS (kX9_fault (Nat.le_refl _) hDM f2) cl_L_26 (show 0 < 26 by decide) oM_0 vc_9 (Nat.le_of_ble_eq_true rfl) (Nat.le_of_ble_eq_true rfl) (Nat.le_of_ble_eq_true rfl) (Nat.le_of_ble_eq_true rfl) rfl hl.1 rfl (Nat.le_of_ble_eq_true rfl) dL_law_205 (fun H locs hPM hPX hS => ?_)
  refine lv_icmp_eq (tgt := 851) hx hb dL_law_208 (by decide) (fun _ => ?_) (fun hc => absurd rfl hc)
  exact K adX adM σ' τ' H locs ls rfl rfl ⟨⟨hPX, hPM⟩, ⟨hDX, hDM⟩, ⟨hAX, hAM⟩, hdis, hrel'⟩ hS hl
set_option maxHeartbeats 4000000 in
set_option maxRecDepth 100000 in
theorem lw_case_3 (C0 : lw_At p s m meth c b L xs) (hE : Ev κ s) (hL : L ≤ 320) {i qx qm : Nat} (hi : i + 4 < L) (K : KL p l e s m below meth c b κ qx qm i) {adX adM : Nat → Nat} {σ τ : Mm} {H : Heap} {locs : List Loc} {ls : Array Slot} (e1 : adX 16 = qx) (e2 : adM 0 = qm) (hw : Wld κ (AL s) adX adM σ τ H) (hS : va_S (AL s) s.heap H locs) (hl : lv_has ls 4 [(0, .ref b), (1, .ref qx), (2, .ref qm), (3, .int (nI i))]) : W p l e room_1 s m #[Value.ref b] below meth c H locs 81 2872 (lw_Z below #[Value.ref b] s) (F0 m 213 ls []) := by
  obtain ⟨hx, hb, hr, hml, hown, hts0, hX, hbl, hlocks, hgv⟩ := C0
  have hown : s.vm.findClass RL = some m.cls := hown
  have hts : ∀ w ∈ TB, w.before #[Value.ref b] s = true := fun w h => hts0 w (tb_lw h)
  have hbA : ¬ AL s b := Nat.not_le.mpr hbl
  obtain ⟨⟨hPX, hPM⟩, ⟨hDX, hDM⟩, ⟨hAX, hAM⟩, hdis, hrel⟩ := hw
  subst e1
  subst e2
  obtain ⟨r, σ', τ', f1, f2, hrel'⟩ := op_lay hrel 
  refine lv_aload_n hx hb dL_law_213 rfl (lv_at hl 1 rfl) ?_
  refine l_call (As := []) (rest := []) hx hb hml hts hown hE hPX hPM hdis hAX hS (kX8_lay (Nat.le_refl _) hDX f1) cl_L_27 (show 16 < 52 by decide) oX_16 vc_8 (Nat.le_of_ble_eq_true rfl) (Nat.le_of_ble_eq_true rfl) (Nat.le_of_ble_eq_true rfl) (Nat.le_of_ble_eq_true rfl) rfl hl.1 rfl (Nat.le_of_ble_eq_true rfl) dL_law_214 (fun H locs hPX hPM hS => ?_)
  refine lv_aload_n hx hb dL_law_217 rfl (lv_at hl 2 rfl) ?_
  refine l_call (As := []) (rest := [.int r]) hx hb hml hts hown hE hPM hPX (fun i j hi hj => Ne.symm (hdis j i hj hi)) hAM hS (kX9_lay (Nat.le_refl _) hDM f2) cl_L_30 (show 0 < 26 by decide) oM_0 vc_9 (Nat.le_of_ble_eq_true rfl) (Nat.le_of_ble_eq_true rfl) (Nat.le_of_ble_eq_true rfl) (Nat.le_of_ble_eq_true rfl) rfl hl.1 rfl (Nat.le_of_ble_eq_true rfl) dL_law_218 (fun H locs hPM hPX hS => ?_)
  refine lv_icmp_eq (tgt := 851) hx hb dL_law_221 (by decide) (fun _ => ?_) (fun hc => absurd rfl hc)
  rcases hrel' with h | h
  · exact K adX adM σ' τ' H locs ls rfl rfl ⟨⟨hPX, hPM⟩, ⟨hDX, hDM⟩, ⟨hAX, hAM⟩, hdis, h⟩ hS hl
  · exact K (fun k => adX (sw k)) adM (rl σ') τ' H locs ls rfl rfl ⟨⟨Ho_rl hPX, hPM⟩, ⟨Apt_rl hDX, hDM⟩, ⟨fun k hk => hAX (sw k) (sw_lt hk), hAM⟩, fun i j hi hj => hdis (sw i) j (sw_lt hi) hj, h⟩ hS hl
set_option maxHeartbeats 4000000 in
set_option maxRecDepth 100000 in
theorem lw_case_4 (C0 : lw_At p s m meth c b L xs) (hE : Ev κ s) (hL : L ≤ 320) {i qx qm : Nat} (hi : i + 4 < L) (K : KL p l e s m below meth c b κ qx qm i) {adX adM : Nat → Nat} {σ τ : Mm} {H : Heap} {locs : List Loc} {ls : Array Slot} (e1 : adX 16 = qx) (e2 : adM 0 = qm) (hw : Wld κ (AL s) adX adM σ τ H) (hS : va_S (AL s) s.heap H locs) (hl : lv_has ls 4 [(0, .ref b), (1, .ref qx), (2, .ref qm), (3, .int (nI i))]) : W p l e room_1 s m #[Value.ref b] below meth c H locs 81 2872 (lw_Z below #[Value.ref b] s) (F0 m 226 ls []) := by
  obtain ⟨hx, hb, hr, hml, hown, hts0, hX, hbl, hlocks, hgv⟩ := C0
  have hown : s.vm.findClass RL = some m.cls := hown
  have hts : ∀ w ∈ TB, w.before #[Value.ref b] s = true := fun w h => hts0 w (tb_lw h)
  have hbA : ¬ AL s b := Nat.not_le.mpr hbl
  obtain ⟨⟨hPX, hPM⟩, ⟨hDX, hDM⟩, ⟨hAX, hAM⟩, hdis, hrel⟩ := hw
  subst e1
  subst e2
  obtain ⟨r, f1, f2⟩ := op_beast hrel (xs (nI i + 1).toNatClampNeg) (xs (nI i + 2).toNatClampNeg)
  refine lv_aload_n hx hb dL_law_226 rfl (lv_at hl 1 rfl) ?_
  refine lv_aload_n hx hb dL_law_227 rfl (lv_at hl 0 rfl) ?_
  refine lv_iload_n hx hb dL_law_228 rfl (lv_at hl 3 rfl) ?_
  refine lv_iconst (v := 1) hx hb dL_law_229 nc_1 ?_
  refine lv_iadd hx hb dL_law_230 ?_
  refine va_sld hx hb hX hbl hbA hS (in_s (j := 1) (by omega) hL) dL_law_231 ?_
  refine lv_aload_n hx hb dL_law_232 rfl (lv_at hl 0 rfl) ?_
  refine lv_iload_n hx hb dL_law_233 rfl (lv_at hl 3 rfl) ?_
  refine lv_iconst (v := 2) hx hb dL_law_234 nc_2 ?_
  refine lv_iadd hx hb dL_law_235 ?_
  refine va_sld hx hb hX hbl hbA hS (in_s (j := 2) (by omega) hL) dL_law_236 ?_
  refine l_call (As := [.int (xs (nI i + 1).toNatClampNeg), .int (xs (nI i + 2).toNatClampNeg)]) (rest := []) hx hb hml hts hown hE hPX hPM hdis hAX hS (kX8_beast (Nat.le_refl _) hDX f1) cl_L_31 (show 16 < 52 by decide) oX_16 vc_8 (Nat.le_of_ble_eq_true rfl) (Nat.le_of_ble_eq_true rfl) (Nat.le_of_ble_eq_true rfl) (Nat.le_of_ble_eq_true rfl) rfl hl.1 rfl (Nat.le_of_ble_eq_true rfl) dL_law_237 (fun H locs hPX hPM hS => ?_)
  refine lv_aload_n hx hb dL_law_240 rfl (lv_at hl 2 rfl) ?_
  refine lv_aload_n hx hb dL_law_241 rfl (lv_at hl 0 rfl) ?_
  refine lv_iload_n hx hb dL_law_242 rfl (lv_at hl 3 rfl) ?_
  refine lv_iconst (v := 1) hx hb dL_law_243 nc_1 ?_
  refine lv_iadd hx hb dL_law_244 ?_
  refine va_sld hx hb hX hbl hbA hS (in_s (j := 1) (by omega) hL) dL_law_245 ?_
  refine lv_aload_n hx hb dL_law_246 rfl (lv_at hl 0 rfl) ?_
  refine lv_iload_n hx hb dL_law_247 rfl (lv_at hl 3 rfl) ?_
  refine lv_iconst (v := 2) hx hb dL_law_248 nc_2 ?_
  refine lv_iadd hx hb dL_law_249 ?_
  refine va_sld hx hb hX hbl hbA hS (in_s (j := 2) (by omega) hL) dL_law_250 ?_
  refine l_call (As := [.int (xs (nI i + 1).toNatClampNeg), .int (xs (nI i + 2).toNatClampNeg)]) (rest := [.int r]) hx hb hml hts hown hE hPM hPX (fun i j hi hj => Ne.symm (hdis j i hj hi)) hAM hS (kX9_beast (Nat.le_refl _) hDM f2) cl_L_35 (show 0 < 26 by decide) oM_0 vc_9 (Nat.le_of_ble_eq_true rfl) (Nat.le_of_ble_eq_true rfl) (Nat.le_of_ble_eq_true rfl) (Nat.le_of_ble_eq_true rfl) rfl hl.1 rfl (Nat.le_of_ble_eq_true rfl) dL_law_251 (fun H locs hPM hPX hS => ?_)
  refine lv_icmp_eq (tgt := 851) hx hb dL_law_254 (by decide) (fun _ => ?_) (fun hc => absurd rfl hc)
  exact K adX adM σ τ H locs ls rfl rfl ⟨⟨hPX, hPM⟩, ⟨hDX, hDM⟩, ⟨hAX, hAM⟩, hdis, hrel⟩ hS hl
set_option maxHeartbeats 4000000 in
set_option maxRecDepth 100000 in
theorem lw_case_5 (C0 : lw_At p s m meth c b L xs) (hE : Ev κ s) (hL : L ≤ 320) {i qx qm : Nat} (hi : i + 4 < L) (K : KL p l e s m below meth c b κ qx qm i) {adX adM : Nat → Nat} {σ τ : Mm} {H : Heap} {locs : List Loc} {ls : Array Slot} (e1 : adX 16 = qx) (e2 : adM 0 = qm) (hw : Wld κ (AL s) adX adM σ τ H) (hS : va_S (AL s) s.heap H locs) (hl : lv_has ls 4 [(0, .ref b), (1, .ref qx), (2, .ref qm), (3, .int (nI i))]) : W p l e room_1 s m #[Value.ref b] below meth c H locs 81 2872 (lw_Z below #[Value.ref b] s) (F0 m 259 ls []) := by
  obtain ⟨hx, hb, hr, hml, hown, hts0, hX, hbl, hlocks, hgv⟩ := C0
  have hown : s.vm.findClass RL = some m.cls := hown
  have hts : ∀ w ∈ TB, w.before #[Value.ref b] s = true := fun w h => hts0 w (tb_lw h)
  have hbA : ¬ AL s b := Nat.not_le.mpr hbl
  obtain ⟨⟨hPX, hPM⟩, ⟨hDX, hDM⟩, ⟨hAX, hAM⟩, hdis, hrel⟩ := hw
  subst e1
  subst e2
  obtain ⟨r, f1, f2⟩ := op_current hrel (xs (nI i + 1).toNatClampNeg)
  refine lv_aload_n hx hb dL_law_259 rfl (lv_at hl 1 rfl) ?_
  refine lv_aload_n hx hb dL_law_260 rfl (lv_at hl 0 rfl) ?_
  refine lv_iload_n hx hb dL_law_261 rfl (lv_at hl 3 rfl) ?_
  refine lv_iconst (v := 1) hx hb dL_law_262 nc_1 ?_
  refine lv_iadd hx hb dL_law_263 ?_
  refine va_sld hx hb hX hbl hbA hS (in_s (j := 1) (by omega) hL) dL_law_264 ?_
  refine l_call (As := [.int (xs (nI i + 1).toNatClampNeg)]) (rest := []) hx hb hml hts hown hE hPX hPM hdis hAX hS (kX8_current (Nat.le_refl _) hDX f1) cl_L_36 (show 16 < 52 by decide) oX_16 vc_8 (Nat.le_of_ble_eq_true rfl) (Nat.le_of_ble_eq_true rfl) (Nat.le_of_ble_eq_true rfl) (Nat.le_of_ble_eq_true rfl) rfl hl.1 rfl (Nat.le_of_ble_eq_true rfl) dL_law_265 (fun H locs hPX hPM hS => ?_)
  refine lv_aload_n hx hb dL_law_268 rfl (lv_at hl 2 rfl) ?_
  refine lv_aload_n hx hb dL_law_269 rfl (lv_at hl 0 rfl) ?_
  refine lv_iload_n hx hb dL_law_270 rfl (lv_at hl 3 rfl) ?_
  refine lv_iconst (v := 1) hx hb dL_law_271 nc_1 ?_
  refine lv_iadd hx hb dL_law_272 ?_
  refine va_sld hx hb hX hbl hbA hS (in_s (j := 1) (by omega) hL) dL_law_273 ?_
  refine l_call (As := [.int (xs (nI i + 1).toNatClampNeg)]) (rest := [.int r]) hx hb hml hts hown hE hPM hPX (fun i j hi hj => Ne.symm (hdis j i hj hi)) hAM hS (kX9_current (Nat.le_refl _) hDM f2) cl_L_39 (show 0 < 26 by decide) oM_0 vc_9 (Nat.le_of_ble_eq_true rfl) (Nat.le_of_ble_eq_true rfl) (Nat.le_of_ble_eq_true rfl) (Nat.le_of_ble_eq_true rfl) rfl hl.1 rfl (Nat.le_of_ble_eq_true rfl) dL_law_274 (fun H locs hPM hPX hS => ?_)
  refine lv_icmp_eq (tgt := 851) hx hb dL_law_277 (by decide) (fun _ => ?_) (fun hc => absurd rfl hc)
  exact K adX adM σ τ H locs ls rfl rfl ⟨⟨hPX, hPM⟩, ⟨hDX, hDM⟩, ⟨hAX, hAM⟩, hdis, hrel⟩ hS hl
set_option maxHeartbeats 4000000 in
set_option maxRecDepth 100000 in
theorem lw_case_6 (C0 : lw_At p s m meth c b L xs) (hE : Ev κ s) (hL : L ≤ 320) {i qx qm : Nat} (hi : i + 4 < L) (K : KL p l e s m below meth c b κ qx qm i) {adX adM : Nat → Nat} {σ τ : Mm} {H : Heap} {locs : List Loc} {ls : Array Slot} (e1 : adX 16 = qx) (e2 : adM 0 = qm) (hw : Wld κ (AL s) adX adM σ τ H) (hS : va_S (AL s) s.heap H locs) (hl : lv_has ls 4 [(0, .ref b), (1, .ref qx), (2, .ref qm), (3, .int (nI i))]) : W p l e room_1 s m #[Value.ref b] below meth c H locs 81 2872 (lw_Z below #[Value.ref b] s) (F0 m 282 ls []) := by
  obtain ⟨hx, hb, hr, hml, hown, hts0, hX, hbl, hlocks, hgv⟩ := C0
  have hown : s.vm.findClass RL = some m.cls := hown
  have hts : ∀ w ∈ TB, w.before #[Value.ref b] s = true := fun w h => hts0 w (tb_lw h)
  have hbA : ¬ AL s b := Nat.not_le.mpr hbl
  obtain ⟨⟨hPX, hPM⟩, ⟨hDX, hDM⟩, ⟨hAX, hAM⟩, hdis, hrel⟩ := hw
  subst e1
  subst e2
  obtain ⟨r, σ', τ', f1, f2, hrel'⟩ := op_where hrel (xs (nI i + 1).toNatClampNeg) (xs (nI i + 2).toNatClampNeg)
  refine lv_aload_n hx hb dL_law_282 rfl (lv_at hl 1 rfl) ?_
  refine lv_aload_n hx hb dL_law_283 rfl (lv_at hl 0 rfl) ?_
  refine lv_iload_n hx hb dL_law_284 rfl (lv_at hl 3 rfl) ?_
  refine lv_iconst (v := 1) hx hb dL_law_285 nc_1 ?_
  refine lv_iadd hx hb dL_law_286 ?_
  refine va_sld hx hb hX hbl hbA hS (in_s (j := 1) (by omega) hL) dL_law_287 ?_
  refine lv_aload_n hx hb dL_law_288 rfl (lv_at hl 0 rfl) ?_
  refine lv_iload_n hx hb dL_law_289 rfl (lv_at hl 3 rfl) ?_
  refine lv_iconst (v := 2) hx hb dL_law_290 nc_2 ?_
  refine lv_iadd hx hb dL_law_291 ?_
  refine va_sld hx hb hX hbl hbA hS (in_s (j := 2) (by omega) hL) dL_law_292 ?_
  refine l_call (As := [.int (xs (nI i + 1).toNatClampNeg), .int (xs (nI i + 2).toNatClampNeg)]) (rest := []) hx hb hml hts hown hE hPX hPM hdis hAX hS (kX8_where (Nat.le_refl _) hDX f1) cl_L_40 (show 16 < 52 by decide) oX_16 vc_8 (Nat.le_of_ble_eq_true rfl) (Nat.le_of_ble_eq_true rfl) (Nat.le_of_ble_eq_true rfl) (Nat.le_of_ble_eq_true rfl) rfl hl.1 rfl (Nat.le_of_ble_eq_true rfl) dL_law_293 (fun H locs hPX hPM hS => ?_)
  refine lv_aload_n hx hb dL_law_296 rfl (lv_at hl 2 rfl) ?_
  refine lv_aload_n hx hb dL_law_297 rfl (lv_at hl 0 rfl) ?_
  refine lv_iload_n hx hb dL_law_298 rfl (lv_at hl 3 rfl) ?_
  refine lv_iconst (v := 1) hx hb dL_law_299 nc_1 ?_
  refine lv_iadd hx hb dL_law_300 ?_
  refine va_sld hx hb hX hbl hbA hS (in_s (j := 1) (by omega) hL) dL_law_301 ?_
  refine lv_aload_n hx hb dL_law_302 rfl (lv_at hl 0 rfl) ?_
  refine lv_iload_n hx hb dL_law_303 rfl (lv_at hl 3 rfl) ?_
  refine lv_iconst (v := 2) hx hb dL_law_304 nc_2 ?_
  refine lv_iadd hx hb dL_law_305 ?_
  refine va_sld hx hb hX hbl hbA hS (in_s (j := 2) (by omega) hL) dL_law_306 ?_
  refine l_call (As := [.int (xs (nI i + 1).toNatClampNeg), .int (xs (nI i + 2).toNatClampNeg)]) (rest := [.int r]) hx hb hml hts hown hE hPM hPX (fun i j hi hj => Ne.symm (hdis j i hj hi)) hAM hS (kX9_where (Nat.le_refl _) hDM f2) cl_L_43 (show 0 < 26 by decide) oM_0 vc_9 (Nat.le_of_ble_eq_true rfl) (Nat.le_of_ble_eq_true rfl) (Nat.le_of_ble_eq_true rfl) (Nat.le_of_ble_eq_true rfl) rfl hl.1 rfl (Nat.le_of_ble_eq_true rfl) dL_law_307 (fun H locs hPM hPX hS => ?_)
  refine lv_icmp_eq (tgt := 851) hx hb dL_law_310 (by decide) (fun _ => ?_) (fun hc => absurd rfl hc)
  exact K adX adM σ' τ' H locs ls rfl rfl ⟨⟨hPX, hPM⟩, ⟨hDX, hDM⟩, ⟨hAX, hAM⟩, hdis, hrel'⟩ hS hl
set_option maxHeartbeats 4000000 in
set_option maxRecDepth 100000 in
theorem lw_case_7 (C0 : lw_At p s m meth c b L xs) (hE : Ev κ s) (hL : L ≤ 320) {i qx qm : Nat} (hi : i + 4 < L) (K : KL p l e s m below meth c b κ qx qm i) {adX adM : Nat → Nat} {σ τ : Mm} {H : Heap} {locs : List Loc} {ls : Array Slot} (e1 : adX 16 = qx) (e2 : adM 0 = qm) (hw : Wld κ (AL s) adX adM σ τ H) (hS : va_S (AL s) s.heap H locs) (hl : lv_has ls 4 [(0, .ref b), (1, .ref qx), (2, .ref qm), (3, .int (nI i))]) : W p l e room_1 s m #[Value.ref b] below meth c H locs 81 2872 (lw_Z below #[Value.ref b] s) (F0 m 315 ls []) := by
  obtain ⟨hx, hb, hr, hml, hown, hts0, hX, hbl, hlocks, hgv⟩ := C0
  have hown : s.vm.findClass RL = some m.cls := hown
  have hts : ∀ w ∈ TB, w.before #[Value.ref b] s = true := fun w h => hts0 w (tb_lw h)
  have hbA : ¬ AL s b := Nat.not_le.mpr hbl
  obtain ⟨⟨hPX, hPM⟩, ⟨hDX, hDM⟩, ⟨hAX, hAM⟩, hdis, hrel⟩ := hw
  subst e1
  subst e2
  obtain ⟨r, σ', τ', f1, f2, hrel'⟩ := op_lands hrel (xs (nI i + 1).toNatClampNeg)
  refine lv_aload_n hx hb dL_law_315 rfl (lv_at hl 1 rfl) ?_
  refine lv_aload_n hx hb dL_law_316 rfl (lv_at hl 0 rfl) ?_
  refine lv_iload_n hx hb dL_law_317 rfl (lv_at hl 3 rfl) ?_
  refine lv_iconst (v := 1) hx hb dL_law_318 nc_1 ?_
  refine lv_iadd hx hb dL_law_319 ?_
  refine va_sld hx hb hX hbl hbA hS (in_s (j := 1) (by omega) hL) dL_law_320 ?_
  refine l_call (As := [.int (xs (nI i + 1).toNatClampNeg)]) (rest := []) hx hb hml hts hown hE hPX hPM hdis hAX hS (kX8_lands (Nat.le_refl _) hDX f1) cl_L_44 (show 16 < 52 by decide) oX_16 vc_8 (Nat.le_of_ble_eq_true rfl) (Nat.le_of_ble_eq_true rfl) (Nat.le_of_ble_eq_true rfl) (Nat.le_of_ble_eq_true rfl) rfl hl.1 rfl (Nat.le_of_ble_eq_true rfl) dL_law_321 (fun H locs hPX hPM hS => ?_)
  refine lv_aload_n hx hb dL_law_324 rfl (lv_at hl 2 rfl) ?_
  refine lv_aload_n hx hb dL_law_325 rfl (lv_at hl 0 rfl) ?_
  refine lv_iload_n hx hb dL_law_326 rfl (lv_at hl 3 rfl) ?_
  refine lv_iconst (v := 1) hx hb dL_law_327 nc_1 ?_
  refine lv_iadd hx hb dL_law_328 ?_
  refine va_sld hx hb hX hbl hbA hS (in_s (j := 1) (by omega) hL) dL_law_329 ?_
  refine l_call (As := [.int (xs (nI i + 1).toNatClampNeg)]) (rest := [.int r]) hx hb hml hts hown hE hPM hPX (fun i j hi hj => Ne.symm (hdis j i hj hi)) hAM hS (kX9_lands (Nat.le_refl _) hDM f2) cl_L_47 (show 0 < 26 by decide) oM_0 vc_9 (Nat.le_of_ble_eq_true rfl) (Nat.le_of_ble_eq_true rfl) (Nat.le_of_ble_eq_true rfl) (Nat.le_of_ble_eq_true rfl) rfl hl.1 rfl (Nat.le_of_ble_eq_true rfl) dL_law_330 (fun H locs hPM hPX hS => ?_)
  refine lv_icmp_eq (tgt := 851) hx hb dL_law_333 (by decide) (fun _ => ?_) (fun hc => absurd rfl hc)
  exact K adX adM σ' τ' H locs ls rfl rfl ⟨⟨hPX, hPM⟩, ⟨hDX, hDM⟩, ⟨hAX, hAM⟩, hdis, hrel'⟩ hS hl
set_option maxHeartbeats 4000000 in
set_option maxRecDepth 100000 in
theorem lw_case_8 (C0 : lw_At p s m meth c b L xs) (hE : Ev κ s) (hL : L ≤ 320) {i qx qm : Nat} (hi : i + 4 < L) (K : KL p l e s m below meth c b κ qx qm i) {adX adM : Nat → Nat} {σ τ : Mm} {H : Heap} {locs : List Loc} {ls : Array Slot} (e1 : adX 16 = qx) (e2 : adM 0 = qm) (hw : Wld κ (AL s) adX adM σ τ H) (hS : va_S (AL s) s.heap H locs) (hl : lv_has ls 4 [(0, .ref b), (1, .ref qx), (2, .ref qm), (3, .int (nI i))]) : W p l e room_1 s m #[Value.ref b] below meth c H locs 81 2872 (lw_Z below #[Value.ref b] s) (F0 m 338 ls []) := by
  obtain ⟨hx, hb, hr, hml, hown, hts0, hX, hbl, hlocks, hgv⟩ := C0
  have hown : s.vm.findClass RL = some m.cls := hown
  have hts : ∀ w ∈ TB, w.before #[Value.ref b] s = true := fun w h => hts0 w (tb_lw h)
  have hbA : ¬ AL s b := Nat.not_le.mpr hbl
  obtain ⟨⟨hPX, hPM⟩, ⟨hDX, hDM⟩, ⟨hAX, hAM⟩, hdis, hrel⟩ := hw
  subst e1
  subst e2
  obtain ⟨r, σ', τ', f1, f2, hrel'⟩ := op_rank hrel (xs (nI i + 1).toNatClampNeg)
  refine lv_aload_n hx hb dL_law_338 rfl (lv_at hl 1 rfl) ?_
  refine lv_aload_n hx hb dL_law_339 rfl (lv_at hl 0 rfl) ?_
  refine lv_iload_n hx hb dL_law_340 rfl (lv_at hl 3 rfl) ?_
  refine lv_iconst (v := 1) hx hb dL_law_341 nc_1 ?_
  refine lv_iadd hx hb dL_law_342 ?_
  refine va_sld hx hb hX hbl hbA hS (in_s (j := 1) (by omega) hL) dL_law_343 ?_
  refine l_call (As := [.int (xs (nI i + 1).toNatClampNeg)]) (rest := []) hx hb hml hts hown hE hPX hPM hdis hAX hS (kX8_rank (Nat.le_refl _) hDX f1) cl_L_48 (show 16 < 52 by decide) oX_16 vc_8 (Nat.le_of_ble_eq_true rfl) (Nat.le_of_ble_eq_true rfl) (Nat.le_of_ble_eq_true rfl) (Nat.le_of_ble_eq_true rfl) rfl hl.1 rfl (Nat.le_of_ble_eq_true rfl) dL_law_344 (fun H locs hPX hPM hS => ?_)
  refine lv_aload_n hx hb dL_law_347 rfl (lv_at hl 2 rfl) ?_
  refine lv_aload_n hx hb dL_law_348 rfl (lv_at hl 0 rfl) ?_
  refine lv_iload_n hx hb dL_law_349 rfl (lv_at hl 3 rfl) ?_
  refine lv_iconst (v := 1) hx hb dL_law_350 nc_1 ?_
  refine lv_iadd hx hb dL_law_351 ?_
  refine va_sld hx hb hX hbl hbA hS (in_s (j := 1) (by omega) hL) dL_law_352 ?_
  refine l_call (As := [.int (xs (nI i + 1).toNatClampNeg)]) (rest := [.int r]) hx hb hml hts hown hE hPM hPX (fun i j hi hj => Ne.symm (hdis j i hj hi)) hAM hS (kX9_rank (Nat.le_refl _) hDM f2) cl_L_51 (show 0 < 26 by decide) oM_0 vc_9 (Nat.le_of_ble_eq_true rfl) (Nat.le_of_ble_eq_true rfl) (Nat.le_of_ble_eq_true rfl) (Nat.le_of_ble_eq_true rfl) rfl hl.1 rfl (Nat.le_of_ble_eq_true rfl) dL_law_353 (fun H locs hPM hPX hS => ?_)
  refine lv_icmp_eq (tgt := 851) hx hb dL_law_356 (by decide) (fun _ => ?_) (fun hc => absurd rfl hc)
  exact K adX adM σ' τ' H locs ls rfl rfl ⟨⟨hPX, hPM⟩, ⟨hDX, hDM⟩, ⟨hAX, hAM⟩, hdis, hrel'⟩ hS hl
set_option maxHeartbeats 4000000 in
set_option maxRecDepth 100000 in
theorem lw_case_9 (C0 : lw_At p s m meth c b L xs) (hE : Ev κ s) (hL : L ≤ 320) {i qx qm : Nat} (hi : i + 4 < L) (K : KL p l e s m below meth c b κ qx qm i) {adX adM : Nat → Nat} {σ τ : Mm} {H : Heap} {locs : List Loc} {ls : Array Slot} (e1 : adX 16 = qx) (e2 : adM 0 = qm) (hw : Wld κ (AL s) adX adM σ τ H) (hS : va_S (AL s) s.heap H locs) (hl : lv_has ls 4 [(0, .ref b), (1, .ref qx), (2, .ref qm), (3, .int (nI i))]) : W p l e room_1 s m #[Value.ref b] below meth c H locs 81 2872 (lw_Z below #[Value.ref b] s) (F0 m 361 ls []) := by
  obtain ⟨hx, hb, hr, hml, hown, hts0, hX, hbl, hlocks, hgv⟩ := C0
  have hown : s.vm.findClass RL = some m.cls := hown
  have hts : ∀ w ∈ TB, w.before #[Value.ref b] s = true := fun w h => hts0 w (tb_lw h)
  have hbA : ¬ AL s b := Nat.not_le.mpr hbl
  obtain ⟨⟨hPX, hPM⟩, ⟨hDX, hDM⟩, ⟨hAX, hAM⟩, hdis, hrel⟩ := hw
  subst e1
  subst e2
  obtain ⟨r, σ', τ', f1, f2, hrel'⟩ := op_who hrel (xs (nI i + 1).toNatClampNeg)
  refine lv_aload_n hx hb dL_law_361 rfl (lv_at hl 1 rfl) ?_
  refine lv_aload_n hx hb dL_law_362 rfl (lv_at hl 0 rfl) ?_
  refine lv_iload_n hx hb dL_law_363 rfl (lv_at hl 3 rfl) ?_
  refine lv_iconst (v := 1) hx hb dL_law_364 nc_1 ?_
  refine lv_iadd hx hb dL_law_365 ?_
  refine va_sld hx hb hX hbl hbA hS (in_s (j := 1) (by omega) hL) dL_law_366 ?_
  refine l_call (As := [.int (xs (nI i + 1).toNatClampNeg)]) (rest := []) hx hb hml hts hown hE hPX hPM hdis hAX hS (kX8_who (Nat.le_refl _) hDX f1) cl_L_52 (show 16 < 52 by decide) oX_16 vc_8 (Nat.le_of_ble_eq_true rfl) (Nat.le_of_ble_eq_true rfl) (Nat.le_of_ble_eq_true rfl) (Nat.le_of_ble_eq_true rfl) rfl hl.1 rfl (Nat.le_of_ble_eq_true rfl) dL_law_367 (fun H locs hPX hPM hS => ?_)
  refine lv_aload_n hx hb dL_law_370 rfl (lv_at hl 2 rfl) ?_
  refine lv_aload_n hx hb dL_law_371 rfl (lv_at hl 0 rfl) ?_
  refine lv_iload_n hx hb dL_law_372 rfl (lv_at hl 3 rfl) ?_
  refine lv_iconst (v := 1) hx hb dL_law_373 nc_1 ?_
  refine lv_iadd hx hb dL_law_374 ?_
  refine va_sld hx hb hX hbl hbA hS (in_s (j := 1) (by omega) hL) dL_law_375 ?_
  refine l_call (As := [.int (xs (nI i + 1).toNatClampNeg)]) (rest := [.int r]) hx hb hml hts hown hE hPM hPX (fun i j hi hj => Ne.symm (hdis j i hj hi)) hAM hS (kX9_who (Nat.le_refl _) hDM f2) cl_L_55 (show 0 < 26 by decide) oM_0 vc_9 (Nat.le_of_ble_eq_true rfl) (Nat.le_of_ble_eq_true rfl) (Nat.le_of_ble_eq_true rfl) (Nat.le_of_ble_eq_true rfl) rfl hl.1 rfl (Nat.le_of_ble_eq_true rfl) dL_law_376 (fun H locs hPM hPX hS => ?_)
  refine lv_icmp_eq (tgt := 851) hx hb dL_law_379 (by decide) (fun _ => ?_) (fun hc => absurd rfl hc)
  exact K adX adM σ' τ' H locs ls rfl rfl ⟨⟨hPX, hPM⟩, ⟨hDX, hDM⟩, ⟨hAX, hAM⟩, hdis, hrel'⟩ hS hl
set_option maxHeartbeats 4000000 in
set_option maxRecDepth 100000 in
theorem lw_case_10 (C0 : lw_At p s m meth c b L xs) (hE : Ev κ s) (hL : L ≤ 320) {i qx qm : Nat} (hi : i + 4 < L) (K : KL p l e s m below meth c b κ qx qm i) {adX adM : Nat → Nat} {σ τ : Mm} {H : Heap} {locs : List Loc} {ls : Array Slot} (e1 : adX 16 = qx) (e2 : adM 0 = qm) (hw : Wld κ (AL s) adX adM σ τ H) (hS : va_S (AL s) s.heap H locs) (hl : lv_has ls 4 [(0, .ref b), (1, .ref qx), (2, .ref qm), (3, .int (nI i))]) : W p l e room_1 s m #[Value.ref b] below meth c H locs 81 2872 (lw_Z below #[Value.ref b] s) (F0 m 384 ls []) := by
  obtain ⟨hx, hb, hr, hml, hown, hts0, hX, hbl, hlocks, hgv⟩ := C0
  have hown : s.vm.findClass RL = some m.cls := hown
  have hts : ∀ w ∈ TB, w.before #[Value.ref b] s = true := fun w h => hts0 w (tb_lw h)
  have hbA : ¬ AL s b := Nat.not_le.mpr hbl
  obtain ⟨⟨hPX, hPM⟩, ⟨hDX, hDM⟩, ⟨hAX, hAM⟩, hdis, hrel⟩ := hw
  subst e1
  subst e2
  obtain ⟨r, σ', τ', f1, f2, hrel'⟩ := op_start hrel (xs (nI i + 1).toNatClampNeg) (xs (nI i + 2).toNatClampNeg)
  refine lv_aload_n hx hb dL_law_384 rfl (lv_at hl 1 rfl) ?_
  refine lv_aload_n hx hb dL_law_385 rfl (lv_at hl 0 rfl) ?_
  refine lv_iload_n hx hb dL_law_386 rfl (lv_at hl 3 rfl) ?_
  refine lv_iconst (v := 1) hx hb dL_law_387 nc_1 ?_
  refine lv_iadd hx hb dL_law_388 ?_
  refine va_sld hx hb hX hbl hbA hS (in_s (j := 1) (by omega) hL) dL_law_389 ?_
  refine lv_aload_n hx hb dL_law_390 rfl (lv_at hl 0 rfl) ?_
  refine lv_iload_n hx hb dL_law_391 rfl (lv_at hl 3 rfl) ?_
  refine lv_iconst (v := 2) hx hb dL_law_392 nc_2 ?_
  refine lv_iadd hx hb dL_law_393 ?_
  refine va_sld hx hb hX hbl hbA hS (in_s (j := 2) (by omega) hL) dL_law_394 ?_
  refine l_call (As := [.int (xs (nI i + 1).toNatClampNeg), .int (xs (nI i + 2).toNatClampNeg)]) (rest := []) hx hb hml hts hown hE hPX hPM hdis hAX hS (kX8_start (Nat.le_refl _) hDX f1) cl_L_56 (show 16 < 52 by decide) oX_16 vc_8 (Nat.le_of_ble_eq_true rfl) (Nat.le_of_ble_eq_true rfl) (Nat.le_of_ble_eq_true rfl) (Nat.le_of_ble_eq_true rfl) rfl hl.1 rfl (Nat.le_of_ble_eq_true rfl) dL_law_395 (fun H locs hPX hPM hS => ?_)
  refine lv_aload_n hx hb dL_law_398 rfl (lv_at hl 2 rfl) ?_
  refine lv_aload_n hx hb dL_law_399 rfl (lv_at hl 0 rfl) ?_
  refine lv_iload_n hx hb dL_law_400 rfl (lv_at hl 3 rfl) ?_
  refine lv_iconst (v := 1) hx hb dL_law_401 nc_1 ?_
  refine lv_iadd hx hb dL_law_402 ?_
  refine va_sld hx hb hX hbl hbA hS (in_s (j := 1) (by omega) hL) dL_law_403 ?_
  refine lv_aload_n hx hb dL_law_404 rfl (lv_at hl 0 rfl) ?_
  refine lv_iload_n hx hb dL_law_405 rfl (lv_at hl 3 rfl) ?_
  refine lv_iconst (v := 2) hx hb dL_law_406 nc_2 ?_
  refine lv_iadd hx hb dL_law_407 ?_
  refine va_sld hx hb hX hbl hbA hS (in_s (j := 2) (by omega) hL) dL_law_408 ?_
  refine l_call (As := [.int (xs (nI i + 1).toNatClampNeg), .int (xs (nI i + 2).toNatClampNeg)]) (rest := [.int r]) hx hb hml hts hown hE hPM hPX (fun i j hi hj => Ne.symm (hdis j i hj hi)) hAM hS (kX9_start (Nat.le_refl _) hDM f2) cl_L_59 (show 0 < 26 by decide) oM_0 vc_9 (Nat.le_of_ble_eq_true rfl) (Nat.le_of_ble_eq_true rfl) (Nat.le_of_ble_eq_true rfl) (Nat.le_of_ble_eq_true rfl) rfl hl.1 rfl (Nat.le_of_ble_eq_true rfl) dL_law_409 (fun H locs hPM hPX hS => ?_)
  refine lv_icmp_eq (tgt := 851) hx hb dL_law_412 (by decide) (fun _ => ?_) (fun hc => absurd rfl hc)
  exact K adX adM σ' τ' H locs ls rfl rfl ⟨⟨hPX, hPM⟩, ⟨hDX, hDM⟩, ⟨hAX, hAM⟩, hdis, hrel'⟩ hS hl
set_option maxHeartbeats 4000000 in
set_option maxRecDepth 100000 in
theorem lw_case_11 (C0 : lw_At p s m meth c b L xs) (hE : Ev κ s) (hL : L ≤ 320) {i qx qm : Nat} (hi : i + 4 < L) (K : KL p l e s m below meth c b κ qx qm i) {adX adM : Nat → Nat} {σ τ : Mm} {H : Heap} {locs : List Loc} {ls : Array Slot} (e1 : adX 16 = qx) (e2 : adM 0 = qm) (hw : Wld κ (AL s) adX adM σ τ H) (hS : va_S (AL s) s.heap H locs) (hl : lv_has ls 4 [(0, .ref b), (1, .ref qx), (2, .ref qm), (3, .int (nI i))]) : W p l e room_1 s m #[Value.ref b] below meth c H locs 81 2872 (lw_Z below #[Value.ref b] s) (F0 m 417 ls []) := by
  obtain ⟨hx, hb, hr, hml, hown, hts0, hX, hbl, hlocks, hgv⟩ := C0
  have hown : s.vm.findClass RL = some m.cls := hown
  have hts : ∀ w ∈ TB, w.before #[Value.ref b] s = true := fun w h => hts0 w (tb_lw h)
  have hbA : ¬ AL s b := Nat.not_le.mpr hbl
  obtain ⟨⟨hPX, hPM⟩, ⟨hDX, hDM⟩, ⟨hAX, hAM⟩, hdis, hrel⟩ := hw
  subst e1
  subst e2
  obtain ⟨r, σ', τ', f1, f2, hrel'⟩ := op_ride hrel (xs (nI i + 1).toNatClampNeg) (xs (nI i + 2).toNatClampNeg)
  refine lv_aload_n hx hb dL_law_417 rfl (lv_at hl 1 rfl) ?_
  refine lv_aload_n hx hb dL_law_418 rfl (lv_at hl 0 rfl) ?_
  refine lv_iload_n hx hb dL_law_419 rfl (lv_at hl 3 rfl) ?_
  refine lv_iconst (v := 1) hx hb dL_law_420 nc_1 ?_
  refine lv_iadd hx hb dL_law_421 ?_
  refine va_sld hx hb hX hbl hbA hS (in_s (j := 1) (by omega) hL) dL_law_422 ?_
  refine lv_aload_n hx hb dL_law_423 rfl (lv_at hl 0 rfl) ?_
  refine lv_iload_n hx hb dL_law_424 rfl (lv_at hl 3 rfl) ?_
  refine lv_iconst (v := 2) hx hb dL_law_425 nc_2 ?_
  refine lv_iadd hx hb dL_law_426 ?_
  refine va_sld hx hb hX hbl hbA hS (in_s (j := 2) (by omega) hL) dL_law_427 ?_
  refine l_call (As := [.int (xs (nI i + 1).toNatClampNeg), .int (xs (nI i + 2).toNatClampNeg)]) (rest := []) hx hb hml hts hown hE hPX hPM hdis hAX hS (kX8_ride (Nat.le_refl _) hDX f1) cl_L_60 (show 16 < 52 by decide) oX_16 vc_8 (Nat.le_of_ble_eq_true rfl) (Nat.le_of_ble_eq_true rfl) (Nat.le_of_ble_eq_true rfl) (Nat.le_of_ble_eq_true rfl) rfl hl.1 rfl (Nat.le_of_ble_eq_true rfl) dL_law_428 (fun H locs hPX hPM hS => ?_)
  refine lv_aload_n hx hb dL_law_431 rfl (lv_at hl 2 rfl) ?_
  refine lv_aload_n hx hb dL_law_432 rfl (lv_at hl 0 rfl) ?_
  refine lv_iload_n hx hb dL_law_433 rfl (lv_at hl 3 rfl) ?_
  refine lv_iconst (v := 1) hx hb dL_law_434 nc_1 ?_
  refine lv_iadd hx hb dL_law_435 ?_
  refine va_sld hx hb hX hbl hbA hS (in_s (j := 1) (by omega) hL) dL_law_436 ?_
  refine lv_aload_n hx hb dL_law_437 rfl (lv_at hl 0 rfl) ?_
  refine lv_iload_n hx hb dL_law_438 rfl (lv_at hl 3 rfl) ?_
  refine lv_iconst (v := 2) hx hb dL_law_439 nc_2 ?_
  refine lv_iadd hx hb dL_law_440 ?_
  refine va_sld hx hb hX hbl hbA hS (in_s (j := 2) (by omega) hL) dL_law_441 ?_
  refine l_call (As := [.int (xs (nI i + 1).toNatClampNeg), .int (xs (nI i + 2).toNatClampNeg)]) (rest := [.int r]) hx hb hml hts hown hE hPM hPX (fun i j hi hj => Ne.symm (hdis j i hj hi)) hAM hS (kX9_ride (Nat.le_refl _) hDM f2) cl_L_63 (show 0 < 26 by decide) oM_0 vc_9 (Nat.le_of_ble_eq_true rfl) (Nat.le_of_ble_eq_true rfl) (Nat.le_of_ble_eq_true rfl) (Nat.le_of_ble_eq_true rfl) rfl hl.1 rfl (Nat.le_of_ble_eq_true rfl) dL_law_442 (fun H locs hPM hPX hS => ?_)
  refine lv_icmp_eq (tgt := 851) hx hb dL_law_445 (by decide) (fun _ => ?_) (fun hc => absurd rfl hc)
  exact K adX adM σ' τ' H locs ls rfl rfl ⟨⟨hPX, hPM⟩, ⟨hDX, hDM⟩, ⟨hAX, hAM⟩, hdis, hrel'⟩ hS hl
set_option maxHeartbeats 4000000 in
set_option maxRecDepth 100000 in
theorem lw_case_12 (C0 : lw_At p s m meth c b L xs) (hE : Ev κ s) (hL : L ≤ 320) {i qx qm : Nat} (hi : i + 4 < L) (K : KL p l e s m below meth c b κ qx qm i) {adX adM : Nat → Nat} {σ τ : Mm} {H : Heap} {locs : List Loc} {ls : Array Slot} (e1 : adX 16 = qx) (e2 : adM 0 = qm) (hw : Wld κ (AL s) adX adM σ τ H) (hS : va_S (AL s) s.heap H locs) (hl : lv_has ls 4 [(0, .ref b), (1, .ref qx), (2, .ref qm), (3, .int (nI i))]) : W p l e room_1 s m #[Value.ref b] below meth c H locs 81 2872 (lw_Z below #[Value.ref b] s) (F0 m 450 ls []) := by
  obtain ⟨hx, hb, hr, hml, hown, hts0, hX, hbl, hlocks, hgv⟩ := C0
  have hown : s.vm.findClass RL = some m.cls := hown
  have hts : ∀ w ∈ TB, w.before #[Value.ref b] s = true := fun w h => hts0 w (tb_lw h)
  have hbA : ¬ AL s b := Nat.not_le.mpr hbl
  obtain ⟨⟨hPX, hPM⟩, ⟨hDX, hDM⟩, ⟨hAX, hAM⟩, hdis, hrel⟩ := hw
  subst e1
  subst e2
  obtain ⟨r, σ', τ', f1, f2, hrel'⟩ := op_leave hrel (xs (nI i + 1).toNatClampNeg)
  refine lv_aload_n hx hb dL_law_450 rfl (lv_at hl 1 rfl) ?_
  refine lv_aload_n hx hb dL_law_451 rfl (lv_at hl 0 rfl) ?_
  refine lv_iload_n hx hb dL_law_452 rfl (lv_at hl 3 rfl) ?_
  refine lv_iconst (v := 1) hx hb dL_law_453 nc_1 ?_
  refine lv_iadd hx hb dL_law_454 ?_
  refine va_sld hx hb hX hbl hbA hS (in_s (j := 1) (by omega) hL) dL_law_455 ?_
  refine l_call (As := [.int (xs (nI i + 1).toNatClampNeg)]) (rest := []) hx hb hml hts hown hE hPX hPM hdis hAX hS (kX8_leave (Nat.le_refl _) hDX f1) cl_L_64 (show 16 < 52 by decide) oX_16 vc_8 (Nat.le_of_ble_eq_true rfl) (Nat.le_of_ble_eq_true rfl) (Nat.le_of_ble_eq_true rfl) (Nat.le_of_ble_eq_true rfl) rfl hl.1 rfl (Nat.le_of_ble_eq_true rfl) dL_law_456 (fun H locs hPX hPM hS => ?_)
  refine lv_aload_n hx hb dL_law_459 rfl (lv_at hl 2 rfl) ?_
  refine lv_aload_n hx hb dL_law_460 rfl (lv_at hl 0 rfl) ?_
  refine lv_iload_n hx hb dL_law_461 rfl (lv_at hl 3 rfl) ?_
  refine lv_iconst (v := 1) hx hb dL_law_462 nc_1 ?_
  refine lv_iadd hx hb dL_law_463 ?_
  refine va_sld hx hb hX hbl hbA hS (in_s (j := 1) (by omega) hL) dL_law_464 ?_
  refine l_call (As := [.int (xs (nI i + 1).toNatClampNeg)]) (rest := [.int r]) hx hb hml hts hown hE hPM hPX (fun i j hi hj => Ne.symm (hdis j i hj hi)) hAM hS (kX9_leave (Nat.le_refl _) hDM f2) cl_L_67 (show 0 < 26 by decide) oM_0 vc_9 (Nat.le_of_ble_eq_true rfl) (Nat.le_of_ble_eq_true rfl) (Nat.le_of_ble_eq_true rfl) (Nat.le_of_ble_eq_true rfl) rfl hl.1 rfl (Nat.le_of_ble_eq_true rfl) dL_law_465 (fun H locs hPM hPX hS => ?_)
  refine lv_icmp_eq (tgt := 851) hx hb dL_law_468 (by decide) (fun _ => ?_) (fun hc => absurd rfl hc)
  exact K adX adM σ' τ' H locs ls rfl rfl ⟨⟨hPX, hPM⟩, ⟨hDX, hDM⟩, ⟨hAX, hAM⟩, hdis, hrel'⟩ hS hl
set_option maxHeartbeats 4000000 in
set_option maxRecDepth 100000 in
theorem lw_case_13 (C0 : lw_At p s m meth c b L xs) (hE : Ev κ s) (hL : L ≤ 320) {i qx qm : Nat} (hi : i + 4 < L) (K : KL p l e s m below meth c b κ qx qm i) {adX adM : Nat → Nat} {σ τ : Mm} {H : Heap} {locs : List Loc} {ls : Array Slot} (e1 : adX 16 = qx) (e2 : adM 0 = qm) (hw : Wld κ (AL s) adX adM σ τ H) (hS : va_S (AL s) s.heap H locs) (hl : lv_has ls 4 [(0, .ref b), (1, .ref qx), (2, .ref qm), (3, .int (nI i))]) : W p l e room_1 s m #[Value.ref b] below meth c H locs 81 2872 (lw_Z below #[Value.ref b] s) (F0 m 473 ls []) := by
  obtain ⟨hx, hb, hr, hml, hown, hts0, hX, hbl, hlocks, hgv⟩ := C0
  have hown : s.vm.findClass RL = some m.cls := hown
  have hts : ∀ w ∈ TB, w.before #[Value.ref b] s = true := fun w h => hts0 w (tb_lw h)
  have hbA : ¬ AL s b := Nat.not_le.mpr hbl
  obtain ⟨⟨hPX, hPM⟩, ⟨hDX, hDM⟩, ⟨hAX, hAM⟩, hdis, hrel⟩ := hw
  subst e1
  subst e2
  obtain ⟨r, σ', τ', f1, f2, hrel'⟩ := op_undo hrel 
  refine lv_aload_n hx hb dL_law_473 rfl (lv_at hl 1 rfl) ?_
  refine l_call (As := []) (rest := []) hx hb hml hts hown hE hPX hPM hdis hAX hS (kX8_undo (Nat.le_refl _) hDX f1) cl_L_68 (show 16 < 52 by decide) oX_16 vc_8 (Nat.le_of_ble_eq_true rfl) (Nat.le_of_ble_eq_true rfl) (Nat.le_of_ble_eq_true rfl) (Nat.le_of_ble_eq_true rfl) rfl hl.1 rfl (Nat.le_of_ble_eq_true rfl) dL_law_474 (fun H locs hPX hPM hS => ?_)
  refine lv_aload_n hx hb dL_law_477 rfl (lv_at hl 2 rfl) ?_
  refine l_call (As := []) (rest := [.int r]) hx hb hml hts hown hE hPM hPX (fun i j hi hj => Ne.symm (hdis j i hj hi)) hAM hS (kX9_undo (Nat.le_refl _) hDM f2) cl_L_71 (show 0 < 26 by decide) oM_0 vc_9 (Nat.le_of_ble_eq_true rfl) (Nat.le_of_ble_eq_true rfl) (Nat.le_of_ble_eq_true rfl) (Nat.le_of_ble_eq_true rfl) rfl hl.1 rfl (Nat.le_of_ble_eq_true rfl) dL_law_478 (fun H locs hPM hPX hS => ?_)
  refine lv_icmp_eq (tgt := 851) hx hb dL_law_481 (by decide) (fun _ => ?_) (fun hc => absurd rfl hc)
  exact K adX adM σ' τ' H locs ls rfl rfl ⟨⟨hPX, hPM⟩, ⟨hDX, hDM⟩, ⟨hAX, hAM⟩, hdis, hrel'⟩ hS hl
set_option maxHeartbeats 4000000 in
set_option maxRecDepth 100000 in
theorem lw_case_14 (C0 : lw_At p s m meth c b L xs) (hE : Ev κ s) (hL : L ≤ 320) {i qx qm : Nat} (hi : i + 4 < L) (K : KL p l e s m below meth c b κ qx qm i) {adX adM : Nat → Nat} {σ τ : Mm} {H : Heap} {locs : List Loc} {ls : Array Slot} (e1 : adX 16 = qx) (e2 : adM 0 = qm) (hw : Wld κ (AL s) adX adM σ τ H) (hS : va_S (AL s) s.heap H locs) (hl : lv_has ls 4 [(0, .ref b), (1, .ref qx), (2, .ref qm), (3, .int (nI i))]) : W p l e room_1 s m #[Value.ref b] below meth c H locs 81 2872 (lw_Z below #[Value.ref b] s) (F0 m 486 ls []) := by
  obtain ⟨hx, hb, hr, hml, hown, hts0, hX, hbl, hlocks, hgv⟩ := C0
  have hown : s.vm.findClass RL = some m.cls := hown
  have hts : ∀ w ∈ TB, w.before #[Value.ref b] s = true := fun w h => hts0 w (tb_lw h)
  have hbA : ¬ AL s b := Nat.not_le.mpr hbl
  obtain ⟨⟨hPX, hPM⟩, ⟨hDX, hDM⟩, ⟨hAX, hAM⟩, hdis, hrel⟩ := hw
  subst e1
  subst e2
  obtain ⟨r, σ', τ', f1, f2, hrel'⟩ := op_late hrel (xs (nI i + 1).toNatClampNeg)
  refine lv_aload_n hx hb dL_law_486 rfl (lv_at hl 1 rfl) ?_
  refine lv_aload_n hx hb dL_law_487 rfl (lv_at hl 0 rfl) ?_
  refine lv_iload_n hx hb dL_law_488 rfl (lv_at hl 3 rfl) ?_
  refine lv_iconst (v := 1) hx hb dL_law_489 nc_1 ?_
  refine lv_iadd hx hb dL_law_490 ?_
  refine va_sld hx hb hX hbl hbA hS (in_s (j := 1) (by omega) hL) dL_law_491 ?_
  refine l_call (As := [.int (xs (nI i + 1).toNatClampNeg)]) (rest := []) hx hb hml hts hown hE hPX hPM hdis hAX hS (kX8_late (Nat.le_refl _) hDX f1) cl_L_72 (show 16 < 52 by decide) oX_16 vc_8 (Nat.le_of_ble_eq_true rfl) (Nat.le_of_ble_eq_true rfl) (Nat.le_of_ble_eq_true rfl) (Nat.le_of_ble_eq_true rfl) rfl hl.1 rfl (Nat.le_of_ble_eq_true rfl) dL_law_492 (fun H locs hPX hPM hS => ?_)
  refine lv_aload_n hx hb dL_law_495 rfl (lv_at hl 2 rfl) ?_
  refine lv_aload_n hx hb dL_law_496 rfl (lv_at hl 0 rfl) ?_
  refine lv_iload_n hx hb dL_law_497 rfl (lv_at hl 3 rfl) ?_
  refine lv_iconst (v := 1) hx hb dL_law_498 nc_1 ?_
  refine lv_iadd hx hb dL_law_499 ?_
  refine va_sld hx hb hX hbl hbA hS (in_s (j := 1) (by omega) hL) dL_law_500 ?_
  refine l_call (As := [.int (xs (nI i + 1).toNatClampNeg)]) (rest := [.int r]) hx hb hml hts hown hE hPM hPX (fun i j hi hj => Ne.symm (hdis j i hj hi)) hAM hS (kX9_late (Nat.le_refl _) hDM f2) cl_L_75 (show 0 < 26 by decide) oM_0 vc_9 (Nat.le_of_ble_eq_true rfl) (Nat.le_of_ble_eq_true rfl) (Nat.le_of_ble_eq_true rfl) (Nat.le_of_ble_eq_true rfl) rfl hl.1 rfl (Nat.le_of_ble_eq_true rfl) dL_law_501 (fun H locs hPM hPX hS => ?_)
  refine lv_icmp_eq (tgt := 851) hx hb dL_law_504 (by decide) (fun _ => ?_) (fun hc => absurd rfl hc)
  exact K adX adM σ' τ' H locs ls rfl rfl ⟨⟨hPX, hPM⟩, ⟨hDX, hDM⟩, ⟨hAX, hAM⟩, hdis, hrel'⟩ hS hl
set_option maxHeartbeats 4000000 in
set_option maxRecDepth 100000 in
theorem lw_case_15 (C0 : lw_At p s m meth c b L xs) (hE : Ev κ s) (hL : L ≤ 320) {i qx qm : Nat} (hi : i + 4 < L) (K : KL p l e s m below meth c b κ qx qm i) {adX adM : Nat → Nat} {σ τ : Mm} {H : Heap} {locs : List Loc} {ls : Array Slot} (e1 : adX 16 = qx) (e2 : adM 0 = qm) (hw : Wld κ (AL s) adX adM σ τ H) (hS : va_S (AL s) s.heap H locs) (hl : lv_has ls 4 [(0, .ref b), (1, .ref qx), (2, .ref qm), (3, .int (nI i))]) : W p l e room_1 s m #[Value.ref b] below meth c H locs 81 2872 (lw_Z below #[Value.ref b] s) (F0 m 509 ls []) := by
  obtain ⟨hx, hb, hr, hml, hown, hts0, hX, hbl, hlocks, hgv⟩ := C0
  have hown : s.vm.findClass RL = some m.cls := hown
  have hts : ∀ w ∈ TB, w.before #[Value.ref b] s = true := fun w h => hts0 w (tb_lw h)
  have hbA : ¬ AL s b := Nat.not_le.mpr hbl
  obtain ⟨⟨hPX, hPM⟩, ⟨hDX, hDM⟩, ⟨hAX, hAM⟩, hdis, hrel⟩ := hw
  subst e1
  subst e2
  obtain ⟨r, σ', τ', f1, f2, hrel'⟩ := op_back hrel (xs (nI i + 1).toNatClampNeg) (xs (nI i + 2).toNatClampNeg)
  refine lv_aload_n hx hb dL_law_509 rfl (lv_at hl 1 rfl) ?_
  refine lv_aload_n hx hb dL_law_510 rfl (lv_at hl 0 rfl) ?_
  refine lv_iload_n hx hb dL_law_511 rfl (lv_at hl 3 rfl) ?_
  refine lv_iconst (v := 1) hx hb dL_law_512 nc_1 ?_
  refine lv_iadd hx hb dL_law_513 ?_
  refine va_sld hx hb hX hbl hbA hS (in_s (j := 1) (by omega) hL) dL_law_514 ?_
  refine lv_aload_n hx hb dL_law_515 rfl (lv_at hl 0 rfl) ?_
  refine lv_iload_n hx hb dL_law_516 rfl (lv_at hl 3 rfl) ?_
  refine lv_iconst (v := 2) hx hb dL_law_517 nc_2 ?_
  refine lv_iadd hx hb dL_law_518 ?_
  refine va_sld hx hb hX hbl hbA hS (in_s (j := 2) (by omega) hL) dL_law_519 ?_
  refine l_call (As := [.int (xs (nI i + 1).toNatClampNeg), .int (xs (nI i + 2).toNatClampNeg)]) (rest := []) hx hb hml hts hown hE hPX hPM hdis hAX hS (kX8_back (Nat.le_refl _) hDX f1) cl_L_76 (show 16 < 52 by decide) oX_16 vc_8 (Nat.le_of_ble_eq_true rfl) (Nat.le_of_ble_eq_true rfl) (Nat.le_of_ble_eq_true rfl) (Nat.le_of_ble_eq_true rfl) rfl hl.1 rfl (Nat.le_of_ble_eq_true rfl) dL_law_520 (fun H locs hPX hPM hS => ?_)
  refine lv_aload_n hx hb dL_law_523 rfl (lv_at hl 2 rfl) ?_
  refine lv_aload_n hx hb dL_law_524 rfl (lv_at hl 0 rfl) ?_
  refine lv_iload_n hx hb dL_law_525 rfl (lv_at hl 3 rfl) ?_
  refine lv_iconst (v := 1) hx hb dL_law_526 nc_1 ?_
  refine lv_iadd hx hb dL_law_527 ?_
  refine va_sld hx hb hX hbl hbA hS (in_s (j := 1) (by omega) hL) dL_law_528 ?_
  refine lv_aload_n hx hb dL_law_529 rfl (lv_at hl 0 rfl) ?_
  refine lv_iload_n hx hb dL_law_530 rfl (lv_at hl 3 rfl) ?_
  refine lv_iconst (v := 2) hx hb dL_law_531 nc_2 ?_
  refine lv_iadd hx hb dL_law_532 ?_
  refine va_sld hx hb hX hbl hbA hS (in_s (j := 2) (by omega) hL) dL_law_533 ?_
  refine l_call (As := [.int (xs (nI i + 1).toNatClampNeg), .int (xs (nI i + 2).toNatClampNeg)]) (rest := [.int r]) hx hb hml hts hown hE hPM hPX (fun i j hi hj => Ne.symm (hdis j i hj hi)) hAM hS (kX9_back (Nat.le_refl _) hDM f2) cl_L_79 (show 0 < 26 by decide) oM_0 vc_9 (Nat.le_of_ble_eq_true rfl) (Nat.le_of_ble_eq_true rfl) (Nat.le_of_ble_eq_true rfl) (Nat.le_of_ble_eq_true rfl) rfl hl.1 rfl (Nat.le_of_ble_eq_true rfl) dL_law_534 (fun H locs hPM hPX hS => ?_)
  refine lv_icmp_eq (tgt := 851) hx hb dL_law_537 (by decide) (fun _ => ?_) (fun hc => absurd rfl hc)
  exact K adX adM σ' τ' H locs ls rfl rfl ⟨⟨hPX, hPM⟩, ⟨hDX, hDM⟩, ⟨hAX, hAM⟩, hdis, hrel'⟩ hS hl
set_option maxHeartbeats 4000000 in
set_option maxRecDepth 100000 in
theorem lw_case_16 (C0 : lw_At p s m meth c b L xs) (hE : Ev κ s) (hL : L ≤ 320) {i qx qm : Nat} (hi : i + 4 < L) (K : KL p l e s m below meth c b κ qx qm i) {adX adM : Nat → Nat} {σ τ : Mm} {H : Heap} {locs : List Loc} {ls : Array Slot} (e1 : adX 16 = qx) (e2 : adM 0 = qm) (hw : Wld κ (AL s) adX adM σ τ H) (hS : va_S (AL s) s.heap H locs) (hl : lv_has ls 4 [(0, .ref b), (1, .ref qx), (2, .ref qm), (3, .int (nI i))]) : W p l e room_1 s m #[Value.ref b] below meth c H locs 81 2872 (lw_Z below #[Value.ref b] s) (F0 m 542 ls []) := by
  obtain ⟨hx, hb, hr, hml, hown, hts0, hX, hbl, hlocks, hgv⟩ := C0
  have hown : s.vm.findClass RL = some m.cls := hown
  have hts : ∀ w ∈ TB, w.before #[Value.ref b] s = true := fun w h => hts0 w (tb_lw h)
  have hbA : ¬ AL s b := Nat.not_le.mpr hbl
  obtain ⟨⟨hPX, hPM⟩, ⟨hDX, hDM⟩, ⟨hAX, hAM⟩, hdis, hrel⟩ := hw
  subst e1
  subst e2
  obtain ⟨r, τ', f1, f2, hrel'⟩ := op_twos hrel
  refine lv_aload_n hx hb dL_law_542 rfl (lv_at hl 1 rfl) ?_
  refine l_call (As := []) (rest := []) hx hb hml hts hown hE hPX hPM hdis hAX hS (kX8_twos (Nat.le_refl _) hDX f1) cl_L_80 (show 16 < 52 by decide) oX_16 vc_8 (Nat.le_of_ble_eq_true rfl) (Nat.le_of_ble_eq_true rfl) (Nat.le_of_ble_eq_true rfl) (Nat.le_of_ble_eq_true rfl) rfl hl.1 rfl (Nat.le_of_ble_eq_true rfl) dL_law_543 (fun H locs hPX hPM hS => ?_)
  refine lv_aload_n hx hb dL_law_546 rfl (lv_at hl 2 rfl) ?_
  refine l_call (As := []) (rest := [.int r]) hx hb hml hts hown hE hPM hPX (fun i j hi hj => Ne.symm (hdis j i hj hi)) hAM hS (kX9_twos (Nat.le_refl _) hDM f2) cl_L_83 (show 0 < 26 by decide) oM_0 vc_9 (Nat.le_of_ble_eq_true rfl) (Nat.le_of_ble_eq_true rfl) (Nat.le_of_ble_eq_true rfl) (Nat.le_of_ble_eq_true rfl) rfl hl.1 rfl (Nat.le_of_ble_eq_true rfl) dL_law_547 (fun H locs hPM hPX hS => ?_)
  refine lv_icmp_eq (tgt := 851) hx hb dL_law_550 (by decide) (fun _ => ?_) (fun hc => absurd rfl hc)
  exact K adX adM σ τ' H locs ls rfl rfl ⟨⟨hPX, hPM⟩, ⟨hDX, hDM⟩, ⟨hAX, hAM⟩, hdis, hrel'⟩ hS hl
set_option maxHeartbeats 4000000 in
set_option maxRecDepth 100000 in
theorem lw_case_17 (C0 : lw_At p s m meth c b L xs) (hE : Ev κ s) (hL : L ≤ 320) {i qx qm : Nat} (hi : i + 4 < L) (K : KL p l e s m below meth c b κ qx qm i) {adX adM : Nat → Nat} {σ τ : Mm} {H : Heap} {locs : List Loc} {ls : Array Slot} (e1 : adX 16 = qx) (e2 : adM 0 = qm) (hw : Wld κ (AL s) adX adM σ τ H) (hS : va_S (AL s) s.heap H locs) (hl : lv_has ls 4 [(0, .ref b), (1, .ref qx), (2, .ref qm), (3, .int (nI i))]) : W p l e room_1 s m #[Value.ref b] below meth c H locs 81 2872 (lw_Z below #[Value.ref b] s) (F0 m 555 ls []) := by
  obtain ⟨hx, hb, hr, hml, hown, hts0, hX, hbl, hlocks, hgv⟩ := C0
  have hown : s.vm.findClass RL = some m.cls := hown
  have hts : ∀ w ∈ TB, w.before #[Value.ref b] s = true := fun w h => hts0 w (tb_lw h)
  have hbA : ¬ AL s b := Nat.not_le.mpr hbl
  obtain ⟨⟨hPX, hPM⟩, ⟨hDX, hDM⟩, ⟨hAX, hAM⟩, hdis, hrel⟩ := hw
  subst e1
  subst e2
  obtain ⟨r, σ', τ', f1, f2, hrel'⟩ := op_bridge hrel (xs (nI i + 1).toNatClampNeg)
  refine lv_aload_n hx hb dL_law_555 rfl (lv_at hl 1 rfl) ?_
  refine lv_aload_n hx hb dL_law_556 rfl (lv_at hl 0 rfl) ?_
  refine lv_iload_n hx hb dL_law_557 rfl (lv_at hl 3 rfl) ?_
  refine lv_iconst (v := 1) hx hb dL_law_558 nc_1 ?_
  refine lv_iadd hx hb dL_law_559 ?_
  refine va_sld hx hb hX hbl hbA hS (in_s (j := 1) (by omega) hL) dL_law_560 ?_
  refine l_call (As := [.int (xs (nI i + 1).toNatClampNeg)]) (rest := []) hx hb hml hts hown hE hPX hPM hdis hAX hS (kX8_bridge (Nat.le_refl _) hDX f1) cl_L_84 (show 16 < 52 by decide) oX_16 vc_8 (Nat.le_of_ble_eq_true rfl) (Nat.le_of_ble_eq_true rfl) (Nat.le_of_ble_eq_true rfl) (Nat.le_of_ble_eq_true rfl) rfl hl.1 rfl (Nat.le_of_ble_eq_true rfl) dL_law_561 (fun H locs hPX hPM hS => ?_)
  refine lv_aload_n hx hb dL_law_564 rfl (lv_at hl 2 rfl) ?_
  refine lv_aload_n hx hb dL_law_565 rfl (lv_at hl 0 rfl) ?_
  refine lv_iload_n hx hb dL_law_566 rfl (lv_at hl 3 rfl) ?_
  refine lv_iconst (v := 1) hx hb dL_law_567 nc_1 ?_
  refine lv_iadd hx hb dL_law_568 ?_
  refine va_sld hx hb hX hbl hbA hS (in_s (j := 1) (by omega) hL) dL_law_569 ?_
  refine l_call (As := [.int (xs (nI i + 1).toNatClampNeg)]) (rest := [.int r]) hx hb hml hts hown hE hPM hPX (fun i j hi hj => Ne.symm (hdis j i hj hi)) hAM hS (kX9_bridge (Nat.le_refl _) hDM f2) cl_L_87 (show 0 < 26 by decide) oM_0 vc_9 (Nat.le_of_ble_eq_true rfl) (Nat.le_of_ble_eq_true rfl) (Nat.le_of_ble_eq_true rfl) (Nat.le_of_ble_eq_true rfl) rfl hl.1 rfl (Nat.le_of_ble_eq_true rfl) dL_law_570 (fun H locs hPM hPX hS => ?_)
  refine lv_icmp_eq (tgt := 851) hx hb dL_law_573 (by decide) (fun _ => ?_) (fun hc => absurd rfl hc)
  exact K adX adM σ' τ' H locs ls rfl rfl ⟨⟨hPX, hPM⟩, ⟨hDX, hDM⟩, ⟨hAX, hAM⟩, hdis, hrel'⟩ hS hl
set_option maxHeartbeats 4000000 in
set_option maxRecDepth 100000 in
theorem lw_case_18 (C0 : lw_At p s m meth c b L xs) (hE : Ev κ s) (hL : L ≤ 320) {i qx qm : Nat} (hi : i + 4 < L) (K : KL p l e s m below meth c b κ qx qm i) {adX adM : Nat → Nat} {σ τ : Mm} {H : Heap} {locs : List Loc} {ls : Array Slot} (e1 : adX 16 = qx) (e2 : adM 0 = qm) (hw : Wld κ (AL s) adX adM σ τ H) (hS : va_S (AL s) s.heap H locs) (hl : lv_has ls 4 [(0, .ref b), (1, .ref qx), (2, .ref qm), (3, .int (nI i))]) : W p l e room_1 s m #[Value.ref b] below meth c H locs 81 2872 (lw_Z below #[Value.ref b] s) (F0 m 578 ls []) := by
  obtain ⟨hx, hb, hr, hml, hown, hts0, hX, hbl, hlocks, hgv⟩ := C0
  have hown : s.vm.findClass RL = some m.cls := hown
  have hts : ∀ w ∈ TB, w.before #[Value.ref b] s = true := fun w h => hts0 w (tb_lw h)
  have hbA : ¬ AL s b := Nat.not_le.mpr hbl
  obtain ⟨⟨hPX, hPM⟩, ⟨hDX, hDM⟩, ⟨hAX, hAM⟩, hdis, hrel⟩ := hw
  subst e1
  subst e2
  obtain ⟨r, σ', τ', f1, f2, hrel'⟩ := op_calm hrel (xs (nI i + 1).toNatClampNeg)
  refine lv_aload_n hx hb dL_law_578 rfl (lv_at hl 1 rfl) ?_
  refine lv_aload_n hx hb dL_law_579 rfl (lv_at hl 0 rfl) ?_
  refine lv_iload_n hx hb dL_law_580 rfl (lv_at hl 3 rfl) ?_
  refine lv_iconst (v := 1) hx hb dL_law_581 nc_1 ?_
  refine lv_iadd hx hb dL_law_582 ?_
  refine va_sld hx hb hX hbl hbA hS (in_s (j := 1) (by omega) hL) dL_law_583 ?_
  refine l_call (As := [.int (xs (nI i + 1).toNatClampNeg)]) (rest := []) hx hb hml hts hown hE hPX hPM hdis hAX hS (kX8_calm (Nat.le_refl _) hDX f1) cl_L_88 (show 16 < 52 by decide) oX_16 vc_8 (Nat.le_of_ble_eq_true rfl) (Nat.le_of_ble_eq_true rfl) (Nat.le_of_ble_eq_true rfl) (Nat.le_of_ble_eq_true rfl) rfl hl.1 rfl (Nat.le_of_ble_eq_true rfl) dL_law_584 (fun H locs hPX hPM hS => ?_)
  refine lv_aload_n hx hb dL_law_587 rfl (lv_at hl 2 rfl) ?_
  refine lv_aload_n hx hb dL_law_588 rfl (lv_at hl 0 rfl) ?_
  refine lv_iload_n hx hb dL_law_589 rfl (lv_at hl 3 rfl) ?_
  refine lv_iconst (v := 1) hx hb dL_law_590 nc_1 ?_
  refine lv_iadd hx hb dL_law_591 ?_
  refine va_sld hx hb hX hbl hbA hS (in_s (j := 1) (by omega) hL) dL_law_592 ?_
  refine l_call (As := [.int (xs (nI i + 1).toNatClampNeg)]) (rest := [.int r]) hx hb hml hts hown hE hPM hPX (fun i j hi hj => Ne.symm (hdis j i hj hi)) hAM hS (kX9_calm (Nat.le_refl _) hDM f2) cl_L_91 (show 0 < 26 by decide) oM_0 vc_9 (Nat.le_of_ble_eq_true rfl) (Nat.le_of_ble_eq_true rfl) (Nat.le_of_ble_eq_true rfl) (Nat.le_of_ble_eq_true rfl) rfl hl.1 rfl (Nat.le_of_ble_eq_true rfl) dL_law_593 (fun H locs hPM hPX hS => ?_)
  refine lv_icmp_eq (tgt := 851) hx hb dL_law_596 (by decide) (fun _ => ?_) (fun hc => absurd rfl hc)
  exact K adX adM σ' τ' H locs ls rfl rfl ⟨⟨hPX, hPM⟩, ⟨hDX, hDM⟩, ⟨hAX, hAM⟩, hdis, hrel'⟩ hS hl
set_option maxHeartbeats 4000000 in
set_option maxRecDepth 100000 in
theorem lw_case_19 (C0 : lw_At p s m meth c b L xs) (hE : Ev κ s) (hL : L ≤ 320) {i qx qm : Nat} (hi : i + 4 < L) (K : KL p l e s m below meth c b κ qx qm i) {adX adM : Nat → Nat} {σ τ : Mm} {H : Heap} {locs : List Loc} {ls : Array Slot} (e1 : adX 16 = qx) (e2 : adM 0 = qm) (hw : Wld κ (AL s) adX adM σ τ H) (hS : va_S (AL s) s.heap H locs) (hl : lv_has ls 4 [(0, .ref b), (1, .ref qx), (2, .ref qm), (3, .int (nI i))]) : W p l e room_1 s m #[Value.ref b] below meth c H locs 81 2872 (lw_Z below #[Value.ref b] s) (F0 m 601 ls []) := by
  obtain ⟨hx, hb, hr, hml, hown, hts0, hX, hbl, hlocks, hgv⟩ := C0
  have hown : s.vm.findClass RL = some m.cls := hown
  have hts : ∀ w ∈ TB, w.before #[Value.ref b] s = true := fun w h => hts0 w (tb_lw h)
  have hbA : ¬ AL s b := Nat.not_le.mpr hbl
  obtain ⟨⟨hPX, hPM⟩, ⟨hDX, hDM⟩, ⟨hAX, hAM⟩, hdis, hrel⟩ := hw
  subst e1
  subst e2
  obtain ⟨r, σ', τ', f1, f2, hrel'⟩ := op_order hrel (xs (nI i + 1).toNatClampNeg)
  refine lv_aload_n hx hb dL_law_601 rfl (lv_at hl 1 rfl) ?_
  refine lv_aload_n hx hb dL_law_602 rfl (lv_at hl 0 rfl) ?_
  refine lv_iload_n hx hb dL_law_603 rfl (lv_at hl 3 rfl) ?_
  refine lv_iconst (v := 1) hx hb dL_law_604 nc_1 ?_
  refine lv_iadd hx hb dL_law_605 ?_
  refine va_sld hx hb hX hbl hbA hS (in_s (j := 1) (by omega) hL) dL_law_606 ?_
  refine l_call (As := [.int (xs (nI i + 1).toNatClampNeg)]) (rest := []) hx hb hml hts hown hE hPX hPM hdis hAX hS (kX8_order (Nat.le_refl _) hDX f1) cl_L_92 (show 16 < 52 by decide) oX_16 vc_8 (Nat.le_of_ble_eq_true rfl) (Nat.le_of_ble_eq_true rfl) (Nat.le_of_ble_eq_true rfl) (Nat.le_of_ble_eq_true rfl) rfl hl.1 rfl (Nat.le_of_ble_eq_true rfl) dL_law_607 (fun H locs hPX hPM hS => ?_)
  refine lv_aload_n hx hb dL_law_610 rfl (lv_at hl 2 rfl) ?_
  refine lv_aload_n hx hb dL_law_611 rfl (lv_at hl 0 rfl) ?_
  refine lv_iload_n hx hb dL_law_612 rfl (lv_at hl 3 rfl) ?_
  refine lv_iconst (v := 1) hx hb dL_law_613 nc_1 ?_
  refine lv_iadd hx hb dL_law_614 ?_
  refine va_sld hx hb hX hbl hbA hS (in_s (j := 1) (by omega) hL) dL_law_615 ?_
  refine l_call (As := [.int (xs (nI i + 1).toNatClampNeg)]) (rest := [.int r]) hx hb hml hts hown hE hPM hPX (fun i j hi hj => Ne.symm (hdis j i hj hi)) hAM hS (kX9_order (Nat.le_refl _) hDM f2) cl_L_95 (show 0 < 26 by decide) oM_0 vc_9 (Nat.le_of_ble_eq_true rfl) (Nat.le_of_ble_eq_true rfl) (Nat.le_of_ble_eq_true rfl) (Nat.le_of_ble_eq_true rfl) rfl hl.1 rfl (Nat.le_of_ble_eq_true rfl) dL_law_616 (fun H locs hPM hPX hS => ?_)
  refine lv_icmp_eq (tgt := 851) hx hb dL_law_619 (by decide) (fun _ => ?_) (fun hc => absurd rfl hc)
  exact K adX adM σ' τ' H locs ls rfl rfl ⟨⟨hPX, hPM⟩, ⟨hDX, hDM⟩, ⟨hAX, hAM⟩, hdis, hrel'⟩ hS hl
set_option maxHeartbeats 4000000 in
set_option maxRecDepth 100000 in
theorem lw_case_20 (C0 : lw_At p s m meth c b L xs) (hE : Ev κ s) (hL : L ≤ 320) {i qx qm : Nat} (hi : i + 4 < L) (K : KL p l e s m below meth c b κ qx qm i) {adX adM : Nat → Nat} {σ τ : Mm} {H : Heap} {locs : List Loc} {ls : Array Slot} (e1 : adX 16 = qx) (e2 : adM 0 = qm) (hw : Wld κ (AL s) adX adM σ τ H) (hS : va_S (AL s) s.heap H locs) (hl : lv_has ls 4 [(0, .ref b), (1, .ref qx), (2, .ref qm), (3, .int (nI i))]) : W p l e room_1 s m #[Value.ref b] below meth c H locs 81 2872 (lw_Z below #[Value.ref b] s) (F0 m 624 ls []) := by
  obtain ⟨hx, hb, hr, hml, hown, hts0, hX, hbl, hlocks, hgv⟩ := C0
  have hown : s.vm.findClass RL = some m.cls := hown
  have hts : ∀ w ∈ TB, w.before #[Value.ref b] s = true := fun w h => hts0 w (tb_lw h)
  have hbA : ¬ AL s b := Nat.not_le.mpr hbl
  obtain ⟨⟨hPX, hPM⟩, ⟨hDX, hDM⟩, ⟨hAX, hAM⟩, hdis, hrel⟩ := hw
  subst e1
  subst e2
  obtain ⟨r, σ', τ', f1, f2, hrel'⟩ := op_harvest hrel (xs (nI i + 1).toNatClampNeg)
  refine lv_aload_n hx hb dL_law_624 rfl (lv_at hl 1 rfl) ?_
  refine lv_aload_n hx hb dL_law_625 rfl (lv_at hl 0 rfl) ?_
  refine lv_iload_n hx hb dL_law_626 rfl (lv_at hl 3 rfl) ?_
  refine lv_iconst (v := 1) hx hb dL_law_627 nc_1 ?_
  refine lv_iadd hx hb dL_law_628 ?_
  refine va_sld hx hb hX hbl hbA hS (in_s (j := 1) (by omega) hL) dL_law_629 ?_
  refine l_call (As := [.int (xs (nI i + 1).toNatClampNeg)]) (rest := []) hx hb hml hts hown hE hPX hPM hdis hAX hS (kX8_harvest (Nat.le_refl _) hDX f1) cl_L_96 (show 16 < 52 by decide) oX_16 vc_8 (Nat.le_of_ble_eq_true rfl) (Nat.le_of_ble_eq_true rfl) (Nat.le_of_ble_eq_true rfl) (Nat.le_of_ble_eq_true rfl) rfl hl.1 rfl (Nat.le_of_ble_eq_true rfl) dL_law_630 (fun H locs hPX hPM hS => ?_)
  refine lv_aload_n hx hb dL_law_633 rfl (lv_at hl 2 rfl) ?_
  refine lv_aload_n hx hb dL_law_634 rfl (lv_at hl 0 rfl) ?_
  refine lv_iload_n hx hb dL_law_635 rfl (lv_at hl 3 rfl) ?_
  refine lv_iconst (v := 1) hx hb dL_law_636 nc_1 ?_
  refine lv_iadd hx hb dL_law_637 ?_
  refine va_sld hx hb hX hbl hbA hS (in_s (j := 1) (by omega) hL) dL_law_638 ?_
  refine l_call (As := [.int (xs (nI i + 1).toNatClampNeg)]) (rest := [.int r]) hx hb hml hts hown hE hPM hPX (fun i j hi hj => Ne.symm (hdis j i hj hi)) hAM hS (kX9_harvest (Nat.le_refl _) hDM f2) cl_L_99 (show 0 < 26 by decide) oM_0 vc_9 (Nat.le_of_ble_eq_true rfl) (Nat.le_of_ble_eq_true rfl) (Nat.le_of_ble_eq_true rfl) (Nat.le_of_ble_eq_true rfl) rfl hl.1 rfl (Nat.le_of_ble_eq_true rfl) dL_law_639 (fun H locs hPM hPX hS => ?_)
  refine lv_icmp_eq (tgt := 851) hx hb dL_law_642 (by decide) (fun _ => ?_) (fun hc => absurd rfl hc)
  exact K adX adM σ' τ' H locs ls rfl rfl ⟨⟨hPX, hPM⟩, ⟨hDX, hDM⟩, ⟨hAX, hAM⟩, hdis, hrel'⟩ hS hl
set_option maxHeartbeats 4000000 in
set_option maxRecDepth 100000 in
theorem lw_case_21 (C0 : lw_At p s m meth c b L xs) (hE : Ev κ s) (hL : L ≤ 320) {i qx qm : Nat} (hi : i + 4 < L) (K : KL p l e s m below meth c b κ qx qm i) {adX adM : Nat → Nat} {σ τ : Mm} {H : Heap} {locs : List Loc} {ls : Array Slot} (e1 : adX 16 = qx) (e2 : adM 0 = qm) (hw : Wld κ (AL s) adX adM σ τ H) (hS : va_S (AL s) s.heap H locs) (hl : lv_has ls 4 [(0, .ref b), (1, .ref qx), (2, .ref qm), (3, .int (nI i))]) : W p l e room_1 s m #[Value.ref b] below meth c H locs 81 2872 (lw_Z below #[Value.ref b] s) (F0 m 647 ls []) := by
  obtain ⟨hx, hb, hr, hml, hown, hts0, hX, hbl, hlocks, hgv⟩ := C0
  have hown : s.vm.findClass RL = some m.cls := hown
  have hts : ∀ w ∈ TB, w.before #[Value.ref b] s = true := fun w h => hts0 w (tb_lw h)
  have hbA : ¬ AL s b := Nat.not_le.mpr hbl
  obtain ⟨⟨hPX, hPM⟩, ⟨hDX, hDM⟩, ⟨hAX, hAM⟩, hdis, hrel⟩ := hw
  subst e1
  subst e2
  obtain ⟨r, σ', τ', f1, f2, hrel'⟩ := op_odds hrel (xs (nI i + 1).toNatClampNeg) (xs (nI i + 2).toNatClampNeg) (xs (nI i + 3).toNatClampNeg) (xs (nI i + 4).toNatClampNeg)
  refine lv_aload_n hx hb dL_law_647 rfl (lv_at hl 1 rfl) ?_
  refine lv_aload_n hx hb dL_law_648 rfl (lv_at hl 0 rfl) ?_
  refine lv_iload_n hx hb dL_law_649 rfl (lv_at hl 3 rfl) ?_
  refine lv_iconst (v := 1) hx hb dL_law_650 nc_1 ?_
  refine lv_iadd hx hb dL_law_651 ?_
  refine va_sld hx hb hX hbl hbA hS (in_s (j := 1) (by omega) hL) dL_law_652 ?_
  refine lv_aload_n hx hb dL_law_653 rfl (lv_at hl 0 rfl) ?_
  refine lv_iload_n hx hb dL_law_654 rfl (lv_at hl 3 rfl) ?_
  refine lv_iconst (v := 2) hx hb dL_law_655 nc_2 ?_
  refine lv_iadd hx hb dL_law_656 ?_
  refine va_sld hx hb hX hbl hbA hS (in_s (j := 2) (by omega) hL) dL_law_657 ?_
  refine lv_aload_n hx hb dL_law_658 rfl (lv_at hl 0 rfl) ?_
  refine lv_iload_n hx hb dL_law_659 rfl (lv_at hl 3 rfl) ?_
  refine lv_iconst (v := 3) hx hb dL_law_660 nc_3 ?_
  refine lv_iadd hx hb dL_law_661 ?_
  refine va_sld hx hb hX hbl hbA hS (in_s (j := 3) (by omega) hL) dL_law_662 ?_
  refine lv_aload_n hx hb dL_law_663 rfl (lv_at hl 0 rfl) ?_
  refine lv_iload_n hx hb dL_law_664 rfl (lv_at hl 3 rfl) ?_
  refine lv_iconst (v := 4) hx hb dL_law_665 nc_4 ?_
  refine lv_iadd hx hb dL_law_666 ?_
  refine va_sld hx hb hX hbl hbA hS (in_s (j := 4) (by omega) hL) dL_law_667 ?_
  refine l_call (As := [.int (xs (nI i + 1).toNatClampNeg), .int (xs (nI i + 2).toNatClampNeg), .int (xs (nI i + 3).toNatClampNeg), .int (xs (nI i + 4).toNatClampNeg)]) (rest := []) hx hb hml hts hown hE hPX hPM hdis hAX hS (kX8_odds (Nat.le_refl _) hDX f1) cl_L_100 (show 16 < 52 by decide) oX_16 vc_8 (Nat.le_of_ble_eq_true rfl) (Nat.le_of_ble_eq_true rfl) (Nat.le_of_ble_eq_true rfl) (Nat.le_of_ble_eq_true rfl) rfl hl.1 rfl (Nat.le_of_ble_eq_true rfl) dL_law_668 (fun H locs hPX hPM hS => ?_)
  refine lv_aload_n hx hb dL_law_671 rfl (lv_at hl 2 rfl) ?_
  refine lv_aload_n hx hb dL_law_672 rfl (lv_at hl 0 rfl) ?_
  refine lv_iload_n hx hb dL_law_673 rfl (lv_at hl 3 rfl) ?_
  refine lv_iconst (v := 1) hx hb dL_law_674 nc_1 ?_
  refine lv_iadd hx hb dL_law_675 ?_
  refine va_sld hx hb hX hbl hbA hS (in_s (j := 1) (by omega) hL) dL_law_676 ?_
  refine lv_aload_n hx hb dL_law_677 rfl (lv_at hl 0 rfl) ?_
  refine lv_iload_n hx hb dL_law_678 rfl (lv_at hl 3 rfl) ?_
  refine lv_iconst (v := 2) hx hb dL_law_679 nc_2 ?_
  refine lv_iadd hx hb dL_law_680 ?_
  refine va_sld hx hb hX hbl hbA hS (in_s (j := 2) (by omega) hL) dL_law_681 ?_
  refine lv_aload_n hx hb dL_law_682 rfl (lv_at hl 0 rfl) ?_
  refine lv_iload_n hx hb dL_law_683 rfl (lv_at hl 3 rfl) ?_
  refine lv_iconst (v := 3) hx hb dL_law_684 nc_3 ?_
  refine lv_iadd hx hb dL_law_685 ?_
  refine va_sld hx hb hX hbl hbA hS (in_s (j := 3) (by omega) hL) dL_law_686 ?_
  refine lv_aload_n hx hb dL_law_687 rfl (lv_at hl 0 rfl) ?_
  refine lv_iload_n hx hb dL_law_688 rfl (lv_at hl 3 rfl) ?_
  refine lv_iconst (v := 4) hx hb dL_law_689 nc_4 ?_
  refine lv_iadd hx hb dL_law_690 ?_
  refine va_sld hx hb hX hbl hbA hS (in_s (j := 4) (by omega) hL) dL_law_691 ?_
  refine l_call (As := [.int (xs (nI i + 1).toNatClampNeg), .int (xs (nI i + 2).toNatClampNeg), .int (xs (nI i + 3).toNatClampNeg), .int (xs (nI i + 4).toNatClampNeg)]) (rest := [.int r]) hx hb hml hts hown hE hPM hPX (fun i j hi hj => Ne.symm (hdis j i hj hi)) hAM hS (kX9_odds (Nat.le_refl _) hDM f2) cl_L_104 (show 0 < 26 by decide) oM_0 vc_9 (Nat.le_of_ble_eq_true rfl) (Nat.le_of_ble_eq_true rfl) (Nat.le_of_ble_eq_true rfl) (Nat.le_of_ble_eq_true rfl) rfl hl.1 rfl (Nat.le_of_ble_eq_true rfl) dL_law_692 (fun H locs hPM hPX hS => ?_)
  refine lv_icmp_eq (tgt := 851) hx hb dL_law_695 (by decide) (fun _ => ?_) (fun hc => absurd rfl hc)
  exact K adX adM σ' τ' H locs ls rfl rfl ⟨⟨hPX, hPM⟩, ⟨hDX, hDM⟩, ⟨hAX, hAM⟩, hdis, hrel'⟩ hS hl
set_option maxHeartbeats 4000000 in
set_option maxRecDepth 100000 in
theorem lw_case_22 (C0 : lw_At p s m meth c b L xs) (hE : Ev κ s) (hL : L ≤ 320) {i qx qm : Nat} (hi : i + 4 < L) (K : KL p l e s m below meth c b κ qx qm i) {adX adM : Nat → Nat} {σ τ : Mm} {H : Heap} {locs : List Loc} {ls : Array Slot} (e1 : adX 16 = qx) (e2 : adM 0 = qm) (hw : Wld κ (AL s) adX adM σ τ H) (hS : va_S (AL s) s.heap H locs) (hl : lv_has ls 4 [(0, .ref b), (1, .ref qx), (2, .ref qm), (3, .int (nI i))]) : W p l e room_1 s m #[Value.ref b] below meth c H locs 81 2872 (lw_Z below #[Value.ref b] s) (F0 m 700 ls []) := by
  obtain ⟨hx, hb, hr, hml, hown, hts0, hX, hbl, hlocks, hgv⟩ := C0
  have hown : s.vm.findClass RL = some m.cls := hown
  have hts : ∀ w ∈ TB, w.before #[Value.ref b] s = true := fun w h => hts0 w (tb_lw h)
  have hbA : ¬ AL s b := Nat.not_le.mpr hbl
  obtain ⟨⟨hPX, hPM⟩, ⟨hDX, hDM⟩, ⟨hAX, hAM⟩, hdis, hrel⟩ := hw
  subst e1
  subst e2
  obtain ⟨r, σ', τ', f1, f2, hrel'⟩ := op_seen hrel (xs (nI i + 1).toNatClampNeg) (xs (nI i + 2).toNatClampNeg)
  refine lv_aload_n hx hb dL_law_700 rfl (lv_at hl 1 rfl) ?_
  refine lv_aload_n hx hb dL_law_701 rfl (lv_at hl 0 rfl) ?_
  refine lv_iload_n hx hb dL_law_702 rfl (lv_at hl 3 rfl) ?_
  refine lv_iconst (v := 1) hx hb dL_law_703 nc_1 ?_
  refine lv_iadd hx hb dL_law_704 ?_
  refine va_sld hx hb hX hbl hbA hS (in_s (j := 1) (by omega) hL) dL_law_705 ?_
  refine lv_aload_n hx hb dL_law_706 rfl (lv_at hl 0 rfl) ?_
  refine lv_iload_n hx hb dL_law_707 rfl (lv_at hl 3 rfl) ?_
  refine lv_iconst (v := 2) hx hb dL_law_708 nc_2 ?_
  refine lv_iadd hx hb dL_law_709 ?_
  refine va_sld hx hb hX hbl hbA hS (in_s (j := 2) (by omega) hL) dL_law_710 ?_
  refine l_call (As := [.int (xs (nI i + 1).toNatClampNeg), .int (xs (nI i + 2).toNatClampNeg)]) (rest := []) hx hb hml hts hown hE hPX hPM hdis hAX hS (kX8_seen (Nat.le_refl _) hDX f1) cl_L_105 (show 16 < 52 by decide) oX_16 vc_8 (Nat.le_of_ble_eq_true rfl) (Nat.le_of_ble_eq_true rfl) (Nat.le_of_ble_eq_true rfl) (Nat.le_of_ble_eq_true rfl) rfl hl.1 rfl (Nat.le_of_ble_eq_true rfl) dL_law_711 (fun H locs hPX hPM hS => ?_)
  refine lv_aload_n hx hb dL_law_714 rfl (lv_at hl 2 rfl) ?_
  refine lv_aload_n hx hb dL_law_715 rfl (lv_at hl 0 rfl) ?_
  refine lv_iload_n hx hb dL_law_716 rfl (lv_at hl 3 rfl) ?_
  refine lv_iconst (v := 1) hx hb dL_law_717 nc_1 ?_
  refine lv_iadd hx hb dL_law_718 ?_
  refine va_sld hx hb hX hbl hbA hS (in_s (j := 1) (by omega) hL) dL_law_719 ?_
  refine lv_aload_n hx hb dL_law_720 rfl (lv_at hl 0 rfl) ?_
  refine lv_iload_n hx hb dL_law_721 rfl (lv_at hl 3 rfl) ?_
  refine lv_iconst (v := 2) hx hb dL_law_722 nc_2 ?_
  refine lv_iadd hx hb dL_law_723 ?_
  refine va_sld hx hb hX hbl hbA hS (in_s (j := 2) (by omega) hL) dL_law_724 ?_
  refine l_call (As := [.int (xs (nI i + 1).toNatClampNeg), .int (xs (nI i + 2).toNatClampNeg)]) (rest := [.int r]) hx hb hml hts hown hE hPM hPX (fun i j hi hj => Ne.symm (hdis j i hj hi)) hAM hS (kX9_seen (Nat.le_refl _) hDM f2) cl_L_108 (show 0 < 26 by decide) oM_0 vc_9 (Nat.le_of_ble_eq_true rfl) (Nat.le_of_ble_eq_true rfl) (Nat.le_of_ble_eq_true rfl) (Nat.le_of_ble_eq_true rfl) rfl hl.1 rfl (Nat.le_of_ble_eq_true rfl) dL_law_725 (fun H locs hPM hPX hS => ?_)
  refine lv_icmp_eq (tgt := 851) hx hb dL_law_728 (by decide) (fun _ => ?_) (fun hc => absurd rfl hc)
  exact K adX adM σ' τ' H locs ls rfl rfl ⟨⟨hPX, hPM⟩, ⟨hDX, hDM⟩, ⟨hAX, hAM⟩, hdis, hrel'⟩ hS hl
set_option maxHeartbeats 4000000 in
set_option maxRecDepth 100000 in
theorem lw_case_23 (C0 : lw_At p s m meth c b L xs) (hE : Ev κ s) (hL : L ≤ 320) {i qx qm : Nat} (hi : i + 4 < L) (K : KL p l e s m below meth c b κ qx qm i) {adX adM : Nat → Nat} {σ τ : Mm} {H : Heap} {locs : List Loc} {ls : Array Slot} (e1 : adX 16 = qx) (e2 : adM 0 = qm) (hw : Wld κ (AL s) adX adM σ τ H) (hS : va_S (AL s) s.heap H locs) (hl : lv_has ls 4 [(0, .ref b), (1, .ref qx), (2, .ref qm), (3, .int (nI i))]) : W p l e room_1 s m #[Value.ref b] below meth c H locs 81 2872 (lw_Z below #[Value.ref b] s) (F0 m 733 ls []) := by
  obtain ⟨hx, hb, hr, hml, hown, hts0, hX, hbl, hlocks, hgv⟩ := C0
  have hown : s.vm.findClass RL = some m.cls := hown
  have hts : ∀ w ∈ TB, w.before #[Value.ref b] s = true := fun w h => hts0 w (tb_lw h)
  have hbA : ¬ AL s b := Nat.not_le.mpr hbl
  obtain ⟨⟨hPX, hPM⟩, ⟨hDX, hDM⟩, ⟨hAX, hAM⟩, hdis, hrel⟩ := hw
  subst e1
  subst e2
  obtain ⟨r, σ', τ', f1, f2, hrel'⟩ := op_forget hrel 
  refine lv_aload_n hx hb dL_law_733 rfl (lv_at hl 1 rfl) ?_
  refine l_call (As := []) (rest := []) hx hb hml hts hown hE hPX hPM hdis hAX hS (kX8_forget (Nat.le_refl _) hDX f1) cl_L_109 (show 16 < 52 by decide) oX_16 vc_8 (Nat.le_of_ble_eq_true rfl) (Nat.le_of_ble_eq_true rfl) (Nat.le_of_ble_eq_true rfl) (Nat.le_of_ble_eq_true rfl) rfl hl.1 rfl (Nat.le_of_ble_eq_true rfl) dL_law_734 (fun H locs hPX hPM hS => ?_)
  refine lv_aload_n hx hb dL_law_737 rfl (lv_at hl 2 rfl) ?_
  refine l_call (As := []) (rest := [.int r]) hx hb hml hts hown hE hPM hPX (fun i j hi hj => Ne.symm (hdis j i hj hi)) hAM hS (kX9_forget (Nat.le_refl _) hDM f2) cl_L_112 (show 0 < 26 by decide) oM_0 vc_9 (Nat.le_of_ble_eq_true rfl) (Nat.le_of_ble_eq_true rfl) (Nat.le_of_ble_eq_true rfl) (Nat.le_of_ble_eq_true rfl) rfl hl.1 rfl (Nat.le_of_ble_eq_true rfl) dL_law_738 (fun H locs hPM hPX hS => ?_)
  refine lv_icmp_eq (tgt := 851) hx hb dL_law_741 (by decide) (fun _ => ?_) (fun hc => absurd rfl hc)
  exact K adX adM σ' τ' H locs ls rfl rfl ⟨⟨hPX, hPM⟩, ⟨hDX, hDM⟩, ⟨hAX, hAM⟩, hdis, hrel'⟩ hS hl
set_option maxHeartbeats 4000000 in
set_option maxRecDepth 100000 in
theorem lw_case_24 (C0 : lw_At p s m meth c b L xs) (hE : Ev κ s) (hL : L ≤ 320) {i qx qm : Nat} (hi : i + 4 < L) (K : KL p l e s m below meth c b κ qx qm i) {adX adM : Nat → Nat} {σ τ : Mm} {H : Heap} {locs : List Loc} {ls : Array Slot} (e1 : adX 16 = qx) (e2 : adM 0 = qm) (hw : Wld κ (AL s) adX adM σ τ H) (hS : va_S (AL s) s.heap H locs) (hl : lv_has ls 4 [(0, .ref b), (1, .ref qx), (2, .ref qm), (3, .int (nI i))]) : W p l e room_1 s m #[Value.ref b] below meth c H locs 81 2872 (lw_Z below #[Value.ref b] s) (F0 m 746 ls []) := by
  obtain ⟨hx, hb, hr, hml, hown, hts0, hX, hbl, hlocks, hgv⟩ := C0
  have hown : s.vm.findClass RL = some m.cls := hown
  have hts : ∀ w ∈ TB, w.before #[Value.ref b] s = true := fun w h => hts0 w (tb_lw h)
  have hbA : ¬ AL s b := Nat.not_le.mpr hbl
  obtain ⟨⟨hPX, hPM⟩, ⟨hDX, hDM⟩, ⟨hAX, hAM⟩, hdis, hrel⟩ := hw
  subst e1
  subst e2
  obtain ⟨r, σ', τ', f1, f2, hrel'⟩ := op_rides hrel (xs (nI i + 1).toNatClampNeg)
  refine lv_aload_n hx hb dL_law_746 rfl (lv_at hl 1 rfl) ?_
  refine lv_aload_n hx hb dL_law_747 rfl (lv_at hl 0 rfl) ?_
  refine lv_iload_n hx hb dL_law_748 rfl (lv_at hl 3 rfl) ?_
  refine lv_iconst (v := 1) hx hb dL_law_749 nc_1 ?_
  refine lv_iadd hx hb dL_law_750 ?_
  refine va_sld hx hb hX hbl hbA hS (in_s (j := 1) (by omega) hL) dL_law_751 ?_
  refine l_call (As := [.int (xs (nI i + 1).toNatClampNeg)]) (rest := []) hx hb hml hts hown hE hPX hPM hdis hAX hS (kX8_rides (Nat.le_refl _) hDX f1) cl_L_113 (show 16 < 52 by decide) oX_16 vc_8 (Nat.le_of_ble_eq_true rfl) (Nat.le_of_ble_eq_true rfl) (Nat.le_of_ble_eq_true rfl) (Nat.le_of_ble_eq_true rfl) rfl hl.1 rfl (Nat.le_of_ble_eq_true rfl) dL_law_752 (fun H locs hPX hPM hS => ?_)
  refine lv_aload_n hx hb dL_law_755 rfl (lv_at hl 2 rfl) ?_
  refine lv_aload_n hx hb dL_law_756 rfl (lv_at hl 0 rfl) ?_
  refine lv_iload_n hx hb dL_law_757 rfl (lv_at hl 3 rfl) ?_
  refine lv_iconst (v := 1) hx hb dL_law_758 nc_1 ?_
  refine lv_iadd hx hb dL_law_759 ?_
  refine va_sld hx hb hX hbl hbA hS (in_s (j := 1) (by omega) hL) dL_law_760 ?_
  refine l_call (As := [.int (xs (nI i + 1).toNatClampNeg)]) (rest := [.int r]) hx hb hml hts hown hE hPM hPX (fun i j hi hj => Ne.symm (hdis j i hj hi)) hAM hS (kX9_rides (Nat.le_refl _) hDM f2) cl_L_116 (show 0 < 26 by decide) oM_0 vc_9 (Nat.le_of_ble_eq_true rfl) (Nat.le_of_ble_eq_true rfl) (Nat.le_of_ble_eq_true rfl) (Nat.le_of_ble_eq_true rfl) rfl hl.1 rfl (Nat.le_of_ble_eq_true rfl) dL_law_761 (fun H locs hPM hPX hS => ?_)
  refine lv_icmp_eq (tgt := 851) hx hb dL_law_764 (by decide) (fun _ => ?_) (fun hc => absurd rfl hc)
  exact K adX adM σ' τ' H locs ls rfl rfl ⟨⟨hPX, hPM⟩, ⟨hDX, hDM⟩, ⟨hAX, hAM⟩, hdis, hrel'⟩ hS hl
set_option maxHeartbeats 4000000 in
set_option maxRecDepth 100000 in
theorem lw_case_25 (C0 : lw_At p s m meth c b L xs) (hE : Ev κ s) (hL : L ≤ 320) {i qx qm : Nat} (hi : i + 4 < L) (K : KL p l e s m below meth c b κ qx qm i) {adX adM : Nat → Nat} {σ τ : Mm} {H : Heap} {locs : List Loc} {ls : Array Slot} (e1 : adX 16 = qx) (e2 : adM 0 = qm) (hw : Wld κ (AL s) adX adM σ τ H) (hS : va_S (AL s) s.heap H locs) (hl : lv_has ls 4 [(0, .ref b), (1, .ref qx), (2, .ref qm), (3, .int (nI i))]) : W p l e room_1 s m #[Value.ref b] below meth c H locs 81 2872 (lw_Z below #[Value.ref b] s) (F0 m 769 ls []) := by
  obtain ⟨hx, hb, hr, hml, hown, hts0, hX, hbl, hlocks, hgv⟩ := C0
  have hown : s.vm.findClass RL = some m.cls := hown
  have hts : ∀ w ∈ TB, w.before #[Value.ref b] s = true := fun w h => hts0 w (tb_lw h)
  have hbA : ¬ AL s b := Nat.not_le.mpr hbl
  obtain ⟨⟨hPX, hPM⟩, ⟨hDX, hDM⟩, ⟨hAX, hAM⟩, hdis, hrel⟩ := hw
  subst e1
  subst e2
  obtain ⟨r, σ', τ', f1, f2, hrel'⟩ := op_river hrel (xs (nI i + 1).toNatClampNeg) (xs (nI i + 2).toNatClampNeg)
  refine lv_aload_n hx hb dL_law_769 rfl (lv_at hl 1 rfl) ?_
  refine lv_aload_n hx hb dL_law_770 rfl (lv_at hl 0 rfl) ?_
  refine lv_iload_n hx hb dL_law_771 rfl (lv_at hl 3 rfl) ?_
  refine lv_iconst (v := 1) hx hb dL_law_772 nc_1 ?_
  refine lv_iadd hx hb dL_law_773 ?_
  refine va_sld hx hb hX hbl hbA hS (in_s (j := 1) (by omega) hL) dL_law_774 ?_
  refine lv_aload_n hx hb dL_law_775 rfl (lv_at hl 0 rfl) ?_
  refine lv_iload_n hx hb dL_law_776 rfl (lv_at hl 3 rfl) ?_
  refine lv_iconst (v := 2) hx hb dL_law_777 nc_2 ?_
  refine lv_iadd hx hb dL_law_778 ?_
  refine va_sld hx hb hX hbl hbA hS (in_s (j := 2) (by omega) hL) dL_law_779 ?_
  refine l_call (As := [.int (xs (nI i + 1).toNatClampNeg), .int (xs (nI i + 2).toNatClampNeg)]) (rest := []) hx hb hml hts hown hE hPX hPM hdis hAX hS (kX8_river (Nat.le_refl _) hDX f1) cl_L_117 (show 16 < 52 by decide) oX_16 vc_8 (Nat.le_of_ble_eq_true rfl) (Nat.le_of_ble_eq_true rfl) (Nat.le_of_ble_eq_true rfl) (Nat.le_of_ble_eq_true rfl) rfl hl.1 rfl (Nat.le_of_ble_eq_true rfl) dL_law_780 (fun H locs hPX hPM hS => ?_)
  refine lv_aload_n hx hb dL_law_783 rfl (lv_at hl 2 rfl) ?_
  refine lv_aload_n hx hb dL_law_784 rfl (lv_at hl 0 rfl) ?_
  refine lv_iload_n hx hb dL_law_785 rfl (lv_at hl 3 rfl) ?_
  refine lv_iconst (v := 1) hx hb dL_law_786 nc_1 ?_
  refine lv_iadd hx hb dL_law_787 ?_
  refine va_sld hx hb hX hbl hbA hS (in_s (j := 1) (by omega) hL) dL_law_788 ?_
  refine lv_aload_n hx hb dL_law_789 rfl (lv_at hl 0 rfl) ?_
  refine lv_iload_n hx hb dL_law_790 rfl (lv_at hl 3 rfl) ?_
  refine lv_iconst (v := 2) hx hb dL_law_791 nc_2 ?_
  refine lv_iadd hx hb dL_law_792 ?_
  refine va_sld hx hb hX hbl hbA hS (in_s (j := 2) (by omega) hL) dL_law_793 ?_
  refine l_call (As := [.int (xs (nI i + 1).toNatClampNeg), .int (xs (nI i + 2).toNatClampNeg)]) (rest := [.int r]) hx hb hml hts hown hE hPM hPX (fun i j hi hj => Ne.symm (hdis j i hj hi)) hAM hS (kX9_river (Nat.le_refl _) hDM f2) cl_L_120 (show 0 < 26 by decide) oM_0 vc_9 (Nat.le_of_ble_eq_true rfl) (Nat.le_of_ble_eq_true rfl) (Nat.le_of_ble_eq_true rfl) (Nat.le_of_ble_eq_true rfl) rfl hl.1 rfl (Nat.le_of_ble_eq_true rfl) dL_law_794 (fun H locs hPM hPX hS => ?_)
  refine lv_icmp_eq (tgt := 851) hx hb dL_law_797 (by decide) (fun _ => ?_) (fun hc => absurd rfl hc)
  exact K adX adM σ' τ' H locs ls rfl rfl ⟨⟨hPX, hPM⟩, ⟨hDX, hDM⟩, ⟨hAX, hAM⟩, hdis, hrel'⟩ hS hl
set_option maxHeartbeats 4000000 in
set_option maxRecDepth 100000 in
theorem lw_case_26 (C0 : lw_At p s m meth c b L xs) (hE : Ev κ s) (hL : L ≤ 320) {i qx qm : Nat} (hi : i + 4 < L) (K : KL p l e s m below meth c b κ qx qm i) {adX adM : Nat → Nat} {σ τ : Mm} {H : Heap} {locs : List Loc} {ls : Array Slot} (e1 : adX 16 = qx) (e2 : adM 0 = qm) (hw : Wld κ (AL s) adX adM σ τ H) (hS : va_S (AL s) s.heap H locs) (hl : lv_has ls 4 [(0, .ref b), (1, .ref qx), (2, .ref qm), (3, .int (nI i))]) : W p l e room_1 s m #[Value.ref b] below meth c H locs 81 2872 (lw_Z below #[Value.ref b] s) (F0 m 802 ls []) := by
  obtain ⟨hx, hb, hr, hml, hown, hts0, hX, hbl, hlocks, hgv⟩ := C0
  have hown : s.vm.findClass RL = some m.cls := hown
  have hts : ∀ w ∈ TB, w.before #[Value.ref b] s = true := fun w h => hts0 w (tb_lw h)
  have hbA : ¬ AL s b := Nat.not_le.mpr hbl
  obtain ⟨⟨hPX, hPM⟩, ⟨hDX, hDM⟩, ⟨hAX, hAM⟩, hdis, hrel⟩ := hw
  subst e1
  subst e2
  obtain ⟨r, σ', τ', f1, f2, hrel'⟩ := op_keep hrel 
  refine lv_aload_n hx hb dL_law_802 rfl (lv_at hl 1 rfl) ?_
  refine l_call (As := []) (rest := []) hx hb hml hts hown hE hPX hPM hdis hAX hS (kX8_keep (Nat.le_refl _) hDX f1) cl_L_121 (show 16 < 52 by decide) oX_16 vc_8 (Nat.le_of_ble_eq_true rfl) (Nat.le_of_ble_eq_true rfl) (Nat.le_of_ble_eq_true rfl) (Nat.le_of_ble_eq_true rfl) rfl hl.1 rfl (Nat.le_of_ble_eq_true rfl) dL_law_803 (fun H locs hPX hPM hS => ?_)
  refine lv_aload_n hx hb dL_law_806 rfl (lv_at hl 2 rfl) ?_
  refine l_call (As := []) (rest := [.int r]) hx hb hml hts hown hE hPM hPX (fun i j hi hj => Ne.symm (hdis j i hj hi)) hAM hS (kX9_keep (Nat.le_refl _) hDM f2) cl_L_124 (show 0 < 26 by decide) oM_0 vc_9 (Nat.le_of_ble_eq_true rfl) (Nat.le_of_ble_eq_true rfl) (Nat.le_of_ble_eq_true rfl) (Nat.le_of_ble_eq_true rfl) rfl hl.1 rfl (Nat.le_of_ble_eq_true rfl) dL_law_807 (fun H locs hPM hPX hS => ?_)
  refine lv_icmp_eq (tgt := 851) hx hb dL_law_810 (by decide) (fun _ => ?_) (fun hc => absurd rfl hc)
  exact K adX adM σ' τ' H locs ls rfl rfl ⟨⟨hPX, hPM⟩, ⟨hDX, hDM⟩, ⟨hAX, hAM⟩, hdis, hrel'⟩ hS hl
set_option maxHeartbeats 4000000 in
set_option maxRecDepth 100000 in
theorem lw_case_27 (C0 : lw_At p s m meth c b L xs) (hE : Ev κ s) (hL : L ≤ 320) {i qx qm : Nat} (hi : i + 4 < L) (K : KL p l e s m below meth c b κ qx qm i) {adX adM : Nat → Nat} {σ τ : Mm} {H : Heap} {locs : List Loc} {ls : Array Slot} (e1 : adX 16 = qx) (e2 : adM 0 = qm) (hw : Wld κ (AL s) adX adM σ τ H) (hS : va_S (AL s) s.heap H locs) (hl : lv_has ls 4 [(0, .ref b), (1, .ref qx), (2, .ref qm), (3, .int (nI i))]) : W p l e room_1 s m #[Value.ref b] below meth c H locs 81 2872 (lw_Z below #[Value.ref b] s) (F0 m 815 ls []) := by
  obtain ⟨hx, hb, hr, hml, hown, hts0, hX, hbl, hlocks, hgv⟩ := C0
  have hown : s.vm.findClass RL = some m.cls := hown
  have hts : ∀ w ∈ TB, w.before #[Value.ref b] s = true := fun w h => hts0 w (tb_lw h)
  have hbA : ¬ AL s b := Nat.not_le.mpr hbl
  obtain ⟨⟨hPX, hPM⟩, ⟨hDX, hDM⟩, ⟨hAX, hAM⟩, hdis, hrel⟩ := hw
  subst e1
  subst e2
  obtain ⟨r, σ', τ', f1, f2, hrel'⟩ := op_restore hrel 
  refine lv_aload_n hx hb dL_law_815 rfl (lv_at hl 1 rfl) ?_
  refine l_call (As := []) (rest := []) hx hb hml hts hown hE hPX hPM hdis hAX hS (kX8_restore (Nat.le_refl _) hDX f1) cl_L_125 (show 16 < 52 by decide) oX_16 vc_8 (Nat.le_of_ble_eq_true rfl) (Nat.le_of_ble_eq_true rfl) (Nat.le_of_ble_eq_true rfl) (Nat.le_of_ble_eq_true rfl) rfl hl.1 rfl (Nat.le_of_ble_eq_true rfl) dL_law_816 (fun H locs hPX hPM hS => ?_)
  refine lv_aload_n hx hb dL_law_819 rfl (lv_at hl 2 rfl) ?_
  refine l_call (As := []) (rest := [.int r]) hx hb hml hts hown hE hPM hPX (fun i j hi hj => Ne.symm (hdis j i hj hi)) hAM hS (kX9_restore (Nat.le_refl _) hDM f2) cl_L_128 (show 0 < 26 by decide) oM_0 vc_9 (Nat.le_of_ble_eq_true rfl) (Nat.le_of_ble_eq_true rfl) (Nat.le_of_ble_eq_true rfl) (Nat.le_of_ble_eq_true rfl) rfl hl.1 rfl (Nat.le_of_ble_eq_true rfl) dL_law_820 (fun H locs hPM hPX hS => ?_)
  refine lv_icmp_eq (tgt := 851) hx hb dL_law_823 (by decide) (fun _ => ?_) (fun hc => absurd rfl hc)
  exact K adX adM σ' τ' H locs ls rfl rfl ⟨⟨hPX, hPM⟩, ⟨hDX, hDM⟩, ⟨hAX, hAM⟩, hdis, hrel'⟩ hS hl
set_option maxHeartbeats 4000000 in
set_option maxRecDepth 100000 in
theorem lw_case_28 (C0 : lw_At p s m meth c b L xs) (hE : Ev κ s) (hL : L ≤ 320) {i qx qm : Nat} (hi : i + 4 < L) (K : KL p l e s m below meth c b κ qx qm i) {adX adM : Nat → Nat} {σ τ : Mm} {H : Heap} {locs : List Loc} {ls : Array Slot} (e1 : adX 16 = qx) (e2 : adM 0 = qm) (hw : Wld κ (AL s) adX adM σ τ H) (hS : va_S (AL s) s.heap H locs) (hl : lv_has ls 4 [(0, .ref b), (1, .ref qx), (2, .ref qm), (3, .int (nI i))]) : W p l e room_1 s m #[Value.ref b] below meth c H locs 81 2872 (lw_Z below #[Value.ref b] s) (F0 m 828 ls []) := by
  obtain ⟨hx, hb, hr, hml, hown, hts0, hX, hbl, hlocks, hgv⟩ := C0
  have hown : s.vm.findClass RL = some m.cls := hown
  have hts : ∀ w ∈ TB, w.before #[Value.ref b] s = true := fun w h => hts0 w (tb_lw h)
  have hbA : ¬ AL s b := Nat.not_le.mpr hbl
  obtain ⟨⟨hPX, hPM⟩, ⟨hDX, hDM⟩, ⟨hAX, hAM⟩, hdis, hrel⟩ := hw
  subst e1
  subst e2
  obtain ⟨r, f1, f2⟩ := op_count hrel (xs (nI i + 1).toNatClampNeg)
  refine lv_aload_n hx hb dL_law_828 rfl (lv_at hl 1 rfl) ?_
  refine lv_aload_n hx hb dL_law_829 rfl (lv_at hl 0 rfl) ?_
  refine lv_iload_n hx hb dL_law_830 rfl (lv_at hl 3 rfl) ?_
  refine lv_iconst (v := 1) hx hb dL_law_831 nc_1 ?_
  refine lv_iadd hx hb dL_law_832 ?_
  refine va_sld hx hb hX hbl hbA hS (in_s (j := 1) (by omega) hL) dL_law_833 ?_
  refine l_call (As := [.int (xs (nI i + 1).toNatClampNeg)]) (rest := []) hx hb hml hts hown hE hPX hPM hdis hAX hS (kX8_count (Nat.le_refl _) hDX f1) cl_L_129 (show 16 < 52 by decide) oX_16 vc_8 (Nat.le_of_ble_eq_true rfl) (Nat.le_of_ble_eq_true rfl) (Nat.le_of_ble_eq_true rfl) (Nat.le_of_ble_eq_true rfl) rfl hl.1 rfl (Nat.le_of_ble_eq_true rfl) dL_law_834 (fun H locs hPX hPM hS => ?_)
  refine lv_aload_n hx hb dL_law_837 rfl (lv_at hl 2 rfl) ?_
  refine lv_aload_n hx hb dL_law_838 rfl (lv_at hl 0 rfl) ?_
  refine lv_iload_n hx hb dL_law_839 rfl (lv_at hl 3 rfl) ?_
  refine lv_iconst (v := 1) hx hb dL_law_840 nc_1 ?_
  refine lv_iadd hx hb dL_law_841 ?_
  refine va_sld hx hb hX hbl hbA hS (in_s (j := 1) (by omega) hL) dL_law_842 ?_
  refine l_call (As := [.int (xs (nI i + 1).toNatClampNeg)]) (rest := [.int r]) hx hb hml hts hown hE hPM hPX (fun i j hi hj => Ne.symm (hdis j i hj hi)) hAM hS (kX9_count (Nat.le_refl _) hDM f2) cl_L_132 (show 0 < 26 by decide) oM_0 vc_9 (Nat.le_of_ble_eq_true rfl) (Nat.le_of_ble_eq_true rfl) (Nat.le_of_ble_eq_true rfl) (Nat.le_of_ble_eq_true rfl) rfl hl.1 rfl (Nat.le_of_ble_eq_true rfl) dL_law_843 (fun H locs hPM hPX hS => ?_)
  refine lv_icmp_eq (tgt := 851) hx hb dL_law_846 (by decide) (fun _ => ?_) (fun hc => absurd rfl hc)
  exact K adX adM σ τ H locs ls rfl rfl ⟨⟨hPX, hPM⟩, ⟨hDX, hDM⟩, ⟨hAX, hAM⟩, hdis, hrel⟩ hS hl
end LW
