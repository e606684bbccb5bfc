/-! the first text: a String constant, its letters as an array -/
def BL : List Int32 := [98, 51, 44, 49, 44, 49, 44, 48, 59, 98, 53, 44, 56, 44, 48, 44, 50, 59, 98, 55, 44, 54, 44, 50, 44, 48, 59, 98, 52, 44, 51, 44, 51, 44, 48, 59, 98, 54, 44, 52, 44, 48, 44, 49, 59, 98, 50, 44, 50, 44, 48, 44, 48, 59, 119, 52, 48, 59, 99, 48, 44, 49, 59, 99, 56, 44, 50, 59, 114, 48, 44, 49, 59, 97, 51, 44, 52, 44, 53, 59, 115, 53, 59, 115, 48, 59, 118, 48, 44, 49, 59, 118, 50, 44, 49, 59, 118, 49, 44, 51, 59, 121, 48, 44, 49, 50, 59, 121, 49, 44, 51, 48, 59, 121, 50, 44, 55, 59]
def CH (j : Nat) : Int32 := ((BL.getD j 0 &&& 255).toUInt32 % 65536).toInt32
def Str (qs qb : Nat) (A : Nat → Prop) (U : State) (H : Heap) : Prop := va_Z "java/lang/String" "COMPACT_STRINGS" "Z" (.int 1) A U H ∧ va_O "java/lang/String" qs A U H ∧ va_OF "java/lang/String" "coder" "B" (.int 0) qs A U H ∧ va_OF "java/lang/String" "value" "[B" (.ref qb) qs A U H ∧ va_T .byte qb 118 (fun j => .int (BL.getD j 0)) A U H
theorem Str.to {qs qb : Nat} {A B : Nat → Prop} {s U : State} {H : Heap} {locs : List Loc} (h : Str qs qb A s s.heap) (hW : s.WarmedH U.vm) (hU : U.heap = H) (hS : va_S A s.heap H locs) (hAB : ∀ q, B q → A q) : Str qs qb B U U.heap := by
  rw [hU]
  obtain ⟨h1, h2, h3, h4, h5⟩ := h
  exact ⟨((h1.moved hW.alike).kept hS.2.1).narrow hAB, ((h2.moved hW.alike).kept hS.2.1).narrow hAB, ((h3.moved hW.alike).kept hS.2.1).narrow hAB, ((h4.moved hW.alike).kept hS.2.1).narrow hAB, ((h5.moved hW.alike).kept hS.2.1).narrow hAB⟩
theorem Str.calling {qs qb : Nat} {A : Nat → Prop} {U : State} {g : JFrame} {mk : MethodId} {a : Array Value} (h : Str qs qb A U U.heap) : Str qs qb A (U.calling g mk a) (U.calling g mk a).heap := by
  obtain ⟨h1, h2, h3, h4, h5⟩ := h
  have hv : U.vm.Alike (U.calling g mk a).vm := Vm.Alike.refl U.vm
  exact ⟨h1.moved hv, h2.moved hv, h3.moved hv, h4.moved hv, h5.moved hv⟩
abbrev QrC {S : Type} (κ : Kp) (w0 : va_W) (sz : Nat) (post : S → Prop) (w1 : S → Nat → va_W) : Array Value → State → Outcome → State → Prop := va_Qr post (fun u ra t => va_P κ.1 vwCl (w1 u ra) t.heap ∧ va_D (va_A w0 sz) (w1 u ra)) (va_A w0 sz)
set_option maxHeartbeats 4000000 in
theorem mkR {l : Launch} {y : MethodName} {cc : ByteArray} {nL fr mc ms lo : Nat} {κ : Kp} {av : List Value} {w0 : va_W} {sz : Nat} {X : State → Prop} {S : Type} {post : S → Prop} {w1 : S → Nat → va_W} {rt : FieldType} (hrt : (∃ n, rt = .object n) ∨ ∃ t, rt = .array t) (hy : plainName y.cls = true) (hlen : (lg_sl av).length ≤ nL)
    (body : ∀ (p : Program) (e : Env) (s : State) (m : MethodId) (args : Array Value) (below : List Frame) (meth : Method) (c : Code) (Q : State → Prop) (ls : Array Slot) (A : Nat → Prop), Cx κ y.cls cc nL p s m args c → s.heap.size = sz → A = va_A w0 sz → va_P κ.1 vwCl w0 s.heap → va_D A w0 → (∀ q, s.heap.size ≤ q → A q) → X s →
      (∀ (pc : Nat) (H : Heap) (locs : List Loc) (ls : Array Slot) (u : S) (ra : Nat), decode cc pc = .ok (.areturn, 1) → post u → va_P κ.1 vwCl (w1 u ra) H → va_D A (w1 u ra) → va_S A s.heap H locs → W p l e (rmC fr mc ms lo) s m args below meth c H locs mc ms Q (F0 m pc ls [.ref ra])) →
      lv_has ls nL (lv_args 0 av) → W p l e (rmC fr mc ms lo) s m args below meth c s.heap [] 0 0 Q (F0 m 0 ls [])) :
    Met l y (Cond.code y cc nL (some rt) :: TB) (rmC fr mc ms lo) (PcC κ w0 sz av X) (QrC κ w0 sz post w1) mc ms (va_A w0 sz) := by
  refine Met.ofW (cc := cc) (maxL := nL) (ret := some rt) hy rfl ?_
  intro p e s m args below meth c s₁ B hml hv
  obtain ⟨rfl, hsz, hP, hE, hD0, hX⟩ := hv
  have hts := atoms_spec (ws := Cond.code y cc nL (some rt) :: TB) B.pre
  have hlocks := B.notSynchronized
  rw [lg_entry_eq]
  refine body p e s m _ below meth c _ _ _ ⟨B.exec, B.bytes, hml, findClass_of_methodNamed B.named, fun w h => hts w (List.mem_cons_of_mem _ h), hE⟩ hsz rfl hP (hD0.self (sz := sz)) (fun q h => Or.inr (by rw [← hsz]; exact h)) hX (fun pc H locs ls u ra hd hu hP hD hS => ?_) (lv_entry av hlen)
  exact W.aret B.exec B.bytes B.returns hrt (Or.inr ⟨ra, rfl⟩) (fun t ht hW => ⟨⟨u, ra, rfl, hu, by rw [ht]; exact hP, hD⟩, hS.F ht⟩) hS.2.2 hd
theorem w_sp : Cond.fieldLink RJ0 38 "java/lang/String" "COMPACT_STRINGS" "Z" ∈ TB := tb1 146 rfl rfl
theorem w_co : Cond.fieldLink RJ0 15 "java/lang/String" "coder" "B" ∈ TB := tb5 177 rfl rfl
theorem w_va : Cond.fieldLink RJ0 9 "java/lang/String" "value" "[B" ∈ TB := tb5 178 rfl rfl
theorem cl_inf : CS RJ1 13 yJ1_inflate_03870 cJ1_inflate_03870 6 none 5 := ⟨⟨tb1 151 rfl rfl, tb1 153 rfl rfl, tb1 5 rfl rfl, ⟨by decide +kernel, by decide +kernel⟩, by decide +kernel⟩, tb1 152 rfl rfl⟩
theorem cl_tch : CS RJ0 299 yJ1_toChars_9d188 cJ1_toChars_9d188 2 (some (.array .char)) 1 := ⟨⟨tb1 148 rfl rfl, tb1 150 rfl rfl, tb1 5 rfl rfl, ⟨by decide +kernel, by decide +kernel⟩, by decide +kernel⟩, tb1 149 rfl rfl⟩
theorem cl_lat : CV RJ0 492 yJ0_isLatin1_aae02 cJ0_isLatin1_aae02 1 (some .boolean) 0 := ⟨⟨tb1 142 rfl rfl, tb1 145 rfl rfl, tb1 4 rfl rfl, ⟨by decide +kernel, by decide +kernel⟩, by decide +kernel⟩, tb1 143 rfl rfl, tb1 144 rfl rfl⟩
theorem cl_tca : CV RX8 269 yJ0_toCharArray_70df3 cJ0_toCharArray_70df3 1 (some (.array .char)) 0 := ⟨⟨tb1 138 rfl rfl, tb1 141 rfl rfl, tb1 4 rfl rfl, ⟨by decide +kernel, by decide +kernel⟩, by decide +kernel⟩, tb1 139 rfl rfl, tb1 140 rfl rfl⟩
set_option maxHeartbeats 4000000 in
set_option maxRecDepth 100000 in
/-- the bytes come as letters -/
theorem k_inf (l : Launch) (κ : Kp) (qs qb qc sz : Nat) : Met l yJ1_inflate_03870 (Cond.code yJ1_inflate_03870 cJ1_inflate_03870 6 none :: TB) (rmC 0 0 0 0) (PcC κ [(qc, .inl (κ.2.2.1, 118, .inl Z0))] sz [.ref qb, .int 0, .ref qc, .int 0, .int 118] (fun U => Str qs qb (va_A [(qc, .inl (κ.2.2.1, 118, .inl Z0))] sz) U U.heap)) (QvC κ [(qc, .inl (κ.2.2.1, 118, .inl Z0))] sz (fun _ : Unit => True) (fun _ => [(qc, .inl (κ.2.2.1, 118, .inl (fb_put Z0 CH 0 118)))])) 0 0 (va_A [(qc, .inl (κ.2.2.1, 118, .inl Z0))] sz) := by
  refine mkC (by decide +kernel) (Nat.le_of_ble_eq_true rfl) (fun p e s m args below meth c Q ls A hC hin hsz hAe hP hD hA hX hret hl => ?_)
  obtain ⟨hx, hb, hml, hown, hts, hE⟩ := hC
  rw [← hAe] at hX
  have hT := hX.2.2.2.2
  have hS : va_S A s.heap s.heap [] := va_S.rf
  have hl : lv_has ls 6 [(0, .ref qb), (1, .int 0), (2, .ref qc), (3, .int 0), (4, .int 118)] := hl
  have loop : ∀ (n i : Nat) (H : Heap) (locs : List Loc) (ls : Array Slot), i ≤ 118 → 118 - i < n → va_P κ.1 vwCl [(qc, .inl (κ.2.2.1, 118, .inl (fb_put Z0 CH 0 i)))] H → va_D A [(qc, .inl (κ.2.2.1, 118, .inl (fb_put Z0 CH 0 i)))] → va_S A s.heap H locs → lv_has ls 6 [(0, .ref qb), (1, .int (nI i)), (2, .ref qc), (3, .int (nI i)), (4, .int 118), (5, .int (nI i))] → W p l e (rmC 0 0 0 0) s m args below meth c H locs 0 0 Q (F0 m 3 ls []) := by
    intro n
    induction n with
    | zero => intro i H locs ls _ h; omega
    | succ n ih =>
      intro i H locs ls hi hn hP hD hS hl
      refine lv_iload hx hb dJ1_inflate_03870_3 (lv_at hl 5 rfl) ?_
      refine lv_iload hx hb dJ1_inflate_03870_5 (lv_at hl 4 rfl) ?_
      refine lv_icmp_ge (tgt := 33) hx hb dJ1_inflate_03870_7 (by decide) (fun hc => ?_) (fun hc => ?_)
      · have : i = 118 := by
          have h := (nI_leI (a := 118) (b := i) (by omega) (by omega)).mp hc
          omega
        subst this
        exact hret 33 H locs ls () dJ1_inflate_03870_33 trivial hP hD hS
      · have hi2 : i < 118 := by
          rcases Nat.lt_or_ge i 118 with h | h
          · exact h
          · exact absurd ((nI_leI (a := 118) (b := i) (by omega) (by omega)).mpr h) hc
        refine lv_aload_n hx hb dJ1_inflate_03870_10 rfl (lv_at hl 2 rfl) ?_
        refine lv_iload_n hx hb dJ1_inflate_03870_11 rfl (lv_at hl 3 rfl) ?_
        refine lv_iinc (v := nI i + 1) (lv' := [(3, .int (nI i + 1)), (0, .ref qb), (1, .int (nI i)), (2, .ref qc), (4, .int 118), (5, .int (nI i))]) hx hb dJ1_inflate_03870_12 hl (k := 3) rfl (ni_1 _) (by decide) rfl (fun ls hl => ?_)
        refine lv_aload_n hx hb dJ1_inflate_03870_15 rfl (lv_at hl 1 rfl) ?_
        refine lv_iload_n hx hb dJ1_inflate_03870_16 rfl (lv_at hl 2 rfl) ?_
        refine lv_iinc (v := nI i + 1) (lv' := [(1, .int (nI i + 1)), (3, .int (nI i + 1)), (0, .ref qb), (2, .ref qc), (4, .int 118), (5, .int (nI i))]) hx hb dJ1_inflate_03870_17 hl (k := 2) rfl (ni_1 _) (by decide) rfl (fun ls hl => ?_)
        refine va_tb (v := .int (BL.getD i 0)) hx hb hT hS (vp_in_nI hi2 (by omega)) (by rw [nI_clamp (by omega)]) dJ1_inflate_03870_20 ?_
        refine lv_sipush (v := 255) hx hb dJ1_inflate_03870_21 ns_255 ?_
        refine lv_iand hx hb dJ1_inflate_03870_24 ?_
        refine lv_i2c hx hb dJ1_inflate_03870_25 rfl ?_
        refine va_cast hx hb hE.1 hP hD hS 0 1 rfl rfl (vp_in_nI hi2 (by omega)) dJ1_inflate_03870_26 (fun H locs hP hD hS => ?_)
        have ev : upd (fb_put Z0 CH 0 i) (nI i).toNatClampNeg (vp_nar .char ((BL.getD i 0 &&& 255).toUInt32 % 65536).toInt32) = fb_put Z0 CH 0 (i + 1) := by
          rw [pk_vc, nI_clamp (by omega), ← fb_put_succ, Nat.zero_add]
          rfl
        rw [ev] at hP hD
        refine lv_iinc (v := nI i + 1) (lv' := [(5, .int (nI i + 1)), (1, .int (nI i + 1)), (3, .int (nI i + 1)), (0, .ref qb), (2, .ref qc), (4, .int 118)]) hx hb dJ1_inflate_03870_27 hl (k := 5) rfl (ni_1 _) (by decide) rfl (fun ls hl => ?_)
        refine lv_goto (tgt := 3) hx hb dJ1_inflate_03870_30 (by decide) ?_
        rw [nI_1] at hl
        exact ih (i + 1) H locs ls (by omega) (by omega) hP hD hS (lv_sub hl [3, 1, 4, 2, 5, 0] rfl)
  refine lv_iconst (v := 0) hx hb dJ1_inflate_03870_0 nc_0 ?_
  refine lv_istore (lv' := [(5, .int 0), (0, .ref qb), (1, .int 0), (2, .ref qc), (3, .int 0), (4, .int 118)]) hx hb dJ1_inflate_03870_1 hl (by decide) rfl (fun ls hl => ?_)
  have z : fb_put Z0 CH 0 0 = Z0 := fb_put_0 Z0 CH 0
  exact loop 120 0 s.heap [] ls (by omega) (by omega) (by rw [z]; exact hP) (by rw [z]; exact hD) hS (lv_sub hl [1, 2, 3, 4, 5, 0] rfl)
