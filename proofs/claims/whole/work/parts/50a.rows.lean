/-! constructors: worlds as lists of cells -/
def Z0 : Nat → Int32 := fun _ => 0
abbrev rmC (fr mc ms lo : Nat) : Room := { frames := fr, cells := mc, slots := ms, locals := lo }
abbrev PcC (κ : Kp) (w0 : va_W) (sz : Nat) (av : List Value) (X : State → Prop) : Array Value → State → Prop := va_Pc av (fun U => U.heap.size = sz ∧ va_P κ.1 vwCl w0 U.heap ∧ Ev κ U ∧ va_D (fun _ => True) w0 ∧ X U)
abbrev QvC {S : Type} (κ : Kp) (w0 : va_W) (sz : Nat) (post : S → Prop) (w1 : S → va_W) : Array Value → State → Outcome → State → Prop := va_Qv post (fun u t => va_P κ.1 vwCl (w1 u) t.heap ∧ va_D (va_A w0 sz) (w1 u)) (va_A w0 sz)
theorem D1 {q : Nat × va_E} : va_D (fun _ => True) [q] := ⟨fun i j a b hi hj _ => by
  have h1 := (List.getElem?_eq_some_iff.mp hi).1
  have h2 := (List.getElem?_eq_some_iff.mp hj).1
  simp at h1 h2
  omega, fun _ _ _ => trivial⟩
theorem w_ai : Cond.arrayClass .int ∈ TB := tb1 40 rfl rfl
theorem w_ac : Cond.arrayClass .char ∈ TB := tb1 39 rfl rfl
theorem w_ab : Cond.arrayClass .byte ∈ TB := tb2 80 rfl rfl
theorem w_oc : Cond.code Lib.objectInit ⟨#[0xb1]⟩ 1 none ∈ TB := tb1 25 rfl rfl
set_option maxHeartbeats 4000000 in
theorem mkC {l : Launch} {y : MethodName} {cc : ByteArray} {nL fr mc ms lo : Nat} {κ : Kp} {av : List Value} {w0 : va_W} {sz : Nat} {X : State → Prop} {S : Type} {post : S → Prop} {w1 : S → va_W} (hy : plainName y.cls = true) (hlen : (lg_sl av).length ≤ nL)
    (body : ∀ (p : Program) (e : Env) (s : State) (m : MethodId) (args : Array Value) (below : List Frame) (meth : Method) (c : Code) (Q : State → Prop) (ls : Array Slot) (A : Nat → Prop), Cx κ y.cls cc nL p s m args c → meth.name = y.name → s.heap.size = sz → A = va_A w0 sz → va_P κ.1 vwCl w0 s.heap → va_D A w0 → (∀ q, s.heap.size ≤ q → A q) → X s →
      (∀ (pc : Nat) (H : Heap) (locs : List Loc) (ls : Array Slot) (u : S), decode cc pc = .ok (.return_, 1) → post u → va_P κ.1 vwCl (w1 u) H → va_D A (w1 u) → va_S A s.heap H locs → W p l e (rmC fr mc ms lo) s m args below meth c H locs mc ms Q (F0 m pc ls [])) →
      lv_has ls nL (lv_args 0 av) → W p l e (rmC fr mc ms lo) s m args below meth c s.heap [] 0 0 Q (F0 m 0 ls [])) :
    Met l y (Cond.code y cc nL none :: TB) (rmC fr mc ms lo) (PcC κ w0 sz av X) (QvC κ w0 sz post w1) mc ms (va_A w0 sz) := by
  refine Met.ofW (cc := cc) (maxL := nL) (ret := none) hy rfl ?_
  intro p e s m args below meth c s₁ B hml hv
  obtain ⟨rfl, hsz, hP, hE, hD0, hX⟩ := hv
  have hts := atoms_spec (ws := Cond.code y cc nL none :: TB) B.pre
  have hlocks := B.notSynchronized
  have hnm := (name_of_methodNamed B.named B.method).1
  rw [lg_entry_eq]
  refine body p e s m _ below meth c _ _ _ ⟨B.exec, B.bytes, hml, findClass_of_methodNamed B.named, fun w h => hts w (List.mem_cons_of_mem _ h), hE⟩ hnm hsz rfl hP (hD0.self (sz := sz)) (fun q h => Or.inr (by rw [← hsz]; exact h)) hX (fun pc H locs ls u hd hu hP hD hS => ?_) (lv_entry av hlen)
  exact W.vret B.exec B.bytes B.returns (fun t ht hW => ⟨⟨u, rfl, hu, by rw [ht]; exact hP, hD⟩, hS.F ht⟩) hS.2.2 hd
section YR
variable {p : Program} {l : Launch} {e : Env} {R : Room} {s : State} {m : MethodId} {args : Array Value} {below : List Frame} {meth : Method} {c : Code} {H : Heap} {locs : List Loc} {cells slots : Nat} {Q : State → Prop}
variable {cc : ByteArray} {pc : Nat} {ls : Array Slot} {rest : List Value} {κ : Kp} {ws : va_W} {A : Nat → Prop} {H0 : Heap} {own : String}
theorem y_newi (hx : p.tables.exec = Jvm.exec) (hb : c.code = cc) (hts : ∀ w ∈ TB, w.before args s = true) (hE : Ev κ s) (hP : va_P κ.1 vwCl ws H) (hD : va_D A ws) (hS : va_S A H0 H locs) (hA : ∀ q, H0.size ≤ q → A q) {n : Int32} (N' : Nat) (hn : ¬ n < 0) (hN : n.toNatClampNeg = N') (hby : N' * 4 ≤ 536870912) (hc : cells + 1 ≤ R.cells) (hs : slots + N' ≤ R.slots) (hd : decode cc pc = .ok (.newarray .int, 2))
    (kk : ∀ (q : Nat) (H1 : Heap), va_P κ.1 vwCl (ws ++ [(q, .inl (κ.2.1, N', .inl Z0))]) H1 → va_D A (ws ++ [(q, .inl (κ.2.1, N', .inl Z0))]) → va_S A H0 H1 locs → W p l e R s m args below meth c H1 locs (cells + 1) (slots + N') Q (F0 m (pc + 2) ls (.ref q :: rest))) : W p l e R s m args below meth c H locs cells slots Q (F0 m pc ls (.int n :: rest)) := by
  refine va_newa (atype := .int) (a0 := (N', .inl Z0)) (ty := .int) hx hb (hts _ w_ai) rfl hE.1 hP hD hS hA (fun cA => rfl) hn hN hby hc hs hd (fun q cA H1 hK hP1 hD1 hS1 => ?_)
  have h1 : s.vm.findClass ("[" ++ FieldType.int.toString) = some cA := (hK.2 3 (cA, .int) rfl).2
  have h2 : s.vm.findClass ("[" ++ FieldType.int.toString) = some κ.2.1 := (hE.1.2 0 (κ.2.1, .int) rfl).2
  have h3 : cA = κ.2.1 := Option.some.inj (h1.symm.trans h2)
  subst h3
  exact kk q H1 hP1 hD1 hS1
theorem y_newc (hx : p.tables.exec = Jvm.exec) (hb : c.code = cc) (hts : ∀ w ∈ TB, w.before args s = true) (hE : Ev κ s) (hP : va_P κ.1 vwCl ws H) (hD : va_D A ws) (hS : va_S A H0 H locs) (hA : ∀ q, H0.size ≤ q → A q) {n : Int32} (N' : Nat) (hn : ¬ n < 0) (hN : n.toNatClampNeg = N') (hby : N' * 2 ≤ 536870912) (hc : cells + 1 ≤ R.cells) (hs : slots + N' ≤ R.slots) (hd : decode cc pc = .ok (.newarray .char, 2))
    (kk : ∀ (q : Nat) (H1 : Heap), va_P κ.1 vwCl (ws ++ [(q, .inl (κ.2.2.1, N', .inl Z0))]) H1 → va_D A (ws ++ [(q, .inl (κ.2.2.1, N', .inl Z0))]) → va_S A H0 H1 locs → W p l e R s m args below meth c H1 locs (cells + 1) (slots + N') Q (F0 m (pc + 2) ls (.ref q :: rest))) : W p l e R s m args below meth c H locs cells slots Q (F0 m pc ls (.int n :: rest)) := by
  refine va_newa (atype := .char) (a0 := (N', .inl Z0)) (ty := .char) hx hb (hts _ w_ac) rfl hE.1 hP hD hS hA (fun cA => rfl) hn hN hby hc hs hd (fun q cA H1 hK hP1 hD1 hS1 => ?_)
  have h1 : s.vm.findClass ("[" ++ FieldType.char.toString) = some cA := (hK.2 3 (cA, .char) rfl).2
  have h2 : s.vm.findClass ("[" ++ FieldType.char.toString) = some κ.2.2.1 := (hE.1.2 1 (κ.2.2.1, .char) rfl).2
  have h3 : cA = κ.2.2.1 := Option.some.inj (h1.symm.trans h2)
  subst h3
  exact kk q H1 hP1 hD1 hS1
theorem y_newb (hx : p.tables.exec = Jvm.exec) (hb : c.code = cc) (hts : ∀ w ∈ TB, w.before args s = true) (hE : Ev κ s) (hP : va_P κ.1 vwCl ws H) (hD : va_D A ws) (hS : va_S A H0 H locs) (hA : ∀ q, H0.size ≤ q → A q) {n : Int32} (N' : Nat) (hn : ¬ n < 0) (hN : n.toNatClampNeg = N') (hby : N' * 1 ≤ 536870912) (hc : cells + 1 ≤ R.cells) (hs : slots + N' ≤ R.slots) (hd : decode cc pc = .ok (.newarray .byte, 2))
    (kk : ∀ (q : Nat) (H1 : Heap), va_P κ.1 vwCl (ws ++ [(q, .inl (κ.2.2.2, N', .inl Z0))]) H1 → va_D A (ws ++ [(q, .inl (κ.2.2.2, N', .inl Z0))]) → va_S A H0 H1 locs → W p l e R s m args below meth c H1 locs (cells + 1) (slots + N') Q (F0 m (pc + 2) ls (.ref q :: rest))) : W p l e R s m args below meth c H locs cells slots Q (F0 m pc ls (.int n :: rest)) := by
  refine va_newa (atype := .byte) (a0 := (N', .inl Z0)) (ty := .byte) hx hb (hts _ w_ab) rfl hE.1 hP hD hS hA (fun cA => rfl) hn hN hby hc hs hd (fun q cA H1 hK hP1 hD1 hS1 => ?_)
  have h1 : s.vm.findClass ("[" ++ FieldType.byte.toString) = some cA := (hK.2 3 (cA, .byte) rfl).2
  have h2 : s.vm.findClass ("[" ++ FieldType.byte.toString) = some κ.2.2.2 := (hE.1.2 2 (κ.2.2.2, .byte) rfl).2
  have h3 : cA = κ.2.2.2 := Option.some.inj (h1.symm.trans h2)
  subst h3
  exact kk q H1 hP1 hD1 hS1
/-- what the tables say of an object that is made, and of a final field that is set in its constructor -/
def NW (own : String) (idx : Nat) (C : String) (T : u_T) (M ci : Nat) (ty : Nat → FieldType) : Prop := (Cond.classLink own idx C ∈ TB ∧ Cond.instantiable C M ∈ TB ∧ Cond.initialized C ∈ TB) ∧ vwCl[ci]? = some (C, T, M) ∧ (∀ w ∈ u_ws C T M, w ∈ TB) ∧ ∀ k, k < M → parseFieldDescriptor (T k).2.2.1 = some (ty k)
def FN (own : String) (idx : Nat) (C : String) (T : u_T) (M k ci : Nat) (ty : Nat → FieldType) : Prop := FL own idx C T M k ci ∧ (∀ k, k < M → parseFieldDescriptor (T k).2.2.1 = some (ty k)) ∧ (∀ a, a < M → ∀ b, b < M → a ≠ b → (T a).2.1 ≠ (T b).2.1) ∧ (T k).2.2.2 = true ∧ (T k).1 = own
theorem y_new (hx : p.tables.exec = Jvm.exec) (hb : c.code = cc) (hts : ∀ w ∈ TB, w.before args s = true) (hown : s.vm.findClass own = some m.cls) (hE : Ev κ s) (hP : va_P κ.1 vwCl ws H) (hD : va_D A ws) (hS : va_S A H0 H locs) (hA : ∀ q, H0.size ≤ q → A q) {idx : Nat} {C : String} {T : u_T} {M ci : Nat} {ty : Nat → FieldType} (hN : NW own idx C T M ci ty) (fs : List Value) (hfs : ∀ j, j < M → defaultValue (ty j) = vp_V fs j) (hc : cells + 1 ≤ R.cells) (hs : slots + M ≤ R.slots) (hd : decode cc pc = .ok (.new idx, 3))
    (kk : ∀ (q : Nat) (H1 : Heap), va_P κ.1 vwCl (ws ++ [(q, .inr (ci, fs))]) H1 → va_D A (ws ++ [(q, .inr (ci, fs))]) → va_S A H0 H1 locs → W p l e R s m args below meth c H1 locs (cells + 1) (slots + M) Q (F0 m (pc + 3) ls (.ref q :: rest))) : W p l e R s m args below meth c H locs cells slots Q (F0 m pc ls rest) :=
  va_new hx hb hts hN.2.2.1 ty hN.2.2.2 hown (hts _ hN.1.1) (hts _ hN.1.2.1) (hts _ hN.1.2.2) hE.1 hP hD hS hA hN.2.1 hfs hc hs hd kk
theorem y_putF (hx : p.tables.exec = Jvm.exec) (hb : c.code = cc) (hts : ∀ w ∈ TB, w.before args s = true) (hown : s.vm.findClass own = some m.cls) (hin : meth.name = "<init>") (hE : Ev κ s) (hP : va_P κ.1 vwCl ws H) (hD : va_D A ws) (hS : va_S A H0 H locs) {C : String} {T : u_T} {M k ci idx : Nat} {ty : Nat → FieldType} (hF : FN own idx C T M k ci ty) (q0 : Nat) {a : Nat} {fs : List Value} {v : Value} (he : ws[q0]? = some (a, .inr (ci, fs))) (hn : narrow (ty k) v = v) (hft : fits (ty k) v = true) (hl : k < fs.length) (hd : decode cc pc = .ok (.putfield idx, 3))
    (kk : ∀ (H1 : Heap) (locs1 : List Loc), va_P κ.1 vwCl (ws.set q0 (a, .inr (ci, fs.set k v))) H1 → va_D A (ws.set q0 (a, .inr (ci, fs.set k v))) → va_S A H0 H1 locs1 → W p l e R s m args below meth c H1 locs1 cells slots Q (F0 m (pc + 3) ls rest)) : W p l e R s m args below meth c H locs cells slots Q (F0 m pc ls (v :: .ref a :: rest)) := by
  obtain ⟨⟨h1, hk, hc, hin2⟩, hty, hnm, hfin, hdec⟩ := hF
  exact va_putF hx hb hts hin2 ty hty hnm hown hE.1 hP hD hS q0 he hc k hk (hts _ h1) (fun _ h => h) hfin hin hdec (hty k hk) hn hft hl hd kk
theorem y_put (hx : p.tables.exec = Jvm.exec) (hb : c.code = cc) (hts : ∀ w ∈ TB, w.before args s = true) (hown : s.vm.findClass own = some m.cls) (hE : Ev κ s) (hP : va_P κ.1 vwCl ws H) (hD : va_D A ws) (hS : va_S A H0 H locs) {C : String} {T : u_T} {M k ci idx : Nat} {ty : Nat → FieldType} (hF : FP own idx C T M k ci ty) (q0 : Nat) {a : Nat} {fs : List Value} {v : Value} (he : ws[q0]? = some (a, .inr (ci, fs))) (hn : narrow (ty k) v = v) (hft : fits (ty k) v = true) (hl : k < fs.length) (hd : decode cc pc = .ok (.putfield idx, 3))
    (kk : ∀ (H1 : Heap) (locs1 : List Loc), va_P κ.1 vwCl (ws.set q0 (a, .inr (ci, fs.set k v))) H1 → va_D A (ws.set q0 (a, .inr (ci, fs.set k v))) → va_S A H0 H1 locs1 → W p l e R s m args below meth c H1 locs1 cells slots Q (F0 m (pc + 3) ls rest)) : W p l e R s m args below meth c H locs cells slots Q (F0 m pc ls (v :: .ref a :: rest)) := by
  obtain ⟨⟨h1, hk, hc, hin2⟩, hty, hnm, hfin⟩ := hF
  exact va_put hx hb hts hin2 ty hty hnm hown hE.1 hP hD hS q0 he hc k hk (hts _ h1) (fun _ h => h) hfin (hty k hk) hn hft hl hd kk
theorem y_get (hx : p.tables.exec = Jvm.exec) (hb : c.code = cc) (hts : ∀ w ∈ TB, w.before args s = true) (hown : s.vm.findClass own = some m.cls) (hE : Ev κ s) (hP : va_P κ.1 vwCl ws H) {C : String} {T : u_T} {M k ci idx : Nat} (hF : FL own idx C T M k ci) (q0 : Nat) {a : Nat} {fs : List Value} {v : Value} (he : ws[q0]? = some (a, .inr (ci, fs))) (hv : fs[k]? = some v) (hd : decode cc pc = .ok (.getfield idx, 3))
    (kk : W p l e R s m args below meth c H locs cells slots Q (F0 m (pc + 3) ls (v :: rest))) : W p l e R s m args below meth c H locs cells slots Q (F0 m pc ls (.ref a :: rest)) := by
  obtain ⟨h1, hk, hc, hin2⟩ := hF
  exact va_get hx hb hts hin2 hown hE.1 hP q0 he hc k hk (hts _ h1) (fun _ h => h) hv hd kk
/-- Object's constructor -/
theorem y_oinit (hx : p.tables.exec = Jvm.exec) (hb : c.code = cc) (hml : c.maxLocals = ls.size) (hts : ∀ w ∈ TB, w.before args s = true) (hown : s.vm.findClass own = some m.cls) {idx a : Nat} (hL : Cond.methodLink own idx Lib.objectInit ∈ TB) (hI : Cond.instanceMethod Lib.objectInit ∈ TB) (hfr : 1 ≤ R.frames) (hlo : 12 ≤ R.locals) (hd : decode cc pc = .ok (.invokespecial idx, 3))
    (kk : W p l e R s m args below meth c H locs cells slots Q (F0 m (pc + 3) ls [])) : W p l e R s m args below meth c H locs cells slots Q (F0 m pc ls [.ref a]) :=
  W.objInit hx hb hown (hts _ hL) (hts _ hI) (hts _ w_oc) rfl hml.symm rfl hd hfr hlo (W.eq (g2 := F0 m (pc + 3) ls []) rfl kk)
/-- a call of a constructor, the private one of a nest mate, or any -/
def CI (y : MethodName) (bytes : ByteArray) (nL n : Nat) : Prop := Cond.code y bytes nL none ∈ TB ∧ Cond.initialized y.cls ∈ TB ∧ (y.cls ≠ "java/lang/invoke/MethodHandle" ∧ y.cls ≠ "java/lang/invoke/VarHandle") ∧ (parseMethodDescriptor y.desc).map (fun d => d.parameters.length) = some n ∧ y.name = "<init>" ∧ Cond.instanceMethod y ∈ TB
theorem blindC {w0 : va_W} {sz : Nat} {av : List Value} {X : State → Prop} (hX : ∀ (U : State) (g : JFrame) (mk : MethodId) (a : Array Value), X U → X (U.calling g mk a)) : FrameBlind (PcC κ w0 sz av X) := by
  intro a U g mk q
  obtain ⟨q0, q1, q2, q3, q4, q5⟩ := q
  exact ⟨q0, q1, q2, q3.calling, q4, hX U g mk a q5⟩
theorem y_cIN {y : MethodName} {bytes : ByteArray} {nL0 nL fr mc ms lo idx n b : Nat} {As st0 : List Value} {host : String} {wc wr : va_W} {S : Type} {post : S → Prop} {w1 : S → va_W} {X : State → Prop} (hx : p.tables.exec = Jvm.exec) (hb : c.code = cc) (hml : c.maxLocals = nL0) (hts : ∀ w ∈ TB, w.before args s = true) (hown : s.vm.findClass own = some m.cls) (hE : Ev κ s) (hP : va_P κ.1 vwCl ws H) (hD : va_D A ws) (hS : va_S A H0 H locs) (hA : ∀ q, H0.size ≤ q → A q) (isC isR : List Nat) (hC : isC.map (fun i => ws[i]?) = wc.map some) (hC2 : isC.filterMap (fun i => ws[i]?) = wc) (hR : isR.map (fun i => ws[i]?) = wr.map some) (hnC : va_nd isC = true) (hnR : va_nd isR = true) (hdis : ∀ i ∈ isR, i ∉ isC)
    (hM : Met l y (Cond.code y bytes nL none :: TB) (rmC fr mc ms lo) (PcC κ wc H.size (.ref b :: As) X) (QvC κ wc H.size post w1) mc ms (va_A wc H.size)) (hL : CI y bytes nL n) (hnest : va_Nw (.methodLinkNest own idx y host) s) (hX : ∀ U : State, U.heap = H → s.WarmedH U.vm → X U) (hXb : ∀ (U : State) (g : JFrame) (mk : MethodId) (a : Array Value), X U → X (U.calling g mk a)) (hfr : fr + 1 ≤ R.frames) (hlo : 8 + (nL + 11) + lo ≤ R.locals) (hc : cells + mc ≤ R.cells) (hs : slots + ms ≤ R.slots) (hn : As.length = n) (hsz : ls.size = nL0) (hst : st0 = As.reverse ++ .ref b :: rest) (hr : (rest.map fun v => v.category).sum ≤ 8) (hd : decode cc pc = .ok (.invokespecial idx, 3))
    (kk : ∀ (u : S) (H1 : Heap) (locs1 : List Loc), post u → va_P κ.1 vwCl (wr ++ w1 u) H1 → va_D A (wr ++ w1 u) → va_S A H0 H1 locs1 → W p l e R s m args below meth c H1 locs1 (cells + mc) (slots + ms) Q (F0 m (pc + 3) ls rest)) : W p l e R s m args below meth c H locs cells slots Q (F0 m pc ls st0) := by
  subst hst
  have hPc := hP.sub (ws' := wc) isC hC2
  have hDc := hD.sub (ws' := wc) isC hnC hC
  have hFc := va_free (wc := wc) hD hS hA isC hC
  refine va_callv (va_runIN (As := As) (rest := rest) ⟨hx, hb, hml, hown, hts⟩ hM ⟨⟨⟨rfl, rfl, hfr, hlo, TB_pay hts hL.1, List.mem_cons_self⟩, hts _ hL.1, hts _ hL.2.1, hL.2.2.1, desc_len hL.2.2.2.1, va_Nw.use rfl hnest⟩, hL.2.2.2.2.1, hts _ hL.2.2.2.2.2⟩ ⟨blindC hXb, fun U hU hW => ⟨rfl, by rw [hU], by rw [hU]; exact hPc, hE.warm hW, hDc.weaken (fun _ _ _ _ => trivial), hX U hU hW⟩⟩ rfl hn hsz rfl (lv_room hr) hd ⟨hc, hs⟩) hS (fun q _ h => hFc q h) hFc (fun u t H1 locs1 ht hvm hw hB hz hk hS1 => ?_)
  obtain ⟨hP1, hD1⟩ := hB
  rw [ht] at hP1
  obtain ⟨hP2, hD2⟩ := va_join (wr := wr) (w1 := w1 u) hP hD isC isR hC hR hnR hdis hk hFc hP1 hD1
  exact kk u H1 locs1 hw hP2 hD2 hS1
theorem y_cI {y : MethodName} {bytes : ByteArray} {nL0 nL fr mc ms lo idx n b : Nat} {As st0 : List Value} {wc wr : va_W} {S : Type} {post : S → Prop} {w1 : S → va_W} {X : State → Prop} (hx : p.tables.exec = Jvm.exec) (hb : c.code = cc) (hml : c.maxLocals = nL0) (hts : ∀ w ∈ TB, w.before args s = true) (hown : s.vm.findClass own = some m.cls) (hE : Ev κ s) (hP : va_P κ.1 vwCl ws H) (hD : va_D A ws) (hS : va_S A H0 H locs) (hA : ∀ q, H0.size ≤ q → A q) (isC isR : List Nat) (hC : isC.map (fun i => ws[i]?) = wc.map some) (hC2 : isC.filterMap (fun i => ws[i]?) = wc) (hR : isR.map (fun i => ws[i]?) = wr.map some) (hnC : va_nd isC = true) (hnR : va_nd isR = true) (hdis : ∀ i ∈ isR, i ∉ isC)
    (hM : Met l y (Cond.code y bytes nL none :: TB) (rmC fr mc ms lo) (PcC κ wc H.size (.ref b :: As) X) (QvC κ wc H.size post w1) mc ms (va_A wc H.size)) (hL : CI y bytes nL n) (hlk : Cond.methodLink own idx y ∈ TB) (hX : ∀ U : State, U.heap = H → s.WarmedH U.vm → X U) (hXb : ∀ (U : State) (g : JFrame) (mk : MethodId) (a : Array Value), X U → X (U.calling g mk a)) (hfr : fr + 1 ≤ R.frames) (hlo : 8 + (nL + 11) + lo ≤ R.locals) (hc : cells + mc ≤ R.cells) (hs : slots + ms ≤ R.slots) (hn : As.length = n) (hsz : ls.size = nL0) (hst : st0 = As.reverse ++ .ref b :: rest) (hr : (rest.map fun v => v.category).sum ≤ 8) (hd : decode cc pc = .ok (.invokespecial idx, 3))
    (kk : ∀ (u : S) (H1 : Heap) (locs1 : List Loc), post u → va_P κ.1 vwCl (wr ++ w1 u) H1 → va_D A (wr ++ w1 u) → va_S A H0 H1 locs1 → W p l e R s m args below meth c H1 locs1 (cells + mc) (slots + ms) Q (F0 m (pc + 3) ls rest)) : W p l e R s m args below meth c H locs cells slots Q (F0 m pc ls st0) := by
  subst hst
  have hPc := hP.sub (ws' := wc) isC hC2
  have hDc := hD.sub (ws' := wc) isC hnC hC
  have hFc := va_free (wc := wc) hD hS hA isC hC
  refine va_callv (va_runI (As := As) (rest := rest) ⟨hx, hb, hml, hown, hts⟩ hM ⟨⟨rfl, rfl, hfr, hlo, TB_pay hts hL.1, List.mem_cons_self, hts _ hL.1, hts _ hL.2.1, hL.2.2.1, desc_len hL.2.2.2.1, hts _ hlk⟩, hL.2.2.2.2.1, hts _ hL.2.2.2.2.2⟩ ⟨blindC hXb, fun U hU hW => ⟨rfl, by rw [hU], by rw [hU]; exact hPc, hE.warm hW, hDc.weaken (fun _ _ _ _ => trivial), hX U hU hW⟩⟩ rfl hn hsz rfl (lv_room hr) hd ⟨hc, hs⟩) hS (fun q _ h => hFc q h) hFc (fun u t H1 locs1 ht hvm hw hB hz hk hS1 => ?_)
  obtain ⟨hP1, hD1⟩ := hB
  rw [ht] at hP1
  obtain ⟨hP2, hD2⟩ := va_join (wr := wr) (w1 := w1 u) hP hD isC isR hC hR hnR hdis hk hFc hP1 hD1
  exact kk u H1 locs1 hw hP2 hD2 hS1
end YR
