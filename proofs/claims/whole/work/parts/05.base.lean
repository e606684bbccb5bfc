/-- the tables' words that hold over calls: every method's words -/
def TB : List Cond := lw_tbl.filter goodWord
theorem tb_lw {w : Cond} (h : w ∈ TB) : w ∈ lw_tbl := (List.mem_filter.mp h).1
theorem tb0 {w : Cond} (i : Nat) (h : (k2_sels lw_privs)[i]? = some w) (g : goodWord w = true) : w ∈ TB := List.mem_filter.mpr ⟨List.mem_append_left _ (List.mem_of_getElem? h), g⟩
theorem tbt {w : Cond} (h : w ∈ tables_1) (g : goodWord w = true) : w ∈ TB := List.mem_filter.mpr ⟨List.mem_append_right _ h, g⟩
theorem tb1 {w : Cond} (i : Nat) (h : tables_1_1[i]? = some w) (g : goodWord w = true) : w ∈ TB := tbt (List.mem_append_left _ (List.mem_of_getElem? h)) g
theorem tb2 {w : Cond} (i : Nat) (h : tables_1_2[i]? = some w) (g : goodWord w = true) : w ∈ TB := tbt (List.mem_append_right _ (List.mem_append_left _ (List.mem_of_getElem? h))) g
theorem tb3 {w : Cond} (i : Nat) (h : tables_1_3[i]? = some w) (g : goodWord w = true) : w ∈ TB := tbt (List.mem_append_right _ (List.mem_append_right _ (List.mem_append_left _ (List.mem_of_getElem? h)))) g
theorem tb4 {w : Cond} (i : Nat) (h : tables_1_4[i]? = some w) (g : goodWord w = true) : w ∈ TB := tbt (List.mem_append_right _ (List.mem_append_right _ (List.mem_append_right _ (List.mem_append_left _ (List.mem_of_getElem? h))))) g
theorem tb5 {w : Cond} (i : Nat) (h : tables_1_5[i]? = some w) (g : goodWord w = true) : w ∈ TB := tbt (List.mem_append_right _ (List.mem_append_right _ (List.mem_append_right _ (List.mem_append_right _ (List.mem_of_getElem? h))))) g
/-! the memory: cell, slot, int; what a method does to it is an Option: none where the machine would throw -/
abbrev Mm : Type := Nat → Nat → Int32
def st (σ : Mm) (k j : Nat) (v : Int32) : Mm := fun a => if a = k then upd (σ k) j v else σ a
def cp (σ : Mm) (k1 k2 s d n : Nat) : Mm := fun a => if a = k2 then va_cpy (σ k1) (σ k2) s d n else σ a
def ib (i : Int32) (n : Nat) : Bool := decide (0 ≤ i.toInt) && decide (i.toInt < (n : Int))
theorem ib_in {i : Int32} {n : Nat} (h : ib i n = true) : vp_in i n := by
  rw [vp_in_iff]
  simpa [ib] using h
def rd (σ : Mm) (k n : Nat) (i : Int32) : Option Int32 := if ib i n = true then some (σ k i.toNatClampNeg) else none
def wr (σ : Mm) (k n : Nat) (i v : Int32) : Option Mm := if ib i n = true then some (st σ k i.toNatClampNeg v) else none
def pt (σ : Mm) (k j : Nat) (v : Int32) : Option Mm := some (st σ k j v)
def gq (x : Int32) (q : Nat) : Option Unit := if x.toNatClampNeg = q then some () else none
def gb (x : Int32) : Option Unit := if x = 0 ∨ x = 1 then some () else none
def gz (x : Int32) : Option Unit := if x = 0 then none else some ()
def gZ (x : Int64) : Option Unit := if x = 0 then none else some ()
def cy (σ : Mm) (k1 n1 : Nat) (s : Int32) (k2 n2 : Nat) (d n : Int32) : Option Mm :=
  if ¬ s < 0 ∧ ¬ d < 0 ∧ ¬ n < 0 ∧ s.toNatClampNeg + n.toNatClampNeg ≤ n1 ∧ d.toNatClampNeg + n.toNatClampNeg ≤ n2 then some (cp σ k1 k2 s.toNatClampNeg d.toNatClampNeg n.toNatClampNeg) else none
theorem rd_some {σ : Mm} {k n : Nat} {i v : Int32} (h : rd σ k n i = some v) : vp_in i n ∧ σ k i.toNatClampNeg = v := by
  unfold rd at h
  split at h
  · next h1 => exact ⟨ib_in h1, Option.some.inj h⟩
  · cases h
theorem wr_some {σ σ' : Mm} {k n : Nat} {i v : Int32} (h : wr σ k n i v = some σ') : vp_in i n ∧ st σ k i.toNatClampNeg v = σ' := by
  unfold wr at h
  split at h
  · next h1 => exact ⟨ib_in h1, Option.some.inj h⟩
  · cases h
theorem gq_some {x : Int32} {q : Nat} {u : Unit} (h : gq x q = some u) : x.toNatClampNeg = q := by
  unfold gq at h
  split at h
  · next h1 => exact h1
  · cases h
theorem gb_some {x : Int32} {u : Unit} (h : gb x = some u) : x = 0 ∨ x = 1 := by
  unfold gb at h
  split at h
  · next h1 => exact h1
  · cases h
theorem gz_some {x : Int32} {u : Unit} (h : gz x = some u) : ¬ x = 0 := by
  unfold gz at h
  split at h
  · cases h
  · next h1 => exact h1
theorem gZ_some {x : Int64} {u : Unit} (h : gZ x = some u) : ¬ x = 0 := by
  unfold gZ at h
  split at h
  · cases h
  · next h1 => exact h1
theorem cy_some {σ σ' : Mm} {k1 n1 k2 n2 : Nat} {s d n : Int32} (h : cy σ k1 n1 s k2 n2 d n = some σ') : (¬ s < 0 ∧ ¬ d < 0 ∧ ¬ n < 0 ∧ s.toNatClampNeg + n.toNatClampNeg ≤ n1 ∧ d.toNatClampNeg + n.toNatClampNeg ≤ n2) ∧ cp σ k1 k2 s.toNatClampNeg d.toNatClampNeg n.toNatClampNeg = σ' := by
  unfold cy at h
  split at h
  · next h1 => exact ⟨h1, Option.some.inj h⟩
  · cases h
/-! binds of one to eight values -/
def bd1 {A B : Type} (x : Option A) (f : A → Option B) : Option B := match x with
  | some a => f a
  | none => none
def bd2 {A1 A2 B : Type} (x : Option (A1 × A2)) (f : A1 → A2 → Option B) : Option B := match x with
  | some (a1, a2) => f a1 a2
  | none => none
def bd3 {A1 A2 A3 B : Type} (x : Option (A1 × A2 × A3)) (f : A1 → A2 → A3 → Option B) : Option B := match x with
  | some (a1, a2, a3) => f a1 a2 a3
  | none => none
def bd4 {A1 A2 A3 A4 B : Type} (x : Option (A1 × A2 × A3 × A4)) (f : A1 → A2 → A3 → A4 → Option B) : Option B := match x with
  | some (a1, a2, a3, a4) => f a1 a2 a3 a4
  | none => none
def bd5 {A1 A2 A3 A4 A5 B : Type} (x : Option (A1 × A2 × A3 × A4 × A5)) (f : A1 → A2 → A3 → A4 → A5 → Option B) : Option B := match x with
  | some (a1, a2, a3, a4, a5) => f a1 a2 a3 a4 a5
  | none => none
def bd6 {A1 A2 A3 A4 A5 A6 B : Type} (x : Option (A1 × A2 × A3 × A4 × A5 × A6)) (f : A1 → A2 → A3 → A4 → A5 → A6 → Option B) : Option B := match x with
  | some (a1, a2, a3, a4, a5, a6) => f a1 a2 a3 a4 a5 a6
  | none => none
theorem bs1 {A B : Type} {x : Option A} {f : A → Option B} {o : B} (h : bd1 x f = some o) : ∃ a, x = some a ∧ f a = some o := by
  cases x with
  | none => cases h
  | some a => exact ⟨a, rfl, h⟩
theorem bs2 {A1 A2 B : Type} {x : Option (A1 × A2)} {f : A1 → A2 → Option B} {o : B} (h : bd2 x f = some o) : ∃ a1 a2, x = some (a1, a2) ∧ f a1 a2 = some o := by
  cases x with
  | none => cases h
  | some a => obtain ⟨a1, a2⟩ := a; exact ⟨a1, a2, rfl, h⟩
theorem bs3 {A1 A2 A3 B : Type} {x : Option (A1 × A2 × A3)} {f : A1 → A2 → A3 → Option B} {o : B} (h : bd3 x f = some o) : ∃ a1 a2 a3, x = some (a1, a2, a3) ∧ f a1 a2 a3 = some o := by
  cases x with
  | none => cases h
  | some a => obtain ⟨a1, a2, a3⟩ := a; exact ⟨a1, a2, a3, rfl, h⟩
theorem bs4 {A1 A2 A3 A4 B : Type} {x : Option (A1 × A2 × A3 × A4)} {f : A1 → A2 → A3 → A4 → Option B} {o : B} (h : bd4 x f = some o) : ∃ a1 a2 a3 a4, x = some (a1, a2, a3, a4) ∧ f a1 a2 a3 a4 = some o := by
  cases x with
  | none => cases h
  | some a => obtain ⟨a1, a2, a3, a4⟩ := a; exact ⟨a1, a2, a3, a4, rfl, h⟩
theorem bs5 {A1 A2 A3 A4 A5 B : Type} {x : Option (A1 × A2 × A3 × A4 × A5)} {f : A1 → A2 → A3 → A4 → A5 → Option B} {o : B} (h : bd5 x f = some o) : ∃ a1 a2 a3 a4 a5, x = some (a1, a2, a3, a4, a5) ∧ f a1 a2 a3 a4 a5 = some o := by
  cases x with
  | none => cases h
  | some a => obtain ⟨a1, a2, a3, a4, a5⟩ := a; exact ⟨a1, a2, a3, a4, a5, rfl, h⟩
theorem bs6 {A1 A2 A3 A4 A5 A6 B : Type} {x : Option (A1 × A2 × A3 × A4 × A5 × A6)} {f : A1 → A2 → A3 → A4 → A5 → A6 → Option B} {o : B} (h : bd6 x f = some o) : ∃ a1 a2 a3 a4 a5 a6, x = some (a1, a2, a3, a4, a5, a6) ∧ f a1 a2 a3 a4 a5 a6 = some o := by
  cases x with
  | none => cases h
  | some a => obtain ⟨a1, a2, a3, a4, a5, a6⟩ := a; exact ⟨a1, a2, a3, a4, a5, a6, rfl, h⟩
theorem ip {A : Type} {c : Prop} [Decidable c] {x y : Option A} {o : A} (h : c) (hf : (if c then x else y) = some o) : x = some o := by
  rw [if_pos h] at hf
  exact hf
theorem iq {A : Type} {c : Prop} [Decidable c] {x y : Option A} {o : A} (h : ¬ c) (hf : (if c then x else y) = some o) : y = some o := by
  rw [if_neg h] at hf
  exact hf
/-! worlds by a function of cells -/
abbrev cfT : Type := (Nat → Nat) → Nat → (Nat → Int32) → va_E
def wl (cf : cfT) (N : Nat) (ad : Nat → Nat) (σ : Mm) : va_W := (List.range N).map (fun k => (ad k, cf ad k (σ k)))
theorem wl_at {cf : cfT} {N : Nat} {ad : Nat → Nat} {σ : Mm} {q : Nat} (hq : q < N) : (wl cf N ad σ)[q]? = some (ad q, cf ad q (σ q)) := by
  unfold wl
  rw [List.getElem?_map, List.getElem?_range hq]
  rfl
theorem wl_len {cf : cfT} {N : Nat} {ad : Nat → Nat} {σ : Mm} : (wl cf N ad σ).length = N := by simp [wl]
theorem wl_in {cf : cfT} {N : Nat} {ad : Nat → Nat} {σ : Mm} {q : Nat} {x : Nat × va_E} (h : (wl cf N ad σ)[q]? = some x) : q < N ∧ x = (ad q, cf ad q (σ q)) := by
  have hq : q < N := by
    have h1 := (List.getElem?_eq_some_iff.mp h).1
    rwa [wl_len] at h1
  rw [wl_at hq] at h
  exact ⟨hq, (Option.some.inj h).symm⟩
theorem wl_set {cf : cfT} {N : Nat} {ad : Nat → Nat} {σ : Mm} {q : Nat} (hq : q < N) {e : va_E} {σ' : Mm} (h1 : cf ad q (σ' q) = e) (h2 : ∀ a, a ≠ q → σ' a = σ a) : (wl cf N ad σ).set q (ad q, e) = wl cf N ad σ' := by
  apply List.ext_getElem?
  intro i
  by_cases hi : i < N
  · rw [wl_at hi]
    by_cases hiq : i = q
    · subst hiq
      rw [List.getElem?_set_self (by rw [wl_len]; exact hi), h1]
    · rw [List.getElem?_set_ne (Ne.symm hiq), wl_at hi, h2 i hiq]
  · rw [List.getElem?_eq_none (by rw [List.length_set, wl_len]; omega), List.getElem?_eq_none (by rw [wl_len]; omega)]
def Apt (ad : Nat → Nat) (N : Nat) : Prop := ∀ i j, i < N → j < N → ad i = ad j → i = j
def Aof (ad : Nat → Nat) (N : Nat) : Nat → Prop := fun q => ∃ k, k < N ∧ q = ad k
theorem Aof_in {ad : Nat → Nat} {N k : Nat} (h : k < N) : Aof ad N (ad k) := ⟨k, h, rfl⟩
theorem wl_D {cf : cfT} {N : Nat} {ad : Nat → Nat} {σ : Mm} {A : Nat → Prop} (h : Apt ad N) (hA : ∀ k, k < N → A (ad k)) : va_D A (wl cf N ad σ) := by
  refine ⟨fun i j p q hi hj hpq => ?_, fun k q hk => ?_⟩
  · obtain ⟨a1, b1⟩ := wl_in hi
    obtain ⟨a2, b2⟩ := wl_in hj
    subst b1; subst b2
    exact h i j a1 a2 hpq
  · obtain ⟨a1, b1⟩ := wl_in hk
    subst b1
    exact hA k a1
abbrev Kp : Type := va_G × ClassId × ClassId × ClassId
def nst (U : State) : Prop := va_Nw (.methodLinkNest RX4 135 yX8_within RX8) U ∧ va_Nw (.methodLinkNest RX5 39 yX8_within RX8) U ∧ va_Nw (.methodLinkNest RX6 68 yX8_within RX8) U
def Ev (κ : Kp) (U : State) : Prop := va_K κ.1 vwCl [(κ.2.1, .int), (κ.2.2.1, .char), (κ.2.2.2, .byte)] U ∧ nst U
theorem Ev.warm {κ : Kp} {s U : State} (hW : s.WarmedH U.vm) (h : Ev κ s) : Ev κ U := ⟨va_K.moved hW.alike h.1, h.2.1.warmM hW, h.2.2.1.warmM hW, h.2.2.2.warmM hW⟩
theorem Ev.calling {κ : Kp} {U : State} {g : JFrame} {mk : MethodId} {a : Array Value} (h : Ev κ U) : Ev κ (U.calling g mk a) := ⟨va_K.moved (u := U) (U := U.calling g mk a) (Vm.Alike.refl U.vm) h.1, h.2.1.same rfl rfl, h.2.2.1.same rfl rfl, h.2.2.2.same rfl rfl⟩
def Ho (κ : Kp) (cf : cfT) (N : Nat) (ad : Nat → Nat) (σ : Mm) (H : Heap) : Prop := va_P κ.1 vwCl (wl cf N ad σ) H
/-- what the tables say of a field that is read, and of one that is written -/
def FL (own : String) (idx : Nat) (C : String) (T : u_T) (M k ci : Nat) : Prop := Cond.fieldLink own idx (T k).1 (T k).2.1 (T k).2.2.1 ∈ TB ∧ k < M ∧ vwCl[ci]? = some (C, T, M) ∧ ∀ w ∈ u_ws C T M, w ∈ TB
def FP (own : String) (idx : Nat) (C : String) (T : u_T) (M k ci : Nat) (ty : Nat → FieldType) : Prop := FL own idx C T M k ci ∧ (∀ k, k < M → parseFieldDescriptor (T k).2.2.1 = some (ty k)) ∧ (∀ a, a < M → ∀ b, b < M → a ≠ b → (T a).2.1 ≠ (T b).2.1) ∧ (T k).2.2.2 = false
theorem TB_pay {s : State} {args : Array Value} {y : MethodName} {bytes : ByteArray} {maxL : Nat} {ret : Option FieldType} (hts : ∀ w ∈ TB, w.before args s = true) (hc : Cond.code y bytes maxL ret ∈ TB) : ∀ w ∈ (Cond.code y bytes maxL ret :: TB), ∀ (a' : Array Value) (U : State), s.WarmedH U.vm → w.before a' U = true := by
  have h : ∀ w ∈ TB, ∀ (a' : Array Value) (U : State), s.WarmedH U.vm → w.before a' U = true := fun w hw a' U hW => word_at hW (good_of_word (List.mem_filter.mp hw).2) (hts w hw)
  intro w hw
  rcases List.mem_cons.mp hw with rfl | hw
  · exact h _ hc
  · exact h w hw
abbrev PcX (κ : Kp) (cf : cfT) (N : Nat) (ad : Nat → Nat) (σ : Mm) (av : List Value) : Array Value → State → Prop := va_Pc av (fun U => Ho κ cf N ad σ U.heap ∧ Ev κ U)
abbrev QI (κ : Kp) (cf : cfT) (N : Nat) (ad : Nat → Nat) (σ : Mm) (r : Int32) : Array Value → State → Outcome → State → Prop := va_Qi (fun r' (_ : Unit) => r' = r) (fun _ t => Ho κ cf N ad σ t.heap) (Aof ad N)
abbrev QV (κ : Kp) (cf : cfT) (N : Nat) (ad : Nat → Nat) (σ : Mm) : Array Value → State → Outcome → State → Prop := va_Qv (fun _ : Unit => True) (fun _ t => Ho κ cf N ad σ t.heap) (Aof ad N)
abbrev rmX (fr lo : Nat) : Room := { frames := fr, cells := 0, slots := 0, locals := lo }
/-- what a method's body may use -/
def Cx (κ : Kp) (own : String) (cc : ByteArray) (nL : Nat) (p : Program) (s : State) (m : MethodId) (args : Array Value) (c : Code) : Prop :=
  p.tables.exec = Jvm.exec ∧ c.code = cc ∧ c.maxLocals = nL ∧ s.vm.findClass own = some m.cls ∧ (∀ w ∈ TB, w.before args s = true) ∧ Ev κ s
theorem blindX {κ : Kp} {cf : cfT} {N : Nat} {ad : Nat → Nat} {σ : Mm} {av : List Value} : FrameBlind (PcX κ cf N ad σ av) := by
  intro a U g mk q
  obtain ⟨q0, q1, q2⟩ := q
  exact ⟨q0, q1, q2.calling⟩
set_option maxHeartbeats 4000000 in
theorem mkI {l : Launch} {y : MethodName} {cc : ByteArray} {nL fr lo : Nat} {κ : Kp} {cf : cfT} {N : Nat} {ad : Nat → Nat} {σ σ' : Mm} {r : Int32} {av : List Value} (hy : plainName y.cls = true) (hlen : (lg_sl av).length ≤ nL)
    (body : ∀ (p : Program) (e : Env) (R : Room) (s : State) (m : MethodId) (args : Array Value) (below : List Frame) (meth : Method) (c : Code) (Q : State → Prop) (H : Heap) (locs : List Loc) (ls : Array Slot), Cx κ y.cls cc nL p s m args c → fr ≤ R.frames → lo ≤ R.locals → Ho κ cf N ad σ H → va_S (Aof ad N) s.heap H locs →
      (∀ (pc : Nat) (H : Heap) (locs : List Loc) (ls : Array Slot), decode cc pc = .ok (.ireturn, 1) → Ho κ cf N ad σ' H → va_S (Aof ad N) s.heap H locs → W p l e R s m args below meth c H locs 0 0 Q (F0 m pc ls [.int r])) →
      lv_has ls nL (lv_args 0 av) → W p l e R s m args below meth c H locs 0 0 Q (F0 m 0 ls [])) :
    Met l y (Cond.code y cc nL (some .int) :: TB) (rmX fr lo) (PcX κ cf N ad σ av) (QI κ cf N ad σ' r) 0 0 (Aof ad N) := by
  refine Met.ofW (cc := cc) (maxL := nL) (ret := some .int) hy rfl ?_
  intro p e s m args below meth c s₁ B hml hv
  obtain ⟨rfl, hP, hE⟩ := hv
  have hts := atoms_spec (ws := Cond.code y cc nL (some .int) :: TB) B.pre
  have hlocks := B.notSynchronized
  rw [lg_entry_eq]
  refine body p e _ s m _ below meth c _ _ _ _ ⟨B.exec, B.bytes, hml, findClass_of_methodNamed B.named, fun w h => hts w (List.mem_cons_of_mem _ h), hE⟩ (Nat.le_refl _) (Nat.le_refl _) hP va_S.rf (fun pc H locs ls hd hP hS => ?_) (lv_entry av hlen)
  exact W.iret B.exec B.bytes B.returns (fun t ht hW => ⟨⟨r, (), rfl, rfl, by show Ho κ cf N ad σ' t.heap; rw [ht]; exact hP⟩, hS.F ht⟩) hS.2.2 hd
set_option maxHeartbeats 4000000 in
theorem mkZ {l : Launch} {y : MethodName} {cc : ByteArray} {nL fr lo : Nat} {κ : Kp} {cf : cfT} {N : Nat} {ad : Nat → Nat} {σ σ' : Mm} {r : Int32} {av : List Value} (hy : plainName y.cls = true) (hlen : (lg_sl av).length ≤ nL)
    (body : ∀ (p : Program) (e : Env) (R : Room) (s : State) (m : MethodId) (args : Array Value) (below : List Frame) (meth : Method) (c : Code) (Q : State → Prop) (H : Heap) (locs : List Loc) (ls : Array Slot), Cx κ y.cls cc nL p s m args c → fr ≤ R.frames → lo ≤ R.locals → Ho κ cf N ad σ H → va_S (Aof ad N) s.heap H locs →
      (∀ (pc : Nat) (H : Heap) (locs : List Loc) (ls : Array Slot), decode cc pc = .ok (.ireturn, 1) → (r = 0 ∨ r = 1) → Ho κ cf N ad σ' H → va_S (Aof ad N) s.heap H locs → W p l e R s m args below meth c H locs 0 0 Q (F0 m pc ls [.int r])) →
      lv_has ls nL (lv_args 0 av) → W p l e R s m args below meth c H locs 0 0 Q (F0 m 0 ls [])) :
    Met l y (Cond.code y cc nL (some .boolean) :: TB) (rmX fr lo) (PcX κ cf N ad σ av) (QI κ cf N ad σ' r) 0 0 (Aof ad N) := by
  refine Met.ofW (cc := cc) (maxL := nL) (ret := some .boolean) hy rfl ?_
  intro p e s m args below meth c s₁ B hml hv
  obtain ⟨rfl, hP, hE⟩ := hv
  have hts := atoms_spec (ws := Cond.code y cc nL (some .boolean) :: TB) B.pre
  have hlocks := B.notSynchronized
  rw [lg_entry_eq]
  refine body p e _ s m _ below meth c _ _ _ _ ⟨B.exec, B.bytes, hml, findClass_of_methodNamed B.named, fun w h => hts w (List.mem_cons_of_mem _ h), hE⟩ (Nat.le_refl _) (Nat.le_refl _) hP va_S.rf (fun pc H locs ls hd hr hP hS => ?_) (lv_entry av hlen)
  exact W.zret (ty := .boolean) B.exec B.bytes B.returns (by rcases hr with rfl | rfl <;> rfl) (fun t ht hW => ⟨⟨r, (), rfl, rfl, by show Ho κ cf N ad σ' t.heap; rw [ht]; exact hP⟩, hS.F ht⟩) hS.2.2 hd
set_option maxHeartbeats 4000000 in
theorem mkV {l : Launch} {y : MethodName} {cc : ByteArray} {nL fr lo : Nat} {κ : Kp} {cf : cfT} {N : Nat} {ad : Nat → Nat} {σ σ' : Mm} {av : List Value} (hy : plainName y.cls = true) (hlen : (lg_sl av).length ≤ nL)
    (body : ∀ (p : Program) (e : Env) (R : Room) (s : State) (m : MethodId) (args : Array Value) (below : List Frame) (meth : Method) (c : Code) (Q : State → Prop) (H : Heap) (locs : List Loc) (ls : Array Slot), Cx κ y.cls cc nL p s m args c → fr ≤ R.frames → lo ≤ R.locals → Ho κ cf N ad σ H → va_S (Aof ad N) s.heap H locs →
      (∀ (pc : Nat) (H : Heap) (locs : List Loc) (ls : Array Slot), decode cc pc = .ok (.return_, 1) → Ho κ cf N ad σ' H → va_S (Aof ad N) s.heap H locs → W p l e R s m args below meth c H locs 0 0 Q (F0 m pc ls [])) →
      lv_has ls nL (lv_args 0 av) → W p l e R s m args below meth c H locs 0 0 Q (F0 m 0 ls [])) :
    Met l y (Cond.code y cc nL none :: TB) (rmX fr lo) (PcX κ cf N ad σ av) (QV κ cf N ad σ') 0 0 (Aof ad N) := by
  refine Met.ofW (cc := cc) (maxL := nL) (ret := none) hy rfl ?_
  intro p e s m args below meth c s₁ B hml hv
  obtain ⟨rfl, hP, hE⟩ := hv
  have hts := atoms_spec (ws := Cond.code y cc nL none :: TB) B.pre
  have hlocks := B.notSynchronized
  rw [lg_entry_eq]
  refine body p e _ s m _ below meth c _ _ _ _ ⟨B.exec, B.bytes, hml, findClass_of_methodNamed B.named, fun w h => hts w (List.mem_cons_of_mem _ h), hE⟩ (Nat.le_refl _) (Nat.le_refl _) hP va_S.rf (fun pc H locs ls hd hP hS => ?_) (lv_entry av hlen)
  exact W.vret B.exec B.bytes B.returns (fun t ht hW => ⟨⟨(), rfl, trivial, by show Ho κ cf N ad σ' t.heap; rw [ht]; exact hP⟩, hS.F ht⟩) hS.2.2 hd
section XR
variable {p : Program} {l : Launch} {e : Env} {R : Room} {s : State} {m : MethodId} {args : Array Value} {below : List Frame} {meth : Method} {c : Code} {H : Heap} {locs : List Loc} {cells slots : Nat} {Q : State → Prop}
variable {cc : ByteArray} {pc : Nat} {ls : Array Slot} {rest : List Value} {κ : Kp} {cf : cfT} {N : Nat} {ad : Nat → Nat} {σ σ' : Mm} {A : Nat → Prop} {H0 : Heap} {own : String}
theorem x_get (hx : p.tables.exec = Jvm.exec) (hb : c.code = cc) (hts : ∀ w ∈ TB, w.before args s = true) (hown : s.vm.findClass own = some m.cls) (hE : Ev κ s) (hP : Ho κ cf N ad σ H) {C : String} {T : u_T} {M k ci idx : Nat} (hF : FL own idx C T M k ci) {q : Nat} (hq : q < N) {v : Value} (hg : ∃ fs, cf ad q (σ q) = .inr (ci, fs) ∧ fs[k]? = some v) (hd : decode cc pc = .ok (.getfield idx, 3))
    (kk : W p l e R s m args below meth c H locs cells slots Q (F0 m (pc + 3) ls (v :: rest))) : W p l e R s m args below meth c H locs cells slots Q (F0 m pc ls (.ref (ad q) :: rest)) := by
  obtain ⟨hl, hk, hc, hin⟩ := hF
  obtain ⟨fs, h1, h2⟩ := hg
  exact va_get hx hb hts hin hown hE.1 hP q (by rw [wl_at hq, h1]) hc k hk (hts _ hl) (fun _ h => h) h2 hd kk
/-- a reference that the memory names by its cell -/
theorem x_getr (hx : p.tables.exec = Jvm.exec) (hb : c.code = cc) (hts : ∀ w ∈ TB, w.before args s = true) (hown : s.vm.findClass own = some m.cls) (hE : Ev κ s) (hP : Ho κ cf N ad σ H) {C : String} {T : u_T} {M k ci idx : Nat} (hF : FL own idx C T M k ci) {q q' : Nat} {u : Unit} (hq : q < N) (hg : ∃ fs, cf ad q (σ q) = .inr (ci, fs) ∧ fs[k]? = some (.ref (ad (σ q k).toNatClampNeg))) (hv : gq (σ q k) q' = some u) (hd : decode cc pc = .ok (.getfield idx, 3))
    (kk : W p l e R s m args below meth c H locs cells slots Q (F0 m (pc + 3) ls (.ref (ad q') :: rest))) : W p l e R s m args below meth c H locs cells slots Q (F0 m pc ls (.ref (ad q) :: rest)) := by
  refine x_get hx hb hts hown hE hP hF hq hg hd ?_
  rw [gq_some hv]
  exact kk
theorem x_put (hx : p.tables.exec = Jvm.exec) (hb : c.code = cc) (hts : ∀ w ∈ TB, w.before args s = true) (hown : s.vm.findClass own = some m.cls) (hE : Ev κ s) (hD : Apt ad N) (hA : ∀ k, k < N → A (ad k)) (hP : Ho κ cf N ad σ H) (hS : va_S A H0 H locs) {C : String} {T : u_T} {M k ci idx : Nat} {ty : Nat → FieldType} (hF : FP own idx C T M k ci ty) {q : Nat} (hq : q < N) {x : Int32} {v : Value} (hg : ∃ fs, cf ad q (σ q) = .inr (ci, fs) ∧ k < fs.length ∧ cf ad q (upd (σ q) k x) = .inr (ci, fs.set k v)) (hn : narrow (ty k) v = v) (hft : fits (ty k) v = true) (hv : pt σ q k x = some σ') (hd : decode cc pc = .ok (.putfield idx, 3))
    (kk : ∀ (H : Heap) (locs : List Loc), Ho κ cf N ad σ' H → va_S A H0 H locs → W p l e R s m args below meth c H locs cells slots Q (F0 m (pc + 3) ls rest)) : W p l e R s m args below meth c H locs cells slots Q (F0 m pc ls (v :: .ref (ad q) :: rest)) := by
  obtain ⟨⟨hl, hk, hc, hin⟩, hty, hnm, hfin⟩ := hF
  obtain ⟨fs, h1, h2, h3⟩ := hg
  refine va_put hx hb hts hin ty hty hnm hown hE.1 hP (wl_D hD hA) hS q (by rw [wl_at hq, h1]) hc k hk (hts _ hl) (fun _ h => h) hfin (hty k hk) hn hft h2 hd (fun H1 locs1 hP1 _ hS1 => kk H1 locs1 ?_ hS1)
  have h4 : σ' = st σ q k x := (Option.some.inj hv).symm
  unfold Ho
  rw [← wl_set (σ := σ) (σ' := σ') hq (e := .inr (ci, fs.set k v)) (by rw [h4, ← h3]; simp [st]) (fun a ha => by rw [h4]; simp [st, ha])]
  exact hP1
theorem x_iald (hx : p.tables.exec = Jvm.exec) (hb : c.code = cc) (hE : Ev κ s) (hP : Ho κ cf N ad σ H) {q n : Nat} (hq : q < N) (hc : cf ad q (σ q) = .inl (κ.2.1, n, .inl (σ q))) {i v : Int32} (hv : rd σ q n i = some v) (hd : decode cc pc = .ok (.iaload, 1))
    (kk : W p l e R s m args below meth c H locs cells slots Q (F0 m (pc + 1) ls (.int v :: rest))) : W p l e R s m args below meth c H locs cells slots Q (F0 m pc ls (.int i :: .ref (ad q) :: rest)) := by
  obtain ⟨h1, h2⟩ := rd_some hv
  subst h2
  exact va_iald hx hb hE.1 hP q 0 (by rw [wl_at hq, hc]) rfl h1 hd kk
theorem x_cald (hx : p.tables.exec = Jvm.exec) (hb : c.code = cc) (hE : Ev κ s) (hP : Ho κ cf N ad σ H) {q n : Nat} (hq : q < N) (hc : cf ad q (σ q) = .inl (κ.2.2.1, n, .inl (σ q))) {i v : Int32} (hv : rd σ q n i = some v) (hd : decode cc pc = .ok (.caload, 1))
    (kk : W p l e R s m args below meth c H locs cells slots Q (F0 m (pc + 1) ls (.int v :: rest))) : W p l e R s m args below meth c H locs cells slots Q (F0 m pc ls (.int i :: .ref (ad q) :: rest)) := by
  obtain ⟨h1, h2⟩ := rd_some hv
  subst h2
  exact va_cald hx hb hE.1 hP q 1 (by rw [wl_at hq, hc]) rfl h1 hd kk
theorem x_bald (hx : p.tables.exec = Jvm.exec) (hb : c.code = cc) (hE : Ev κ s) (hP : Ho κ cf N ad σ H) {q n : Nat} (hq : q < N) (hc : cf ad q (σ q) = .inl (κ.2.2.2, n, .inl (σ q))) {i v : Int32} (hv : rd σ q n i = some v) (hd : decode cc pc = .ok (.baload, 1))
    (kk : W p l e R s m args below meth c H locs cells slots Q (F0 m (pc + 1) ls (.int v :: rest))) : W p l e R s m args below meth c H locs cells slots Q (F0 m pc ls (.int i :: .ref (ad q) :: rest)) := by
  obtain ⟨h1, h2⟩ := rd_some hv
  subst h2
  exact va_bald hx hb hE.1 hP q 2 (by rw [wl_at hq, hc]) rfl h1 hd kk
theorem x_iast (hx : p.tables.exec = Jvm.exec) (hb : c.code = cc) (hE : Ev κ s) (hD : Apt ad N) (hA : ∀ k, k < N → A (ad k)) (hP : Ho κ cf N ad σ H) (hS : va_S A H0 H locs) {q n : Nat} (hq : q < N) (hc : ∀ f, cf ad q f = .inl (κ.2.1, n, .inl f)) {i x : Int32} (hv : wr σ q n i x = some σ') (hd : decode cc pc = .ok (.iastore, 1))
    (kk : ∀ (H : Heap) (locs : List Loc), Ho κ cf N ad σ' H → va_S A H0 H locs → W p l e R s m args below meth c H locs cells slots Q (F0 m (pc + 1) ls rest)) : W p l e R s m args below meth c H locs cells slots Q (F0 m pc ls (.int x :: .int i :: .ref (ad q) :: rest)) := by
  obtain ⟨h1, h2⟩ := wr_some hv
  refine va_iast hx hb hE.1 hP (wl_D hD hA) hS q 0 (by rw [wl_at hq, hc]) rfl h1 hd (fun H1 locs1 hP1 _ hS1 => kk H1 locs1 ?_ hS1)
  unfold Ho
  rw [← wl_set (σ := σ) (σ' := σ') hq (e := .inl (κ.2.1, n, .inl (upd (σ q) i.toNatClampNeg x))) (by rw [hc, ← h2]; simp [st]) (fun a ha => by rw [← h2]; simp [st, ha])]
  exact hP1
theorem x_cast (hx : p.tables.exec = Jvm.exec) (hb : c.code = cc) (hE : Ev κ s) (hD : Apt ad N) (hA : ∀ k, k < N → A (ad k)) (hP : Ho κ cf N ad σ H) (hS : va_S A H0 H locs) {q n : Nat} (hq : q < N) (hc : ∀ f, cf ad q f = .inl (κ.2.2.1, n, .inl f)) {i x : Int32} (hnr : vp_nar .char x = x) (hv : wr σ q n i x = some σ') (hd : decode cc pc = .ok (.castore, 1))
    (kk : ∀ (H : Heap) (locs : List Loc), Ho κ cf N ad σ' H → va_S A H0 H locs → W p l e R s m args below meth c H locs cells slots Q (F0 m (pc + 1) ls rest)) : W p l e R s m args below meth c H locs cells slots Q (F0 m pc ls (.int x :: .int i :: .ref (ad q) :: rest)) := by
  obtain ⟨h1, h2⟩ := wr_some hv
  refine va_cast hx hb hE.1 hP (wl_D hD hA) hS q 1 (by rw [wl_at hq, hc]) rfl h1 hd (fun H1 locs1 hP1 _ hS1 => kk H1 locs1 ?_ hS1)
  unfold Ho
  rw [hnr] at hP1
  rw [← wl_set (σ := σ) (σ' := σ') hq (e := .inl (κ.2.2.1, n, .inl (upd (σ q) i.toNatClampNeg x))) (by rw [hc, ← h2]; simp [st]) (fun a ha => by rw [← h2]; simp [st, ha])]
  exact hP1
theorem x_bast (hx : p.tables.exec = Jvm.exec) (hb : c.code = cc) (hE : Ev κ s) (hD : Apt ad N) (hA : ∀ k, k < N → A (ad k)) (hP : Ho κ cf N ad σ H) (hS : va_S A H0 H locs) {q n : Nat} (hq : q < N) (hc : ∀ f, cf ad q f = .inl (κ.2.2.2, n, .inl f)) {i x : Int32} (hnr : vp_nar .byte x = x) (hv : wr σ q n i x = some σ') (hd : decode cc pc = .ok (.bastore, 1))
    (kk : ∀ (H : Heap) (locs : List Loc), Ho κ cf N ad σ' H → va_S A H0 H locs → W p l e R s m args below meth c H locs cells slots Q (F0 m (pc + 1) ls rest)) : W p l e R s m args below meth c H locs cells slots Q (F0 m pc ls (.int x :: .int i :: .ref (ad q) :: rest)) := by
  obtain ⟨h1, h2⟩ := wr_some hv
  refine va_bast hx hb hE.1 hP (wl_D hD hA) hS q 2 (by rw [wl_at hq, hc]) rfl h1 hd (fun H1 locs1 hP1 _ hS1 => kk H1 locs1 ?_ hS1)
  unfold Ho
  rw [hnr] at hP1
  rw [← wl_set (σ := σ) (σ' := σ') hq (e := .inl (κ.2.2.2, n, .inl (upd (σ q) i.toNatClampNeg x))) (by rw [hc, ← h2]; simp [st]) (fun a ha => by rw [← h2]; simp [st, ha])]
  exact hP1
/-- System.arraycopy over ints -/
def LC (own : String) (idx : Nat) : Prop := Cond.methodLink own idx arraycopyName ∈ TB ∧ Cond.native arraycopyName ∈ TB ∧ Cond.static arraycopyName ∈ TB ∧ Cond.initialized "java/lang/System" ∈ TB
theorem x_copy (hx : p.tables.exec = Jvm.exec) (hb : c.code = cc) (hml : c.maxLocals = ls.size) (hts : ∀ w ∈ TB, w.before args s = true) (hown : s.vm.findClass own = some m.cls) (hE : Ev κ s) (hD : Apt ad N) (hA : ∀ k, k < N → A (ad k)) (hP : Ho κ cf N ad σ H) (hS : va_S A H0 H locs) {idx : Nat} (hL : LC own idx) {q0 q1 n0 n1 : Nat} (hq0 : q0 < N) (hq1 : q1 < N) (hc0 : ∀ f, cf ad q0 f = .inl (κ.2.1, n0, .inl f)) (hc1 : ∀ f, cf ad q1 f = .inl (κ.2.1, n1, .inl f)) {sp dp n : Int32} (hv : cy σ q0 n0 sp q1 n1 dp n = some σ') (hfr : 1 ≤ R.frames) (hlo : (rest.map fun v => v.category).sum + (nativeFrameWords "java/lang/System" "arraycopy" 5 + 11) ≤ R.locals) (hd : decode cc pc = .ok (.invokestatic idx, 3))
    (kk : ∀ (H : Heap) (locs : List Loc), Ho κ cf N ad σ' H → va_S A H0 H locs → W p l e R s m args below meth c H locs cells slots Q (F0 m (pc + 3) ls rest)) : W p l e R s m args below meth c H locs cells slots Q (F0 m pc ls (.int n :: .int dp :: .ref (ad q1) :: .int sp :: .ref (ad q0) :: rest)) := by
  obtain ⟨⟨h1, h2, h3, h4, h5⟩, h6⟩ := cy_some hv
  refine va_copyi hx hb hml hown (hts _ hL.1) (hts _ hL.2.1) (hts _ hL.2.2.1) (hts _ hL.2.2.2) hE.1 hP (wl_D hD hA) hS q0 q1 0 0 (by rw [wl_at hq0, hc0]) (by rw [wl_at hq1, hc1]) rfl rfl rfl h1 h2 h3 h4 h5 (fun _ _ => rfl) hfr hlo hd (fun H1 locs1 hP1 _ hS1 => kk H1 locs1 ?_ hS1)
  unfold Ho
  rw [← wl_set (σ := σ) (σ' := σ') hq1 (e := .inl (κ.2.1, n1, .inl (va_cpy (σ q0) (σ q1) sp.toNatClampNeg dp.toNatClampNeg n.toNatClampNeg))) (by rw [hc1, ← h6]; simp [cp]) (fun a ha => by rw [← h6]; simp [cp, ha])]
  exact hP1
/-- Math.min, max, abs -/
def LM (own : String) (idx : Nat) (x : MethodName) (code : ByteArray) (n : Nat) : Prop := Cond.methodLink own idx x ∈ TB ∧ Cond.static x ∈ TB ∧ Cond.initialized "java/lang/Math" ∈ TB ∧ Cond.code x code n (some .int) ∈ TB
theorem x_min (hx : p.tables.exec = Jvm.exec) (hb : c.code = cc) (hml : c.maxLocals = ls.size) (hts : ∀ w ∈ TB, w.before args s = true) (hown : s.vm.findClass own = some m.cls) {idx : Nat} (hL : LM own idx Lib.Math.min.name Lib.Math.min.code 2) (hfr : 1 ≤ R.frames) (hlo : (rest.map fun v => v.category).sum + 13 ≤ R.locals) (hc : cells ≤ R.cells) (hs : slots ≤ R.slots) {x y : Int32} (hd : decode cc pc = .ok (.invokestatic idx, 3))
    (kk : W p l e R s m args below meth c H locs cells slots Q (F0 m (pc + 3) ls (.int (if y < x then y else x) :: rest))) : W p l e R s m args below meth c H locs cells slots Q (F0 m pc ls (.int y :: .int x :: rest)) :=
  va_mmin hx hb hml hown (hts _ hL.1) (hts _ hL.2.1) (hts _ hL.2.2.1) (hts _ hL.2.2.2) hfr hlo hc hs hd kk
theorem x_abs (hx : p.tables.exec = Jvm.exec) (hb : c.code = cc) (hml : c.maxLocals = ls.size) (hts : ∀ w ∈ TB, w.before args s = true) (hown : s.vm.findClass own = some m.cls) {idx : Nat} (hL : LM own idx Lib.Math.abs.name Lib.Math.abs.code 1) (hfr : 1 ≤ R.frames) (hlo : (rest.map fun v => v.category).sum + 13 ≤ R.locals) (hc : cells ≤ R.cells) (hs : slots ≤ R.slots) {x : Int32} (hd : decode cc pc = .ok (.invokestatic idx, 3))
    (kk : W p l e R s m args below meth c H locs cells slots Q (F0 m (pc + 3) ls (.int (if 0 ≤ x then x else 0 - x) :: rest))) : W p l e R s m args below meth c H locs cells slots Q (F0 m pc ls (.int x :: rest)) :=
  va_mabs hx hb hml hown (hts _ hL.1) (hts _ hL.2.1) (hts _ hL.2.2.1) (hts _ hL.2.2.2) hfr hlo hc hs hd kk
theorem x_max (hx : p.tables.exec = Jvm.exec) (hb : c.code = cc) (hml : c.maxLocals = ls.size) (hts : ∀ w ∈ TB, w.before args s = true) (hown : s.vm.findClass own = some m.cls) {idx : Nat} (hL : LM own idx Lib.Math.max.name Lib.Math.max.code 2) (hfr : 1 ≤ R.frames) (hlo : (rest.map fun v => v.category).sum + 13 ≤ R.locals) (hc : cells ≤ R.cells) (hs : slots ≤ R.slots) {x y : Int32} (hd : decode cc pc = .ok (.invokestatic idx, 3))
    (kk : W p l e R s m args below meth c H locs cells slots Q (F0 m (pc + 3) ls (.int (if x < y then y else x) :: rest))) : W p l e R s m args below meth c H locs cells slots Q (F0 m pc ls (.int y :: .int x :: rest)) :=
  va_mmax hx hb hml hown (hts _ hL.1) (hts _ hL.2.1) (hts _ hL.2.2.1) (hts _ hL.2.2.2) hfr hlo hc hs hd kk
/-- what the tables say of a call -/
def CL (own : String) (idx : Nat) (y : MethodName) (bytes : ByteArray) (nL : Nat) (ret : Option FieldType) (n : Nat) : Prop :=
  Cond.methodLink own idx y ∈ TB ∧ Cond.code y bytes nL ret ∈ TB ∧ Cond.initialized y.cls ∈ TB ∧ (y.cls ≠ "java/lang/invoke/MethodHandle" ∧ y.cls ≠ "java/lang/invoke/VarHandle") ∧ (parseMethodDescriptor y.desc).map (fun d => d.parameters.length) = some n
def CV (own : String) (idx : Nat) (y : MethodName) (bytes : ByteArray) (nL : Nat) (ret : Option FieldType) (n : Nat) : Prop := CL own idx y bytes nL ret n ∧ Cond.instanceMethod y ∈ TB ∧ Cond.selects y.cls y y ∈ TB
def CS (own : String) (idx : Nat) (y : MethodName) (bytes : ByteArray) (nL : Nat) (ret : Option FieldType) (n : Nat) : Prop := CL own idx y bytes nL ret n ∧ Cond.static y ∈ TB
def CN (y : MethodName) (bytes : ByteArray) (nL : Nat) (ret : Option FieldType) (n : Nat) : Prop :=
  Cond.code y bytes nL ret ∈ TB ∧ Cond.initialized y.cls ∈ TB ∧ (y.cls ≠ "java/lang/invoke/MethodHandle" ∧ y.cls ≠ "java/lang/invoke/VarHandle") ∧ (parseMethodDescriptor y.desc).map (fun d => d.parameters.length) = some n ∧ Cond.static y ∈ TB
theorem desc_len {y : MethodName} {n : Nat} (h : (parseMethodDescriptor y.desc).map (fun d => d.parameters.length) = some n) : ∀ sig, parseMethodDescriptor y.desc = some sig → n = sig.parameters.length := by
  intro sig hs
  rw [hs] at h
  exact (Option.some.inj h).symm
theorem CL.b {own : String} {idx : Nat} {y : MethodName} {bytes : ByteArray} {nL n fr lo : Nat} {ret : Option FieldType} {R : Room} {s : State} {args : Array Value} (h : CL own idx y bytes nL ret n) (hts : ∀ w ∈ TB, w.before args s = true) (hfr : fr + 1 ≤ R.frames) (hlo : 8 + (nL + 11) + lo ≤ R.locals) : CallB R s args own idx y bytes nL ret (Cond.code y bytes nL ret :: TB) (rmX fr lo) 0 0 n :=
  ⟨rfl, rfl, hfr, hlo, TB_pay hts h.2.1, List.mem_cons_self, hts _ h.2.1, hts _ h.2.2.1, h.2.2.2.1, desc_len h.2.2.2.2, hts _ h.1⟩
theorem x_cVi {y : MethodName} {bytes : ByteArray} {nL0 nL fr lo idx n : Nat} {ret : Option FieldType} {As st0 : List Value} {r : Int32} {q ci M : Nat} {T : u_T} (hx : p.tables.exec = Jvm.exec) (hb : c.code = cc) (hml : c.maxLocals = nL0) (hts : ∀ w ∈ TB, w.before args s = true) (hown : s.vm.findClass own = some m.cls) (hE : Ev κ s) (hP : Ho κ cf N ad σ H) (hS : va_S A H0 H locs) (hAA : ∀ z, Aof ad N z → A z) (hM : Met l y (Cond.code y bytes nL ret :: TB) (rmX fr lo) (PcX κ cf N ad σ (.ref (ad q) :: As)) (QI κ cf N ad σ' r) 0 0 (Aof ad N)) (hL : CV own idx y bytes nL ret n) (hq : q < N) (hg : ∃ fs, cf ad q (σ q) = .inr (ci, fs)) (hci : vwCl[ci]? = some (y.cls, T, M)) (hfr : fr + 1 ≤ R.frames) (hlo : 8 + (nL + 11) + lo ≤ R.locals) (hc : cells ≤ R.cells) (hs : slots ≤ R.slots) (hn : As.length = n) (hsz : ls.size = nL0) (hst : st0 = As.reverse ++ .ref (ad q) :: rest) (hr : (rest.map fun v => v.category).sum ≤ 8) (hd : decode cc pc = .ok (.invokevirtual idx, 3))
    (kk : ∀ (H : Heap) (locs : List Loc), Ho κ cf N ad σ' H → va_S A H0 H locs → W p l e R s m args below meth c H locs cells slots Q (F0 m (pc + 3) ls (.int r :: rest))) : W p l e R s m args below meth c H locs cells slots Q (F0 m pc ls st0) := by
  subst hst
  obtain ⟨fs, hfs⟩ := hg
  refine va_calli (va_runV (As := As) (rest := rest) ⟨hx, hb, hml, hown, hts⟩ hM ⟨hL.1.b hts hfr hlo, hts _ hL.2.1, hts _ hL.2.2⟩ ⟨blindX, va_recv hE.1 hP hci (q0 := q) (by rw [wl_at hq, hfs]), fun U hU hW => ⟨rfl, by rw [hU]; exact hP, hE.warm hW⟩⟩ rfl hn hsz rfl (lv_room hr) hd ⟨hc, hs⟩) hS (fun z _ h => hAA z h) hAA (fun r' u t H1 locs1 ht hvm hw hB hz hk hS1 => ?_)
  subst hw
  refine kk H1 locs1 ?_ hS1
  have hB2 : Ho κ cf N ad σ' t.heap := hB
  rwa [ht] at hB2
theorem x_cVv {y : MethodName} {bytes : ByteArray} {nL0 nL fr lo idx n : Nat} {ret : Option FieldType} {As st0 : List Value} {q ci M : Nat} {T : u_T} (hx : p.tables.exec = Jvm.exec) (hb : c.code = cc) (hml : c.maxLocals = nL0) (hts : ∀ w ∈ TB, w.before args s = true) (hown : s.vm.findClass own = some m.cls) (hE : Ev κ s) (hP : Ho κ cf N ad σ H) (hS : va_S A H0 H locs) (hAA : ∀ z, Aof ad N z → A z) (hM : Met l y (Cond.code y bytes nL ret :: TB) (rmX fr lo) (PcX κ cf N ad σ (.ref (ad q) :: As)) (QV κ cf N ad σ') 0 0 (Aof ad N)) (hL : CV own idx y bytes nL ret n) (hq : q < N) (hg : ∃ fs, cf ad q (σ q) = .inr (ci, fs)) (hci : vwCl[ci]? = some (y.cls, T, M)) (hfr : fr + 1 ≤ R.frames) (hlo : 8 + (nL + 11) + lo ≤ R.locals) (hc : cells ≤ R.cells) (hs : slots ≤ R.slots) (hn : As.length = n) (hsz : ls.size = nL0) (hst : st0 = As.reverse ++ .ref (ad q) :: rest) (hr : (rest.map fun v => v.category).sum ≤ 8) (hd : decode cc pc = .ok (.invokevirtual idx, 3))
    (kk : ∀ (H : Heap) (locs : List Loc), Ho κ cf N ad σ' H → va_S A H0 H locs → W p l e R s m args below meth c H locs cells slots Q (F0 m (pc + 3) ls rest)) : W p l e R s m args below meth c H locs cells slots Q (F0 m pc ls st0) := by
  subst hst
  obtain ⟨fs, hfs⟩ := hg
  refine va_callv (va_runV (As := As) (rest := rest) ⟨hx, hb, hml, hown, hts⟩ hM ⟨hL.1.b hts hfr hlo, hts _ hL.2.1, hts _ hL.2.2⟩ ⟨blindX, va_recv hE.1 hP hci (q0 := q) (by rw [wl_at hq, hfs]), fun U hU hW => ⟨rfl, by rw [hU]; exact hP, hE.warm hW⟩⟩ rfl hn hsz rfl (lv_room hr) hd ⟨hc, hs⟩) hS (fun z _ h => hAA z h) hAA (fun u t H1 locs1 ht hvm hw hB hz hk hS1 => ?_)
  refine kk H1 locs1 ?_ hS1
  have hB2 : Ho κ cf N ad σ' t.heap := hB
  rwa [ht] at hB2
theorem x_cSi {y : MethodName} {bytes : ByteArray} {nL0 nL fr lo idx n : Nat} {ret : Option FieldType} {As st0 : List Value} {r : Int32} (hx : p.tables.exec = Jvm.exec) (hb : c.code = cc) (hml : c.maxLocals = nL0) (hts : ∀ w ∈ TB, w.before args s = true) (hown : s.vm.findClass own = some m.cls) (hE : Ev κ s) (hP : Ho κ cf N ad σ H) (hS : va_S A H0 H locs) (hAA : ∀ z, Aof ad N z → A z) (hM : Met l y (Cond.code y bytes nL ret :: TB) (rmX fr lo) (PcX κ cf N ad σ As) (QI κ cf N ad σ' r) 0 0 (Aof ad N)) (hL : CS own idx y bytes nL ret n) (hfr : fr + 1 ≤ R.frames) (hlo : 8 + (nL + 11) + lo ≤ R.locals) (hc : cells ≤ R.cells) (hs : slots ≤ R.slots) (hn : As.length = n) (hsz : ls.size = nL0) (hst : st0 = As.reverse ++ rest) (hr : (rest.map fun v => v.category).sum ≤ 8) (hd : decode cc pc = .ok (.invokestatic idx, 3))
    (kk : ∀ (H : Heap) (locs : List Loc), Ho κ cf N ad σ' H → va_S A H0 H locs → W p l e R s m args below meth c H locs cells slots Q (F0 m (pc + 3) ls (.int r :: rest))) : W p l e R s m args below meth c H locs cells slots Q (F0 m pc ls st0) := by
  subst hst
  refine va_calli (va_runS (As := As) (rest := rest) ⟨hx, hb, hml, hown, hts⟩ hM ⟨hL.1.b hts hfr hlo, hts _ hL.2⟩ ⟨blindX, fun U hU hW => ⟨rfl, by rw [hU]; exact hP, hE.warm hW⟩⟩ rfl hn hsz rfl (lv_room hr) hd ⟨hc, hs⟩) hS (fun z _ h => hAA z h) hAA (fun r' u t H1 locs1 ht hvm hw hB hz hk hS1 => ?_)
  subst hw
  refine kk H1 locs1 ?_ hS1
  have hB2 : Ho κ cf N ad σ' t.heap := hB
  rwa [ht] at hB2
theorem x_cNi {y : MethodName} {bytes : ByteArray} {nL0 nL fr lo idx n : Nat} {ret : Option FieldType} {As st0 : List Value} {r : Int32} {host : String} (hx : p.tables.exec = Jvm.exec) (hb : c.code = cc) (hml : c.maxLocals = nL0) (hts : ∀ w ∈ TB, w.before args s = true) (hown : s.vm.findClass own = some m.cls) (hE : Ev κ s) (hP : Ho κ cf N ad σ H) (hS : va_S A H0 H locs) (hAA : ∀ z, Aof ad N z → A z) (hM : Met l y (Cond.code y bytes nL ret :: TB) (rmX fr lo) (PcX κ cf N ad σ As) (QI κ cf N ad σ' r) 0 0 (Aof ad N)) (hL : CN y bytes nL ret n) (hnest : va_Nw (.methodLinkNest own idx y host) s) (hfr : fr + 1 ≤ R.frames) (hlo : 8 + (nL + 11) + lo ≤ R.locals) (hc : cells ≤ R.cells) (hs : slots ≤ R.slots) (hn : As.length = n) (hsz : ls.size = nL0) (hst : st0 = As.reverse ++ rest) (hr : (rest.map fun v => v.category).sum ≤ 8) (hd : decode cc pc = .ok (.invokestatic idx, 3))
    (kk : ∀ (H : Heap) (locs : List Loc), Ho κ cf N ad σ' H → va_S A H0 H locs → W p l e R s m args below meth c H locs cells slots Q (F0 m (pc + 3) ls (.int r :: rest))) : W p l e R s m args below meth c H locs cells slots Q (F0 m pc ls st0) := by
  subst hst
  refine va_calli (va_runSN (As := As) (rest := rest) ⟨hx, hb, hml, hown, hts⟩ hM ⟨⟨⟨rfl, rfl, hfr, hlo, TB_pay hts hL.1, List.mem_cons_self⟩, hts _ hL.1, hts _ hL.2.1, hL.2.2.1, desc_len hL.2.2.2.1, va_Nw.use rfl hnest⟩, hts _ hL.2.2.2.2, trivial⟩ ⟨blindX, fun U hU hW => ⟨rfl, by rw [hU]; exact hP, hE.warm hW⟩⟩ rfl hn hsz rfl (lv_room hr) hd ⟨hc, hs⟩) hS (fun z _ h => hAA z h) hAA (fun r' u t H1 locs1 ht hvm hw hB hz hk hS1 => ?_)
  subst hw
  refine kk H1 locs1 ?_ hS1
  have hB2 : Ho κ cf N ad σ' t.heap := hB
  rwa [ht] at hB2
end XR
