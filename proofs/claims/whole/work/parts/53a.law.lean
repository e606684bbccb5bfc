/-! the law: two objects, side by side -/
theorem sw_sw (k : Nat) : sw (sw k) = k := by
  unfold sw
  by_cases a : 3 ≤ k ∧ k ≤ 15
  · rw [if_pos a, if_neg (by omega), if_pos (by omega)]
    omega
  · rw [if_neg a]
    by_cases b : 17 ≤ k ∧ k ≤ 29
    · rw [if_pos b, if_pos (by omega)]
      omega
    · rw [if_neg b, if_neg a, if_neg b]
theorem sw_lt {k : Nat} (h : k < 52) : sw k < 52 := by
  unfold sw
  split
  · omega
  · split <;> omega
theorem clamp_lt (x : Int32) : x.toNatClampNeg < 2 ^ 31 := by
  have := (fb_rng x).2
  show x.toInt.toNat < 2 ^ 31
  omega
theorem rl_c {w : Mm} {k j : Nat} (h : (k = 16 ∧ (j = 3 ∨ j = 4)) ∨ (k = 30 ∧ (j = 6 ∨ j = 7))) : sw (rl w k j).toNatClampNeg = (w k j).toNatClampNeg := by
  unfold rl
  rw [if_pos h, nI_clamp, sw_sw]
  have := clamp_lt (w k j)
  unfold sw
  split
  · omega
  · split <;> omega
theorem rl_i {w : Mm} {k j : Nat} (h : ¬ ((k = 16 ∧ (j = 3 ∨ j = 4)) ∨ (k = 30 ∧ (j = 6 ∨ j = 7)))) : rl w k j = w (sw k) j := by
  unfold rl
  rw [if_neg h]
set_option maxRecDepth 100000 in
theorem wX_rl {κ : Kp} {ad : Nat → Nat} {w : Mm} : ∀ k, k < 52 → wX κ 200 (fun k => ad (sw k)) k (rl w k) = wX κ 200 ad (sw k) (w (sw k))
  | 0, _ => by rw [rl_o (by omega) (by omega)]; rfl
  | 1, _ => by rw [rl_o (by omega) (by omega)]; rfl
  | 2, _ => by rw [rl_o (by omega) (by omega)]; rfl
  | 3, _ => by rw [rl_o (by omega) (by omega)]; rfl
  | 4, _ => by rw [rl_o (by omega) (by omega)]; rfl
  | 5, _ => by rw [rl_o (by omega) (by omega)]; rfl
  | 6, _ => by rw [rl_o (by omega) (by omega)]; rfl
  | 7, _ => by rw [rl_o (by omega) (by omega)]; rfl
  | 8, _ => by rw [rl_o (by omega) (by omega)]; rfl
  | 9, _ => by rw [rl_o (by omega) (by omega)]; rfl
  | 10, _ => by rw [rl_o (by omega) (by omega)]; rfl
  | 11, _ => by rw [rl_o (by omega) (by omega)]; rfl
  | 12, _ => by rw [rl_o (by omega) (by omega)]; rfl
  | 13, _ => by rw [rl_o (by omega) (by omega)]; rfl
  | 14, _ => by rw [rl_o (by omega) (by omega)]; rfl
  | 15, _ => by rw [rl_o (by omega) (by omega)]; rfl
  | 16, _ => by
    show Sum.inr (8, [Value.ref (ad 0), .int (rl w 16 1), .ref (ad 1), .ref (ad (sw (rl w 16 3).toNatClampNeg)), .ref (ad (sw (rl w 16 4).toNatClampNeg)), .ref (ad 30), .ref (ad 37), .ref (ad 41), .ref (ad 44), .ref (ad 47), .ref (ad 50)]) = _
    rw [rl_c (by omega), rl_c (by omega), rl_i (by omega)]
    rfl
  | 17, _ => by rw [rl_o (by omega) (by omega)]; rfl
  | 18, _ => by rw [rl_o (by omega) (by omega)]; rfl
  | 19, _ => by rw [rl_o (by omega) (by omega)]; rfl
  | 20, _ => by rw [rl_o (by omega) (by omega)]; rfl
  | 21, _ => by rw [rl_o (by omega) (by omega)]; rfl
  | 22, _ => by rw [rl_o (by omega) (by omega)]; rfl
  | 23, _ => by rw [rl_o (by omega) (by omega)]; rfl
  | 24, _ => by rw [rl_o (by omega) (by omega)]; rfl
  | 25, _ => by rw [rl_o (by omega) (by omega)]; rfl
  | 26, _ => by rw [rl_o (by omega) (by omega)]; rfl
  | 27, _ => by rw [rl_o (by omega) (by omega)]; rfl
  | 28, _ => by rw [rl_o (by omega) (by omega)]; rfl
  | 29, _ => by rw [rl_o (by omega) (by omega)]; rfl
  | 30, _ => by
    show Sum.inr (4, [Value.ref (ad 31), .ref (ad 32), .ref (ad 33), .ref (ad 34), .ref (ad 35), .ref (ad 36), .ref (ad (sw (rl w 30 6).toNatClampNeg)), .ref (ad (sw (rl w 30 7).toNatClampNeg)), .int (rl w 30 8), .int (rl w 30 9), .int (rl w 30 10), .int (rl w 30 11), .int (rl w 30 12), .int (rl w 30 13), .int (rl w 30 14)]) = _
    rw [rl_c (by omega), rl_c (by omega), rl_i (by omega), rl_i (by omega), rl_i (by omega), rl_i (by omega), rl_i (by omega), rl_i (by omega), rl_i (by omega)]
    rfl
  | 31, _ => by rw [rl_o (by omega) (by omega)]; rfl
  | 32, _ => by rw [rl_o (by omega) (by omega)]; rfl
  | 33, _ => by rw [rl_o (by omega) (by omega)]; rfl
  | 34, _ => by rw [rl_o (by omega) (by omega)]; rfl
  | 35, _ => by rw [rl_o (by omega) (by omega)]; rfl
  | 36, _ => by rw [rl_o (by omega) (by omega)]; rfl
  | 37, _ => by rw [rl_o (by omega) (by omega)]; rfl
  | 38, _ => by rw [rl_o (by omega) (by omega)]; rfl
  | 39, _ => by rw [rl_o (by omega) (by omega)]; rfl
  | 40, _ => by rw [rl_o (by omega) (by omega)]; rfl
  | 41, _ => by rw [rl_o (by omega) (by omega)]; rfl
  | 42, _ => by rw [rl_o (by omega) (by omega)]; rfl
  | 43, _ => by rw [rl_o (by omega) (by omega)]; rfl
  | 44, _ => by rw [rl_o (by omega) (by omega)]; rfl
  | 45, _ => by rw [rl_o (by omega) (by omega)]; rfl
  | 46, _ => by rw [rl_o (by omega) (by omega)]; rfl
  | 47, _ => by rw [rl_o (by omega) (by omega)]; rfl
  | 48, _ => by rw [rl_o (by omega) (by omega)]; rfl
  | 49, _ => by rw [rl_o (by omega) (by omega)]; rfl
  | 50, _ => by rw [rl_o (by omega) (by omega)]; rfl
  | 51, _ => by rw [rl_o (by omega) (by omega)]; rfl
  | k + 52, h => by omega
theorem Ho_rl {κ : Kp} {ad : Nat → Nat} {w : Mm} {H : Heap} (h : Ho κ (wX κ 200) 52 ad w H) : Ho κ (wX κ 200) 52 (fun k => ad (sw k)) (rl w) H := by
  intro k q hq
  obtain ⟨h1, h2⟩ := wl_in hq
  subst h2
  rw [wX_rl k h1]
  exact h (sw k) _ (wl_at (sw_lt h1))
theorem Apt_rl {ad : Nat → Nat} (h : Apt ad 52) : Apt (fun k => ad (sw k)) 52 := fun i j hi hj e => by
  have := h (sw i) (sw j) (sw_lt hi) (sw_lt hj) e
  rw [← sw_sw i, ← sw_sw j, this]
/-- both objects in the heap, their memories alike -/
def Wld (κ : Kp) (A : Nat → Prop) (adX adM : Nat → Nat) (σ τ : Mm) (H : Heap) : Prop := (Ho κ (wX κ 200) 52 adX σ H ∧ Ho κ (wM κ) 26 adM τ H) ∧ (Apt adX 52 ∧ Apt adM 26) ∧ ((∀ k, k < 52 → A (adX k)) ∧ ∀ k, k < 26 → A (adM k)) ∧ (∀ i j, i < 52 → j < 26 → adX i ≠ adM j) ∧ Rel σ τ
section LR
variable {p : Program} {l : Launch} {e : Env} {R : Room} {s : State} {m : MethodId} {args : Array Value} {below : List Frame} {meth : Method} {c : Code} {H : Heap} {locs : List Loc} {cells slots : Nat} {Q : State → Prop}
variable {cc : ByteArray} {pc : Nat} {ls : Array Slot} {rest : List Value} {κ : Kp} {A : Nat → Prop} {H0 : Heap} {own : String}
/-- a call of one of two objects: the other stays -/
theorem l_call {y : MethodName} {bytes : ByteArray} {nL0 nL fr lo idx n : Nat} {ret : Option FieldType} {As st0 : List Value} {r : Int32} {q ci M : Nat} {T : u_T} {cf1 cf2 : cfT} {N1 N2 : Nat} {ad1 ad2 : Nat → Nat} {σ σ' τ : Mm} (hx : p.tables.exec = Jvm.exec) (hb : c.code = cc) (hml : c.maxLocals = nL0) (hts : ∀ w ∈ TB, w.before args s = true) (hown : s.vm.findClass own = some m.cls) (hE : Ev κ s) (hP : Ho κ cf1 N1 ad1 σ H) (hP2 : Ho κ cf2 N2 ad2 τ H) (hdis : ∀ i j, i < N1 → j < N2 → ad1 i ≠ ad2 j) (hA1 : ∀ k, k < N1 → A (ad1 k)) (hS : va_S A H0 H locs) (hM : Met l y (Cond.code y bytes nL ret :: TB) (rmX fr lo) (PcX κ cf1 N1 ad1 σ (.ref (ad1 q) :: As)) (QI κ cf1 N1 ad1 σ' r) 0 0 (Aof ad1 N1)) (hL : CV own idx y bytes nL ret n) (hq : q < N1) (hg : ∃ fs, cf1 ad1 q (σ q) = .inr (ci, fs)) (hci : vwCl[ci]? = some (y.cls, T, M)) (hfr : fr + 1 ≤ R.frames) (hlo : 8 + (nL + 11) + lo ≤ R.locals) (hc : cells ≤ R.cells) (hs : slots ≤ R.slots) (hn : As.length = n) (hsz : ls.size = nL0) (hst : st0 = As.reverse ++ .ref (ad1 q) :: rest) (hr : (rest.map fun v => v.category).sum ≤ 8) (hd : decode cc pc = .ok (.invokevirtual idx, 3))
    (kk : ∀ (H : Heap) (locs : List Loc), Ho κ cf1 N1 ad1 σ' H → Ho κ cf2 N2 ad2 τ H → va_S A H0 H locs → W p l e R s m args below meth c H locs cells slots Q (F0 m (pc + 3) ls (.int r :: rest))) : W p l e R s m args below meth c H locs cells slots Q (F0 m pc ls st0) := by
  subst hst
  obtain ⟨fs, hfs⟩ := hg
  have hAA : ∀ z, Aof ad1 N1 z → A z := fun z ⟨k, h1, h2⟩ => by rw [h2]; exact hA1 k h1
  refine va_calli (va_runV (As := As) (rest := rest) ⟨hx, hb, hml, hown, hts⟩ hM ⟨hL.1.b hts hfr hlo, hts _ hL.2.1, hts _ hL.2.2⟩ ⟨blindX, va_recv hE.1 hP hci (q0 := q) (by rw [wl_at hq, hfs]), fun U hU hW => ⟨rfl, by rw [hU]; exact hP, hE.warm hW⟩⟩ rfl hn hsz rfl (lv_room hr) hd ⟨hc, hs⟩) hS (fun z _ h => hAA z h) hAA (fun r' u t H1 locs1 ht hvm hw hB hz hk hS1 => ?_)
  subst hw
  refine kk H1 locs1 ?_ (va_P.kept hP2 (fun k x hx2 => ?_)) hS1
  · have hB2 : Ho κ cf1 N1 ad1 σ' t.heap := hB
    rwa [ht] at hB2
  · obtain ⟨h1, h2⟩ := wl_in hx2
    subst h2
    refine hk _ ((hP2 k _ hx2).lt) (fun ⟨i, i1, i2⟩ => hdis i k i1 h1 i2.symm)
end LR
