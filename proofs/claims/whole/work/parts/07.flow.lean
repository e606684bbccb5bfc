/-- the current of a race: the laid river's (cell 29), or the drawn one (cell 36) -/
def rdF (σ : Mm) (i : Int32) : Option Int32 := if (σ 30 7).toNatClampNeg = 29 ∨ (σ 30 7).toNatClampNeg = 36 then rd σ (σ 30 7).toNatClampNeg 201 i else none
theorem x_fald {p : Program} {l : Launch} {e : Env} {R : Room} {s : State} {m : MethodId} {args : Array Value} {below : List Frame} {meth : Method} {c : Code} {H : Heap} {locs : List Loc} {cells slots : Nat} {Q : State → Prop} {cc : ByteArray} {pc : Nat} {ls : Array Slot} {rest : List Value} {κ : Kp} {tl N : Nat} {ad : Nat → Nat} {σ : Mm}
    (hx : p.tables.exec = Jvm.exec) (hb : c.code = cc) (hE : Ev κ s) (hN : 52 ≤ N) (hP : Ho κ (wX κ tl) N ad σ H) {i v : Int32} (hv : rdF σ i = some v) (hd : decode cc pc = .ok (.iaload, 1))
    (kk : W p l e R s m args below meth c H locs cells slots Q (F0 m (pc + 1) ls (.int v :: rest))) : W p l e R s m args below meth c H locs cells slots Q (F0 m pc ls (.int i :: .ref (ad (σ 30 7).toNatClampNeg) :: rest)) := by
  unfold rdF at hv
  split at hv
  · next h =>
    rcases h with h | h
    · rw [h] at hv ⊢
      exact x_iald hx hb hE hP (nb29 hN) (aX_29 _) hv hd kk
    · rw [h] at hv ⊢
      exact x_iald hx hb hE hP (nb36 hN) (aX_36 _) hv hd kk
  · cases hv
