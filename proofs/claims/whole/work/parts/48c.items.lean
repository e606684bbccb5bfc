/-! one item of a text -/
def Mk (τ τk : Mm) (T : Nat → Nat) (len s k : Nat) (ok : Bool) : Prop := τk 0 18 = nI (ps T len s k) ∧ τk 0 19 = bI ok ∧ (∀ a, a ≠ 0 → τk a = τ a) ∧ ∀ j, j ≠ 18 → j ≠ 19 → τk 0 j = τ 0 j
section IT
variable {w τ τk : Mm} {T : Nat → Nat} {len s k N : Nat} {ok : Bool}
theorem bI_0 : bI ok ≠ 0 ↔ ok = true := by cases ok <;> decide
theorem mstep (h : Tm0 τ T len) (hs : s ≤ 300) (hk : k < 4) (h1 : Mk τ τk T len s k ok) {lo hi sep : Int32} {b : Bool} (hb : fX8_within (nI (nv T len (ps T len s k))) lo hi = some (bI b)) : ∃ τ', fX9_number τk lo hi sep = some (nI (nv T len (ps T len s k)), τ') ∧ Mk τ τ' T len s (k + 1) (ok && (decide (nd T len (ps T len s k) ≠ 0) && (b && decide (hr T len (np T len (ps T len s k)) = sep)))) := by
  obtain ⟨e1, e2, e3, e4⟩ := h1
  have pb := ps_bd T len s k
  obtain ⟨τ', r1, r2, r3, r4, r5⟩ := mnum_spec (sep := sep) (h.kept (e4 1 (by omega) (by omega)) (e3 1 (by omega))) (p := ps T len s k) (by omega) e1 hb
  refine ⟨τ', r1, r2, ?_, fun a q => by rw [r4 a q, e3 a q], fun j q1 q2 => by rw [r5 j q1 q2, e4 j q1 q2]⟩
  rw [r3, e2]
  congr 1
  congr 1
  cases ok <;> decide
theorem win_told {x : Nat} (hx : x < 2 ^ 31) (hN : N ≤ 8) : fX8_within (nI x) 0 (nI N - 1) = some (bI (decide (x < N))) := by
  cases N with
  | zero =>
    rw [decide_eq_false (by omega)]
    unfold fX8_within
    rw [if_neg (nI_pos hx), if_pos]
    · rfl
    · rw [i_lt, nI_toInt hx, show (nI 0 - 1).toInt = -1 from rfl]
      omega
  | succ n =>
    rw [nI_pred, show fX8_within (nI x) 0 (nI n) = _ from within_in (a := x) (b := 0) (c := n) hx (by omega) (by omega)]
    congr 2
    by_cases c : x < n + 1
    · rw [decide_eq_true c, decide_eq_true ⟨by omega, by omega⟩]
    · rw [decide_eq_false c, decide_eq_false (fun z => by omega)]
theorem mtold (h : Tm0 τ T len) (hs : s ≤ 300) (hk : k < 4) (hN : N ≤ 8) (e : τ 2 1 = nI N) (h1 : Mk τ τk T len s k ok) {sep : Int32} : ∃ τ', fX9_told τk sep = some (nI (nv T len (ps T len s k)), τ') ∧ Mk τ τ' T len s (k + 1) (ok && (decide (nd T len (ps T len s k) ≠ 0) && (decide (nv T len (ps T len s k) < N) && decide (hr T len (np T len (ps T len s k)) = sep)))) := by
  have nb := n_bd T len (ps T len s k)
  obtain ⟨τ', r1, r2⟩ := mstep (sep := sep) h hs hk h1 (win_told (x := nv T len (ps T len s k)) (by omega) hN)
  refine ⟨τ', ?_, r2⟩
  unfold fX9_told
  rw [rd1 (by omega) (by omega), h1.2.2.1 2 (by omega), e]
  simp only [bd1s]
  rw [r1]
  rfl
theorem xitem (h : Tx0 w T len) {q m : Nat} (hq : q < len) (hm : fX5_numbersBehind (nI (T q)) = some (nI m)) (hm4 : m ≤ 4) : ∃ ok w', fX5_readItem 200 w (nI len) (nI q) = some (bI ok, w') ∧ (ok = true ↔ m ≠ 0 ∧ ∀ i, i < m → sy T len (q + 1) m i) ∧ (ok = true → (∀ i, i < m → w' 2 i = nI (nv T len (ps T len (q + 1) i))) ∧ w' 1 1 = nI (ps T len (q + 1) m)) ∧ ∀ a, a ≠ 1 → a ≠ 2 → w' a = w a := by
  have hl := h.1
  obtain ⟨ok, w', r1, r2, r3, r4⟩ := xitem_loop (T := T) (len := len) (s := q + 1) (m := m) (by omega) hm4 1000 0 (st w 1 1 (nI (q + 1))) (h.kept (st_a (by omega))) (by omega) (by omega) st_kj (fun i hi => absurd hi (by omega))
  refine ⟨ok, w', ?_, r2.trans ⟨fun z => ⟨z.1, fun i b => z.2 i (by omega) b⟩, fun z => ⟨z.1, fun i _ b => z.2 i b⟩⟩, r3, fun a q1 q2 => by rw [r4 a q1 q2, st_a q1]⟩
  unfold fX5_readItem
  rw [rdN (k := 0) (j := q) (by omega) (by omega), (h.2 q hq).2.2]
  simp only [bd1s]
  rw [hm, pts, nI_1, nI_lit0]
  simp only [bd1s]
  exact r1
/-- the last sign of an item stands in the text -/
theorem sy_in {m q : Nat} (h : sy T len (q + 1) m k) : ps T len (q + 1) (k + 1) ≤ len ∧ q < ps T len (q + 1) (k + 1) := by
  have hb := ps_bd T len (q + 1) (k + 1)
  refine ⟨?_, by omega⟩
  have h2 := h.2
  unfold hr at h2
  split at h2
  · exfalso
    split at h2 <;> exact absurd h2 (by decide)
  · rw [ps]
    omega
/-- an item that both refuse or both take -/
def Itm (w τ : Mm) (T : Nat → Nat) (len q : Nat) : Prop := ∃ (τ' : Mm) (v6 : Bool) (w7 : Mm), fX9_readItem τ = some τ' ∧ loM τ τ' ∧ fX5_readItem 200 w (nI len) (nI q) = some (bI v6, w7) ∧ (∀ a, a ≠ 1 → a ≠ 2 → w7 a = w a) ∧ ((τ' 0 19 = 0 ∧ v6 = false) ∨ (v6 = true ∧ ∃ (v9 : Bool) (w10 : Mm), fX5_tell w7 (nI (T q)) = some (bI v9, w10) ∧ w10 0 = w 0 ∧ (∀ a, 16 ≤ a → w10 a = w a) ∧ ((v9 = false ∧ τ' 0 19 = 0) ∨ (v9 = true ∧ τ' 0 19 = 1 ∧ ∃ N' p', Sp w10 τ' N' ∧ w10 1 1 = nI p' ∧ τ' 0 18 = nI p' ∧ q < p' ∧ p' ≤ len))))
theorem Mk0 {q : Nat} (e : τ 0 18 = nI q) : Mk τ (st (st τ 0 18 (nI (q + 1))) 0 19 1) T len (q + 1) 0 true := ⟨by rw [st_ki (by omega), st_kj]; rfl, st_kj, fun a z => by rw [st_a z, st_a z], fun j z1 z2 => by rw [st_ki z2, st_ki z1]⟩
theorem Mk.lo (h : Mk τ τk T len s k ok) : loM τ τk := by
  obtain ⟨h1, h2, h3, h4⟩ := h
  exact ⟨⟨by rw [h3 2 (by omega)], by rw [h3 7 (by omega)], by rw [h3 8 (by omega)], by rw [h3 12 (by omega)]⟩, fun a q j _ => by rw [h3 a (by omega)], fun j _ => ⟨by rw [h3 9 (by omega)], by rw [h3 10 (by omega)]⟩, fun j _ => by rw [h3 13 (by omega)], h3 1 (by omega), fun a q => h3 a (by omega), h4⟩
/-- a sign that begins no item -/
theorem itm_none (hx : Tx0 w T len) (hm : Tm0 τ T len) {q : Nat} (hq : q < len) (e : τ 0 18 = nI q) (hT : T q ≠ 97 ∧ T q ≠ 98 ∧ T q ≠ 99 ∧ T q ≠ 114 ∧ T q ≠ 115 ∧ T q ≠ 118 ∧ T q ≠ 119 ∧ T q ≠ 121) : Itm w τ T len q := by
  obtain ⟨t1, t2, t3, t4, t5, t6, t7, t8⟩ := hT
  obtain ⟨b1, b2, -⟩ := hx.2 q hq
  have hl := hx.1
  have ne : ∀ c : Nat, c < 200 → T q ≠ c → ¬ nI (T q) = nI c := fun c hc z y => z ((nI_eq (by omega) (by omega)).mp y)
  have hnb : fX5_numbersBehind (nI (T q)) = some (nI 0) := by
    unfold fX5_numbersBehind
    rw [if_neg (show ¬ nI (T q) = 97 from ne 97 (by omega) t1), if_neg (show ¬ nI (T q) = 98 from ne 98 (by omega) t2), if_neg (show ¬ nI (T q) = 99 from ne 99 (by omega) t3), if_neg (show ¬ nI (T q) = 114 from ne 114 (by omega) t4), if_neg (show ¬ nI (T q) = 115 from ne 115 (by omega) t5), if_neg (show ¬ nI (T q) = 118 from ne 118 (by omega) t6), if_neg (show ¬ nI (T q) = 119 from ne 119 (by omega) t7), if_neg (show ¬ nI (T q) = 121 from ne 121 (by omega) t8)]
    rfl
  obtain ⟨ok, w', r1, r2, r3, r4⟩ := xitem hx hq hnb (by omega)
  have ok0 : ok = false := by
    cases ok
    · rfl
    · exact absurd rfl (r2.mp rfl).1
  have mk := Mk0 (T := T) (len := len) e
  have l := mk.lo
  refine ⟨st (st (st τ 0 18 (nI (q + 1))) 0 19 1) 0 19 0, ok, w', ?_, ?_, r1, r4, Or.inl ⟨st_kj, ok0⟩⟩
  · unfold fX9_readItem
    rw [here_spec hm (by omega) e, show hr T len q = nI (T q) from if_neg (by omega), e, nI_1]
    simp only [bd1s, pts]
    rw [if_neg (show ¬ nI (T q) = 97 from ne 97 (by omega) t1), if_neg (show ¬ nI (T q) = 98 from ne 98 (by omega) t2), if_neg (show ¬ nI (T q) = 99 from ne 99 (by omega) t3), if_neg (show ¬ nI (T q) = 114 from ne 114 (by omega) t4), if_neg (show ¬ nI (T q) = 115 from ne 115 (by omega) t5), if_neg (show ¬ nI (T q) = 118 from ne 118 (by omega) t6), if_neg (show ¬ nI (T q) = 119 from ne 119 (by omega) t7), if_neg (show ¬ nI (T q) = 121 from ne 121 (by omega) t8)]
  · refine l.tr ⟨⟨by rw [st_a (by omega)], by rw [st_a (by omega)], by rw [st_a (by omega)], by rw [st_a (by omega)]⟩, fun a z j _ => by rw [st_a (by omega)], fun j _ => ⟨by rw [st_a (by omega)], by rw [st_a (by omega)]⟩, fun j _ => by rw [st_a (by omega)], st_a (by omega), fun a z => st_a (by omega), fun j z1 z2 => st_ki z2⟩
end IT
