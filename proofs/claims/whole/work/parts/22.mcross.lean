def bI (b : Bool) : Int32 := if b = true then 1 else 0
theorem bI_t : bI true = 1 := rfl
theorem bI_f : bI false = 0 := rfl
theorem bI_ne {b : Bool} : bI b = 0 ↔ b = false := by cases b <;> decide
theorem ix0 (b k : Nat) : (nI b + 0) + nI k = nI (b + k) := by rw [nI_lit0, nI_add, nI_add]; rfl
theorem ix8 (b k : Nat) : (nI b + 8) + nI k = nI (b + 8 + k) := by rw [nI_lit 8, nI_add, nI_add]
theorem ifle {α : Type} {x y : α} {a b : Nat} (ha : a < 2 ^ 31) (hb : b < 2 ^ 31) : (if nI a ≤ nI b then x else y) = (if a ≤ b then x else y) := by simp only [nI_leI ha hb]
theorem iflt {α : Type} {x y : α} {a b : Nat} (ha : a < 2 ^ 31) (hb : b < 2 ^ 31) : (if nI a < nI b then x else y) = (if a < b then x else y) := by simp only [nI_ltI ha hb]
theorem ifeq {α : Type} {x y : α} {a b : Nat} (ha : a < 2 ^ 31) (hb : b < 2 ^ 31) : (if nI a = nI b then x else y) = (if a = b then x else y) := by simp only [nI_eq ha hb]
section MC
variable {τ g : Mm} {b n m : Nat}
theorem help_loop (h : AM τ b n g) : ∀ (fu k : Nat), k ≤ n → n - k < fu → LX9_hasHelp_5 (nI b) (nI m) τ fu (bI (an (fun k => decide (g 2 k = 2 ∧ g 3 k < nI m)) k)) (nI k) = some (bI (an (fun k => decide (g 2 k = 2 ∧ g 3 k < nI m)) n)) := by
  obtain ⟨h1, h2, h3, h4, -⟩ := h
  intro fu
  induction fu with
  | zero => intro k _ h; omega
  | succ fu ih =>
    intro k hk hf
    rw [LX9_hasHelp_5]
    simp only [rd0 (n := 2) (by omega) (by omega), bd1s, h1]
    rw [ifle (by omega) (by omega)]
    by_cases hkn : n ≤ k
    · rw [if_pos hkn, show k = n by omega]
    · rw [if_neg hkn]
      obtain ⟨-, -, e2, e3, -⟩ := h4 k (by omega)
      rw [ix0, rdN (j := k) (by omega) (by omega), rdN (j := b + k) (by omega) (by omega), e2, e3]
      simp only [bd1s]
      have hs := ih (k + 1) (by omega) (by omega)
      have ea : an (fun k => decide (g 2 k = 2 ∧ g 3 k < nI m)) (k + 1) = (an (fun k => decide (g 2 k = 2 ∧ g 3 k < nI m)) k || decide (g 2 k = 2 ∧ g 3 k < nI m)) := rfl
      rw [nI_1]
      cases ha : an (fun k => decide (g 2 k = 2 ∧ g 3 k < nI m)) k with
      | true =>
        rw [ha] at ea
        rw [ea] at hs
        simp only [Bool.true_or, bI_t] at hs
        simp only [bI_t, show ¬ (1 : Int32) = 0 by decide, if_false, bd1s]
        exact hs
      | false =>
        rw [ha] at ea
        rw [ea] at hs
        simp only [Bool.false_or] at hs
        simp only [bI_f, if_true]
        by_cases c1 : g 2 k = 2
        · by_cases c2 : nI m ≤ g 3 k
          · have c3 : ¬ g 3 k < nI m := by rw [i_lt]; rw [i_le] at c2; omega
            simp only [c1, c3, and_false, decide_false, bI_f] at hs
            simp only [c1, c2, if_true, bd1s]
            exact hs
          · have c3 : g 3 k < nI m := by rw [i_lt]; rw [i_le] at c2; omega
            simp only [c1, c3, and_true, decide_true, bI_t] at hs
            simp only [c1, c2, if_true, if_false, bd1s]
            exact hs
        · simp only [c1, false_and, decide_false, bI_f] at hs
          simp only [c1, if_false, bd1s]
          exact hs
theorem help_spec (h : AM τ b n g) : fX9_hasHelp τ (nI b) (nI m) = some (bI (hp g n m)) := by
  have hn : n ≤ 8 := h.2.1
  unfold fX9_hasHelp
  have hl := help_loop (m := m) h 1000 0 (by omega) (by omega)
  rw [show bI (an (fun k => decide (g 2 k = 2 ∧ g 3 k < nI m)) 0) = 0 from rfl, ← nI_lit0] at hl
  rw [hl]
  simp only [bd1s]
  unfold hp
  cases an (fun k => decide (g 2 k = 2 ∧ g 3 k < nI m)) n with
  | false => simp [bI]
  | true =>
    rw [bI_t, if_neg (by decide)]
    by_cases c1 : nI m ≤ 1
    · have c3 : ¬ 1 < nI m := by rw [i_lt]; rw [i_le] at c1; omega
      simp [c1, c3, bI]
    · have c3 : 1 < nI m := by rw [i_lt]; rw [i_le] at c1; omega
      rw [if_neg c1]
      by_cases c2 : nI m - nI m / 5 * 5 = 1
      · simp [c2, c3, md5, bI]
      · simp [c2, c3, md5, bI]
theorem load_loop (h : AM τ b n g) {i : Nat} : ∀ (fu k : Nat), k ≤ n → n - k < fu → LX9_strokeOf_72 (nI b) (nI i) τ fu (sm (fun k => if g 4 k = nI i then g 1 k else 0) k) (nI k) = some (ld g n i) := by
  obtain ⟨h1, h2, h3, h4, -⟩ := h
  intro fu
  induction fu with
  | zero => intro k _ h; omega
  | succ fu ih =>
    intro k hk hf
    rw [LX9_strokeOf_72]
    simp only [rd0 (n := 2) (by omega) (by omega), bd1s, h1]
    rw [ifle (by omega) (by omega)]
    by_cases hkn : n ≤ k
    · rw [if_pos hkn, show k = n by omega]
      rfl
    · rw [if_neg hkn]
      obtain ⟨-, e1, -, -, e4⟩ := h4 k (by omega)
      rw [ix8, rdN (j := b + 8 + k) (by omega) (by omega), e4, rdN (j := k) (by omega) (by omega), e1]
      simp only [bd1s]
      have hs := ih (k + 1) (by omega) (by omega)
      have ea : sm (fun k => if g 4 k = nI i then g 1 k else 0) (k + 1) = sm (fun k => if g 4 k = nI i then g 1 k else 0) k + (if g 4 k = nI i then g 1 k else 0) := rfl
      rw [ea] at hs
      rw [nI_1]
      by_cases c : g 4 k = nI i
      · simp only [c, if_true, bd1s] at hs ⊢
        exact hs
      · simp only [c, if_false, bd1s] at hs ⊢
        exact hs
theorem at1_eq (v : Int32) : (if 1 ≤ v then some v else some 1) = some (at1 v) := by
  unfold at1
  split <;> rfl
theorem stroke_spec (h : AM τ b n g) {i : Nat} (hi : i < n) : fX9_strokeOf τ (nI b) (nI i) (nI m) (g 7 m) (bI (hp g n m)) = some (yb g n i m) := by
  have hn := h.2.1
  have hb := h.2.2.1
  have hl := load_loop (i := i) h 1000 0 (by omega) (by omega)
  obtain ⟨e0, -, e2, e3, -⟩ := h.2.2.2.1 i hi
  unfold fX9_strokeOf
  rw [ix0, rdN (j := b + i) (by omega) (by omega), rdN (k := 5) (j := i) (by omega) (by omega), rdN (k := 3) (j := i) (by omega) (by omega), e0, e2, e3]
  simp only [bd1s]
  rw [show sm (fun k => if g 4 k = nI i then g 1 k else 0) 0 = 0 from rfl, ← nI_lit0] at hl
  rw [hl]
  simp only [bd1s]
  unfold yb
  by_cases c0 : nI m ≤ g 3 i
  · rw [if_pos c0]
    split
    · split
      · simp only [bd1s, if_pos c0]
      · split
        · split <;> simp only [bd1s, if_pos c0]
        · simp only [bd1s, if_pos c0]
    · split
      · split <;> simp only [bd1s, if_pos c0]
      · simp only [bd1s, if_pos c0]
  · rw [if_neg c0]
    have tail : (bd1 (if bI (hp g n m) = 0 then some (g 7 m) else if g 2 i = 2 then some (g 7 m) else some 0) fun v16 =>
        bd1 (if g 2 i = 1 then if v16 ≤ 0 then some 0 else some 1 else some 0) fun v20 =>
        if 1 ≤ g 0 i - (v16 - v20) - ld g n i / 3 then some (g 0 i - (v16 - v20) - ld g n i / 3) else some 1) = some (at1 (g 0 i - tl2 g n i m - ld g n i / 3)) := by
      have e1 : (if bI (hp g n m) = 0 then some (g 7 m) else if g 2 i = 2 then some (g 7 m) else some 0) = some (tk g n i m) := by
        unfold tk
        cases hp g n m with
        | false => simp [bI]
        | true =>
          rw [bI_t, if_neg (by decide)]
          by_cases c : g 2 i = 2 <;> simp [c]
      rw [e1]
      simp only [bd1s]
      have e2 : (if g 2 i = 1 then if tk g n i m ≤ 0 then some (0 : Int32) else some 1 else some 0) = some (if g 2 i = 1 ∧ 0 < tk g n i m then 1 else 0) := by
        by_cases c : g 2 i = 1
        · by_cases c2 : tk g n i m ≤ 0
          · have c3 : ¬ 0 < tk g n i m := by rw [i_lt]; rw [i_le] at c2; omega
            simp [c, c2, c3]
          · have c3 : 0 < tk g n i m := by rw [i_lt]; rw [i_le] at c2; omega
            simp [c, c2, c3]
        · simp [c]
      rw [e2]
      simp only [bd1s]
      exact at1_eq _
    by_cases c2 : g 2 i = 2
    · have c23 : ¬ (2 : Int32) = 3 := by decide
      by_cases c3 : nI m - nI m / 5 * 5 = 0
      · simp [c2, c3, bd1s, c0, md5]
      · simp only [c2, c3, c23, if_true, if_false, bd1s, c0, md5, false_and, and_false, or_self] at tail ⊢
        exact tail
    · by_cases c3 : g 2 i = 3
      · by_cases c4 : g 3 i + 3 < nI m
        · have c5 : ¬ (3 : Int32) = 2 := by decide
          simp only [c3, c4, c5, if_true, if_false, bd1s, c0, not_true, false_and, and_false, or_self] at tail ⊢
          exact tail
        · simp [c2, c3, c4, bd1s, c0]
      · simp only [c2, c3, if_false, if_true, bd1s, c0, false_and, or_self] at tail ⊢
        exact tail
end MC
