/-! memories and Options: rows for rewriting -/
theorem bd1s {A B : Type} {a : A} {f : A → Option B} : bd1 (some a) f = f a := rfl
theorem bd2s {A1 A2 B : Type} {a1 : A1} {a2 : A2} {f : A1 → A2 → Option B} : bd2 (some (a1, a2)) f = f a1 a2 := rfl
theorem bd3s {A1 A2 A3 B : Type} {a1 : A1} {a2 : A2} {a3 : A3} {f : A1 → A2 → A3 → Option B} : bd3 (some (a1, a2, a3)) f = f a1 a2 a3 := rfl
theorem bd4s {A1 A2 A3 A4 B : Type} {a1 : A1} {a2 : A2} {a3 : A3} {a4 : A4} {f : A1 → A2 → A3 → A4 → Option B} : bd4 (some (a1, a2, a3, a4)) f = f a1 a2 a3 a4 := rfl
theorem pts {w : Mm} {k j : Nat} {v : Int32} : pt w k j v = some (st w k j v) := rfl
theorem ib_nI {j n : Nat} (h : j < n) (hn : n < 2 ^ 31) : ib (nI j) n = true := by
  unfold ib
  rw [nI_toInt (by omega)]
  simp only [Bool.and_eq_true, decide_eq_true_eq]
  omega
theorem rdN {w : Mm} {k n j : Nat} (h : j < n) (hn : n < 2 ^ 31) : rd w k n (nI j) = some (w k j) := by
  unfold rd
  rw [if_pos (ib_nI h hn), nI_clamp (by omega)]
theorem wrN {w : Mm} {k n j : Nat} {v : Int32} (h : j < n) (hn : n < 2 ^ 31) : wr w k n (nI j) v = some (st w k j v) := by
  unfold wr
  rw [if_pos (ib_nI h hn), nI_clamp (by omega)]
theorem rd0 {w : Mm} {k n : Nat} (h : 0 < n) (hn : n < 2 ^ 31) : rd w k n 0 = some (w k 0) := rdN (j := 0) h hn
theorem rd1 {w : Mm} {k n : Nat} (h : 1 < n) (hn : n < 2 ^ 31) : rd w k n 1 = some (w k 1) := rdN (j := 1) h hn
theorem wr0 {w : Mm} {k n : Nat} {v : Int32} (h : 0 < n) (hn : n < 2 ^ 31) : wr w k n 0 v = some (st w k 0 v) := wrN (j := 0) h hn
theorem wr1 {w : Mm} {k n : Nat} {v : Int32} (h : 1 < n) (hn : n < 2 ^ 31) : wr w k n 1 v = some (st w k 1 v) := wrN (j := 1) h hn
theorem st_k {w : Mm} {k j : Nat} {v : Int32} : st w k j v k = upd (w k) j v := by simp [st]
theorem st_a {w : Mm} {k j a : Nat} {v : Int32} (h : a ≠ k) : st w k j v a = w a := by simp [st, h]
theorem st_kj {w : Mm} {k j : Nat} {v : Int32} : st w k j v k j = v := by simp [st, upd]
theorem st_ki {w : Mm} {k j i : Nat} {v : Int32} (h : i ≠ j) : st w k j v k i = w k i := by simp [st, upd, h]
theorem st_at {w : Mm} {k j a b : Nat} {v : Int32} : st w k j v a b = if a = k ∧ b = j then v else w a b := by
  unfold st upd
  by_cases h1 : a = k
  · subst h1
    by_cases h2 : b = j
    · simp [h2]
    · simp [h2]
  · simp [h1]
theorem gqs {x : Int32} {q : Nat} (h : x.toNatClampNeg = q) : gq x q = some () := by
  unfold gq
  rw [if_pos h]
theorem gbs {x : Int32} (h : x = 0 ∨ x = 1) : gb x = some () := by
  unfold gb
  rw [if_pos h]
theorem gzs {x : Int32} (h : ¬ x = 0) : gz x = some () := by
  unfold gz
  rw [if_neg h]
/-! comparisons of Int32 by toInt -/
theorem i_lt (a b : Int32) : a < b ↔ a.toInt < b.toInt := Int32.lt_iff_toInt_lt
theorem i_le (a b : Int32) : a ≤ b ↔ a.toInt ≤ b.toInt := Int32.le_iff_toInt_le
theorem i_eq (a b : Int32) : a = b ↔ a.toInt = b.toInt := Int32.toInt_inj.symm
theorem nI_n4 {j : Nat} (h : j < 2 ^ 31) : nI j ≠ -4 := by
  intro q
  have h1 := congrArg Int32.toInt q
  rw [nI_toInt h] at h1
  have h2 : (-4 : Int32).toInt = -4 := by decide +kernel
  omega
theorem nI_lit0 : (0 : Int32) = nI 0 := rfl
theorem nI_lit (n : Nat) : (OfNat.ofNat n : Int32) = nI n := rfl
/-- counts and sums below n -/
def sm (f : Nat → Int32) : Nat → Int32
  | 0 => 0
  | n + 1 => sm f n + f n
def an (p : Nat → Bool) : Nat → Bool
  | 0 => false
  | n + 1 => an p n || p n
theorem sm_congr {f g : Nat → Int32} : ∀ {n : Nat}, (∀ k, k < n → f k = g k) → sm f n = sm g n
  | 0, _ => rfl
  | n + 1, h => by
    unfold sm
    rw [sm_congr (fun k hk => h k (by omega)), h n (by omega)]
theorem an_congr {p q : Nat → Bool} : ∀ {n : Nat}, (∀ k, k < n → p k = q k) → an p n = an q n
  | 0, _ => rfl
  | n + 1, h => by
    unfold an
    rw [an_congr (fun k hk => h k (by omega)), h n (by omega)]
theorem an_iff {p : Nat → Bool} : ∀ {n : Nat}, an p n = true ↔ ∃ k, k < n ∧ p k = true
  | 0 => by
    simp [an]
  | n + 1 => by
    unfold an
    rw [Bool.or_eq_true, an_iff (n := n)]
    constructor
    · rintro (⟨k, h1, h2⟩ | h)
      · exact ⟨k, by omega, h2⟩
      · exact ⟨n, by omega, h⟩
    · rintro ⟨k, h1, h2⟩
      by_cases hk : k = n
      · subst hk
        exact Or.inr h2
      · exact Or.inl ⟨k, by omega, h2⟩
