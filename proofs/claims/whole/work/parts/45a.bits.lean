/-! sets of beasts as bits -/
def bt (m i : Nat) : Nat := m / 2 ^ i % 2
def pcn (m : Nat) : Nat → Nat
  | 0 => 0
  | k + 1 => pcn m k + bt m k
theorem bt_and0 : ∀ m, m < 256 → ∀ i, i < 8 → ((nI m &&& (1 <<< (nI i &&& 31)) = 0) ↔ bt m i = 0) := by decide +kernel
theorem bt_shr0 : ∀ m, m < 256 → ∀ i, i < 8 → (nI m >>> (nI i &&& 31)) &&& 1 = nI (bt m i) := by decide +kernel
theorem bt_or0 : ∀ m, m < 256 → ∀ i, i < 8 → nI m ||| (1 <<< (nI i &&& 31)) = nI (m + (1 - bt m i) * 2 ^ i) := by decide +kernel
theorem bt_cl0 : ∀ m, m < 256 → ∀ i, i < 8 → nI m &&& ((1 <<< (nI i &&& 31)) ^^^ (-1)) = nI (m - bt m i * 2 ^ i) := by decide +kernel
theorem bt_co0 : ∀ n, n < 9 → ∀ m, m < 2 ^ n → ∀ i, i < n → bt (2 ^ n - 1 - m) i = 1 - bt m i := by decide +kernel
theorem bt_up0 : ∀ n, n < 9 → ∀ m, m < 2 ^ n → ∀ i, i < n → bt m i = 0 → m + 2 ^ i < 2 ^ n := by decide +kernel
theorem bt_dn0 : ∀ m, m < 256 → ∀ i, i < 8 → bt m i ≠ 0 → 2 ^ i ≤ m := by decide +kernel
theorem pc_dn0 : ∀ m, m < 256 → ∀ i, i < 8 → bt m i = 1 → pcn (m - 2 ^ i) 8 + 1 = pcn m 8 := by decide +kernel
theorem pc_co0 : ∀ n, n < 9 → ∀ m, m < 2 ^ n → pcn (2 ^ n - 1 - m) 8 + pcn m 8 = n ∧ pcn m n = pcn m 8 := by decide +kernel
theorem pc_ne0 : ∀ n, n < 9 → ∀ m, m < 2 ^ n → m ≠ 0 → ∃ i, i < n ∧ bt m i = 1 := by decide +kernel
theorem pc_bc0 : ∀ m, m < 256 → fJ6_bitCount_0f7a4 (nI m) = some (nI (pcn m 8)) := by decide +kernel
theorem all_n0 : ∀ n, n < 9 → (1 : Int32) <<< (nI n &&& 31) = nI (2 ^ n) := by decide +kernel
theorem pw_n0 : ∀ n, n < 9 → 1 ≤ 2 ^ n ∧ 2 ^ n ≤ 256 := by decide +kernel
theorem bt_01 (m i : Nat) : bt m i = 0 ∨ bt m i = 1 := by
  unfold bt
  omega
