/-! counts, and sets of bearers -/
def ct (p : Nat → Bool) : Nat → Nat
  | 0 => 0
  | k + 1 => ct p k + (if p k = true then 1 else 0)
theorem ct_cg {p q : Nat → Bool} : ∀ n, (∀ k, k < n → p k = q k) → ct p n = ct q n
  | 0, _ => rfl
  | n + 1, h => by
    rw [ct, ct, ct_cg n (fun k hk => h k (by omega)), h n (by omega)]
theorem ct_le {p q : Nat → Bool} : ∀ n, (∀ k, k < n → p k = true → q k = true) → ct p n ≤ ct q n
  | 0, _ => Nat.le_refl _
  | n + 1, h => by
    have ih := ct_le n (fun k hk => h k (by omega))
    rw [ct, ct]
    by_cases c : p n = true
    · rw [if_pos c, if_pos (h n (by omega) c)]
      omega
    · rw [if_neg c]
      omega
theorem ct_up {p : Nat → Bool} {n m : Nat} (h : n ≤ m) : ct p n ≤ ct p m := by
  induction m with
  | zero => rw [show n = 0 by omega]; exact Nat.le_refl _
  | succ m ih =>
    by_cases c : n = m + 1
    · rw [c]
      exact Nat.le_refl _
    · have := ih (by omega)
      rw [ct]
      omega
theorem ct_or {p q r : Nat → Bool} : ∀ n, (∀ k, k < n → (p k = true ↔ (q k = true ∨ r k = true)) ∧ ¬ (q k = true ∧ r k = true)) → ct p n = ct q n + ct r n
  | 0, _ => rfl
  | n + 1, h => by
    have ih := ct_or n (fun k hk => h k (by omega))
    obtain ⟨h1, h2⟩ := h n (by omega)
    rw [ct, ct, ct, ih]
    by_cases c : q n = true
    · rw [if_pos c, if_pos (h1.mpr (Or.inl c)), if_neg (fun d => h2 ⟨c, d⟩)]
      omega
    · by_cases d : r n = true
      · rw [if_neg c, if_pos d, if_pos (h1.mpr (Or.inr d))]
        omega
      · rw [if_neg c, if_neg d, if_neg (fun e => (h1.mp e).elim c d)]
        omega
theorem ct_one {b : Nat} : ∀ n, b < n → ct (fun i => decide (i = b)) n = 1 := by
  have z : ∀ n, n ≤ b → ct (fun i => decide (i = b)) n = 0 := by
    intro n
    induction n with
    | zero => intro _; rfl
    | succ n ih =>
      intro h
      rw [ct, ih (by omega), if_neg (by simp; omega)]
  intro n
  induction n with
  | zero => intro h; omega
  | succ n ih =>
    intro h
    rw [ct]
    by_cases c : n = b
    · rw [z n (by omega), if_pos (by simp [c])]
    · rw [ih (by omega), if_neg (by simp [c])]
/-- one more -/
theorem ct_put {p q : Nat → Bool} {n b : Nat} (hb : b < n) (hp : p b = true) (hq : q b = false) (h : ∀ i, i < n → i ≠ b → p i = q i) : ct p n = ct q n + 1 := by
  rw [← ct_one n hb]
  refine ct_or n (fun k hk => ?_)
  by_cases c : k = b
  · subst c
    simp [hp, hq]
  · rw [h k hk c]
    simp [c]
theorem ct_zero {p : Nat → Bool} : ∀ {n : Nat}, ct p n = 0 → ∀ k, k < n → p k = false
  | 0, _, k, h => absurd h (by omega)
  | n + 1, h, k, hk => by
    rw [ct] at h
    by_cases c : k = n
    · subst c
      cases d : p k
      · rfl
      · rw [if_pos d] at h
        omega
    · exact ct_zero (n := n) (by omega) k (by omega)
theorem ct_ex {p q : Nat → Bool} {n : Nat} (h : ct p n < ct q n) : ∃ i, i < n ∧ q i = true ∧ p i = false := by
  apply Classical.byContradiction
  intro z
  have := ct_le (p := q) (q := p) n (fun k hk hq => by
    cases d : p k
    · exact absurd ⟨k, hk, hq, d⟩ z
    · rfl)
  omega
theorem min_ex {P : Nat → Prop} {f : Nat → Nat} (h : ∃ i, P i) : ∃ b, P b ∧ ∀ i, P i → f b ≤ f i := by
  have key : ∀ m i, f i ≤ m → P i → ∃ b, P b ∧ ∀ i, P i → f b ≤ f i := by
    intro m
    induction m with
    | zero => intro i h1 h2; exact ⟨i, h2, fun j _ => by omega⟩
    | succ m ih =>
      intro i h1 h2
      by_cases c : ∃ j, P j ∧ f j ≤ m
      · obtain ⟨j, j1, j2⟩ := c
        exact ih j j2 j1
      · exact ⟨i, h2, fun j hj => by
          have : ¬ f j ≤ m := fun q => c ⟨j, hj, q⟩
          omega⟩
  obtain ⟨i, hi⟩ := h
  exact key (f i) i (Nat.le_refl _) hi
theorem bt_rm0 : ∀ m, m < 256 → ∀ b, b < 8 → bt m b = 1 → ∀ i, i < 8 → bt (m - 2 ^ b) i = if i = b then 0 else bt m i := by decide +kernel
theorem bt_ad0 : ∀ m, m < 256 → ∀ b, b < 8 → bt m b = 0 → m + 2 ^ b < 256 ∧ ∀ i, i < 8 → bt (m + 2 ^ b) i = if i = b then 1 else bt m i := by decide +kernel
theorem pcn_ct (m : Nat) : ∀ k, pcn m k = ct (fun i => decide (bt m i = 1)) k
  | 0 => rfl
  | k + 1 => by
    rw [pcn, ct, pcn_ct m k]
    rcases bt_01 m k with c | c
    · rw [c, if_neg (by simp [c])]
    · rw [c, if_pos (by simp [c])]
theorem ct_ext {p : Nat → Bool} {n : Nat} : ∀ m, n ≤ m → (∀ k, n ≤ k → k < m → p k = false) → ct p m = ct p n
  | 0, h, _ => by rw [show n = 0 by omega]
  | m + 1, h, e => by
    by_cases c : n = m + 1
    · rw [c]
    · rw [ct, ct_ext m (by omega) (fun k a b => e k a (by omega)), if_neg (by rw [e m (by omega) (by omega)]; decide)]
      omega
section HA
variable {n : Nat} {wt : Nat → Nat} {lt be : Nat → Bool}
def cS (wt : Nat → Nat) (n S v : Nat) : Nat := ct (fun i => decide (bt S i = 1 ∧ wt i ≤ v)) n
def cA (wt : Nat → Nat) (lt : Nat → Bool) (k v : Nat) : Nat := ct (fun j => lt j && decide (wt j < v)) k
/-- the set S of bearers can be ridden by lights below k -/
def Hl (n : Nat) (wt : Nat → Nat) (lt be : Nat → Bool) (k S : Nat) : Prop := (∀ i, i < 8 → bt S i = 1 → i < n ∧ be i = true) ∧ ∀ v, v ≤ 10 → cS wt n S v ≤ cA wt lt k v
theorem cS_rm (hn : n ≤ 8) {S b v : Nat} (hS : S < 256) (hb : b < n) (h : bt S b = 1) : cS wt n S v = cS wt n (S - 2 ^ b) v + (if wt b ≤ v then 1 else 0) := by
  have e := bt_rm0 S hS b (by omega) h
  unfold cS
  by_cases c : wt b ≤ v
  · rw [if_pos c]
    refine ct_put hb (by simp [h, c]) (by rw [e b (by omega)]; simp) (fun i hi q => ?_)
    rw [e i (by omega), if_neg q]
  · rw [if_neg c]
    refine ct_cg n (fun i hi => ?_)
    by_cases q : i = b
    · subst q
      simp [c]
    · rw [e i (by omega), if_neg q]
theorem cA_s {k v : Nat} : cA wt lt (k + 1) v = cA wt lt k v + (if lt k = true ∧ wt k < v then 1 else 0) := by
  unfold cA
  rw [ct]
  congr 1
  simp
theorem cA_up {k u v : Nat} (h : u ≤ v) : cA wt lt k u ≤ cA wt lt k v := by
  refine ct_le k (fun j _ q => ?_)
  simp at q ⊢
  exact ⟨q.1, by omega⟩
theorem Hl_step (hn : n ≤ 8) (hwt : ∀ i, i < n → wt i ≤ 9) {k S : Nat} (hk : k < n) (hl : lt k = true) (hS : S < 256) : (Hl n wt lt be k S ∨ ∃ b, b < n ∧ bt S b = 1 ∧ (be b = true ∧ wt k < wt b) ∧ Hl n wt lt be k (S - 2 ^ b)) ↔ Hl n wt lt be (k + 1) S := by
  constructor
  · rintro (⟨h1, h2⟩ | ⟨b, b1, b2, ⟨b3, b4⟩, h1, h2⟩)
    · refine ⟨h1, fun v hv => ?_⟩
      have := h2 v hv
      rw [cA_s]
      omega
    · have e := bt_rm0 S hS b (by omega) b2
      refine ⟨fun i hi q => ?_, fun v hv => ?_⟩
      · by_cases c : i = b
        · subst c
          exact ⟨b1, b3⟩
        · exact h1 i hi (by rw [e i hi, if_neg c]; exact q)
      · have := h2 v hv
        rw [cS_rm hn hS b1 b2, cA_s]
        by_cases c : wt b ≤ v
        · rw [if_pos c, if_pos ⟨hl, by omega⟩]
          omega
        · rw [if_neg c]
          omega
  · rintro ⟨h1, h2⟩
    have hv : ∀ v, v ≤ wt k → v ≤ 10 → cS wt n S v ≤ cA wt lt k v := fun v q r => by
      have := h2 v r
      rw [cA_s, if_neg (by omega)] at this
      omega
    have wk := hwt k hk
    by_cases c : ∃ i, i < n ∧ bt S i = 1 ∧ wt k < wt i
    · obtain ⟨b, ⟨b1, b2, b3⟩, b4⟩ := min_ex (f := wt) c
      have e := bt_rm0 S hS b (by omega) b2
      refine Or.inr ⟨b, b1, b2, ⟨(h1 b (by omega) b2).2, b3⟩, fun i hi q => ?_, fun v hv10 => ?_⟩
      · rw [e i hi] at q
        split at q
        · omega
        · exact h1 i hi q
      · have rm := cS_rm (wt := wt) (v := v) hn hS b1 b2
        have h3 := h2 v hv10
        rw [cA_s] at h3
        by_cases d : v ≤ wt k
        · have := hv v d hv10
          omega
        · rw [if_pos ⟨hl, by omega⟩] at h3
          by_cases d2 : wt b ≤ v
          · rw [if_pos d2] at rm
            omega
          · have e2 : cS wt n S v = cS wt n S (wt k) := ct_cg n (fun i hi => by
              by_cases y : bt S i = 1
              · have := b4 i
                by_cases y2 : wt k < wt i
                · have := this ⟨hi, y, y2⟩
                  simp [y]
                  omega
                · simp [y]
                  omega
              · simp [y])
            have h4 := hv (wt k) (Nat.le_refl _) (by omega)
            have h5 := cA_up (wt := wt) (lt := lt) (k := k) (show wt k ≤ v by omega)
            omega
    · refine Or.inl ⟨h1, fun v hv10 => ?_⟩
      by_cases d : v ≤ wt k
      · exact hv v d hv10
      · have e2 : cS wt n S v = cS wt n S (wt k) := ct_cg n (fun i hi => by
          by_cases y : bt S i = 1
          · have : ¬ wt k < wt i := fun z => c ⟨i, hi, y, z⟩
            simp [y]
            omega
          · simp [y])
        have h4 := hv (wt k) (Nat.le_refl _) (by omega)
        have h5 := cA_up (wt := wt) (lt := lt) (k := k) (show wt k ≤ v by omega)
        omega
theorem Hl_zero (hn : n ≤ 8) (hwt : ∀ i, i < n → wt i ≤ 9) {S : Nat} (hS : S < 256) : Hl n wt lt be 0 S ↔ S = 0 := by
  constructor
  · rintro ⟨h1, h2⟩
    apply Classical.byContradiction
    intro q
    obtain ⟨i, i1, i2⟩ := pc_ne0 8 (by omega) S hS q
    have i3 := (h1 i i1 i2).1
    have := h2 10 (by omega)
    rw [show cA wt lt 0 10 = 0 from rfl] at this
    have z0 : cS wt n S 10 = 0 := by omega
    have z1 := ct_zero (p := fun i => decide (bt S i = 1 ∧ wt i ≤ 10)) (n := n) z0 i i3
    have w9 := hwt i i3
    exact absurd (of_decide_eq_false z1) (fun z => z ⟨i2, by omega⟩)
  · intro q
    subst q
    have z : ∀ i, bt 0 i = 0 := fun i => by unfold bt; simp
    refine ⟨fun i _ y => by rw [z i] at y; omega, fun v _ => ?_⟩
    have : cS wt n 0 v = 0 := by
      unfold cS
      have : ∀ m, ct (fun i => decide (bt 0 i = 1 ∧ wt i ≤ v)) m = 0 := by
        intro m
        induction m with
        | zero => rfl
        | succ m ih => rw [ct, ih, if_neg (by simp [z m])]
      exact this n
    omega
end HA
