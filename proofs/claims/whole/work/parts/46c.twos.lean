section TX
variable {w τ : Mm} {n : Nat} {wt : Nat → Nat} {lt be : Nat → Bool}
def cB (be : Nat → Bool) (wt : Nat → Nat) (n v : Nat) : Nat := ct (fun i => be i && decide (v < wt i)) n
theorem ct_len (p : Nat → Bool) : ∀ n, ct p n ≤ n
  | 0 => Nat.le_refl _
  | n + 1 => by
    have := ct_len p n
    rw [ct]
    split <;> omega
theorem pc_n (hn : n ≤ 8) {S : Nat} (h : ∀ i, i < 8 → bt S i = 1 → i < n ∧ be i = true) : pcn S 8 = ct (fun i => decide (bt S i = 1)) n := by
  rw [pcn_ct, ct_ext 8 hn (fun k a b => by
    apply decide_eq_false
    intro q
    have := (h k b q).1
    omega)]
/-- no set is greater -/
theorem Hl_le (hn : n ≤ 8) {S u : Nat} (h : Hl n wt lt be n S) (hu : u ≤ 10) : pcn S 8 ≤ cB be wt n u + cA wt lt n u := by
  obtain ⟨h1, h2⟩ := h
  rw [pc_n hn h1]
  have e : ct (fun i => decide (bt S i = 1)) n = ct (fun i => decide (bt S i = 1 ∧ wt i ≤ u)) n + ct (fun i => decide (bt S i = 1 ∧ u < wt i)) n := ct_or n (fun k hk => by
    simp only [decide_eq_true_eq]
    omega)
  have a := h2 u hu
  have b : ct (fun i => decide (bt S i = 1 ∧ u < wt i)) n ≤ cB be wt n u := ct_le n (fun k hk q => by
    have q := of_decide_eq_true q
    have := (h1 k (by omega) q.1).2
    simp [this, q.2])
  unfold cS at a
  omega
/-- the heaviest ones -/
theorem Hl_heavy (hn : n ≤ 8) (hwt : ∀ i, i < n → 1 ≤ wt i ∧ wt i ≤ 9) {p : Nat} (hp : ∀ u, 1 ≤ u → u ≤ 10 → p ≤ cB be wt n u + cA wt lt n u) : ∃ S, S < 256 ∧ Hl n wt lt be n S ∧ pcn S 8 = p := by
  have c0 : ∀ v, v ≤ 1 → cA wt lt n v = 0 := by
    intro v hv
    have := ct_le (p := fun j => lt j && decide (wt j < v)) (q := fun _ => false) n (fun k hk q => by
      have := (hwt k hk).1
      simp at q
      omega)
    have z : ∀ m, ct (fun _ => false) m = 0 := by
      intro m
      induction m with
      | zero => rfl
      | succ m ih => rw [ct, ih]; rfl
    rw [z] at this
    unfold cA
    omega
  have pb : p ≤ ct be n := by
    have h1 := hp 1 (by omega) (by omega)
    rw [c0 1 (by omega)] at h1
    have : cB be wt n 1 ≤ ct be n := ct_le n (fun k _ q => by simp at q; exact q.1)
    omega
  have key : ∀ t, t ≤ p → ∃ S, S < 256 ∧ (∀ i, i < 8 → bt S i = 1 → i < n ∧ be i = true) ∧ pcn S 8 = t ∧ ∀ v, (∀ i, i < n → bt S i = 1 → v < wt i) ∨ (∀ i, i < n → be i = true → v < wt i → bt S i = 1) := by
    intro t
    induction t with
    | zero =>
      intro _
      have z : ∀ i, bt 0 i = 0 := fun i => by unfold bt; simp
      exact ⟨0, by omega, fun i _ q => by rw [z i] at q; omega, rfl, fun v => Or.inl (fun i _ q => by rw [z i] at q; omega)⟩
    | succ t ih =>
      intro ht
      obtain ⟨S, s1, s2, s3, s4⟩ := ih (by omega)
      rw [pc_n hn s2] at s3
      obtain ⟨i0, i1, i2, i3⟩ := ct_ex (p := fun i => decide (bt S i = 1)) (q := be) (n := n) (by omega)
      obtain ⟨b, ⟨b1, b2, b3⟩, b4⟩ := min_ex (P := fun i => i < n ∧ be i = true ∧ bt S i ≠ 1) (f := fun i => 9 - wt i) ⟨i0, i1, i2, of_decide_eq_false i3⟩
      have b0 : bt S b = 0 := by
        have := bt_01 S b
        omega
      obtain ⟨u1, u2⟩ := bt_ad0 S s1 b (by omega) b0
      have u3 := pc_ad0 S s1 b (by omega) b0
      refine ⟨S + 2 ^ b, u1, fun i hi q => ?_, by rw [u3, pc_n hn s2, s3], fun v => ?_⟩
      · rw [u2 i hi] at q
        by_cases c : i = b
        · rw [c]
          exact ⟨b1, b2⟩
        · rw [if_neg c] at q
          exact s2 i hi q
      · by_cases c : v < wt b
        · rcases s4 v with y | y
          · refine Or.inl (fun i hi q => ?_)
            rw [u2 i (by omega)] at q
            by_cases d : i = b
            · rw [d]
              exact c
            · rw [if_neg d] at q
              exact y i hi q
          · exact absurd (y b b1 b2 c) b3
        · refine Or.inr (fun i hi q1 q2 => ?_)
          rw [u2 i (by omega)]
          split
          · rfl
          · apply Classical.byContradiction
            intro z
            have b5 : 9 - wt b ≤ 9 - wt i := b4 i ⟨hi, q1, z⟩
            have := hwt i hi
            have := hwt b b1
            omega
  obtain ⟨S, s1, s2, s3, s4⟩ := key p (Nat.le_refl _)
  refine ⟨S, s1, ⟨s2, fun v hv => ?_⟩, s3⟩
  by_cases v1 : v = 0
  · subst v1
    have : cS wt n S 0 ≤ ct (fun _ => false) n := ct_le n (fun k hk q => by
      have q := of_decide_eq_true q
      have := (hwt k hk).1
      omega)
    have z : ∀ m, ct (fun _ => false) m = 0 := by
      intro m
      induction m with
      | zero => rfl
      | succ m ih => rw [ct, ih]; rfl
    rw [z] at this
    omega
  · rcases s4 v with y | y
    · have : cS wt n S v ≤ ct (fun _ => false) n := ct_le n (fun k hk q => by
        have q := of_decide_eq_true q
        have := y k hk q.1
        omega)
      have z : ∀ m, ct (fun _ => false) m = 0 := by
        intro m
        induction m with
        | zero => rfl
        | succ m ih => rw [ct, ih]; rfl
      rw [z] at this
      omega
    · have e : ct (fun i => decide (bt S i = 1)) n = ct (fun i => decide (bt S i = 1 ∧ wt i ≤ v)) n + ct (fun i => decide (bt S i = 1 ∧ v < wt i)) n := ct_or n (fun k hk => by
        simp only [decide_eq_true_eq]
        omega)
      have e2 : cB be wt n v ≤ ct (fun i => decide (bt S i = 1 ∧ v < wt i)) n := ct_le n (fun k hk q => by
        simp at q
        exact decide_eq_true ⟨y k hk q.1 q.2, q.2⟩)
      have h1 := hp v (by omega) hv
      rw [pc_n hn s2] at s3
      unfold cS
      omega
/-- what the class counts -/
def Tx (w : Mm) (n : Nat) (wt : Nat → Nat) (lt be : Nat → Bool) : Prop := w 17 12 = nI n ∧ n ≤ 8 ∧ (w 16 3).toNatClampNeg = 17 ∧ ∀ i, i < n → (1 ≤ wt i ∧ wt i ≤ 9) ∧ w 19 i = nI (wt i) ∧ (lt i = true ↔ w 20 i = 1 ∧ w 23 i = -4) ∧ (be i = true ↔ w 20 i ≠ 1 ∧ w 23 i = -4)
theorem light_loop (h : Tx w n wt lt be) {v : Nat} (hv : v ≤ 10) : ∀ (fu k : Nat), k ≤ n → n - k < fu → LX8_lightOnes_4 (nI v) w fu (nI (ct (fun i => lt i && decide (wt i = v)) k)) (nI k) = some (nI (ct (fun i => lt i && decide (wt i = v)) n)) := by
  obtain ⟨t1, t2, t3, t4⟩ := h
  intro fu
  induction fu with
  | zero => intro k _ q; omega
  | succ fu ih =>
    intro k hk hf
    rw [LX8_lightOnes_4, gqs t3, t1]
    simp only [bd1s]
    rw [ifle (by omega) (by omega)]
    by_cases c : n ≤ k
    · rw [if_pos c, show k = n by omega]
    · obtain ⟨⟨w1, w2⟩, w3, r2, r3⟩ := t4 k (by omega)
      have nxt := ih (k + 1) (by omega) (by omega)
      rw [ct] at nxt
      rw [if_neg c, rdN (k := 23) (j := k) (by omega) (by omega), rdN (k := 20) (j := k) (by omega) (by omega), rdN (k := 19) (j := k) (by omega) (by omega), w3, nI_1]
      simp only [bd1s]
      rw [ifeq (by omega) (by omega)]
      have e : (if w 23 k = -4 then if w 20 k = 1 then if wt k = v then some (1 : Int32) else some 0 else some 0 else some 0) = some (nI (if (lt k && decide (wt k = v)) = true then 1 else 0)) := by
        by_cases a : w 23 k = -4
        · by_cases b : w 20 k = 1
          · have := r2.mpr ⟨b, a⟩
            rw [if_pos a, if_pos b, this]
            by_cases d : wt k = v
            · rw [if_pos d, if_pos (by simp [d])]
              rfl
            · rw [if_neg d, if_neg (by simp [d])]
              rfl
          · rw [if_pos a, if_neg b, if_neg (fun z => b (r2.mp (by simp at z; exact z.1)).1)]
            rfl
        · rw [if_neg a, if_neg (fun z => a (r2.mp (by simp at z; exact z.1)).2)]
          rfl
      rw [e]
      simp only [bd1s]
      rw [nI_add]
      exact nxt
theorem bear_loop (h : Tx w n wt lt be) {v : Nat} (hv : v ≤ 10) : ∀ (fu k : Nat), k ≤ n → n - k < fu → LX8_bearersOf_4 (nI v) w fu (nI (ct (fun i => be i && decide (v < wt i)) k)) (nI k) = some (nI (cB be wt n v)) := by
  obtain ⟨t1, t2, t3, t4⟩ := h
  intro fu
  induction fu with
  | zero => intro k _ q; omega
  | succ fu ih =>
    intro k hk hf
    rw [LX8_bearersOf_4, gqs t3, t1]
    simp only [bd1s]
    rw [ifle (by omega) (by omega)]
    by_cases c : n ≤ k
    · rw [if_pos c, show k = n by omega]
      rfl
    · obtain ⟨⟨w1, w2⟩, w3, r2, r3⟩ := t4 k (by omega)
      have nxt := ih (k + 1) (by omega) (by omega)
      rw [ct] at nxt
      rw [if_neg c, rdN (k := 23) (j := k) (by omega) (by omega), rdN (k := 20) (j := k) (by omega) (by omega), rdN (k := 19) (j := k) (by omega) (by omega), w3, nI_1]
      simp only [bd1s]
      rw [ifle (by omega) (by omega)]
      have e : (if w 23 k = -4 then if w 20 k = 1 then some (0 : Int32) else if wt k ≤ v then some 0 else some 1 else some 0) = some (nI (if (be k && decide (v < wt k)) = true then 1 else 0)) := by
        by_cases a : w 23 k = -4
        · by_cases b : w 20 k = 1
          · rw [if_pos a, if_pos b, if_neg (fun z => (r3.mp (by simp at z; exact z.1)).1 b)]
            rfl
          · have := r3.mpr ⟨b, a⟩
            rw [if_pos a, if_neg b, this]
            by_cases d : wt k ≤ v
            · rw [if_pos d, if_neg (by simp; omega)]
              rfl
            · rw [if_neg d, if_pos (by simp; omega)]
              rfl
        · rw [if_neg a, if_neg (fun z => a (r3.mp (by simp at z; exact z.1)).2)]
          rfl
      rw [e]
      simp only [bd1s]
      rw [nI_add]
      exact nxt
theorem xtwos (h : Tx w n wt lt be) : ∀ (v fu q : Nat), v ≤ 9 → v < fu → q ≤ 8 → (∀ u, v < u → u ≤ 10 → q + cA wt lt n (v + 1) ≤ cB be wt n u + cA wt lt n u) → (∃ u, v < u ∧ u ≤ 10 ∧ q + cA wt lt n (v + 1) = cB be wt n u + cA wt lt n u) → ∃ p, LX8_twos_5 w fu (nI q) (nI v) = some (nI p) ∧ (∀ u, 1 ≤ u → u ≤ 10 → p + cA wt lt n 1 ≤ cB be wt n u + cA wt lt n u) ∧ ∃ u, 1 ≤ u ∧ u ≤ 10 ∧ p + cA wt lt n 1 = cB be wt n u + cA wt lt n u := by
  have hn := h.2.1
  intro v
  induction v with
  | zero =>
    intro fu q _ hf _ h1 h2
    obtain ⟨fu, rfl⟩ : ∃ f, fu = f + 1 := ⟨fu - 1, by omega⟩
    rw [LX8_twos_5, if_pos (by decide)]
    exact ⟨q, rfl, fun u a b => h1 u (by omega) b, by
      obtain ⟨u, a, b, c⟩ := h2
      exact ⟨u, by omega, b, c⟩⟩
  | succ v ih =>
    intro fu q hv hf hq h1 h2
    obtain ⟨fu, rfl⟩ : ∃ f, fu = f + 1 := ⟨fu - 1, by omega⟩
    have l1 := light_loop h (v := v + 1) (by omega) 1000 0 (by omega) (by omega)
    have l2 := bear_loop h (v := v + 1) (by omega) 1000 0 (by omega) (by omega)
    have f1 : fX8_lightOnes w (nI (v + 1)) = some (nI (ct (fun i => lt i && decide (wt i = v + 1)) n)) := bdE (show LX8_lightOnes_4 (nI (v + 1)) w 1000 0 0 = _ from l1) rfl
    have f2 : fX8_bearersOf w (nI (v + 1)) = some (nI (cB be wt n (v + 1))) := bdE (show LX8_bearersOf_4 (nI (v + 1)) w 1000 0 0 = _ from l2) rfl
    have la := ct_len (fun i => lt i && decide (wt i = v + 1)) n
    have lb : cB be wt n (v + 1) ≤ n := ct_len _ n
    have e : cA wt lt n (v + 2) = cA wt lt n (v + 1) + ct (fun i => lt i && decide (wt i = v + 1)) n := ct_or n (fun k _ => by
      simp
      constructor
      · constructor
        · rintro ⟨a, b⟩
          by_cases c : wt k = v + 1
          · exact Or.inr ⟨a, c⟩
          · exact Or.inl ⟨a, by omega⟩
        · rintro (⟨a, b⟩ | ⟨a, b⟩)
          · exact ⟨a, by omega⟩
          · exact ⟨a, by omega⟩
      · intro _ a _
        omega)
    rw [LX8_twos_5, show (1 : Int32) = nI 1 from rfl, iflt (by omega) (by omega), if_neg (by omega), f1, f2]
    simp only [bd1s]
    rw [nI_add, iflt (by omega) (by omega), show nI (v + 1) - nI 1 = nI v from nI_pred v]
    rw [show v + 1 + 1 = v + 2 from rfl, e] at h1 h2
    by_cases c : cB be wt n (v + 1) < q + ct (fun i => lt i && decide (wt i = v + 1)) n
    · rw [if_pos c]
      refine ih fu _ (by omega) (by omega) (by omega) (fun u a b => ?_) ⟨v + 1, by omega, by omega, rfl⟩
      by_cases d : u = v + 1
      · rw [d]
        exact Nat.le_refl _
      · have := h1 u (by omega) b
        omega
    · rw [if_neg c]
      refine ih fu _ (by omega) (by omega) (by omega) (fun u a b => ?_) (by
        obtain ⟨u, a, b, c⟩ := h2
        exact ⟨u, by omega, b, by omega⟩)
      by_cases d : u = v + 1
      · rw [d]
        omega
      · have := h1 u (by omega) b
        omega
end TX
