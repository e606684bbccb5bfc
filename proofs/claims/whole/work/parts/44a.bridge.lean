/-! bridges: how far each comes without a shore -/
theorem sm_nat {f : Nat → Int32} {M : Nat} : ∀ n, (∀ k, k < n → ∃ v, v ≤ M ∧ f k = nI v) → ∃ s, s ≤ M * n ∧ sm f n = nI s
  | 0, _ => ⟨0, by omega, rfl⟩
  | n + 1, h => by
    obtain ⟨s, s1, s2⟩ := sm_nat n (fun k hk => h k (by omega))
    obtain ⟨v, v1, v2⟩ := h n (by omega)
    exact ⟨s + v, by rw [Nat.mul_succ]; omega, by unfold sm; rw [s2, v2, nI_add]⟩
theorem at1_nat {a b : Nat} (ha : a ≤ 1000) (hb : b ≤ 1000) : ∃ y, 1 ≤ y ∧ y ≤ 1000 ∧ at1 (nI a - nI b) = nI y := by
  unfold at1
  by_cases c : 1 ≤ nI a - nI b
  · rw [if_pos c]
    have h1 := pk_sub_toInt (a := a) (b := b) (by omega) (by omega)
    rw [i_le, h1] at c
    have h2 : (1 : Int32).toInt = 1 := rfl
    exact ⟨a - b, by omega, by omega, pk_sub (by omega)⟩
  · rw [if_neg c]
    exact ⟨1, by omega, by omega, rfl⟩
theorem sub_sub_n (a b c : Nat) : nI a - nI b - nI c = nI a - nI (b + c) := by
  rw [← nI_add]
  simp only [Int32.sub_eq_add_neg, Int32.neg_add, Int32.add_assoc]
section BR
variable {g : Mm} {n : Nat}
theorem yd_nat (hv : Vg g n) (hn : n ≤ 8) {u : Nat} (hu : u < n) {m : Nat} (h1 : 1 ≤ m) (h2 : m ≤ 200) : ∃ y, y ≤ 1000 ∧ yd g n u m = nI y ∧ (fm g n u < nI m → m % 5 ≠ 0 → 1 ≤ y) := by
  obtain ⟨⟨k, k1, k2⟩, ⟨t, t1, t2⟩, hr, ⟨s, s1, s2, s3⟩, -⟩ := hv.1 u hu
  obtain ⟨c, c1, c2⟩ := hv.2 m h1 h2
  by_cases hf : fm g n u < nI m
  · unfold yd
    unfold fm at hf
    by_cases q : g 5 u = -4
    · rw [if_pos q] at hf ⊢
      unfold yb
      have z : ¬ nI m ≤ g 3 u := by
        rw [t2, nI_leI (by omega) (by omega)]
        split at hf
        · rw [t2, nI_lit 3, nI_add, nI_ltI (by omega) (by omega)] at hf
          omega
        · rw [t2, nI_ltI (by omega) (by omega)] at hf
          omega
      rw [if_neg z]
      split
      · next y =>
        refine ⟨0, by omega, rfl, fun _ z2 => ?_⟩
        rcases y with ⟨-, y⟩ | ⟨y1, y2⟩
        · rw [md5_nI (by omega), nI_lit0, nI_eq (by omega) (by omega)] at y
          exact absurd y z2
        · rw [if_pos y1] at hf
          exact absurd hf y2
      · obtain ⟨l, l1, l2⟩ : ∃ l, l ≤ 9 * n ∧ ld g n u = nI l := sm_nat n (fun k hk => by
          obtain ⟨-, -, -, -, ⟨e, e1, e2, e3⟩⟩ := hv.1 k hk
          by_cases y : g 4 k = nI u
          · exact ⟨e, e2, by rw [if_pos y]; exact e3⟩
          · exact ⟨0, by omega, by rw [if_neg y]; rfl⟩)
        obtain ⟨d, d1, d2⟩ : ∃ d, d ≤ 5 ∧ tl2 g n u m = nI d := by
          obtain ⟨e, e1, e2⟩ : ∃ e, e ≤ 5 ∧ tk g n u m = nI e := by
            unfold tk
            split
            · exact ⟨0, by omega, rfl⟩
            · exact ⟨c, c1, c2⟩
          unfold tl2
          rw [e2]
          split
          · next y =>
            have y2 := y.2
            rw [nI_lit0, nI_ltI (by omega) (by omega)] at y2
            exact ⟨e - 1, by omega, pk_sub (b := 1) (by omega)⟩
          · exact ⟨e, by omega, by rw [Int32.sub_zero]⟩
        rw [s3, d2, l2, nI_lit 3, pk_div (by omega) (by omega) (by omega), sub_sub_n]
        obtain ⟨y, y1, y2, y3⟩ := at1_nat (a := s) (b := d + l / 3) (by omega) (by omega)
        exact ⟨y, y2, y3, fun _ _ => y1⟩
    · rw [if_neg q] at hf ⊢
      unfold yr
      have z := (mxR_lt (g := g) (r := g 5 u) h1 (by omega) n).mp hf
      rw [if_neg z]
      obtain ⟨l, l1, l2⟩ : ∃ l, l ≤ 9 * n ∧ sm (fun k => if g 5 k = g 5 u then g 0 k else 0) n = nI l := sm_nat n (fun k hk => by
        obtain ⟨-, -, -, ⟨e, e1, e2, e3⟩, -⟩ := hv.1 k hk
        by_cases y : g 5 k = g 5 u
        · exact ⟨e, e2, by rw [if_pos y]; exact e3⟩
        · exact ⟨0, by omega, by rw [if_neg y]; rfl⟩)
      rw [l2, c2, nI_lit 3, pk_div (by omega) (by omega) (by omega)]
      obtain ⟨y, y1, y2, y3⟩ := at1_nat (a := l / 3) (b := c) (by omega) (by omega)
      exact ⟨y, y2, y3, fun _ _ => y1⟩
  · exact ⟨0, by omega, yd_zero hv hu h1 h2 hf, fun q => absurd q hf⟩
/-- the yards behind minute m, no shore -/
def Sy (g : Mm) (n u : Nat) : Nat → Nat
  | 0 => 0
  | m + 1 => Sy g n u m + (yd g n u (m + 1)).toNatClampNeg
theorem Sy_s (hv : Vg g n) (hn : n ≤ 8) {u : Nat} (hu : u < n) {m : Nat} (h2 : m + 1 ≤ 200) : ∃ y, y ≤ 1000 ∧ yd g n u (m + 1) = nI y ∧ Sy g n u (m + 1) = Sy g n u m + y ∧ (fm g n u < nI (m + 1) → (m + 1) % 5 ≠ 0 → 1 ≤ y) := by
  obtain ⟨y, y1, y2, y3⟩ := yd_nat hv hn hu (m := m + 1) (by omega) h2
  refine ⟨y, y1, y2, ?_, y3⟩
  show Sy g n u m + (yd g n u (m + 1)).toNatClampNeg = _
  rw [y2, nI_clamp (by omega)]
theorem Sy_le (hv : Vg g n) (hn : n ≤ 8) {u : Nat} (hu : u < n) : ∀ m, m ≤ 200 → Sy g n u m ≤ 1000 * m
  | 0, _ => Nat.le_refl _
  | m + 1, h => by
    obtain ⟨y, y1, -, y3, -⟩ := Sy_s hv hn hu h
    have := Sy_le hv hn hu m (by omega)
    omega
theorem Sy_mono {u : Nat} : ∀ {a b : Nat}, a ≤ b → Sy g n u a ≤ Sy g n u b := by
  intro a b h
  induction b with
  | zero => rw [show a = 0 by omega]; exact Nat.le_refl _
  | succ b ih =>
    by_cases c : a = b + 1
    · rw [c]
      exact Nat.le_refl _
    · have := ih (by omega)
      have : Sy g n u b ≤ Sy g n u (b + 1) := Nat.le_add_right _ _
      omega
theorem Sy_far (hv : Vg g n) (hn : n ≤ 8) {u : Nat} (hu : u < n) : 99 ≤ Sy g n u 200 := by
  obtain ⟨f, f1, f2⟩ := fm_nat hv hu
  have key : ∀ m, m ≤ 200 → f ≤ m → m ≤ Sy g n u m + f + m / 5 := by
    intro m
    induction m with
    | zero => intro _ _; omega
    | succ m ih =>
      intro h1 h2
      obtain ⟨y, y1, y2, y3, y4⟩ := Sy_s hv hn hu h1
      rw [y3]
      by_cases c : f ≤ m
      · have := ih (by omega) c
        rw [f2, nI_ltI (by omega) (by omega)] at y4
        by_cases d : (m + 1) % 5 = 0
        · omega
        · have := y4 (by omega) d
          omega
      · omega
  have := key 200 (by omega) (by omega)
  omega
theorem fld0 (m : Nat) : fld 0 m = false := by
  unfold fld
  rw [decide_eq_false]
  rintro ⟨-, h⟩
  rw [show (0 : Int32) >>> (nI m - 1 &&& 31) = 0 from Int32.zero_shiftRight] at h
  exact absurd h (by decide)
/-- when a width is crossed -/
theorem fl_sum (hv : Vg g n) (hn : n ≤ 8) {u : Nat} (hu : u < n) {W : Nat} (hW : 1 ≤ W) (hW2 : W ≤ 99) : ∀ m, m ≤ 200 → (((fl g n 0 (nI W) u m).2 = 999 ∧ (fl g n 0 (nI W) u m).1 = nI (Sy g n u m) ∧ Sy g n u m < W) ∨ ∃ k, 1 ≤ k ∧ k ≤ m ∧ (fl g n 0 (nI W) u m).2 = nI k ∧ Sy g n u (k - 1) < W ∧ W ≤ Sy g n u k)
  | 0, _ => Or.inl ⟨rfl, rfl, hW⟩
  | m + 1, h => by
    obtain ⟨y, y1, y2, y3, -⟩ := Sy_s hv hn hu h
    rw [fl_s, fld0, if_neg (by decide)]
    rcases fl_sum hv hn hu hW hW2 m (by omega) with ⟨a1, a2, a3⟩ | ⟨k, k1, k2, k3, k4⟩
    · rw [if_pos a1, a2, y2, nI_add, ← y3]
      dsimp only
      rw [iflt (by omega) (by omega)]
      by_cases c : Sy g n u (m + 1) < W
      · rw [if_pos c]
        exact Or.inl ⟨rfl, rfl, c⟩
      · rw [if_neg c]
        exact Or.inr ⟨m + 1, by omega, by omega, rfl, a3, by omega⟩
    · rw [k3, if_neg (n999 (by omega))]
      exact Or.inr ⟨k, k1, by omega, k3, k4⟩
/-- it lands in minute k -/
def Ld (g : Mm) (n u W k : Nat) : Prop := 1 ≤ k ∧ k ≤ 200 ∧ Sy g n u (k - 1) < W ∧ W ≤ Sy g n u k
theorem Ld_one {u W k j : Nat} (h : Ld g n u W k) (h2 : Ld g n u W j) : k = j := by
  obtain ⟨a1, a2, a3, a4⟩ := h
  obtain ⟨b1, b2, b3, b4⟩ := h2
  rcases Nat.lt_trichotomy k j with c | c | c
  · have := Sy_mono (g := g) (n := n) (u := u) (show k ≤ j - 1 by omega)
    omega
  · exact c
  · have := Sy_mono (g := g) (n := n) (u := u) (show j ≤ k - 1 by omega)
    omega
theorem Ld_ex (hv : Vg g n) (hn : n ≤ 8) {u : Nat} (hu : u < n) {W : Nat} (hW : 1 ≤ W) (hW2 : W ≤ 99) : ∃ k, Ld g n u W k ∧ (fl g n 0 (nI W) u 200).2 = nI k := by
  have := Sy_far hv hn hu
  rcases fl_sum hv hn hu hW hW2 200 (by omega) with ⟨a1, a2, a3⟩ | ⟨k, k1, k2, k3, k4⟩
  · omega
  · exact ⟨k, ⟨k1, k2, k4⟩, k3⟩
end BR
