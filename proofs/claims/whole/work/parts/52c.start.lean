def yS (τ : Mm) : Mm := fun a j => if a = 2 ∨ a = 7 ∨ a = 8 ∨ a = 12 ∨ a = 15 then τ a (j - 1) else if a = 9 ∨ a = 10 then τ a (j - 4) else if a = 13 then τ a (j - 6) else τ a (j - 8)
theorem yS_1 {τ : Mm} {a : Nat} (h : a = 2 ∨ a = 7 ∨ a = 8 ∨ a = 12 ∨ a = 15) : yS τ a 1 = τ a 0 := by
  unfold yS
  rw [if_pos h]
theorem yS_4 {τ : Mm} {a j : Nat} (h : a = 9 ∨ a = 10) : yS τ a (4 + j) = τ a j := by
  unfold yS
  rw [if_neg (by omega), if_pos h, show 4 + j - 4 = j by omega]
theorem yS_6 {τ : Mm} {j : Nat} : yS τ 13 (6 + j) = τ 13 j := by
  unfold yS
  rw [if_neg (by omega), if_neg (by omega), if_pos rfl, show 6 + j - 6 = j by omega]
theorem yS_8 {τ : Mm} {a j : Nat} (h : a = 3 ∨ a = 4 ∨ a = 5 ∨ a = 6 ∨ a = 11 ∨ a = 14 ∨ a = 16 ∨ a = 17) : yS τ a (8 + j) = τ a j := by
  unfold yS
  rw [if_neg (by omega), if_neg (by omega), if_neg (by omega), show 8 + j - 8 = j by omega]
def vS (i : Nat) : Nat := ([2, 0, 0, 0, 0, 1] : List Nat).getD i 0
theorem vS_inj : ∀ i, i < 6 → ∀ j, j < 6 → vS i = vS j → vS i ≠ 0 → i = j := by decide
set_option maxRecDepth 100000 in
theorem start_sp {w τ : Mm} (hx : chkX w = true) (hm : chkM τ = true) : Sp w (yS τ) 6 := by
  unfold chkX at hx
  unfold chkM at hm
  simp only [Bool.and_eq_true, decide_eq_true_eq] at hx hm
  obtain ⟨x4, x5, x6, x7, x8, x9, x10, x11, x12, x13, x14, z12, z13, z14, z15, z16, z17⟩ := hx
  obtain ⟨m2, m3, m4, m5, m6, m7, m8, m9, m10, m11, m12, m13, m14, m15, m16, m17, m18, n1, n21, n22, n33⟩ := hm
  have e4 := fun (i : Nat) (hi : i < 6) => eqs_at x4 (i := i) hi
  have e5 := fun (i : Nat) (hi : i < 6) => eqs_at x5 (i := i) hi
  have e6 := fun (i : Nat) (hi : i < 6) => eqs_at x6 (i := i) hi
  have e7 := fun (i : Nat) (hi : i < 6) => eqs_at x7 (i := i) hi
  have e8 := fun (i : Nat) (hi : i < 6) => eqs_at x8 (i := i) hi
  have e9 := fun (i : Nat) (hi : i < 6) => eqs_at x9 (i := i) hi
  have e10 := fun (i : Nat) (hi : i < 6) => eqs_at x10 (i := i) hi
  have e11 := fun (i : Nat) (hi : i < 6) => eqs_at x11 (i := i) hi
  have e12 := fun (i : Nat) (hi : i < 6) => eqs_at x12 (i := i) hi
  have e13 := fun (i : Nat) (hi : i < 2) => eqs_at x13 (i := i) hi
  have e14 := fun (i : Nat) (hi : i < 2) => eqs_at x14 (i := i) hi
  have f3 := fun (i : Nat) (hi : i < 6) => eqs_at m3 (i := i) hi
  have f4 := fun (i : Nat) (hi : i < 6) => eqs_at m4 (i := i) hi
  have f5 := fun (i : Nat) (hi : i < 6) => eqs_at m5 (i := i) hi
  have f6 := fun (i : Nat) (hi : i < 6) => eqs_at m6 (i := i) hi
  have f9 := fun (i : Nat) (hi : i < 2) => eqs_at m9 (i := i) hi
  have f10 := fun (i : Nat) (hi : i < 2) => eqs_at m10 (i := i) hi
  have f11 := fun (i : Nat) (hi : i < 6) => eqs_at m11 (i := i) hi
  have f13 := fun (i : Nat) (hi : i < 3) => eqs_at m13 (i := i) hi
  have f14 := fun (i : Nat) (hi : i < 6) => eqs_at m14 (i := i) hi
  have f16 := fun (i : Nat) (hi : i < 6) => eqs_at m16 (i := i) hi
  have f17 := fun (i : Nat) (hi : i < 6) => eqs_at m17 (i := i) hi
  refine ⟨⟨by omega, z12, by rw [yS_1 (by omega)]; exact eqs_at m2 (i := 0) (by decide)⟩, ⟨40, by omega, by omega, z13, by rw [yS_1 (by omega)]; exact eqs_at m7 (i := 0) (by decide)⟩, fun i hi => ?_, ⟨2, by omega, z14, by rw [yS_1 (by omega)]; exact eqs_at m8 (i := 0) (by decide), fun k hk => ?_⟩, ⟨1, fun k => 3 + k, by omega, z15, by rw [yS_1 (by omega)]; exact eqs_at m12 (i := 0) (by decide), fun k hk => ?_, fun k j hk hj _ e => by dsimp only at e; omega, Or.inl ⟨z17, fun k j hk hj e => by dsimp only at e; omega, fun i hi => ?_⟩⟩, ⟨2, vS, z16, by rw [yS_1 (by omega)]; exact eqs_at m15 (i := 0) (by decide), by decide, fun i hi => ?_, fun i j hi hj => vS_inj i hi j hj⟩⟩
  · rw [yS_8 (by omega), yS_8 (by omega), yS_8 (by omega), yS_8 (by omega), yS_8 (by omega), yS_8 (by omega), yS_8 (by omega), e4 i hi, e5 i hi, e6 i hi, e7 i hi, e8 i hi, e11 i hi, e12 i hi, f3 i hi, f4 i hi, f5 i hi, f6 i hi, f11 i hi, f16 i hi, f17 i hi]
    match i, hi with
    | 0, _ => exact ⟨⟨3, by omega, by omega, rfl, rfl⟩, ⟨1, by omega, by omega, rfl, rfl⟩, ⟨1, by omega, rfl, rfl⟩, ⟨0, by omega, rfl, rfl⟩, Or.inr ⟨1, by omega, by omega, rfl, rfl⟩, Or.inr ⟨1, by omega, by omega, rfl, rfl⟩, ⟨12, by omega, rfl, rfl⟩⟩
    | 1, _ => exact ⟨⟨5, by omega, by omega, rfl, rfl⟩, ⟨8, by omega, by omega, rfl, rfl⟩, ⟨0, by omega, rfl, rfl⟩, ⟨2, by omega, rfl, rfl⟩, Or.inl ⟨rfl, rfl⟩, Or.inr ⟨3, by omega, by omega, rfl, rfl⟩, ⟨30, by omega, rfl, rfl⟩⟩
    | 2, _ => exact ⟨⟨7, by omega, by omega, rfl, rfl⟩, ⟨6, by omega, by omega, rfl, rfl⟩, ⟨2, by omega, rfl, rfl⟩, ⟨0, by omega, rfl, rfl⟩, Or.inl ⟨rfl, rfl⟩, Or.inr ⟨1, by omega, by omega, rfl, rfl⟩, ⟨7, by omega, rfl, rfl⟩⟩
    | 3, _ => exact ⟨⟨4, by omega, by omega, rfl, rfl⟩, ⟨3, by omega, by omega, rfl, rfl⟩, ⟨3, by omega, rfl, rfl⟩, ⟨0, by omega, rfl, rfl⟩, Or.inl ⟨rfl, rfl⟩, Or.inl ⟨rfl, rfl⟩, ⟨0, by omega, rfl, rfl⟩⟩
    | 4, _ => exact ⟨⟨6, by omega, by omega, rfl, rfl⟩, ⟨4, by omega, by omega, rfl, rfl⟩, ⟨0, by omega, rfl, rfl⟩, ⟨1, by omega, rfl, rfl⟩, Or.inl ⟨rfl, rfl⟩, Or.inl ⟨rfl, rfl⟩, ⟨0, by omega, rfl, rfl⟩⟩
    | 5, _ => exact ⟨⟨2, by omega, by omega, rfl, rfl⟩, ⟨2, by omega, by omega, rfl, rfl⟩, ⟨0, by omega, rfl, rfl⟩, ⟨0, by omega, rfl, rfl⟩, Or.inl ⟨rfl, rfl⟩, Or.inl ⟨rfl, rfl⟩, ⟨0, by omega, rfl, rfl⟩⟩
    | j + 6, h => omega
  · rw [yS_4 (by omega), yS_4 (by omega), e13 k hk, e14 k hk, f9 k hk, f10 k hk]
    match k, hk with
    | 0, _ => exact ⟨0, 1, by omega, by omega, rfl, rfl, rfl, rfl⟩
    | 1, _ => exact ⟨8, 2, by omega, by omega, rfl, rfl, rfl, rfl⟩
    | j + 2, h => omega
  · rw [yS_6, f13 k hk]
    match k, hk with
    | 0, _ => exact ⟨by decide, rfl⟩
    | 1, _ => exact ⟨by decide, rfl⟩
    | 2, _ => exact ⟨by decide, rfl⟩
    | j + 3, h => omega
  · rw [e9 i hi]
    match i, hi with
    | 0, _ => exact Or.inl ⟨rfl, fun k hk => by show 3 + k ≠ _; omega⟩
    | 1, _ => exact Or.inl ⟨rfl, fun k hk => by show 3 + k ≠ _; omega⟩
    | 2, _ => exact Or.inl ⟨rfl, fun k hk => by show 3 + k ≠ _; omega⟩
    | 3, _ => exact Or.inr ⟨0, by omega, rfl, rfl⟩
    | 4, _ => exact Or.inr ⟨1, by omega, rfl, rfl⟩
    | 5, _ => exact Or.inr ⟨2, by omega, rfl, rfl⟩
    | j + 6, h => omega
  · rw [yS_8 (by omega), e10 i hi, f14 i hi]
    match i, hi with
    | 0, _ => exact ⟨by decide, rfl, rfl⟩
    | 1, _ => exact ⟨by decide, rfl, rfl⟩
    | 2, _ => exact ⟨by decide, rfl, rfl⟩
    | 3, _ => exact ⟨by decide, rfl, rfl⟩
    | 4, _ => exact ⟨by decide, rfl, rfl⟩
    | 5, _ => exact ⟨by decide, rfl, rfl⟩
    | j + 6, h => omega
set_option maxRecDepth 100000 in
theorem start_rel : ∃ (r : Int32) (σ1 x4 τ : Mm), fX5_readText 118 σF 118 = some (r, σ1) ∧ fX6_settle_s σ1 = some x4 ∧ fX9_initTail zM = some τ ∧ Rel (σI x4) τ := by
  have hx0 := init_x0
  have hm0 := init_m0
  cases ex : fX5_readText 118 σF 118 with
  | none =>
    rw [ex] at hx0
    cases hx0
  | some q =>
    obtain ⟨r, σ1⟩ := q
    rw [ex] at hx0
    cases em : fX9_initTail zM with
    | none =>
      rw [em] at hm0
      cases hm0
    | some τ =>
      rw [em] at hm0
      have hx : chkX σ1 = true := hx0
      have hm : chkM τ = true := hm0
      have hS := start_sp hx hm
      obtain ⟨x4, p1, -⟩ := settle_ok hS
      refine ⟨r, σ1, x4, τ, rfl, p1, rfl, ?_⟩
      obtain ⟨⟨-, -, -⟩, -, sB, -, ⟨R, rm, R1, R2, R3, R4, R5, R6⟩, -⟩ := id hS
      unfold chkX at hx
      unfold chkM at hm
      simp only [Bool.and_eq_true, decide_eq_true_eq] at hx hm
      obtain ⟨-, -, -, -, x8, x9, -, -, -, -, -, -, -, -, z15, -, z17⟩ := hx
      obtain ⟨m2, m3, m4, m5, m6, m7, m8, m9, m10, m11, m12, m13, m14, m15, m16, m17, m18, n1, n21, n22, n33⟩ := hm
      have e8 := fun (i : Nat) (hi : i < 6) => eqs_at x8 (i := i) hi
      have e9 := fun (i : Nat) (hi : i < 6) => eqs_at x9 (i := i) hi
      have f6 := fun (i : Nat) (hi : i < 6) => eqs_at m6 (i := i) hi
      have f11 := fun (i : Nat) (hi : i < 6) => eqs_at m11 (i := i) hi
      have f13 := fun (i : Nat) (hi : i < 3) => eqs_at m13 (i := i) hi
      have f18 := fun (i : Nat) (hi : i < 14) => eqs_at m18 (i := i) hi
      refine laid_rel hS ⟨by omega, 1, fun k => 3 + k, ⟨by omega, z15, by rw [yS_1 (by omega)]; exact eqs_at m12 (i := 0) (by decide), fun k hk => ?_, fun k j hk hj e => by dsimp only at e; omega, fun i hi => ?_⟩, fun i hi => ?_⟩ p1 (fun a h1 h2 => ?_) (show (17 : Int32).toNatClampNeg = 17 by decide) (show (3 : Int32).toNatClampNeg = 3 by decide) (by rw [yS_1 (by omega)]) (by rw [yS_1 (by omega)]) (by rw [yS_1 (by omega)]) (by rw [yS_1 (by omega)]) (fun a z j hj => by rw [yS_8 (by omega)]) (fun j hj => ⟨by rw [yS_4 (by omega)], by rw [yS_4 (by omega)]⟩) (fun j hj => by rw [yS_6]) (fun j hj => ?_) rfl n21 rfl n22 rfl n33 ⟨0, by omega, rfl, n1, fun k hk => absurd hk (by omega)⟩
      · rw [yS_6, f13 k hk]
        match k, hk with
        | 0, _ => exact ⟨by decide, rfl⟩
        | 1, _ => exact ⟨by decide, rfl⟩
        | 2, _ => exact ⟨by decide, rfl⟩
        | j + 3, h => omega
      · rw [e9 i hi]
        match i, hi with
        | 0, _ => exact Or.inl ⟨rfl, fun k hk => by show 3 + k ≠ _; omega⟩
        | 1, _ => exact Or.inl ⟨rfl, fun k hk => by show 3 + k ≠ _; omega⟩
        | 2, _ => exact Or.inl ⟨rfl, fun k hk => by show 3 + k ≠ _; omega⟩
        | 3, _ => exact Or.inr ⟨0, by omega, rfl, rfl⟩
        | 4, _ => exact Or.inr ⟨1, by omega, rfl, rfl⟩
        | 5, _ => exact Or.inr ⟨2, by omega, rfl, rfl⟩
        | j + 6, h => omega
      · unfold gd
        match i, hi with
        | 0, _ => exact Or.inr ⟨1, by omega, e8 0 (by omega), e8 1 (by omega), fun k hk => by show 3 + k ≠ _; omega⟩
        | 1, _ => exact Or.inl (e8 1 (by omega))
        | 2, _ => exact Or.inl (e8 2 (by omega))
        | 3, _ => exact Or.inl (e8 3 (by omega))
        | 4, _ => exact Or.inl (e8 4 (by omega))
        | 5, _ => exact Or.inl (e8 5 (by omega))
        | j + 6, h => omega
      · match a, h1, h2 with
        | 3, _, _ => rfl
        | 4, _, _ => rfl
        | 5, _, _ => rfl
        | 6, _, _ => rfl
        | 7, _, _ => rfl
        | 8, _, _ => rfl
        | 9, _, _ => rfl
        | 10, _, _ => rfl
        | 11, _, _ => rfl
        | 12, _, _ => rfl
        | 13, _, _ => rfl
        | 14, _, _ => rfl
        | 15, _, _ => rfl
        | 0, h, _ => omega
        | 1, h, _ => omega
        | 2, h, _ => omega
        | j + 16, _, h => omega
      · rw [yS_8 (by omega), yS_8 (by omega), f18 j (by omega), f18 (8 + j) (by omega), f6 j hj, f11 j hj]
        match j, hj with
        | 0, _ => exact ⟨rfl, rfl⟩
        | 1, _ => exact ⟨rfl, rfl⟩
        | 2, _ => exact ⟨rfl, rfl⟩
        | 3, _ => exact ⟨rfl, rfl⟩
        | 4, _ => exact ⟨rfl, rfl⟩
        | 5, _ => exact ⟨rfl, rfl⟩
        | j + 6, h => omega
