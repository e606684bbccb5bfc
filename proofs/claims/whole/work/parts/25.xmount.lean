/-- the class's memory holds the crossing g of n beasts -/
def AX (w : Mm) (n : Nat) (g : Mm) : Prop :=
  w 17 12 = nI n ∧ n ≤ 8 ∧ (w 30 6).toNatClampNeg = 17 ∧ ((w 30 7).toNatClampNeg = 29 ∨ (w 30 7).toNatClampNeg = 36) ∧ (∀ m, 1 ≤ m → m ≤ 200 → w (w 30 7).toNatClampNeg m = g 7 m) ∧
  (∀ i, i < n → w 18 i = g 0 i ∧ w 19 i = g 1 i ∧ w 20 i = g 2 i ∧ w 31 i = g 3 i ∧ w 32 i = g 4 i ∧ w 23 i = g 5 i ∧ w 24 i = g 6 i)
/-- the numbers of a crossing as a text tells them -/
def Vg (g : Mm) (n : Nat) : Prop := (∀ i, i < n → (∃ k, k ≤ 3 ∧ g 2 i = nI k) ∧ (∃ t, t ≤ 30 ∧ g 3 i = nI t) ∧ (g 5 i = -4 ∨ ∃ r, r < 2 ∧ g 5 i = nI r) ∧ (∃ s, 1 ≤ s ∧ s ≤ 9 ∧ g 0 i = nI s) ∧ (∃ s, 1 ≤ s ∧ s ≤ 9 ∧ g 1 i = nI s)) ∧ ∀ m, 1 ≤ m → m ≤ 200 → ∃ c, c ≤ 5 ∧ g 7 m = nI c
theorem AX.kept {w w' g : Mm} {n : Nat} (h : AX w n g) (h6 : w' 30 6 = w 30 6) (h7 : w' 30 7 = w 30 7) (hk : ∀ a, 17 ≤ a → a ≤ 36 → a ≠ 30 → a ≠ 33 → a ≠ 34 → a ≠ 35 → w' a = w a) : AX w' n g := by
  obtain ⟨h1, h2, h3, h4, h5, h8⟩ := h
  refine ⟨by rw [hk 17 (by omega) (by omega) (by omega) (by omega) (by omega) (by omega)]; exact h1, h2, by rw [h6]; exact h3, by rw [h7]; exact h4, fun m a b => ?_, fun i hi => ?_⟩
  · rw [h7]
    rcases h4 with q | q
    · have := h5 m a b
      rw [q] at this ⊢
      rw [hk 29 (by omega) (by omega) (by omega) (by omega) (by omega) (by omega)]
      exact this
    · have := h5 m a b
      rw [q] at this ⊢
      rw [hk 36 (by omega) (by omega) (by omega) (by omega) (by omega) (by omega)]
      exact this
  · rw [hk 18 (by omega) (by omega) (by omega) (by omega) (by omega) (by omega), hk 19 (by omega) (by omega) (by omega) (by omega) (by omega) (by omega), hk 20 (by omega) (by omega) (by omega) (by omega) (by omega) (by omega), hk 31 (by omega) (by omega) (by omega) (by omega) (by omega) (by omega), hk 32 (by omega) (by omega) (by omega) (by omega) (by omega) (by omega), hk 23 (by omega) (by omega) (by omega) (by omega) (by omega) (by omega), hk 24 (by omega) (by omega) (by omega) (by omega) (by omega) (by omega)]
    exact h8 i hi
def mxR (g : Mm) (r : Int32) : Nat → Int32
  | 0 => 0
  | k + 1 => if g 5 k = r then (if mxR g r k < g 3 k then g 3 k else mxR g r k) else mxR g r k
def hmn (g : Mm) : Nat → Int32
  | 0 => 201
  | k + 1 => if g 2 k = 2 then (if g 3 k < hmn g k then g 3 k else hmn g k) else hmn g k
def pu (g : Mm) (n u : Nat) : Int32 := if g 5 u = -4 then g 0 u - ld g n u / 3 else sm (fun k => if g 5 k = g 5 u then g 0 k else 0) n / 3
def kd (g : Mm) (u : Nat) : Int32 := if g 5 u = -4 then g 2 u else 4
def fm (g : Mm) (n u : Nat) : Int32 := if g 5 u = -4 then (if g 2 u = 3 then g 3 u + 3 else g 3 u) else mxR g (g 5 u) n
section XM
variable {w g : Mm} {n : Nat}
theorem has_in (h1 : w 17 12 = nI n) (hn : n ≤ 8) {j : Nat} (hj : j < 2 ^ 31) : fX6_has_l w (nI j) = some (bI (decide (j < n))) := by
  unfold fX6_has_l
  rw [if_neg (nI_pos hj), h1, ifle (by omega) hj]
  by_cases c : n ≤ j
  · rw [if_pos c]
    simp [bI, show ¬ j < n by omega]
  · rw [if_neg c]
    simp [bI, show j < n by omega]
theorem has_n4 : fX6_has_l w (-4) = some 0 := by
  unfold fX6_has_l
  rw [if_pos (by decide)]
theorem xload_loop (h : AX w n g) {i : Nat} : ∀ (fu k : Nat), k ≤ n → n - k < fu → LX4_mountBeast_4 (nI i) w fu (sm (fun k => if g 4 k = nI i then g 1 k else 0) k) (nI k) = some (ld g n i) := by
  obtain ⟨h1, h2, h3, -, -, h4⟩ := h
  intro fu
  induction fu with
  | zero => intro k _ h; omega
  | succ fu ih =>
    intro k hk hf
    rw [LX4_mountBeast_4]
    simp only [gqs h3, bd1s, h1]
    rw [ifle (by omega) (by omega)]
    by_cases hkn : n ≤ k
    · rw [if_pos hkn, show k = n by omega]
      rfl
    · rw [if_neg hkn]
      obtain ⟨-, e1, -, -, e4, -⟩ := h4 k (by omega)
      rw [rdN (k := 32) (j := k) (by omega) (by omega), e4, rdN (k := 19) (j := k) (by omega) (by omega), e1]
      simp only [bd1s]
      have hs := ih (k + 1) (by omega) (by omega)
      have ea : sm (fun k => if g 4 k = nI i then g 1 k else 0) (k + 1) = sm (fun k => if g 4 k = nI i then g 1 k else 0) k + (if g 4 k = nI i then g 1 k else 0) := rfl
      rw [ea] at hs
      rw [nI_1]
      by_cases c : g 4 k = nI i
      · simp only [c, if_true, bd1s] at hs ⊢
        exact hs
      · simp only [c, if_false, bd1s] at hs ⊢
        exact hs
theorem xhelp_loop (h : AX w n g) : ∀ (fu k : Nat), k ≤ n → n - k < fu → LX4_earliestHelp_6 w fu (hmn g k) (nI k) = some (hmn g n) := by
  obtain ⟨h1, h2, h3, -, -, h4⟩ := h
  intro fu
  induction fu with
  | zero => intro k _ h; omega
  | succ fu ih =>
    intro k hk hf
    rw [LX4_earliestHelp_6]
    simp only [gqs h3, bd1s, h1]
    rw [ifle (by omega) (by omega)]
    by_cases hkn : n ≤ k
    · rw [if_pos hkn, show k = n by omega]
    · rw [if_neg hkn]
      obtain ⟨-, -, e2, e3, -⟩ := h4 k (by omega)
      rw [rdN (k := 20) (j := k) (by omega) (by omega), e2, rdN (k := 31) (j := k) (by omega) (by omega), e3]
      simp only [bd1s]
      have hs := ih (k + 1) (by omega) (by omega)
      have ea : hmn g (k + 1) = if g 2 k = 2 then (if g 3 k < hmn g k then g 3 k else hmn g k) else hmn g k := rfl
      rw [ea] at hs
      rw [nI_1]
      by_cases c : g 2 k = 2
      · simp only [c, if_true, bd1s] at hs ⊢
        exact hs
      · simp only [c, if_false, bd1s] at hs ⊢
        exact hs
theorem xraft_loop {r : Int32} : ∀ (fu k : Nat) (w : Mm), AX w n g → k ≤ n → n - k < fu → w 30 13 = mxR g r k → ∃ w', LX4_mountRaft_9 r fu (sm (fun k => if g 5 k = r then g 0 k else 0) k) (nI k) w = some (w', sm (fun k => if g 5 k = r then g 0 k else 0) n) ∧ w' 30 13 = mxR g r n ∧ (∀ a, a ≠ 30 → w' a = w a) ∧ ∀ j, j ≠ 13 → w' 30 j = w 30 j := by
  intro fu
  induction fu with
  | zero => intro k w _ _ h; omega
  | succ fu ih =>
    intro k w h hk hf hx
    obtain ⟨h1, h2, h3, -, -, h4⟩ := id h
    rw [LX4_mountRaft_9]
    simp only [gqs h3, bd1s, h1]
    rw [ifle (by omega) (by omega)]
    by_cases hkn : n ≤ k
    · rw [if_pos hkn, show k = n by omega]
      rw [show k = n by omega] at hx
      exact ⟨w, rfl, hx, fun _ _ => rfl, fun _ _ => rfl⟩
    · rw [if_neg hkn]
      obtain ⟨e0, -, -, e3, -, e5, -⟩ := h4 k (by omega)
      rw [rdN (k := 23) (j := k) (by omega) (by omega), e5, rdN (k := 18) (j := k) (by omega) (by omega), e0, rdN (k := 31) (j := k) (by omega) (by omega), e3, hx]
      simp only [bd1s, pts]
      have ea : sm (fun k => if g 5 k = r then g 0 k else 0) (k + 1) = sm (fun k => if g 5 k = r then g 0 k else 0) k + (if g 5 k = r then g 0 k else 0) := rfl
      have eb : mxR g r (k + 1) = if g 5 k = r then (if mxR g r k < g 3 k then g 3 k else mxR g r k) else mxR g r k := rfl
      rw [nI_1]
      by_cases c : g 5 k = r
      · rw [if_pos c]
        simp only [bd2s]
        rw [if_pos c] at ea eb
        generalize hw : st w 30 13 (if mxR g r k < g 3 k then g 3 k else mxR g r k) = w2
        have f1 : ∀ a, a ≠ 30 → w2 a = w a := fun a q => by rw [← hw, st_a q]
        have f2 : ∀ j, j ≠ 13 → w2 30 j = w 30 j := fun j q => by rw [← hw, st_ki q]
        obtain ⟨w', r1, r2, r3, r4⟩ := ih (k + 1) w2 (h.kept (f2 6 (by omega)) (f2 7 (by omega)) (fun a _ _ q _ _ _ => f1 a q)) (by omega) (by omega) (by rw [eb, ← hw, st_kj])
        rw [ea] at r1
        exact ⟨w', r1, r2, fun a q => by rw [r3 a q, f1 a q], fun j q => by rw [r4 j q, f2 j q]⟩
      · rw [if_neg c]
        simp only [bd2s]
        rw [if_neg c] at ea eb
        rw [Int32.add_zero] at ea
        obtain ⟨w', r1, r2, r3, r4⟩ := ih (k + 1) w h (by omega) (by omega) (by rw [eb]; exact hx)
        rw [ea] at r1
        exact ⟨w', r1, r2, r3, r4⟩
/-- who moves is mounted: its pull, its kind, from when; when help begins -/
theorem mount_spec (h : AX w n g) (hr : Rd g n) {i : Nat} (hi : i < n) : ∃ w', fX4_mount w (nI i) = some w' ∧ w' 30 11 = pu g n (mv g i) ∧ w' 30 12 = kd g (mv g i) ∧ w' 30 13 = fm g n (mv g i) ∧ w' 30 10 = hmn g n ∧ (∀ a, a ≠ 30 → w' a = w a) ∧ ∀ j, (j < 10 ∨ 13 < j) → w' 30 j = w 30 j := by
  obtain ⟨h1, h2, h3, -, -, h4⟩ := id h
  obtain ⟨hu, hu2⟩ := mv_lt hr hi (by omega)
  unfold fX4_mount
  simp only [gqs h3, bd1s]
  rw [rdN (k := 32) (j := i) (by omega) (by omega), (h4 i hi).2.2.2.2.1]
  simp only [bd1s]
  have emv : (bd1 (fX6_has_l w (g 4 i)) fun v2 => bd1 (if v2 = 0 then some (nI i) else some (g 4 i)) fun v3 => (some v3 : Option Int32)) = some (nI (mv g i)) := by
    unfold mv
    by_cases c : g 4 i = -4
    · rw [if_pos c, c, has_n4]
      rfl
    · rw [if_neg c]
      obtain ⟨j, j1, j2, -⟩ := hr i hi c
      rw [j2, has_in h1 h2 (by omega), nI_clamp (by omega)]
      simp [bd1s, j1, bI]
  obtain ⟨v2, hv2, hq2⟩ := bs1 emv
  obtain ⟨v3, hv3, hq3⟩ := bs1 hq2
  cases hq3
  rw [hv2]
  simp only [bd1s]
  rw [hv3]
  simp only [bd1s]
  generalize mv g i = u at hu hu2 ⊢
  obtain ⟨e0, e1, e2, e3, e4, e5, e6⟩ := h4 u hu
  rw [rdN (k := 23) (j := u) (by omega) (by omega), e5]
  simp only [bd1s]
  have fin : ∀ w7 : Mm, w7 30 11 = pu g n u → w7 30 12 = kd g u → w7 30 13 = fm g n u → (∀ a, a ≠ 30 → w7 a = w a) → (∀ j, (j < 10 ∨ 13 < j) → w7 30 j = w 30 j) → ∃ w', (bd1 (fX4_earliestHelp w7) fun v12 => bd1 (pt w7 30 10 v12) fun w13 => some w13) = some w' ∧ w' 30 11 = pu g n u ∧ w' 30 12 = kd g u ∧ w' 30 13 = fm g n u ∧ w' 30 10 = hmn g n ∧ (∀ a, a ≠ 30 → w' a = w a) ∧ ∀ j, (j < 10 ∨ 13 < j) → w' 30 j = w 30 j := by
    intro w7 a1 a2 a3 a4 a5
    have hl := xhelp_loop (h.kept (w' := w7) (a5 6 (by omega)) (a5 7 (by omega)) (fun a _ _ q _ _ _ => a4 a q)) 1000 0 (by omega) (by omega)
    unfold fX4_earliestHelp
    rw [show (201 : Int32) = hmn g 0 from rfl, nI_lit0, hl]
    simp only [bd1s, pts]
    exact ⟨_, rfl, by rw [st_ki (by omega)]; exact a1, by rw [st_ki (by omega)]; exact a2, by rw [st_ki (by omega)]; exact a3, st_kj, fun a q => by rw [st_a q]; exact a4 a q, fun j q => by rw [st_ki (by omega)]; exact a5 j q⟩
  by_cases c : g 5 u = -4
  · rw [if_pos c]
    have hl := xload_loop (i := u) h 1000 0 (by omega) (by omega)
    unfold fX4_mountBeast
    rw [show (0 : Int32) = sm (fun k => if g 4 k = nI u then g 1 k else 0) 0 from rfl]
    rw [show LX4_mountBeast_4 (nI u) w 1000 (sm (fun k => if g 4 k = nI u then g 1 k else 0) 0) (sm (fun k => if g 4 k = nI u then g 1 k else 0) 0) = some (ld g n u) from hl]
    simp only [bd1s, gqs h3, pts]
    rw [rdN (k := 18) (j := u) (by omega) (by omega), e0]
    simp only [bd1s]
    rw [gqs (x := st w 30 11 (g 0 u - ld g n u / 3) 30 6) (by rw [st_ki (by omega)]; exact h3), rdN (k := 20) (j := u) (by omega) (by omega), st_a (by omega), e2]
    simp only [bd1s]
    rw [st_kj, rdN (k := 31) (j := u) (by omega) (by omega), st_a (by omega), st_a (by omega), e3]
    simp only [bd1s]
    have e7 : (if g 2 u = 3 then some (g 3 u + 3) else some (g 3 u)) = some (fm g n u) := by
      unfold fm
      rw [if_pos c]
      split <;> rfl
    rw [e7]
    simp only [bd1s]
    exact fin _ (by rw [st_ki (by omega), st_ki (by omega), st_kj, pu, if_pos c]) (by rw [st_ki (by omega), st_kj, kd, if_pos c]) st_kj (fun a q => by rw [st_a q, st_a q, st_a q]) (fun j q => by rw [st_ki (by omega), st_ki (by omega), st_ki (by omega)])
  · rw [if_neg c]
    unfold fX4_mountRaft
    simp only [bd1s, pts]
    obtain ⟨w2, r1, r2, r3, r4⟩ := xraft_loop (r := g 5 u) 1000 0 (st w 30 13 0) (h.kept (st_ki (by omega)) (st_ki (by omega)) (fun a _ _ q _ _ _ => st_a q)) (by omega) (by omega) st_kj
    rw [show sm (fun k => if g 5 k = g 5 u then g 0 k else 0) 0 = 0 from rfl, ← nI_lit0] at r1
    rw [r1]
    simp only [bd2s, bd1s]
    exact fin _ (by rw [st_ki (by omega), st_kj, pu, if_neg c]) (by rw [st_kj, kd, if_neg c]) (by rw [st_ki (by omega), st_ki (by omega), r2, fm, if_neg c]) (fun a q => by rw [st_a q, st_a q, r3 a q, st_a q]) (fun j q => by rw [st_ki (by omega), st_ki (by omega), r4 j (by omega), st_ki (by omega)])
end XM
