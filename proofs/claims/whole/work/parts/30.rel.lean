/-! THE TWO MEMORIES TOGETHER -/
/-- starts and rides that can be -/
def Ok (g : Mm) (n : Nat) (s c : Nat → Int32) : Prop := (∀ i, i < n → ∃ t, t ≤ 30 ∧ s i = nI t) ∧ (∀ i, i < n → c i ≠ -4 → ∃ j, j < n ∧ c i = nI j ∧ c j = -4) ∧ ∀ i, i < n → g 5 i ≠ -4 → c i = -4
/-- the numbers that a text tells for good -/
def Vs (g : Mm) (n : Nat) : Prop := (∀ i, i < n → (∃ k, k ≤ 3 ∧ g 2 i = nI k) ∧ (g 5 i = -4 ∨ ∃ r, r < 2 ∧ g 5 i = nI r) ∧ (∃ s, 1 ≤ s ∧ s ≤ 9 ∧ g 0 i = nI s) ∧ ∃ s, 1 ≤ s ∧ s ≤ 9 ∧ g 1 i = nI s) ∧ ∀ m, 1 ≤ m → m ≤ 200 → ∃ c, c ≤ 5 ∧ g 7 m = nI c
theorem Vg_of {g : Mm} {n : Nat} (h : Vs g n) (o : Ok g n (g 3) (g 4)) : Vg g n := ⟨fun i hi => ⟨(h.1 i hi).1, o.1 i hi, (h.1 i hi).2.1, (h.1 i hi).2.2.1, (h.1 i hi).2.2.2⟩, h.2⟩
theorem Rd_of {g : Mm} {n : Nat} (o : Ok g n (g 3) (g 4)) : Rd g n := o.2.1
def SX (w g : Mm) (n : Nat) : Prop := w 17 12 = nI n ∧ ∀ i, i < n → w 18 i = g 0 i ∧ w 19 i = g 1 i ∧ w 20 i = g 2 i ∧ w 23 i = g 5 i ∧ w 24 i = g 6 i
def SM (τ g : Mm) (n : Nat) : Prop := τ 2 0 = nI n ∧ (∀ i, i < n → τ 3 i = g 0 i ∧ τ 4 i = g 1 i ∧ τ 5 i = g 2 i) ∧
  (∀ i, i < n → fX9_raftOf τ (nI i) = some (g 5 i)) ∧ (∀ i, i < n → fX9_ahead τ (nI i) = some (g 6 i)) ∧
  ∃ (R : Nat) (rm : Nat → Nat), R ≤ 2 ∧ (∀ k, k < 3 * R → rm k < n ∧ τ 13 k = nI (rm k) ∧ g 5 (rm k) = nI (k / 3)) ∧ (∀ k j, k < 3 * R → j < 3 * R → rm k = rm j → k = j) ∧ ∀ i, i < n → g 5 i ≠ -4 → ∃ k, k < 3 * R ∧ rm k = i
/-- the river as it is laid, starts and rides as they are now: of the class, of the reference -/
def BX (w g : Mm) (n wd : Nat) : Prop := (∀ i, i < n → w 21 i = g 3 i ∧ w 22 i = g 4 i) ∧ (∀ m, 1 ≤ m → m ≤ 200 → w 29 m = g 7 m) ∧ w 17 13 = nI wd ∧ (w 16 3).toNatClampNeg = 17 ∧ (w 16 4).toNatClampNeg = 3
def BM (τ g : Mm) (n wd : Nat) : Prop := (∀ i, i < n → τ 18 i = g 3 i ∧ τ 18 (8 + i) = g 4 i) ∧ (∀ m, 1 ≤ m → m ≤ 200 → fX9_currentIn τ (nI m) = some (g 7 m)) ∧ τ 7 0 = nI wd
def Core (w τ : Mm) (n : Nat) (g : Mm) (wd : Nat) : Prop := (1 ≤ n ∧ n ≤ 8 ∧ 1 ≤ wd ∧ wd ≤ 99) ∧ (Vs g n ∧ Ok g n (g 3) (g 4) ∧ Vo g n) ∧ SX w g n ∧ BX w g n wd ∧ SM τ g n ∧ BM τ g n wd
/-- wants, harvests, counts -/
def Told (w τ : Mm) (n : Nat) : Prop := (∀ i, i < n → (w 25 i = -4 ∧ τ 16 i = 0) ∨ ∃ v, 1 ≤ v ∧ v ≤ 8 ∧ w 25 i = nI v ∧ τ 16 i = nI v) ∧ (∀ i, i < n → ∃ v, v ≤ 99 ∧ w 26 i = nI v ∧ τ 17 i = nI v) ∧ (∃ C, C ≤ 4 ∧ w 17 14 = nI C ∧ τ 8 0 = nI C) ∧ ∃ R, R ≤ 2 ∧ w 17 15 = nI R ∧ τ 12 0 = nI R
def bse (sz k : Nat) : Nat := if k = sz then 0 else 16 + 16 * k
def Chg (w τ : Mm) (n : Nat) (g : Mm) : Prop := ∃ sz, sz ≤ 8 ∧ w 37 3 = nI sz ∧ τ 0 21 = nI sz ∧ ∀ k, k < sz → (∃ c, c < n ∧ w 38 k = nI c ∧ ∀ i, i < n → τ 18 (16 + 16 * k + i) = (if i = c then w 39 k else τ 18 (bse sz (k + 1) + i)) ∧ τ 18 (16 + 16 * k + 8 + i) = (if i = c then w 40 k else τ 18 (bse sz (k + 1) + 8 + i))) ∧ Ok g n (fun i => τ 18 (16 + 16 * k + i)) (fun i => τ 18 (16 + 16 * k + 8 + i))
def Kept (w τ : Mm) (n : Nat) (g : Mm) : Prop := ∃ t, t ≤ 2 ∧ w 41 2 = nI t ∧ τ 0 22 = nI t ∧ ∀ k, k < t → (∀ i, i < n → w 42 (8 * k + i) = τ 18 (144 + 16 * k + i) ∧ w 43 (8 * k + i) = τ 18 (144 + 16 * k + 8 + i)) ∧ Ok g n (fun i => τ 18 (144 + 16 * k + i)) (fun i => τ 18 (144 + 16 * k + 8 + i))
def Seen (w τ : Mm) (n : Nat) : Prop := ∃ z, z ≤ 6 ∧ w 44 2 = nI z ∧ τ 0 33 = nI z ∧ ∀ k, k < z → ∃ i r, i < n ∧ 1 ≤ r ∧ r ≤ n ∧ w 45 k = nI i ∧ τ 24 k = nI i ∧ w 46 k = nI r ∧ τ 25 k = nI r
def Text (w τ : Mm) : Prop := ∃ len, len ≤ 200 ∧ w 16 1 = nI len ∧ τ 0 1 = nI len ∧ ∀ k, k < len → ∃ ch, 32 ≤ ch ∧ ch ≤ 126 ∧ w 0 k = nI ch ∧ τ 1 k = nI ch
def Rel (w τ : Mm) : Prop := ∃ (n : Nat) (g : Mm) (wd : Nat), Core w τ n g wd ∧ Told w τ n ∧ Chg w τ n g ∧ Kept w τ n g ∧ Seen w τ n ∧ Text w τ
theorem SM.kept {τ τ' g : Mm} {n : Nat} (h : SM τ g n) (hk : ∀ a, 1 ≤ a → a ≤ 17 → τ' a = τ a) : SM τ' g n := by
  obtain ⟨h1, h4, h5, h6, R, rm, h8, h9, h10⟩ := h
  refine ⟨by rw [hk 2 (by omega) (by omega)]; exact h1, fun i hi => ?_, fun i hi => ?_, fun i hi => ?_, R, rm, h8, fun k hr => ?_, h10⟩
  · rw [hk 3 (by omega) (by omega), hk 4 (by omega) (by omega), hk 5 (by omega) (by omega)]
    exact h4 i hi
  · rw [raftOf_c (hk 12 (by omega) (by omega)) (hk 13 (by omega) (by omega))]
    exact h5 i hi
  · rw [ahead_c (hk 2 (by omega) (by omega)) (hk 14 (by omega) (by omega))]
    exact h6 i hi
  · rw [hk 13 (by omega) (by omega)]
    exact h9 k hr
/-- what a look changes of the class, and of the reference -/
def lookX (w w' : Mm) : Prop := (∀ a, a ≤ 29 → w' a = w a) ∧ ∀ a, 37 ≤ a → a ≤ 46 → w' a = w a
def lookM (τ τ' : Mm) : Prop := (∀ a, 1 ≤ a → a ≤ 17 → τ' a = τ a) ∧ (∀ j, j < 176 → τ' 18 j = τ 18 j) ∧ τ' 24 = τ 24 ∧ τ' 25 = τ 25 ∧ τ' 0 1 = τ 0 1 ∧ τ' 0 21 = τ 0 21 ∧ τ' 0 22 = τ 0 22 ∧ τ' 0 33 = τ 0 33
theorem lookX.rf {w : Mm} : lookX w w := ⟨fun _ _ => rfl, fun _ _ _ => rfl⟩
theorem lookM.rf {w : Mm} : lookM w w := ⟨fun _ _ _ => rfl, fun _ _ => rfl, rfl, rfl, rfl, rfl, rfl, rfl⟩
theorem lookX.tr {a b c : Mm} (h : lookX a b) (k : lookX b c) : lookX a c := ⟨fun q r => (k.1 q r).trans (h.1 q r), fun q r s => (k.2 q r s).trans (h.2 q r s)⟩
theorem lookM.tr {a b c : Mm} (h : lookM a b) (k : lookM b c) : lookM a c := ⟨fun q r s => (k.1 q r s).trans (h.1 q r s), fun q r => (k.2.1 q r).trans (h.2.1 q r), k.2.2.1.trans h.2.2.1, k.2.2.2.1.trans h.2.2.2.1, k.2.2.2.2.1.trans h.2.2.2.2.1, k.2.2.2.2.2.1.trans h.2.2.2.2.2.1, k.2.2.2.2.2.2.1.trans h.2.2.2.2.2.2.1, k.2.2.2.2.2.2.2.trans h.2.2.2.2.2.2.2⟩
theorem Core.look {w w' τ τ' : Mm} {n wd : Nat} {g : Mm} (h : Core w τ n g wd) (hx : lookX w w') (hm : lookM τ τ') : Core w' τ' n g wd := by
  obtain ⟨h0, h1, h2, h3, h4, h5⟩ := h
  obtain ⟨x1, x2⟩ := hx
  obtain ⟨m1, m2, -⟩ := hm
  refine ⟨h0, h1, ⟨by rw [x1 17 (by omega)]; exact h2.1, fun i hi => ?_⟩, ⟨fun i hi => ?_, fun m a c => ?_, by rw [x1 17 (by omega)]; exact h3.2.2.1, by rw [x1 16 (by omega)]; exact h3.2.2.2.1, by rw [x1 16 (by omega)]; exact h3.2.2.2.2⟩, h4.kept m1, ⟨fun i hi => ?_, fun m a c => ?_, by rw [m1 7 (by omega) (by omega)]; exact h5.2.2⟩⟩
  · rw [x1 18 (by omega), x1 19 (by omega), x1 20 (by omega), x1 23 (by omega), x1 24 (by omega)]
    exact h2.2 i hi
  · rw [x1 21 (by omega), x1 22 (by omega)]
    exact h3.1 i hi
  · rw [x1 29 (by omega)]
    exact h3.2.1 m a c
  · rw [m2 i (by omega), m2 (8 + i) (by omega)]
    exact h5.1 i hi
  · rw [currentIn_c (m1 8 (by omega) (by omega)) (m1 9 (by omega) (by omega)) (m1 10 (by omega) (by omega))]
    exact h5.2.1 m a c
theorem Ok.same {g : Mm} {n : Nat} {s c s' c' : Nat → Int32} (h : Ok g n s c) (hs : ∀ i, i < n → s' i = s i) (hc : ∀ i, i < n → c' i = c i) : Ok g n s' c' := by
  refine ⟨fun i hi => by rw [hs i hi]; exact h.1 i hi, fun i hi q => ?_, fun i hi q => by rw [hc i hi]; exact h.2.2 i hi q⟩
  rw [hc i hi] at q ⊢
  obtain ⟨j, j1, j2, j3⟩ := h.2.1 i hi q
  exact ⟨j, j1, j2, by rw [hc j j1]; exact j3⟩
theorem Rel.look {w w' τ τ' : Mm} (h : Rel w τ) (hx : lookX w w') (hm : lookM τ τ') : Rel w' τ' := by
  obtain ⟨n, g, wd, h1, h2, h3, h4, h5, h6⟩ := h
  have hn := h1.1.2.1
  refine ⟨n, g, wd, h1.look hx hm, ?_, ?_, ?_, ?_, ?_⟩
  · obtain ⟨x1, x2⟩ := hx
    obtain ⟨m1, m2, -⟩ := hm
    refine ⟨fun i hi => ?_, fun i hi => ?_, ?_, ?_⟩
    · rw [x1 25 (by omega), m1 16 (by omega) (by omega)]
      exact h2.1 i hi
    · rw [x1 26 (by omega), m1 17 (by omega) (by omega)]
      exact h2.2.1 i hi
    · rw [x1 17 (by omega), m1 8 (by omega) (by omega)]
      exact h2.2.2.1
    · rw [x1 17 (by omega), m1 12 (by omega) (by omega)]
      exact h2.2.2.2
  · obtain ⟨x1, x2⟩ := hx
    obtain ⟨m1, m2, m3, m4, m5, m6, m7, m8⟩ := hm
    obtain ⟨sz, s1, s2, s3, s4⟩ := h3
    refine ⟨sz, s1, by rw [x2 37 (by omega) (by omega)]; exact s2, by rw [m6]; exact s3, fun k hk => ?_⟩
    obtain ⟨⟨c, c1, c2, c3⟩, o⟩ := s4 k hk
    refine ⟨⟨c, c1, by rw [x2 38 (by omega) (by omega)]; exact c2, fun i hi => ?_⟩, o.same (fun i hi => m2 _ (by omega)) (fun i hi => m2 _ (by omega))⟩
    have hb : bse sz (k + 1) ≤ 144 := by unfold bse; split <;> omega
    have hb2 : bse sz (k + 1) + 8 + i < 176 := by omega
    rw [m2 _ (by omega), m2 _ (by omega), m2 _ (by omega), m2 _ hb2, x2 39 (by omega) (by omega), x2 40 (by omega) (by omega)]
    exact c3 i hi
  · obtain ⟨x1, x2⟩ := hx
    obtain ⟨m1, m2, m3, m4, m5, m6, m7, m8⟩ := hm
    obtain ⟨t, s1, s2, s3, s4⟩ := h4
    refine ⟨t, s1, by rw [x2 41 (by omega) (by omega)]; exact s2, by rw [m7]; exact s3, fun k hk => ?_⟩
    obtain ⟨c3, o⟩ := s4 k hk
    refine ⟨fun i hi => ?_, o.same (fun i hi => m2 _ (by omega)) (fun i hi => m2 _ (by omega))⟩
    rw [m2 _ (by omega), m2 _ (by omega), x2 42 (by omega) (by omega), x2 43 (by omega) (by omega)]
    exact c3 i hi
  · obtain ⟨x1, x2⟩ := hx
    obtain ⟨m1, m2, m3, m4, m5, m6, m7, m8⟩ := hm
    obtain ⟨z, s1, s2, s3, s4⟩ := h5
    refine ⟨z, s1, by rw [x2 44 (by omega) (by omega)]; exact s2, by rw [m8]; exact s3, fun k hk => ?_⟩
    rw [x2 45 (by omega) (by omega), x2 46 (by omega) (by omega), m3, m4]
    exact s4 k hk
  · obtain ⟨x1, x2⟩ := hx
    obtain ⟨m1, m2, m3, m4, m5, m6, m7, m8⟩ := hm
    obtain ⟨len, s1, s2, s3, s4⟩ := h6
    refine ⟨len, s1, by rw [x1 16 (by omega)]; exact s2, by rw [m5]; exact s3, fun k hk => ?_⟩
    rw [x1 0 (by omega), m1 1 (by omega) (by omega)]
    exact s4 k hk
