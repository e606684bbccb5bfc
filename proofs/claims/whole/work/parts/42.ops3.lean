/-! changes of starts and rides -/
section KR
variable {w w' τ τ' g : Mm} {n wd : Nat} {s c : Nat → Int32}
theorem Core.put (h : Core w τ n g wd) (o : Ok g n s c) (hx : ∀ a, 17 ≤ a → a ≤ 29 → a ≠ 21 → a ≠ 22 → w' a = w a) (h3 : w' 16 3 = w 16 3) (h4 : w' 16 4 = w 16 4) (x1 : ∀ i, i < n → w' 21 i = s i) (x2 : ∀ i, i < n → w' 22 i = c i) (hm : ∀ a, 2 ≤ a → a ≤ 17 → τ' a = τ a) (y1 : ∀ i, i < n → τ' 18 i = s i) (y2 : ∀ i, i < n → τ' 18 (8 + i) = c i) : Core w' τ' n (gs g s c) wd := by
  obtain ⟨h0, ⟨v1, -, v3⟩, h2, h3', h4', h5⟩ := h
  refine ⟨h0, ⟨v1, o, v3⟩, ⟨by rw [hx 17 (by omega) (by omega) (by omega) (by omega)]; exact h2.1, fun i hi => ?_⟩, ⟨fun i hi => ⟨x1 i hi, x2 i hi⟩, fun m a c => ?_, by rw [hx 17 (by omega) (by omega) (by omega) (by omega)]; exact h3'.2.2.1, by rw [h3]; exact h3'.2.2.2.1, by rw [h4]; exact h3'.2.2.2.2⟩, ?_, ⟨fun i hi => ⟨y1 i hi, y2 i hi⟩, fun m a c => ?_, by rw [hm 7 (by omega) (by omega)]; exact h5.2.2⟩⟩
  · rw [hx 18 (by omega) (by omega) (by omega) (by omega), hx 19 (by omega) (by omega) (by omega) (by omega), hx 20 (by omega) (by omega) (by omega) (by omega), hx 23 (by omega) (by omega) (by omega) (by omega), hx 24 (by omega) (by omega) (by omega) (by omega)]
    exact h2.2 i hi
  · rw [hx 29 (by omega) (by omega) (by omega) (by omega)]
    exact h3'.2.1 m a c
  · obtain ⟨q1, q4, q5, q6, R, rm, q8, q9, q10⟩ := h4'
    refine ⟨by rw [hm 2 (by omega) (by omega)]; exact q1, fun i hi => ?_, fun i hi => ?_, fun i hi => ?_, R, rm, q8, fun k hr => ?_, q10⟩
    · rw [hm 3 (by omega) (by omega), hm 4 (by omega) (by omega), hm 5 (by omega) (by omega)]
      exact q4 i hi
    · rw [raftOf_c (hm 12 (by omega) (by omega)) (hm 13 (by omega) (by omega))]
      exact q5 i hi
    · rw [ahead_c (hm 2 (by omega) (by omega)) (hm 14 (by omega) (by omega))]
      exact q6 i hi
    · rw [hm 13 (by omega) (by omega)]
      exact q9 k hr
  · rw [currentIn_c (hm 8 (by omega) (by omega)) (hm 9 (by omega) (by omega)) (hm 10 (by omega) (by omega))]
    exact h5.2.1 m a c
end KR
theorem op_restore {w τ : Mm} (h : Rel w τ) : Both (fX8_restore w) (fX9_restore τ) := by
  obtain ⟨n, g, wd, hc, ht, hch, hk, hse, htx⟩ := id h
  obtain ⟨t, t1, t2, t3, t4⟩ := id hk
  have hn := hc.1.2.1
  unfold fX8_restore fX9_restore fX3_pop fX1_clear
  rw [gqs hc.2.2.2.1.2.2.2.1]
  simp only [bd1s]
  cases t with
  | zero =>
    rw [t2, t3, if_neg (by decide), if_pos (by decide)]
    simp only [bd2s]
    rw [if_pos trivial]
    exact Both.mk h rfl rfl lookX.rf lookM.rf
  | succ t =>
    rw [t2, t3, if_pos (show (1 : Int32) ≤ nI (t + 1) from (nI_leI (a := 1) (by omega) (by omega)).2 (by omega)), if_neg (show ¬ nI (t + 1) = 0 from nI_ne0 (by omega) (by omega)), nI_pred]
    simp only [bd1s, pts]
    obtain ⟨T, r1, r2, r3⟩ := copy_spec (a := 144 + 16 * t) (b := 0) (by omega) (by omega) (by omega) (st τ 0 22 (nI t))
    rw [st_kj, st_kj, nI_lit 16, pk_mul, nI_lit 144, nI_add, show fX9_copy (st τ 0 22 (nI t)) (nI (144 + 16 * t)) 0 = some T from r1, nI_lit 8, pk_mul, nI_lit0, cyN (k1 := 42) (by omega) (by omega) (by omega) (by omega)]
    simp only [bd1s]
    rw [cp_a (c := 41) (by omega), st_kj, pk_mul, cyN (k1 := 43) (by omega) (by omega) (by omega) (by omega)]
    simp only [bd1s, bd2s, pts]
    rw [if_neg (show ¬ (1 : Int32) = nI 0 by decide), st_a (k := 37) (a := 41) (by omega), cp_a (c := 41) (by omega), cp_a (c := 41) (by omega), st_kj, st_ki (k := 0) (j := 21) (i := 22) (by omega), r2 0 (by omega), st_kj]
    obtain ⟨u1, u2⟩ := t4 t (by omega)
    have hW : ∀ a, a ≠ 41 → a ≠ 21 → a ≠ 22 → a ≠ 37 → st (cp (cp (st w 41 2 (nI t)) 42 21 (t * 8) 0 8) 43 22 (t * 8) 0 8) 37 3 (nI 0) a = w a := fun a q1 q2 q3 q4 => by rw [st_a q4, cp_a q3, cp_a q2, st_a q1]
    have hT : ∀ a, a ≠ 0 → a ≠ 18 → st T 0 21 (nI 0) a = τ a := fun a q1 q2 => by rw [st_a q1, r2 a q2, st_a q1]
    have h0 : ∀ j, j ≠ 21 → j ≠ 22 → st T 0 21 (nI 0) 0 j = τ 0 j := fun j q1 q2 => by rw [st_ki q1, r2 0 (by omega), st_ki q2]
    have h18 : ∀ j, 16 ≤ j → st T 0 21 (nI 0) 18 j = τ 18 j := fun j q1 => by rw [st_a (by omega), r3, if_neg (by omega), st_a (by omega)]
    have hlo : ∀ j, j < 16 → st T 0 21 (nI 0) 18 j = τ 18 (144 + 16 * t + j) := fun j q1 => by rw [st_a (by omega), r3, if_pos (by omega), st_a (by omega), Nat.sub_zero]
    refine ⟨_, _, _, rfl, rfl, n, gs g (fun i => τ 18 (144 + 16 * t + i)) (fun i => τ 18 (144 + 16 * t + 8 + i)), wd, hc.put u2 (fun a q r q1 q2 => hW a (by omega) q1 q2 (by omega)) (by rw [hW 16 (by omega) (by omega) (by omega) (by omega)]) (by rw [hW 16 (by omega) (by omega) (by omega) (by omega)]) (fun i hi => ?_) (fun i hi => ?_) (fun a q r => hT a (by omega) (by omega)) (fun i hi => hlo i (by omega)) (fun i hi => by rw [hlo (8 + i) (by omega), ← Nat.add_assoc]), ht.kept (hW 17 (by omega) (by omega) (by omega) (by omega)) (hW 25 (by omega) (by omega) (by omega) (by omega)) (hW 26 (by omega) (by omega) (by omega) (by omega)) (hT 8 (by omega) (by omega)) (hT 12 (by omega) (by omega)) (hT 16 (by omega) (by omega)) (hT 17 (by omega) (by omega)), ⟨0, by omega, st_kj, st_kj, fun k q => absurd q (by omega)⟩, ⟨t, by omega, ?_, ?_, fun k hk => ?_⟩, hse.kept (hW 44 (by omega) (by omega) (by omega) (by omega)) (hW 45 (by omega) (by omega) (by omega) (by omega)) (hW 46 (by omega) (by omega) (by omega) (by omega)) (h0 33 (by omega) (by omega)) (hT 24 (by omega) (by omega)) (hT 25 (by omega) (by omega)), htx.kept (hW 0 (by omega) (by omega) (by omega) (by omega)) (by rw [hW 16 (by omega) (by omega) (by omega) (by omega)]) (h0 1 (by omega) (by omega)) (hT 1 (by omega) (by omega))⟩
    · rw [st_a (by omega), cp_a (by omega), cp_at, if_pos (by omega), st_a (by omega), show t * 8 + (i - 0) = 8 * t + i by omega]
      exact (u1 i hi).1
    · rw [st_a (by omega), cp_at, if_pos (by omega), cp_a (by omega), st_a (by omega), show t * 8 + (i - 0) = 8 * t + i by omega]
      exact (u1 i hi).2
    · rw [st_a (by omega), cp_a (by omega), cp_a (by omega), st_kj]
    · rw [st_ki (by omega), r2 0 (by omega), st_kj]
    · obtain ⟨u3, u4⟩ := t4 k (by omega)
      refine ⟨fun i hi => ?_, u4.same (fun i hi => h18 _ (by omega)) (fun i hi => h18 _ (by omega))⟩
      rw [hW 42 (by omega) (by omega) (by omega) (by omega), hW 43 (by omega) (by omega) (by omega) (by omega), h18 _ (by omega), h18 _ (by omega)]
      exact u3 i hi
/-! the list of changes -/
theorem drop_spec {w : Mm} : ∃ w', fX1_dropOldest w = some w' ∧ (∀ a, a ≠ 37 → a ≠ 38 → a ≠ 39 → a ≠ 40 → w' a = w a) ∧ w' 37 3 = nI 7 ∧ ∀ k, k < 7 → w' 38 k = w 38 (k + 1) ∧ w' 39 k = w 39 (k + 1) ∧ w' 40 k = w 40 (k + 1) := by
  refine ⟨cp (cp (cp (st w 37 3 (nI 7)) 38 38 1 0 7) 39 39 1 0 7) 40 40 1 0 7, ?_, fun a q1 q2 q3 q4 => by rw [cp_a q4, cp_a q3, cp_a q2, st_a q1], by rw [cp_a (by omega), cp_a (by omega), cp_a (by omega), st_kj], fun k hk => ⟨?_, ?_, ?_⟩⟩
  · unfold fX1_dropOldest
    simp only [bd1s, pts]
    rw [st_kj, nI_lit 7, nI_lit 1, nI_lit0, cyN (k1 := 38) (by omega) (by omega) (by omega) (by omega)]
    simp only [bd1s]
    rw [cp_a (by omega), st_kj, cyN (k1 := 39) (by omega) (by omega) (by omega) (by omega)]
    simp only [bd1s]
    rw [cp_a (by omega), cp_a (by omega), st_kj, cyN (k1 := 40) (by omega) (by omega) (by omega) (by omega)]
    rfl
  · rw [cp_a (by omega), cp_a (by omega), cp_at, if_pos (by omega), st_a (by omega), Nat.sub_zero, Nat.add_comm]
  · rw [cp_a (by omega), cp_at, if_pos (by omega), cp_a (by omega), st_a (by omega), Nat.sub_zero, Nat.add_comm]
  · rw [cp_at, if_pos (by omega), cp_a (by omega), cp_a (by omega), st_a (by omega), Nat.sub_zero, Nat.add_comm]
/-- how many stay (e), how many are dropped (d) -/
def Ed (sz e d : Nat) : Prop := e ≤ 7 ∧ e + d = sz ∧ (d = 0 ∨ (d = 1 ∧ e = 7))
theorem Ed_of {sz : Nat} (h : sz ≤ 8) : ∃ e d, Ed sz e d := by
  by_cases c : sz = 8
  · exact ⟨7, 1, by omega, by omega, Or.inr ⟨rfl, rfl⟩⟩
  · exact ⟨sz, 0, by omega, by omega, Or.inl rfl⟩
def Noted (w w' : Mm) (i e d : Nat) : Prop := (∀ a, a ≠ 37 → a ≠ 38 → a ≠ 39 → a ≠ 40 → w' a = w a) ∧ w' 37 3 = nI (e + 1) ∧ (∀ k, k < e → w' 38 k = w 38 (k + d) ∧ w' 39 k = w 39 (k + d) ∧ w' 40 k = w 40 (k + d)) ∧ w' 38 e = nI i ∧ w' 39 e = w 21 i ∧ w' 40 e = w 22 i
theorem note_spec {w : Mm} {i sz e d : Nat} (hi : i < 8) (h1 : w 37 3 = nI sz) (h : Ed sz e d) : ∃ w', fX1_note w (nI i) = some w' ∧ Noted w w' i e d := by
  obtain ⟨e1, e2, e3⟩ := h
  obtain ⟨w1, f1, f2, f3, f4⟩ : ∃ w1, (if w 37 3 < 8 then some w else bd1 (fX1_dropOldest w) fun w3 => some w3) = some w1 ∧ (∀ a, a ≠ 37 → a ≠ 38 → a ≠ 39 → a ≠ 40 → w1 a = w a) ∧ w1 37 3 = nI e ∧ ∀ k, k < e → w1 38 k = w 38 (k + d) ∧ w1 39 k = w 39 (k + d) ∧ w1 40 k = w 40 (k + d) := by
    rw [h1, nI_lit 8, iflt (by omega) (by omega)]
    rcases e3 with c | ⟨c, c2⟩
    · subst c
      rw [if_pos (by omega)]
      exact ⟨w, rfl, fun _ _ _ _ _ => rfl, by rw [h1, ← e2]; rfl, fun k _ => ⟨rfl, rfl, rfl⟩⟩
    · subst c
      subst c2
      obtain ⟨w1, g1, g2, g3, g4⟩ := drop_spec (w := w)
      rw [if_neg (by omega), g1]
      exact ⟨w1, rfl, g2, g3, g4⟩
  unfold fX1_note
  rw [f1]
  simp only [bd1s, pts]
  rw [f3, wrN (k := 38) (j := e) (by omega) (by omega)]
  simp only [bd1s]
  rw [rdN (k := 21) (j := i) (by omega) (by omega)]
  simp only [bd1s]
  rw [st_a (k := 38) (a := 37) (by omega), f3, wrN (k := 39) (j := e) (by omega) (by omega)]
  simp only [bd1s]
  rw [rdN (k := 22) (j := i) (by omega) (by omega)]
  simp only [bd1s]
  rw [st_a (k := 39) (a := 37) (by omega), st_a (k := 38) (a := 37) (by omega), f3, wrN (k := 40) (j := e) (by omega) (by omega)]
  simp only [bd1s]
  rw [st_a (k := 40) (a := 37) (by omega), st_a (k := 39) (a := 37) (by omega), st_a (k := 38) (a := 37) (by omega), f3, nI_1]
  refine ⟨_, rfl, fun a q1 q2 q3 q4 => by rw [st_a q1, st_a q4, st_a q3, st_a q2, f2 a q1 q2 q3 q4], st_kj, fun k hk => ?_, ?_, ?_, ?_⟩
  · rw [st_a (a := 38) (by omega), st_a (a := 38) (by omega), st_a (a := 38) (by omega), st_ki (by omega), st_a (a := 39) (by omega), st_a (a := 39) (by omega), st_ki (by omega), st_a (a := 39) (by omega), st_a (a := 40) (by omega), st_ki (by omega), st_a (a := 40) (by omega), st_a (a := 40) (by omega)]
    exact f4 k hk
  · rw [st_a (by omega), st_a (by omega), st_a (by omega), st_kj]
  · rw [st_a (by omega), st_a (by omega), st_kj, st_a (by omega), f2 21 (by omega) (by omega) (by omega) (by omega)]
  · rw [st_a (by omega), st_kj, st_a (by omega), st_a (by omega), f2 22 (by omega) (by omega) (by omega) (by omega)]
theorem know_loop {τ : Mm} : ∀ (fu k : Nat) (τk : Mm), k ≤ 112 → 112 - k < fu → (∀ q, q ≠ 18 → τk q = τ q) → (∀ j, τk 18 j = if 16 ≤ j ∧ j < 16 + k then τ 18 (j + 16) else τ 18 j) → ∃ τ', LX9_know_11 fu (nI k) τk = some τ' ∧ (∀ q, q ≠ 18 → τ' q = τ q) ∧ ∀ j, τ' 18 j = if 16 ≤ j ∧ j < 128 then τ 18 (j + 16) else τ 18 j := by
  intro fu
  induction fu with
  | zero => intro k _ _ q; omega
  | succ fu ih =>
    intro k τk hk hf h1 h2
    rw [LX9_know_11, nI_lit 112, ifle (by omega) (by omega)]
    by_cases c : 112 ≤ k
    · rw [if_pos c]
      have : k = 112 := by omega
      subst this
      exact ⟨τk, rfl, h1, h2⟩
    · rw [if_neg c, nI_lit 32, nI_add, rdN (k := 18) (j := 32 + k) (by omega) (by omega), nI_lit 16, nI_add]
      simp only [bd1s]
      rw [wrN (k := 18) (j := 16 + k) (by omega) (by omega), nI_1]
      simp only [bd1s]
      refine ih (k + 1) _ (by omega) (by omega) (fun q hq => by rw [st_a hq, h1 q hq]) (fun j => ?_)
      by_cases z : j = 16 + k
      · subst z
        rw [st_kj, if_pos (by omega), h2, if_neg (by omega), show 32 + k = 16 + k + 16 by omega]
      · rw [st_ki z, h2]
        by_cases y : 16 ≤ j ∧ j < 16 + k
        · rw [if_pos y, if_pos (by omega)]
        · rw [if_neg y, if_neg (by omega)]
def Known (τ τ' : Mm) (e d : Nat) : Prop := (∀ q, q ≠ 0 → q ≠ 18 → τ' q = τ q) ∧ (∀ j, j ≠ 21 → τ' 0 j = τ 0 j) ∧ τ' 0 21 = nI (e + 1) ∧ (∀ j, j < 16 ∨ 144 ≤ j → τ' 18 j = τ 18 j) ∧ (∀ j, j < 16 * e → τ' 18 (16 + j) = τ 18 (16 + 16 * d + j)) ∧ ∀ j, j < 16 → τ' 18 (16 + 16 * e + j) = τ 18 j
theorem know_spec {τ : Mm} {sz e d : Nat} (h1 : τ 0 21 = nI sz) (h : Ed sz e d) : ∃ τ', fX9_know τ = some τ' ∧ Known τ τ' e d := by
  obtain ⟨e1, e2, e3⟩ := h
  obtain ⟨w1, f1, f2, f3, f4, f5, f6⟩ : ∃ w1, (if τ 0 21 = 8 then bd1 (LX9_know_11 1000 0 τ) fun (w6 : Mm) => bd1 (pt w6 0 21 ((w6 0 21) - 1)) fun w9 => some (w9) else some τ) = some w1 ∧ (∀ q, q ≠ 0 → q ≠ 18 → w1 q = τ q) ∧ (∀ j, j ≠ 21 → w1 0 j = τ 0 j) ∧ w1 0 21 = nI e ∧ (∀ j, j < 16 ∨ 144 ≤ j → w1 18 j = τ 18 j) ∧ ∀ j, j < 16 * e → w1 18 (16 + j) = τ 18 (16 + 16 * d + j) := by
    rw [h1, nI_lit 8, ifeq (by omega) (by omega)]
    rcases e3 with c | ⟨c, c2⟩
    · subst c
      rw [if_neg (by omega)]
      exact ⟨τ, rfl, fun _ _ _ => rfl, fun _ _ => rfl, by rw [h1, ← e2]; rfl, fun _ _ => rfl, fun _ _ => rfl⟩
    · subst c
      subst c2
      obtain ⟨T, g1, g2, g3⟩ := know_loop (τ := τ) 1000 0 τ (by omega) (by omega) (fun _ _ => rfl) (fun j => by rw [if_neg (by omega)])
      rw [if_pos (by omega), show LX9_know_11 1000 0 τ = some T from g1]
      simp only [bd1s, pts]
      rw [g2 0 (by omega), h1, ← e2, show (7 + 1 : Nat) = 7 + 1 from rfl, nI_pred]
      refine ⟨_, rfl, fun q q1 q2 => by rw [st_a q1, g2 q q2], fun j q => by rw [st_ki q, g2 0 (by omega)], st_kj, fun j q => by rw [st_a (by omega), g3, if_neg (by omega)], fun j q => by rw [st_a (by omega), g3, if_pos (by omega), show 16 + j + 16 = 16 + 16 * 1 + j by omega]⟩
  obtain ⟨T, r1, r2, r3⟩ := copy_spec (a := 0) (b := 16 + 16 * e) (by omega) (by omega) (by omega) w1
  unfold fX9_know
  rw [f1]
  simp only [bd1s, pts]
  rw [f4, nI_lit 16, pk_mul, nI_add, show fX9_copy w1 0 (nI (16 + 16 * e)) = some T from r1]
  simp only [bd1s]
  rw [r2 0 (by omega), f4, nI_1]
  refine ⟨_, rfl, fun q q1 q2 => by rw [st_a q1, r2 q q2, f2 q q1 q2], fun j q => by rw [st_ki q, r2 0 (by omega), f3 j q], st_kj, fun j q => by rw [st_a (by omega), r3, if_neg (by omega), f5 j q], fun j q => by rw [st_a (by omega), r3, if_neg (by omega), f6 j q], fun j q => by rw [st_a (by omega), r3, if_pos (by omega), show 0 + (16 + 16 * e + j - (16 + 16 * e)) = j by omega, f5 j (by omega)]⟩
