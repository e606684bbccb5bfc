theorem sm_add (f h : Nat → Int32) : ∀ n, sm (fun k => f k + h k) n = sm f n + sm h n
  | 0 => rfl
  | n + 1 => by
    unfold sm
    rw [sm_add f h n]
    simp only [Int32.add_assoc]
    rw [← Int32.add_assoc (sm h n), Int32.add_comm (sm h n), Int32.add_assoc]
theorem sm_zero : ∀ n, sm (fun _ => 0) n = 0
  | 0 => rfl
  | n + 1 => by
    unfold sm
    rw [sm_zero n]
    rfl
theorem sm_one {a : Nat} {v : Int32} : ∀ {n : Nat}, a < n → sm (fun k => if k = a then v else 0) n = v
  | 0, h => by omega
  | n + 1, h => by
    unfold sm
    by_cases ha : a = n
    · subst ha
      rw [if_pos rfl, sm_congr (g := fun _ => 0) (fun k hk => if_neg (by omega)), sm_zero, Int32.zero_add]
    · rw [sm_one (by omega), if_neg (by omega), Int32.add_zero]
theorem sm_three {n a b c : Nat} {f : Nat → Int32} {p : Nat → Prop} [DecidablePred p] (ha : a < n) (hb : b < n) (hc : c < n) (hab : a ≠ b) (hac : a ≠ c) (hbc : b ≠ c) (hp : ∀ k, k < n → (p k ↔ k = a ∨ k = b ∨ k = c)) : sm (fun k => if p k then f k else 0) n = f a + f b + f c := by
  have e : ∀ k, k < n → (if p k then f k else 0) = ((if k = a then f a else 0) + (if k = b then f b else 0)) + (if k = c then f c else 0) := by
    intro k hk
    have hq := hp k hk
    by_cases h1 : k = a
    · subst h1
      rw [if_pos (hq.mpr (Or.inl rfl)), if_pos rfl, if_neg hab, if_neg hac, Int32.add_zero, Int32.add_zero]
    · by_cases h2 : k = b
      · subst h2
        rw [if_pos (hq.mpr (Or.inr (Or.inl rfl))), if_neg h1, if_pos rfl, if_neg hbc, Int32.add_zero, Int32.zero_add]
      · by_cases h3 : k = c
        · subst h3
          rw [if_pos (hq.mpr (Or.inr (Or.inr rfl))), if_neg h1, if_neg h2, if_pos rfl, Int32.add_zero, Int32.zero_add]
        · rw [if_neg (fun q => by rcases hq.mp q with q | q | q <;> contradiction), if_neg h1, if_neg h2, if_neg h3, Int32.add_zero, Int32.add_zero]
  rw [sm_congr e, sm_add (fun k => (if k = a then f a else 0) + (if k = b then f b else 0)), sm_add (fun k => if k = a then f a else 0), sm_one ha, sm_one hb, sm_one hc]
section MR
variable {τ g : Mm} {b n m : Nat}
/-- the three of a raft -/
theorem raft_three (h : AM τ b n g) {r : Nat} {i : Nat} (hi : i < n) (hr : g 5 i = nI r) (hr2 : r < 2 ^ 31) : ∃ a1 a2 a3, (a1 < n ∧ a2 < n ∧ a3 < n) ∧ (a1 ≠ a2 ∧ a1 ≠ a3 ∧ a2 ≠ a3) ∧ r < 2 ∧ (τ 13 (3 * r) = nI a1 ∧ τ 13 (3 * r + 1) = nI a2 ∧ τ 13 (3 * r + 2) = nI a3) ∧ ∀ k, k < n → (g 5 k = nI r ↔ k = a1 ∨ k = a2 ∨ k = a3) := by
  obtain ⟨-, -, -, -, -, -, -, R, rm, h8, h9, h10, h11⟩ := h
  obtain ⟨k0, hk0, hk1⟩ := h11 i hi (by rw [hr]; exact nI_n4 hr2)
  have hk2 := (h9 k0 hk0).2.2
  rw [hk1, hr] at hk2
  have hk3 : r = k0 / 3 := (nI_eq hr2 (by omega)).mp hk2
  have g0 := h9 (3 * r) (by omega)
  have g1 := h9 (3 * r + 1) (by omega)
  have g2 := h9 (3 * r + 2) (by omega)
  refine ⟨rm (3 * r), rm (3 * r + 1), rm (3 * r + 2), ⟨g0.1, g1.1, g2.1⟩, ⟨fun q => ?_, fun q => ?_, fun q => ?_⟩, by omega, ⟨g0.2.1, g1.2.1, g2.2.1⟩, fun k hk => ⟨fun q => ?_, fun q => ?_⟩⟩
  · have := h10 _ _ (by omega) (by omega) q; omega
  · have := h10 _ _ (by omega) (by omega) q; omega
  · have := h10 _ _ (by omega) (by omega) q; omega
  · obtain ⟨j, hj, hj1⟩ := h11 k hk (by rw [q]; exact nI_n4 hr2)
    have hj2 := (h9 j hj).2.2
    rw [hj1, q] at hj2
    have hj3 : r = j / 3 := (nI_eq hr2 (by omega)).mp hj2
    rcases (show j = 3 * r ∨ j = 3 * r + 1 ∨ j = 3 * r + 2 by omega) with e | e | e
    · left; rw [← hj1, e]
    · right; left; rw [← hj1, e]
    · right; right; rw [← hj1, e]
  · rcases q with q | q | q
    · rw [q, g0.2.2, show 3 * r / 3 = r by omega]
    · rw [q, g1.2.2, show (3 * r + 1) / 3 = r by omega]
    · rw [q, g2.2.2, show (3 * r + 2) / 3 = r by omega]
theorem raftStroke_spec (h : AM τ b n g) {i r : Nat} (hi : i < n) (hr : g 5 i = nI r) (hr2 : r < 2 ^ 31) : fX9_raftStroke τ (nI b) (nI r) (nI m) (g 7 m) = some (yr g n (nI r) m) := by
  obtain ⟨a1, a2, a3, ⟨q1, q2, q3⟩, ⟨n12, n13, n23⟩, hr3, ⟨t1, t2, t3⟩, hq⟩ := raft_three h hi hr hr2
  have hn := h.2.1
  have hb := h.2.2.1
  have e1 := h.2.2.2.1 a1 q1
  have e2 := h.2.2.2.1 a2 q2
  have e3 := h.2.2.2.1 a3 q3
  unfold fX9_raftStroke yr
  rw [nI_lit 3, pk_mul]
  have stp : ∀ (fu k a : Nat) (acc : Int32), k < 3 * r + 3 → τ 13 k = nI a → a < n → LX9_raftStroke_8 (nI b) (nI r) (nI m) (g 7 m) τ (fu + 1) acc (nI k) = if g 3 a < nI m then LX9_raftStroke_8 (nI b) (nI r) (nI m) (g 7 m) τ fu (acc + g 0 a) (nI (k + 1)) else some 0 := by
    intro fu k a acc hk ha han
    have ea := h.2.2.2.1 a han
    rw [LX9_raftStroke_8, nI_lit 3, pk_mul, nI_add, ifle (by omega) (by omega), if_neg (by omega), rdN (k := 13) (j := k) (by omega) (by omega), ha]
    simp only [bd1s]
    rw [ix0, rdN (k := 18) (j := b + a) (by omega) (by omega), rdN (k := 3) (j := a) (by omega) (by omega), ea.2.2.2.1, ea.1, nI_1]
    simp only [bd1s]
  rw [show (1000 : Nat) = 999 + 1 from rfl, stp 999 _ a1 _ (by omega) t1 q1, show (999 : Nat) = 998 + 1 from rfl, stp 998 _ a2 _ (by omega) t2 q2, show (998 : Nat) = 997 + 1 from rfl, stp 997 _ a3 _ (by omega) t3 q3]
  have han : an (fun k => decide (g 5 k = nI r ∧ ¬ g 3 k < nI m)) n = true ↔ (¬ g 3 a1 < nI m ∨ ¬ g 3 a2 < nI m ∨ ¬ g 3 a3 < nI m) := by
    rw [an_iff]
    constructor
    · rintro ⟨k, hk, hd⟩
      obtain ⟨d1, d2⟩ := of_decide_eq_true hd
      rcases (hq k hk).mp d1 with e | e | e
      · left; rw [← e]; exact d2
      · right; left; rw [← e]; exact d2
      · right; right; rw [← e]; exact d2
    · rintro (d | d | d)
      · exact ⟨a1, q1, decide_eq_true ⟨(hq a1 q1).mpr (Or.inl rfl), d⟩⟩
      · exact ⟨a2, q2, decide_eq_true ⟨(hq a2 q2).mpr (Or.inr (Or.inl rfl)), d⟩⟩
      · exact ⟨a3, q3, decide_eq_true ⟨(hq a3 q3).mpr (Or.inr (Or.inr rfl)), d⟩⟩
  by_cases d1 : g 3 a1 < nI m
  · by_cases d2 : g 3 a2 < nI m
    · by_cases d3 : g 3 a3 < nI m
      · rw [if_pos d1, if_pos d2, if_pos d3, if_neg (by rw [han]; rintro (d | d | d) <;> contradiction), show (997 : Nat) = 996 + 1 from rfl, LX9_raftStroke_8, nI_lit 3, pk_mul, nI_add, ifle (by omega) (by omega), if_pos (by omega), at1_eq]
        rw [sm_three (f := g 0) (p := fun k => g 5 k = nI r) q1 q2 q3 n12 n13 n23 hq, Int32.zero_add]
      · rw [if_pos d1, if_pos d2, if_neg d3, if_pos (han.mpr (Or.inr (Or.inr d3)))]
    · rw [if_pos d1, if_neg d2, if_pos (han.mpr (Or.inr (Or.inl d2)))]
  · rw [if_neg d1, if_pos (han.mpr (Or.inl d1))]
end MR
