section KB
variable {w τ : Mm} {N R : Nat} {rm : Nat → Nat}
/-- who may be laid so: rides on nobody, or on one who doesn't ride, and is in no raft -/
def gd (w : Mm) (N R : Nat) (rm : Nat → Nat) (i : Nat) : Prop := w 8 i = -4 ∨ ∃ j, j < N ∧ w 8 i = nI j ∧ w 8 j = -4 ∧ ∀ k, k < 3 * R → rm k ≠ i
theorem gd_j {i j : Nat} (hN : N ≤ 8) (hj : j < N) (e : w 8 i = nI j) : gd w N R rm i ↔ w 8 j = -4 ∧ ∀ k, k < 3 * R → rm k ≠ i := by
  constructor
  · rintro (z | ⟨t, t1, t2, t3, t4⟩)
    · rw [e] at z
      exact absurd z (nI_n4 (by omega))
    · rw [e] at t2
      rw [(nI_eq (by omega) (by omega)).mp t2]
      exact ⟨t3, t4⟩
  · rintro ⟨z1, z2⟩
    exact Or.inr ⟨j, hj, e, z1, z2⟩
theorem can_17 (hN : N ≤ 8) (s3 : τ 2 1 = nI N) (sB : SpB w τ N) (hR : R ≤ 2) (R3 : τ 12 1 = nI R) (R4 : ∀ k, k < 3 * R → rm k < N ∧ τ 13 (6 + k) = nI (rm k)) : ∀ (fu k : Nat) (b : Bool), k ≤ N → N - k < fu → ∃ b' : Bool, LX9_canBeLaid_17 τ fu (bI b) (nI k) = some (bI b') ∧ (b' = true ↔ b = true ∧ ∀ i, k ≤ i → i < N → gd w N R rm i) := by
  intro fu
  induction fu with
  | zero => intro k b _ h; omega
  | succ fu ih =>
    intro k b hk hf
    rw [LX9_canBeLaid_17, rd1 (by omega) (by omega), s3]
    simp only [bd1s]
    rw [ifle (by omega) (by omega)]
    by_cases c : N ≤ k
    · rw [if_pos c]
      exact ⟨b, rfl, fun z => ⟨z, fun i a1 a2 => by omega⟩, fun z => z.1⟩
    · rw [if_neg c, nI_lit 8, nI_add, rdN (k := 11) (j := 8 + k) (by omega) (by omega), nI_1]
      simp only [bd1s]
      have step : ∃ b1 : Bool, (if bI b = 0 then some (0 : Int32) else if τ 11 (8 + k) = -4 then some 1 else bd1 (rd τ 11 16 (nI 8 + τ 11 (8 + k))) fun v12 => if v12 = -4 then bd1 (fX9_isInRaft τ 1 (nI k)) fun v13 => if v13 = 0 then some 1 else some 0 else some 0) = some (bI b1) ∧ (b1 = true ↔ b = true ∧ gd w N R rm k) := by
        cases b
        · exact ⟨false, by rw [bI_f, if_pos rfl], fun z => (by cases z), fun z => (by cases z.1)⟩
        · rw [bI_t, if_neg (show ¬ (1 : Int32) = 0 by decide)]
          obtain ⟨-, -, -, -, f5, -, -⟩ := sB k (by omega)
          rcases f5 with ⟨g1, g2⟩ | ⟨j, j1, j2, j3, j4⟩
          · exact ⟨true, by rw [if_pos g2]; rfl, fun _ => ⟨by trivial, Or.inl g1⟩, fun _ => rfl⟩
          · have gj := gd_j (R := R) (rm := rm) hN j1 j3
            rw [if_neg (by rw [j4]; exact nI_n4 (by omega)), j4, nI_add, rdN (k := 11) (j := 8 + j) (by omega) (by omega)]
            simp only [bd1s]
            have ej : τ 11 (8 + j) = -4 ↔ w 8 j = -4 := by
              obtain ⟨-, -, -, -, f5, -, -⟩ := sB j j1
              rcases f5 with ⟨g1, g2⟩ | ⟨t, t1, t2, t3, t4⟩
              · exact ⟨fun _ => g1, fun _ => g2⟩
              · rw [t3, t4]
            by_cases d : τ 11 (8 + j) = -4
            · rw [if_pos d, inraft_up hR R3 R4 hN (i := k) (by omega)]
              simp only [bd1s]
              cases q : an (fun t => decide (rm t = k)) (3 * R)
              · refine ⟨true, by rw [bI_f, if_pos rfl]; rfl, fun _ => ⟨by trivial, gj.mpr ⟨ej.mp d, fun t ht z => ?_⟩⟩, fun _ => rfl⟩
                have : an (fun t => decide (rm t = k)) (3 * R) = true := an_iff.mpr ⟨t, ht, decide_eq_true z⟩
                rw [q] at this
                cases this
              · refine ⟨false, by rw [bI_t, if_neg (show ¬ (1 : Int32) = 0 by decide)]; rfl, fun z => (by cases z), fun z => ?_⟩
                obtain ⟨t, t1, t2⟩ := an_iff.mp q
                exact absurd (of_decide_eq_true t2) ((gj.mp z.2).2 t t1)
            · exact ⟨false, by rw [if_neg d]; rfl, fun z => (by cases z), fun z => absurd (ej.mpr (gj.mp z.2).1) d⟩
      obtain ⟨b1, e1, e2⟩ := step
      obtain ⟨b2, e3, e4⟩ := ih (k + 1) b1 (by omega) (by omega)
      refine ⟨b2, bdE e1 e3, e4.trans ⟨fun z => ⟨(e2.mp z.1).1, fun i a1 a2 => ?_⟩, fun z => ⟨e2.mpr ⟨z.1, z.2 k (by omega) (by omega)⟩, fun i a1 a2 => z.2 i (by omega) a2⟩⟩⟩
      by_cases y : i = k
      · rw [y]
        exact (e2.mp z.1).2
      · exact z.2 i (by omega) a2
theorem can_101 (R4 : ∀ k, k < 6 → rm k < N ∧ τ 13 (6 + k) = nI (rm k)) (hN : N ≤ 8) {k : Nat} (hk : k < 3) : ∀ (fu j : Nat) (b : Bool), j ≤ 3 → 3 - j < fu → ∃ b' : Bool, LX9_canBeLaid_101 τ (nI k) fu (bI b) (nI j) = some (bI b') ∧ (b' = true ↔ b = true ∧ ∀ t, j ≤ t → t < 3 → rm k ≠ rm (3 + t)) := by
  intro fu
  induction fu with
  | zero => intro j b _ h; omega
  | succ fu ih =>
    intro j b hj hf
    rw [LX9_canBeLaid_101, nI_lit 3, ifle (by omega) (by omega)]
    by_cases c : 3 ≤ j
    · rw [if_pos c]
      exact ⟨b, rfl, fun z => ⟨z, fun i a1 a2 => by omega⟩, fun z => z.1⟩
    · obtain ⟨p1, p2⟩ := R4 k (by omega)
      obtain ⟨q1, q2⟩ := R4 (3 + j) (by omega)
      rw [if_neg c, nI_lit 6, nI_add, nI_lit 9, nI_add, rdN (k := 13) (j := 6 + k) (by omega) (by omega), rdN (k := 13) (j := 9 + j) (by omega) (by omega), nI_1, p2, show 9 + j = 6 + (3 + j) by omega, q2]
      simp only [bd1s]
      rw [ifeq (by omega) (by omega)]
      have step : ∃ b1 : Bool, (if bI b = 0 then some (0 : Int32) else if rm k = rm (3 + j) then some 0 else some 1) = some (bI b1) ∧ (b1 = true ↔ b = true ∧ rm k ≠ rm (3 + j)) := by
        cases b
        · exact ⟨false, by rw [bI_f, if_pos rfl], fun z => (by cases z), fun z => (by cases z.1)⟩
        · rw [bI_t, if_neg (show ¬ (1 : Int32) = 0 by decide)]
          by_cases d : rm k = rm (3 + j)
          · exact ⟨false, by rw [if_pos d]; rfl, fun z => (by cases z), fun z => absurd d z.2⟩
          · exact ⟨true, by rw [if_neg d]; rfl, fun _ => ⟨by trivial, d⟩, fun _ => rfl⟩
      obtain ⟨b1, e1, e2⟩ := step
      obtain ⟨b2, e3, e4⟩ := ih (j + 1) b1 (by omega) (by omega)
      refine ⟨b2, bdE e1 e3, e4.trans ⟨fun z => ⟨(e2.mp z.1).1, fun i a1 a2 => ?_⟩, fun z => ⟨e2.mpr ⟨z.1, z.2 j (by omega) (by omega)⟩, fun i a1 a2 => z.2 i (by omega) a2⟩⟩⟩
      by_cases y : i = j
      · rw [y]
        exact (e2.mp z.1).2
      · exact z.2 i (by omega) a2
theorem can_84 (hR : R ≤ 2) (R3 : τ 12 1 = nI R) (R4 : ∀ k, k < 3 * R → rm k < N ∧ τ 13 (6 + k) = nI (rm k)) (hN : N ≤ 8) : ∀ (fu k : Nat) (b : Bool), k ≤ 3 → 3 - k < fu → ∃ b' : Bool, LX9_canBeLaid_84 τ fu (bI b) (nI k) = some (bI b') ∧ (b' = true ↔ b = true ∧ (R = 2 → ∀ i t, k ≤ i → i < 3 → t < 3 → rm i ≠ rm (3 + t))) := by
  intro fu
  induction fu with
  | zero => intro k b _ h; omega
  | succ fu ih =>
    intro k b hk hf
    rw [LX9_canBeLaid_84, nI_lit 3, ifle (by omega) (by omega)]
    by_cases c : 3 ≤ k
    · rw [if_pos c]
      exact ⟨b, rfl, fun z => ⟨z, fun _ i t a1 a2 => by omega⟩, fun z => z.1⟩
    · rw [if_neg c, rd1 (by omega) (by omega), R3]
      simp only [bd1s]
      rw [nI_lit 2, ifeq (by omega) (by omega)]
      by_cases d : R = 2
      · subst d
        rw [if_pos rfl]
        obtain ⟨b1, e1, e2⟩ := can_101 (τ := τ) R4 hN (k := k) (by omega) 1000 0 b (by omega) (by omega)
        obtain ⟨b2, e3, e4⟩ := ih (k + 1) b1 (by omega) (by omega)
        rw [nI_1]
        refine ⟨b2, bdE e1 e3, e4.trans ⟨fun z => ⟨(e2.mp z.1).1, fun q i t a1 a2 a3 => ?_⟩, fun z => ⟨e2.mpr ⟨z.1, fun t _ a3 => z.2 rfl k t (by omega) (by omega) a3⟩, fun q i t a1 a2 a3 => z.2 q i t (by omega) a2 a3⟩⟩⟩
        by_cases y : i = k
        · rw [y]
          exact (e2.mp z.1).2 t (by omega) a3
        · exact z.2 q i t (by omega) a2 a3
      · rw [if_neg d]
        exact ⟨b, rfl, fun z => ⟨z, fun q => absurd q d⟩, fun z => z.1⟩
/-- the class's look -/
theorem can_x (hN : N ≤ 8) (s2 : w 3 12 = nI N) (sB : SpB w τ N) (h9 : ∀ i, i < N → (w 9 i = -4 ∧ ∀ k, k < 3 * R → rm k ≠ i) ∨ ∃ k, k < 3 * R ∧ rm k = i ∧ w 9 i = nI (k / 3)) (hR : R ≤ 2) : ∀ (fu k : Nat), k ≤ N → N - k < fu → ∃ b' : Bool, LX6_canBeLaid_s_19 w fu (nI k) = some (bI b') ∧ (b' = true ↔ ∀ i, k ≤ i → i < N → gd w N R rm i) := by
  intro fu
  induction fu with
  | zero => intro k _ h; omega
  | succ fu ih =>
    intro k hk hf
    rw [LX6_canBeLaid_s_19, s2, ifle (by omega) (by omega)]
    by_cases c : N ≤ k
    · rw [if_pos c]
      exact ⟨true, rfl, fun _ i a1 a2 => by omega, fun _ => rfl⟩
    · obtain ⟨b2, e3, e4⟩ := ih (k + 1) (by omega) (by omega)
      have go : gd w N R rm k → (b2 = true ↔ ∀ i, k ≤ i → i < N → gd w N R rm i) := fun z => e4.trans ⟨fun y i a1 a2 => by
        by_cases u : i = k
        · rw [u]; exact z
        · exact y i (by omega) a2, fun y i a1 a2 => y i (by omega) a2⟩
      have no : ¬ gd w N R rm k → (false = true ↔ ∀ i, k ≤ i → i < N → gd w N R rm i) := fun z => ⟨fun y => (by cases y), fun y => absurd (y k (by omega) (by omega)) z⟩
      rw [if_neg c, rdN (k := 8) (j := k) (by omega) (by omega), rdN (k := 9) (j := k) (by omega) (by omega), nI_1]
      simp only [bd1s]
      obtain ⟨-, -, -, -, f5, -, -⟩ := sB k (by omega)
      rcases f5 with ⟨g1, g2⟩ | ⟨j, j1, j2, j3, j4⟩
      · rw [if_pos g1]
        exact ⟨b2, e3, go (Or.inl g1)⟩
      · have gj := gd_j (R := R) (rm := rm) hN j1 j3
        rw [if_neg (by rw [j3]; exact nI_n4 (by omega)), j3, has_s s2 hN (j := j) (by omega), decide_eq_true j1, bI_t, rdN (k := 8) (j := j) (by omega) (by omega)]
        simp only [bd1s]
        rw [if_neg (show ¬ (1 : Int32) = 0 by decide)]
        rcases h9 k (by omega) with ⟨y1, y2⟩ | ⟨t, t1, t2, t3⟩
        · rw [if_pos y1]
          by_cases d : w 8 j = -4
          · rw [if_pos d]
            exact ⟨b2, e3, go (gj.mpr ⟨d, y2⟩)⟩
          · rw [if_neg d]
            exact ⟨false, rfl, no (fun z => d (gj.mp z).1)⟩
        · rw [if_neg (by rw [t3]; exact nI_n4 (by omega))]
          exact ⟨false, rfl, no (fun z => (gj.mp z).2 t t1 t2)⟩
theorem can_both (hS : Sp w τ N) : ∃ b : Bool, fX6_canBeLaid_s w = some (bI b) ∧ fX9_canBeLaid τ = some (bI b) ∧ (b = true → 1 ≤ N ∧ ∃ (R : Nat) (rm : Nat → Nat), (R ≤ 2 ∧ w 3 15 = nI R ∧ τ 12 1 = nI R ∧ (∀ k, k < 3 * R → rm k < N ∧ τ 13 (6 + k) = nI (rm k)) ∧ (∀ k j, k < 3 * R → j < 3 * R → rm k = rm j → k = j) ∧ ∀ i, i < N → (w 9 i = -4 ∧ ∀ k, k < 3 * R → rm k ≠ i) ∨ ∃ k, k < 3 * R ∧ rm k = i ∧ w 9 i = nI (k / 3)) ∧ ∀ i, i < N → gd w N R rm i) := by
  obtain ⟨⟨s1, s2, s3⟩, sW, sB, sC, ⟨R, rm, R1, R2, R3, R4, R5, R6⟩, sV⟩ := hS
  obtain ⟨b1, e1, e2⟩ := can_17 (R := R) (rm := rm) s1 s3 sB R1 R3 R4 1000 0 (decide (0 < N)) (by omega) (by omega)
  obtain ⟨b2, e3, e4⟩ := can_84 R1 R3 R4 s1 1000 0 b1 (by omega) (by omega)
  have ref : fX9_canBeLaid τ = some (bI b2) := by
    unfold fX9_canBeLaid
    refine bdE (rd1 (by omega) (by omega)) (bdE (a := bI (decide (0 < N))) ?_ (bdE e1 (bdE e3 (bdE (gbI _) rfl))))
    rw [s3, nI_lit0, ifle (by omega) (by omega)]
    by_cases c : N ≤ 0
    · rw [if_pos c, decide_eq_false (by omega)]
      rfl
    · rw [if_neg c, decide_eq_true (by omega)]
      rfl
  rcases R6 with ⟨g1, g2, g3⟩ | ⟨g1, g2, k, j, k1, j1, z⟩
  · obtain ⟨b3, e5, e6⟩ := can_x (R := R) (rm := rm) s1 s2 sB g3 R1 1000 0 (by omega) (by omega)
    have key : b2 = true ↔ 1 ≤ N ∧ ∀ i, i < N → gd w N R rm i := by
      rw [e4, e2, decide_eq_true_eq]
      refine ⟨fun z => ⟨z.1.1, fun i hi => z.1.2 i (by omega) hi⟩, fun z => ⟨⟨z.1, fun i _ hi => z.2 i hi⟩, fun q i t _ a2 a3 y => ?_⟩⟩
      have := g2 i (3 + t) (by omega) (by omega) y
      omega
    refine ⟨b2, ?_, ref, fun z => ⟨(key.mp z).1, R, rm, ⟨R1, R2, R3, R4, g2, g3⟩, (key.mp z).2⟩⟩
    unfold fX6_canBeLaid_s
    rw [s2, show ((1 : Int32)) = nI 1 from rfl, iflt (by omega) (by omega), if_pos g1]
    by_cases c : N < 1
    · have : b2 = false := by
        cases b2
        · rfl
        · exact absurd (key.mp rfl).1 (by omega)
      rw [if_pos c, this]
      rfl
    · have : b2 = b3 := by
        have h : b2 = true ↔ b3 = true := key.trans ⟨fun z => e6.mpr (fun i _ hi => z.2 i hi), fun z => ⟨by omega, fun i hi => e6.mp z i (by omega) hi⟩⟩
        cases b2 <;> cases b3
        · rfl
        · exact absurd (h.mpr rfl) (by decide)
        · exact absurd (h.mp rfl) (by decide)
        · rfl
      rw [if_neg c, this]
      exact e5
  · have : b2 = false := by
      cases b2
      · rfl
      · exact absurd z ((e4.mp rfl).2 g2 k j (by omega) k1 j1)
    subst this
    refine ⟨false, ?_, ref, fun z => (by cases z)⟩
    unfold fX6_canBeLaid_s
    rw [g1, if_neg (show ¬ (1 : Int32) = 0 by decide)]
    split <;> rfl
end KB
