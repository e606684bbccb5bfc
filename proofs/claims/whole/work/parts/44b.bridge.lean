/-- the best of those that lie in A: minute and voice -/
def Bst (V : Nat → Nat) (g : Mm) (n : Nat) (A : Nat → Prop) (W : Nat) (mn fs : Int32) : Prop :=
  (mn = 201 ∧ fs = -4 ∧ ∀ u, ¬ A u) ∨ ∃ b k, A b ∧ Ld g n b W k ∧ mn = nI k ∧ fs = nI b ∧ ∀ u j, A u → Ld g n u W j → k < j ∨ (k = j ∧ V b ≤ V u)
theorem Bst.cg {V : Nat → Nat} {g : Mm} {n : Nat} {A B : Nat → Prop} {W : Nat} {mn fs : Int32} (h : Bst V g n A W mn fs) (e : ∀ x, A x ↔ B x) : Bst V g n B W mn fs := by
  rcases h with ⟨a1, a2, a3⟩ | ⟨b, k, a1, a2, a3, a4, a5⟩
  · exact Or.inl ⟨a1, a2, fun u q => a3 u ((e u).mpr q)⟩
  · exact Or.inr ⟨b, k, (e b).mp a1, a2, a3, a4, fun u j q => a5 u j ((e u).mpr q)⟩
section BS
variable {w g : Mm} {n : Nat} {V : Nat → Nat} {A : Nat → Prop}
theorem offer_spec (h : AX w n g) (V1 : ∀ i, i < n → g 6 i = nI (V i) ∧ V i < 16) {W u k : Nat} (hW : 1 ≤ W) (hW2 : W ≤ 99) (hu : u < n) (hl : Ld g n u W k) (hA : ∀ x, A x → x < n) (hB : Bst V g n A W (w 48 W) (w 49 W)) : ∃ w', fX0_offer w (nI W) (nI k) (nI u) = some w' ∧ Bst V g n (fun x => A x ∨ x = u) W (w' 48 W) (w' 49 W) ∧ (∀ a, a ≠ 48 → a ≠ 49 → w' a = w a) ∧ ∀ X, X ≠ W → w' 48 X = w 48 X ∧ w' 49 X = w 49 X := by
  obtain ⟨x1, x2, x3, x4, x5, x6⟩ := id h
  have hk := hl.2.1
  have wrt : ∃ w', (bd1 (wr w 48 100 (nI W) (nI k)) fun w14 => bd1 (wr w14 49 100 (nI W) (nI u)) fun w15 => some w15) = some w' ∧ w' 48 W = nI k ∧ w' 49 W = nI u ∧ (∀ a, a ≠ 48 → a ≠ 49 → w' a = w a) ∧ ∀ X, X ≠ W → w' 48 X = w 48 X ∧ w' 49 X = w 49 X := by
    rw [wrN (k := 48) (j := W) (by omega) (by omega)]
    simp only [bd1s]
    rw [wrN (k := 49) (j := W) (by omega) (by omega)]
    exact ⟨_, rfl, by rw [st_a (by omega), st_kj], st_kj, fun a q1 q2 => by rw [st_a q2, st_a q1], fun X q => ⟨by rw [st_a (by omega), st_ki q], by rw [st_ki q, st_a (by omega)]⟩⟩
  unfold fX0_offer
  rw [rdN (k := 48) (j := W) (by omega) (by omega), rdN (k := 49) (j := W) (by omega) (by omega)]
  simp only [bd1s]
  rcases hB with ⟨a1, a2, a3⟩ | ⟨b, k', a1, a2, a3, a4, a5⟩
  · obtain ⟨w', e1, e2, e3, e4, e5⟩ := wrt
    rw [a1, show (201 : Int32) = nI 201 from rfl, ifle (by omega) (by omega), if_neg (show ¬ 201 ≤ k by omega), ifeq (by omega) (by omega), if_neg (show ¬ k = 201 by omega)]
    simp only [bd1s]
    rw [if_neg (show ¬ (1 : Int32) = 0 by decide)]
    simp only [bd1s]
    rw [if_pos trivial, e1]
    refine ⟨w', rfl, Or.inr ⟨u, k, Or.inr rfl, hl, e2, e3, fun x j q r => ?_⟩, e4, e5⟩
    rcases q with q | q
    · exact absurd q (a3 x)
    · subst q
      exact Or.inr ⟨Ld_one hl r, Nat.le_refl _⟩
  · have hk' := a2.2.1
    have hb := hA b a1
    rw [a3, a4, ifle (by omega) (by omega), ifeq (by omega) (by omega), has_in x1 x2 (by omega), decide_eq_true hb, bI_t, rdN (k := 24) (j := u) (by omega) (by omega), rdN (k := 24) (j := b) (by omega) (by omega), (x6 u hu).2.2.2.2.2.2, (x6 b hb).2.2.2.2.2.2, (V1 u hu).1, (V1 b hb).1]
    simp only [bd1s]
    have vu := (V1 u hu).2
    have vb := (V1 b hb).2
    rw [if_neg (show ¬ (1 : Int32) = 0 by decide), ifle (by omega) (by omega)]
    by_cases c : k < k' ∨ (k = k' ∧ V u < V b)
    · obtain ⟨w', e1, e2, e3, e4, e5⟩ := wrt
      have new : Bst V g n (fun x => A x ∨ x = u) W (w' 48 W) (w' 49 W) := by
        refine Or.inr ⟨u, k, Or.inr rfl, hl, e2, e3, fun x j q r => ?_⟩
        rcases q with q | q
        · have := a5 x j q r
          omega
        · subst q
          exact Or.inr ⟨Ld_one hl r, Nat.le_refl _⟩
      rcases c with c | ⟨c, c2⟩
      · rw [if_neg (show ¬ k' ≤ k by omega), if_neg (show ¬ k = k' by omega)]
        simp only [bd1s]
        rw [if_neg (show ¬ (1 : Int32) = 0 by decide)]
        simp only [bd1s]
        rw [if_pos trivial, e1]
        exact ⟨w', rfl, new, e4, e5⟩
      · rw [if_pos (show k' ≤ k by omega), if_pos c, if_neg (show ¬ V b ≤ V u by omega)]
        simp only [bd1s]
        rw [if_pos trivial, if_neg (show ¬ (1 : Int32) = 0 by decide)]
        simp only [bd1s]
        rw [if_pos trivial, e1]
        exact ⟨w', rfl, new, e4, e5⟩
    · have old : Bst V g n (fun x => A x ∨ x = u) W (w 48 W) (w 49 W) := by
        refine Or.inr ⟨b, k', Or.inl a1, a2, a3, a4, fun x j q r => ?_⟩
        rcases q with q | q
        · exact a5 x j q r
        · subst q
          have := Ld_one hl r
          omega
      have z : ((if k = k' then (if V b ≤ V u then some (0 : Int32) else some 1) else some 0)) = some (0 : Int32) := by
        split
        · rw [if_pos (by omega)]
        · rfl
      rw [if_pos (show k' ≤ k by omega), z]
      simp only [bd1s]
      rw [if_pos trivial, if_pos trivial]
      simp only [bd1s]
      rw [if_neg (by decide)]
      exact ⟨w, rfl, old, fun _ _ _ => rfl, fun _ _ => ⟨rfl, rfl⟩⟩
theorem off_loop (V1 : ∀ i, i < n → g 6 i = nI (V i) ∧ V i < 16) (hA : ∀ x, A x → x < n) {u k lo far : Nat} (hu : u < n) (hk : ∀ X, lo ≤ X → X ≤ far → Ld g n u X k) (hfar : far ≤ 99) (hlo : 1 ≤ lo) : ∀ (fu c : Nat) (w : Mm), AX w n g → lo ≤ c → c ≤ far + 1 → far + 1 - c < fu → (∀ X, 1 ≤ X → X ≤ 99 → Bst V g n (fun x => A x ∨ (x = u ∧ X < c)) X (w 48 X) (w 49 X)) → ∃ w', LX0_crossWidest_57 (nI u) (nI k) fu (nI far) (nI c) w = some (w', nI far) ∧ (∀ X, 1 ≤ X → X ≤ 99 → Bst V g n (fun x => A x ∨ (x = u ∧ X < far + 1)) X (w' 48 X) (w' 49 X)) ∧ ∀ a, a ≠ 48 → a ≠ 49 → w' a = w a := by
  intro fu
  induction fu with
  | zero => intro c w _ _ _ q; omega
  | succ fu ih =>
    intro c w h h1 h2 hf hB
    rw [LX0_crossWidest_57, iflt (by omega) (by omega)]
    by_cases q : far < c
    · rw [if_pos q]
      have : c = far + 1 := by omega
      subst this
      exact ⟨w, rfl, hB, fun _ _ _ => rfl⟩
    · obtain ⟨w1, e1, e2, e3, e4⟩ := offer_spec (A := fun x => A x ∨ (x = u ∧ c < c)) h V1 (by omega) (by omega) hu (hk c h1 (by omega)) (fun x y => by
        rcases y with y | ⟨y, -⟩
        · exact hA x y
        · omega) (hB c (by omega) (by omega))
      rw [if_neg q, e1, nI_1]
      simp only [bd1s]
      obtain ⟨w2, f1, f2, f3⟩ := ih (c + 1) w1 (h.kept (by rw [e3 30 (by omega) (by omega)]) (by rw [e3 30 (by omega) (by omega)]) (fun a _ _ _ _ _ _ => e3 a (by omega) (by omega))) (by omega) (by omega) (by omega) (fun X y1 y2 => by
        by_cases z : X = c
        · subst z
          exact e2.cg (fun x => ⟨fun y => y.elim (fun y => y.elim Or.inl (fun y => absurd y.2 (by omega))) (fun y => Or.inr ⟨y, by omega⟩), fun y => y.elim (fun y => Or.inl (Or.inl y)) (fun y => Or.inr y.1)⟩)
        · rw [(e4 X z).1, (e4 X z).2]
          exact (hB X y1 y2).cg (fun x => ⟨fun y => y.imp id (fun y => ⟨y.1, by omega⟩), fun y => y.imp id (fun y => ⟨y.1, by omega⟩)⟩))
      exact ⟨w2, f1, f2, fun a y1 y2 => by rw [f3 a y1 y2, e3 a y1 y2]⟩
theorem Sy_zero (hv : Vg g n) {u : Nat} (hu : u < n) {f : Nat} (hf : fm g n u = nI f) (hf2 : f ≤ 33) : ∀ m, m ≤ f → Sy g n u m = 0
  | 0, _ => rfl
  | m + 1, hm => by
    show Sy g n u m + (yd g n u (m + 1)).toNatClampNeg = 0
    rw [Sy_zero hv hu hf hf2 m (by omega), yd_zero hv hu (by omega) (by omega) (by rw [hf, nI_ltI (by omega) (by omega)]; omega)]
    rfl
theorem widest_loop (hv : Vg g n) (V1 : ∀ i, i < n → g 6 i = nI (V i) ∧ V i < 16) (hA : ∀ x, A x → x < n) {u f : Nat} (hu : u < n) (hf : fm g n u = nI f) (hf2 : f ≤ 33) : ∀ (fu m : Nat) (w : Mm), AX w n g → w 30 11 = pu g n u → w 30 12 = kd g u → w 30 10 = hmn g n → w 30 9 = 0 → f ≤ m → m ≤ 200 → 200 - m < fu → (∀ X, 1 ≤ X → X ≤ 99 → Bst V g n (fun x => A x ∨ (x = u ∧ X < min 99 (Sy g n u m) + 1)) X (w 48 X) (w 49 X)) → ∃ w', LX0_crossWidest_16 (nI u) fu (nI (min 99 (Sy g n u m))) (nI (m + 1)) w = some w' ∧ (∀ X, 1 ≤ X → X ≤ 99 → Bst V g n (fun x => A x ∨ x = u) X (w' 48 X) (w' 49 X)) ∧ ∀ a, a ≠ 48 → a ≠ 49 → w' a = w a := by
  intro fu
  induction fu with
  | zero => intro m w _ _ _ _ _ _ _ q; omega
  | succ fu ih =>
    intro m w h e11 e12 e10 e9 hfm hm hfu hB
    have hfin : 99 ≤ min 99 (Sy g n u m) → ∀ X, 1 ≤ X → X ≤ 99 → Bst V g n (fun x => A x ∨ x = u) X (w 48 X) (w 49 X) := fun q X y1 y2 => (hB X y1 y2).cg (fun x => ⟨fun y => y.imp id (fun y => y.1), fun y => y.imp id (fun y => ⟨y, by omega⟩)⟩)
    rw [LX0_crossWidest_16, nI_lit 200, iflt (by omega) (by omega), nI_lit 99, ifle (by omega) (by omega)]
    by_cases c : 200 < m + 1
    · have := Sy_far hv h.2.1 hu
      have : m = 200 := by omega
      subst this
      rw [if_pos c]
      exact ⟨w, rfl, hfin (by omega), fun _ _ _ => rfl⟩
    · rw [if_neg c]
      by_cases c2 : 99 ≤ min 99 (Sy g n u m)
      · rw [if_pos c2]
        exact ⟨w, rfl, hfin c2, fun _ _ _ => rfl⟩
      · obtain ⟨y, y1, y2, y3, -⟩ := Sy_s hv h.2.1 hu (m := m) (by omega)
        rw [if_neg c2, yards_spec (fd := 0) h hv hu e11 e12 e10 e9 (by omega) (by omega) (by rw [hf, nI_ltI (by omega) (by omega)]; omega), fld0, if_neg (by decide), y2]
        simp only [bd1s]
        have e : (if nI (min 99 (Sy g n u m)) + nI y < nI 99 then nI (min 99 (Sy g n u m)) + nI y else nI 99) = nI (min 99 (Sy g n u (m + 1))) := by
          rw [nI_add, iflt (by omega) (by omega)]
          split
          · congr 1
            omega
          · congr 1
            omega
        rw [e, nI_1, nI_1]
        obtain ⟨w1, f1, f2, f3⟩ := off_loop (far := min 99 (Sy g n u (m + 1))) (lo := min 99 (Sy g n u m) + 1) (k := m + 1) V1 hA hu (fun X z1 z2 => ⟨by omega, by omega, by rw [Nat.add_sub_cancel]; omega, by omega⟩) (by omega) (by omega) 1000 (min 99 (Sy g n u m) + 1) w h (Nat.le_refl _) (by omega) (by omega) hB
        rw [f1]
        simp only [bd2s]
        obtain ⟨w2, g1, g2, g3⟩ := ih (m + 1) w1 (h.kept (by rw [f3 30 (by omega) (by omega)]) (by rw [f3 30 (by omega) (by omega)]) (fun a _ _ _ _ _ _ => f3 a (by omega) (by omega))) (by rw [f3 30 (by omega) (by omega)]; exact e11) (by rw [f3 30 (by omega) (by omega)]; exact e12) (by rw [f3 30 (by omega) (by omega)]; exact e10) (by rw [f3 30 (by omega) (by omega)]; exact e9) (by omega) (by omega) (by omega) f2
        exact ⟨w2, g1, g2, fun a z1 z2 => by rw [g3 a z1 z2, f3 a z1 z2]⟩
theorem widest_spec (h : AX w n g) (hv : Vg g n) (hr : Rd g n) (V1 : ∀ i, i < n → g 6 i = nI (V i) ∧ V i < 16) (hA : ∀ x, A x → x < n) {u : Nat} (hu : u < n) (hc : g 4 u = -4) (e9 : w 30 9 = 0) (hB : ∀ X, 1 ≤ X → X ≤ 99 → Bst V g n A X (w 48 X) (w 49 X)) : ∃ w', fX0_crossWidest w (nI u) = some w' ∧ AX w' n g ∧ w' 30 9 = 0 ∧ (∀ X, 1 ≤ X → X ≤ 99 → Bst V g n (fun x => A x ∨ x = u) X (w' 48 X) (w' 49 X)) ∧ ∀ a, a ≠ 30 → a ≠ 48 → a ≠ 49 → w' a = w a := by
  obtain ⟨f, f1, f2⟩ := fm_nat hv hu
  obtain ⟨w1, m1, m2, m3, m4, m5, m6, m7⟩ := mount_spec h hr hu
  rw [show mv g u = u from if_pos hc] at m2 m3 m4
  have h1 : AX w1 n g := h.kept (m7 6 (by omega)) (m7 7 (by omega)) (fun a _ _ q _ _ _ => m6 a q)
  have z0 : Sy g n u f = 0 := Sy_zero hv hu f2 f1 f (Nat.le_refl _)
  obtain ⟨w2, g1, g2, g3⟩ := widest_loop hv V1 hA hu f2 f1 1000 f w1 h1 m2 m3 m5 (by rw [m7 9 (by omega)]; exact e9) (Nat.le_refl _) (by omega) (by omega) (fun X z1 z2 => by
    rw [m6 48 (by omega), m6 49 (by omega), z0]
    exact (hB X z1 z2).cg (fun x => ⟨Or.inl, fun y => y.elim id (fun y => absurd y.2 (by omega))⟩))
  rw [z0, show min 99 0 = 0 from rfl] at g1
  refine ⟨w2, ?_, h1.kept (by rw [g3 30 (by omega) (by omega)]) (by rw [g3 30 (by omega) (by omega)]) (fun a _ _ _ _ _ _ => g3 a (by omega) (by omega)), by rw [g3 30 (by omega) (by omega), m7 9 (by omega)]; exact e9, g2, fun a q1 q2 q3 => by rw [g3 a q2 q3, m6 a q1]⟩
  unfold fX0_crossWidest
  rw [m1]
  simp only [bd1s]
  rw [m4, f2, nI_1, show LX0_crossWidest_16 (nI u) 1000 0 (nI (f + 1)) w1 = some w2 from g1]
  rfl
theorem span_b (hv : Vg g n) (hr : Rd g n) (V1 : ∀ i, i < n → g 6 i = nI (V i) ∧ V i < 16) : ∀ (fu k : Nat) (w : Mm), AX w n g → w 30 9 = 0 → k ≤ n → n - k < fu → (∀ X, 1 ≤ X → X ≤ 99 → Bst V g n (fun x => x < k ∧ g 4 x = -4) X (w 48 X) (w 49 X)) → ∃ w', LX0_span_33 fu (nI k) w = some w' ∧ AX w' n g ∧ (∀ X, 1 ≤ X → X ≤ 99 → Bst V g n (fun x => x < n ∧ g 4 x = -4) X (w' 48 X) (w' 49 X)) ∧ ∀ a, a ≠ 30 → a ≠ 48 → a ≠ 49 → w' a = w a := by
  intro fu
  induction fu with
  | zero => intro k w _ _ _ q; omega
  | succ fu ih =>
    intro k w h e9 hk hf hB
    obtain ⟨x1, x2, x3, x4, x5, x6⟩ := id h
    rw [LX0_span_33, x1, ifle (by omega) (by omega)]
    by_cases c : n ≤ k
    · rw [if_pos c]
      have : k = n := by omega
      subst this
      exact ⟨w, rfl, h, hB, fun _ _ _ _ => rfl⟩
    · rw [if_neg c, rdN (k := 32) (j := k) (by omega) (by omega), (x6 k (by omega)).2.2.2.2.1, nI_1]
      simp only [bd1s]
      by_cases q : g 4 k = -4
      · obtain ⟨w1, g1, g2, g3, g4, g5⟩ := widest_spec h hv hr V1 (A := fun x => x < k ∧ g 4 x = -4) (fun x y => by omega) (show k < n by omega) q e9 hB
        rw [if_pos q, g1]
        simp only [bd1s]
        obtain ⟨w2, r1, r2, r3, r4⟩ := ih (k + 1) w1 g2 g3 (by omega) (by omega) (fun X z1 z2 => (g4 X z1 z2).cg (fun x => ⟨fun y => y.elim (fun y => ⟨by omega, y.2⟩) (fun y => ⟨by omega, by rw [y]; exact q⟩), fun y => by
          by_cases z : x = k
          · exact Or.inr z
          · exact Or.inl ⟨by omega, y.2⟩⟩))
        exact ⟨w2, r1, r2, r3, fun a y1 y2 y3 => by rw [r4 a y1 y2 y3, g5 a y1 y2 y3]⟩
      · rw [if_neg q]
        simp only [bd1s]
        exact ih (k + 1) w h e9 (by omega) (by omega) (fun X z1 z2 => (hB X z1 z2).cg (fun x => ⟨fun y => ⟨by omega, y.2⟩, fun y => ⟨by
          have : x ≠ k := fun e => q (by rw [← e]; exact y.2)
          omega, y.2⟩⟩))
theorem span_a : ∀ (fu k : Nat) (w : Mm), k ≤ 100 → 100 - k < fu → (∀ X, X < k → w 48 X = 201 ∧ w 49 X = -4) → ∃ w', LX0_span_2 fu (nI k) w = some w' ∧ (∀ X, X ≤ 99 → w' 48 X = 201 ∧ w' 49 X = -4) ∧ ∀ a, a ≠ 48 → a ≠ 49 → w' a = w a := by
  intro fu
  induction fu with
  | zero => intro k w _ q; omega
  | succ fu ih =>
    intro k w hk hf hB
    rw [LX0_span_2, nI_lit 99, iflt (by omega) (by omega)]
    by_cases c : 99 < k
    · rw [if_pos c]
      exact ⟨w, rfl, fun X q => hB X (by omega), fun _ _ _ => rfl⟩
    · rw [if_neg c, wrN (k := 48) (j := k) (by omega) (by omega)]
      simp only [bd1s]
      rw [wrN (k := 49) (j := k) (by omega) (by omega), nI_1]
      simp only [bd1s]
      obtain ⟨w', r1, r2, r3⟩ := ih (k + 1) (st (st w 48 k 201) 49 k (-4)) (by omega) (by omega) (fun X q => by
        rw [st_a (a := 48) (by omega)]
        by_cases z : X = k
        · subst z
          rw [st_kj, st_kj]
          exact ⟨rfl, rfl⟩
        · rw [st_ki z, st_ki z, st_a (by omega)]
          exact hB X (by omega))
      exact ⟨w', r1, r2, fun a q1 q2 => by rw [r3 a q1 q2, st_a q2, st_a q1]⟩
end BS
