section TW
variable {τ : Mm} {n : Nat} {wt : Nat → Nat} {lt be : Nat → Bool}
/-- the table: who can be ridden -/
def Tab (τ : Mm) (P : Nat → Prop) : Prop := ∀ S, S < 256 → (P S → τ 22 S = nI (pcn S 8)) ∧ (¬ P S → τ 22 S = -4)
theorem Tab.cg {P Q : Nat → Prop} (h : Tab τ P) (e : ∀ S, S < 256 → (P S ↔ Q S)) : Tab τ Q := fun S hS => ⟨fun q => (h S hS).1 ((e S hS).mpr q), fun q => (h S hS).2 (fun z => q ((e S hS).mp z))⟩
def PP (H E : Nat → Prop) (n M c S : Nat) : Prop := H S ∨ ∃ b, b < n ∧ bt S b = 1 ∧ E b ∧ H (S - 2 ^ b) ∧ (M < S - 2 ^ b ∨ (S - 2 ^ b = M ∧ b < c))
/-- what the reference reads of a river for this -/
def Tw (τ : Mm) (n : Nat) (wt : Nat → Nat) (lt be : Nat → Bool) : Prop := τ 2 0 = nI n ∧ n ≤ 8 ∧ ∀ i, i < n → (1 ≤ wt i ∧ wt i ≤ 9) ∧ τ 4 i = nI (wt i) ∧ ∃ r, fX9_raftOf τ (nI i) = some r ∧ (lt i = true ↔ τ 5 i = 1 ∧ r = -4) ∧ (be i = true ↔ τ 5 i ≠ 1 ∧ r = -4)
theorem Tw.kept {τ' : Mm} (h : Tw τ n wt lt be) (hk : ∀ a, a ≠ 22 → τ' a = τ a) : Tw τ' n wt lt be := by
  obtain ⟨h1, h2, h3⟩ := h
  refine ⟨by rw [hk 2 (by omega)]; exact h1, h2, fun i hi => ?_⟩
  rw [hk 4 (by omega), hk 5 (by omega), raftOf_c (hk 12 (by omega)) (hk 13 (by omega))]
  exact h3 i hi
theorem pc_le_8 : ∀ S, S < 256 → pcn S 8 ≤ 8 := by decide +kernel
theorem pc_ad0 : ∀ m, m < 256 → ∀ b, b < 8 → bt m b = 0 → pcn (m + 2 ^ b) 8 = pcn m 8 + 1 := by decide +kernel
theorem two_in {H : Nat → Prop} {j M : Nat} (hj : j < n) (hM : M < 256) (hH : H M) : ∀ (fu c : Nat) (τ : Mm), Tw τ n wt lt be → c ≤ n → n - c < fu → Tab τ (PP H (fun b => be b = true ∧ wt j < wt b) n M c) → ∃ τ', LX9_twos_73 (nI j) (nI M) fu (nI c) τ = some τ' ∧ (∀ a, a ≠ 22 → τ' a = τ a) ∧ Tab τ' (PP H (fun b => be b = true ∧ wt j < wt b) n M n) := by
  intro fu
  induction fu with
  | zero => intro c τ _ _ q; omega
  | succ fu ih =>
    intro c τ hT hc hf hB
    obtain ⟨t1, t2, t3⟩ := id hT
    rw [LX9_twos_73, rd0 (by omega) (by omega), t1]
    simp only [bd1s]
    rw [ifle (by omega) (by omega)]
    by_cases q : n ≤ c
    · rw [if_pos q]
      rw [show c = n by omega] at hB
      exact ⟨τ, rfl, fun _ _ => rfl, hB⟩
    · have e0 := (hB M hM).1 (Or.inl hH)
      have pm := pc_le_8 M hM
      obtain ⟨⟨w1, w2⟩, w3, r, r1, r2, r3⟩ := t3 c (by omega)
      obtain ⟨⟨x1, x2⟩, x3, -⟩ := t3 j hj
      have cond : (if τ 5 c = 1 then some (0 : Int32) else bd1 (fX9_raftOf τ (nI c)) fun v30 => if v30 = (-4) then bd1 (rd τ 4 16 (nI c)) fun v31 => bd1 (rd τ 4 16 (nI j)) fun v32 => if v31 ≤ v32 then some (0) else if ((nI M >>> (nI c &&& 31)) &&& 1) = 0 then some (1) else some (0) else some (0)) = some (bI (decide ((be c = true ∧ wt j < wt c) ∧ bt M c = 0))) := by
        by_cases a : τ 5 c = 1
        · rw [if_pos a, decide_eq_false (fun z => (r3.mp z.1.1).1 a)]
          rfl
        · rw [if_neg a, r1]
          simp only [bd1s]
          by_cases a2 : r = -4
          · rw [if_pos a2, rdN (k := 4) (j := c) (by omega) (by omega), rdN (k := 4) (j := j) (by omega) (by omega), w3, x3]
            simp only [bd1s]
            rw [ifle (by omega) (by omega), bt_shr0 M hM c (by omega), nI_lit0, ifeq (by have := bt_01 M c; omega) (by omega)]
            by_cases a3 : wt c ≤ wt j
            · rw [if_pos a3, decide_eq_false (fun z => by omega)]
              rfl
            · rw [if_neg a3]
              by_cases a4 : bt M c = 0
              · rw [if_pos a4, decide_eq_true ⟨⟨r3.mpr ⟨a, a2⟩, by omega⟩, a4⟩]
                rfl
              · rw [if_neg a4, decide_eq_false (fun z => a4 z.2)]
                rfl
          · rw [if_neg a2, decide_eq_false (fun z => a2 (r3.mp z.1.1).2)]
            rfl
      rw [if_neg q, rdN (k := 22) (j := M) (by omega) (by omega), e0]
      simp only [bd1s]
      rw [if_neg (nI_n4 (by omega)), rdN (k := 5) (j := c) (by omega) (by omega)]
      simp only [bd1s]
      rw [cond]
      simp only [bd1s]
      have b01 := bt_01 M c
      have xlt : M + (1 - bt M c) * 2 ^ c < 256 := by
        rcases b01 with z | z
        · rw [z, Nat.sub_zero, Nat.one_mul]
          exact (bt_ad0 M hM c (by omega) z).1
        · rw [z, Nat.sub_self, Nat.zero_mul]
          exact hM
      rw [bt_or0 M hM c (by omega), rdN (k := 22) (j := M + (1 - bt M c) * 2 ^ c) xlt (by omega), nI_1 c]
      simp only [bd1s]
      by_cases d : (be c = true ∧ wt j < wt c) ∧ bt M c = 0
      · obtain ⟨d1, d2⟩ := d
        obtain ⟨u1, u2⟩ := bt_ad0 M hM c (by omega) d2
        have u3 := pc_ad0 M hM c (by omega) d2
        have u4 := pc_le_8 _ u1
        rw [decide_eq_true ⟨d1, d2⟩, bI_t, if_neg (show ¬ (1 : Int32) = 0 by decide), d2, Nat.sub_zero, Nat.one_mul, nI_1 (pcn M 8), ← u3]
        have mx : (if nI (pcn (M + 2 ^ c) 8) ≤ τ 22 (M + 2 ^ c) then some (τ 22 (M + 2 ^ c)) else some (nI (pcn (M + 2 ^ c) 8))) = some (nI (pcn (M + 2 ^ c) 8)) := by
          by_cases z : PP H (fun b => be b = true ∧ wt j < wt b) n M c (M + 2 ^ c)
          · rw [(hB _ u1).1 z]
            split <;> rfl
          · rw [(hB _ u1).2 z, if_neg]
            rw [i_le, nI_toInt (by omega), show (-4 : Int32).toInt = -4 from rfl]
            omega
        rw [mx]
        simp only [bd1s]
        rw [wrN (k := 22) (j := M + 2 ^ c) u1 (by omega)]
        simp only [bd1s]
        obtain ⟨τ', g1, g2, g3⟩ := ih (c + 1) (st τ 22 (M + 2 ^ c) (nI (pcn (M + 2 ^ c) 8))) (hT.kept (fun a y => st_a y)) (by omega) (by omega) (fun S hS => by
          by_cases z : S = M + 2 ^ c
          · subst z
            rw [st_kj]
            refine ⟨fun _ => rfl, fun y => absurd (Or.inr ⟨c, by omega, by rw [u2 c (by omega), if_pos rfl], d1, ?_, Or.inr ⟨by omega, by omega⟩⟩) y⟩
            rw [Nat.add_sub_cancel]
            exact hH
          · rw [st_ki z]
            have e : PP H (fun b => be b = true ∧ wt j < wt b) n M c S ↔ PP H (fun b => be b = true ∧ wt j < wt b) n M (c + 1) S := by
              constructor
              · exact fun y => y.imp id (fun ⟨b, b1, b2, b3, b4, b5⟩ => ⟨b, b1, b2, b3, b4, b5.imp id (fun y => ⟨y.1, by omega⟩)⟩)
              · refine fun y => y.imp id (fun ⟨b, b1, b2, b3, b4, b5⟩ => ⟨b, b1, b2, b3, b4, b5.imp id (fun y => ⟨y.1, ?_⟩)⟩)
                have : b ≠ c := by
                  intro e
                  subst e
                  have := bt_dn0 S hS b (by omega) (by omega)
                  omega
                omega
            exact ⟨fun y => (hB S hS).1 (e.mpr y), fun y => (hB S hS).2 (fun x => y (e.mp x))⟩)
        exact ⟨τ', g1, fun a y => by rw [g2 a y, st_a y], g3⟩
      · rw [decide_eq_false d, bI_f, if_pos (show (0 : Int32) = 0 from rfl)]
        simp only [bd1s]
        rw [wrN (k := 22) (j := M + (1 - bt M c) * 2 ^ c) xlt (by omega)]
        simp only [bd1s]
        have same : st τ 22 (M + (1 - bt M c) * 2 ^ c) (τ 22 (M + (1 - bt M c) * 2 ^ c)) = τ := by
          funext a k
          rw [st_at]
          split
          · next y => rw [y.1, y.2]
          · rfl
        rw [same]
        exact ih (c + 1) τ hT (by omega) (by omega) (hB.cg (fun S hS => by
          constructor
          · exact fun y => y.imp id (fun ⟨b, b1, b2, b3, b4, b5⟩ => ⟨b, b1, b2, b3, b4, b5.imp id (fun y => ⟨y.1, by omega⟩)⟩)
          · refine fun y => y.imp id (fun ⟨b, b1, b2, b3, b4, b5⟩ => ⟨b, b1, b2, b3, b4, b5.imp id (fun y => ⟨y.1, ?_⟩)⟩)
            have : b ≠ c := by
              intro e
              subst e
              have e2 := bt_rm0 S hS b (by omega) b2 b (by omega)
              rw [y.1, if_pos rfl] at e2
              exact d ⟨b3, e2⟩
            omega))
theorem two_out {H : Nat → Prop} {j : Nat} (hj : j < n) : ∀ (fu k : Nat) (τ : Mm), Tw τ n wt lt be → k ≤ 256 → k < fu → Tab τ (fun S => H S ∨ ∃ b, b < n ∧ bt S b = 1 ∧ (be b = true ∧ wt j < wt b) ∧ H (S - 2 ^ b) ∧ k ≤ S - 2 ^ b) → ∃ τ', LX9_twos_67 (nI j) fu (nI k - 1) τ = some τ' ∧ (∀ a, a ≠ 22 → τ' a = τ a) ∧ Tab τ' (fun S => H S ∨ ∃ b, b < n ∧ bt S b = 1 ∧ (be b = true ∧ wt j < wt b) ∧ H (S - 2 ^ b)) := by
  intro fu
  induction fu with
  | zero => intro k τ _ _ q; omega
  | succ fu ih =>
    intro k τ hT hk hf hB
    cases k with
    | zero =>
      rw [LX9_twos_67, if_pos (by decide)]
      exact ⟨τ, rfl, fun _ _ => rfl, hB.cg (fun S _ => ⟨fun y => y.imp id (fun ⟨b, b1, b2, b3, b4, _⟩ => ⟨b, b1, b2, b3, b4⟩), fun y => y.imp id (fun ⟨b, b1, b2, b3, b4⟩ => ⟨b, b1, b2, b3, b4, by omega⟩)⟩)⟩
    | succ M =>
      obtain ⟨t1, t2, t3⟩ := id hT
      rw [LX9_twos_67, nI_pred, if_neg (nI_pos (by omega))]
      by_cases hH : H M
      · obtain ⟨τ1, a1, a2, a3⟩ := two_in hj (by omega) hH 1000 0 τ hT (by omega) (by omega) (hB.cg (fun S _ => ⟨fun y => y.imp id (fun ⟨b, b1, b2, b3, b4, b5⟩ => ⟨b, b1, b2, b3, b4, Or.inl (by omega)⟩), fun y => y.imp id (fun ⟨b, b1, b2, b3, b4, b5⟩ => ⟨b, b1, b2, b3, b4, by omega⟩)⟩))
        rw [show LX9_twos_73 (nI j) (nI M) 1000 0 τ = some τ1 from a1]
        simp only [bd1s]
        obtain ⟨τ', g1, g2, g3⟩ := ih M τ1 (hT.kept a2) (by omega) (by omega) (a3.cg (fun S _ => ⟨fun y => y.imp id (fun ⟨b, b1, b2, b3, b4, b5⟩ => ⟨b, b1, b2, b3, b4, by omega⟩), fun y => y.imp id (fun ⟨b, b1, b2, b3, b4, b5⟩ => ⟨b, b1, b2, b3, b4, by omega⟩)⟩))
        exact ⟨τ', g1, fun a y => by rw [g2 a y, a2 a y], g3⟩
      · have e0 := (hB M (by omega)).2 (fun y => y.elim hH (fun ⟨b, _, _, _, _, b5⟩ => absurd (Nat.sub_le M (2 ^ b)) (Nat.not_le.mpr b5)))
        have r : LX9_twos_73 (nI j) (nI M) 1000 0 τ = some τ := by
          rw [show (1000 : Nat) = 999 + 1 from rfl, LX9_twos_73, rd0 (by omega) (by omega), t1]
          simp only [bd1s]
          split
          · rfl
          · rw [rdN (k := 22) (j := M) (by omega) (by omega), e0]
            simp only [bd1s]
            rw [if_pos trivial]
        rw [r]
        simp only [bd1s]
        exact ih M τ hT (by omega) (by omega) (hB.cg (fun S _ => ⟨fun y => y.imp id (fun ⟨b, b1, b2, b3, b4, b5⟩ => ⟨b, b1, b2, b3, b4, by omega⟩), fun y => y.imp id (fun ⟨b, b1, b2, b3, b4, b5⟩ => ⟨b, b1, b2, b3, b4, by
          have : S - 2 ^ b ≠ M := fun z => hH (by rw [← z]; exact b4)
          omega⟩)⟩))
theorem two_all : ∀ (fu k : Nat) (τ : Mm), Tw τ n wt lt be → k ≤ n → n - k < fu → Tab τ (Hl n wt lt be k) → ∃ τ', LX9_twos_33 fu (nI k) τ = some τ' ∧ (∀ a, a ≠ 22 → τ' a = τ a) ∧ Tab τ' (Hl n wt lt be n) := by
  intro fu
  induction fu with
  | zero => intro k τ _ _ q; omega
  | succ fu ih =>
    intro k τ hT hk hf hB
    obtain ⟨t1, t2, t3⟩ := id hT
    rw [LX9_twos_33, rd0 (by omega) (by omega), t1]
    simp only [bd1s]
    rw [ifle (by omega) (by omega)]
    by_cases c : n ≤ k
    · rw [if_pos c]
      rw [show k = n by omega] at hB
      exact ⟨τ, rfl, fun _ _ => rfl, hB⟩
    · obtain ⟨⟨w1, w2⟩, w3, r, r1, r2, r3⟩ := t3 k (by omega)
      rw [if_neg c, rdN (k := 5) (j := k) (by omega) (by omega), r1, nI_1]
      simp only [bd1s]
      by_cases d : lt k = true
      · obtain ⟨d1, d2⟩ := r2.mp d
        obtain ⟨τ1, a1, a2, a3⟩ := two_out (H := Hl n wt lt be k) (show k < n by omega) 1000 256 τ hT (by omega) (by omega) (hB.cg (fun S hS => ⟨Or.inl, fun y => y.elim id (fun ⟨b, _, _, _, _, b5⟩ => absurd (Nat.lt_of_le_of_lt (Nat.sub_le S (2 ^ b)) hS) (Nat.not_lt.mpr b5))⟩))
        rw [if_pos d1, if_pos d2, show LX9_twos_67 (nI k) 1000 255 τ = some τ1 from a1]
        simp only [bd1s]
        obtain ⟨τ', g1, g2, g3⟩ := ih (k + 1) τ1 (hT.kept a2) (by omega) (by omega) (a3.cg (fun S hS => Hl_step t2 (fun i hi => (t3 i hi).1.2) (show k < n by omega) d hS))
        exact ⟨τ', g1, fun a y => by rw [g2 a y, a2 a y], g3⟩
      · have e : ∀ S, Hl n wt lt be k S ↔ Hl n wt lt be (k + 1) S := by
          intro S
          unfold Hl
          have : ∀ v, cA wt lt (k + 1) v = cA wt lt k v := fun v => by rw [cA_s, if_neg (fun z => d z.1)]; rfl
          simp only [this]
        have r4 : (if τ 5 k = 1 then if r = -4 then bd1 (LX9_twos_67 (nI k) 1000 255 τ) fun w20 => some w20 else some τ else some τ) = some τ := by
          split
          · split
            · next y1 y2 => exact absurd (r2.mpr ⟨y1, y2⟩) d
            · rfl
          · rfl
        rw [r4]
        simp only [bd1s]
        exact ih (k + 1) τ hT (by omega) (by omega) (hB.cg (fun S _ => e S))
theorem two_init : ∀ (fu k : Nat) (τk : Mm), k ≤ 256 → 256 - k < fu → (∀ a, a ≠ 22 → τk a = τ a) → (∀ S, S < k → τk 22 S = if S = 0 then 0 else -4) → ∃ τ', LX9_twos_2 fu (nI k) τk = some τ' ∧ (∀ a, a ≠ 22 → τ' a = τ a) ∧ ∀ S, S < 256 → τ' 22 S = if S = 0 then 0 else -4 := by
  intro fu
  induction fu with
  | zero => intro k τk _ q; omega
  | succ fu ih =>
    intro k τk hk hf h1 h2
    rw [LX9_twos_2, nI_lit 256, ifle (by omega) (by omega)]
    by_cases c : 256 ≤ k
    · rw [if_pos c]
      exact ⟨τk, rfl, h1, fun S hS => h2 S (by omega)⟩
    · rw [if_neg c, show (if nI k = 0 then some (0 : Int32) else some (-4)) = some (if k = 0 then 0 else -4) by
        rw [nI_lit0, ifeq (by omega) (by omega)]
        split <;> rfl]
      simp only [bd1s]
      rw [wrN (k := 22) (j := k) (by omega) (by omega), nI_1]
      simp only [bd1s]
      refine ih (k + 1) _ (by omega) (by omega) (fun a q => by rw [st_a q, h1 a q]) (fun S hS => ?_)
      by_cases z : S = k
      · rw [z, st_kj]
      · rw [st_ki z]
        exact h2 S (by omega)
theorem two_max {P : Nat → Prop} (h : Tab τ P) : ∀ (fu k R : Nat), k ≤ 256 → 256 - k < fu → R ≤ 8 → (R = 0 ∨ ∃ S, S < 256 ∧ P S ∧ pcn S 8 = R) → (∀ S, S < k → P S → pcn S 8 ≤ R) → ∃ R', LX9_twos_221 τ fu (nI R) (nI k) = some (nI R') ∧ (R' = 0 ∨ ∃ S, S < 256 ∧ P S ∧ pcn S 8 = R') ∧ ∀ S, S < 256 → P S → pcn S 8 ≤ R' := by
  intro fu
  induction fu with
  | zero => intro k R _ q; omega
  | succ fu ih =>
    intro k R hk hf hR h1 h2
    rw [LX9_twos_221, nI_lit 256, ifle (by omega) (by omega)]
    by_cases c : 256 ≤ k
    · rw [if_pos c]
      exact ⟨R, rfl, h1, fun S hS => h2 S (by omega)⟩
    · rw [if_neg c, rdN (k := 22) (j := k) (by omega) (by omega), nI_1]
      simp only [bd1s]
      have pl := pc_le_8 k (by omega)
      by_cases q : P k
      · rw [(h k (by omega)).1 q, ifle (by omega) (by omega)]
        by_cases d : pcn k 8 ≤ R
        · rw [if_pos d]
          simp only [bd1s]
          exact ih (k + 1) R (by omega) (by omega) hR h1 (fun S hS hp => by
            by_cases z : S = k
            · rw [z]
              exact d
            · exact h2 S (by omega) hp)
        · rw [if_neg d]
          simp only [bd1s]
          exact ih (k + 1) (pcn k 8) (by omega) (by omega) pl (Or.inr ⟨k, by omega, q, rfl⟩) (fun S hS hp => by
            by_cases z : S = k
            · rw [z]
              exact Nat.le_refl _
            · have := h2 S (by omega) hp
              omega)
      · rw [(h k (by omega)).2 q, if_pos (by
          rw [i_le, nI_toInt (by omega), show (-4 : Int32).toInt = -4 from rfl]
          omega)]
        simp only [bd1s]
        exact ih (k + 1) R (by omega) (by omega) hR h1 (fun S hS hp => by
          have z : S ≠ k := fun z => q (by rw [← z]; exact hp)
          exact h2 S (by omega) hp)
end TW
