/-! what would be: other starts, other rides -/
def gs (g : Mm) (s c : Nat → Int32) : Mm := fun k => if k = 3 then s else if k = 4 then c else g k
theorem gs3 {g : Mm} {s c : Nat → Int32} : gs g s c 3 = s := rfl
theorem gs4 {g : Mm} {s c : Nat → Int32} : gs g s c 4 = c := rfl
theorem gs_o {g : Mm} {s c : Nat → Int32} {k : Nat} (h3 : k ≠ 3) (h4 : k ≠ 4) : gs g s c k = g k := by
  unfold gs
  rw [if_neg h3, if_neg h4]
theorem gs_id {g : Mm} : gs g (g 3) (g 4) = g := by
  funext k
  unfold gs
  by_cases h : k = 3
  · rw [if_pos h, h]
  · rw [if_neg h]
    by_cases h4 : k = 4
    · rw [if_pos h4, h4]
    · rw [if_neg h4]
theorem upd_id {f : Nat → Int32} {i : Nat} : upd f i (f i) = f := by
  funext j
  unfold upd
  by_cases h : j = i
  · rw [if_pos h, h]
  · rw [if_neg h]
section TR
variable {w τ g : Mm} {n wd : Nat} {s c : Nat → Int32}
theorem Vs_gs (h : Vs g n) : Vs (gs g s c) n := h
theorem Vo_gs (h : Vo g n) : Vo (gs g s c) n := h
theorem Ok_gs (h : Ok g n s c) : Ok (gs g s c) n (gs g s c 3) (gs g s c 4) := h
theorem SM_gs (h : SM τ g n) : SM τ (gs g s c) n := h
/-- the reference tries other starts and rides -/
theorem tried_spec (hs : SM τ g n) (hn : n ≤ 8) (hw1 : 1 ≤ wd) (hw : wd ≤ 99) (h7 : τ 7 0 = nI wd) (hc : ∀ m, 1 ≤ m → m ≤ 200 → fX9_currentIn τ (nI m) = some (g 7 m)) (ho : Ok g n s c) (ht : ∀ i, i < n → τ 18 (176 + i) = s i ∧ τ 18 (176 + 8 + i) = c i) {i : Nat} (hi : i < n) : ∃ τ', fX9_rankTried τ (nI i) = some (nI (rk (gs g s c) n (la (gs g s c) n 0 (nI wd)) i + 1), τ') ∧ (∀ a, a ≠ 0 → a ≠ 19 → a ≠ 20 → τ' a = τ a) ∧ ∀ j, j ≠ 23 → j ≠ 24 → j ≠ 25 → τ' 0 j = τ 0 j := by
  obtain ⟨τ1, a1, a2, a3, a4, a5, a6, a7⟩ := plain_spec (b := 176) (SM_gs (s := s) (c := c) hs) hn h7 (by omega) ht hc
  obtain ⟨τ2, b1, b2, b3⟩ := cross_spec (M := 200) a2 (Rd_of (Ok_gs ho)) (by omega) a3 a4
  have hr := mrank_spec (L := la (gs g s c) n 0 (nI wd)) (a2.kept (τ' := τ2) (by rw [b3 0 (by omega) (by omega)]) (fun a _ q => b3 a (by omega) (by omega))) (Rd_of (Ok_gs ho)) (fun i hi => (b2 i hi).2) hi
  refine ⟨τ2, ?_, fun a q1 q2 q3 => by rw [b3 a q2 q3, a6 a q1], fun j q1 q2 q3 => by rw [b3 0 (by omega) (by omega)]; exact a7 j q1 q2 q3⟩
  unfold fX9_rankTried
  rw [a1]
  simp only [bd1s]
  rw [show fX9_cross τ1 176 200 = some τ2 from b1]
  simp only [bd1s]
  rw [show fX9_rankOf τ2 176 (nI i) = _ from hr]
  rfl
theorem copy_loop {a b : Nat} (ha : a + 16 ≤ 192) (hb : b + 16 ≤ 192) (hab : a + 16 ≤ b ∨ b + 16 ≤ a) : ∀ (fu k : Nat) (τ : Mm), k ≤ 16 → 16 - k < fu → ∃ τ', LX9_copy_2 (nI a) (nI b) fu (nI k) τ = some τ' ∧ (∀ q, q ≠ 18 → τ' q = τ q) ∧ ∀ j, τ' 18 j = if b + k ≤ j ∧ j < b + 16 then τ 18 (a + (j - b)) else τ 18 j := by
  intro fu
  induction fu with
  | zero => intro k τ _ q; omega
  | succ fu ih =>
    intro k τ hk hf
    rw [LX9_copy_2, nI_lit 16, ifle (by omega) (by omega)]
    by_cases q : 16 ≤ k
    · rw [if_pos q]
      exact ⟨τ, rfl, fun _ _ => rfl, fun j => by rw [if_neg (by omega)]⟩
    · rw [if_neg q, nI_add, rdN (j := a + k) (by omega) (by omega)]
      simp only [bd1s]
      rw [nI_add, wrN (j := b + k) (by omega) (by omega), nI_1]
      simp only [bd1s]
      obtain ⟨τ', r1, r2, r3⟩ := ih (k + 1) (st τ 18 (b + k) (τ 18 (a + k))) (by omega) (by omega)
      refine ⟨τ', r1, fun x hx => by rw [r2 x hx, st_a hx], fun j => ?_⟩
      rw [r3 j]
      by_cases c1 : b + (k + 1) ≤ j ∧ j < b + 16
      · rw [if_pos c1, if_pos (by omega), st_ki (by omega)]
      · rw [if_neg c1]
        by_cases c2 : j = b + k
        · subst c2
          rw [st_kj, if_pos (by omega), show b + k - b = k by omega]
        · rw [st_ki c2, if_neg (by omega)]
theorem copy_spec {a b : Nat} (ha : a + 16 ≤ 192) (hb : b + 16 ≤ 192) (hab : a + 16 ≤ b ∨ b + 16 ≤ a) (τ : Mm) : ∃ τ', fX9_copy τ (nI a) (nI b) = some τ' ∧ (∀ q, q ≠ 18 → τ' q = τ q) ∧ ∀ j, τ' 18 j = if b ≤ j ∧ j < b + 16 then τ 18 (a + (j - b)) else τ 18 j := by
  obtain ⟨τ', r1, r2, r3⟩ := copy_loop ha hb hab 1000 0 τ (by omega) (by omega)
  refine ⟨τ', ?_, r2, r3⟩
  unfold fX9_copy
  rw [nI_lit0, r1]
  rfl
theorem upd_upd {f : Nat → Int32} {i : Nat} {x y : Int32} : upd (upd f i x) i y = upd f i y := by
  funext j
  unfold upd
  by_cases h : j = i
  · rw [if_pos h, if_pos h]
  · rw [if_neg h, if_neg h, if_neg h]
theorem AX_31 (h : AX w n (gs g s c)) {i : Nat} {v : Int32} : AX (st w 31 i v) n (gs g (upd s i v) c) := by
  obtain ⟨x1, x2, x3, x4, x5, x6⟩ := h
  refine ⟨by rw [st_a (by omega)]; exact x1, x2, by rw [st_a (by omega)]; exact x3, by rw [st_a (by omega)]; exact x4, fun m p r => ?_, fun j hj => ?_⟩
  · rw [st_a (a := 30) (by omega)]
    have := x5 m p r
    rcases x4 with z | z
    · rw [z] at this ⊢
      rw [st_a (by omega)]
      exact this
    · rw [z] at this ⊢
      rw [st_a (by omega)]
      exact this
  · obtain ⟨y0, y1, y2, y3, y4, y5, y6⟩ := x6 j hj
    rw [st_a (a := 18) (by omega), st_a (a := 19) (by omega), st_a (a := 20) (by omega), st_a (a := 32) (by omega), st_a (a := 23) (by omega), st_a (a := 24) (by omega)]
    refine ⟨y0, y1, y2, ?_, y4, y5, y6⟩
    rw [gs3] at y3 ⊢
    by_cases z : j = i
    · subst z
      rw [st_kj]
      simp [upd]
    · rw [st_ki z, y3]
      simp [upd, z]
theorem AX_32 (h : AX w n (gs g s c)) {i : Nat} {v : Int32} : AX (st w 32 i v) n (gs g s (upd c i v)) := by
  obtain ⟨x1, x2, x3, x4, x5, x6⟩ := h
  refine ⟨by rw [st_a (by omega)]; exact x1, x2, by rw [st_a (by omega)]; exact x3, by rw [st_a (by omega)]; exact x4, fun m p r => ?_, fun j hj => ?_⟩
  · rw [st_a (a := 30) (by omega)]
    have := x5 m p r
    rcases x4 with z | z
    · rw [z] at this ⊢
      rw [st_a (by omega)]
      exact this
    · rw [z] at this ⊢
      rw [st_a (by omega)]
      exact this
  · obtain ⟨y0, y1, y2, y3, y4, y5, y6⟩ := x6 j hj
    rw [st_a (a := 18) (by omega), st_a (a := 19) (by omega), st_a (a := 20) (by omega), st_a (a := 31) (by omega), st_a (a := 23) (by omega), st_a (a := 24) (by omega)]
    refine ⟨y0, y1, y2, y3, ?_, y5, y6⟩
    rw [gs4] at y4 ⊢
    by_cases z : j = i
    · subst z
      rw [st_kj]
      simp [upd]
    · rw [st_ki z, y4]
      simp [upd, z]
end TR
theorem op_late {w τ : Mm} (h : Rel w τ) (x1 : Int32) : Both (fX8_late w x1) (fX9_late τ x1) := by
  obtain ⟨n, g, wd, hc, -⟩ := id h
  have hn := hc.1.2.1
  unfold fX8_late fX9_late
  rw [gqs hc.2.2.2.1.2.2.2.1]
  simp only [bd1s]
  rcases beast_any hc x1 with ⟨i, i1, rfl, i3, i4⟩ | ⟨i3, i4⟩
  · rw [i3, i4]
    simp only [bd1s]
    rw [if_neg (by decide), if_neg (by decide)]
    obtain ⟨w2, a1, a2, a3, a4, a5, a6, a7, a8⟩ := race_spec hc
    obtain ⟨τ1, b1, b2, b3⟩ := copy_spec (a := 0) (b := 176) (by omega) (by omega) (by omega) τ
    obtain ⟨⟨h1, h2, h3, h4⟩, ⟨v1, v2, v3⟩, hsx, hbx, hs, hbm⟩ := hc
    obtain ⟨t0, t1, t2⟩ := v2.1 i i1
    obtain ⟨τ2, c1, c2, c3⟩ := tried_spec (s := g 3) (c := g 4) (wd := wd) (hs.kept (τ' := τ1) (fun a _ q => b2 a (by omega))) h2 h3 h4 (by rw [b2 7 (by omega)]; exact hbm.2.2) (fun m p q => by rw [currentIn_c (b2 8 (by omega)) (b2 9 (by omega)) (b2 10 (by omega))]; exact hbm.2.1 m p q) v2 (fun j hj => by
      rw [b3, b3, if_pos (by omega), if_pos (by omega), show 0 + (176 + j - 176) = j by omega, show 0 + (176 + 8 + j - 176) = 8 + j by omega]
      exact hbm.1 j hj) i1
    rw [gs_id] at c1
    have hlk : lookM τ τ2 := lookM_of (fun a q1 q2 q3 q4 _ _ _ => by rw [c2 a q1 q3 q4, b2 a q2]) (fun j hj => by rw [c2 18 (by omega) (by omega) (by omega), b3, if_neg (by omega)]) (fun j q1 q2 q3 => by rw [c3 j q1 q2 q3, b2 0 (by omega)])
    have h18 : ∀ j, j < n → τ2 18 (176 + j) = g 3 j ∧ τ2 18 (176 + 8 + j) = g 4 j := fun j hj => by
      rw [c2 18 (by omega) (by omega) (by omega), b3, b3, if_pos (by omega), if_pos (by omega), show 0 + (176 + j - 176) = j by omega, show 0 + (176 + 8 + j - 176) = 8 + j by omega]
      exact hbm.1 j hj
    rw [a1]
    simp only [bd1s]
    rw [show fX9_copy τ 0 176 = some τ1 from b1, rdN (k := 34) (j := i) (by omega) (by omega), a3 i i1]
    simp only [bd1s]
    rw [c1]
    simp only [bd2s]
    have hvs : ∀ t, t ≤ 30 → Ok g n (upd (g 3) i (nI t)) (g 4) := fun t ht => ⟨fun j hj => by
      unfold upd
      by_cases q : j = i
      · rw [if_pos q]
        exact ⟨t, ht, rfl⟩
      · rw [if_neg q]
        exact v2.1 j hj, v2.2⟩
    have key : ∀ (fu t : Nat) (w5 τ6 : Mm) (x y : Int32), t ≤ 30 → t0 ≤ t → t < fu → AX w5 n (gs g (upd (g 3) i x) (g 4)) → w5 30 9 = 0 → w5 30 8 = nI wd → lookX w w5 → lookM τ τ6 → (∀ j, j < n → τ6 18 (176 + j) = upd (g 3) i y j ∧ τ6 18 (176 + 8 + j) = g 4 j) → Both (LX8_late_30 (nI i) (nI (rk g n (la g n 0 (nI wd)) i + 1)) fu (nI t) w5) (LX9_late_27 (nI i) (nI (rk g n (la g n 0 (nI wd)) i + 1)) fu (nI t) τ6) := by
      intro fu
      induction fu with
      | zero => intro t w5 τ6 x y _ _ q; omega
      | succ fu ih =>
        intro t w5 τ6 x y ht htt hfu hax e9 e8 hlx hlm hnow
        rw [LX8_late_30, LX9_late_27, gqs (x := w5 16 3) (by rw [hlx.1 16 (by omega)]; exact hbx.2.2.2.1), rdN (k := 21) (j := i) (by omega) (by omega), hlx.1 21 (by omega), (hbx.1 i i1).1, t2, if_neg (nI_pos (by omega)), show (176 : Int32) + nI i = nI (176 + i) by rw [nI_lit 176, nI_add], wrN (k := 18) (j := 176 + i) (by omega) (by omega)]
        simp only [bd1s]
        rw [ifle (by omega) (by omega)]
        obtain ⟨τ8, d1, d2, d3⟩ := tried_spec (s := upd (g 3) i (nI t)) (c := g 4) (wd := wd) (τ := st τ6 18 (176 + i) (nI t)) (hs.kept (fun a q r => by rw [st_a (by omega)]; exact hlm.1 a q r)) h2 h3 h4 (by rw [st_a (by omega), hlm.1 7 (by omega) (by omega)]; exact hbm.2.2) (fun m p q => by
          rw [currentIn_c (w := τ) (by rw [st_a (by omega)]; exact hlm.1 8 (by omega) (by omega)) (by rw [st_a (by omega)]; exact hlm.1 9 (by omega) (by omega)) (by rw [st_a (by omega)]; exact hlm.1 10 (by omega) (by omega))]
          exact hbm.2.1 m p q) (hvs t ht) (fun j hj => by
          rw [st_ki (show 176 + 8 + j ≠ 176 + i by omega)]
          refine ⟨?_, (hnow j hj).2⟩
          by_cases q : j = i
          · subst q
            rw [st_kj]
            simp [upd]
          · rw [st_ki (by omega), (hnow j hj).1]
            simp [upd, q]) i1
        have hlk2 : lookM τ τ8 := hlm.tr (lookM_of (fun a q1 q2 q3 q4 _ _ _ => by rw [d2 a q1 q3 q4, st_a q2]) (fun j hj => by rw [d2 18 (by omega) (by omega) (by omega), st_ki (by omega)]) (fun j q1 q2 q3 => by rw [d3 j q1 q2 q3, st_a (by omega)]))
        rw [d1]
        simp only [bd2s]
        by_cases q : t ≤ t0
        · have e : t = t0 := by omega
          subst e
          have e2 : gs g (upd (g 3) i (nI t)) (g 4) = g := by rw [← t2, upd_id, gs_id]
          rw [if_pos q, e2, if_neg (by rw [i_lt]; omega)]
          exact Both.mk h rfl rfl hlx hlk2
        · rw [if_neg q, wrN (k := 31) (j := i) (by omega) (by omega)]
          simp only [bd1s]
          have hax2 : AX (st w5 31 i (nI t)) n (gs g (upd (g 3) i (nI t)) (g 4)) := by
            have := AX_31 (i := i) (v := nI t) hax
            rwa [upd_upd] at this
          obtain ⟨w10, f1, f2, f3, f4, f5, f6⟩ := run_spec (fd := 0) (wd := nI wd) hax2 (Vg_of (Vs_gs v1) (Ok_gs (hvs t ht))) (Rd_of (Ok_gs (hvs t ht))) (Vo_gs v3) (nI_lt (a := 0) (by omega) (by omega)) (by rw [st_a (by omega)]; exact e9) (by rw [st_a (by omega)]; exact e8)
          have hlx2 : lookX w w10 := hlx.tr (lookX_of (fun a q1 q2 _ q4 q5 q6 _ _ _ _ => by rw [f5 a q1 q4 q5 q6, st_a q2]))
          rw [f1]
          simp only [bd1s]
          rw [rdN (k := 34) (j := i) (by omega) (by omega), f3 i i1]
          simp only [bd1s]
          by_cases z : nI (rk g n (la g n 0 (nI wd)) i + 1) < nI (rk (gs g (upd (g 3) i (nI t)) (g 4)) n (la (gs g (upd (g 3) i (nI t)) (g 4)) n 0 (nI wd)) i + 1)
          · rw [if_pos z, if_pos z, show nI t - 1 = nI (t - 1) by rw [show t = (t - 1) + 1 by omega, nI_pred]; rfl]
            refine ih (t - 1) w10 τ8 (nI t) (nI t) (by omega) (by omega) (by omega) (hax2.kept (f6 6 (by omega)) (f6 7 (by omega)) (fun a _ _ q1 q2 q3 q4 => f5 a q1 q2 q3 q4)) (by rw [f6 9 (by omega), st_a (by omega)]; exact e9) (by rw [f6 8 (by omega), st_a (by omega)]; exact e8) hlx2 hlk2 (fun j hj => ?_)
            rw [d2 18 (by omega) (by omega) (by omega), st_ki (show 176 + 8 + j ≠ 176 + i by omega)]
            refine ⟨?_, (hnow j hj).2⟩
            by_cases y : j = i
            · subst y
              rw [st_kj]
              simp [upd]
            · rw [st_ki (by omega), (hnow j hj).1]
              simp [upd, y]
          · rw [if_neg z, if_neg z]
            exact Both.mk h rfl rfl hlx2 hlk2
    exact key 1000 30 w2 τ2 (g 3 i) (g 3 i) (by omega) t1 (by omega) (by rw [upd_id, gs_id]; exact a5) a7 a6 a8 hlk (fun j hj => by rw [upd_id]; exact h18 j hj)
  · rw [i3, i4]
    simp only [bd1s]
    rw [if_pos trivial, if_pos trivial]
    exact Both.mk h rfl rfl lookX.rf lookM.rf
