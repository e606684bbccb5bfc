section OS
variable {w τ : Mm} {n : Nat} {wv o : Nat → Nat}
/-- of those that are left, the sum by who is taken -/
def sf (wv : Nat → Nat) (n : Nat) (o : Nat → Nat) (R i : Nat) : Nat := of wv i (n + 1 - pcn R 8) + o (R - 2 ^ i)
theorem Tb_le (hn : n ≤ 8) {R : Nat} (h : Tb wv n o R) (hR : R < 2 ^ n) : o R ≤ 64 := by
  have := h.1
  have := pc_le8 hn hR
  omega
theorem Tb_in (h : Wv w τ n wv) (hn : n ≤ 8) (hT : ∀ S, S < 2 ^ n → Tb wv n o S) {R : Nat} (hR : R < 2 ^ n) (h0 : R ≠ 0) : ∃ i, i < n ∧ bt R i = 1 ∧ sf wv n o R i = o R ∧ ∀ a, 64 ≤ a → o R = mns (fun i => decide (bt R i = 1)) (sf wv n o R) a n := by
  have hp := pw_n0 n (by omega)
  obtain ⟨i, i1, i2⟩ := pc_ne0 n (by omega) R hR h0
  have d2 := bt_dn0 R (by omega) i (by omega) (by omega)
  have d3 : 1 ≤ 2 ^ i := Nat.one_le_two_pow
  have y2 := Tb_le hn (hT (R - 2 ^ i) (by omega)) (by omega)
  have y4 := of_le h (i := i) (r := n + 1 - pcn R 8) i1 (by omega)
  have hs : sf wv n o R i ≤ 999 := by
    unfold sf
    omega
  have e := (hT R hR).2
  rw [if_neg h0] at e
  obtain ⟨j, j1, j2, j3, j4⟩ := mns_in (p := fun i => decide (bt R i = 1)) (f := sf wv n o R) i1 (decide_eq_true i2) hs
  refine ⟨j, j1, of_decide_eq_true j2, by rw [← j3]; exact e.symm, fun a ha => ?_⟩
  rw [show o R = mns (fun i => decide (bt R i = 1)) (sf wv n o R) 999 n from e]
  have hj : sf wv n o R j ≤ 64 := by
    rw [← j3]
    exact Nat.le_trans (Nat.le_of_eq e.symm) (Tb_le hn (hT R hR) hR)
  exact mns_eq j1 j2 (by omega) (by omega)
theorem sf_le (h : Wv w τ n wv) (hn : n ≤ 8) (hT : ∀ S, S < 2 ^ n → Tb wv n o S) {R i : Nat} (hR : R < 2 ^ n) (hi : i < n) : sf wv n o R i ≤ 999 := by
  have q : R - 2 ^ i < 2 ^ n := Nat.lt_of_le_of_lt (Nat.sub_le _ _) hR
  have y2 := Tb_le hn (hT (R - 2 ^ i) q) q
  have y4 := of_le h (i := i) (r := n + 1 - pcn R 8) hi (by omega)
  unfold sf
  omega
theorem xloop (h : Wv w τ n wv) (hn : n ≤ 8) (hT : ∀ S, S < 2 ^ n → Tb wv n o S) {wk : Mm} (e25 : wk 25 = w 25) (e17 : wk 17 12 = nI n) {G : Nat} (hG : G < 2 ^ n) (hx : ∀ S, G < S → S < 2 ^ n → wk 51 S = nI (o (2 ^ n - 1 - S))) : ∀ (fu k : Nat), k ≤ n → n - k < fu → LX2_weigh_39 (nI G) wk fu (nI (pcn G 8 + 1)) (nI (mns (fun i => decide (bt (2 ^ n - 1 - G) i = 1)) (sf wv n o (2 ^ n - 1 - G)) 64 k)) (nI k) = some (nI (mns (fun i => decide (bt (2 ^ n - 1 - G) i = 1)) (sf wv n o (2 ^ n - 1 - G)) 64 n)) := by
  have hp := pw_n0 n (by omega)
  have hpc := (pc_co0 n (by omega) G hG).1
  intro fu
  induction fu with
  | zero => intro k _ q; omega
  | succ fu ih =>
    intro k hk hf
    rw [LX2_weigh_39, e17, ifle (by omega) (by omega)]
    by_cases c : n ≤ k
    · rw [if_pos c, show k = n by omega]
    · have hm := (mns_spec (p := fun i => decide (bt (2 ^ n - 1 - G) i = 1)) (f := sf wv n o (2 ^ n - 1 - G)) (a := 64) k).1
      have nxt := ih (k + 1) (by omega) (by omega)
      rw [mns] at nxt
      simp only [decide_eq_true_eq] at nxt
      have hco := bt_co0 n (by omega) G hG k (by omega)
      have h01 := bt_01 G k
      have sl := sf_le (R := 2 ^ n - 1 - G) (i := k) h hn hT (by omega) (by omega)
      rw [if_neg c, nI_1 k]
      have ea := bt_and0 G (by omega) k (by omega)
      generalize mns (fun i => decide (bt (2 ^ n - 1 - G) i = 1)) (sf wv n o (2 ^ n - 1 - G)) 64 k = M at hm nxt ⊢
      by_cases d : bt G k = 0
      · have d2 := bt_up0 n (by omega) G hG k (by omega) d
        have d3 : 1 ≤ 2 ^ k := Nat.one_le_two_pow
        rw [if_pos (by omega)] at nxt
        rw [if_pos (ea.mpr d), xoff h hn e25 (by omega) (by omega), bt_or0 G (by omega) k (by omega), d, Nat.one_mul, rdN (k := 51) (j := G + 2 ^ k) (by omega) (by omega), hx _ (by omega) d2]
        simp only [bd1s]
        have es : of wv k (pcn G 8 + 1) + o (2 ^ n - 1 - (G + 2 ^ k)) = sf wv n o (2 ^ n - 1 - G) k := by
          unfold sf
          rw [show n + 1 - pcn (2 ^ n - 1 - G) 8 = pcn G 8 + 1 by omega, show 2 ^ n - 1 - (G + 2 ^ k) = 2 ^ n - 1 - G - 2 ^ k by omega]
        rw [nI_add, es, iflt (by omega) (by omega)]
        by_cases e : sf wv n o (2 ^ n - 1 - G) k < M
        · rw [if_pos e] at nxt ⊢
          exact nxt
        · rw [if_neg e] at nxt ⊢
          exact nxt
      · rw [if_neg (by omega)] at nxt
        rw [if_neg (fun z => d (ea.mp z))]
        simp only [bd1s]
        exact nxt
theorem xtab (h : Wv w τ n wv) (hn : n ≤ 8) (hT : ∀ S, S < 2 ^ n → Tb wv n o S) (e17 : w 17 12 = nI n) : ∀ (fu k : Nat) (wk : Mm), k ≤ 2 ^ n - 1 → k < fu → (∀ a, a ≠ 51 → wk a = w a) → (∀ S, k ≤ S → S < 2 ^ n → wk 51 S = nI (o (2 ^ n - 1 - S))) → ∃ w', LX2_weigh_20 fu (nI k - 1) wk = some w' ∧ (∀ a, a ≠ 51 → w' a = w a) ∧ ∀ S, S < 2 ^ n → w' 51 S = nI (o (2 ^ n - 1 - S)) := by
  have hp := pw_n0 n (by omega)
  intro fu
  induction fu with
  | zero => intro k wk _ q; omega
  | succ fu ih =>
    intro k wk hk hf hw hx
    cases k with
    | zero =>
      rw [LX2_weigh_20, if_pos (by decide)]
      exact ⟨wk, rfl, hw, fun S hS => hx S (by omega) hS⟩
    | succ G =>
      have r2 := xloop h hn hT (hw 25 (by omega)) (by rw [hw 17 (by omega)]; exact e17) (G := G) (by omega) (fun S q1 q2 => hx S (by omega) q2) 1000 0 (by omega) (by omega)
      obtain ⟨-, -, -, -, e⟩ := Tb_in h hn hT (R := 2 ^ n - 1 - G) (by omega) (by omega)
      rw [← e 64 (by omega)] at r2
      rw [LX2_weigh_20, nI_pred, if_neg (nI_pos (by omega)), pc_bc0 G (by omega)]
      simp only [bd1s]
      rw [nI_1, show LX2_weigh_39 (nI G) wk 1000 (nI (pcn G 8 + 1)) 64 0 = _ from r2]
      simp only [bd1s]
      rw [wrN (k := 51) (j := G) (by omega) (by omega)]
      simp only [bd1s]
      refine ih G _ (by omega) (by omega) (fun a q => by rw [st_a q, hw a q]) (fun S q1 q2 => ?_)
      by_cases z : S = G
      · rw [z, st_kj]
      · rw [st_ki z]
        exact hx S (by omega) q2
theorem weigh_spec (h : Wv w τ n wv) (hn : n ≤ 8) (hT : ∀ S, S < 2 ^ n → Tb wv n o S) (e17 : w 17 12 = nI n) : ∃ w', fX2_weigh w = some w' ∧ (∀ a, a ≠ 51 → w' a = w a) ∧ ∀ S, S < 2 ^ n → w' 51 S = nI (o (2 ^ n - 1 - S)) := by
  have hp := pw_n0 n (by omega)
  have o0 : o 0 = 0 := by
    have := (hT 0 (by omega)).1
    rw [show pcn 0 8 = 0 from rfl] at this
    omega
  obtain ⟨w', r1, r2, r3⟩ := xtab h hn hT e17 1000 (2 ^ n - 1) (st w 51 (2 ^ n - 1) 0) (by omega) (by omega) (fun a q => st_a q) (fun S q1 q2 => by
    rw [show S = 2 ^ n - 1 by omega, st_kj, Nat.sub_self, o0]
    rfl)
  refine ⟨w', ?_, r2, r3⟩
  unfold fX2_weigh
  rw [e17, all_n0 n (by omega), show nI (2 ^ n) - 1 = nI (2 ^ n - 1) from pk_sub (b := 1) (by omega), wrN (k := 51) (j := 2 ^ n - 1) (by omega) (by omega)]
  simp only [bd1s]
  rw [r1]
  rfl
/-- the lowest that fits: both find the same -/
theorem fit_both (h : Wv w τ n wv) (hn : n ≤ 8) (hT : ∀ S, S < 2 ^ n → Tb wv n o S) {w1 τ1 : Mm} (e25 : w1 25 = w 25) (e17 : w1 17 12 = nI n) (e16 : τ1 16 = τ 16) (hx : ∀ S, S < 2 ^ n → w1 51 S = nI (o (2 ^ n - 1 - S))) (hm : ∀ S, S < 2 ^ n → τ1 23 S = nI (o S)) {R : Nat} (hR : R < 2 ^ n) {i0 : Nat} (i1 : i0 < n) (i2 : bt R i0 = 1) (i3 : sf wv n o R i0 = o R) : ∀ (fu k : Nat), k ≤ i0 → n - k < fu → ∃ i, i < n ∧ bt R i = 1 ∧ LX2_lowestFitting_3 (nI (2 ^ n - 1 - R)) (nI (n + 1 - pcn R 8)) w1 fu (nI k) = some (nI i) ∧ LX9_order_55 τ1 (nI R) (nI (n + 1 - pcn R 8)) fu (nI k) = some (nI i) := by
  have hp := pw_n0 n (by omega)
  intro fu
  induction fu with
  | zero => intro k _ q; omega
  | succ fu ih =>
    intro k hk hf
    have hco := bt_co0 n (by omega) R hR k (by omega)
    have h01 := bt_01 R k
    have ea := bt_and0 (2 ^ n - 1 - R) (by omega) k (by omega)
    rw [LX2_lowestFitting_3, LX9_order_55, e17, ifle (by omega) (by omega), if_neg (by omega), bt_shr0 R (by omega) k (by omega), nI_lit0, ifeq (by omega) (by omega)]
    have nxt := fun (q : k ≠ i0) => ih (k + 1) (by omega) (by omega)
    rw [← nI_1] at nxt
    by_cases d : bt R k = 0
    · have q : k ≠ i0 := fun q => by rw [q, i2] at d; omega
      rw [if_neg (fun z => by have := ea.mp z; omega), if_pos d]
      exact nxt q
    · have d' : bt R k = 1 := by omega
      have d2 := bt_dn0 R (by omega) k (by omega) d
      have d3 : 1 ≤ 2 ^ k := Nat.one_le_two_pow
      have sl := sf_le (R := R) (i := k) h hn hT hR (by omega)
      have ol := Tb_le hn (hT R hR) hR
      rw [if_pos (show nI (2 ^ n - 1 - R) &&& 1 <<< (nI k &&& 31) = nI 0 from ea.mpr (by omega)), if_neg d, xoff h hn e25 (by omega) (by omega), rdN (k := 16) (j := k) (by omega) (by omega), e16, bt_or0 (2 ^ n - 1 - R) (by omega) k (by omega), bt_cl0 R (by omega) k (by omega), hco, d', show (1 - (1 - 1)) * 2 ^ k = 2 ^ k by omega, rdN (k := 51) (j := 2 ^ n - 1 - R + 2 ^ k) (by omega) (by omega), rdN (k := 51) (j := 2 ^ n - 1 - R) (by omega) (by omega), rdN (k := 23) (j := R - 2 ^ k) (by omega) (by omega), rdN (k := 23) (j := R) (by omega) (by omega), hx _ (by omega), hx _ (by omega), hm _ (by omega), hm R hR]
      simp only [bd1s]
      rw [moff h hn (by omega) (by omega)]
      simp only [bd1s]
      rw [show 2 ^ n - 1 - (2 ^ n - 1 - R + 2 ^ k) = R - 2 ^ k by omega, show 2 ^ n - 1 - (2 ^ n - 1 - R) = R by omega, nI_add]
      have es : of wv k (n + 1 - pcn R 8) + o (R - 2 ^ k) = sf wv n o R k := rfl
      rw [es, ifeq (by omega) (by omega), ifeq (by omega) (by omega)]
      by_cases z : sf wv n o R k = o R
      · rw [if_pos z, if_pos z]
        exact ⟨k, by omega, d', rfl, rfl⟩
      · rw [if_neg z, if_neg z]
        exact nxt (fun q => z (by rw [q]; exact i3))
theorem hold_both (h : Wv w τ n wv) (hn : n ≤ 8) (hT : ∀ S, S < 2 ^ n → Tb wv n o S) {w1 τ1 : Mm} (e25 : w1 25 = w 25) (e17 : w1 17 12 = nI n) (e16 : τ1 16 = τ 16) (hx : ∀ S, S < 2 ^ n → w1 51 S = nI (o (2 ^ n - 1 - S))) (hm : ∀ S, S < 2 ^ n → τ1 23 S = nI (o S)) {x : Nat} (hxn : x ≤ n) : ∀ (fu R : Nat) (a b : Int32), R < 2 ^ n → pcn R 8 < fu → n - pcn R 8 ≤ x → (n - pcn R 8 = x → a = b) → ∃ r, LX2_holder_9 (nI x) w1 fu (nI (2 ^ n - 1 - R)) a (nI (n + 1 - pcn R 8)) = some r ∧ LX9_order_47 (nI x) τ1 fu (nI R) b (nI (n + 1 - pcn R 8)) = some r := by
  have hp := pw_n0 n (by omega)
  intro fu
  induction fu with
  | zero => intro R a b _ q; omega
  | succ fu ih =>
    intro R a b hR hf hle hab
    have pl := pc_le8 hn hR
    rw [LX2_holder_9, LX9_order_47, iflt (by omega) (by omega), iflt (by omega) (by omega)]
    by_cases c : x < n + 1 - pcn R 8
    · rw [if_pos c, if_pos c, hab (by omega)]
      exact ⟨b, rfl, rfl⟩
    · have h0 : R ≠ 0 := by
        intro z
        rw [z, show pcn 0 8 = 0 from rfl] at c
        omega
      obtain ⟨i0, i1, i2, i3, -⟩ := Tb_in h hn hT hR h0
      obtain ⟨i, j1, j2, j3, j4⟩ := fit_both h hn hT e25 e17 e16 hx hm hR i1 i2 i3 1000 0 (by omega) (by omega)
      have d2 := bt_dn0 R (by omega) i (by omega) (by omega)
      have d3 : 1 ≤ 2 ^ i := Nat.one_le_two_pow
      have d4 := pc_dn0 R (by omega) i (by omega) j2
      have hco := bt_co0 n (by omega) R hR i (by omega)
      rw [if_neg c, if_neg c]
      unfold fX2_lowestFitting
      rw [show LX2_lowestFitting_3 (nI (2 ^ n - 1 - R)) (nI (n + 1 - pcn R 8)) w1 1000 0 = some (nI i) from j3, show LX9_order_55 τ1 (nI R) (nI (n + 1 - pcn R 8)) 1000 0 = some (nI i) from j4]
      simp only [bd1s]
      rw [if_neg (nI_n4 (by omega)), bt_or0 (2 ^ n - 1 - R) (by omega) i (by omega), bt_cl0 R (by omega) i (by omega), hco, j2, show (1 - (1 - 1)) * 2 ^ i = 2 ^ i by omega, nI_1, show 2 ^ n - 1 - R + 2 ^ i = 2 ^ n - 1 - (R - 2 ^ i) by omega, show n + 1 - pcn R 8 + 1 = n + 1 - pcn (R - 2 ^ i) 8 by omega]
      exact ih (R - 2 ^ i) (nI i) (nI i) (by omega) (by omega) (by omega) (fun _ => rfl)
end OS
theorem op_order {w τ : Mm} (h : Rel w τ) (x1 : Int32) : Both (fX8_order w x1) (fX9_order τ x1) := by
  obtain ⟨n, g, wd, hc, ht, -⟩ := id h
  obtain ⟨⟨h1, h2, h3, h4⟩, -, hsx, hb, hs, -⟩ := id hc
  have hp := pw_n0 n (by omega)
  obtain ⟨wv, hw⟩ := Wv_ex ht
  unfold fX8_order fX9_order
  rw [gqs hb.2.2.2.1, hsx.1, rd0 (by omega) (by omega), hs.1]
  simp only [bd1s]
  rw [in_eq]
  rcases in_any x1 (a := 0) (b := n) (by omega) (by omega) with ⟨x, x0, x2, rfl, x4⟩ | x4
  · obtain ⟨o, τ1, a1, a2, a3⟩ := mtab hw h2 1000 0 (fun _ => 0) τ (by omega) (by omega) (fun _ _ => rfl) (fun S q => absurd q (by omega))
    have hT : ∀ S, S < 2 ^ n → Tb wv n o S := fun S q => (a3 S q).2
    have hm : ∀ S, S < 2 ^ n → τ1 23 S = nI (o S) := fun S q => (a3 S q).1
    obtain ⟨w1, b1, b2, b3⟩ := weigh_spec hw h2 hT hsx.1
    have f1 : fX9_findOrder τ = some τ1 := by
      unfold fX9_findOrder
      rw [rd0 (by omega) (by omega), hs.1]
      simp only [bd1s]
      rw [show LX9_findOrder_9 (nI n) 1000 0 τ = some τ1 from a1]
      rfl
    have hx : lookX w w1 := lookX_of (fun a _ _ _ _ _ _ _ _ _ q => b2 a q)
    have hmm : lookM τ τ1 := lookM_of (fun a _ _ _ _ _ _ q => a2 a q) (fun j _ => by rw [a2 18 (by omega)]) (fun j _ _ _ => by rw [a2 0 (by omega)])
    rw [show fX8_within (nI x) 0 (nI n) = some 1 from x4]
    simp only [bd1s]
    rw [if_neg (show ¬ (1 : Int32) = 0 by decide), if_neg (show ¬ (1 : Int32) = 0 by decide), b1, f1]
    simp only [bd1s]
    rw [rd0 (k := 2) (by omega) (by omega), a2 2 (by omega), hs.1]
    simp only [bd1s]
    rw [all_n0 n (by omega), show nI (2 ^ n) - 1 = nI (2 ^ n - 1) from pk_sub (b := 1) (by omega)]
    by_cases c : nI x = 0
    · rw [if_pos c, if_pos c, rd0 (k := 51) (by omega) (by omega), rdN (k := 23) (j := 2 ^ n - 1) (by omega) (by omega), b3 0 (by omega), hm _ (by omega), Nat.sub_zero]
      exact Both.mk h rfl rfl hx hmm
    · have x1 : 1 ≤ x := by
        cases x with
        | zero => exact absurd rfl c
        | succ x => omega
      have pa : pcn (2 ^ n - 1) 8 = n := by
        have := (pc_co0 n (by omega) 0 (by omega)).1
        rw [show pcn 0 8 = 0 from rfl, Nat.sub_zero] at this
        omega
      obtain ⟨r, r1, r2⟩ := hold_both hw h2 hT (b2 25 (by omega)) (by rw [b2 17 (by omega)]; exact hsx.1) (a2 16 (by omega)) b3 hm x2 1000 (2 ^ n - 1) (-4) 0 (by omega) (by omega) (by omega) (fun q => by omega)
      rw [pa, Nat.sub_self, show n + 1 - n = 1 by omega] at r1
      rw [pa, show n + 1 - n = 1 by omega] at r2
      rw [if_neg c, if_neg c, gqs (x := w1 16 3) (by rw [b2 16 (by omega)]; exact hb.2.2.2.1), show fX2_holder w1 (nI x) = some r from r1, show LX9_order_47 (nI x) τ1 1000 (nI (2 ^ n - 1)) 0 1 = some r from r2]
      exact Both.mk h rfl rfl hx hmm
  · rw [show fX8_within x1 0 (nI n) = some 0 from x4]
    simp only [bd1s]
    rw [if_pos trivial, if_pos trivial]
    exact Both.mk h rfl rfl lookX.rf lookM.rf
