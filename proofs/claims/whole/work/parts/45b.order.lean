/-- the least of f over those k < n that p lets in, no more than a -/
def mns (p : Nat → Bool) (f : Nat → Nat) (a : Nat) : Nat → Nat
  | 0 => a
  | k + 1 => if p k = true then (if f k < mns p f a k then f k else mns p f a k) else mns p f a k
theorem mns_spec {p : Nat → Bool} {f : Nat → Nat} {a : Nat} : ∀ n, mns p f a n ≤ a ∧ (∀ k, k < n → p k = true → mns p f a n ≤ f k) ∧ (mns p f a n = a ∨ ∃ k, k < n ∧ p k = true ∧ mns p f a n = f k)
  | 0 => ⟨Nat.le_refl _, fun k h => absurd h (by omega), Or.inl rfl⟩
  | n + 1 => by
    obtain ⟨h1, h2, h3⟩ := mns_spec (p := p) (f := f) (a := a) n
    rw [mns]
    by_cases c : p n = true
    · rw [if_pos c]
      by_cases d : f n < mns p f a n
      · rw [if_pos d]
        refine ⟨by omega, fun k hk hp => ?_, Or.inr ⟨n, by omega, c, rfl⟩⟩
        by_cases e : k = n
        · rw [e]
          exact Nat.le_refl _
        · have := h2 k (by omega) hp
          omega
      · rw [if_neg d]
        refine ⟨h1, fun k hk hp => ?_, h3.imp id (fun ⟨k, a1, a2⟩ => ⟨k, by omega, a2⟩)⟩
        by_cases e : k = n
        · rw [e]
          omega
        · exact h2 k (by omega) hp
    · rw [if_neg c]
      refine ⟨h1, fun k hk hp => ?_, h3.imp id (fun ⟨k, a1, a2⟩ => ⟨k, by omega, a2⟩)⟩
      have e : k ≠ n := fun e => c (by rw [← e]; exact hp)
      exact h2 k (by omega) hp
/-- with one below a it is one of them -/
theorem mns_in {p : Nat → Bool} {f : Nat → Nat} {a n k : Nat} (hk : k < n) (hp : p k = true) (h : f k ≤ a) : ∃ j, j < n ∧ p j = true ∧ mns p f a n = f j ∧ ∀ i, i < n → p i = true → f j ≤ f i := by
  obtain ⟨h1, h2, h3⟩ := mns_spec (p := p) (f := f) (a := a) n
  rcases h3 with h3 | ⟨j, j1, j2, j3⟩
  · have := h2 k hk hp
    exact ⟨k, hk, hp, by omega, fun i hi hpi => by have := h2 i hi hpi; omega⟩
  · exact ⟨j, j1, j2, j3, fun i hi hpi => by rw [← j3]; exact h2 i hi hpi⟩
theorem mns_eq {p : Nat → Bool} {f : Nat → Nat} {a b n k : Nat} (hk : k < n) (hp : p k = true) (h : f k ≤ a) (h' : f k ≤ b) : mns p f a n = mns p f b n := by
  obtain ⟨i, i1, i2, i3, i4⟩ := mns_in hk hp h
  obtain ⟨j, j1, j2, j3, j4⟩ := mns_in hk hp h'
  rw [i3, j3]
  exact Nat.le_antisymm (i4 j j1 j2) (j4 i i1 i2)
theorem mns_cg {p q : Nat → Bool} {f h : Nat → Nat} {a : Nat} : ∀ n, (∀ k, k < n → p k = q k) → (∀ k, k < n → p k = true → f k = h k) → mns p f a n = mns q h a n
  | 0, _, _ => rfl
  | n + 1, e, e2 => by
    rw [mns, mns, mns_cg n (fun k hk => e k (by omega)) (fun k hk => e2 k (by omega)), ← e n (by omega)]
    by_cases c : p n = true
    · rw [if_pos c, if_pos c, e2 n (by omega) c]
    · rw [if_neg c, if_neg c]
/-- how far off -/
def of (wv : Nat → Nat) (i r : Nat) : Nat := if wv i = 0 then 0 else if wv i ≤ r then r - wv i else wv i - r
def Wv (w τ : Mm) (n : Nat) (wv : Nat → Nat) : Prop := ∀ i, i < n → wv i ≤ 8 ∧ (wv i = 0 → w 25 i = -4 ∧ τ 16 i = 0) ∧ (wv i ≠ 0 → w 25 i = nI (wv i) ∧ τ 16 i = nI (wv i))
theorem Wv_ex {w τ : Mm} {n : Nat} (h : Told w τ n) : ∃ wv, Wv w τ n wv := by
  have : ∀ i, ∃ v : Nat, i < n → (v ≤ 8 ∧ (v = 0 → w 25 i = -4 ∧ τ 16 i = 0) ∧ (v ≠ 0 → w 25 i = nI v ∧ τ 16 i = nI v)) := by
    intro i
    by_cases hi : i < n
    · rcases h.1 i hi with q | ⟨v, v1, v2, v3⟩
      · exact ⟨0, fun _ => ⟨by omega, fun _ => q, fun z => absurd rfl z⟩⟩
      · exact ⟨v, fun _ => ⟨v2, fun z => absurd z (by omega), fun _ => v3⟩⟩
    · exact ⟨0, fun q => absurd q hi⟩
  obtain ⟨wv, hw⟩ := Classical.axiomOfChoice this
  exact ⟨wv, hw⟩
section OR
variable {w τ : Mm} {n : Nat} {wv : Nat → Nat}
theorem of_le (h : Wv w τ n wv) {i r : Nat} (hi : i < n) (hr : r ≤ 9) : of wv i r ≤ 8 := by
  have := (h i hi).1
  unfold of
  split
  · omega
  · split <;> omega
theorem xoff (h : Wv w τ n wv) (hn : n ≤ 8) {w' : Mm} (e : w' 25 = w 25) {i r : Nat} (hi : i < n) (hr : r ≤ 9) : fX2_off w' (nI i) (nI r) = some (nI (of wv i r)) := by
  obtain ⟨h1, h2, h3⟩ := h i hi
  unfold fX2_off of
  rw [rdN (k := 25) (j := i) (by omega) (by omega), e]
  simp only [bd1s]
  by_cases c : wv i = 0
  · rw [(h2 c).1, if_pos (show (-4 : Int32) = -4 from rfl), if_pos c]
    rfl
  · rw [(h3 c).1, if_neg (nI_n4 (by omega)), if_neg c, abs_spec (by omega) (by omega)]
    congr 2
    split <;> split <;> omega
theorem moff (h : Wv w τ n wv) (hn : n ≤ 8) {i r : Nat} (hi : i < n) (hr : r ≤ 9) : fX9_off (nI r) (τ 16 i) = some (nI (of wv i r)) := by
  obtain ⟨h1, h2, h3⟩ := h i hi
  unfold of
  by_cases c : wv i = 0
  · rw [(h2 c).2, if_pos c]
    unfold fX9_off
    rw [if_pos rfl]
    rfl
  · rw [(h3 c).2, if_neg c, off_spec (by omega) (by omega) (by omega)]
/-- the table of the reference: by who is left -/
def Tb (wv : Nat → Nat) (n : Nat) (o : Nat → Nat) (R : Nat) : Prop := o R ≤ 8 * pcn R 8 ∧ o R = mns (fun i => decide (bt R i = 1)) (fun i => of wv i (n + 1 - pcn R 8) + o (R - 2 ^ i)) (if R = 0 then 0 else 999) n
theorem mrank_c (hn : n ≤ 8) {R : Nat} (hR : R < 2 ^ n) : ∀ (fu k : Nat), k ≤ n → n - k < fu → LX9_findOrder_23 (nI n) (nI R) fu (nI (n + 1 - pcn R k)) (nI k) = some (nI (n + 1 - pcn R 8)) := by
  have hp := pw_n0 n (by omega)
  have hb : ∀ k, pcn R k ≤ k := by
    intro k
    induction k with
    | zero => exact Nat.le_refl _
    | succ k ih =>
      have := bt_01 R k
      rw [pcn]
      omega
  intro fu
  induction fu with
  | zero => intro k _ q; omega
  | succ fu ih =>
    intro k hk hf
    rw [LX9_findOrder_23, ifle (by omega) (by omega)]
    by_cases c : n ≤ k
    · rw [if_pos c, show k = n by omega, (pc_co0 n (by omega) R hR).2]
    · have := bt_01 R k
      have := hb k
      rw [if_neg c, bt_shr0 R (by omega) k (by omega), pk_sub (by omega), nI_1, show n + 1 - pcn R k - bt R k = n + 1 - pcn R (k + 1) by rw [pcn]; omega]
      exact ih (k + 1) (by omega) (by omega)
theorem pc_le8 {R : Nat} (hn : n ≤ 8) (hR : R < 2 ^ n) : pcn R 8 ≤ n := by
  have := (pc_co0 n (by omega) R hR).1
  omega
theorem mloop (h : Wv w τ n wv) (hn : n ≤ 8) {τk : Mm} (e16 : τk 16 = τ 16) {o : Nat → Nat} {R : Nat} (hR : R < 2 ^ n) (hT : ∀ S, S < R → τk 23 S = nI (o S) ∧ o S ≤ 72) {a : Nat} (ha : a ≤ 999) : ∀ (fu k : Nat), k ≤ n → n - k < fu → LX9_findOrder_60 (nI n) (nI R) τk (nI (n + 1 - pcn R 8)) fu (nI (mns (fun i => decide (bt R i = 1)) (fun i => of wv i (n + 1 - pcn R 8) + o (R - 2 ^ i)) a k)) (nI k) = some (nI (mns (fun i => decide (bt R i = 1)) (fun i => of wv i (n + 1 - pcn R 8) + o (R - 2 ^ i)) a n)) := by
  have hp := pw_n0 n (by omega)
  intro fu
  induction fu with
  | zero => intro k _ q; omega
  | succ fu ih =>
    intro k hk hf
    rw [LX9_findOrder_60, ifle (by omega) (by omega)]
    by_cases c : n ≤ k
    · rw [if_pos c, show k = n by omega]
    · have hm := (mns_spec (p := fun i => decide (bt R i = 1)) (f := fun i => of wv i (n + 1 - pcn R 8) + o (R - 2 ^ i)) (a := a) k).1
      rw [if_neg c, bt_shr0 R (by omega) k (by omega), bt_cl0 R (by omega) k (by omega), show (1 : Int32) = nI 1 from rfl, ifeq (by have := bt_01 R k; omega) (by omega), nI_add]
      have hs : mns (fun i => decide (bt R i = 1)) (fun i => of wv i (n + 1 - pcn R 8) + o (R - 2 ^ i)) a (k + 1) = if bt R k = 1 then (if of wv k (n + 1 - pcn R 8) + o (R - 2 ^ k) < mns (fun i => decide (bt R i = 1)) (fun i => of wv i (n + 1 - pcn R 8) + o (R - 2 ^ i)) a k then of wv k (n + 1 - pcn R 8) + o (R - 2 ^ k) else mns (fun i => decide (bt R i = 1)) (fun i => of wv i (n + 1 - pcn R 8) + o (R - 2 ^ i)) a k) else mns (fun i => decide (bt R i = 1)) (fun i => of wv i (n + 1 - pcn R 8) + o (R - 2 ^ i)) a k := by
        rw [mns]
        simp only [decide_eq_true_eq]
      have nxt := ih (k + 1) (by omega) (by omega)
      rw [hs] at nxt
      generalize mns (fun i => decide (bt R i = 1)) (fun i => of wv i (n + 1 - pcn R 8) + o (R - 2 ^ i)) a k = M at hm nxt ⊢
      by_cases d : bt R k = 1
      · have d2 := bt_dn0 R (by omega) k (by omega) (by omega)
        have d3 : 1 ≤ 2 ^ k := Nat.one_le_two_pow
        obtain ⟨t1, t2⟩ := hT (R - 2 ^ k) (by omega)
        have ol := of_le h (i := k) (r := n + 1 - pcn R 8) (by omega) (by omega)
        rw [if_pos d] at nxt
        rw [if_pos d, rdN (k := 16) (j := k) (by omega) (by omega), e16]
        simp only [bd1s]
        rw [moff h hn (by omega) (by omega), d, Nat.one_mul, rdN (k := 23) (j := R - 2 ^ k) (by omega) (by omega), t1]
        simp only [bd1s]
        rw [nI_add, ifle (by omega) (by omega)]
        by_cases e : of wv k (n + 1 - pcn R 8) + o (R - 2 ^ k) < M
        · rw [if_pos e] at nxt
          rw [if_neg (by omega)]
          exact nxt
        · rw [if_neg e] at nxt
          rw [if_pos (by omega)]
          exact nxt
      · rw [if_neg d] at nxt
        rw [if_neg d]
        simp only [bd1s]
        rw [show (999 : Int32) = nI 999 from rfl, ifle (by omega) (by omega), if_pos (by omega)]
        exact nxt
theorem mtab (h : Wv w τ n wv) (hn : n ≤ 8) : ∀ (fu R : Nat) (o : Nat → Nat) (τk : Mm), R ≤ 2 ^ n → 2 ^ n - R < fu → (∀ a, a ≠ 23 → τk a = τ a) → (∀ S, S < R → τk 23 S = nI (o S) ∧ Tb wv n o S) → ∃ o' τ', LX9_findOrder_9 (nI n) fu (nI R) τk = some τ' ∧ (∀ a, a ≠ 23 → τ' a = τ a) ∧ ∀ S, S < 2 ^ n → τ' 23 S = nI (o' S) ∧ Tb wv n o' S := by
  have hp := pw_n0 n (by omega)
  intro fu
  induction fu with
  | zero => intro R o τk _ q; omega
  | succ fu ih =>
    intro R o τk hR hf hk hT
    rw [LX9_findOrder_9, all_n0 n (by omega), ifle (by omega) (by omega)]
    by_cases c : 2 ^ n ≤ R
    · rw [if_pos c]
      exact ⟨o, τk, rfl, hk, fun S hS => hT S (by omega)⟩
    · have pl := pc_le8 hn (show R < 2 ^ n by omega)
      have r1 := mrank_c hn (show R < 2 ^ n by omega) 1000 0 (by omega) (by omega)
      have r2 := mloop h hn (hk 16 (by omega)) (show R < 2 ^ n by omega) (o := o) (fun S hS => ⟨(hT S hS).1, by have := (hT S hS).2.1; have := pc_le8 hn (show S < 2 ^ n by omega); omega⟩) (a := if R = 0 then 0 else 999) (by split <;> omega) 1000 0 (by omega) (by omega)
      have hms := (mns_spec (p := fun i => decide (bt R i = 1)) (f := fun i => of wv i (n + 1 - pcn R 8) + o (R - 2 ^ i)) (a := if R = 0 then 0 else 999) n)
      rw [if_neg c, nI_1 n, show LX9_findOrder_23 (nI n) (nI R) 1000 (nI (n + 1)) 0 = some (nI (n + 1 - pcn R 8)) from r1]
      simp only [bd1s]
      rw [show (if nI R = 0 then some (0 : Int32) else some 999) = some (nI (if R = 0 then 0 else 999)) by
        rw [nI_lit0, ifeq (by omega) (by omega)]
        split <;> rfl]
      simp only [bd1s]
      rw [show LX9_findOrder_60 (nI n) (nI R) τk (nI (n + 1 - pcn R 8)) 1000 (nI (if R = 0 then 0 else 999)) 0 = _ from r2]
      simp only [bd1s]
      rw [wrN (k := 23) (j := R) (by omega) (by omega), nI_1]
      simp only [bd1s]
      generalize hM : mns (fun i => decide (bt R i = 1)) (fun i => of wv i (n + 1 - pcn R 8) + o (R - 2 ^ i)) (if R = 0 then 0 else 999) n = M at hms
      have hb : M ≤ 8 * pcn R 8 := by
        by_cases z : R = 0
        · rw [if_pos z] at hms
          omega
        · obtain ⟨i, i1, i2⟩ := pc_ne0 n (by omega) R (by omega) z
          have y := hms.2.1 i i1 (decide_eq_true i2)
          have d2 := bt_dn0 R (by omega) i (by omega) (by omega)
          have d3 : 1 ≤ 2 ^ i := Nat.one_le_two_pow
          have y2 := (hT (R - 2 ^ i) (by omega)).2.1
          have y3 := pc_dn0 R (by omega) i (by omega) i2
          have y4 := of_le h (i := i) (r := n + 1 - pcn R 8) i1 (by omega)
          omega
      have cg : ∀ S, S ≤ R → mns (fun i => decide (bt S i = 1)) (fun i => of wv i (n + 1 - pcn S 8) + (fun x => if x = R then M else o x) (S - 2 ^ i)) (if S = 0 then 0 else 999) n = mns (fun i => decide (bt S i = 1)) (fun i => of wv i (n + 1 - pcn S 8) + o (S - 2 ^ i)) (if S = 0 then 0 else 999) n := fun S hS => mns_cg n (fun _ _ => rfl) (fun i hi y => by
        have d2 := bt_dn0 S (by omega) i (by omega) (by have := of_decide_eq_true y; omega)
        have d3 : 1 ≤ 2 ^ i := Nat.one_le_two_pow
        show _ + (if S - 2 ^ i = R then M else o (S - 2 ^ i)) = _
        rw [if_neg (by omega)])
      refine ih (R + 1) (fun x => if x = R then M else o x) _ (by omega) (by omega) (fun a q => by rw [st_a q, hk a q]) (fun S hS => ?_)
      by_cases z : S = R
      · subst z
        rw [st_kj]
        refine ⟨by show _ = nI (if S = S then M else o S); rw [if_pos rfl], ?_, ?_⟩
        · show (if S = S then M else o S) ≤ _
          rw [if_pos rfl]
          exact hb
        · rw [cg S (Nat.le_refl _), hM]
          exact if_pos rfl
      · obtain ⟨t1, t2, t3⟩ := hT S (by omega)
        rw [st_ki z]
        refine ⟨by show _ = nI (if S = R then M else o S); rw [if_neg z]; exact t1, ?_, ?_⟩
        · show (if S = R then M else o S) ≤ _
          rw [if_neg z]
          exact t2
        · rw [cg S (by omega), ← t3]
          exact if_neg z
end OR
