/-- all voices are told apart -/
def Vo (g : Mm) (n : Nat) : Prop := ∃ V : Nat → Nat, (∀ i, i < n → g 6 i = nI (V i) ∧ V i < 16) ∧ ∀ i j, i < n → j < n → V i = V j → i = j
theorem fb_ct_less {p q : Nat → Bool} {n i : Nat} (hi : i < n) (hs : ∀ k, k < n → p k = true → q k = true) (hp : p i = false) (hq : q i = true) : fb_ct p n < fb_ct q n := by
  have h1 := fb_ct_upd q false hi
  have h2 : fb_ct p n ≤ fb_ct (fun k => if k = i then false else q k) n := fb_ct_sub (fun k hk hpk => by
    by_cases c : k = i
    · subst c
      rw [hp] at hpk
      cases hpk
    · simp only [c, if_false]
      exact hs k hk hpk)
  rw [hq] at h1
  simp only [if_true, Bool.false_eq_true, if_false, Nat.add_zero] at h1
  omega
section PM
variable {w τ g : Mm} {n b : Nat} {L : Nat → Int32}
theorem key_ex (hr : Rd g n) (hn : n ≤ 8) (hL : Lr n L) (hV : Vo g n) : ∃ ky : Nat → Nat, (∀ i j, i < n → j < n → i ≠ j → (ah g L i j = true ↔ ky i < ky j)) ∧ ∀ i j, i < n → j < n → ky i = ky j → i = j := by
  obtain ⟨V, V1, V2⟩ := hV
  have hl : ∀ i, ∃ l : Nat, i < n → (L i = nI l ∧ l ≤ 999) := by
    intro i
    by_cases hi : i < n
    · rcases hL i hi with q | ⟨m, m1, m2, m3⟩
      · exact ⟨999, fun _ => ⟨q, by omega⟩⟩
      · exact ⟨m, fun _ => ⟨m3, by omega⟩⟩
    · exact ⟨0, fun q => absurd q hi⟩
  obtain ⟨l, hl⟩ := Classical.axiomOfChoice hl
  refine ⟨fun i => ((l (ldr g L i) * 16 + V (ldr g L i)) * 2 + (if ldr g L i = i then 1 else 0)) * 16 + V i, fun i j hi hj hij => ?_, fun i j hi hj h => ?_⟩
  · dsimp only
    have li := ldr_lt (L := L) hr (by omega) hi
    have lj := ldr_lt (L := L) hr (by omega) hj
    obtain ⟨a1, a2⟩ := hl _ li
    obtain ⟨b1, b2⟩ := hl _ lj
    obtain ⟨v1, v2⟩ := V1 _ li
    obtain ⟨u1, u2⟩ := V1 _ lj
    obtain ⟨x1, x2⟩ := V1 i hi
    obtain ⟨y1, y2⟩ := V1 j hj
    unfold ah
    by_cases c : ldr g L i = ldr g L j
    · rw [if_pos c, decide_eq_true_eq, x1, y1, nI_ltI (by omega) (by omega)]
      rw [← c]
      by_cases c1 : ldr g L i = i
      · rw [if_pos c1]
        have c2 : ¬ ldr g L i = j := fun q => hij (by rw [← c1, q])
        rw [if_neg c2]
        constructor
        · intro q
          exact absurd c1 q.1
        · intro q
          omega
      · rw [if_neg c1]
        by_cases c2 : ldr g L i = j
        · rw [if_pos c2]
          constructor
          · intro _
            omega
          · intro _
            exact ⟨c1, Or.inl c2⟩
        · rw [if_neg c2]
          constructor
          · intro q
            have := q.2.resolve_left c2
            omega
          · intro q
            exact ⟨c1, Or.inr (by omega)⟩
    · have cv : V (ldr g L i) ≠ V (ldr g L j) := fun q => c (V2 _ _ li lj q)
      rw [if_neg c, a1, b1, v1, u1]
      have f1 : (if ldr g L i = i then 1 else 0) ≤ 1 := by split <;> omega
      have f2 : (if ldr g L j = j then 1 else 0) ≤ 1 := by split <;> omega
      generalize (if ldr g L i = i then 1 else 0) = p at f1 ⊢
      generalize (if ldr g L j = j then 1 else 0) = q at f2 ⊢
      by_cases c3 : l (ldr g L i) = l (ldr g L j)
      · rw [if_pos (by rw [c3]), decide_eq_true_eq, nI_ltI (by omega) (by omega), c3]
        omega
      · rw [if_neg (fun z => c3 ((nI_eq (by omega) (by omega)).mp z)), decide_eq_true_eq, nI_ltI (by omega) (by omega)]
        omega
  · dsimp only at h
    obtain ⟨x1, x2⟩ := V1 i hi
    obtain ⟨y1, y2⟩ := V1 j hj
    exact V2 i j hi hj (by omega)
theorem rk_key {ky : Nat → Nat} (h1 : ∀ i j, i < n → j < n → i ≠ j → (ah g L i j = true ↔ ky i < ky j)) {i : Nat} (hi : i < n) : rk g n L i = fb_ct (fun j => decide (ky j < ky i)) n := by
  unfold rk
  refine fb_ct_cong (fun k hk => ?_)
  by_cases c : k = i
  · subst c
    simp
  · have := h1 k i hk hi c
    cases ha : ah g L k i with
    | true => simp [c, this.mp ha]
    | false =>
      have : ¬ ky k < ky i := fun q => by rw [this.mpr q] at ha; cases ha
      simp [this]
theorem rk_inj (hr : Rd g n) (hn : n ≤ 8) (hL : Lr n L) (hV : Vo g n) {i j : Nat} (hi : i < n) (hj : j < n) (h : rk g n L i = rk g n L j) : i = j := by
  obtain ⟨ky, k1, k2⟩ := key_ex hr hn hL hV
  rw [rk_key k1 hi, rk_key k1 hj] at h
  have less : ∀ a c, a < n → c < n → ky a < ky c → fb_ct (fun j => decide (ky j < ky a)) n < fb_ct (fun j => decide (ky j < ky c)) n := by
    intro a c ha hc hac
    refine fb_ct_less ha (fun k _ hk => ?_) (by simp) (by simpa using hac)
    have := of_decide_eq_true hk
    exact decide_eq_true (by omega)
  rcases Nat.lt_trichotomy (ky i) (ky j) with q | q | q
  · have := less i j hi hj q
    omega
  · exact k2 i j hi hj q
  · have := less j i hj hi q
    omega
theorem rk_onto (hr : Rd g n) (hn : n ≤ 8) (hL : Lr n L) (hV : Vo g n) {r : Nat} (h : r < n) : ∃ i, i < n ∧ rk g n L i = r :=
  fb_onto (f := rk g n L) (fun i hi => rk_lt hi) (fun i j hij hj q => by have := rk_inj hr hn hL hV (by omega) hj q; omega) h
/-- who is first: ahead of all others -/
theorem rk_first (hr : Rd g n) (hn : n ≤ 8) (hL : Lr n L) (hV : Vo g n) {i : Nat} (hi : i < n) : rk g n L i = 0 ↔ ∀ j, j < n → j ≠ i → ah g L i j = true := by
  obtain ⟨ky, k1, k2⟩ := key_ex hr hn hL hV
  rw [rk_key k1 hi, fb_ct_zero]
  constructor
  · intro h j hj hji
    rw [k1 i j hi hj (Ne.symm hji)]
    have h1 := of_decide_eq_false (h j hj)
    have h2 : ky i ≠ ky j := fun q => hji (k2 i j hi hj q).symm
    omega
  · intro h k hk
    by_cases c : k = i
    · subst c
      simp
    · have := (k1 i k hi hk (Ne.symm c)).mp (h k hk c)
      exact decide_eq_false (by omega)
/-- a crossing of the class: landings, ranks, who has each -/
theorem run_spec {fd wd : Int32} (h : AX w n g) (hv : Vg g n) (hr : Rd g n) (hV : Vo g n) (hw : 0 < wd) (e9 : w 30 9 = fd) (e8 : w 30 8 = wd) : ∃ w', fX4_run w = some w' ∧ (∀ i, i < n → w' 33 i = L2 (la g n fd wd i)) ∧ (∀ i, i < n → w' 34 i = nI (rk g n (la g n fd wd) i + 1)) ∧ (∀ i, i < n → w' 35 (rk g n (la g n fd wd) i) = nI i) ∧ (∀ a, a ≠ 30 → a ≠ 33 → a ≠ 34 → a ≠ 35 → w' a = w a) ∧ ∀ j, j < 10 → w' 30 j = w 30 j := by
  have hn := h.2.1
  obtain ⟨w1, a1, a2, a3, a4⟩ := run_land hv hr hw 1000 0 w h e9 e8 (by omega) (by omega) (fun i hi => absurd hi (by omega))
  obtain ⟨w2, b1, b2, b3, b4, b5⟩ := xranks (L := la g n fd wd) hr la_rng 1000 0 w1 (h.kept (a4 6 (by omega)) (a4 7 (by omega)) (fun a _ _ q1 q2 _ _ => a3 a q1 q2)) a2 (by omega) (by omega) (fun i hi => absurd hi (by omega))
  refine ⟨w2, ?_, fun i hi => by rw [b3 33 (by omega) (by omega)]; exact a2 i hi, b2, fun i hi => ?_, fun a q1 q2 q3 q4 => by rw [b3 a q3 q4, a3 a q1 q2], fun j q => by rw [b3 30 (by omega) (by omega)]; exact a4 j q⟩
  · unfold fX4_run
    rw [nI_lit0, a1]
    simp only [bd1s]
    rw [b1]
    rfl
  · obtain ⟨j, j1, j2, j3, j4⟩ := b4 (rk g n (la g n fd wd) i) ⟨i, by omega, hi, rfl⟩
    rw [j4, rk_inj hr hn la_rng hV j2 hi j3]
theorem findRanks_spec (h : AM τ b n g) (hr : Rd g n) (hL : Lr n L) (hV : Vo g n) (h20 : ∀ i, i < n → τ 20 i = L i) : ∃ τ', fX9_findRanks τ (nI b) = some τ' ∧ (∀ i, i < n → τ' 21 (rk g n L i) = nI i) ∧ ∀ a, a ≠ 21 → τ' a = τ a := by
  have hn := h.2.1
  obtain ⟨τ', r1, r2, r3, -⟩ := mranks (L := L) hr 1000 0 τ h h20 (by omega) (by omega)
  refine ⟨τ', ?_, fun i hi => ?_, r2⟩
  · unfold fX9_findRanks
    rw [nI_lit0, r1]
    rfl
  · obtain ⟨j, j1, j2, j3, j4⟩ := r3 (rk g n L i) ⟨i, by omega, hi, rfl⟩
    rw [j4, rk_inj hr hn hL hV j2 hi j3]
end PM
