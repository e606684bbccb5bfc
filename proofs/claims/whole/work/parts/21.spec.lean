/-! WHAT A CROSSING IS: g 0 strokes, 1 weights, 2 kinds, 3 starts, 4 who is ridden on, 5 rafts, 6 voices, 7 current by minutes -/
def md5 (x : Int32) : Int32 := x - x / 5 * 5
def fld (fd : Int32) (m : Nat) : Bool := decide (¬ 5 < nI m ∧ (fd >>> ((nI m - 1) &&& 31)) &&& 1 = 1)
def hp (g : Mm) (n m : Nat) : Bool := an (fun k => decide (g 2 k = 2 ∧ g 3 k < nI m)) n && decide (1 < nI m ∧ md5 (nI m) = 1)
def ld (g : Mm) (n i : Nat) : Int32 := sm (fun k => if g 4 k = nI i then g 1 k else 0) n
def tk (g : Mm) (n i m : Nat) : Int32 := if hp g n m = true ∧ g 2 i ≠ 2 then 0 else g 7 m
def tl2 (g : Mm) (n i m : Nat) : Int32 := tk g n i m - (if g 2 i = 1 ∧ 0 < tk g n i m then 1 else 0)
def at1 (v : Int32) : Int32 := if 1 ≤ v then v else 1
def yb (g : Mm) (n i m : Nat) : Int32 :=
  if nI m ≤ g 3 i then 0 else if (g 2 i = 2 ∧ md5 (nI m) = 0) ∨ (g 2 i = 3 ∧ ¬ g 3 i + 3 < nI m) then 0 else at1 (g 0 i - tl2 g n i m - ld g n i / 3)
def yr (g : Mm) (n : Nat) (r : Int32) (m : Nat) : Int32 :=
  if an (fun k => decide (g 5 k = r ∧ ¬ g 3 k < nI m)) n = true then 0 else at1 (sm (fun k => if g 5 k = r then g 0 k else 0) n / 3 - g 7 m)
def yd (g : Mm) (n i m : Nat) : Int32 := if g 5 i = -4 then yb g n i m else yr g n (g 5 i) m
/-- how far a beast that does not ride is behind minute m, and in which minute it landed (999: not) -/
def fl (g : Mm) (n : Nat) (fd wd : Int32) (i : Nat) : Nat → Int32 × Int32
  | 0 => (0, 999)
  | m + 1 => if fld fd (m + 1) = true then fl g n fd wd i m else if (fl g n fd wd i m).2 = 999 then ((fl g n fd wd i m).1 + yd g n i (m + 1), if (fl g n fd wd i m).1 + yd g n i (m + 1) < wd then 999 else nI (m + 1)) else fl g n fd wd i m
/-- by whom a beast is moved -/
def mv (g : Mm) (i : Nat) : Nat := if g 4 i = -4 then i else (g 4 i).toNatClampNeg
/-! what a reader reads alone matters -/
theorem rdC {w w' : Mm} {k n : Nat} {i : Int32} (h : w' k = w k) : rd w' k n i = rd w k n i := by
  unfold rd
  rw [h]
theorem raftOf_c {w w' : Mm} (h1 : w' 12 = w 12) (h2 : w' 13 = w 13) (x : Int32) : fX9_raftOf w' x = fX9_raftOf w x := by
  have key : ∀ fu v, LX9_raftOf_2 x w' fu v = LX9_raftOf_2 x w fu v := by
    intro fu
    induction fu with
    | zero => intro v; rfl
    | succ fu ih =>
      intro v
      rw [LX9_raftOf_2, LX9_raftOf_2]
      simp only [rdC h1, rdC h2, ih]
  exact key _ _
theorem ahead_c {w w' : Mm} (h1 : w' 2 = w 2) (h2 : w' 14 = w 14) (x : Int32) : fX9_ahead w' x = fX9_ahead w x := by
  have key : ∀ fu a v, LX9_ahead_4 x w' fu a v = LX9_ahead_4 x w fu a v := by
    intro fu
    induction fu with
    | zero => intro a v; rfl
    | succ fu ih =>
      intro a v
      rw [LX9_ahead_4, LX9_ahead_4]
      simp only [rdC h1, rdC h2, ih]
  unfold fX9_ahead
  rw [key]
theorem currentIn_c {w w' : Mm} (h1 : w' 8 = w 8) (h2 : w' 9 = w 9) (h3 : w' 10 = w 10) (x : Int32) : fX9_currentIn w' x = fX9_currentIn w x := by
  have key : ∀ fu a b v, LX9_currentIn_7 x w' fu a b v = LX9_currentIn_7 x w fu a b v := by
    intro fu
    induction fu with
    | zero => intro a b v; rfl
    | succ fu ih =>
      intro a b v
      rw [LX9_currentIn_7, LX9_currentIn_7]
      simp only [rdC h1, rdC h2, rdC h3, ih]
  unfold fX9_currentIn
  rw [key]
theorem takesIn_c {w w' : Mm} (h0 : w' 0 25 = w 0 25) (h1 : w' 8 = w 8) (h2 : w' 9 = w 9) (h3 : w' 10 = w 10) (x : Int32) : fX9_takesIn w' x = fX9_takesIn w x := by
  unfold fX9_takesIn
  rw [currentIn_c h1 h2 h3, h0]
/-- the reference's memory holds the crossing g of n beasts, starts and rides at place b of 'now' -/
def AM (τ : Mm) (b n : Nat) (g : Mm) : Prop :=
  τ 2 0 = nI n ∧ n ≤ 8 ∧ b ≤ 176 ∧ (∀ i, i < n → τ 3 i = g 0 i ∧ τ 4 i = g 1 i ∧ τ 5 i = g 2 i ∧ τ 18 (b + i) = g 3 i ∧ τ 18 (b + 8 + i) = g 4 i) ∧
  (∀ i, i < n → fX9_raftOf τ (nI i) = some (g 5 i)) ∧ (∀ i, i < n → fX9_ahead τ (nI i) = some (g 6 i)) ∧
  (∀ m, 1 ≤ m → m ≤ 200 → fX9_takesIn τ (nI m) = some (g 7 m)) ∧
  ∃ (R : Nat) (rm : Nat → Nat), R ≤ 2 ∧ (∀ k, k < 3 * R → rm k < n ∧ τ 13 k = nI (rm k) ∧ g 5 (rm k) = nI (k / 3)) ∧ (∀ k j, k < 3 * R → j < 3 * R → rm k = rm j → k = j) ∧ ∀ i, i < n → g 5 i ≠ -4 → ∃ k, k < 3 * R ∧ rm k = i
theorem AM.kept {τ τ' : Mm} {b n : Nat} {g : Mm} (h : AM τ b n g) (h0 : τ' 0 25 = τ 0 25) (hk : ∀ a, 1 ≤ a → a ≤ 18 → τ' a = τ a) : AM τ' b n g := by
  obtain ⟨h1, h2, h3, h4, h5, h6, h7, R, rm, h8, h9, h10⟩ := h
  refine ⟨by rw [hk 2 (by omega) (by omega)]; exact h1, h2, h3, fun i hi => ?_, fun i hi => ?_, fun i hi => ?_, fun m a c => ?_, R, rm, h8, fun k hr => ?_, h10⟩
  · rw [hk 3 (by omega) (by omega), hk 4 (by omega) (by omega), hk 5 (by omega) (by omega), hk 18 (by omega) (by omega)]
    exact h4 i hi
  · rw [raftOf_c (hk 12 (by omega) (by omega)) (hk 13 (by omega) (by omega))]
    exact h5 i hi
  · rw [ahead_c (hk 2 (by omega) (by omega)) (hk 14 (by omega) (by omega))]
    exact h6 i hi
  · rw [takesIn_c h0 (hk 8 (by omega) (by omega)) (hk 9 (by omega) (by omega)) (hk 10 (by omega) (by omega))]
    exact h7 m a c
  · rw [hk 13 (by omega) (by omega)]
    exact h9 k hr
