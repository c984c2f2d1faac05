/-! pure rows: numbers, ranges, refusals -/
theorem i_lt {a b : Int32} : a < b ↔ a.toInt < b.toInt := Int32.lt_iff_toInt_lt
theorem i_le {a b : Int32} : a ≤ b ↔ a.toInt ≤ b.toInt := Int32.le_iff_toInt_le
theorem i_eq {a b : Int32} : a = b ↔ a.toInt = b.toInt := Int32.toInt_inj.symm
theorem l_lt {a b : Int64} : a < b ↔ a.toInt < b.toInt := Int64.lt_iff_toInt_lt
theorem l_le {a b : Int64} : a ≤ b ↔ a.toInt ≤ b.toInt := Int64.le_iff_toInt_le
theorem l_eq {a b : Int64} : a = b ↔ a.toInt = b.toInt := Int64.toInt_inj.symm
theorem i_w (x : Int32) : x.toInt64.toInt = x.toInt := Int32.toInt_toInt64 x
theorem nI_t {n : Nat} (h : n < 2147483648) : (nI n).toInt = (n : Int) := nI_toInt h
theorem i_rng (x : Int32) : -2147483648 ≤ x.toInt ∧ x.toInt < 2147483648 := ⟨by have := Int32.le_toInt x; omega, by have := Int32.toInt_lt x; omega⟩
theorem i_add {x y : Int32} (h1 : -2147483648 ≤ x.toInt + y.toInt) (h2 : x.toInt + y.toInt < 2147483648) : (x + y).toInt = x.toInt + y.toInt := by
  rw [Int32.toInt_add, Int.bmod_eq_of_le (by omega) (by omega)]
theorem i_sub {x y : Int32} (h1 : -2147483648 ≤ x.toInt - y.toInt) (h2 : x.toInt - y.toInt < 2147483648) : (x - y).toInt = x.toInt - y.toInt := by
  rw [Int32.toInt_sub, Int.bmod_eq_of_le (by omega) (by omega)]
theorem i_mul {x y : Int32} (h1 : -2147483648 ≤ x.toInt * y.toInt) (h2 : x.toInt * y.toInt < 2147483648) : (x * y).toInt = x.toInt * y.toInt := by
  rw [Int32.toInt_mul, Int.bmod_eq_of_le (by omega) (by omega)]
theorem cmp_lt (x y : Int64) : lg_cmp x y < 0 ↔ x < y := by
  unfold lg_cmp
  by_cases h : x > y
  · rw [if_pos h]
    exact ⟨fun q => absurd q (by decide), fun q => by have h := l_lt.mp h; have q := l_lt.mp q; omega⟩
  · rw [if_neg h]
    by_cases e : x = y
    · rw [if_pos e]
      exact ⟨fun q => absurd q (by decide), fun q => by subst e; have q := l_lt.mp q; omega⟩
    · rw [if_neg e]
      refine ⟨fun _ => ?_, fun _ => by decide⟩
      have h : ¬ y.toInt < x.toInt := fun z => h (l_lt.mpr z)
      have e : ¬ x.toInt = y.toInt := fun z => e (l_eq.mpr z)
      exact l_lt.mpr (by omega)
theorem cmp_gt (x y : Int64) : 0 < lg_cmp x y ↔ y < x := by
  unfold lg_cmp
  by_cases h : x > y
  · rw [if_pos h]
    exact ⟨fun _ => h, fun _ => by decide⟩
  · rw [if_neg h]
    by_cases e : x = y
    · rw [if_pos e]
      exact ⟨fun q => absurd q (by decide), fun q => absurd q h⟩
    · rw [if_neg e]
      exact ⟨fun q => absurd q (by decide), fun q => absurd q h⟩
theorem cmp_ge (x y : Int64) : 0 ≤ lg_cmp x y ↔ y ≤ x := lg_cmp_ge x y
theorem cmp_eq (x y : Int64) : lg_cmp x y = 0 ↔ x = y := by
  unfold lg_cmp
  by_cases h : x > y
  · rw [if_pos h]
    exact ⟨fun q => absurd q (by decide), fun q => by subst q; have h := l_lt.mp h; omega⟩
  · rw [if_neg h]
    by_cases e : x = y
    · rw [if_pos e]; exact ⟨fun _ => e, fun _ => rfl⟩
    · rw [if_neg e]; exact ⟨fun q => absurd q (by decide), fun q => absurd q e⟩
/-- within -/
def win (x a b : Int32) : Bool := decide (a ≤ x ∧ x ≤ b)
theorem win7 (x a b : Int32) : zf_X7_isWithin x a b = some (win x a b) := by
  unfold zf_X7_isWithin win
  by_cases h : x < a
  · rw [if_pos h, decide_eq_false (fun q => by have := i_lt.mp h; have := i_le.mp q.1; omega)]
  · rw [if_neg h]
    by_cases h2 : b < x
    · rw [if_pos h2, decide_eq_false (fun q => by have := i_lt.mp h2; have := i_le.mp q.2; omega)]
    · rw [if_neg h2, decide_eq_true ⟨Int32.not_lt.mp h, Int32.not_lt.mp h2⟩]
theorem win8 {x a b : Int32} {A B : Int64} (hA : A = a.toInt64) (hB : B = b.toInt64) : zf_X8_isIn x.toInt64 A B = some (win x a b) := by
  subst hA
  subst hB
  unfold zf_X8_isIn win
  by_cases h : x < a
  · rw [if_pos ((cmp_lt _ _).mpr (l_lt.mpr (by rw [i_w, i_w]; exact i_lt.mp h))), decide_eq_false (fun q => by have := i_lt.mp h; have := i_le.mp q.1; omega)]
  · rw [if_neg (fun q => h (i_lt.mpr (by have := l_lt.mp ((cmp_lt _ _).mp q); rw [i_w, i_w] at this; exact this)))]
    by_cases h2 : b < x
    · rw [if_pos ((cmp_gt _ _).mpr (l_lt.mpr (by rw [i_w, i_w]; exact i_lt.mp h2))), decide_eq_false (fun q => by have := i_lt.mp h2; have := i_le.mp q.2; omega)]
    · rw [if_neg (fun q => h2 (i_lt.mpr (by have := l_lt.mp ((cmp_gt _ _).mp q); rw [i_w, i_w] at this; exact this))), decide_eq_true ⟨Int32.not_lt.mp h, Int32.not_lt.mp h2⟩]
theorem win_iff {x a b : Int32} : win x a b = true ↔ a.toInt ≤ x.toInt ∧ x.toInt ≤ b.toInt := by
  unfold win
  rw [decide_eq_true_iff, i_le, i_le]
theorem win_nI {x : Int32} {B : Nat} (hB : B < 2147483648) (h : win x 0 (nI B) = true) : ∃ j, j ≤ B ∧ x = nI j := by
  have h := win_iff.mp h
  rw [nI_t hB] at h
  have h0 : (0 : Int32).toInt = 0 := rfl
  rw [h0] at h
  refine ⟨x.toInt.toNat, by omega, i_eq.mpr ?_⟩
  rw [nI_t (by omega)]
  omega
theorem ix_nI {j n : Nat} (h : j < n) (hn : n < 2147483648) : ix (nI j) n = true := decide_eq_true ⟨by rw [nI_t (by omega)]; omega, by rw [nI_t (by omega)]; omega⟩
theorem cl_nI {j : Nat} (h : j < 2147483648) : (nI j).toNatClampNeg = j := nI_clamp h
theorem shelf7 (s : Int32) : zf_X7_isShelf s = some (win s 0 7) := by unfold zf_X7_isShelf; rw [win7]; rfl
theorem shelf8 (s : Int32) : zf_X8_isShelf s = some (win s 0 7) := by unfold zf_X8_isShelf; rw [win8 (a := 0) (b := 7) (by decide) (by decide)]; rfl
theorem ref7 {x : Int32} (i : Nat) (hi : i < 5) (hx : x = -2 - nI i) (rf : Nat → Int32) : zf_X7_refused x rf = some (x, upd rf i (rf i + 1)) := by
  have hi : i = 0 ∨ i = 1 ∨ i = 2 ∨ i = 3 ∨ i = 4 := by omega
  subst hx
  rcases hi with rfl | rfl | rfl | rfl | rfl <;> rfl
theorem ref8 {x : Int32} (i : Nat) (hi : i < 5) (hx : x = -2 - nI i) (rf : Nat → Int32) : zf_X8_refuse x rf = some (x, upd rf (i + 2) (rf (i + 2) + 1)) := by
  have hi : i = 0 ∨ i = 1 ∨ i = 2 ∨ i = 3 ∨ i = 4 := by omega
  subst hx
  rcases hi with rfl | rfl | rfl | rfl | rfl <;> rfl
theorem RF_up {rf rfd : Nat → Int32} (h : RF rf rfd) {i : Nat} (hi : i < 5) : RF (upd rf i (rf i + 1)) (upd rfd (i + 2) (rfd (i + 2) + 1)) := by
  intro k hk
  unfold upd
  by_cases e : k = i
  · rw [if_pos e, if_pos (by omega), h i hi]
  · rw [if_neg e, if_neg (by omega), h k hk]
theorem upd_s {f : Nat → Int32} {k : Nat} {x : Int32} : upd f k x k = x := by unfold upd; rw [if_pos rfl]
theorem upd_n {f : Nat → Int32} {k j : Nat} {x : Int32} (h : j ≠ k) : upd f k x j = f j := by unfold upd; rw [if_neg h]
theorem i_nlt {a b : Int32} (h : ¬ a < b) : b.toInt ≤ a.toInt := Int.not_lt.mp fun y => h (i_lt.mpr y)
theorem i_nle {a b : Int32} (h : ¬ a ≤ b) : b.toInt < a.toInt := Int.not_le.mp fun y => h (i_le.mpr y)
