def t5 (m : Nat → Int32) : T5 := (m 33, m 34, m 35, m 36, m 37)
theorem MSt_self (m : Nat → Int32) : MSt m (t5 m) m := ⟨fun _ _ => ⟨rfl, rfl, rfl⟩, rfl, rfl, rfl, rfl, rfl, rfl, rfl, fun _ _ => rfl⟩
theorem RC_SM {te : TTe} {st : TSt} {m : Nat → Int32} (h : RC te st m) : SM st m := ⟨h.2.2.2.2.2.1, fun k hk => ⟨(h.2.2.2.2.2.2 k hk).1, (h.2.2.2.2.2.2 k hk).2.1, (h.2.2.2.2.2.2 k hk).2.2.1⟩⟩
theorem RC_te {te : TTe} {st : TSt} {m : Nat → Int32} (h : RC te st m) : te = te5 (t5 m) te.2.2.2.2.2.1 te.2.2.2.2.2.2 := by
  obtain ⟨r, c, g, b, ho, hm, fk⟩ := te
  obtain ⟨h1, h2, h3, h4, h5, -⟩ := h
  dsimp only at h1 h2 h3 h4 h5
  rw [h1, h2, h3, h4, h5]
  rfl
theorem RNG_KR {m : Nat → Int32} (h : RNG m) : KR m := ⟨h.1, h.2.2.2.2.2.2⟩
theorem RNG_TR {m : Nat → Int32} (h : RNG m) : TR (t5 m) := ⟨(bnd_iff (by decide)).mp h.2.1, (bnd_iff (by decide)).mp h.2.2.1, (bnd_iff (by decide)).mp h.2.2.2.1, (bnd_iff (by decide)).mp h.2.2.2.2.1, (bnd_iff (by decide)).mp h.2.2.2.2.2.1⟩
theorem RNG_of {m : Nat → Int32} (h : KR m) (ht : TR (t5 m)) : RNG m := ⟨h.1, (bnd_iff (by decide)).mpr ht.1, (bnd_iff (by decide)).mpr ht.2.1, (bnd_iff (by decide)).mpr ht.2.2.1, (bnd_iff (by decide)).mpr ht.2.2.2.1, (bnd_iff (by decide)).mpr ht.2.2.2.2, h.2⟩
def isK (n : Int32) (v : Int64) : Bool := decide (0 ≤ v ∧ v < n.toInt64)
def isO (n : Int32) (v : Int64) : Bool := decide (v = -1) || (decide (v = 10) || isK n v)
theorem keeper7 (v : Int64) {st : TSt} {m : Nat → Int32} (hs : st.1 = m 32) : zf_X7_isKeeper v st = some (isK (m 32) v) := by
  unfold zf_X7_isKeeper isK
  rw [hs]
  by_cases a : v < 0
  · rw [if_pos ((cmp_lt _ _).mpr a), decide_eq_false (fun q => by have := l_lt.mp a; have := l_le.mp q.1; omega)]
  · rw [if_neg (fun q => a ((cmp_lt _ _).mp q))]
    by_cases b : (m 32).toInt64 ≤ v
    · rw [if_pos ((cmp_ge _ _).mpr b), decide_eq_false (fun q => by have := l_le.mp b; have := l_lt.mp q.2; omega)]
    · rw [if_neg (fun q => b ((cmp_ge _ _).mp q)), decide_eq_true ⟨Int64.not_lt.mp a, Int64.not_le.mp b⟩]
theorem keeper8 (v : Int64) {m : Nat → Int32} (hn : bnd (m 32) 0 8) : zf_X8_isKeeper v m = some (isK (m 32) v) := by
  obtain ⟨h1, h2⟩ := (bnd_iff (by decide)).mp hn
  have e1 : (m 32 - 1).toInt = (m 32).toInt - 1 := by rw [i_sub (by rw [show (1 : Int32).toInt = 1 from rfl]; omega) (by rw [show (1 : Int32).toInt = 1 from rfl]; omega), show (1 : Int32).toInt = 1 from rfl]
  have e0 : (0 : Int64).toInt = 0 := rfl
  unfold zf_X8_isKeeper zf_X8_isIn isK
  by_cases a : v < 0
  · rw [if_pos ((cmp_lt _ _).mpr a), decide_eq_false (fun q => by have := l_lt.mp a; have := l_le.mp q.1; omega)]; rfl
  · rw [if_neg (fun q => a ((cmp_lt _ _).mp q))]
    by_cases b : (m 32 - 1).toInt64 < v
    · rw [if_pos ((cmp_gt _ _).mpr b), decide_eq_false (fun q => by have b := l_lt.mp b; have := l_lt.mp q.2; rw [i_w] at b this; omega)]; rfl
    · rw [if_neg (fun q => b ((cmp_gt _ _).mp q)), decide_eq_true ⟨Int64.not_lt.mp a, l_lt.mpr (by have b := fun y => b (l_lt.mpr y); rw [i_w] at b ⊢; exact Int.not_le.mp fun y => b (by omega))⟩]; rfl
theorem order7 (v : Int64) {st : TSt} {m : Nat → Int32} (hs : st.1 = m 32) : zf_X7_isOrder v st = some (isO (m 32) v) := by
  unfold zf_X7_isOrder zf_X7_isOrder_24 isO
  rw [keeper7 v hs]
  by_cases a : v = -1
  · rw [if_pos ((cmp_eq _ _).mpr a), decide_eq_true a]; rfl
  · rw [if_neg (fun q => a ((cmp_eq _ _).mp q)), decide_eq_false a]
    by_cases b : v = 10
    · rw [if_pos ((cmp_eq _ _).mpr b), decide_eq_true b]; rfl
    · rw [if_neg (fun q => b ((cmp_eq _ _).mp q)), decide_eq_false b, Option.bind_some]
      cases isK (m 32) v <;> rfl
theorem order8 (v : Int64) {m : Nat → Int32} (hn : bnd (m 32) 0 8) : zf_X8_isOrder v m = some (isO (m 32) v) := by
  unfold zf_X8_isOrder zf_X8_isOrder_24 isO
  rw [keeper8 v hn]
  by_cases a : v = -1
  · rw [if_pos ((cmp_eq _ _).mpr a), decide_eq_true a]; rfl
  · rw [if_neg (fun q => a ((cmp_eq _ _).mp q)), decide_eq_false a]
    by_cases b : v = 10
    · rw [if_pos ((cmp_eq _ _).mpr b), decide_eq_true b]; rfl
    · rw [if_neg (fun q => b ((cmp_eq _ _).mp q)), decide_eq_false b, Option.bind_some]
      cases isK (m 32) v <;> rfl
theorem isK_32 {n x : Int32} (hn : bnd n 0 8) (h : isK n x.toInt64 = true) : ∃ k : Nat, k < 8 ∧ nI k < n ∧ x = nI k := by
  obtain ⟨a, b⟩ := of_decide_eq_true h
  obtain ⟨h1, h2⟩ := (bnd_iff (by decide)).mp hn
  have a := l_le.mp a
  have b := l_lt.mp b
  rw [i_w] at a b
  rw [i_w] at b
  have e0 : (0 : Int64).toInt = 0 := rfl
  have ex : x = nI x.toInt.toNat := i_eq.mpr (by rw [nI_t (by omega)]; omega)
  exact ⟨x.toInt.toNat, by omega, i_lt.mpr (by rw [nI_t (by omega)]; omega), ex⟩
theorem isK_nI {n : Int32} (hn : bnd n 0 8) {k : Nat} (h8 : k < 8) (h : nI k < n) : isK n (nI k).toInt64 = true := by
  refine decide_eq_true ⟨l_le.mpr ?_, l_lt.mpr ?_⟩
  · rw [i_w, nI_t (by omega), show (0 : Int64).toInt = 0 from rfl]; omega
  · rw [i_w, i_w]; exact i_lt.mp h
theorem isO_32 {m : Nat → Int32} {x : Int32} (hn : bnd (m 32) 0 8) (h : isO (m 32) x.toInt64 = true) : ORD m x := by
  unfold isO at h
  rw [Bool.or_eq_true, Bool.or_eq_true] at h
  rcases h with h | h | h
  · have h := l_eq.mp (of_decide_eq_true h)
    rw [i_w] at h
    exact Or.inl (i_eq.mpr h)
  · have h := l_eq.mp (of_decide_eq_true h)
    rw [i_w] at h
    exact Or.inr (Or.inl (i_eq.mpr h))
  · exact Or.inr (Or.inr (isK_32 hn h))
theorem hasKx {st : TSt} {m : Nat → Int32} (hs : SM st m) (hn : bnd (m 32) 0 8) (x : Int32) : zf_X2_has x st = some (isK (m 32) x.toInt64) := by
  rw [has7 hs hn]
  unfold isK
  congr 1
  rw [decide_eq_decide]
  rw [l_le, l_lt, i_w, i_w, i_le, i_lt]
  exact Iff.rfl
/-- kinds under kinds, of numbers -/
theorem num_nI {x : Int32} {b : Nat} (h : bnd x 0 b) : ∃ n, n ≤ b ∧ x = nI n := by obtain ⟨n, -, h2, e⟩ := h; exact ⟨n, h2, e⟩
