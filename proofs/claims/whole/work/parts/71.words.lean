/-! pure rows: the words -/
variable {tp L : Nat → Int32} {z f a : Nat}
def gC (tp : Nat → Int32) (f a i : Nat) : Int32 := if a ≤ f + i then 0 else tp (f + i)
def mtN (tp : Nat → Int32) (f a w : Nat) : Nat → Bool
  | 0 => true
  | i + 1 => mtN tp f a w i && decide (gC tp f a i = zWORDS (6 * w + i))
theorem mtN_iff (w : Nat) : ∀ n, mtN tp f a w n = true ↔ ∀ i, i < n → gC tp f a i = zWORDS (6 * w + i)
  | 0 => ⟨fun _ i hi => absurd hi (Nat.not_lt_zero _), fun _ => rfl⟩
  | n + 1 => by
    show (mtN tp f a w n && decide (gC tp f a n = zWORDS (6 * w + n))) = true ↔ _
    rw [Bool.and_eq_true, mtN_iff w n, decide_eq_true_iff]
    constructor
    · rintro ⟨h1, h2⟩ i hi
      by_cases e : i = n
      · subst e; exact h2
      · exact h1 i (by omega)
    · intro h
      exact ⟨fun i hi => h i (by omega), h n (by omega)⟩
theorem mtN_f {w i j : Nat} (h : mtN tp f a w i = false) (hj : i ≤ j) : mtN tp f a w j = false := by
  cases e : mtN tp f a w j
  · rfl
  · have := (mtN_iff w i).mpr (fun q hq => (mtN_iff w j).mp e q (by omega))
    rw [h] at this
    cases this
theorem not_t {b : Bool} (h : ¬ b = true) : b = false := by cases b; rfl; exact absurd rfl h
def bW (tp : Nat → Int32) (f a : Nat) (s : Int32) (w : Nat) : Bool := if s = 1 ∧ a - f ≤ 6 then mtN tp f a w 6 else false
theorem tblW : ∀ w, w < 7 → ∀ i, i < 6 → zCH w i = zWORDS (6 * w + i) := by decide +kernel
theorem tblX : ∀ w, w < 7 → ∀ w', w' < 7 → (∀ i, i < 6 → zWORDS (6 * w + i) = zWORDS (6 * w' + i)) → w = w' := by decide +kernel
theorem bW_one {s : Int32} {w w' : Nat} (hw : w < 7) (hw' : w' < 7) (h : bW tp f a s w = true) (h' : bW tp f a s w' = true) : w = w' := by
  unfold bW at h h'
  by_cases e : s = 1 ∧ a - f ≤ 6
  · rw [if_pos e] at h h'
    exact tblX w hw w' hw' (fun i hi => ((mtN_iff w 6).mp h i hi).symm.trans ((mtN_iff w' 6).mp h' i hi))
  · rw [if_neg e] at h
    cases h
theorem w41 (hT : TB tp L z) (hfa : f ≤ a) (haz : a ≤ z) (s : Int32) {w : Nat} (hw : w < 7) (k4 : Int32 → Int32 → Option Int32) (v1 : Int32) : ∀ (r g i : Nat), i + r = 6 → r < g → zf_X8_word_41 tp (nI a) (nI f) s zWORDS k4 g v1 (nI w) (mtN tp f a w i) (nI i) = zf_X8_word_109 tp (nI a) (nI f) s zWORDS k4 v1 (nI w) (mtN tp f a w 6)
  | _, 0, _, _, h => absurd h (Nat.not_lt_zero _)
  | 0, g + 1, i, h0, _ => by
    have e : i = 6 := by omega
    subst e
    unfold zf_X8_word_41
    rw [if_pos (by decide)]
  | r + 1, g + 1, i, h0, hg => by
    have hz := hT.1
    have ih := w41 hT hfa haz s hw k4 v1 r g (i + 1) (by omega) (by omega)
    cases hm : mtN tp f a w i
    · rw [mtN_f hm (by omega : i ≤ 6)]
      unfold zf_X8_word_41
      rw [if_neg (show ¬ (6 : Int32) ≤ nI i from nle (a := 6) (by omega) (by decide)), if_neg Bool.false_ne_true]
    · rw [← ih]
      have e1 : mtN tp f a w (i + 1) = decide (gC tp f a i = zWORDS (6 * w + i)) := by
        show (mtN tp f a w i && _) = _
        rw [hm, Bool.true_and]
      have e2 : zf_X8_word_82 tp (nI a) (nI f) s zWORDS (zf_X8_word_41 tp (nI a) (nI f) s zWORDS k4 g) v1 (nI w) (nI i) (gC tp f a i) = zf_X8_word_41 tp (nI a) (nI f) s zWORDS k4 g v1 (nI w) (mtN tp f a w (i + 1)) (nI (i + 1)) := by
        unfold zf_X8_word_82 zf_X8_word_102
        rw [show (6 : Int32) * nI w = nI (6 * w) from pk_mul 6 w, nI_add, if_pos (ix_nI (by omega) (by decide)), cl_nI (by omega), nI_1, e1]
        by_cases y : gC tp f a i = zWORDS (6 * w + i)
        · rw [if_pos y, decide_eq_true y]
        · rw [if_neg y, decide_eq_false y]
      rw [← e2]
      conv => lhs; unfold zf_X8_word_41
      rw [if_neg (show ¬ (6 : Int32) ≤ nI i from nle (a := 6) (by omega) (by decide)), if_pos rfl, nI_add]
      unfold gC
      by_cases y : a ≤ f + i
      · rw [if_pos (show nI a ≤ nI (f + i) from (nIle (by omega) (by omega)).mpr y), if_pos y]
      · rw [if_neg (show ¬ nI a ≤ nI (f + i) from nle (by omega) (by omega)), if_neg y, if_pos (ix_nI (by omega) (by decide)), cl_nI (by omega)]
theorem w36 (s : Int32) (k4 : Int32 → Int32 → Option Int32) (v1 v2 : Int32) : zf_X8_word_36 tp (nI a) (nI f) s zWORDS k4 v1 v2 = k4 v1 (v2 + 1) := by
  unfold zf_X8_word_36 zf_X8_word_37
  show zf_X8_word_41 tp (nI a) (nI f) s zWORDS k4 (1999 + 1) v1 v2 false 0 = _
  unfold zf_X8_word_41
  rw [if_neg (by decide), if_neg Bool.false_ne_true]
  rfl
def wr (b : Nat → Bool) : Nat → Int32
  | 0 => -1
  | w + 1 => if b w = true then nI w else wr b w
theorem w4 (hT : TB tp L z) (hfa : f ≤ a) (haz : a ≤ z) (s : Int32) : ∀ (r g w : Nat), w + r = 7 → r < g → zf_X8_word_4 tp (nI a) (nI f) s zWORDS g (wr (bW tp f a s) w) (nI w) = some (wr (bW tp f a s) 7)
  | _, 0, _, _, h => absurd h (Nat.not_lt_zero _)
  | 0, g + 1, w, h0, _ => by
    have e : w = 7 := by omega
    subst e
    unfold zf_X8_word_4
    rw [if_pos (by decide)]
  | r + 1, g + 1, w, h0, hg => by
    have hz := hT.1
    have ih := w4 hT hfa haz s r g (w + 1) (by omega) (by omega)
    rw [← ih]
    have es : wr (bW tp f a s) (w + 1) = if bW tp f a s w = true then nI w else wr (bW tp f a s) w := rfl
    rw [es]
    conv => lhs; unfold zf_X8_word_4
    rw [if_neg (show ¬ (7 : Int32) ≤ nI w from nle (a := 7) (by omega) (by decide)), w36, nI_1, sub_nI hfa (by omega)]
    by_cases e1 : s = 1
    · rw [if_pos e1]
      by_cases e2 : a - f ≤ 6
      · rw [if_neg (show ¬ (6 : Int32) < nI (a - f) from fun y => by have := (nIlt (a := 6) (by decide) (by omega)).mp y; omega)]
        have q := w41 hT hfa haz s (w := w) (by omega) (zf_X8_word_4 tp (nI a) (nI f) s zWORDS g) (wr (bW tp f a s) w) 6 FU 0 (by omega) (by show 6 < 2000; omega)
        have q' : zf_X8_word_37 tp (nI a) (nI f) s zWORDS (zf_X8_word_4 tp (nI a) (nI f) s zWORDS g) (wr (bW tp f a s) w) (nI w) true = _ := q
        have eb : bW tp f a s w = mtN tp f a w 6 := by
          unfold bW
          rw [if_pos ⟨e1, e2⟩]
        rw [q', eb]
        unfold zf_X8_word_109 zf_X8_word_118
        rw [nI_1]
        cases mtN tp f a w 6
        · rw [if_neg Bool.false_ne_true, if_neg Bool.false_ne_true]
        · rw [if_pos rfl, if_pos rfl]
      · have eb : bW tp f a s w = false := by
          unfold bW
          rw [if_neg (fun y => e2 y.2)]
        rw [if_pos (show (6 : Int32) < nI (a - f) from (nIlt (a := 6) (by decide) (by omega)).mpr (by omega)), eb, if_neg Bool.false_ne_true]
    · have eb : bW tp f a s w = false := by
        unfold bW
        rw [if_neg (fun y => e1 y.1)]
      rw [if_neg e1, eb, if_neg Bool.false_ne_true]
theorem word8 (hT : TB tp L z) (hfa : f ≤ a) (haz : a ≤ z) (s : Int32) : zf_X8_word tp (nI a) (nI f) s zWORDS = some (wr (bW tp f a s) 7) := w4 hT hfa haz s 7 FU 0 (by omega) (by show 7 < 2000; omega)
theorem wr_none {b : Nat → Bool} : ∀ n, (∀ w, w < n → b w = false) → wr b n = -1
  | 0, _ => rfl
  | n + 1, h => by
    unfold wr
    rw [h n (by omega), if_neg Bool.false_ne_true]
    exact wr_none n (fun w hw => h w (by omega))
theorem wr_one {b : Nat → Bool} {w : Nat} (hb : b w = true) : ∀ n, w < n → (∀ w', w' < n → w' ≠ w → b w' = false) → wr b n = nI w
  | 0, h, _ => absurd h (Nat.not_lt_zero _)
  | n + 1, hw, h => by
    unfold wr
    by_cases e : n = w
    · subst e
      rw [hb, if_pos rfl]
    · rw [h n (by omega) e, if_neg Bool.false_ne_true]
      exact wr_one hb n (by omega) (fun w' h1 h2 => h w' (by omega) h2)
theorem word_cases (tp : Nat → Int32) (f a : Nat) (s : Int32) : ((∀ w, w < 7 → bW tp f a s w = false) ∧ wr (bW tp f a s) 7 = -1) ∨ ∃ w, w < 7 ∧ bW tp f a s w = true ∧ (∀ w', w' < 7 → w' ≠ w → bW tp f a s w' = false) ∧ wr (bW tp f a s) 7 = nI w := by
  by_cases e : ∃ w, w < 7 ∧ bW tp f a s w = true
  · obtain ⟨w, hw, hb⟩ := e
    have ho : ∀ w', w' < 7 → w' ≠ w → bW tp f a s w' = false := fun w' h1 h2 => not_t (fun y => h2 (bW_one h1 hw y hb))
    exact Or.inr ⟨w, hw, hb, ho, wr_one hb 7 hw ho⟩
  · have ho : ∀ w, w < 7 → bW tp f a s w = false := fun w h1 => not_t (fun y => e ⟨w, h1, y⟩)
    exact Or.inl ⟨ho, wr_none 7 ho⟩
theorem srt_n0 {j : Nat} (h : srt tp z j = 1) : ¬ tp j = 0 := fun y => by
  unfold srt at h
  rw [y] at h
  split at h
  · exact absurd h (by decide)
  · exact absurd h (by decide)
theorem sp0_loop (hT : TB tp L z) (hfa : f ≤ a) (haz : a ≤ z) (hl : a - f = 6) (s v : Int32) : ∀ (r g i : Nat), i + r = 6 → r < g → (∀ j, j < i → gC tp f a j = zWORDS (6 * 0 + j)) → zf_X4_spells_l0_20 (nI z, L, s, nI f, nI a, v) g (nI i) = some (mtN tp f a 0 6)
  | _, 0, _, _, h, _ => absurd h (Nat.not_lt_zero _)
  | 0, g + 1, i, h0, _, hj => by
    have e : i = 6 := by omega
    subst e
    have tz : ∀ i, i < 6 → 6 ≤ i → zWORDS (6 * 0 + i) = 0 := by decide +kernel
    have em : mtN tp f a 0 6 = true := (mtN_iff 0 6).mpr (fun i hi => by
      by_cases q : i < 6
      · exact hj i q
      · rw [tz i hi (by omega)]
        unfold gC
        rw [if_pos (by omega)])
    unfold zf_X4_spells_l0_20
    rw [if_pos (by decide), em]
  | r + 1, g + 1, i, h0, hg, hj => by
    have hz := hT.1
    have eg : gC tp f a i = tp (f + i) := by
      unfold gC
      rw [if_neg (by omega)]
    unfold zf_X4_spells_l0_20
    dsimp only
    rw [if_neg (show ¬ (6 : Int32) ≤ nI i from nle (a := 6) (by omega) (by decide)), nI_add, letter7 hT (by omega), Option.bind_some, if_pos (ix_nI (by omega) (by decide)), cl_nI (by omega), tblW 0 (by decide) i (by omega), nI_1]
    unfold chr
    rw [if_pos (show f + i < z by omega)]
    by_cases q : tp (f + i) = zWORDS (6 * 0 + i)
    · rw [if_pos q]
      exact sp0_loop hT hfa haz hl s v r g (i + 1) (by omega) (by omega) (fun j h1 => by
        by_cases x : j = i
        · subst x; exact eg.trans q
        · exact hj j (by omega))
    · rw [if_neg q]
      have em : mtN tp f a 0 6 = false := not_t (fun y => q (eg.symm.trans ((mtN_iff 0 6).mp y i (by omega))))
      rw [em]
theorem sp0 (hT : TB tp L z) (hfa : f ≤ a) (haz : a ≤ z) (h1 : ∀ j, f ≤ j → j < a → srt tp z j = 1) (v : Int32) : zf_X4_spells_l0 (nI z, L, 1, nI f, nI a, v) = some (bW tp f a 1 0) := by
  have hz := hT.1
  unfold zf_X4_spells_l0 bW
  dsimp only
  rw [sub_nI hfa (by omega)]
  by_cases e : a - f = 6
  · rw [if_pos (show nI (a - f) = (6 : Int32) from by rw [e]; rfl), if_pos ⟨rfl, by omega⟩]
    exact sp0_loop hT hfa haz e 1 v 6 FU 0 (by omega) (by show 6 < 2000; omega) (fun j hj => absurd hj (Nat.not_lt_zero _))
  · rw [if_neg (show ¬ nI (a - f) = (6 : Int32) from fun y => e ((nIeq (b := 6) (by omega) (by decide)).mp y))]
    by_cases q : a - f ≤ 6
    · rw [if_pos ⟨rfl, q⟩]
      have tz : ∀ i, i < 6 → 6 ≤ i → zWORDS (6 * 0 + i) = 0 := by decide +kernel
      have tn : ∀ i, i < 6 → ¬ zWORDS (6 * 0 + i) = 0 := by decide +kernel
      have em : mtN tp f a 0 6 = false := not_t (fun y => by
        have k := (mtN_iff 0 6).mp y
        by_cases x : a - f < 6
        · refine tn (a - f) x ((k (a - f) (by omega)).symm.trans ?_)
          unfold gC
          rw [if_pos (by omega)]
        · have k2 := k 6 (by omega)
          rw [tz 6 (by omega) (by omega)] at k2
          unfold gC at k2
          rw [if_neg (by omega)] at k2
          exact srt_n0 (h1 (f + 6) (by omega) (by omega)) k2)
      rw [em]
    · rw [if_neg (fun y => q y.2)]
theorem sp1_loop (hT : TB tp L z) (hfa : f ≤ a) (haz : a ≤ z) (hl : a - f = 5) (s v : Int32) : ∀ (r g i : Nat), i + r = 5 → r < g → (∀ j, j < i → gC tp f a j = zWORDS (6 * 1 + j)) → zf_X4_spells_l1_20 (nI z, L, s, nI f, nI a, v) g (nI i) = some (mtN tp f a 1 6)
  | _, 0, _, _, h, _ => absurd h (Nat.not_lt_zero _)
  | 0, g + 1, i, h0, _, hj => by
    have e : i = 5 := by omega
    subst e
    have tz : ∀ i, i < 6 → 5 ≤ i → zWORDS (6 * 1 + i) = 0 := by decide +kernel
    have em : mtN tp f a 1 6 = true := (mtN_iff 1 6).mpr (fun i hi => by
      by_cases q : i < 5
      · exact hj i q
      · rw [tz i hi (by omega)]
        unfold gC
        rw [if_pos (by omega)])
    unfold zf_X4_spells_l1_20
    rw [if_pos (by decide), em]
  | r + 1, g + 1, i, h0, hg, hj => by
    have hz := hT.1
    have eg : gC tp f a i = tp (f + i) := by
      unfold gC
      rw [if_neg (by omega)]
    unfold zf_X4_spells_l1_20
    dsimp only
    rw [if_neg (show ¬ (5 : Int32) ≤ nI i from nle (a := 5) (by omega) (by decide)), nI_add, letter7 hT (by omega), Option.bind_some, if_pos (ix_nI (by omega) (by decide)), cl_nI (by omega), tblW 1 (by decide) i (by omega), nI_1]
    unfold chr
    rw [if_pos (show f + i < z by omega)]
    by_cases q : tp (f + i) = zWORDS (6 * 1 + i)
    · rw [if_pos q]
      exact sp1_loop hT hfa haz hl s v r g (i + 1) (by omega) (by omega) (fun j h1 => by
        by_cases x : j = i
        · subst x; exact eg.trans q
        · exact hj j (by omega))
    · rw [if_neg q]
      have em : mtN tp f a 1 6 = false := not_t (fun y => q (eg.symm.trans ((mtN_iff 1 6).mp y i (by omega))))
      rw [em]
theorem sp1 (hT : TB tp L z) (hfa : f ≤ a) (haz : a ≤ z) (h1 : ∀ j, f ≤ j → j < a → srt tp z j = 1) (v : Int32) : zf_X4_spells_l1 (nI z, L, 1, nI f, nI a, v) = some (bW tp f a 1 1) := by
  have hz := hT.1
  unfold zf_X4_spells_l1 bW
  dsimp only
  rw [sub_nI hfa (by omega)]
  by_cases e : a - f = 5
  · rw [if_pos (show nI (a - f) = (5 : Int32) from by rw [e]; rfl), if_pos ⟨rfl, by omega⟩]
    exact sp1_loop hT hfa haz e 1 v 5 FU 0 (by omega) (by show 5 < 2000; omega) (fun j hj => absurd hj (Nat.not_lt_zero _))
  · rw [if_neg (show ¬ nI (a - f) = (5 : Int32) from fun y => e ((nIeq (b := 5) (by omega) (by decide)).mp y))]
    by_cases q : a - f ≤ 6
    · rw [if_pos ⟨rfl, q⟩]
      have tz : ∀ i, i < 6 → 5 ≤ i → zWORDS (6 * 1 + i) = 0 := by decide +kernel
      have tn : ∀ i, i < 5 → ¬ zWORDS (6 * 1 + i) = 0 := by decide +kernel
      have em : mtN tp f a 1 6 = false := not_t (fun y => by
        have k := (mtN_iff 1 6).mp y
        by_cases x : a - f < 5
        · refine tn (a - f) x ((k (a - f) (by omega)).symm.trans ?_)
          unfold gC
          rw [if_pos (by omega)]
        · have k2 := k 5 (by omega)
          rw [tz 5 (by omega) (by omega)] at k2
          unfold gC at k2
          rw [if_neg (by omega)] at k2
          exact srt_n0 (h1 (f + 5) (by omega) (by omega)) k2)
      rw [em]
    · rw [if_neg (fun y => q y.2)]
theorem sp2_loop (hT : TB tp L z) (hfa : f ≤ a) (haz : a ≤ z) (hl : a - f = 4) (s v : Int32) : ∀ (r g i : Nat), i + r = 4 → r < g → (∀ j, j < i → gC tp f a j = zWORDS (6 * 2 + j)) → zf_X4_spells_l2_20 (nI z, L, s, nI f, nI a, v) g (nI i) = some (mtN tp f a 2 6)
  | _, 0, _, _, h, _ => absurd h (Nat.not_lt_zero _)
  | 0, g + 1, i, h0, _, hj => by
    have e : i = 4 := by omega
    subst e
    have tz : ∀ i, i < 6 → 4 ≤ i → zWORDS (6 * 2 + i) = 0 := by decide +kernel
    have em : mtN tp f a 2 6 = true := (mtN_iff 2 6).mpr (fun i hi => by
      by_cases q : i < 4
      · exact hj i q
      · rw [tz i hi (by omega)]
        unfold gC
        rw [if_pos (by omega)])
    unfold zf_X4_spells_l2_20
    rw [if_pos (by decide), em]
  | r + 1, g + 1, i, h0, hg, hj => by
    have hz := hT.1
    have eg : gC tp f a i = tp (f + i) := by
      unfold gC
      rw [if_neg (by omega)]
    unfold zf_X4_spells_l2_20
    dsimp only
    rw [if_neg (show ¬ (4 : Int32) ≤ nI i from nle (a := 4) (by omega) (by decide)), nI_add, letter7 hT (by omega), Option.bind_some, if_pos (ix_nI (by omega) (by decide)), cl_nI (by omega), tblW 2 (by decide) i (by omega), nI_1]
    unfold chr
    rw [if_pos (show f + i < z by omega)]
    by_cases q : tp (f + i) = zWORDS (6 * 2 + i)
    · rw [if_pos q]
      exact sp2_loop hT hfa haz hl s v r g (i + 1) (by omega) (by omega) (fun j h1 => by
        by_cases x : j = i
        · subst x; exact eg.trans q
        · exact hj j (by omega))
    · rw [if_neg q]
      have em : mtN tp f a 2 6 = false := not_t (fun y => q (eg.symm.trans ((mtN_iff 2 6).mp y i (by omega))))
      rw [em]
theorem sp2 (hT : TB tp L z) (hfa : f ≤ a) (haz : a ≤ z) (h1 : ∀ j, f ≤ j → j < a → srt tp z j = 1) (v : Int32) : zf_X4_spells_l2 (nI z, L, 1, nI f, nI a, v) = some (bW tp f a 1 2) := by
  have hz := hT.1
  unfold zf_X4_spells_l2 bW
  dsimp only
  rw [sub_nI hfa (by omega)]
  by_cases e : a - f = 4
  · rw [if_pos (show nI (a - f) = (4 : Int32) from by rw [e]; rfl), if_pos ⟨rfl, by omega⟩]
    exact sp2_loop hT hfa haz e 1 v 4 FU 0 (by omega) (by show 4 < 2000; omega) (fun j hj => absurd hj (Nat.not_lt_zero _))
  · rw [if_neg (show ¬ nI (a - f) = (4 : Int32) from fun y => e ((nIeq (b := 4) (by omega) (by decide)).mp y))]
    by_cases q : a - f ≤ 6
    · rw [if_pos ⟨rfl, q⟩]
      have tz : ∀ i, i < 6 → 4 ≤ i → zWORDS (6 * 2 + i) = 0 := by decide +kernel
      have tn : ∀ i, i < 4 → ¬ zWORDS (6 * 2 + i) = 0 := by decide +kernel
      have em : mtN tp f a 2 6 = false := not_t (fun y => by
        have k := (mtN_iff 2 6).mp y
        by_cases x : a - f < 4
        · refine tn (a - f) x ((k (a - f) (by omega)).symm.trans ?_)
          unfold gC
          rw [if_pos (by omega)]
        · have k2 := k 4 (by omega)
          rw [tz 4 (by omega) (by omega)] at k2
          unfold gC at k2
          rw [if_neg (by omega)] at k2
          exact srt_n0 (h1 (f + 4) (by omega) (by omega)) k2)
      rw [em]
    · rw [if_neg (fun y => q y.2)]
theorem sp3_loop (hT : TB tp L z) (hfa : f ≤ a) (haz : a ≤ z) (hl : a - f = 4) (s v : Int32) : ∀ (r g i : Nat), i + r = 4 → r < g → (∀ j, j < i → gC tp f a j = zWORDS (6 * 3 + j)) → zf_X4_spells_l3_20 (nI z, L, s, nI f, nI a, v) g (nI i) = some (mtN tp f a 3 6)
  | _, 0, _, _, h, _ => absurd h (Nat.not_lt_zero _)
  | 0, g + 1, i, h0, _, hj => by
    have e : i = 4 := by omega
    subst e
    have tz : ∀ i, i < 6 → 4 ≤ i → zWORDS (6 * 3 + i) = 0 := by decide +kernel
    have em : mtN tp f a 3 6 = true := (mtN_iff 3 6).mpr (fun i hi => by
      by_cases q : i < 4
      · exact hj i q
      · rw [tz i hi (by omega)]
        unfold gC
        rw [if_pos (by omega)])
    unfold zf_X4_spells_l3_20
    rw [if_pos (by decide), em]
  | r + 1, g + 1, i, h0, hg, hj => by
    have hz := hT.1
    have eg : gC tp f a i = tp (f + i) := by
      unfold gC
      rw [if_neg (by omega)]
    unfold zf_X4_spells_l3_20
    dsimp only
    rw [if_neg (show ¬ (4 : Int32) ≤ nI i from nle (a := 4) (by omega) (by decide)), nI_add, letter7 hT (by omega), Option.bind_some, if_pos (ix_nI (by omega) (by decide)), cl_nI (by omega), tblW 3 (by decide) i (by omega), nI_1]
    unfold chr
    rw [if_pos (show f + i < z by omega)]
    by_cases q : tp (f + i) = zWORDS (6 * 3 + i)
    · rw [if_pos q]
      exact sp3_loop hT hfa haz hl s v r g (i + 1) (by omega) (by omega) (fun j h1 => by
        by_cases x : j = i
        · subst x; exact eg.trans q
        · exact hj j (by omega))
    · rw [if_neg q]
      have em : mtN tp f a 3 6 = false := not_t (fun y => q (eg.symm.trans ((mtN_iff 3 6).mp y i (by omega))))
      rw [em]
theorem sp3 (hT : TB tp L z) (hfa : f ≤ a) (haz : a ≤ z) (h1 : ∀ j, f ≤ j → j < a → srt tp z j = 1) (v : Int32) : zf_X4_spells_l3 (nI z, L, 1, nI f, nI a, v) = some (bW tp f a 1 3) := by
  have hz := hT.1
  unfold zf_X4_spells_l3 bW
  dsimp only
  rw [sub_nI hfa (by omega)]
  by_cases e : a - f = 4
  · rw [if_pos (show nI (a - f) = (4 : Int32) from by rw [e]; rfl), if_pos ⟨rfl, by omega⟩]
    exact sp3_loop hT hfa haz e 1 v 4 FU 0 (by omega) (by show 4 < 2000; omega) (fun j hj => absurd hj (Nat.not_lt_zero _))
  · rw [if_neg (show ¬ nI (a - f) = (4 : Int32) from fun y => e ((nIeq (b := 4) (by omega) (by decide)).mp y))]
    by_cases q : a - f ≤ 6
    · rw [if_pos ⟨rfl, q⟩]
      have tz : ∀ i, i < 6 → 4 ≤ i → zWORDS (6 * 3 + i) = 0 := by decide +kernel
      have tn : ∀ i, i < 4 → ¬ zWORDS (6 * 3 + i) = 0 := by decide +kernel
      have em : mtN tp f a 3 6 = false := not_t (fun y => by
        have k := (mtN_iff 3 6).mp y
        by_cases x : a - f < 4
        · refine tn (a - f) x ((k (a - f) (by omega)).symm.trans ?_)
          unfold gC
          rw [if_pos (by omega)]
        · have k2 := k 4 (by omega)
          rw [tz 4 (by omega) (by omega)] at k2
          unfold gC at k2
          rw [if_neg (by omega)] at k2
          exact srt_n0 (h1 (f + 4) (by omega) (by omega)) k2)
      rw [em]
    · rw [if_neg (fun y => q y.2)]
theorem sp4_loop (hT : TB tp L z) (hfa : f ≤ a) (haz : a ≤ z) (hl : a - f = 5) (s v : Int32) : ∀ (r g i : Nat), i + r = 5 → r < g → (∀ j, j < i → gC tp f a j = zWORDS (6 * 4 + j)) → zf_X4_spells_l4_20 (nI z, L, s, nI f, nI a, v) g (nI i) = some (mtN tp f a 4 6)
  | _, 0, _, _, h, _ => absurd h (Nat.not_lt_zero _)
  | 0, g + 1, i, h0, _, hj => by
    have e : i = 5 := by omega
    subst e
    have tz : ∀ i, i < 6 → 5 ≤ i → zWORDS (6 * 4 + i) = 0 := by decide +kernel
    have em : mtN tp f a 4 6 = true := (mtN_iff 4 6).mpr (fun i hi => by
      by_cases q : i < 5
      · exact hj i q
      · rw [tz i hi (by omega)]
        unfold gC
        rw [if_pos (by omega)])
    unfold zf_X4_spells_l4_20
    rw [if_pos (by decide), em]
  | r + 1, g + 1, i, h0, hg, hj => by
    have hz := hT.1
    have eg : gC tp f a i = tp (f + i) := by
      unfold gC
      rw [if_neg (by omega)]
    unfold zf_X4_spells_l4_20
    dsimp only
    rw [if_neg (show ¬ (5 : Int32) ≤ nI i from nle (a := 5) (by omega) (by decide)), nI_add, letter7 hT (by omega), Option.bind_some, if_pos (ix_nI (by omega) (by decide)), cl_nI (by omega), tblW 4 (by decide) i (by omega), nI_1]
    unfold chr
    rw [if_pos (show f + i < z by omega)]
    by_cases q : tp (f + i) = zWORDS (6 * 4 + i)
    · rw [if_pos q]
      exact sp4_loop hT hfa haz hl s v r g (i + 1) (by omega) (by omega) (fun j h1 => by
        by_cases x : j = i
        · subst x; exact eg.trans q
        · exact hj j (by omega))
    · rw [if_neg q]
      have em : mtN tp f a 4 6 = false := not_t (fun y => q (eg.symm.trans ((mtN_iff 4 6).mp y i (by omega))))
      rw [em]
theorem sp4 (hT : TB tp L z) (hfa : f ≤ a) (haz : a ≤ z) (h1 : ∀ j, f ≤ j → j < a → srt tp z j = 1) (v : Int32) : zf_X4_spells_l4 (nI z, L, 1, nI f, nI a, v) = some (bW tp f a 1 4) := by
  have hz := hT.1
  unfold zf_X4_spells_l4 bW
  dsimp only
  rw [sub_nI hfa (by omega)]
  by_cases e : a - f = 5
  · rw [if_pos (show nI (a - f) = (5 : Int32) from by rw [e]; rfl), if_pos ⟨rfl, by omega⟩]
    exact sp4_loop hT hfa haz e 1 v 5 FU 0 (by omega) (by show 5 < 2000; omega) (fun j hj => absurd hj (Nat.not_lt_zero _))
  · rw [if_neg (show ¬ nI (a - f) = (5 : Int32) from fun y => e ((nIeq (b := 5) (by omega) (by decide)).mp y))]
    by_cases q : a - f ≤ 6
    · rw [if_pos ⟨rfl, q⟩]
      have tz : ∀ i, i < 6 → 5 ≤ i → zWORDS (6 * 4 + i) = 0 := by decide +kernel
      have tn : ∀ i, i < 5 → ¬ zWORDS (6 * 4 + i) = 0 := by decide +kernel
      have em : mtN tp f a 4 6 = false := not_t (fun y => by
        have k := (mtN_iff 4 6).mp y
        by_cases x : a - f < 5
        · refine tn (a - f) x ((k (a - f) (by omega)).symm.trans ?_)
          unfold gC
          rw [if_pos (by omega)]
        · have k2 := k 5 (by omega)
          rw [tz 5 (by omega) (by omega)] at k2
          unfold gC at k2
          rw [if_neg (by omega)] at k2
          exact srt_n0 (h1 (f + 5) (by omega) (by omega)) k2)
      rw [em]
    · rw [if_neg (fun y => q y.2)]
theorem sp5_loop (hT : TB tp L z) (hfa : f ≤ a) (haz : a ≤ z) (hl : a - f = 3) (s v : Int32) : ∀ (r g i : Nat), i + r = 3 → r < g → (∀ j, j < i → gC tp f a j = zWORDS (6 * 5 + j)) → zf_X4_spells_l5_20 (nI z, L, s, nI f, nI a, v) g (nI i) = some (mtN tp f a 5 6)
  | _, 0, _, _, h, _ => absurd h (Nat.not_lt_zero _)
  | 0, g + 1, i, h0, _, hj => by
    have e : i = 3 := by omega
    subst e
    have tz : ∀ i, i < 6 → 3 ≤ i → zWORDS (6 * 5 + i) = 0 := by decide +kernel
    have em : mtN tp f a 5 6 = true := (mtN_iff 5 6).mpr (fun i hi => by
      by_cases q : i < 3
      · exact hj i q
      · rw [tz i hi (by omega)]
        unfold gC
        rw [if_pos (by omega)])
    unfold zf_X4_spells_l5_20
    rw [if_pos (by decide), em]
  | r + 1, g + 1, i, h0, hg, hj => by
    have hz := hT.1
    have eg : gC tp f a i = tp (f + i) := by
      unfold gC
      rw [if_neg (by omega)]
    unfold zf_X4_spells_l5_20
    dsimp only
    rw [if_neg (show ¬ (3 : Int32) ≤ nI i from nle (a := 3) (by omega) (by decide)), nI_add, letter7 hT (by omega), Option.bind_some, if_pos (ix_nI (by omega) (by decide)), cl_nI (by omega), tblW 5 (by decide) i (by omega), nI_1]
    unfold chr
    rw [if_pos (show f + i < z by omega)]
    by_cases q : tp (f + i) = zWORDS (6 * 5 + i)
    · rw [if_pos q]
      exact sp5_loop hT hfa haz hl s v r g (i + 1) (by omega) (by omega) (fun j h1 => by
        by_cases x : j = i
        · subst x; exact eg.trans q
        · exact hj j (by omega))
    · rw [if_neg q]
      have em : mtN tp f a 5 6 = false := not_t (fun y => q (eg.symm.trans ((mtN_iff 5 6).mp y i (by omega))))
      rw [em]
theorem sp5 (hT : TB tp L z) (hfa : f ≤ a) (haz : a ≤ z) (h1 : ∀ j, f ≤ j → j < a → srt tp z j = 1) (v : Int32) : zf_X4_spells_l5 (nI z, L, 1, nI f, nI a, v) = some (bW tp f a 1 5) := by
  have hz := hT.1
  unfold zf_X4_spells_l5 bW
  dsimp only
  rw [sub_nI hfa (by omega)]
  by_cases e : a - f = 3
  · rw [if_pos (show nI (a - f) = (3 : Int32) from by rw [e]; rfl), if_pos ⟨rfl, by omega⟩]
    exact sp5_loop hT hfa haz e 1 v 3 FU 0 (by omega) (by show 3 < 2000; omega) (fun j hj => absurd hj (Nat.not_lt_zero _))
  · rw [if_neg (show ¬ nI (a - f) = (3 : Int32) from fun y => e ((nIeq (b := 3) (by omega) (by decide)).mp y))]
    by_cases q : a - f ≤ 6
    · rw [if_pos ⟨rfl, q⟩]
      have tz : ∀ i, i < 6 → 3 ≤ i → zWORDS (6 * 5 + i) = 0 := by decide +kernel
      have tn : ∀ i, i < 3 → ¬ zWORDS (6 * 5 + i) = 0 := by decide +kernel
      have em : mtN tp f a 5 6 = false := not_t (fun y => by
        have k := (mtN_iff 5 6).mp y
        by_cases x : a - f < 3
        · refine tn (a - f) x ((k (a - f) (by omega)).symm.trans ?_)
          unfold gC
          rw [if_pos (by omega)]
        · have k2 := k 3 (by omega)
          rw [tz 3 (by omega) (by omega)] at k2
          unfold gC at k2
          rw [if_neg (by omega)] at k2
          exact srt_n0 (h1 (f + 3) (by omega) (by omega)) k2)
      rw [em]
    · rw [if_neg (fun y => q y.2)]
theorem sp6_loop (hT : TB tp L z) (hfa : f ≤ a) (haz : a ≤ z) (hl : a - f = 4) (s v : Int32) : ∀ (r g i : Nat), i + r = 4 → r < g → (∀ j, j < i → gC tp f a j = zWORDS (6 * 6 + j)) → zf_X4_spells_l6_20 (nI z, L, s, nI f, nI a, v) g (nI i) = some (mtN tp f a 6 6)
  | _, 0, _, _, h, _ => absurd h (Nat.not_lt_zero _)
  | 0, g + 1, i, h0, _, hj => by
    have e : i = 4 := by omega
    subst e
    have tz : ∀ i, i < 6 → 4 ≤ i → zWORDS (6 * 6 + i) = 0 := by decide +kernel
    have em : mtN tp f a 6 6 = true := (mtN_iff 6 6).mpr (fun i hi => by
      by_cases q : i < 4
      · exact hj i q
      · rw [tz i hi (by omega)]
        unfold gC
        rw [if_pos (by omega)])
    unfold zf_X4_spells_l6_20
    rw [if_pos (by decide), em]
  | r + 1, g + 1, i, h0, hg, hj => by
    have hz := hT.1
    have eg : gC tp f a i = tp (f + i) := by
      unfold gC
      rw [if_neg (by omega)]
    unfold zf_X4_spells_l6_20
    dsimp only
    rw [if_neg (show ¬ (4 : Int32) ≤ nI i from nle (a := 4) (by omega) (by decide)), nI_add, letter7 hT (by omega), Option.bind_some, if_pos (ix_nI (by omega) (by decide)), cl_nI (by omega), tblW 6 (by decide) i (by omega), nI_1]
    unfold chr
    rw [if_pos (show f + i < z by omega)]
    by_cases q : tp (f + i) = zWORDS (6 * 6 + i)
    · rw [if_pos q]
      exact sp6_loop hT hfa haz hl s v r g (i + 1) (by omega) (by omega) (fun j h1 => by
        by_cases x : j = i
        · subst x; exact eg.trans q
        · exact hj j (by omega))
    · rw [if_neg q]
      have em : mtN tp f a 6 6 = false := not_t (fun y => q (eg.symm.trans ((mtN_iff 6 6).mp y i (by omega))))
      rw [em]
theorem sp6 (hT : TB tp L z) (hfa : f ≤ a) (haz : a ≤ z) (h1 : ∀ j, f ≤ j → j < a → srt tp z j = 1) (v : Int32) : zf_X4_spells_l6 (nI z, L, 1, nI f, nI a, v) = some (bW tp f a 1 6) := by
  have hz := hT.1
  unfold zf_X4_spells_l6 bW
  dsimp only
  rw [sub_nI hfa (by omega)]
  by_cases e : a - f = 4
  · rw [if_pos (show nI (a - f) = (4 : Int32) from by rw [e]; rfl), if_pos ⟨rfl, by omega⟩]
    exact sp6_loop hT hfa haz e 1 v 4 FU 0 (by omega) (by show 4 < 2000; omega) (fun j hj => absurd hj (Nat.not_lt_zero _))
  · rw [if_neg (show ¬ nI (a - f) = (4 : Int32) from fun y => e ((nIeq (b := 4) (by omega) (by decide)).mp y))]
    by_cases q : a - f ≤ 6
    · rw [if_pos ⟨rfl, q⟩]
      have tz : ∀ i, i < 6 → 4 ≤ i → zWORDS (6 * 6 + i) = 0 := by decide +kernel
      have tn : ∀ i, i < 4 → ¬ zWORDS (6 * 6 + i) = 0 := by decide +kernel
      have em : mtN tp f a 6 6 = false := not_t (fun y => by
        have k := (mtN_iff 6 6).mp y
        by_cases x : a - f < 4
        · refine tn (a - f) x ((k (a - f) (by omega)).symm.trans ?_)
          unfold gC
          rw [if_pos (by omega)]
        · have k2 := k 4 (by omega)
          rw [tz 4 (by omega) (by omega)] at k2
          unfold gC at k2
          rw [if_neg (by omega)] at k2
          exact srt_n0 (h1 (f + 4) (by omega) (by omega)) k2)
      rw [em]
    · rw [if_neg (fun y => q y.2)]
