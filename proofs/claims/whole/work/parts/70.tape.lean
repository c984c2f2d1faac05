/-! pure rows: the tape, tokens and numbers -/
variable {tp L : Nat → Int32} {z : Nat}
/-- the tape of both: z bytes -/
def TB (tp L : Nat → Int32) (z : Nat) : Prop := z ≤ 250 ∧ ∀ j, j < 250 → L j = tp j ∧ bnd (tp j) 0 255
def chr (tp : Nat → Int32) (z p : Nat) : Int32 := if p < z then tp p else -1
def srt1 (x : Int32) : Int32 := if win x 97 122 = true then 1 else if win x 48 57 = true then 2 else if x = 59 then 3 else 4
def srt (tp : Nat → Int32) (z p : Nat) : Int32 := if p < z then srt1 (tp p) else 0
theorem letter7 (hT : TB tp L z) {p : Nat} (hp : p < 2147483648) (s f a v : Int32) : zf_X4_letterAt (nI p) (nI z, L, s, f, a, v) = some (chr tp z p) := by
  have hz := hT.1
  unfold zf_X4_letterAt chr
  rw [if_neg (show ¬ nI p < 0 from fun y => by have := (nIlt (b := 0) hp (by decide)).mp y; omega)]
  dsimp only
  by_cases e : p < z
  · rw [if_neg (show ¬ nI z ≤ nI p from nle e (by omega)), if_neg (show ¬ (250 : Int32) ≤ nI p from nle (a := 250) (by omega) (by decide)), if_pos (ix_nI (by omega) (by decide)), cl_nI hp, if_pos e, (hT.2 p (by omega)).1]
  · rw [if_pos (show nI z ≤ nI p from (nIle (by omega) hp).mpr (by omega)), if_neg e]
theorem sort7_all : ∀ n, n < 256 → zf_X4_sortOf (nI n) = some (srt1 (nI n)) := by decide +kernel
theorem sort7 (hT : TB tp L z) (p : Nat) : zf_X4_sortOf (chr tp z p) = some (srt tp z p) := by
  have hz := hT.1
  unfold chr srt
  by_cases e : p < z
  · rw [if_pos e, if_pos e]
    obtain ⟨n, -, hn, en⟩ := (hT.2 p (by omega)).2
    rw [en]
    exact sort7_all n (by omega)
  · rw [if_neg e, if_neg e]
    rfl
theorem sort8 (hT : TB tp L z) {p : Nat} (hp : p ≤ 250) : zf_X8_sortAt (nI p) tp (nI z) = some (srt tp z p) := by
  have hz := hT.1
  unfold zf_X8_sortAt srt srt1
  by_cases e : p < z
  · rw [if_pos (show nI p < nI z from (nIlt (by omega) (by omega)).mpr e), if_pos (ix_nI (by omega) (by decide)), if_pos (ix_nI (by omega) (by decide)), if_pos (ix_nI (by omega) (by decide)), cl_nI (by omega), win8 (a := 97) (b := 122) (by decide) (by decide), win8 (a := 48) (b := 57) (by decide) (by decide), Option.bind_some, Option.bind_some, if_pos e]
    cases win (tp p) 97 122
    · rw [if_neg Bool.false_ne_true, if_neg Bool.false_ne_true]
      cases win (tp p) 48 57
      · rw [if_neg Bool.false_ne_true, if_neg Bool.false_ne_true]
        by_cases q : tp p = 59
        · rw [if_pos q, if_pos q]
        · rw [if_neg q, if_neg q]
      · rw [if_pos rfl, if_pos rfl]
    · rw [if_pos rfl, if_pos rfl]
  · rw [if_neg (show ¬ nI p < nI z from fun y => e ((nIlt (by omega) (by omega)).mp y)), if_neg e]
theorem srt_cases (tp : Nat → Int32) (z p : Nat) : (srt tp z p = 0 ∧ ¬ p < z) ∨ (p < z ∧ (srt tp z p = 1 ∨ srt tp z p = 2 ∨ srt tp z p = 3 ∨ srt tp z p = 4)) := by
  unfold srt
  by_cases e : p < z
  · refine Or.inr ⟨e, ?_⟩
    rw [if_pos e]
    unfold srt1
    split
    · exact Or.inl rfl
    · split
      · exact Or.inr (Or.inl rfl)
      · split
        · exact Or.inr (Or.inr (Or.inl rfl))
        · exact Or.inr (Or.inr (Or.inr rfl))
  · exact Or.inl ⟨if_neg e, e⟩
theorem skip_both (hT : TB tp L z) (s a v : Int32) (f1 s1 : Int32) : ∀ (r f g p : Nat), p + r = z → r < f → r < g → ∃ q, p ≤ q ∧ q ≤ z ∧ zf_X4_takeToken_8 f (nI z, L, s, nI p, a, v) = zf_X4_takeToken_45 (nI z, L, s, nI q, a, v) ∧ zf_X8_next_0 tp (nI z) g (nI p) f1 s1 = zf_X8_next_38 tp (nI z) (nI q) f1 s1
  | _, 0, _, _, _, h, _ => absurd h (Nat.not_lt_zero _)
  | _, _ + 1, 0, _, _, _, h => absurd h (Nat.not_lt_zero _)
  | 0, f + 1, g + 1, p, h0, _, _ => by
    have e : p = z := by omega
    subst e
    refine ⟨p, Nat.le_refl _, Nat.le_refl _, ?_, ?_⟩
    · unfold zf_X4_takeToken_8
      rw [if_pos (i_le.mpr (Int.le_refl _))]
    · unfold zf_X8_next_0
      rw [if_pos (i_le.mpr (Int.le_refl _))]
  | r + 1, f + 1, g + 1, p, h0, hf, hg => by
    have hz := hT.1
    have e1 : zf_X4_takeToken_8 (f + 1) (nI z, L, s, nI p, a, v) = (if tp p = 32 then zf_X4_takeToken_8 f (nI z, L, s, nI (p + 1), a, v) else zf_X4_takeToken_45 (nI z, L, s, nI p, a, v)) := by
      conv => lhs; unfold zf_X4_takeToken_8
      dsimp only
      rw [if_neg (show ¬ nI z ≤ nI p from nle (by omega) (by omega)), letter7 hT (by omega), Option.bind_some, nI_1]
      unfold chr
      rw [if_pos (show p < z by omega)]
    have e2 : zf_X8_next_0 tp (nI z) (g + 1) (nI p) f1 s1 = (if tp p = 32 then zf_X8_next_0 tp (nI z) g (nI (p + 1)) f1 s1 else zf_X8_next_38 tp (nI z) (nI p) f1 s1) := by
      conv => lhs; unfold zf_X8_next_0
      rw [if_neg (show ¬ nI z ≤ nI p from nle (by omega) (by omega)), if_pos (ix_nI (by omega) (by decide)), cl_nI (by omega), nI_1]
    rw [e1, e2]
    by_cases y : tp p = 32
    · rw [if_pos y, if_pos y]
      obtain ⟨q, h1, h2, h3, h4⟩ := skip_both hT s a v f1 s1 r f g (p + 1) (by omega) (by omega) (by omega)
      exact ⟨q, by omega, h2, h3, h4⟩
    · rw [if_neg y, if_neg y]
      exact ⟨p, Nat.le_refl _, by omega, rfl, rfl⟩
theorem ext_both (hT : TB tp L z) (s : Int32) (hs : s = 1 ∨ s = 2) (f0 v : Int32) : ∀ (r f g p : Nat), p + r = z → r < f → r < g → ∃ q, p ≤ q ∧ q ≤ z ∧ zf_X4_takeToken_100 f (nI z, L, s, f0, nI p, v) = some (nI z, L, s, f0, nI q, v) ∧ zf_X8_next_75 tp (nI z) g (nI p) f0 s = some (nI q, f0, s) ∧ ∀ j, p ≤ j → j < q → srt tp z j = s
  | _, 0, _, _, _, h, _ => absurd h (Nat.not_lt_zero _)
  | _, _ + 1, 0, _, _, _, h => absurd h (Nat.not_lt_zero _)
  | 0, f + 1, g + 1, p, h0, _, _ => by
    have hz := hT.1
    have e : p = z := by omega
    subst e
    have n3 : ¬ (3 : Int32) ≤ s := by rcases hs with rfl | rfl <;> decide
    have n0 : ¬ (0 : Int32) = s := by rcases hs with rfl | rfl <;> decide
    refine ⟨p, Nat.le_refl _, Nat.le_refl _, ?_, ?_, fun j h1 h2 => absurd h2 (by omega)⟩
    · unfold zf_X4_takeToken_100
      rw [if_pos (i_le.mpr (Int.le_refl _))]
    · unfold zf_X8_next_75
      rw [if_neg n3, sort8 hT hz, Option.bind_some]
      unfold srt
      rw [if_neg (Nat.lt_irrefl p), if_neg n0]
  | r + 1, f + 1, g + 1, p, h0, hf, hg => by
    have hz := hT.1
    have n3 : ¬ (3 : Int32) ≤ s := by rcases hs with rfl | rfl <;> decide
    have e1 : zf_X4_takeToken_100 (f + 1) (nI z, L, s, f0, nI p, v) = (if srt tp z p = s then zf_X4_takeToken_100 f (nI z, L, s, f0, nI (p + 1), v) else some (nI z, L, s, f0, nI p, v)) := by
      conv => lhs; unfold zf_X4_takeToken_100
      dsimp only
      rw [if_neg (show ¬ nI z ≤ nI p from nle (by omega) (by omega)), letter7 hT (by omega), Option.bind_some, sort7 hT, Option.bind_some, nI_1]
    have e2 : zf_X8_next_75 tp (nI z) (g + 1) (nI p) f0 s = (if srt tp z p = s then zf_X8_next_75 tp (nI z) g (nI (p + 1)) f0 s else some (nI p, f0, s)) := by
      conv => lhs; unfold zf_X8_next_75
      rw [if_neg n3, sort8 hT (by omega), Option.bind_some, nI_1]
    rw [e1, e2]
    by_cases y : srt tp z p = s
    · rw [if_pos y, if_pos y]
      obtain ⟨q, h1, h2, h3, h4, h5⟩ := ext_both hT s hs f0 v r f g (p + 1) (by omega) (by omega) (by omega)
      refine ⟨q, by omega, h2, h3, h4, fun j k1 k2 => ?_⟩
      by_cases x : j = p
      · subst x; exact y
      · exact h5 j (by omega) k2
    · rw [if_neg y, if_neg y]
      exact ⟨p, Nat.le_refl _, by omega, rfl, rfl, fun j h1 h2 => absurd h2 (by omega)⟩
theorem tok (hT : TB tp L z) {p : Nat} (hp : p ≤ z) (s0 f0 v f1 s1 : Int32) : ∃ (s : Int32) (f a : Nat), p ≤ f ∧ f ≤ a ∧ a ≤ z ∧ (¬ s = 0 → f < a) ∧ (s = 1 → ∀ j, f ≤ j → j < a → srt tp z j = 1) ∧ zf_X4_takeToken (nI z, L, s0, f0, nI p, v) = some (nI z, L, s, nI f, nI a, v) ∧ zf_X8_next tp (nI z) (nI p) f1 s1 = some (nI a, nI f, s) := by
  have hz := hT.1
  obtain ⟨q, h1, h2, h3, h4⟩ := skip_both hT s0 (nI p) v f1 s1 (z - p) FU (FU + 1) p (by omega) (by show z - p < 2000; omega) (by show z - p < 2001; omega)
  have h3' : zf_X4_takeToken (nI z, L, s0, f0, nI p, v) = _ := h3
  have h4' : zf_X8_next tp (nI z) (nI p) f1 s1 = _ := h4
  rw [h3', h4']
  have e1 : zf_X4_takeToken_45 (nI z, L, s0, nI q, nI p, v) = (if srt tp z q = 0 then zf_X4_takeToken_81 (nI q) (nI z, L, srt tp z q, nI q, nI p, v) else zf_X4_takeToken_81 (nI (q + 1)) (nI z, L, srt tp z q, nI q, nI p, v)) := by
    unfold zf_X4_takeToken_45
    dsimp only
    rw [letter7 hT (by omega), Option.bind_some, sort7 hT, Option.bind_some, nI_1]
  have e2 : zf_X8_next_38 tp (nI z) (nI q) f1 s1 = (if srt tp z q ≤ 0 then some (nI q, nI q, srt tp z q) else zf_X8_next_75 tp (nI z) FU (nI (q + 1)) (nI q) (srt tp z q)) := by
    unfold zf_X8_next_38
    rw [sort8 hT (by omega), Option.bind_some, nI_1]
  rw [e1, e2]
  unfold zf_X4_takeToken_81
  dsimp only
  rcases srt_cases tp z q with ⟨e, -⟩ | ⟨hq, e | e | e | e⟩
  · rw [e]
    exact ⟨0, q, q, h1, Nat.le_refl _, h2, fun y => absurd rfl y, fun y => absurd y (by decide), rfl, rfl⟩
  · rw [e]
    obtain ⟨a, k1, k2, k3, k4, k5⟩ := ext_both hT 1 (Or.inl rfl) (nI q) v (z - (q + 1)) FU FU (q + 1) (by omega) (by show z - (q + 1) < 2000; omega) (by show z - (q + 1) < 2000; omega)
    rw [if_neg (show ¬ (1 : Int32) = 0 by decide), if_pos (show (1 : Int32) = 1 from rfl), if_neg (show ¬ (1 : Int32) ≤ 0 by decide), k3, k4]
    refine ⟨1, q, a, h1, by omega, k2, fun _ => by omega, fun _ j j1 j2 => ?_, rfl, rfl⟩
    by_cases x : j = q
    · subst x; exact e
    · exact k5 j (by omega) j2
  · rw [e]
    obtain ⟨a, k1, k2, k3, k4, k5⟩ := ext_both hT 2 (Or.inr rfl) (nI q) v (z - (q + 1)) FU FU (q + 1) (by omega) (by show z - (q + 1) < 2000; omega) (by show z - (q + 1) < 2000; omega)
    rw [if_neg (show ¬ (2 : Int32) = 0 by decide), if_neg (show ¬ (2 : Int32) = 1 by decide), if_pos (show (2 : Int32) = 2 from rfl), if_neg (show ¬ (2 : Int32) ≤ 0 by decide), k3, k4]
    exact ⟨2, q, a, h1, by omega, k2, fun _ => by omega, fun y => absurd y (by decide), rfl, rfl⟩
  · rw [e]
    refine ⟨3, q, q + 1, h1, by omega, by omega, fun _ => by omega, fun y => absurd y (by decide), rfl, ?_⟩
    rw [if_neg (by decide)]
    show zf_X8_next_75 tp (nI z) (1999 + 1) (nI (q + 1)) (nI q) 3 = _
    unfold zf_X8_next_75
    rw [if_pos (by decide)]
  · rw [e]
    refine ⟨4, q, q + 1, h1, by omega, by omega, fun _ => by omega, fun y => absurd y (by decide), rfl, ?_⟩
    rw [if_neg (by decide)]
    show zf_X8_next_75 tp (nI z) (1999 + 1) (nI (q + 1)) (nI q) 4 = _
    unfold zf_X8_next_75
    rw [if_pos (by decide)]
theorem sub_nI {a b : Nat} (h : b ≤ a) (ha : a < 2147483648) : nI a - nI b = nI (a - b) := by
  refine i_eq.mpr ?_
  rw [i_sub (by rw [nI_t (by omega), nI_t (by omega)]; omega) (by rw [nI_t (by omega), nI_t (by omega)]; omega), nI_t (by omega), nI_t (by omega), nI_t (by omega)]
  omega
theorem num_loop (hT : TB tp L z) (lo hi s : Int32) (f0 : Int32) {a : Nat} (ha : a ≤ z) : ∀ (r f g i : Nat) (v : Int32), i + r = a → r < f → r < g → ∃ w, zf_X4_readNumber_37 f lo hi (nI i) (nI z, L, s, f0, nI a, v) = some (win w lo hi, (nI z, L, s, f0, nI a, w)) ∧ zf_X8_number_35 tp (nI z) g lo hi v (nI i) (nI a) f0 s = some (if win w lo hi = true then w else -1, nI a, f0, s)
  | _, 0, _, _, _, _, h, _ => absurd h (Nat.not_lt_zero _)
  | _, _ + 1, 0, _, _, _, _, h => absurd h (Nat.not_lt_zero _)
  | 0, f + 1, g + 1, i, v, h0, _, _ => by
    have e : i = a := by omega
    subst e
    refine ⟨v, ?_, ?_⟩
    · unfold zf_X4_readNumber_37
      dsimp only
      rw [if_pos (i_le.mpr (Int.le_refl _)), win7]
      rfl
    · unfold zf_X8_number_35
      rw [if_pos (i_le.mpr (Int.le_refl _)), win8 rfl rfl, Option.bind_some]
      cases win v lo hi
      · rw [if_neg Bool.false_ne_true, if_neg Bool.false_ne_true]
      · rw [if_pos rfl, if_pos rfl]
  | r + 1, f + 1, g + 1, i, v, h0, hf, hg => by
    have hz := hT.1
    obtain ⟨w, k1, k2⟩ := num_loop hT lo hi s f0 ha r f g (i + 1) (v * 10 + tp i - 48) (by omega) (by omega) (by omega)
    refine ⟨w, ?_, ?_⟩
    · rw [← k1]
      conv => lhs; unfold zf_X4_readNumber_37
      dsimp only
      rw [if_neg (show ¬ nI a ≤ nI i from nle (by omega) (by omega)), letter7 hT (by omega), Option.bind_some, nI_1]
      unfold chr
      rw [if_pos (show i < z by omega)]
    · rw [← k2]
      conv => lhs; unfold zf_X8_number_35
      rw [if_neg (show ¬ nI a ≤ nI i from nle (by omega) (by omega)), if_pos (ix_nI (by omega) (by decide)), cl_nI (by omega), nI_1, Int32.mul_comm 10 v]
theorem numB (hT : TB tp L z) {p : Nat} (hp : p ≤ z) (lo hi s0 f0 v f1 s1 : Int32) : ∃ (ok : Bool) (s : Int32) (f a : Nat) (w x : Int32), p ≤ f ∧ f ≤ a ∧ a ≤ z ∧ zf_X4_readNumber lo hi (nI z, L, s0, f0, nI p, v) = some (ok, (nI z, L, s, nI f, nI a, w)) ∧ zf_X8_number lo hi tp (nI z) (nI p) f1 s1 = some (x, nI a, nI f, s) ∧ (ok = true → x = w ∧ win w lo hi = true) ∧ (ok = false → x = -1) := by
  have hz := hT.1
  obtain ⟨s, f, a, h1, h2, h3, -, -, h6, h7⟩ := tok hT hp s0 f0 v f1 s1
  unfold zf_X4_readNumber zf_X8_number
  rw [h6, h7, Option.bind_some, Option.bind_some]
  dsimp only
  by_cases e : s = 2
  · rw [if_pos e, if_pos e, sub_nI h2 (by omega)]
    by_cases y : nI (a - f) ≤ 3
    · rw [if_pos y, if_pos y]
      obtain ⟨w, k1, k2⟩ := num_loop hT lo hi s (nI f) h3 (a - f) FU FU f 0 (by omega) (by show a - f < 2000; omega) (by show a - f < 2000; omega)
      refine ⟨win w lo hi, s, f, a, w, if win w lo hi = true then w else -1, h1, h2, h3, k1, k2, fun q => ⟨by rw [if_pos q], q⟩, fun q => by rw [if_neg (by rw [q]; exact Bool.false_ne_true)]⟩
    · rw [if_neg y, if_neg y]
      exact ⟨false, s, f, a, v, -1, h1, h2, h3, rfl, rfl, (fun q => by cases q), fun _ => rfl⟩
  · rw [if_neg e, if_neg e]
    exact ⟨false, s, f, a, v, -1, h1, h2, h3, rfl, rfl, (fun q => by cases q), fun _ => rfl⟩
