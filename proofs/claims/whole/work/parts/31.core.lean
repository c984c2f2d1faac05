/-! the hour, as one function; the component's and the model's are it -/
abbrev T5 : Type := Int32 × Int32 × Int32 × Int32 × Int32
def sFr (t : T5) : Int32 := t.1 / 3 + t.2.2.1
def sStay (m : Nat → Int32) (k : Nat) (t : T5) : Bool :=
  if m (4 * k) = 1 then !decide (m (4 * k + 2) + m (4 * k + 1) < sFr t) else if m (4 * k) = 3 then true else if m (4 * k) = 4 then !decide (2 * m (4 * k + 2) < sFr t) else if m (4 * k) = 5 then (!decide (m (4 * k + 2) < sFr t) && !decide (t.2.2.2.1 ≤ t.1)) else !decide (m (4 * k + 2) < sFr t)
def sSong (a : Int32) (t : T5) : Int32 := if (t.1 - t.1 / 2 * 2) = 0 then a + 3 else a
def sSooth (d a : Int32) (t : T5) : Int32 := if d = 1 then sSong a t else if d = 2 then t.1 / 4 else if d = 3 then sSong a t + t.2.2.1 else if d = 4 then t.1 / 4 + a else if d = 5 then -a else a
def c99 (x : Int32) : Int32 := if (0 : Int32) < (if x < 99 then x else 99) then (if x < 99 then x else 99) else 0
def sGrow (g : Int32) (b : Bool) : Int32 := if b then (if g + 1 < 9 then g + 1 else 9) else g
def sFlee (t : T5) : T5 := (if t.1 + 2 * t.2.2.1 < 99 then t.1 + 2 * t.2.2.1 else 99, t.2.1, sGrow t.2.2.1 (decide (t.2.2.2.2 - t.2.2.2.2 / 12 * 12 = 0)), t.2.2.2.1, t.2.2.2.2)
def sFeed (d : Int32) : Bool := decide (d = 2) || decide (d = 4)
def sKept (m : Nat → Int32) (k : Nat) (t : T5) : T5 := (c99 (t.1 - sSooth (m (4 * k)) (m (4 * k + 1)) t), t.2.1, sGrow t.2.2.1 (sFeed (m (4 * k)) && decide (t.2.2.2.2 - t.2.2.2.2 / 4 * 4 = 0)), t.2.2.2.1, t.2.2.2.2)
def sMeet (t : T5) : T5 := (t.1 - (t.1 - t.2.1) / 4, t.2.1 + (t.1 - t.2.1) / 4, t.2.2)
def sMid (m : Nat → Int32) (o : Int32) (t : T5) : T5 := if o = 10 then sMeet t else if o = -1 then sFlee t else if sStay m o.toNatClampNeg t then sKept m o.toNatClampNeg t else sFlee t
def sFl (m : Nat → Int32) (o : Int32) (t : T5) : Bool := if o = 10 then false else if o = -1 then false else !sStay m o.toNatClampNeg t
def sHarm (t : T5) : Bool := !decide (t.1 < t.2.2.2.1)
def sEnd (t : T5) : T5 := (t.1, if sHarm t then (if (0 : Int32) < t.2.1 - 1 then t.2.1 - 1 else 0) else t.2.1, t.2.2.1, t.2.2.2.1, if t.2.2.2.2 + 1 < 9999 then t.2.2.2.2 + 1 else 9999)
def sHr (m : Nat → Int32) (o : Int32) (t : T5) : T5 := sEnd (sMid m o t)
def sHm (m : Nat → Int32) (o : Int32) (t : T5) : Bool := sHarm (sMid m o t)
/-- an order -/
def ORD (m : Nat → Int32) (o : Int32) : Prop := o = -1 ∨ o = 10 ∨ ∃ k : Nat, k < 8 ∧ nI k < m 32 ∧ o = nI k
/-- the keepers of a staff are those of m -/
def SM (st : TSt) (m : Nat → Int32) : Prop := st.1 = m 32 ∧ ∀ k, k < 8 → st.2.1 k = m (4 * k) ∧ st.2.2.1 k = m (4 * k + 1) ∧ st.2.2.2.1 k = m (4 * k + 2)
/-- ranges of the keepers -/
def KR (m : Nat → Int32) : Prop := bnd (m 32) 0 8 ∧ ∀ k, k < 8 → bnd (m (4 * k)) 0 5 ∧ bnd (m (4 * k + 1)) 0 9 ∧ bnd (m (4 * k + 2)) 0 40
def TR (t : T5) : Prop := (0 ≤ t.1.toInt ∧ t.1.toInt ≤ 99) ∧ (0 ≤ t.2.1.toInt ∧ t.2.1.toInt ≤ 99) ∧ (1 ≤ t.2.2.1.toInt ∧ t.2.2.1.toInt ≤ 9) ∧ (1 ≤ t.2.2.2.1.toInt ∧ t.2.2.2.1.toInt ≤ 99) ∧ (0 ≤ t.2.2.2.2.toInt ∧ t.2.2.2.2.toInt ≤ 9999)
theorem bnd_iff {x : Int32} {a b : Nat} (hb : b < 2147483648) : bnd x a b ↔ (a : Int) ≤ x.toInt ∧ x.toInt ≤ b := by
  constructor
  · rintro ⟨n, h1, h2, rfl⟩
    rw [nI_t (by omega)]
    omega
  · intro h
    refine ⟨x.toInt.toNat, by omega, by omega, i_eq.mpr ?_⟩
    rw [nI_t (by omega)]
    omega
/-- a Temper with these five -/
abbrev te5 (t : T5) (h : Bool) (f : Int32) : TTe := (t.1, t.2.1, t.2.2.1, t.2.2.2.1, t.2.2.2.2, h, f)
theorem has7 {st : TSt} {m : Nat → Int32} (hs : SM st m) (hk : bnd (m 32) 0 8) (x : Int32) : zf_X2_has x st = some (decide (0 ≤ x ∧ x < m 32)) := by
  unfold zf_X2_has
  rw [hs.1]
  obtain ⟨h1, h2⟩ := (bnd_iff (by decide)).mp hk
  have h0 : (0 : Int32).toInt = 0 := rfl
  have h8 : (8 : Int32).toInt = 8 := rfl
  by_cases a : x < 0
  · rw [if_pos a, decide_eq_false (fun q => by have := i_lt.mp a; have := i_le.mp q.1; omega)]
  · rw [if_neg a]
    by_cases b : m 32 ≤ x
    · rw [if_pos b, decide_eq_false (fun q => by have := i_le.mp b; have := i_lt.mp q.2; omega)]
    · rw [if_neg b]
      have b' : x < m 32 := Int32.not_le.mp b
      rw [if_neg (fun q => by have := i_le.mp q; have := i_lt.mp b'; omega), decide_eq_true ⟨Int32.not_lt.mp a, b'⟩]
theorem hasK {st : TSt} {m : Nat → Int32} (hs : SM st m) (hk : bnd (m 32) 0 8) {k : Nat} (h8 : k < 8) (h : nI k < m 32) : zf_X2_has (nI k) st = some true := by
  rw [has7 hs hk, decide_eq_true ⟨nI_pos' (by omega), h⟩]
theorem alarm7 (te : TTe) : zf_X5_alarm te = some (te.1 / 3 + te.2.2.1) := rfl
theorem nd_t {p : Prop} [Decidable p] (h : ¬ p) : (!decide p) = true := by rw [decide_eq_false h]; rfl
theorem nd_f {p : Prop} [Decidable p] (h : p) : (!decide p) = false := by rw [decide_eq_true h]; rfl
theorem if_nd {p : Prop} [Decidable p] : (if p then some false else some true) = some (!decide p) := by by_cases h : p <;> simp [h]
theorem remains7 {st : TSt} {m : Nat → Int32} (hs : SM st m) (hk : bnd (m 32) 0 8) {k : Nat} (h8 : k < 8) (h : nI k < m 32) (t : T5) (b : Bool) (f : Int32) : zf_X2_remains (nI k) st (te5 t b f) = some (sStay m k t) := by
  obtain ⟨e1, e2, e3⟩ := hs.2 k h8
  unfold zf_X2_remains
  rw [hasK hs hk h8 h]
  simp only [Option.bind_some, alarm7, ix_nI h8 (by decide), cl_nI (show k < 2147483648 by omega), if_true, e1, e2, e3, zf_X2_remains_126, if_nd]
  unfold sStay sFr
  by_cases q1 : m (4 * k) = 1
  · rw [if_pos q1, if_pos q1]
  · rw [if_neg q1, if_neg q1]
    by_cases q2 : m (4 * k) = 2
    · rw [if_pos q2, if_neg (by rw [q2]; decide), if_neg (by rw [q2]; decide), if_neg (by rw [q2]; decide)]
    · rw [if_neg q2]
      by_cases q3 : m (4 * k) = 3
      · rw [if_pos q3, if_pos q3]
      · rw [if_neg q3, if_neg q3]
        by_cases q4 : m (4 * k) = 4
        · rw [if_pos q4, if_pos q4]
        · rw [if_neg q4, if_neg q4]
          by_cases q5 : m (4 * k) = 5
          · rw [if_pos q5, if_pos q5]
            by_cases z : m (4 * k + 2) < t.1 / 3 + t.2.2.1
            · rw [if_pos z, decide_eq_true z]; rfl
            · rw [if_neg z, decide_eq_false z]; rfl
          · rw [if_neg q5, if_neg q5]
theorem bnd5 {x : Int32} (h : bnd x 0 5) : x = 0 ∨ x = 1 ∨ x = 2 ∨ x = 3 ∨ x = 4 ∨ x = 5 := by
  obtain ⟨n, -, h2, rfl⟩ := h
  have h2 : n = 0 ∨ n = 1 ∨ n = 2 ∨ n = 3 ∨ n = 4 ∨ n = 5 := by omega
  rcases h2 with rfl | rfl | rfl | rfl | rfl | rfl
  · exact Or.inl rfl
  · exact Or.inr (Or.inl rfl)
  · exact Or.inr (Or.inr (Or.inl rfl))
  · exact Or.inr (Or.inr (Or.inr (Or.inl rfl)))
  · exact Or.inr (Or.inr (Or.inr (Or.inr (Or.inl rfl))))
  · exact Or.inr (Or.inr (Or.inr (Or.inr (Or.inr rfl))))
theorem soothing7 {d : Int32} (hd : bnd d 0 5) (a : Int32) (t : T5) (b : Bool) (f : Int32) : zf_X2_soothing d a (te5 t b f) = some (sSooth d a t) := by
  unfold zf_X2_soothing sSooth sSong zf_X2_soothing_16
  rcases bnd5 hd with rfl | rfl | rfl | rfl | rfl | rfl <;> by_cases q : (t.1 - t.1 / 2 * 2) = 0 <;> simp [q]
theorem soothed7 {st : TSt} {m : Nat → Int32} (hs : SM st m) (hk : KR m) {k : Nat} (h8 : k < 8) (h : nI k < m 32) (t : T5) (b : Bool) (f : Int32) : zf_X2_soothed (nI k) st (te5 t b f) = some (c99 (t.1 - sSooth (m (4 * k)) (m (4 * k + 1)) t)) := by
  obtain ⟨e1, e2, e3⟩ := hs.2 k h8
  unfold zf_X2_soothed
  rw [hasK hs hk.1 h8 h]
  simp only [Option.bind_some, ix_nI h8 (by decide), cl_nI (show k < 2147483648 by omega), if_true, e1, e2, soothing7 (hk.2 k h8).1]
  rfl
theorem under7 : ∀ d, d < 6 → ∀ w, w < 6 → zf_X7_isUnder (nI d) (nI w) = some (decide (w = d) || decide (w = 0) || (decide (d = 3) && decide (w = 1)) || (decide (d = 4) && decide (w = 2))) := by decide +kernel
theorem feeds7 {st : TSt} {m : Nat → Int32} (hs : SM st m) (hk : KR m) {k : Nat} (h8 : k < 8) (h : nI k < m 32) : zf_X2_feeds (nI k) st = some (sFeed (m (4 * k))) := by
  obtain ⟨e1, e2, e3⟩ := hs.2 k h8
  unfold zf_X2_feeds
  rw [hasK hs hk.1 h8 h]
  simp only [Option.bind_some, ix_nI h8 (by decide), cl_nI (show k < 2147483648 by omega), if_true, e1]
  obtain ⟨d, -, hd, e⟩ := (hk.2 k h8).1
  rw [e, show (2 : Int32) = nI 2 from rfl, under7 d (by omega) 2 (by decide)]
  have hd : d = 0 ∨ d = 1 ∨ d = 2 ∨ d = 3 ∨ d = 4 ∨ d = 5 := by omega
  rcases hd with rfl | rfl | rfl | rfl | rfl | rfl <;> rfl
theorem growIf7 (x : Bool) (t : T5) (b : Bool) (f : Int32) : zf_X5_growIf x (te5 t b f) = some (te5 (t.1, t.2.1, sGrow t.2.2.1 x, t.2.2.2) b f) := by
  unfold zf_X5_growIf sGrow
  cases x <;> rfl
theorem pass110 (st : TSt) (t : T5) (b : Bool) (f : Int32) : zf_X5_pass_110 st (te5 t b f) = some (te5 (sEnd t) (sHarm t) f) := by
  unfold zf_X5_pass_110 zf_X5_pass_127 zf_X5_pass_151 sEnd sHarm
  by_cases q : t.1 < t.2.2.2.1
  · simp only [if_pos q, decide_eq_true q]; rfl
  · simp only [if_neg q, decide_eq_false q]; rfl
theorem pass107 (st : TSt) (x : Bool) (t : T5) (b : Bool) (f : Int32) : zf_X5_pass_107 st x (te5 t b f) = some (te5 (sEnd (t.1, t.2.1, sGrow t.2.2.1 x, t.2.2.2)) (sHarm (t.1, t.2.1, sGrow t.2.2.1 x, t.2.2.2)) f) := by
  unfold zf_X5_pass_107
  rw [growIf7]
  exact pass110 st _ b f
theorem pass60 (st : TSt) (x : Bool) (t : T5) (b : Bool) (f : Int32) : zf_X5_pass_60 st x (te5 t b f) = some (te5 (sEnd (t.1, t.2.1, sGrow t.2.2.1 x, t.2.2.2)) (sHarm (t.1, t.2.1, sGrow t.2.2.1 x, t.2.2.2)) f) := by
  unfold zf_X5_pass_60
  rw [growIf7]
  exact pass110 st _ b f
theorem fleeC (st : TSt) (t : T5) (b : Bool) (f : Int32) : (if (t.2.2.2.2 - t.2.2.2.2 / 12 * 12) = 0 then zf_X5_pass_107 st true (te5 (if t.1 + 2 * t.2.2.1 < 99 then t.1 + 2 * t.2.2.1 else 99, t.2) b f) else zf_X5_pass_107 st false (te5 (if t.1 + 2 * t.2.2.1 < 99 then t.1 + 2 * t.2.2.1 else 99, t.2) b f)) = some (te5 (sEnd (sFlee t)) (sHarm (sFlee t)) f) := by
  rw [pass107, pass107]
  unfold sFlee
  by_cases q : (t.2.2.2.2 - t.2.2.2.2 / 12 * 12) = 0
  · rw [if_pos q, decide_eq_true q]
  · rw [if_neg q, decide_eq_false q]
theorem remN (st : TSt) (te : TTe) : zf_X2_remains (-1) st te = some false := by
  unfold zf_X2_remains zf_X2_has
  rw [if_pos (by decide)]
  rfl
theorem k_ne10 {k : Nat} (h : k < 8) : ¬ nI k = 10 := fun e => by
  have := i_eq.mp e
  rw [nI_t (by omega)] at this
  have h10 : (10 : Int32).toInt = 10 := rfl
  omega
theorem k_nem1 {k : Nat} (h : k < 8) : ¬ nI k = -1 := fun e => by
  have := i_eq.mp e
  rw [nI_t (by omega)] at this
  have h10 : (-1 : Int32).toInt = -1 := rfl
  omega
theorem pass7 {st : TSt} {m : Nat → Int32} (hs : SM st m) (hk : KR m) {o : Int32} (ho : ORD m o) (t : T5) (b : Bool) (f : Int32) : ∃ f', zf_X5_pass o (te5 t b f) st = some (te5 (sHr m o t) (sHm m o t) f') ∧ (f' = -1 ↔ sFl m o t = false) ∧ (sFl m o t = true → f' = o) := by
  rcases ho with rfl | rfl | ⟨k, h8, h, rfl⟩
  · refine ⟨-1, ?_, ⟨fun _ => rfl, fun _ => rfl⟩, fun h => by cases h⟩
    unfold zf_X5_pass
    rw [if_neg (by decide), remN]
    exact fleeC st t b (-1)
  · refine ⟨-1, ?_, ⟨fun _ => rfl, fun _ => rfl⟩, fun h => by cases h⟩
    unfold zf_X5_pass
    rw [if_pos rfl]
    exact pass110 st (sMeet t) b (-1)
  · have n10 := k_ne10 h8
    have n1 := k_nem1 h8
    have hc : (nI k).toNatClampNeg = k := cl_nI (by omega)
    have eM : sMid m (nI k) t = if sStay m k t then sKept m k t else sFlee t := by unfold sMid; rw [if_neg n10, if_neg n1, hc]
    have eF : sFl m (nI k) t = !sStay m k t := by unfold sFl; rw [if_neg n10, if_neg n1, hc]
    unfold zf_X5_pass sHr sHm
    rw [if_neg n10, eM, eF]
    rw [show zf_X2_remains (nI k) st (t.1, t.2.1, t.2.2.1, t.2.2.2.1, t.2.2.2.2, b, -1) = some (sStay m k t) from remains7 hs hk.1 h8 h t b (-1)]
    rw [show zf_X2_soothed (nI k) st (t.1, t.2.1, t.2.2.1, t.2.2.2.1, t.2.2.2.2, b, -1) = _ from soothed7 hs hk h8 h t b (-1), feeds7 hs hk h8 h]
    cases hst : sStay m k t with
    | true =>
      refine ⟨-1, ?_, ⟨fun _ => rfl, fun _ => rfl⟩, fun h => by cases h⟩
      simp only [Option.bind_some, if_true]
      unfold zf_X5_pass_59
      have p60 := fun x => pass60 st x (c99 (t.1 - sSooth (m (4 * k)) (m (4 * k + 1)) t), t.2) b (-1)
      cases hfd : sFeed (m (4 * k)) with
      | false =>
        simp only [Bool.false_eq_true, if_false]
        refine (p60 false).trans ?_
        unfold sKept
        rw [hfd]
        rfl
      | true =>
        simp only [if_true]
        by_cases q : (t.2.2.2.2 - t.2.2.2.2 / 4 * 4) = 0
        · rw [if_pos q]
          refine (p60 true).trans ?_
          unfold sKept
          rw [hfd, decide_eq_true q]
          rfl
        · rw [if_neg q]
          refine (p60 false).trans ?_
          unfold sKept
          rw [hfd, decide_eq_false q]
          rfl
    | false =>
      refine ⟨nI k, ?_, ⟨fun h => absurd h n1, fun h => by cases h⟩, fun _ => rfl⟩
      simp only [Option.bind_some, Bool.false_eq_true, if_false]
      exact fleeC st t b (nI k)
