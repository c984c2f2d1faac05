/-! pure rows: best, as one function over all rosters in their order -/
variable {te : TTe} {st : TSt} {m : Nat → Int32} {c D : Nat}
abbrev BB : Type := Nat × Int32 × (Nat → Int32)
def hN (b : Bool) : Nat := if b = true then 1 else 0
theorem hN_I (h : Nat) (b : Bool) : nI h + bI b = nI (h + hN b) := by
  cases b
  · exact Int32.add_zero _
  · exact nI_1 h
theorem hN_le (b : Bool) : hN b ≤ 1 := by cases b <;> decide
def cpo (D : Nat) (o r : Nat → Int32) : Nat → Int32 := fun p => if p < D then o p else r p
theorem cpo_0 (o r : Nat → Int32) : cpo 0 o r = r := by
  funext p
  unfold cpo
  rw [if_neg (Nat.not_lt_zero _)]
theorem cpo_s (i : Nat) (o r : Nat → Int32) : upd (cpo i o r) i (o i) = cpo (i + 1) o r := by
  funext p
  unfold upd cpo
  by_cases e : p = i
  · subst e; rw [if_pos rfl, if_pos (by omega)]
  · rw [if_neg e]
    by_cases z : p < i
    · rw [if_pos z, if_pos (by omega)]
    · rw [if_neg z, if_neg (by omega)]
/-- harms h and rage r are better than b -/
abbrev bts (h : Nat) (r : Int32) (b : BB) : Prop := h < b.1 ∨ (h = b.1 ∧ r.toInt < b.2.1.toInt)
def bLeaf (D h : Nat) (t : T5) (o : Nat → Int32) (b : BB) : BB := if bts h t.1 b then (h, t.1, cpo D o b.2.2) else b
def bfl (f : Nat → BB → BB) : Nat → BB → BB
  | 0, b => b
  | n + 1, b => f n (bfl f n b)
def bst (m : Nat → Int32) (c D : Nat) : Nat → T5 → Nat → (Nat → Int32) → BB → BB
  | 0, t, h, o, b => bLeaf D h t o b
  | r + 1, t, h, o, b => bfl (fun i b => bst m c D r (sHr m (ordAt c i) t) (h + hN (sHm m (ordAt c i) t)) (upd o (D - (r + 1)) (ordAt c i)) b) (c + 2) b
/-- no roster of the tree is better than b -/
def good (m : Nat → Int32) (c : Nat) : Nat → T5 → Nat → BB → Prop
  | 0, t, h, b => ¬ bts h t.1 b
  | r + 1, t, h, b => ∀ i, i < c + 2 → good m c r (sHr m (ordAt c i) t) (h + hN (sHm m (ordAt c i) t)) b
def ble (a b : BB) : Prop := a.1 < b.1 ∨ (a.1 = b.1 ∧ a.2.1.toInt ≤ b.2.1.toInt)
theorem ble_r (b : BB) : ble b b := Or.inr ⟨rfl, Int.le_refl _⟩
theorem ble_t {a b d : BB} (h : ble a b) (k : ble b d) : ble a d := by
  unfold ble at *
  omega
theorem ble_1 {a b : BB} (h : ble a b) : a.1 ≤ b.1 := by
  unfold ble at h
  omega
theorem bfl_le {f : Nat → BB → BB} (hf : ∀ i b, ble (f i b) b) : ∀ n b, ble (bfl f n b) b
  | 0, b => ble_r b
  | n + 1, b => ble_t (hf n _) (bfl_le hf n b)
theorem bLeaf_le (D h : Nat) (t : T5) (o : Nat → Int32) (b : BB) : ble (bLeaf D h t o b) b := by
  unfold bLeaf
  split
  · rename_i q
    unfold bts at q
    unfold ble
    dsimp only
    omega
  · exact ble_r b
theorem bst_le : ∀ (r : Nat) (t : T5) (h : Nat) (o : Nat → Int32) (b : BB), ble (bst m c D r t h o b) b
  | 0, t, h, o, b => bLeaf_le D h t o b
  | r + 1, t, h, o, b => bfl_le (fun i b => bst_le r _ _ _ b) _ b
theorem good_le {a b : BB} (hb : ble a b) : ∀ (r : Nat) (t : T5) (h : Nat), good m c r t h b → good m c r t h a
  | 0, t, h, k => by
    unfold good bts at *
    unfold ble at hb
    omega
  | r + 1, t, h, k => fun i hi => good_le hb r _ _ (k i hi)
theorem good_id {b : BB} : ∀ (r : Nat) (t : T5) (h : Nat) (o : Nat → Int32), good m c r t h b → bst m c D r t h o b = b
  | 0, t, h, o, k => by
    unfold bst bLeaf
    unfold good at k
    rw [if_neg k]
  | r + 1, t, h, o, k => by
    have hh : ∀ n, n ≤ c + 2 → bfl (fun i b => bst m c D r (sHr m (ordAt c i) t) (h + hN (sHm m (ordAt c i) t)) (upd o (D - (r + 1)) (ordAt c i)) b) n b = b := by
      intro n
      induction n with
      | zero => intro _; rfl
      | succ n ih =>
        intro hn
        unfold bfl
        rw [ih (by omega)]
        exact good_id r _ _ _ (k n (by omega))
    exact hh (c + 2) (Nat.le_refl _)
theorem good_bst : ∀ (r : Nat) (t : T5) (h : Nat) (o : Nat → Int32) (b : BB), good m c r t h (bst m c D r t h o b)
  | 0, t, h, o, b => by
    unfold good bst bLeaf
    by_cases q : bts h t.1 b
    · rw [if_pos q]
      unfold bts
      dsimp only
      omega
    · rw [if_neg q]
      exact q
  | r + 1, t, h, o, b => by
    have hh : ∀ n i, i < n → good m c r (sHr m (ordAt c i) t) (h + hN (sHm m (ordAt c i) t)) (bfl (fun i b => bst m c D r (sHr m (ordAt c i) t) (h + hN (sHm m (ordAt c i) t)) (upd o (D - (r + 1)) (ordAt c i)) b) n b) := by
      intro n
      induction n with
      | zero => intro i hi; exact absurd hi (Nat.not_lt_zero _)
      | succ n ih =>
        intro i hi
        unfold bfl
        by_cases e : i = n
        · subst e
          exact good_bst r _ _ _ _
        · exact good_le (bst_le r _ _ _ _) r _ _ (ih i (by omega))
    exact hh (c + 2)
theorem good_cut {b : BB} : ∀ (r : Nat) (t : T5) (h : Nat), b.1 < h → good m c r t h b
  | 0, t, h, k => by
    unfold good bts
    omega
  | r + 1, t, h, k => fun i hi => good_cut r _ _ (by omega)
theorem good_n {b : BB} : ∀ (r : Nat) (t : T5) (h : Nat), good m c r t h b → b.1 ≤ h + r
  | 0, t, h, k => by
    unfold good bts at k
    omega
  | r + 1, t, h, k => by
    have h1 := good_n r _ _ (k 0 (by omega))
    have h2 := hN_le (sHm m (ordAt c 0) t)
    omega
theorem bfl_congr {f g : Nat → BB → BB} : ∀ n b, (∀ i b, i < n → f i b = g i b) → bfl f n b = bfl g n b
  | 0, b, _ => rfl
  | n + 1, b, h => by
    unfold bfl
    rw [bfl_congr n b (fun i b hi => h i b (by omega)), h n _ (by omega)]
theorem bst_congr : ∀ (r : Nat) (t : T5) (h : Nat) (o o' : Nat → Int32) (b : BB), r ≤ D → (∀ p, p < D - r → o p = o' p) → bst m c D r t h o b = bst m c D r t h o' b
  | 0, t, h, o, o', b, hr, ho => by
    unfold bst bLeaf
    have e : cpo D o b.2.2 = cpo D o' b.2.2 := by
      funext p
      unfold cpo
      by_cases z : p < D
      · rw [if_pos z, if_pos z]; exact ho p (by omega)
      · rw [if_neg z, if_neg z]
    rw [e]
  | r + 1, t, h, o, o', b, hr, ho => by
    unfold bst
    refine bfl_congr (c + 2) b (fun i b hi => ?_)
    refine bst_congr r _ _ _ _ b (by omega) (fun p hp => ?_)
    by_cases e : p = D - (r + 1)
    · subst e; rw [upd_s, upd_s]
    · rw [upd_n e, upd_n e]; exact ho p (by omega)
theorem fl_same {o : Int32} {t : T5} (h : sFl m o t = true) : sMid m o t = sMid m (-1) t := by
  unfold sFl at h
  by_cases e : o = 10
  · rw [if_pos e] at h; cases h
  · rw [if_neg e] at h
    by_cases e1 : o = -1
    · rw [if_pos e1] at h; cases h
    · rw [if_neg e1] at h
      have h' : sStay m o.toNatClampNeg t = false := by
        cases q : sStay m o.toNatClampNeg t
        · rfl
        · rw [q] at h; cases h
      unfold sMid
      rw [if_neg e, if_neg e1, h', if_neg Bool.false_ne_true, if_neg (by decide), if_pos rfl]
theorem ordAt_0 (c : Nat) : ordAt c 0 = -1 := by
  unfold ordAt
  rw [if_neg (by omega)]
  rfl
