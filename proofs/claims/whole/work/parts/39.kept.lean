/-! pure rows: what is kept, status, kinds -/
variable {te : TTe} {st : TSt} {m : Nat → Int32} {n : Int32} {sh : TSh} {rf rfd ho sz : Nat → Int32} {el : Nat → Int64}
def SE (a b : TSt) : Prop := a.1 = b.1 ∧ ∀ k, k < 8 → a.2.1 k = b.2.1 k ∧ a.2.2.1 k = b.2.2.1 k ∧ a.2.2.2.1 k = b.2.2.2.1 k ∧ a.2.2.2.2 k = b.2.2.2.2 k
theorem become_loop (p : TSt) : ∀ (r f i : Nat) (b : TSt), i + r = 8 → r < f → b.1 = p.1 → (∀ k, k < i → b.2.1 k = p.2.1 k ∧ b.2.2.1 k = p.2.2.1 k ∧ b.2.2.2.1 k = p.2.2.2.1 k ∧ b.2.2.2.2 k = p.2.2.2.2 k) → ∃ s, zf_X2_become_10 p f (nI i) b = some s ∧ SE s p
  | _, 0, _, _, _, h, _, _ => absurd h (Nat.not_lt_zero _)
  | 0, f + 1, i, b, h0, _, h1, h2 => by
    have e : i = 8 := by omega
    subst e
    unfold zf_X2_become_10
    rw [if_pos (by decide)]
    exact ⟨b, rfl, h1, h2⟩
  | r + 1, f + 1, i, b, h0, hf, h1, h2 => by
    have hn : ¬ (8 : Int32) ≤ nI i := nle (a := 8) (by omega) (by decide)
    have i8 := ix_nI (j := i) (n := 8) (by omega) (by decide)
    unfold zf_X2_become_10
    rw [if_neg hn, if_pos i8, if_pos i8, if_pos i8, if_pos i8, if_pos i8, if_pos i8, if_pos i8, if_pos i8, nI_1, cl_nI (by omega)]
    refine become_loop p r f (i + 1) _ (by omega) (by omega) h1 (fun k hk => ?_)
    show upd _ _ _ k = _ ∧ upd _ _ _ k = _ ∧ upd _ _ _ k = _ ∧ upd _ _ _ k = _
    by_cases e : k = i
    · subst e
      rw [upd_s, upd_s, upd_s, upd_s]
      exact ⟨rfl, rfl, rfl, rfl⟩
    · rw [upd_n e, upd_n e, upd_n e, upd_n e]
      exact h2 k (by omega)
theorem become7 (b p : TSt) : ∃ s, zf_X2_become b p = some s ∧ SE s p := by
  unfold zf_X2_become
  exact become_loop p 8 FU 0 _ rfl (by decide) rfl (fun k hk => absurd hk (Nat.not_lt_zero _))
/-- p, but with b's own harm and flight -/
def bk (b p : TTe) : TTe := (p.1, p.2.1, p.2.2.1, p.2.2.2.1, p.2.2.2.2.1, b.2.2.2.2.2.1, b.2.2.2.2.2.2)
theorem becomeT (b p : TTe) : zf_X5_become b p = some (bk b p) := rfl
theorem becomeT5 (t : T5) (x : Bool) (f : Int32) (b : TTe) : zf_X5_become b (te5 t x f) = some (te5 t b.2.2.2.2.2.1 b.2.2.2.2.2.2) := rfl
theorem RC_bk (b : TTe) (h : RC te st m) : RC (bk b te) st m := h
theorem bk_te (h : RC te st m) (b : TTe) : bk b te = te5 (t5 m) b.2.2.2.2.2.1 b.2.2.2.2.2.2 := RC_te (RC_bk b h)
theorem becomeM (h : RC te st m) (b : TTe) : zf_X5_become b te = some (te5 (t5 m) b.2.2.2.2.2.1 b.2.2.2.2.2.2) := (becomeT b te).trans (congrArg some (bk_te h b))
theorem SE_SM {a b : TSt} (h : SE a b) (hs : SM b m) : SM a m := ⟨h.1.trans hs.1, fun k hk => ⟨(h.2 k hk).1.trans (hs.2 k hk).1, (h.2 k hk).2.1.trans (hs.2 k hk).2.1, (h.2 k hk).2.2.1.trans (hs.2 k hk).2.2⟩⟩
theorem RC_SE {a b : TSt} (h : SE a b) (hc : RC te b m) : RC te a m := by
  obtain ⟨g1, g2, g3, g4, g5, g6, g7⟩ := hc
  exact ⟨g1, g2, g3, g4, g5, h.1.trans g6, fun k hk => ⟨(h.2 k hk).1.trans (g7 k hk).1, (h.2 k hk).2.1.trans (g7 k hk).2.1, (h.2 k hk).2.2.1.trans (g7 k hk).2.2.1, (h.2 k hk).2.2.2.trans (g7 k hk).2.2.2⟩⟩
theorem RC_m {m' : Nat → Int32} (h : ∀ j, j < 39 → m' j = m j) (hc : RC te st m) : RC te st m' := by
  obtain ⟨g1, g2, g3, g4, g5, g6, g7⟩ := hc
  refine ⟨g1.trans (h _ (by decide)).symm, g2.trans (h _ (by decide)).symm, g3.trans (h _ (by decide)).symm, g4.trans (h _ (by decide)).symm, g5.trans (h _ (by decide)).symm, g6.trans (h _ (by decide)).symm, fun k hk => ?_⟩
  rw [h _ (by omega), h _ (by omega), h _ (by omega), h _ (by omega)]
  exact g7 k hk
theorem RNG_m {m' : Nat → Int32} (h : ∀ j, j < 39 → m' j = m j) (hr : RNG m) : RNG m' := by
  obtain ⟨q0, q1, q2, q3, q4, q5, q6⟩ := hr
  unfold RNG
  rw [h 32 (by decide), h 33 (by decide), h 34 (by decide), h 35 (by decide), h 36 (by decide), h 37 (by decide)]
  refine ⟨q0, q1, q2, q3, q4, q5, fun k hk => ?_⟩
  rw [h _ (by omega), h _ (by omega), h _ (by omega)]
  exact q6 k hk
theorem image_loop (m : Nat → Int32) (b : Bool) : ∀ (r f i : Nat) (kp : Nat → Int32), i + r = 39 → r < f → (∀ j, j < i → kp j = m j) → ∃ kp', zf_X8_image_2 m f (nI i) kp b = some (1, kp', true) ∧ ∀ j, j < 39 → kp' j = m j
  | _, 0, _, _, _, h, _ => absurd h (Nat.not_lt_zero _)
  | 0, f + 1, i, kp, h0, _, h1 => by
    have e : i = 39 := by omega
    subst e
    unfold zf_X8_image_2
    rw [if_pos (by decide)]
    exact ⟨kp, rfl, h1⟩
  | r + 1, f + 1, i, kp, h0, hf, h1 => by
    have hn : ¬ (39 : Int32) ≤ nI i := nle (a := 39) (by omega) (by decide)
    have i8 := ix_nI (j := i) (n := 39) (by omega) (by decide)
    unfold zf_X8_image_2
    rw [if_neg hn, if_pos i8, if_pos i8, nI_1, cl_nI (by omega)]
    refine image_loop m b r f (i + 1) _ (by omega) (by omega) (fun k hk => ?_)
    by_cases e : k = i
    · subst e; rw [upd_s]
    · rw [upd_n e]; exact h1 k (by omega)
theorem pl_image : PL_image := by
  intro σ μ N hN hrel
  obtain ⟨hc, hk, hf, hs, ht, ha, hwd⟩ := hrel
  obtain ⟨s, h1, h2⟩ := become7 σ.2.2.2.2.2.2.1 σ.2.2.2.2.1
  obtain ⟨kp', h3, h4⟩ := image_loop μ.2.1 μ.2.2.2.2.1 39 FU 0 μ.2.2.1 rfl (by decide) (fun j hj => absurd hj (Nat.not_lt_zero _))
  refine ⟨(1, bk σ.2.2.2.1 σ.1, s, σ.2.2.2.2.2.2.2.2.2.2.2.2.2.2.2.1, true), (1, kp', true), ?_, h3, rfl, hc, ⟨rfl, fun _ => ⟨?_, ?_, ?_⟩⟩, hf, hs, ht, ha, hwd.1, FB_up hwd.2.1, fun _ => FB_up (FB_eq hwd.2.1 (fun k hk => h4 _ (by omega)))⟩
  · unfold zf_X7_image
    rw [becomeT, h1]
    rfl
  · exact RC_m h4 (RC_SE h2 (RC_bk _ hc.1))
  · exact RNG_m h4 hc.2.1
  · exact hc.2.2.trans (h4 38 (by decide)).symm
theorem back16 (kp : Nat → Int32) (b : Bool) (rf ho : Nat → Int32) : ∀ (r f i : Nat) (m : Nat → Int32), i + r = 39 → r < f → (∀ j, j < i → m j = kp j) → ∃ m', zf_X8_back_16 kp b f (nI i) rf m ho = zf_X8_back_42 kp b FU 0 rf m' ho ∧ ∀ j, j < 39 → m' j = kp j
  | _, 0, _, _, _, h, _ => absurd h (Nat.not_lt_zero _)
  | 0, f + 1, i, m, h0, _, h1 => by
    have e : i = 39 := by omega
    subst e
    unfold zf_X8_back_16
    rw [if_pos (by decide)]
    exact ⟨m, rfl, h1⟩
  | r + 1, f + 1, i, m, h0, hf, h1 => by
    have hn : ¬ (39 : Int32) ≤ nI i := nle (a := 39) (by omega) (by decide)
    have i8 := ix_nI (j := i) (n := 39) (by omega) (by decide)
    unfold zf_X8_back_16
    rw [if_neg hn, if_pos i8, if_pos i8, nI_1, cl_nI (by omega)]
    refine back16 kp b rf ho r f (i + 1) _ (by omega) (by omega) (fun k hk => ?_)
    by_cases e : k = i
    · subst e; rw [upd_s]
    · rw [upd_n e]; exact h1 k (by omega)
/-- the keepers dropped from the shelves, on both sides -/
theorem drop_loop (kp : Nat → Int32) (b : Bool) (rf m : Nat → Int32) (ho0 : Nat → Int32) (s2 : Nat → Int32) (s3 : Nat → Nat → Int64) : ∀ (r f i : Nat) (s1 ho : Nat → Int32), i + r = 8 → r < f → (∀ j, j < 8 → s1 j = ho j) → (∀ j, i ≤ j → ho j = ho0 j) → (∀ j, j < i → ho j = if ho0 j < 10 + m 32 then ho0 j else -1) → ∃ s1' ho', zf_X1_dropKeepersFrom_2 f (m 32) (nI i) (s1, s2, s3) = some (s1', s2, s3) ∧ zf_X8_back_42 kp b f (nI i) rf m ho = some (1, rf, m, ho') ∧ ∀ j, j < 8 → s1' j = ho' j ∧ ho' j = if ho0 j < 10 + m 32 then ho0 j else -1
  | _, 0, _, _, _, _, h, _, _, _ => absurd h (Nat.not_lt_zero _)
  | 0, f + 1, i, s1, ho, h0, _, h1, h2, h3 => by
    have e : i = 8 := by omega
    subst e
    unfold zf_X1_dropKeepersFrom_2 zf_X8_back_42
    rw [if_pos (by decide), if_pos (by decide)]
    exact ⟨s1, ho, rfl, rfl, fun j hj => ⟨h1 j hj, h3 j hj⟩⟩
  | r + 1, f + 1, i, s1, ho, h0, hf, h1, h2, h3 => by
    have hn : ¬ (8 : Int32) ≤ nI i := nle (a := 8) (by omega) (by decide)
    have i8 := ix_nI (j := i) (n := 8) (by omega) (by decide)
    unfold zf_X1_dropKeepersFrom_2 zf_X8_back_42 zf_X8_many zf_X1_dropKeepersFrom_28 zf_X8_back_79
    rw [if_neg hn, if_neg hn, if_pos i8, if_pos i8, if_pos i8, if_pos i8, if_pos i8, nI_1, cl_nI (by omega), Option.bind_some]
    dsimp only
    have es : s1 i = ho i := h1 i (by omega)
    by_cases c : ho i < 10 + m 32
    · have c1 : s1 i < 10 + m 32 := es.symm ▸ c
      rw [if_pos c, if_pos c1]
      refine drop_loop kp b rf m ho0 s2 s3 r f (i + 1) s1 (upd ho i (ho i)) (by omega) (by omega) (fun j hj => ?_) (fun j hj => ?_) (fun j hj => ?_)
      · by_cases e : j = i
        · subst e; rw [upd_s]; exact h1 j hj
        · rw [upd_n e]; exact h1 j hj
      · rw [upd_n (by omega)]; exact h2 j (by omega)
      · by_cases e : j = i
        · subst e; rw [upd_s]; rw [h2 j (Nat.le_refl _)] at c ⊢; rw [if_pos c]
        · rw [upd_n e]; exact h3 j (by omega)
    · have c1 : ¬ s1 i < 10 + m 32 := es.symm ▸ c
      rw [if_neg c, if_neg c1, if_pos i8]
      refine drop_loop kp b rf m ho0 s2 s3 r f (i + 1) (upd s1 i (-1)) (upd ho i (-1)) (by omega) (by omega) (fun j hj => ?_) (fun j hj => ?_) (fun j hj => ?_)
      · by_cases e : j = i
        · subst e; rw [upd_s, upd_s]
        · rw [upd_n e, upd_n e]; exact h1 j hj
      · rw [upd_n (by omega)]; exact h2 j (by omega)
      · by_cases e : j = i
        · subst e; rw [upd_s]; rw [h2 j (Nat.le_refl _)] at c; rw [if_neg c]
        · rw [upd_n e]; exact h3 j (by omega)
theorem HOK_drop {n' x : Int32} (h : HOK n x) (hn : bnd n' 0 8) : HOK n' (if x < 10 + n' then x else -1) := by
  by_cases c : x < 10 + n'
  · rw [if_pos c]
    rcases h with h | h | ⟨k, h8, hk, h⟩
    · exact Or.inl h
    · exact Or.inr (Or.inl h)
    · refine Or.inr (Or.inr ⟨k, h8, ?_, h⟩)
      obtain ⟨c', -, hc', rfl⟩ := hn
      rw [h, show (10 : Int32) + nI c' = nI (10 + c') from nI_add 10 c'] at c
      have := (nIlt (by omega) (by omega)).mp c
      exact (nIlt (by omega) (by omega)).mpr (by omega)
  · rw [if_neg c]; exact Or.inl rfl
theorem q_back {kte : TTe} {kst : TSt} {km : Nat → Int32} {b : Bool} {seed kseed : Int32} (hc : RC te st m ∧ RNG m ∧ seed = m 38) (hk : b = true → RC kte kst km ∧ RNG km ∧ kseed = km 38) (hf : RF rf rfd) (hs : RS (m 32) sh ho sz el) : ∃ r1 r2, zf_X7_back te kte st kst sh rf seed kseed b = some r1 ∧ zf_X8_back rfd m km b ho = some r2 ∧ r1.1 = r2.1 ∧ (RC r1.2.1 r1.2.2.1 r2.2.2.1 ∧ RNG r2.2.2.1 ∧ r1.2.2.2.2.2 = r2.2.2.1 38) ∧ RF r1.2.2.2.2.1 r2.2.1 ∧ RS (r2.2.2.1 32) r1.2.2.2.1 r2.2.2.2 sz el ∧ ∀ N, FB N m → (b = true → FB N km) → FB N r2.2.2.1 := by
  unfold zf_X7_back zf_X8_back
  cases b
  · rw [if_neg (by decide), if_neg (by decide), r7_5, r8_5]
    exact ⟨_, _, rfl, rfl, rfl, hc, rf_5 hf, hs, fun _ h _ => h⟩
  · obtain ⟨k1, k2, k3⟩ := hk rfl
    obtain ⟨s, e1, e2⟩ := become7 st kst
    obtain ⟨m', e3, e4⟩ := back16 km true rfd ho 39 FU 0 m rfl (by decide) (fun j hj => absurd hj (Nat.not_lt_zero _))
    have es : s.1 = m' 32 := e2.1.trans (k1.2.2.2.2.2.1.trans (e4 32 (by decide)).symm)
    obtain ⟨s1', ho', e5, e6, e7⟩ := drop_loop km true rfd m' ho sh.2.1 sh.2.2 8 FU 0 sh.1 ho rfl (by decide) (fun j hj => (hs j hj).1) (fun j _ => rfl) (fun j hj => absurd hj (Nat.not_lt_zero _))
    have kr : RNG m' := RNG_m e4 k2
    refine ⟨(1, bk te kte, s, (s1', sh.2.1, sh.2.2), rf, kseed), (1, rfd, m', ho'), ?_, ?_, rfl, ⟨?_, kr, ?_⟩, hf, ?_, fun _ _ h => FB_eq (h rfl) (fun k hk => e4 _ (by omega))⟩
    · rw [if_pos rfl, becomeT, e1, Option.bind_some, Option.bind_some]
      unfold zf_X1_dropKeepersFrom
      rw [es]
      exact congrArg (fun z => Option.bind z _) e5
    · rw [if_pos rfl]
      exact e3.trans e6
    · exact RC_m e4 (RC_SE e2 (RC_bk _ k1))
    · exact k3.trans (e4 38 (by decide)).symm
    · intro j hj
      obtain ⟨a1, a2, a3, a4, a5⟩ := hs j hj
      refine ⟨(e7 j hj).1, a2, ?_, a4, a5⟩
      show HOK (m' 32) (ho' j)
      rw [(e7 j hj).2]
      exact HOK_drop a3 kr.1
theorem pl_back : PL_back := by
  intro σ μ N hN hrel
  obtain ⟨hc, hk, hf, hs, ht, ha, hwd⟩ := hrel
  obtain ⟨r1, r2, h1, h2, h3, h4, h5, h6, h7⟩ := q_back hc hk.2 hf hs
  rw [← hk.1] at h1
  exact ⟨r1, r2, h1, h2, h3, h4, hk, h5, h6, ht, ha, upF (fun y => FB_up (h7 _ y hwd.2.2)) hwd⟩
theorem pl_seed : PL_seed := by
  intro σ μ x1 N hN hrel
  obtain ⟨hc, hk, hf, hs, ht, ha, hwd⟩ := hrel
  have g7 : ∀ j, j ≠ 38 → upd μ.2.1 38 x1 j = μ.2.1 j := fun j hj => upd_n hj
  refine ⟨_, _, rfl, rfl, hc.2.2, ⟨?_, ?_, (upd_s (f := μ.2.1) (k := 38) (x := x1)).symm⟩, hk, hf, RS_eq hs (g7 32 (by decide)), ht, ha, upF (fun y => FB_up (FB_eq y (fun k hk => g7 _ (by omega)))) hwd⟩
  · obtain ⟨g1, g2, g3, g4, g5, g6, gk⟩ := hc.1
    refine ⟨g1.trans (g7 _ (by decide)).symm, g2.trans (g7 _ (by decide)).symm, g3.trans (g7 _ (by decide)).symm, g4.trans (g7 _ (by decide)).symm, g5.trans (g7 _ (by decide)).symm, g6.trans (g7 _ (by decide)).symm, fun k hk => ?_⟩
    show _ = upd μ.2.1 38 x1 (4 * k) ∧ _ = upd μ.2.1 38 x1 (4 * k + 1) ∧ _ = upd μ.2.1 38 x1 (4 * k + 2) ∧ _ = upd μ.2.1 38 x1 (4 * k + 3)
    rw [g7 _ (by omega), g7 _ (by omega), g7 _ (by omega), g7 _ (by omega)]
    exact gk k hk
  · obtain ⟨q0, q1, q2, q3, q4, q5, q6⟩ := hc.2.1
    show RNG (upd μ.2.1 38 x1)
    unfold RNG
    rw [g7 32 (by decide), g7 33 (by decide), g7 34 (by decide), g7 35 (by decide), g7 36 (by decide), g7 37 (by decide)]
    refine ⟨q0, q1, q2, q3, q4, q5, fun k hk => ?_⟩
    rw [g7 _ (by omega), g7 _ (by omega), g7 _ (by omega)]
    exact q6 k hk

theorem fled_loop (hc : RC te st m) (hn : bnd (m 32) 0 8) (s : Int32) {c : Nat} (hc8 : c ≤ 8) (ec : m 32 = nI c) : ∀ (r f i : Nat) (v : Int32), i + r = c → r < f → ∃ x, zf_X2_allFled_4 st f v (nI i) = some x ∧ zf_X8_status_92 rfd m s ho f v (nI i) = some x
  | _, 0, _, _, _, h => absurd h (Nat.not_lt_zero _)
  | 0, f + 1, i, v, h0, _ => by
    have e : i = c := by omega
    subst e
    unfold zf_X2_allFled_4 zf_X8_status_92 zf_X8_many
    rw [(RC_SM hc).1, ec, Option.bind_some, if_pos (i_le.mpr (Int.le_refl _)), if_pos (i_le.mpr (Int.le_refl _))]
    exact ⟨_, rfl, rfl⟩
  | r + 1, f + 1, i, v, h0, hf => by
    have hk : nI i < m 32 := by rw [ec]; exact (nIlt (by omega) (by omega)).mpr (by omega)
    have hq : ¬ m 32 ≤ nI i := fun q => by have := i_lt.mp hk; have := i_le.mp q; omega
    have E3 : (4 : Int32) * nI i + 3 = nI (4 * i + 3) := e4a i 3
    unfold zf_X2_allFled_4 zf_X8_status_92 zf_X8_many
    rw [(RC_SM hc).1, Option.bind_some, if_neg hq, if_neg hq, fled7 hc hn (by omega) hk, Option.bind_some, E3, if_pos (ix_nI (by omega) (by decide)), cl_nI (by omega), nI_1]
    exact fled_loop hc hn s hc8 ec r f (i + 1) _ (by omega) (by omega)
theorem held_loop (hs : RS n sh ho sz el) (s : Int32) : ∀ (r f i : Nat) (v : Int32), i + r = 8 → r < f → ∃ x, zf_X1_countHeld_4 sh f v (nI i) = some x ∧ zf_X8_status_136 rfd m s ho f v (nI i) = some x
  | _, 0, _, _, _, h => absurd h (Nat.not_lt_zero _)
  | 0, f + 1, i, v, h0, _ => by
    have e : i = 8 := by omega
    subst e
    unfold zf_X1_countHeld_4 zf_X8_status_136
    rw [if_pos (by decide), if_pos (by decide)]
    exact ⟨_, rfl, rfl⟩
  | r + 1, f + 1, i, v, h0, hf => by
    have hn : ¬ (8 : Int32) ≤ nI i := nle (a := 8) (by omega) (by decide)
    have i8 := ix_nI (j := i) (n := 8) (by omega) (by decide)
    unfold zf_X1_countHeld_4 zf_X8_status_136 zf_X1_countHeld_23 zf_X8_status_158
    rw [if_neg hn, if_neg hn, if_pos i8, if_pos i8, cl_nI (by omega), (hs i (by omega)).1, nI_1]
    by_cases e : ho i = -1
    · rw [if_pos e, if_pos e, show v + bI false = v from Int32.add_zero v]
      exact held_loop hs s r f (i + 1) _ (by omega) (by omega)
    · rw [if_neg e, if_neg e]
      exact held_loop hs s r f (i + 1) _ (by omega) (by omega)
theorem q_status {ta : TTa} {tp : Nat → Int32} {size seed : Int32} (hc : RC te st m) (hr : RNG m) (hsd : seed = m 38) (hf : RF rf rfd) (hs : RS (m 32) sh ho sz el) (ht : RT ta tp size) (x1 : Int32) : ∃ r, zf_X7_status x1 te st sh ta rf seed = some r ∧ zf_X8_status x1 rfd m size ho = some r := by
  obtain ⟨g1, g2, g3, g4, g5, g6, g7⟩ := hc
  unfold zf_X7_status zf_X8_status
  rw [win8 (a := 12) (b := 16) (by decide) (by decide), Option.bind_some, g1, g2, g3, g4, g5, g6, ht.1, hsd]
  cases hw : win x1 12 16
  · rw [if_neg Bool.false_ne_true]
    by_cases e : x1 = 0
    · subst e; exact ⟨_, rfl, rfl⟩
    rw [if_neg e, if_neg e]
    by_cases e : x1 = 1
    · subst e; exact ⟨_, rfl, rfl⟩
    rw [if_neg e, if_neg e]
    by_cases e : x1 = 2
    · subst e; exact ⟨_, rfl, rfl⟩
    rw [if_neg e, if_neg e]
    by_cases e : x1 = 3
    · subst e; exact ⟨_, rfl, rfl⟩
    rw [if_neg e, if_neg e]
    by_cases e : x1 = 4
    · subst e; exact ⟨_, rfl, rfl⟩
    rw [if_neg e, if_neg e]
    by_cases e : x1 = 5
    · subst e; exact ⟨_, rfl, rfl⟩
    rw [if_neg e, if_neg e]
    by_cases e : x1 = 6
    · rw [if_pos e, if_pos e]
      obtain ⟨c, -, hc8, ec⟩ := hr.1
      obtain ⟨x, k1, k2⟩ := fled_loop (rfd := rfd) (ho := ho) ⟨g1, g2, g3, g4, g5, g6, g7⟩ hr.1 size hc8 ec c FU 0 0 (by omega) (by show c < 2000; omega)
      exact ⟨x, congrArg (fun z => Option.bind z some) k1, k2⟩
    rw [if_neg e, if_neg e]
    by_cases e : x1 = 7
    · subst e; exact ⟨_, rfl, rfl⟩
    rw [if_neg e, if_neg e]
    by_cases e : x1 = 8
    · subst e; exact ⟨_, rfl, rfl⟩
    rw [if_neg e, if_neg e]
    by_cases e : x1 = 9
    · rw [if_pos e, if_pos e]
      obtain ⟨x, k1, k2⟩ := held_loop (rfd := rfd) (m := m) hs size 8 FU 0 0 rfl (by decide)
      exact ⟨x, congrArg (fun z => Option.bind z some) k1, k2⟩
    rw [if_neg e, if_neg e]
    unfold zf_X7_refusalsTold
    by_cases a : x1 - 12 < 0
    · rw [if_pos a]; exact ⟨_, rfl, rfl⟩
    by_cases b : (5 : Int32) ≤ x1 - 12
    · rw [if_neg a, if_pos b]; exact ⟨_, rfl, rfl⟩
    · exfalso
      have a := i_nlt a
      have b := i_nle b
      rw [show (0 : Int32).toInt = 0 from rfl] at a
      rw [show (5 : Int32).toInt = 5 from rfl] at b
      have ey : x1 = (x1 - 12) + 12 := (Int32.sub_add_cancel x1 12).symm
      have et : x1.toInt = (x1 - 12).toInt + 12 := by
        conv => lhs; rw [ey]
        rw [i_add (by show _ ≤ _ + (12 : Int); omega) (by show _ + (12 : Int) < _; omega)]
        rfl
      have : win x1 12 16 = true := win_iff.mpr ⟨by show (12 : Int) ≤ _; omega, by show _ ≤ (16 : Int); omega⟩
      rw [hw] at this
      cases this
  · have hx := win_iff.mp hw
    rw [show (12 : Int32).toInt = 12 from rfl, show (16 : Int32).toInt = 16 from rfl] at hx
    have hv : x1.toInt = 12 ∨ x1.toInt = 13 ∨ x1.toInt = 14 ∨ x1.toInt = 15 ∨ x1.toInt = 16 := by omega
    rcases hv with h | h | h | h | h
    · have : x1 = 12 := i_eq.mpr h
      subst this
      exact ⟨_, (show _ = some (rf 0) from rfl).trans (congrArg some (hf 0 (by decide))), rfl⟩
    · have : x1 = 13 := i_eq.mpr h
      subst this
      exact ⟨_, (show _ = some (rf 1) from rfl).trans (congrArg some (hf 1 (by decide))), rfl⟩
    · have : x1 = 14 := i_eq.mpr h
      subst this
      exact ⟨_, (show _ = some (rf 2) from rfl).trans (congrArg some (hf 2 (by decide))), rfl⟩
    · have : x1 = 15 := i_eq.mpr h
      subst this
      exact ⟨_, (show _ = some (rf 3) from rfl).trans (congrArg some (hf 3 (by decide))), rfl⟩
    · have : x1 = 16 := i_eq.mpr h
      subst this
      exact ⟨_, (show _ = some (rf 4) from rfl).trans (congrArg some (hf 4 (by decide))), rfl⟩
theorem pl_status : PL_status := by
  intro σ μ x1 N hN hrel
  obtain ⟨hc, hk, hf, hs, ht, ha, hwd⟩ := hrel
  obtain ⟨r, h1, h2⟩ := q_status hc.1 hc.2.1 hc.2.2 hf hs ht x1
  exact ⟨r, r, h1, h2, rfl, hc, hk, hf, hs, ht, ha, up hwd⟩
theorem ofKind_loop (hc : RC te st m) (hn : bnd (m 32) 0 8) (x : Int32) {c : Nat} (hc8 : c ≤ 8) (ec : m 32 = nI c) : ∀ (r f i : Nat) (v : Int32), i + r = c → r < f → ∃ y, zf_X7_ofKind_20 st f x v (nI i) rf = some (y, rf) ∧ zf_X8_ofKind_23 m f x v (nI i) rfd = some (y, rfd)
  | _, 0, _, _, _, h => absurd h (Nat.not_lt_zero _)
  | 0, f + 1, i, v, h0, _ => by
    have e : i = c := by omega
    subst e
    unfold zf_X7_ofKind_20 zf_X8_ofKind_23 zf_X8_many
    rw [(RC_SM hc).1, ec, Option.bind_some, if_pos (i_le.mpr (Int.le_refl _)), if_pos (i_le.mpr (Int.le_refl _))]
    exact ⟨_, rfl, rfl⟩
  | r + 1, f + 1, i, v, h0, hf => by
    have hk : nI i < m 32 := by rw [ec]; exact (nIlt (by omega) (by omega)).mpr (by omega)
    have hq : ¬ m 32 ≤ nI i := fun q => by have := i_lt.mp hk; have := i_le.mp q; omega
    unfold zf_X7_ofKind_20 zf_X8_ofKind_23 zf_X8_many zf_X7_ofKind_46 zf_X8_ofKind_46
    rw [(RC_SM hc).1, Option.bind_some, if_neg hq, if_neg hq, kind7 (RC_SM hc) hn (by omega) hk, kind8 (by omega), Option.bind_some, Option.bind_some, nI_1]
    by_cases e : m (4 * i) = x
    · rw [if_pos e, if_pos e]
      exact ofKind_loop hc hn x hc8 ec r f (i + 1) _ (by omega) (by omega)
    · rw [if_neg e, if_neg e, show v + bI false = v from Int32.add_zero v]
      exact ofKind_loop hc hn x hc8 ec r f (i + 1) _ (by omega) (by omega)
theorem q_ofKind (hc : RC te st m) (hr : RNG m) (hf : RF rf rfd) (x1 : Int32) : ∃ r1 r2, zf_X7_ofKind x1 st rf = some r1 ∧ zf_X8_ofKind x1 rfd m = some r2 ∧ r1.1 = r2.1 ∧ RF r1.2 r2.2 := by
  unfold zf_X7_ofKind zf_X8_ofKind
  rw [win7, win8 (a := 0) (b := 5) (by decide) (by decide), Option.bind_some, Option.bind_some]
  cases h1 : win x1 0 5
  · rw [r7_2, r8_2]
    exact ⟨_, _, rfl, rfl, rfl, rf_2 hf⟩
  · obtain ⟨c, -, hc8, ec⟩ := hr.1
    obtain ⟨y, k1, k2⟩ := ofKind_loop (rf := rf) (rfd := rfd) hc hr.1 x1 hc8 ec c FU 0 0 (by omega) (by show c < 2000; omega)
    exact ⟨_, _, k1, k2, rfl, hf⟩
theorem pl_ofKind : PL_ofKind := by
  intro σ μ x1 N hN hrel
  obtain ⟨hc, hk, hf, hs, ht, ha, hwd⟩ := hrel
  obtain ⟨r1, r2, h1, h2, h3, h4⟩ := q_ofKind hc.1 hc.2.1 hf x1
  exact ⟨r1, r2, h1, h2, h3, hc, hk, h4, hs, ht, ha, up hwd⟩
