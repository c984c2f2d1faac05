/-! pictures of the objects, and more rows -/
abbrev TTe : Type := Int32 × Int32 × Int32 × Int32 × Int32 × Bool × Int32
abbrev TSt : Type := Int32 × (Nat → Int32) × (Nat → Int32) × (Nat → Int32) × (Nat → Int32)
abbrev TTy : Type := Int32 × Int32 × Int32
abbrev TTa : Type := Int32 × (Nat → Int32) × Int32 × Int32 × Int32 × Int32
abbrev TWa : Type := TTe × Int32 × Int32 × Int32 × Int32 × Int32 × Int32 × Int32 × Int32
abbrev TSh : Type := (Nat → Int32) × (Nat → Int32) × (Nat → Nat → Int64)
abbrev TSe : Type := Int32 × Int32 × Bool × (Nat → Int32) × (Nat → Int32) × (Nat → TTe)
abbrev xTe (a : Nat) (t : TTe) : Nat × va_E := (a, .inr (5, [.int t.1, .int t.2.1, .int t.2.2.1, .int t.2.2.2.1, .int t.2.2.2.2.1, .int (bI t.2.2.2.2.2.1), .int t.2.2.2.2.2.2]))
abbrev xSt (a b1 b2 b3 b4 : Nat) (n : Int32) : Nat × va_E := (a, .inr (2, [.int n, .ref b1, .ref b2, .ref b3, .ref b4]))
abbrev xTy (a : Nat) (t : TTy) : Nat × va_E := (a, .inr (3, [.int t.1, .int t.2.1, .int t.2.2]))
abbrev xTa (a b : Nat) (n1 n2 n3 n4 n5 : Int32) : Nat × va_E := (a, .inr (4, [.int n1, .ref b, .int n2, .int n3, .int n4, .int n5]))
abbrev xWa (a b : Nat) (n1 n2 n3 n4 n5 n6 n7 n8 : Int32) : Nat × va_E := (a, .inr (6, [.ref b, .int n1, .int n2, .int n3, .int n4, .int n5, .int n6, .int n7, .int n8]))
abbrev xSh (a b1 b2 b3 : Nat) : Nat × va_E := (a, .inr (1, [.ref b1, .ref b2, .ref b3]))
abbrev xSe (a b1 b2 b3 : Nat) (n1 n2 : Int32) (f : Bool) : Nat × va_E := (a, .inr (0, [.int n1, .int n2, .int (bI f), .ref b1, .ref b2, .ref b3]))
abbrev xI (cy : Nat → ClassId) (a n : Nat) (f : Nat → Int32) : Nat × va_E := (a, .inl (cy 0, n, .inl f))
abbrev xJ (cy : Nat → ClassId) (a n : Nat) (f : Nat → Int64) : Nat × va_E := (a, .inl (cy 1, n, .inr (.inl f)))
abbrev xZ (cy : Nat → ClassId) (a n : Nat) (f : Nat → Int32) : Nat × va_E := (a, .inl (cy 2, n, .inl f))
abbrev xC (cy : Nat → ClassId) (a n : Nat) (f : Nat → Int32) : Nat × va_E := (a, .inl (cy 3, n, .inl f))
abbrev xRT (cy : Nat → ClassId) (a n : Nat) (f : Nat → Option Nat) : Nat × va_E := (a, .inl (cy 4, n, .inr (.inr (.inr (.inr f)))))
abbrev xRJ (cy : Nat → ClassId) (a n : Nat) (f : Nat → Option Nat) : Nat × va_E := (a, .inl (cy 5, n, .inr (.inr (.inr (.inr f)))))
abbrev xU (L : Nat → Nat) (s k : Int32) (z : Bool) : Nat × va_E := (L 0, .inr (7, [.ref (L 1), .ref (L 2), .ref (L 3), .ref (L 4), .ref (L 5), .ref (L 10), .ref (L 15), .ref (L 20), .ref (L 32), .ref (L 34), .ref (L 36), .ref (L 45), .ref (L 46), .ref (L 47), .ref (L 48), .int s, .int k, .int (bI z)]))
abbrev xM (M : Nat → Nat) (z : Bool) (n1 n2 n3 n4 : Int32) (z2 : Bool) (n5 n6 n7 n8 : Int32) (j1 j2 : Int64) : Nat × va_E := (M 0, .inr (8, [.ref (M 1), .ref (M 2), .ref (M 3), .ref (M 4), .int (bI z), .ref (M 5), .int n1, .int n2, .int n3, .int n4, .ref (M 6), .int (bI z2), .ref (M 7), .ref (M 8), .ref (M 9), .ref (M 10), .ref (M 11), .ref (M 12), .int n5, .int n6, .ref (M 13), .int n7, .int n8, .ref (M 14), .long j1, .long j2]))
/-- more turns than any loop takes -/
def FU : Nat := 2000
theorem i32_ne {x K : Int32} {n : Int} (hK : K.toInt = n) (q : ¬ x = K) : x.toInt ≠ n := fun h => q (Int32.toInt_inj.mp (h.trans hK.symm))
theorem ck0 {α : Type} {y : Int32} {x : Option α} {r : α} (h : (if y = 0 then none else x) = some r) : ¬ y = 0 ∧ x = some r := by
  by_cases q : y = 0
  · rw [if_pos q] at h; cases h
  · rw [if_neg q] at h; exact ⟨q, h⟩
theorem ck0l {α : Type} {y : Int64} {x : Option α} {r : α} (h : (if y = 0 then none else x) = some r) : ¬ y = 0 ∧ x = some r := by
  by_cases q : y = 0
  · rw [if_pos q] at h; cases h
  · rw [if_neg q] at h; exact ⟨q, h⟩
theorem zn_X0 : plainName RX0 = true := by decide +kernel
theorem zn_X1 : plainName RX1 = true := by decide +kernel
theorem zn_X2 : plainName RX2 = true := by decide +kernel
theorem zn_X3 : plainName RX3 = true := by decide +kernel
theorem zn_X4 : plainName RX4 = true := by decide +kernel
theorem zn_X5 : plainName RX5 = true := by decide +kernel
theorem zn_X6 : plainName RX6 = true := by decide +kernel
theorem zn_X7 : plainName RX7 = true := by decide +kernel
theorem zn_X8 : plainName RX8 = true := by decide +kernel
/-- cells put at their places, one pass -/
def zsel : va_W → List (Option (Nat × va_E)) → va_W
  | x :: xs, none :: ms => x :: zsel xs ms
  | _ :: xs, some y :: ms => y :: zsel xs ms
  | xs, [] => xs
  | [], _ => []
def zmk (isC : List Nat) : Nat → List (Option (Nat × va_E)) → Bool
  | i, none :: ms => zmk isC (i + 1) ms
  | i, some _ :: ms => isC.contains i && zmk isC (i + 1) ms
  | _, [] => true
theorem zsel_at {isC : List Nat} : ∀ (ms : List (Option (Nat × va_E))) (w : va_W) (i : Nat), zmk isC i ms = true → ∀ k, (i + k) ∉ isC → (zsel w ms)[k]? = w[k]?
  | [], w, i, _, k, _ => by cases w <;> rfl
  | none :: ms, [], i, _, k, _ => rfl
  | some y :: ms, [], i, _, k, _ => rfl
  | none :: ms, x :: xs, i, h, 0, _ => rfl
  | none :: ms, x :: xs, i, h, k + 1, hk => by
    have := zsel_at ms xs (i + 1) h k (by rw [Nat.add_assoc, Nat.add_comm 1 k]; exact hk)
    simpa [zsel] using this
  | some y :: ms, x :: xs, i, h, 0, hk => by
    simp only [zmk, Bool.and_eq_true, List.contains_iff_mem] at h
    exact absurd h.1 hk
  | some y :: ms, x :: xs, i, h, k + 1, hk => by
    simp only [zmk, Bool.and_eq_true] at h
    have := zsel_at ms xs (i + 1) h.2 k (by rw [Nat.add_assoc, Nat.add_comm 1 k]; exact hk)
    simpa [zsel] using this
section ZA
variable {p : Program} {l : Launch} {e : Env} {R : Room} {s : State} {m : MethodId} {args : Array Value} {below : List Frame} {meth : Method} {c : Code} {H : Heap} {locs : List Loc} {cells slots : Nat} {Q : State → Prop} {cc : ByteArray} {pc nL : Nat} {ls : Array Slot} {rest : List Value} {G : va_G} {cy : Nat → ClassId} {tt : Nat → Nat} {A : Nat → Prop} {a : Nat} {w w' wc wc' : va_W} {own : String}
theorem zk_af {o : Option Value} {st0 st1 : List Value} (hst1 : o.toList ++ rest = st1) (C : zCx p m c s args meth cc nL own G cy tt A) (hw : zWd G A s.heap H locs w) (isC : List Nat) (hC : isC.map (fun i => w[i]?) = wc.map some) (hC' : isC.map (fun i => w'[i]?) = wc'.map some) {mk : List (Option (Nat × va_E))} (hput : zsel w mk = w') (hmk : zmk isC 0 mk = true) (hadr : w'.map (fun q => q.1) = w.map (fun q => q.1))
    {av : Array Value} (hr : va_Run p l e R s m args below meth c H locs cells slots 0 0 (F0 m pc ls st0) rest (zQ G o wc' (va_A wc H.size) av) (va_A wc H.size))
    (kk : ∀ (H : Heap) (locs : List Loc), zWd G A s.heap H locs w' → W p l e R s m args below meth c H locs cells slots Q (F0 m (pc + 3) ls st1)) : W p l e R s m args below meth c H locs cells slots Q (F0 m pc ls st0) := by
  subst hst1
  obtain ⟨hP, hD, hS⟩ := hw
  have hF := va_free (wc := wc) hD hS C.2.2.2.2.2 isC hC
  intro T hT X
  obtain ⟨v, st₀, t, T', L, h0, X', hL, e1, e2, ⟨hv, hP1, hD1, hz, hk⟩, st⟩ := hr T hT X
  cases hv
  rw [h0] at hz hk
  rw [← e1] at hP1 hz hk
  have at' : ∀ (k : Nat) (q : Nat × va_E), wc[k]? = some q → ∃ i, isC[k]? = some i ∧ w[i]? = some q := by
    intro k q hq
    have h1 : (isC.map (fun i => w[i]?))[k]? = some (some q) := by rw [hC, List.getElem?_map, hq]; rfl
    rw [List.getElem?_map] at h1
    cases hi : isC[k]? with
    | none => rw [hi] at h1; cases h1
    | some i => rw [hi] at h1; exact ⟨i, rfl, Option.some.inj h1⟩
  have hPn : va_P G vwCl w' T'.heap := by
    intro k q hq
    by_cases hi : k ∈ isC
    · obtain ⟨j, hj⟩ := List.getElem?_of_mem hi
      have h1 : (isC.map (fun i => w'[i]?))[j]? = some (some q) := by rw [List.getElem?_map, hj]; exact congrArg some hq
      rw [hC', List.getElem?_map] at h1
      cases hx : wc'[j]? with
      | none => rw [hx] at h1; cases h1
      | some x =>
        rw [hx] at h1
        have e9 : x = q := Option.some.inj (Option.some.inj h1)
        subst e9
        exact hP1 j x hx
    · have hq : w[k]? = some q := by
        rw [← zsel_at mk w 0 hmk k (by rw [Nat.zero_add]; exact hi), hput]
        exact hq
      refine (hP k q hq).kept (hk q.1 (hP k q hq).lt (fun h => ?_))
      rcases h with ⟨k2, e9, h⟩ | h
      · obtain ⟨j, h3, h4⟩ := at' k2 (q.1, e9) h
        have hij := hD.1 k j q (q.1, e9) hq h4 rfl
        subst hij
        exact hi (List.mem_of_getElem? h3)
      · have := (hP k q hq).lt
        omega
  obtain ⟨t2, a1, b1⟩ := kk T'.heap (locs ++ L) ⟨hPn, zput_D hD hadr, ⟨Nat.le_trans hS.1 hz, fun q h1 h2 => by rw [hk q (Nat.lt_of_lt_of_le h1 hS.1) (fun z => h2 (hF q z))]; exact hS.2.1 q h1 h2, fun q hq => by
      rcases List.mem_append.mp hq with h | h
      · exact hS.2.2 q h
      · exact hF _ (hL q h)⟩⟩ T' rfl X'
  exact ⟨t2, st t2 a1, b1⟩
variable {y : MethodName} {bytes : ByteArray} {maxL n idx : Nat} {ret : Option FieldType} {rm : Room} {o : Option Value} {b : Nat} {As : List Value}
theorem zk_cV {C0 : String} {ci q0 : Nat} {q : vw_C} {fs : List Value} (C : zCx p m c s args meth cc nL own G cy tt A) (hw : zWd G A s.heap H locs w) (hM : zCT l y bytes maxL ret rm G cy tt (.ref b :: As) wc o wc') (hY : zMY C0 y bytes maxL ret n) (hlink : Cond.methodLink own idx y ∈ zTB)
    (hcl : vwCl[ci]? = some q) (hq : q.1 = C0) (he : w[q0]? = some (b, .inr (ci, fs))) (isC : List Nat) (hC : isC.map (fun i => w[i]?) = wc.map some) (hnd : va_nd isC = true) (hC' : isC.map (fun i => w'[i]?) = wc'.map some) {mk : List (Option (Nat × va_E))} (hput : zsel w mk = w') (hmk : zmk isC 0 mk = true) (hadr : w'.map (fun q => q.1) = w.map (fun q => q.1))
    {st0 st1 : List Value} (hst : st0 = As.reverse ++ .ref b :: rest) (hst1 : o.toList ++ rest = st1) (hl : ls.size = nL) (hrm : rm.cells = 0 ∧ rm.slots = 0) (hR : rm.frames + 1 ≤ R.frames ∧ 8 + (maxL + 11) + rm.locals ≤ R.locals) (hn : As.length = n) (hroom : (rest.map fun v => v.category).sum ≤ 8) (hcs : cells ≤ R.cells ∧ slots ≤ R.slots) (hdg : decode cc pc = .ok (.invokevirtual idx, 3))
    (kk : ∀ (H : Heap) (locs : List Loc), zWd G A s.heap H locs w' → W p l e R s m args below meth c H locs cells slots Q (F0 m (pc + 3) ls st1)) : W p l e R s m args below meth c H locs cells slots Q (F0 m pc ls st0) := by
  obtain ⟨y1, y2, y3, y4, y5⟩ := hY
  have hts := C.1.2.2.2.2
  have hpre := zk_pre (av := .ref b :: As) C hw isC hC hnd
  have hrc := va_recv C.2.2.1 hw.1 hcl he
  rw [hq] at hrc
  exact zk_af hst1 C hw isC hC hC' hput hmk hadr (va_runV (C := C0) (n := n) (Ts := zTB) C.1 (hM H.size) ⟨callB_of n hts (zt_inT y4) rfl hrm.1 hrm.2 (hts _ y3) (hts _ hlink) y5 hR, hts _ y1, hts _ y2⟩ ⟨hpre.1, hrc, hpre.2⟩ rfl hn hl hst (lv_room hroom) hdg hcs) kk
theorem zk_cVN {C0 host : String} {ci q0 : Nat} {q : vw_C} {fs : List Value} (C : zCx p m c s args meth cc nL own G cy tt A) (hw : zWd G A s.heap H locs w) (hM : zCT l y bytes maxL ret rm G cy tt (.ref b :: As) wc o wc') (hY : zMY C0 y bytes maxL ret n) (hlink : Cond.methodLinkNest own idx y host ∈ zNL)
    (hcl : vwCl[ci]? = some q) (hq : q.1 = C0) (he : w[q0]? = some (b, .inr (ci, fs))) (isC : List Nat) (hC : isC.map (fun i => w[i]?) = wc.map some) (hnd : va_nd isC = true) (hC' : isC.map (fun i => w'[i]?) = wc'.map some) {mk : List (Option (Nat × va_E))} (hput : zsel w mk = w') (hmk : zmk isC 0 mk = true) (hadr : w'.map (fun q => q.1) = w.map (fun q => q.1))
    {st0 st1 : List Value} (hst : st0 = As.reverse ++ .ref b :: rest) (hst1 : o.toList ++ rest = st1) (hl : ls.size = nL) (hrm : rm.cells = 0 ∧ rm.slots = 0) (hR : rm.frames + 1 ≤ R.frames ∧ 8 + (maxL + 11) + rm.locals ≤ R.locals) (hn : As.length = n) (hroom : (rest.map fun v => v.category).sum ≤ 8) (hcs : cells ≤ R.cells ∧ slots ≤ R.slots) (hdg : decode cc pc = .ok (.invokevirtual idx, 3))
    (kk : ∀ (H : Heap) (locs : List Loc), zWd G A s.heap H locs w' → W p l e R s m args below meth c H locs cells slots Q (F0 m (pc + 3) ls st1)) : W p l e R s m args below meth c H locs cells slots Q (F0 m pc ls st0) := by
  obtain ⟨y1, y2, y3, y4, y5⟩ := hY
  have hts := C.1.2.2.2.2
  have hpre := zk_pre (av := .ref b :: As) C hw isC hC hnd
  have hrc := va_recv C.2.2.1 hw.1 hcl he
  rw [hq] at hrc
  exact zk_af hst1 C hw isC hC hC' hput hmk hadr (va_runVN (C := C0) (n := n) (Ts := zTB) C.1 (hM H.size) ⟨va_cnB n hts (zt_inT y4) rfl hrm.1 hrm.2 (C.2.2.2.1 _ hlink) (hts _ y3) y5 hR, hts _ y1, hts _ y2⟩ ⟨hpre.1, hrc, hpre.2⟩ rfl hn hl hst (lv_room hroom) hdg hcs) kk
theorem zk_cS (C : zCx p m c s args meth cc nL own G cy tt A) (hw : zWd G A s.heap H locs w) (hM : zCT l y bytes maxL ret rm G cy tt As wc o wc') (hY : zMS y bytes maxL ret n) (hlink : Cond.methodLink own idx y ∈ zTB)
    (isC : List Nat) (hC : isC.map (fun i => w[i]?) = wc.map some) (hnd : va_nd isC = true) (hC' : isC.map (fun i => w'[i]?) = wc'.map some) {mk : List (Option (Nat × va_E))} (hput : zsel w mk = w') (hmk : zmk isC 0 mk = true) (hadr : w'.map (fun q => q.1) = w.map (fun q => q.1))
    {st0 st1 : List Value} (hst : st0 = As.reverse ++ rest) (hst1 : o.toList ++ rest = st1) (hl : ls.size = nL) (hrm : rm.cells = 0 ∧ rm.slots = 0) (hR : rm.frames + 1 ≤ R.frames ∧ 8 + (maxL + 11) + rm.locals ≤ R.locals) (hn : As.length = n) (hroom : (rest.map fun v => v.category).sum ≤ 8) (hcs : cells ≤ R.cells ∧ slots ≤ R.slots) (hdg : decode cc pc = .ok (.invokestatic idx, 3))
    (kk : ∀ (H : Heap) (locs : List Loc), zWd G A s.heap H locs w' → W p l e R s m args below meth c H locs cells slots Q (F0 m (pc + 3) ls st1)) : W p l e R s m args below meth c H locs cells slots Q (F0 m pc ls st0) := by
  obtain ⟨y1, y3, y4, y5⟩ := hY
  have hts := C.1.2.2.2.2
  have hpre := zk_pre (av := As) C hw isC hC hnd
  exact zk_af hst1 C hw isC hC hC' hput hmk hadr (va_runS (n := n) (Ts := zTB) C.1 (hM H.size) ⟨callB_of n hts (zt_inT y4) rfl hrm.1 hrm.2 (hts _ y3) (hts _ hlink) y5 hR, hts _ y1⟩ ⟨hpre.1, hpre.2⟩ rfl hn hl hst (lv_room hroom) hdg hcs) kk
theorem zk_cSN {host : String} (C : zCx p m c s args meth cc nL own G cy tt A) (hw : zWd G A s.heap H locs w) (hM : zCT l y bytes maxL ret rm G cy tt As wc o wc') (hY : zMS y bytes maxL ret n) (hlink : Cond.methodLinkNest own idx y host ∈ zNL)
    (isC : List Nat) (hC : isC.map (fun i => w[i]?) = wc.map some) (hnd : va_nd isC = true) (hC' : isC.map (fun i => w'[i]?) = wc'.map some) {mk : List (Option (Nat × va_E))} (hput : zsel w mk = w') (hmk : zmk isC 0 mk = true) (hadr : w'.map (fun q => q.1) = w.map (fun q => q.1))
    {st0 st1 : List Value} (hst : st0 = As.reverse ++ rest) (hst1 : o.toList ++ rest = st1) (hl : ls.size = nL) (hrm : rm.cells = 0 ∧ rm.slots = 0) (hR : rm.frames + 1 ≤ R.frames ∧ 8 + (maxL + 11) + rm.locals ≤ R.locals) (hn : As.length = n) (hroom : (rest.map fun v => v.category).sum ≤ 8) (hcs : cells ≤ R.cells ∧ slots ≤ R.slots) (hdg : decode cc pc = .ok (.invokestatic idx, 3))
    (kk : ∀ (H : Heap) (locs : List Loc), zWd G A s.heap H locs w' → W p l e R s m args below meth c H locs cells slots Q (F0 m (pc + 3) ls st1)) : W p l e R s m args below meth c H locs cells slots Q (F0 m pc ls st0) := by
  obtain ⟨y1, y3, y4, y5⟩ := hY
  have hts := C.1.2.2.2.2
  have hpre := zk_pre (av := As) C hw isC hC hnd
  exact zk_af hst1 C hw isC hC hC' hput hmk hadr (va_runSN (n := n) (Ts := zTB) C.1 (hM H.size) ⟨va_cnB n hts (zt_inT y4) rfl hrm.1 hrm.2 (C.2.2.2.1 _ hlink) (hts _ y3) y5 hR, hts _ y1, trivial⟩ ⟨hpre.1, hpre.2⟩ rfl hn hl hst (lv_room hroom) hdg hcs) kk
end ZA
section ZR
variable {p : Program} {l : Launch} {e : Env} {R : Room} {s : State} {m : MethodId} {args : Array Value} {below : List Frame} {meth : Method} {c : Code} {H : Heap} {locs : List Loc} {cells slots : Nat} {Q : State → Prop} {cc : ByteArray} {pc nL idx : Nat} {ls : Array Slot} {rest : List Value} {G : va_G} {cy : Nat → ClassId} {tt : Nat → Nat} {A : Nat → Prop} {a : Nat} {w w' wc wc' : va_W} {own : String}
theorem zk_ialdK {n : Nat} {f : Nat → Int32} {i : Int32} (k : Nat) (hk : i.toNatClampNeg = k) (C : zCx p m c s args meth cc nL own G cy tt A) (hw : zWd G A s.heap H locs w) (q0 : Nat) (ha : w[q0]? = some (a, .inl (cy 0, n, .inl f))) (hin : ix i n = true) (hdg : decode cc pc = .ok (.iaload, 1))
    (kk : W p l e R s m args below meth c H locs cells slots Q (F0 m (pc + 1) ls (.int (f k) :: rest))) : W p l e R s m args below meth c H locs cells slots Q (F0 m pc ls (.int i :: .ref a :: rest)) := by
  subst hk
  exact zk_iald C hw q0 ha hin hdg kk
theorem zk_iastK {n : Nat} {f : Nat → Int32} {i x : Int32} (k : Nat) (hk : i.toNatClampNeg = k) (C : zCx p m c s args meth cc nL own G cy tt A) (hw : zWd G A s.heap H locs w) (q0 : Nat) (ha : w[q0]? = some (a, .inl (cy 0, n, .inl f))) (hin : ix i n = true) (hset : w.set q0 (a, .inl (cy 0, n, .inl (upd f k x))) = w') (hdg : decode cc pc = .ok (.iastore, 1))
    (kk : ∀ (H : Heap) (locs : List Loc), zWd G A s.heap H locs w' → W p l e R s m args below meth c H locs cells slots Q (F0 m (pc + 1) ls rest)) : W p l e R s m args below meth c H locs cells slots Q (F0 m pc ls (.int x :: .int i :: .ref a :: rest)) := by
  subst hk
  exact zk_iast C hw q0 ha hin hset hdg kk
theorem zk_tabIn {x K : Int32} {dflt lo hi : Int} {offs : Array Int} {len : Nat} {off : Int} {tgt : Nat} (q : x = K) (C : zCx p m c s args meth cc nL own G cy tt A) (hdg : decode cc pc = .ok (.tableswitch dflt lo hi offs, len)) (h1 : ¬ K.toInt < lo) (h2 : ¬ hi < K.toInt) (ho : offs[(K.toInt - lo).toNat]? = some off) (ht : (pc : Int) + off = (tgt : Int))
    (k : W p l e R s m args below meth c H locs cells slots Q (F0 m tgt ls rest)) : W p l e R s m args below meth c H locs cells slots Q (F0 m pc ls (.int x :: rest)) := by
  subst q
  exact lv_tableIn C.1.1 C.1.2.1 hdg h1 h2 ho ht k
theorem zk_lkIn {x K : Int32} {dflt : Int} {ps : Array (Int × Int)} {len : Nat} {off : Int} {tgt : Nat} (q : x = K) (C : zCx p m c s args meth cc nL own G cy tt A) (hdg : decode cc pc = .ok (.lookupswitch dflt ps, len)) (hp : (ps.toList.zip (ps.toList.drop 1)).all (fun (a, next) => a.1 < next.1) = true) (ho : Op.lookupswitch.offset ps.toList dflt K.toInt = off) (ht : (pc : Int) + off = (tgt : Int))
    (k : W p l e R s m args below meth c H locs cells slots Q (F0 m tgt ls rest)) : W p l e R s m args below meth c H locs cells slots Q (F0 m pc ls (.int x :: rest)) := by
  subst q
  exact lv_lookup C.1.1 C.1.2.1 hdg hp ho ht k
theorem zk_max {x y : Int32} (C : zCx p m c s args meth cc nL own G cy tt A) (hl : ls.size = nL) (hlink : Cond.methodLink own idx Lib.Math.max.name ∈ zTB) (hR : 1 ≤ R.frames ∧ (rest.map fun v => v.category).sum + 13 ≤ R.locals) (hcs : cells ≤ R.cells ∧ slots ≤ R.slots) (hdg : decode cc pc = .ok (.invokestatic idx, 3))
    (kk : W p l e R s m args below meth c H locs cells slots Q (F0 m (pc + 3) ls (.int (if x < y then y else x) :: rest))) : W p l e R s m args below meth c H locs cells slots Q (F0 m pc ls (.int y :: .int x :: rest)) :=
  va_mmax C.1.1 C.1.2.1 (C.1.2.2.1.trans hl.symm) C.1.2.2.2.1 (C.1.2.2.2.2 _ hlink) (C.1.2.2.2.2 _ (zt_mem 494 (by decide +kernel) (by decide +kernel))) (C.1.2.2.2.2 _ (zt_mem 90 (by decide +kernel) (by decide +kernel))) (C.1.2.2.2.2 _ (zt_mem 495 (by decide +kernel) (by decide +kernel))) hR.1 hR.2 hcs.1 hcs.2 hdg kk
theorem zk_min {x y : Int32} (C : zCx p m c s args meth cc nL own G cy tt A) (hl : ls.size = nL) (hlink : Cond.methodLink own idx Lib.Math.min.name ∈ zTB) (hR : 1 ≤ R.frames ∧ (rest.map fun v => v.category).sum + 13 ≤ R.locals) (hcs : cells ≤ R.cells ∧ slots ≤ R.slots) (hdg : decode cc pc = .ok (.invokestatic idx, 3))
    (kk : W p l e R s m args below meth c H locs cells slots Q (F0 m (pc + 3) ls (.int (if y < x then y else x) :: rest))) : W p l e R s m args below meth c H locs cells slots Q (F0 m pc ls (.int y :: .int x :: rest)) :=
  va_mmin C.1.1 C.1.2.1 (C.1.2.2.1.trans hl.symm) C.1.2.2.2.1 (C.1.2.2.2.2 _ hlink) (C.1.2.2.2.2 _ (zt_mem 491 (by decide +kernel) (by decide +kernel))) (C.1.2.2.2.2 _ (zt_mem 90 (by decide +kernel) (by decide +kernel))) (C.1.2.2.2.2 _ (zt_mem 492 (by decide +kernel) (by decide +kernel))) hR.1 hR.2 hcs.1 hcs.2 hdg kk
theorem zk_sti {N : Nat} {f : Nat → Int32} {i : Int32} {t : Nat} (C : zCx p m c s args meth cc nL own G cy tt A) (hw : zWd G A s.heap H locs w) (hT : va_T .int t N (fun j => .int (f j)) A s s.heap) (hin : ix i N = true) (hdg : decode cc pc = .ok (.iaload, 1))
    (kk : W p l e R s m args below meth c H locs cells slots Q (F0 m (pc + 1) ls (.int (f i.toNatClampNeg) :: rest))) : W p l e R s m args below meth c H locs cells slots Q (F0 m pc ls (.int i :: .ref t :: rest)) :=
  va_ti C.1.1 C.1.2.1 hT hw.2.2 (ix_in hin) rfl hdg kk
theorem zk_stl {N : Nat} {f : Nat → Value} {v : Int32} {t : Nat} (C : zCx p m c s args meth cc nL own G cy tt A) (hw : zWd G A s.heap H locs w) (hT : va_T .int t N f A s s.heap) (hv : Int32.ofNat N = v) (hdg : decode cc pc = .ok (.arraylength, 1))
    (kk : W p l e R s m args below meth c H locs cells slots Q (F0 m (pc + 1) ls (.int v :: rest))) : W p l e R s m args below meth c H locs cells slots Q (F0 m pc ls (.ref t :: rest)) :=
  va_tlen C.1.1 C.1.2.1 hT hw.2.2 hv hdg kk
theorem zk_gt {ci k : Nat} {fs : List Value} {v : Value} (C : zCx p m c s args meth cc nL own G cy tt A) (hw : zWd G A s.heap H locs w) (hL : zFL own idx ci k) (q0 : Nat) (he : w[q0]? = some (a, .inr (ci, fs))) (hv : fs[k]? = some v) (hdg : decode cc pc = .ok (.getfield idx, 3))
    (kk : W p l e R s m args below meth c H locs cells slots Q (F0 m (pc + 3) ls (v :: rest))) : W p l e R s m args below meth c H locs cells slots Q (F0 m pc ls (.ref a :: rest)) := zk_get (q0 := 0) C hw hL q0 he hv hdg kk
theorem zk_aaldT {n a' : Nat} {f : Nat → Option Nat} {i : Int32} (k : Nat) (hk : i.toNatClampNeg = k) (C : zCx p m c s args meth cc nL own G cy tt A) (hw : zWd G A s.heap H locs w) (q0 : Nat) (ha : w[q0]? = some (a, .inl (cy 4, n, .inr (.inr (.inr (.inr f)))))) (hin : ix i n = true) (hf : f k = some a') (hdg : decode cc pc = .ok (.aaload, 1))
    (kk : W p l e R s m args below meth c H locs cells slots Q (F0 m (pc + 1) ls (.ref a' :: rest))) : W p l e R s m args below meth c H locs cells slots Q (F0 m pc ls (.int i :: .ref a :: rest)) := by
  subst hk
  refine va_aldq C.1.1 C.1.2.1 C.2.2.1 hw.1 q0 4 ha rfl (ix_in hin) hdg ?_
  rw [hf]
  exact kk
theorem zk_aaldJ {n a' : Nat} {f : Nat → Option Nat} {i : Int32} (k : Nat) (hk : i.toNatClampNeg = k) (C : zCx p m c s args meth cc nL own G cy tt A) (hw : zWd G A s.heap H locs w) (q0 : Nat) (ha : w[q0]? = some (a, .inl (cy 5, n, .inr (.inr (.inr (.inr f)))))) (hin : ix i n = true) (hf : f k = some a') (hdg : decode cc pc = .ok (.aaload, 1))
    (kk : W p l e R s m args below meth c H locs cells slots Q (F0 m (pc + 1) ls (.ref a' :: rest))) : W p l e R s m args below meth c H locs cells slots Q (F0 m pc ls (.int i :: .ref a :: rest)) := by
  subst hk
  have hi := ix_in hin
  have hlt : i.toNatClampNeg < n := Nat.not_le.mp fun q => hi (Or.inr q)
  refine W.aald (v := va_rf (f i.toNatClampNeg)) (ty := .array .long) C.1.1 C.1.2.1 (hw.1 q0 _ ha) ((C.2.2.1.2 5 _ rfl).1 n (fun j => va_rf (f j))) rfl (fun q => by cases q) (by show ¬ (i < 0 ∨ (arrV _ _ _).slots.size ≤ _); rw [arrV_size]; exact hi) (by show (arrV _ _ _).slots[_]? = _; rw [arrV_read _ _ hlt]) rfl rfl hdg ?_
  rw [hf]
  exact kk
theorem ix8 {i : Int32} (h : ix i 8 = true) : i.toNatClampNeg = 0 ∨ i.toNatClampNeg = 1 ∨ i.toNatClampNeg = 2 ∨ i.toNatClampNeg = 3 ∨ i.toNatClampNeg = 4 ∨ i.toNatClampNeg = 5 ∨ i.toNatClampNeg = 6 ∨ i.toNatClampNeg = 7 := by
  have hi := ix_in h
  have hlt : i.toNatClampNeg < 8 := Nat.not_le.mp fun q => hi (Or.inr q)
  omega
/-- arraycopy stays within both rows -/
def cpOk (sp dp n : Int32) (n0 n1 : Nat) : Bool := decide (0 ≤ sp.toInt ∧ 0 ≤ dp.toInt ∧ 0 ≤ n.toInt ∧ sp.toInt + n.toInt ≤ n0 ∧ dp.toInt + n.toInt ≤ n1)
theorem zk_copyJ {n0 n1 a0 : Nat} {f g : Nat → Int64} {sp dp n : Int32} (C : zCx p m c s args meth cc nL own G cy tt A) (hw : zWd G A s.heap H locs w) (hl : ls.size = nL) (hlink : Cond.methodLink own idx arraycopyName ∈ zTB) (q0 q1 : Nat) (ha0 : w[q0]? = some (a0, .inl (cy 1, n0, .inr (.inl f)))) (ha1 : w[q1]? = some (a, .inl (cy 1, n1, .inr (.inl g)))) (hok : cpOk sp dp n n0 n1 = true)
    (hR : 1 ≤ R.frames ∧ (rest.map fun v => v.category).sum + (nativeFrameWords "java/lang/System" "arraycopy" 5 + 11) ≤ R.locals) (hset : w.set q1 (a, .inl (cy 1, n1, .inr (.inl (va_cpy f g sp.toNatClampNeg dp.toNatClampNeg n.toNatClampNeg)))) = w') (hdg : decode cc pc = .ok (.invokestatic idx, 3))
    (kk : ∀ (H : Heap) (locs : List Loc), zWd G A s.heap H locs w' → W p l e R s m args below meth c H locs cells slots Q (F0 m (pc + 3) ls rest)) : W p l e R s m args below meth c H locs cells slots Q (F0 m pc ls (.int n :: .int dp :: .ref a :: .int sp :: .ref a0 :: rest)) := by
  obtain ⟨k1, k2, k3, k4, k5⟩ : 0 ≤ sp.toInt ∧ 0 ≤ dp.toInt ∧ 0 ≤ n.toInt ∧ sp.toInt + n.toInt ≤ n0 ∧ dp.toInt + n.toInt ≤ n1 := of_decide_eq_true hok
  have nn : ∀ z : Int32, 0 ≤ z.toInt → z.toInt = (z.toNatClampNeg : Int) := fun z hz => by
    show z.toInt = ((z.toInt.toNat : Nat) : Int)
    omega
  have ng : ∀ z : Int32, 0 ≤ z.toInt → ¬ z < 0 := fun z hz h => by
    have h := Int32.lt_iff_toInt_lt.mp h
    have h0 : (0 : Int32).toInt = 0 := rfl
    omega
  have e1 := nn sp k1
  have e2 := nn dp k2
  have e3 := nn n k3
  exact va_copyl C.1.1 C.1.2.1 (C.1.2.2.1.trans hl.symm) C.1.2.2.2.1 (C.1.2.2.2.2 _ hlink) (C.1.2.2.2.2 _ (zt_mem 439 (by decide +kernel) (by decide +kernel))) (C.1.2.2.2.2 _ (zt_mem 438 (by decide +kernel) (by decide +kernel))) (C.1.2.2.2.2 _ (zt_mem 89 (by decide +kernel) (by decide +kernel))) C.2.2.1 hw.1 hw.2.1 hw.2.2 q0 q1 1 1 ha0 ha1 rfl rfl rfl (ng sp k1) (ng dp k2) (ng n k3) (by omega) (by omega) (fun _ _ => rfl) hR.1 hR.2 hdg (fun H1 l1 g1 g2 g3 => kk H1 l1 (by rw [← hset]; exact ⟨g1, g2, g3⟩))
/-- the k-th char of a text constant -/
def zCH (i k : Nat) : Int32 := (zBYT.getD i []).getD k 0
end ZR
section ZS
variable {p : Program} {l : Launch} {e : Env} {R : Room} {s : State} {m : MethodId} {args : Array Value} {below : List Frame} {meth : Method} {c : Code} {H : Heap} {locs : List Loc} {cells slots : Nat} {Q : State → Prop} {cc : ByteArray} {pc nL idx : Nat} {ls : Array Slot} {rest : List Value} {G : va_G} {cy : Nat → ClassId} {tt : Nat → Nat} {A : Nat → Prop} {a : Nat} {w w' wc wc' : va_W} {own : String}
def zSL : MethodName := ⟨"java/lang/String", "length", "()I"⟩
def zSC : MethodName := ⟨"java/lang/String", "charAt", "(I)C"⟩
theorem zk_slen {i : Nat} {v : Int32} (hi : i < 7) (hv : Int32.ofNat (zLEN.getD i 0) = v) (C : zCx p m c s args meth cc nL own G cy tt A) (hw : zWd G A s.heap H locs w) (hl : ls.size = nL) (hR : 8 ≤ R.frames ∧ 300 ≤ R.locals) (hroom : (rest.map fun v => v.category).sum ≤ 8) (hcs : cells ≤ R.cells ∧ slots ≤ R.slots) (hlink : Cond.methodLink own idx zSL ∈ zTB) (hdg : decode cc pc = .ok (.invokevirtual idx, 3))
    (kk : W p l e R s m args below meth c H locs cells slots Q (F0 m (pc + 3) ls (.int v :: rest))) : W p l e R s m args below meth c H locs cells slots Q (F0 m pc ls (.ref (tt (10 + i)) :: rest)) := by
  sorry
theorem zk_schr {i : Nat} {k : Int32} (hi : i < 7) (hin : ix k (zLEN.getD i 0) = true) (C : zCx p m c s args meth cc nL own G cy tt A) (hw : zWd G A s.heap H locs w) (hl : ls.size = nL) (hR : 8 ≤ R.frames ∧ 300 ≤ R.locals) (hroom : (rest.map fun v => v.category).sum ≤ 8) (hcs : cells ≤ R.cells ∧ slots ≤ R.slots) (hlink : Cond.methodLink own idx zSC ∈ zTB) (hdg : decode cc pc = .ok (.invokevirtual idx, 3))
    (kk : W p l e R s m args below meth c H locs cells slots Q (F0 m (pc + 3) ls (.int (zCH i k.toNatClampNeg) :: rest))) : W p l e R s m args below meth c H locs cells slots Q (F0 m pc ls (.int k :: .ref (tt (10 + i)) :: rest)) := by
  sorry
end ZS
theorem zm_X2_60 : Cond.methodLink RX2 60 Lib.Math.min.name ∈ zTB := zt_mem 490 (by decide +kernel) (by decide +kernel)
theorem zm_X2_66 : Cond.methodLink RX2 66 Lib.Math.max.name ∈ zTB := zt_mem 493 (by decide +kernel) (by decide +kernel)
theorem zm_X5_55 : Cond.methodLink RX5 55 Lib.Math.min.name ∈ zTB := zt_mem 748 (by decide +kernel) (by decide +kernel)
theorem zm_X5_61 : Cond.methodLink RX5 61 Lib.Math.max.name ∈ zTB := zt_mem 749 (by decide +kernel) (by decide +kernel)
theorem zm_X6_71 : Cond.methodLink RX6 71 Lib.Math.min.name ∈ zTB := zt_mem 797 (by decide +kernel) (by decide +kernel)
theorem zm_X7_408 : Cond.methodLink RX7 408 Lib.Math.max.name ∈ zTB := zt_mem 869 (by decide +kernel) (by decide +kernel)
theorem zm_X8_59 : Cond.methodLink RX8 59 Lib.Math.min.name ∈ zTB := zt_mem 1283 (by decide +kernel) (by decide +kernel)
theorem zm_X8_65 : Cond.methodLink RX8 65 Lib.Math.max.name ∈ zTB := zt_mem 1284 (by decide +kernel) (by decide +kernel)
theorem zm_X1_49 : Cond.methodLink RX1 49 arraycopyName ∈ zTB := zt_mem 437 (by decide +kernel) (by decide +kernel)
theorem zg_X7_392 : Cond.fieldLink RX7 392 "UnderNurseToTheTemper" "ABOVE" "[I" ∈ zTB := zt_mem 477 (by decide +kernel) (by decide +kernel)
theorem zg_X7_386 : Cond.fieldLink RX7 386 "UnderNurseToTheTemper" "LEAST" "[I" ∈ zTB := zt_mem 523 (by decide +kernel) (by decide +kernel)
theorem zg_X7_389 : Cond.fieldLink RX7 389 "UnderNurseToTheTemper" "MOST" "[I" ∈ zTB := zt_mem 525 (by decide +kernel) (by decide +kernel)
theorem zm_X4_107 : Cond.methodLink RX4 107 zSL ∈ zTB := zt_mem 591 (by decide +kernel) (by decide +kernel)
theorem zm_X4_116 : Cond.methodLink RX4 116 zSC ∈ zTB := zt_mem 601 (by decide +kernel) (by decide +kernel)
