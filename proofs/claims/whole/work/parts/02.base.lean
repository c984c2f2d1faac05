/-! the base: one table of words, contracts that are functions, rows for calls and fields -/
def zTB : List Cond := lw_tbl.filter goodWord
theorem zt_mem {w : Cond} (i : Nat) (h : lw_tbl[i]? = some w) (g : goodWord w = true) : w ∈ zTB := List.mem_filter.mpr ⟨List.mem_of_getElem? h, g⟩
theorem zt_good {w : Cond} (h : w ∈ zTB) : (w.onTables && w.keeps) = true ∨ ∃ ty, w = .arrayClass ty := good_of_word (List.mem_filter.mp h).2
theorem zt_in {w0 w : Cond} (h : w ∈ zTB) : GoodIn (w0 :: zTB) (w :: zTB) := fun v hv => by
  rcases List.mem_cons.mp hv with rfl | hv
  · exact ⟨List.mem_cons_of_mem _ h, zt_good h⟩
  · exact ⟨List.mem_cons_of_mem _ hv, zt_good hv⟩
theorem zt_inT {w : Cond} (h : w ∈ zTB) : GoodIn zTB (w :: zTB) := fun v hv => by
  rcases List.mem_cons.mp hv with rfl | hv
  · exact ⟨h, zt_good h⟩
  · exact ⟨hv, zt_good hv⟩
abbrev bI (b : Bool) : Int32 := if b then 1 else 0
theorem bI_nar (b : Bool) : narrow .boolean (.int (bI b)) = .int (bI b) := by cases b <;> rfl
theorem bI_fit (b : Bool) : fits .boolean (.int (bI b)) = true := by cases b <;> rfl
theorem bI_0 {b : Bool} : bI b = 0 ↔ ¬ b = true := by cases b <;> decide
theorem if_t {α : Type} {c : Prop} [Decidable c] {x y r : α} (q : c) (h : (if c then x else y) = r) : x = r := by rw [if_pos q] at h; exact h
theorem if_f {α : Type} {c : Prop} [Decidable c] {x y r : α} (q : ¬ c) (h : (if c then x else y) = r) : y = r := by rw [if_neg q] at h; exact h
theorem bd {α β : Type} {x : Option α} {k : α → Option β} {r : β} (h : Option.bind x k = some r) : ∃ u, x = some u ∧ k u = some r := by
  cases x with
  | none => cases h
  | some u => exact ⟨u, rfl, h⟩
/-- an index in range -/
def ix (i : Int32) (n : Nat) : Bool := decide (0 ≤ i.toInt ∧ i.toInt < n)
theorem ix_in {i : Int32} {n : Nat} (h : ix i n = true) : vp_in i n := vp_in_iff.mpr (of_decide_eq_true h)
theorem ck {α : Type} {b : Bool} {x : Option α} {r : α} (h : (if b then x else none) = some r) : b = true ∧ x = some r := by
  cases b with
  | false => cases h
  | true => exact ⟨rfl, h⟩
abbrev zTY (cy : Nat → ClassId) : List (ClassId × FieldType) := [(cy 0, .int), (cy 1, .long), (cy 2, .boolean), (cy 3, .char), (cy 4, .object "UnderNurseToTheTemper$Temper"), (cy 5, .array .long)]
def zABV (j : Nat) : Int32 := [(-1 : Int32), 0, 0, 1, 2, 0].getD j 0
def zLEA (j : Nat) : Int32 := [(0 : Int32), 0, 1, 1, 0].getD j 0
def zMOS (j : Nat) : Int32 := [(99 : Int32), 99, 9, 99, 9999].getD j 0
def zNL : List Cond := [(Jvm.Cond.methodLinkNest "UnderNurseToTheTemper" (9 : Nat) ({ cls := "UnderNurseToTheTemper$Temper", name := "<init>", desc := "()V" } : Jvm.MethodName) "UnderNurseToTheTemper"), (Jvm.Cond.methodLinkNest "UnderNurseToTheTemper" (27 : Nat) ({ cls := "UnderNurseToTheTemper$Staff", name := "<init>", desc := "()V" } : Jvm.MethodName) "UnderNurseToTheTemper"), (Jvm.Cond.methodLinkNest "UnderNurseToTheTemper" (40 : Nat) ({ cls := "UnderNurseToTheTemper$Shelves", name := "<init>", desc := "()V" } : Jvm.MethodName) "UnderNurseToTheTemper"), (Jvm.Cond.methodLinkNest "UnderNurseToTheTemper" (47 : Nat) ({ cls := "UnderNurseToTheTemper$Tape", name := "<init>", desc := "()V" } : Jvm.MethodName) "UnderNurseToTheTemper"), (Jvm.Cond.methodLinkNest "UnderNurseToTheTemper" (54 : Nat) ({ cls := "UnderNurseToTheTemper$Walk", name := "<init>", desc := "()V" } : Jvm.MethodName) "UnderNurseToTheTemper"), (Jvm.Cond.methodLinkNest "UnderNurseToTheTemper$Walk" (11 : Nat) ({ cls := "UnderNurseToTheTemper$Temper", name := "<init>", desc := "()V" } : Jvm.MethodName) "UnderNurseToTheTemper"), (Jvm.Cond.methodLinkNest "UnderNurseToTheTemper" (61 : Nat) ({ cls := "UnderNurseToTheTemper$Search", name := "<init>", desc := "()V" } : Jvm.MethodName) "UnderNurseToTheTemper"), (Jvm.Cond.methodLinkNest "UnderNurseToTheTemper$Search" (31 : Nat) ({ cls := "UnderNurseToTheTemper$Temper", name := "<init>", desc := "()V" } : Jvm.MethodName) "UnderNurseToTheTemper"), (Jvm.Cond.methodLinkNest "UnderNurseToTheTemper" (68 : Nat) ({ cls := "UnderNurseToTheTemper$Tally", name := "<init>", desc := "()V" } : Jvm.MethodName) "UnderNurseToTheTemper"), (Jvm.Cond.methodLinkNest "UnderNurseToTheTemper$Shelves" (35 : Nat) ({ cls := "UnderNurseToTheTemper", name := "isShelf", desc := "(I)Z" } : Jvm.MethodName) "UnderNurseToTheTemper"), (Jvm.Cond.methodLinkNest "UnderNurseToTheTemper$Shelves" (27 : Nat) ({ cls := "UnderNurseToTheTemper", name := "isWithin", desc := "(III)Z" } : Jvm.MethodName) "UnderNurseToTheTemper"), (Jvm.Cond.methodLinkNest "UnderNurseToTheTemper$Tape" (82 : Nat) ({ cls := "UnderNurseToTheTemper", name := "isWithin", desc := "(III)Z" } : Jvm.MethodName) "UnderNurseToTheTemper"), (Jvm.Cond.fieldLinkNest "UnderNurseToTheTemper$Tape" (86 : Nat) "UnderNurseToTheTemper" "MOST" "[I" "UnderNurseToTheTemper"), (Jvm.Cond.fieldLinkNest "UnderNurseToTheTemper$Tape" (89 : Nat) "UnderNurseToTheTemper" "LEAST" "[I" "UnderNurseToTheTemper"), (Jvm.Cond.methodLinkNest "UnderNurseToTheTemper$Staff" (52 : Nat) ({ cls := "UnderNurseToTheTemper", name := "isUnder", desc := "(II)Z" } : Jvm.MethodName) "UnderNurseToTheTemper")]
def zLEN : List Nat := [6, 5, 4, 4, 5, 3, 4]
def zBYT : List (List Int32) := [[107, 101, 101, 112, 101, 114], [110, 101, 114, 118, 101], [114, 97, 103, 101], [99, 97, 108, 109], [103, 114, 111, 119, 110], [98, 97, 114], [104, 111, 117, 114]]
def zSIX (i : Nat) : Nat := [38, 48, 97, 99, 101, 103, 105].getD i 0
def zSTX (i : Nat) : String := ["keeper", "nerve", "rage", "calm", "grown", "bar", "hour"].getD i ""
def zNW (U : State) : Prop := ∀ w ∈ zNL, va_Nw w U
theorem zNW.warm {s U : State} (hW : s.WarmedH U.vm) (h : zNW s) : zNW U := by
  intro w hw
  have h1 := h w hw
  simp only [zNL, List.mem_cons, List.not_mem_nil, or_false] at hw
  rcases hw with rfl | rfl | rfl | rfl | rfl | rfl | rfl | rfl | rfl | rfl | rfl | rfl | rfl | rfl | rfl <;> first | exact va_Nw.warmM hW h1 | exact va_Nw.warmF hW h1
theorem zNW.same {u U : State} (hv : u.vm = U.vm) (h : zNW u) : zNW U := by
  intro w hw
  have h1 := h w hw
  simp only [zNL, List.mem_cons, List.not_mem_nil, or_false] at hw
  rcases hw with rfl | rfl | rfl | rfl | rfl | rfl | rfl | rfl | rfl | rfl | rfl | rfl | rfl | rfl | rfl <;> exact va_Nw.same rfl hv h1
/-- the statics and the text constants -/
def zST (tt : Nat → Nat) (A : Nat → Prop) (U : State) (H : Heap) : Prop :=
  (va_Z "UnderNurseToTheTemper" "ABOVE" "[I" (.ref (tt 0)) A U H ∧ va_T .int (tt 0) 6 (fun j => .int (zABV j)) A U H) ∧ (va_Z "UnderNurseToTheTemper" "LEAST" "[I" (.ref (tt 1)) A U H ∧ va_T .int (tt 1) 5 (fun j => .int (zLEA j)) A U H) ∧ (va_Z "UnderNurseToTheTemper" "MOST" "[I" (.ref (tt 2)) A U H ∧ va_T .int (tt 2) 5 (fun j => .int (zMOS j)) A U H) ∧ vk_S 7 zLEN zBYT (fun i => tt (10 + i)) (fun i => tt (20 + i)) A U H ∧ ∀ i, i < 7 → vk_R "UnderNurseToTheTemper$Tape" (zSIX i) (zSTX i) (tt (10 + i)) U
theorem zST.go {tt : Nat → Nat} {A B : Nat → Prop} {s U : State} {H : Heap} {locs : List Loc} (h : zST tt A s s.heap) (hS : va_S A s.heap H locs) (hU : U.heap = H) (hW : s.WarmedH U.vm) (hB : ∀ q, B q → A q) : zST tt B U U.heap := by
  obtain ⟨⟨a1, a2⟩, ⟨b1, b2⟩, ⟨c1, c2⟩, d1, d2⟩ := h
  have hv := hW.alike
  rw [hU]
  exact ⟨⟨((a1.kept hS.2.1).narrow hB).moved hv, ((a2.kept hS.2.1).narrow hB).moved hv⟩, ⟨((b1.kept hS.2.1).narrow hB).moved hv, ((b2.kept hS.2.1).narrow hB).moved hv⟩, ⟨((c1.kept hS.2.1).narrow hB).moved hv, ((c2.kept hS.2.1).narrow hB).moved hv⟩, ((d1.kept hS.2.1).narrow hB).moved hv, fun i hi => vk_R.warm hW (d2 i hi)⟩
theorem zST.call {tt : Nat → Nat} {A : Nat → Prop} {U : State} {H : Heap} {g : JFrame} {mk : MethodId} {a : Array Value} (h : zST tt A U H) : zST tt A (U.calling g mk a) H := by
  obtain ⟨⟨a1, a2⟩, ⟨b1, b2⟩, ⟨c1, c2⟩, d1, d2⟩ := h
  have hv : U.vm.Alike (U.calling g mk a).vm := Vm.Alike.refl U.vm
  exact ⟨⟨a1.moved hv, a2.moved hv⟩, ⟨b1.moved hv, b2.moved hv⟩, ⟨c1.moved hv, c2.moved hv⟩, d1.moved hv, fun i hi => vk_R.same rfl (d2 i hi)⟩
/-- what stands all through a method -/
def zCx (p : Program) (m : MethodId) (c : Code) (s : State) (args : Array Value) (meth : Method) (cc : ByteArray) (nL : Nat) (own : String) (G : va_G) (cy : Nat → ClassId) (tt : Nat → Nat) (A : Nat → Prop) : Prop :=
  (p.tables.exec = Jvm.exec ∧ c.code = cc ∧ c.maxLocals = nL ∧ s.vm.findClass own = some m.cls ∧ ∀ w ∈ zTB, w.before args s = true) ∧ meth.locks = false ∧ va_K G vwCl (zTY cy) s ∧ zNW s ∧ zST tt A s s.heap ∧ ∀ q, s.heap.size ≤ q → A q
/-- the world -/
def zWd (G : va_G) (A : Nat → Prop) (H0 H : Heap) (locs : List Loc) (w : va_W) : Prop := va_P G vwCl w H ∧ va_D A w ∧ va_S A H0 H locs
def zPr (G : va_G) (cy : Nat → ClassId) (tt : Nat → Nat) (sz : Nat) (w : va_W) (U : State) : Prop := U.heap.size = sz ∧ va_P G vwCl w U.heap ∧ va_D (fun _ => True) w ∧ va_K G vwCl (zTY cy) U ∧ zNW U ∧ zST tt (va_A w sz) U U.heap
def zQ (G : va_G) (o : Option Value) (w' : va_W) (A : Nat → Prop) : Array Value → State → Outcome → State → Prop := fun _ st oc t => oc = .returned o ∧ va_P G vwCl w' t.heap ∧ va_D A w' ∧ va_F A st t
/-- a contract: with these arguments and this world it answers o and leaves w' -/
def zCT (l : Launch) (y : MethodName) (cc : ByteArray) (maxL : Nat) (ret : Option FieldType) (rm : Room) (G : va_G) (cy : Nat → ClassId) (tt : Nat → Nat) (av : List Value) (w : va_W) (o : Option Value) (w' : va_W) : Prop :=
  ∀ sz, Met l y (Cond.code y cc maxL ret :: zTB) rm (va_Pc av (zPr G cy tt sz w)) (zQ G o w' (va_A w sz)) 0 0 (va_A w sz)
theorem zk_start {l : Launch} {y : MethodName} {cc : ByteArray} {maxL : Nat} {ret : Option FieldType} {rm : Room} {G : va_G} {cy : Nat → ClassId} {tt : Nat → Nat} {av : List Value} {w : va_W} {o : Option Value} {w' : va_W} (hy : plainName y.cls = true) (hlen : (lg_sl av).length ≤ maxL)
    (body : ∀ (p : Program) (e : Env) (s : State) (m : MethodId) (args : Array Value) (below : List Frame) (meth : Method) (c : Code) (A : Nat → Prop) (ls : Array Slot) (Q : State → Prop), zCx p m c s args meth cc maxL y.cls G cy tt A → meth.sig.returnType = ret → Q = MQ below (zQ G o w' A) args s 0 0 A → zWd G A s.heap s.heap [] w → lv_has ls maxL (lv_args 0 av) →
      W p l e rm s m args below meth c s.heap [] 0 0 Q (F0 m 0 ls [])) : zCT l y cc maxL ret rm G cy tt av w o w' := by
  intro sz
  refine Met.ofW (cc := cc) (maxL := maxL) (ret := ret) hy rfl ?_
  intro p e s m args below meth c s₁ B hml hv
  obtain ⟨rfl, hsz, hP, hD0, hK, hN, hT⟩ := hv
  have hts := atoms_spec (ws := Cond.code y cc maxL ret :: zTB) B.pre
  have hown : s.vm.findClass y.cls = some m.cls := findClass_of_methodNamed B.named
  subst hsz
  have hD := hD0.self (sz := s.heap.size)
  generalize hAe : va_A w s.heap.size = A at hD hT ⊢
  have hA : ∀ q : Nat, s.heap.size ≤ q → A q := fun q h => by rw [← hAe]; exact Or.inr h
  have hl := lv_entry av (n := maxL) hlen
  rw [lg_entry_eq]
  generalize (lg_sl av ++ List.replicate (maxL - (lg_sl av).length) Slot.unset).toArray = ls at hl ⊢
  exact body p e s m av.toArray below meth c A ls _ ⟨⟨B.exec, B.bytes, hml, hown, fun w h => hts w (List.mem_cons_of_mem _ h)⟩, B.notSynchronized, hK, hN, hT, hA⟩ B.returns rfl ⟨hP, hD, va_S.rf⟩ hl
/-- cells put at their places -/
def zput : va_W → List Nat → va_W → va_W
  | ws, i :: is, x :: xs => zput (ws.set i x) is xs
  | ws, _, _ => ws
theorem zput_P {G : va_G} {cl : List vw_C} {H1 : Heap} : ∀ (is : List Nat) (xs ws : va_W), is.length = xs.length → (∀ (k : Nat) (q : Nat × va_E), ws[k]? = some q → k ∈ is ∨ va_at G cl q H1) → (∀ x ∈ xs, va_at G cl x H1) → va_P G cl (zput ws is xs) H1
  | [], [], ws, _, h, _ => fun k q hk => (h k q hk).elim (fun h => by cases h) id
  | [], x :: xs, ws, hl, _, _ => by cases hl
  | i :: is, [], ws, hl, _, _ => by cases hl
  | i :: is, x :: xs, ws, hl, h, hx => by
    refine zput_P is xs (ws.set i x) (Nat.succ.inj hl) (fun k q hk => ?_) (fun z hz => hx z (List.mem_cons_of_mem _ hz))
    by_cases e : i = k
    · subst e
      by_cases hi : i < ws.length
      · rw [List.getElem?_set_self hi] at hk
        cases hk
        exact Or.inr (hx x List.mem_cons_self)
      · rw [List.getElem?_eq_none (by rw [List.length_set]; omega)] at hk
        cases hk
    · rw [List.getElem?_set_ne e] at hk
      rcases h k q hk with h | h
      · rcases List.mem_cons.mp h with rfl | h
        · exact absurd rfl e
        · exact Or.inl h
      · exact Or.inr h
theorem zput_D {A : Nat → Prop} {w w' : va_W} (hD : va_D A w) (h : w'.map (fun q => q.1) = w.map (fun q => q.1)) : va_D A w' := by
  have hg : ∀ (k : Nat) (q : Nat × va_E), w'[k]? = some q → ∃ q2, w[k]? = some q2 ∧ q2.1 = q.1 := by
    intro k q hk
    have h1 : (w'.map (fun q => q.1))[k]? = some q.1 := by rw [List.getElem?_map, hk]; rfl
    rw [h, List.getElem?_map] at h1
    cases hw : w[k]? with
    | none => rw [hw] at h1; cases h1
    | some q2 => rw [hw] at h1; exact ⟨q2, rfl, Option.some.inj h1⟩
  refine ⟨fun i j p q hi hj e => ?_, fun k q hk => ?_⟩
  · obtain ⟨p2, g1, g2⟩ := hg i p hi
    obtain ⟨q2, g3, g4⟩ := hg j q hj
    exact hD.1 i j p2 q2 g1 g3 (by rw [g2, g4, e])
  · obtain ⟨q2, g1, g2⟩ := hg k q hk
    rw [← g2]
    exact hD.2 k q2 g1
section ZK
variable {p : Program} {l : Launch} {e : Env} {R : Room} {s : State} {m : MethodId} {args : Array Value} {below : List Frame} {meth : Method} {c : Code} {H : Heap} {locs : List Loc} {cells slots : Nat} {Q : State → Prop} {cc : ByteArray} {pc nL : Nat} {ls : Array Slot} {rest : List Value} {G : va_G} {cy : Nat → ClassId} {tt : Nat → Nat} {A : Nat → Prop} {a : Nat} {w w' wc wc' : va_W} {own : String}
theorem zk_after {o : Option Value} {st0 st1 : List Value} (hst1 : o.toList ++ rest = st1) (C : zCx p m c s args meth cc nL own G cy tt A) (hw : zWd G A s.heap H locs w) (isC : List Nat) (hC : isC.map (fun i => w[i]?) = wc.map some) (hlen : isC.length = wc'.length) (hput : zput w isC wc' = w') (hadr : w'.map (fun q => q.1) = w.map (fun q => q.1))
    {av : Array Value} (hr : va_Run p l e R s m args below meth c H locs cells slots 0 0 (F0 m pc ls st0) rest (zQ G o wc' (va_A wc H.size) av) (va_A wc H.size))
    (kk : ∀ (H : Heap) (locs : List Loc), zWd G A s.heap H locs w' → W p l e R s m args below meth c H locs cells slots Q (F0 m (pc + 3) ls st1)) : W p l e R s m args below meth c H locs cells slots Q (F0 m pc ls st0) := by
  subst hst1
  obtain ⟨hP, hD, hS⟩ := hw
  have hF := va_free (wc := wc) hD hS C.2.2.2.2.2 isC hC
  intro T hT X
  obtain ⟨v, st₀, t, T', L, h0, X', hL, e1, e2, ⟨hv, hP1, hD1, hz, hk⟩, st⟩ := hr T hT X
  cases hv
  rw [h0] at hz hk
  rw [← e1] at hP1 hz hk
  have at' : ∀ (k : Nat) (q : Nat × va_E), wc[k]? = some q → ∃ i, isC[k]? = some i ∧ w[i]? = some q := by
    intro k q hq
    have h1 : (isC.map (fun i => w[i]?))[k]? = some (some q) := by rw [hC, List.getElem?_map, hq]; rfl
    rw [List.getElem?_map] at h1
    cases hi : isC[k]? with
    | none => rw [hi] at h1; cases h1
    | some i => rw [hi] at h1; exact ⟨i, rfl, Option.some.inj h1⟩
  have hPn : va_P G vwCl w' T'.heap := by
    rw [← hput]
    refine zput_P isC wc' w hlen (fun k q hq => ?_) (fun x hx => ?_)
    · by_cases hi : k ∈ isC
      · exact Or.inl hi
      · refine Or.inr ((hP k q hq).kept (hk q.1 (hP k q hq).lt (fun h => ?_)))
        rcases h with ⟨k2, e9, h⟩ | h
        · obtain ⟨j, h3, h4⟩ := at' k2 (q.1, e9) h
          have hij := hD.1 k j q (q.1, e9) hq h4 rfl
          subst hij
          exact hi (List.mem_of_getElem? h3)
        · have := (hP k q hq).lt
          omega
    · obtain ⟨k, hk9⟩ := List.getElem?_of_mem hx
      exact hP1 k x hk9
  obtain ⟨t2, a1, b1⟩ := kk T'.heap (locs ++ L) ⟨hPn, zput_D hD hadr, ⟨Nat.le_trans hS.1 hz, fun q h1 h2 => by rw [hk q (Nat.lt_of_lt_of_le h1 hS.1) (fun z => h2 (hF q z))]; exact hS.2.1 q h1 h2, fun q hq => by
      rcases List.mem_append.mp hq with h | h
      · exact hS.2.2 q h
      · exact hF _ (hL q h)⟩⟩ T' rfl X'
  exact ⟨t2, st t2 a1, b1⟩
theorem zk_pre {av : List Value} (C : zCx p m c s args meth cc nL own G cy tt A) (hw : zWd G A s.heap H locs w) (isC : List Nat) (hC : isC.map (fun i => w[i]?) = wc.map some) (hnd : va_nd isC = true) : FrameBlind (va_Pc av (zPr G cy tt H.size wc)) ∧ ∀ U : State, U.heap = H → s.WarmedH U.vm → va_Pc av (zPr G cy tt H.size wc) av.toArray U := by
  obtain ⟨hP, hD, hS⟩ := hw
  refine ⟨fun a U g mk q => ?_, fun U hU hW => ?_⟩
  · obtain ⟨q0, q1, qP, qD, qK, qN, qT⟩ := q
    exact ⟨q0, q1, qP, qD, va_K.moved (u := U) (U := U.calling g mk a) (Vm.Alike.refl U.vm) qK, zNW.same (u := U) (U := U.calling g mk a) rfl qN, qT.call⟩
  · refine ⟨rfl, by rw [hU], ?_, (hD.sub isC hnd hC).weaken (fun _ _ _ _ => trivial), va_K.moved hW.alike C.2.2.1, zNW.warm hW C.2.2.2.1, C.2.2.2.2.1.go hS hU hW (va_free hD hS C.2.2.2.2.2 isC hC)⟩
    rw [hU]
    intro k q hq
    have h1 : (isC.map (fun i => w[i]?))[k]? = some (some q) := by rw [hC, List.getElem?_map, hq]; rfl
    rw [List.getElem?_map] at h1
    cases hi : isC[k]? with
    | none => rw [hi] at h1; cases h1
    | some i => rw [hi] at h1; exact hP i q (Option.some.inj h1)
/-- a method of objects: its own words -/
def zMY (C : String) (y : MethodName) (bytes : ByteArray) (maxL : Nat) (ret : Option FieldType) (n : Nat) : Prop :=
  Cond.instanceMethod y ∈ zTB ∧ Cond.selects C y y ∈ zTB ∧ Cond.initialized y.cls ∈ zTB ∧ Cond.code y bytes maxL ret ∈ zTB ∧ (y.cls ≠ "java/lang/invoke/MethodHandle" ∧ y.cls ≠ "java/lang/invoke/VarHandle" ∧ (parseMethodDescriptor y.desc).map (fun d => d.parameters.length) = some n)
def zMS (y : MethodName) (bytes : ByteArray) (maxL : Nat) (ret : Option FieldType) (n : Nat) : Prop :=
  Cond.static y ∈ zTB ∧ Cond.initialized y.cls ∈ zTB ∧ Cond.code y bytes maxL ret ∈ zTB ∧ (y.cls ≠ "java/lang/invoke/MethodHandle" ∧ y.cls ≠ "java/lang/invoke/VarHandle" ∧ (parseMethodDescriptor y.desc).map (fun d => d.parameters.length) = some n)
variable {y : MethodName} {bytes : ByteArray} {maxL n idx : Nat} {ret : Option FieldType} {rm : Room} {o : Option Value} {b : Nat} {As : List Value}
/-- invokevirtual -/
theorem zk_callV {C0 : String} {ci q0 : Nat} {q : vw_C} {fs : List Value} (C : zCx p m c s args meth cc nL own G cy tt A) (hw : zWd G A s.heap H locs w) (hM : zCT l y bytes maxL ret rm G cy tt (.ref b :: As) wc o wc') (hY : zMY C0 y bytes maxL ret n) (hlink : Cond.methodLink own idx y ∈ zTB)
    (hcl : vwCl[ci]? = some q) (hq : q.1 = C0) (he : w[q0]? = some (b, .inr (ci, fs))) (isC : List Nat) (hC : isC.map (fun i => w[i]?) = wc.map some) (hnd : va_nd isC = true) (hlen : isC.length = wc'.length) (hput : zput w isC wc' = w') (hadr : w'.map (fun q => q.1) = w.map (fun q => q.1))
    {st0 st1 : List Value} (hst : st0 = As.reverse ++ .ref b :: rest) (hst1 : o.toList ++ rest = st1) (hl : ls.size = nL) (hrm : rm.cells = 0 ∧ rm.slots = 0) (hR : rm.frames + 1 ≤ R.frames ∧ 8 + (maxL + 11) + rm.locals ≤ R.locals) (hn : As.length = n) (hroom : (rest.map fun v => v.category).sum ≤ 8) (hcs : cells ≤ R.cells ∧ slots ≤ R.slots) (hdg : decode cc pc = .ok (.invokevirtual idx, 3))
    (kk : ∀ (H : Heap) (locs : List Loc), zWd G A s.heap H locs w' → W p l e R s m args below meth c H locs cells slots Q (F0 m (pc + 3) ls st1)) : W p l e R s m args below meth c H locs cells slots Q (F0 m pc ls st0) := by
  obtain ⟨y1, y2, y3, y4, y5⟩ := hY
  have hts := C.1.2.2.2.2
  have hpre := zk_pre (av := .ref b :: As) C hw isC hC hnd
  have hrc := va_recv C.2.2.1 hw.1 hcl he
  rw [hq] at hrc
  exact zk_after hst1 C hw isC hC hlen hput hadr (va_runV (C := C0) (n := n) (Ts := zTB) C.1 (hM H.size) ⟨callB_of n hts (zt_inT y4) rfl hrm.1 hrm.2 (hts _ y3) (hts _ hlink) y5 hR, hts _ y1, hts _ y2⟩ ⟨hpre.1, hrc, hpre.2⟩ rfl hn hl hst (lv_room hroom) hdg hcs) kk
/-- invokevirtual of a nest mate's -/
theorem zk_callVN {C0 host : String} {ci q0 : Nat} {q : vw_C} {fs : List Value} (C : zCx p m c s args meth cc nL own G cy tt A) (hw : zWd G A s.heap H locs w) (hM : zCT l y bytes maxL ret rm G cy tt (.ref b :: As) wc o wc') (hY : zMY C0 y bytes maxL ret n) (hlink : Cond.methodLinkNest own idx y host ∈ zNL)
    (hcl : vwCl[ci]? = some q) (hq : q.1 = C0) (he : w[q0]? = some (b, .inr (ci, fs))) (isC : List Nat) (hC : isC.map (fun i => w[i]?) = wc.map some) (hnd : va_nd isC = true) (hlen : isC.length = wc'.length) (hput : zput w isC wc' = w') (hadr : w'.map (fun q => q.1) = w.map (fun q => q.1))
    {st0 st1 : List Value} (hst : st0 = As.reverse ++ .ref b :: rest) (hst1 : o.toList ++ rest = st1) (hl : ls.size = nL) (hrm : rm.cells = 0 ∧ rm.slots = 0) (hR : rm.frames + 1 ≤ R.frames ∧ 8 + (maxL + 11) + rm.locals ≤ R.locals) (hn : As.length = n) (hroom : (rest.map fun v => v.category).sum ≤ 8) (hcs : cells ≤ R.cells ∧ slots ≤ R.slots) (hdg : decode cc pc = .ok (.invokevirtual idx, 3))
    (kk : ∀ (H : Heap) (locs : List Loc), zWd G A s.heap H locs w' → W p l e R s m args below meth c H locs cells slots Q (F0 m (pc + 3) ls st1)) : W p l e R s m args below meth c H locs cells slots Q (F0 m pc ls st0) := by
  obtain ⟨y1, y2, y3, y4, y5⟩ := hY
  have hts := C.1.2.2.2.2
  have hpre := zk_pre (av := .ref b :: As) C hw isC hC hnd
  have hrc := va_recv C.2.2.1 hw.1 hcl he
  rw [hq] at hrc
  exact zk_after hst1 C hw isC hC hlen hput hadr (va_runVN (C := C0) (n := n) (Ts := zTB) C.1 (hM H.size) ⟨va_cnB n hts (zt_inT y4) rfl hrm.1 hrm.2 (C.2.2.2.1 _ hlink) (hts _ y3) y5 hR, hts _ y1, hts _ y2⟩ ⟨hpre.1, hrc, hpre.2⟩ rfl hn hl hst (lv_room hroom) hdg hcs) kk
/-- invokestatic -/
theorem zk_callS (C : zCx p m c s args meth cc nL own G cy tt A) (hw : zWd G A s.heap H locs w) (hM : zCT l y bytes maxL ret rm G cy tt As wc o wc') (hY : zMS y bytes maxL ret n) (hlink : Cond.methodLink own idx y ∈ zTB)
    (isC : List Nat) (hC : isC.map (fun i => w[i]?) = wc.map some) (hnd : va_nd isC = true) (hlen : isC.length = wc'.length) (hput : zput w isC wc' = w') (hadr : w'.map (fun q => q.1) = w.map (fun q => q.1))
    {st0 st1 : List Value} (hst : st0 = As.reverse ++ rest) (hst1 : o.toList ++ rest = st1) (hl : ls.size = nL) (hrm : rm.cells = 0 ∧ rm.slots = 0) (hR : rm.frames + 1 ≤ R.frames ∧ 8 + (maxL + 11) + rm.locals ≤ R.locals) (hn : As.length = n) (hroom : (rest.map fun v => v.category).sum ≤ 8) (hcs : cells ≤ R.cells ∧ slots ≤ R.slots) (hdg : decode cc pc = .ok (.invokestatic idx, 3))
    (kk : ∀ (H : Heap) (locs : List Loc), zWd G A s.heap H locs w' → W p l e R s m args below meth c H locs cells slots Q (F0 m (pc + 3) ls st1)) : W p l e R s m args below meth c H locs cells slots Q (F0 m pc ls st0) := by
  obtain ⟨y1, y3, y4, y5⟩ := hY
  have hts := C.1.2.2.2.2
  have hpre := zk_pre (av := As) C hw isC hC hnd
  exact zk_after hst1 C hw isC hC hlen hput hadr (va_runS (n := n) (Ts := zTB) C.1 (hM H.size) ⟨callB_of n hts (zt_inT y4) rfl hrm.1 hrm.2 (hts _ y3) (hts _ hlink) y5 hR, hts _ y1⟩ ⟨hpre.1, hpre.2⟩ rfl hn hl hst (lv_room hroom) hdg hcs) kk
/-- invokestatic of a nest mate's -/
theorem zk_callSN {host : String} (C : zCx p m c s args meth cc nL own G cy tt A) (hw : zWd G A s.heap H locs w) (hM : zCT l y bytes maxL ret rm G cy tt As wc o wc') (hY : zMS y bytes maxL ret n) (hlink : Cond.methodLinkNest own idx y host ∈ zNL)
    (isC : List Nat) (hC : isC.map (fun i => w[i]?) = wc.map some) (hnd : va_nd isC = true) (hlen : isC.length = wc'.length) (hput : zput w isC wc' = w') (hadr : w'.map (fun q => q.1) = w.map (fun q => q.1))
    {st0 st1 : List Value} (hst : st0 = As.reverse ++ rest) (hst1 : o.toList ++ rest = st1) (hl : ls.size = nL) (hrm : rm.cells = 0 ∧ rm.slots = 0) (hR : rm.frames + 1 ≤ R.frames ∧ 8 + (maxL + 11) + rm.locals ≤ R.locals) (hn : As.length = n) (hroom : (rest.map fun v => v.category).sum ≤ 8) (hcs : cells ≤ R.cells ∧ slots ≤ R.slots) (hdg : decode cc pc = .ok (.invokestatic idx, 3))
    (kk : ∀ (H : Heap) (locs : List Loc), zWd G A s.heap H locs w' → W p l e R s m args below meth c H locs cells slots Q (F0 m (pc + 3) ls st1)) : W p l e R s m args below meth c H locs cells slots Q (F0 m pc ls st0) := by
  obtain ⟨y1, y3, y4, y5⟩ := hY
  have hts := C.1.2.2.2.2
  have hpre := zk_pre (av := As) C hw isC hC hnd
  exact zk_after hst1 C hw isC hC hlen hput hadr (va_runSN (n := n) (Ts := zTB) C.1 (hM H.size) ⟨va_cnB n hts (zt_inT y4) rfl hrm.1 hrm.2 (C.2.2.2.1 _ hlink) (hts _ y3) y5 hR, hts _ y1, trivial⟩ ⟨hpre.1, hpre.2⟩ rfl hn hl hst (lv_room hroom) hdg hcs) kk
/-- a field's link -/
def zFL (own : String) (idx ci k : Nat) : Prop := ∃ (C : String) (T : u_T) (N : Nat), vwCl[ci]? = some (C, T, N) ∧ k < N ∧ Cond.fieldLink own idx C (T k).2.1 (T k).2.2.1 ∈ zTB ∧ (∀ w ∈ u_ws C T N, w ∈ zTB) ∧ (T k).1 = C
def zFP (own : String) (idx ci k : Nat) (ty : FieldType) : Prop := ∃ (C : String) (T : u_T) (N : Nat) (ty0 : Nat → FieldType), vwCl[ci]? = some (C, T, N) ∧ k < N ∧ Cond.fieldLink own idx C (T k).2.1 (T k).2.2.1 ∈ zTB ∧ (∀ w ∈ u_ws C T N, w ∈ zTB) ∧ (T k).1 = C ∧ (∀ k, k < N → parseFieldDescriptor (T k).2.2.1 = some (ty0 k)) ∧ (∀ a, a < N → ∀ b, b < N → a ≠ b → (T a).2.1 ≠ (T b).2.1) ∧ ty0 k = ty ∧ (T k).2.2.2 = false
theorem zk_get {ci k q0 : Nat} {fs : List Value} {v : Value} (C : zCx p m c s args meth cc nL own G cy tt A) (hw : zWd G A s.heap H locs w) (hL : zFL own idx ci k) (q0 : Nat) (he : w[q0]? = some (a, .inr (ci, fs))) (hv : fs[k]? = some v) (hdg : decode cc pc = .ok (.getfield idx, 3))
    (kk : W p l e R s m args below meth c H locs cells slots Q (F0 m (pc + 3) ls (v :: rest))) : W p l e R s m args below meth c H locs cells slots Q (F0 m pc ls (.ref a :: rest)) := by
  obtain ⟨C0, T, N, h1, h2, h3, h4, h5⟩ := hL
  exact va_get (C := C0) (T := T) (N := N) C.1.1 C.1.2.1 C.1.2.2.2.2 h4 C.1.2.2.2.1 C.2.2.1 hw.1 q0 he h1 k h2 (C.1.2.2.2.2 _ h3) (fun x h => by rw [h5] at h; exact h) hv hdg kk
theorem zk_put {ci k : Nat} {fs : List Value} {v : Value} {ty : FieldType} (C : zCx p m c s args meth cc nL own G cy tt A) (hw : zWd G A s.heap H locs w) (hL : zFP own idx ci k ty) (q0 : Nat) (he : w[q0]? = some (a, .inr (ci, fs))) (hn : narrow ty v = v) (hfit : fits ty v = true) (hl : k < fs.length) (hset : w.set q0 (a, .inr (ci, fs.set k v)) = w') (hdg : decode cc pc = .ok (.putfield idx, 3))
    (kk : ∀ (H : Heap) (locs : List Loc), zWd G A s.heap H locs w' → W p l e R s m args below meth c H locs cells slots Q (F0 m (pc + 3) ls rest)) : W p l e R s m args below meth c H locs cells slots Q (F0 m pc ls (v :: .ref a :: rest)) := by
  obtain ⟨C0, T, N, ty0, h1, h2, h3, h4, h5, h6, h7, h8, h9⟩ := hL
  subst h8
  exact va_put (C := C0) (T := T) (N := N) C.1.1 C.1.2.1 C.1.2.2.2.2 h4 ty0 h6 h7 C.1.2.2.2.1 C.2.2.1 hw.1 hw.2.1 hw.2.2 q0 he h1 k h2 (C.1.2.2.2.2 _ h3) (fun x h => by rw [h5] at h; exact h) h9 (h6 k h2) hn hfit hl hdg (fun H1 l1 g1 g2 g3 => kk H1 l1 (by rw [← hset]; exact ⟨g1, g2, g3⟩))
theorem zk_iald {n : Nat} {f : Nat → Int32} {i : Int32} (C : zCx p m c s args meth cc nL own G cy tt A) (hw : zWd G A s.heap H locs w) (q0 : Nat) (ha : w[q0]? = some (a, .inl (cy 0, n, .inl f))) (hin : ix i n = true) (hdg : decode cc pc = .ok (.iaload, 1))
    (kk : W p l e R s m args below meth c H locs cells slots Q (F0 m (pc + 1) ls (.int (f i.toNatClampNeg) :: rest))) : W p l e R s m args below meth c H locs cells slots Q (F0 m pc ls (.int i :: .ref a :: rest)) :=
  va_iald C.1.1 C.1.2.1 C.2.2.1 hw.1 q0 0 ha rfl (ix_in hin) hdg kk
theorem zk_iast {n : Nat} {f : Nat → Int32} {i x : Int32} (C : zCx p m c s args meth cc nL own G cy tt A) (hw : zWd G A s.heap H locs w) (q0 : Nat) (ha : w[q0]? = some (a, .inl (cy 0, n, .inl f))) (hin : ix i n = true) (hset : w.set q0 (a, .inl (cy 0, n, .inl (upd f i.toNatClampNeg x))) = w') (hdg : decode cc pc = .ok (.iastore, 1))
    (kk : ∀ (H : Heap) (locs : List Loc), zWd G A s.heap H locs w' → W p l e R s m args below meth c H locs cells slots Q (F0 m (pc + 1) ls rest)) : W p l e R s m args below meth c H locs cells slots Q (F0 m pc ls (.int x :: .int i :: .ref a :: rest)) :=
  va_iast C.1.1 C.1.2.1 C.2.2.1 hw.1 hw.2.1 hw.2.2 q0 0 ha rfl (ix_in hin) hdg (fun H1 l1 g1 g2 g3 => kk H1 l1 (by rw [← hset]; exact ⟨g1, g2, g3⟩))
theorem zk_lald {n : Nat} {f : Nat → Int64} {i : Int32} (C : zCx p m c s args meth cc nL own G cy tt A) (hw : zWd G A s.heap H locs w) (q0 : Nat) (ha : w[q0]? = some (a, .inl (cy 1, n, .inr (.inl f)))) (hin : ix i n = true) (hdg : decode cc pc = .ok (.laload, 1))
    (kk : W p l e R s m args below meth c H locs cells slots Q (F0 m (pc + 1) ls (.long (f i.toNatClampNeg) :: rest))) : W p l e R s m args below meth c H locs cells slots Q (F0 m pc ls (.int i :: .ref a :: rest)) :=
  va_lald C.1.1 C.1.2.1 C.2.2.1 hw.1 q0 1 ha rfl (ix_in hin) hdg kk
theorem zk_last {n : Nat} {f : Nat → Int64} {i : Int32} {x : Int64} (C : zCx p m c s args meth cc nL own G cy tt A) (hw : zWd G A s.heap H locs w) (q0 : Nat) (ha : w[q0]? = some (a, .inl (cy 1, n, .inr (.inl f)))) (hin : ix i n = true) (hset : w.set q0 (a, .inl (cy 1, n, .inr (.inl (vp_updL f i.toNatClampNeg x)))) = w') (hdg : decode cc pc = .ok (.lastore, 1))
    (kk : ∀ (H : Heap) (locs : List Loc), zWd G A s.heap H locs w' → W p l e R s m args below meth c H locs cells slots Q (F0 m (pc + 1) ls rest)) : W p l e R s m args below meth c H locs cells slots Q (F0 m pc ls (.long x :: .int i :: .ref a :: rest)) :=
  va_last C.1.1 C.1.2.1 C.2.2.1 hw.1 hw.2.1 hw.2.2 q0 1 ha rfl (ix_in hin) hdg (fun H1 l1 g1 g2 g3 => kk H1 l1 (by rw [← hset]; exact ⟨g1, g2, g3⟩))
theorem zk_alen {x : vp_A} {v : Int32} (C : zCx p m c s args meth cc nL own G cy tt A) (hw : zWd G A s.heap H locs w) (q0 t0 : Nat) {cA : ClassId} {ty : FieldType} (ha : w[q0]? = some (a, .inl (cA, x))) (ht : (zTY cy)[t0]? = some (cA, ty)) (hv : Int32.ofNat x.1 = v) (hdg : decode cc pc = .ok (.arraylength, 1))
    (kk : W p l e R s m args below meth c H locs cells slots Q (F0 m (pc + 1) ls (.int v :: rest))) : W p l e R s m args below meth c H locs cells slots Q (F0 m pc ls (.ref a :: rest)) :=
  va_alen C.1.1 C.1.2.1 C.2.2.1 hw.1 q0 t0 ha ht hv hdg kk
theorem zk_ifz {b : Bool} {off : Int} {tgt : Nat} (hx : p.tables.exec = Jvm.exec) (hb : c.code = cc) (hdg : decode cc pc = .ok (.ifCond .eq off, 3)) (ht : (pc : Int) + off = (tgt : Int))
    (kt : ¬ b = true → W p l e R s m args below meth c H locs cells slots Q (F0 m tgt ls rest)) (kf : b = true → W p l e R s m args below meth c H locs cells slots Q (F0 m (pc + 3) ls rest)) : W p l e R s m args below meth c H locs cells slots Q (F0 m pc ls (.int (bI b) :: rest)) :=
  lv_if_eq hx hb hdg ht (fun q => kt (bI_0.mp q)) (fun q => kf (by cases b with | true => rfl | false => exact absurd rfl q))
theorem zk_ifnz {b : Bool} {off : Int} {tgt : Nat} (hx : p.tables.exec = Jvm.exec) (hb : c.code = cc) (hdg : decode cc pc = .ok (.ifCond .ne off, 3)) (ht : (pc : Int) + off = (tgt : Int))
    (kt : b = true → W p l e R s m args below meth c H locs cells slots Q (F0 m tgt ls rest)) (kf : ¬ b = true → W p l e R s m args below meth c H locs cells slots Q (F0 m (pc + 3) ls rest)) : W p l e R s m args below meth c H locs cells slots Q (F0 m pc ls (.int (bI b) :: rest)) :=
  lv_if_ne hx hb hdg ht (fun q => kt (by cases b with | true => rfl | false => exact absurd rfl q)) (fun q => kf (bI_0.mp q))
theorem zk_reti {v : Int32} {ww : va_W} (C : zCx p m c s args meth cc nL own G cy tt A) (hw : zWd G A s.heap H locs ww) (hr : meth.sig.returnType = some .int) (hQ : Q = MQ below (zQ G (some (.int v)) ww A) args s cells slots A) (hdg : decode cc pc = .ok (.ireturn, 1)) : W p l e R s m args below meth c H locs cells slots Q (F0 m pc ls [.int v]) := by
  subst hQ
  exact W.iret C.1.1 C.1.2.1 hr (fun t ht _ => ⟨rfl, by rw [ht]; exact hw.1, hw.2.1, hw.2.2.F ht⟩) hw.2.2.2.2 hdg C.2.1
theorem zk_retz {b : Bool} {ww : va_W} (C : zCx p m c s args meth cc nL own G cy tt A) (hw : zWd G A s.heap H locs ww) (hr : meth.sig.returnType = some .boolean) (hQ : Q = MQ below (zQ G (some (.int (bI b))) ww A) args s cells slots A) (hdg : decode cc pc = .ok (.ireturn, 1)) : W p l e R s m args below meth c H locs cells slots Q (F0 m pc ls [.int (bI b)]) := by
  subst hQ
  exact W.zret C.1.1 C.1.2.1 hr (bI_nar b) (fun t ht _ => ⟨rfl, by rw [ht]; exact hw.1, hw.2.1, hw.2.2.F ht⟩) hw.2.2.2.2 hdg C.2.1
theorem zk_retl {v : Int64} {ww : va_W} (C : zCx p m c s args meth cc nL own G cy tt A) (hw : zWd G A s.heap H locs ww) (hr : meth.sig.returnType = some .long) (hQ : Q = MQ below (zQ G (some (.long v)) ww A) args s cells slots A) (hdg : decode cc pc = .ok (.lreturn, 1)) : W p l e R s m args below meth c H locs cells slots Q (F0 m pc ls [.long v]) := by
  subst hQ
  exact W.lret C.1.1 C.1.2.1 hr (fun t ht _ => ⟨rfl, by rw [ht]; exact hw.1, hw.2.1, hw.2.2.F ht⟩) hw.2.2.2.2 hdg C.2.1
theorem zk_retv {ww : va_W} (C : zCx p m c s args meth cc nL own G cy tt A) (hw : zWd G A s.heap H locs ww) (hr : meth.sig.returnType = none) (hQ : Q = MQ below (zQ G none ww A) args s cells slots A) (hdg : decode cc pc = .ok (.return_, 1)) : W p l e R s m args below meth c H locs cells slots Q (F0 m pc ls []) := by
  subst hQ
  exact W.vret C.1.1 C.1.2.1 hr (fun t ht _ => ⟨rfl, by rw [ht]; exact hw.1, hw.2.1, hw.2.2.F ht⟩) hw.2.2.2.2 hdg C.2.1
theorem zk_zald {n : Nat} {f : Nat → Int32} {i : Int32} (C : zCx p m c s args meth cc nL own G cy tt A) (hw : zWd G A s.heap H locs w) (q0 : Nat) (ha : w[q0]? = some (a, .inl (cy 2, n, .inl f))) (hin : ix i n = true) (hdg : decode cc pc = .ok (.baload, 1))
    (kk : W p l e R s m args below meth c H locs cells slots Q (F0 m (pc + 1) ls (.int (f i.toNatClampNeg) :: rest))) : W p l e R s m args below meth c H locs cells slots Q (F0 m pc ls (.int i :: .ref a :: rest)) :=
  va_zald C.1.1 C.1.2.1 C.2.2.1 hw.1 q0 2 ha rfl (ix_in hin) hdg kk
theorem bI_vn (b : Bool) : vp_nar .boolean (bI b) = bI b := by cases b <;> rfl
theorem zk_zast {n : Nat} {f : Nat → Int32} {i : Int32} {bb : Bool} (C : zCx p m c s args meth cc nL own G cy tt A) (hw : zWd G A s.heap H locs w) (q0 : Nat) (ha : w[q0]? = some (a, .inl (cy 2, n, .inl f))) (hin : ix i n = true) (hset : w.set q0 (a, .inl (cy 2, n, .inl (upd f i.toNatClampNeg (bI bb)))) = w') (hdg : decode cc pc = .ok (.bastore, 1))
    (kk : ∀ (H : Heap) (locs : List Loc), zWd G A s.heap H locs w' → W p l e R s m args below meth c H locs cells slots Q (F0 m (pc + 1) ls rest)) : W p l e R s m args below meth c H locs cells slots Q (F0 m pc ls (.int (bI bb) :: .int i :: .ref a :: rest)) :=
  va_zast C.1.1 C.1.2.1 C.2.2.1 hw.1 hw.2.1 hw.2.2 q0 2 ha rfl (ix_in hin) hdg (fun H1 l1 g1 g2 g3 => kk H1 l1 (by rw [bI_vn] at g1 g2; rw [← hset]; exact ⟨g1, g2, g3⟩))
theorem zk_cald {n : Nat} {f : Nat → Int32} {i : Int32} (C : zCx p m c s args meth cc nL own G cy tt A) (hw : zWd G A s.heap H locs w) (q0 : Nat) (ha : w[q0]? = some (a, .inl (cy 3, n, .inl f))) (hin : ix i n = true) (hdg : decode cc pc = .ok (.caload, 1))
    (kk : W p l e R s m args below meth c H locs cells slots Q (F0 m (pc + 1) ls (.int (f i.toNatClampNeg) :: rest))) : W p l e R s m args below meth c H locs cells slots Q (F0 m pc ls (.int i :: .ref a :: rest)) :=
  va_cald C.1.1 C.1.2.1 C.2.2.1 hw.1 q0 3 ha rfl (ix_in hin) hdg kk
theorem zk_eqi {x v : Int32} (h : x = v) (k : W p l e R s m args below meth c H locs cells slots Q (F0 m pc ls (.int v :: rest))) : W p l e R s m args below meth c H locs cells slots Q (F0 m pc ls (.int x :: rest)) := by rw [h]; exact k
end ZK
