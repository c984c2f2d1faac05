abbrev bI (b : Bool) : Int32 := if b then 1 else 0
theorem bI_nar (b : Bool) : narrow .boolean (.int (bI b)) = .int (bI b) := by cases b <;> rfl
theorem bI_fit (b : Bool) : fits .boolean (.int (bI b)) = true := by cases b <;> rfl
theorem bI_0 {b : Bool} : bI b = 0 ↔ ¬ b = true := by cases b <;> decide
theorem if_t {α : Type} {c : Prop} [Decidable c] {x y r : α} (q : c) (h : (if c then x else y) = r) : x = r := by rw [if_pos q] at h; exact h
theorem if_f {α : Type} {c : Prop} [Decidable c] {x y r : α} (q : ¬ c) (h : (if c then x else y) = r) : y = r := by rw [if_neg q] at h; exact h
theorem bd {α β : Type} {x : Option α} {k : α → Option β} {r : β} (h : Option.bind x k = some r) : ∃ u, x = some u ∧ k u = some r := by
  cases x with
  | none => cases h
  | some u => exact ⟨u, rfl, h⟩
/-- an index in range -/
def ix (i : Int32) (n : Nat) : Bool := decide (0 ≤ i.toInt ∧ i.toInt < n)
theorem ix_in {i : Int32} {n : Nat} (h : ix i n = true) : vp_in i n := vp_in_iff.mpr (of_decide_eq_true h)
theorem ck {α : Type} {b : Bool} {x : Option α} {r : α} (h : (if b then x else none) = some r) : b = true ∧ x = some r := by
  cases b with
  | false => cases h
  | true => exact ⟨rfl, h⟩
abbrev zTY (cy : Nat → ClassId) : List (ClassId × FieldType) := [(cy 0, .int), (cy 1, .long), (cy 2, .boolean), (cy 3, .char), (cy 4, .object "UnderNurseToTheTemper$Temper"), (cy 5, .array .long)]
def zABV (j : Nat) : Int32 := [(-1 : Int32), 0, 0, 1, 2, 0].getD j 0
def zLEA (j : Nat) : Int32 := [(0 : Int32), 0, 1, 1, 0].getD j 0
def zMOS (j : Nat) : Int32 := [(99 : Int32), 99, 9, 99, 9999].getD j 0
def zLEN : List Nat := [6, 5, 4, 4, 5, 3, 4]
def zBYT : List (List Int32) := [[107, 101, 101, 112, 101, 114], [110, 101, 114, 118, 101], [114, 97, 103, 101], [99, 97, 108, 109], [103, 114, 111, 119, 110], [98, 97, 114], [104, 111, 117, 114]]
def zSIX (i : Nat) : Nat := [38, 48, 97, 99, 101, 103, 105].getD i 0
def zSTX (i : Nat) : String := ["keeper", "nerve", "rage", "calm", "grown", "bar", "hour"].getD i ""
def zNW (U : State) : Prop := ∀ w ∈ zNL, va_Nw w U
theorem zNW.warm {s U : State} (hW : s.WarmedH U.vm) (h : zNW s) : zNW U := by
  intro w hw
  have h1 := h w hw
  simp only [zNL, List.mem_cons, List.not_mem_nil, or_false] at hw
  rcases hw with rfl | rfl | rfl | rfl | rfl | rfl | rfl | rfl | rfl | rfl | rfl | rfl | rfl | rfl | rfl <;> first | exact va_Nw.warmM hW h1 | exact va_Nw.warmF hW h1
theorem zNW.same {u U : State} (hv : u.vm = U.vm) (h : zNW u) : zNW U := by
  intro w hw
  have h1 := h w hw
  simp only [zNL, List.mem_cons, List.not_mem_nil, or_false] at hw
  rcases hw with rfl | rfl | rfl | rfl | rfl | rfl | rfl | rfl | rfl | rfl | rfl | rfl | rfl | rfl | rfl <;> exact va_Nw.same rfl hv h1
/-- the statics and the text constants -/
def zST (tt : Nat → Nat) (A : Nat → Prop) (U : State) (H : Heap) : Prop :=
  (va_Z "UnderNurseToTheTemper" "ABOVE" "[I" (.ref (tt 0)) A U H ∧ va_T .int (tt 0) 6 (fun j => .int (zABV j)) A U H) ∧ (va_Z "UnderNurseToTheTemper" "LEAST" "[I" (.ref (tt 1)) A U H ∧ va_T .int (tt 1) 5 (fun j => .int (zLEA j)) A U H) ∧ (va_Z "UnderNurseToTheTemper" "MOST" "[I" (.ref (tt 2)) A U H ∧ va_T .int (tt 2) 5 (fun j => .int (zMOS j)) A U H) ∧ vk_S 7 zLEN zBYT (fun i => tt (10 + i)) (fun i => tt (20 + i)) A U H ∧ (∀ i, i < 7 → vk_R "UnderNurseToTheTemper$Tape" (zSIX i) (zSTX i) (tt (10 + i)) U) ∧ va_Z "java/lang/String" "COMPACT_STRINGS" "Z" (.int 1) A U H ∧ va_Zq "jdk/internal/util/Preconditions" "SIOOBE_FORMATTER" "Ljava/util/function/BiFunction;" A U H
theorem zST.go {tt : Nat → Nat} {A B : Nat → Prop} {s U : State} {H : Heap} {locs : List Loc} (h : zST tt A s s.heap) (hS : va_S A s.heap H locs) (hU : U.heap = H) (hW : s.WarmedH U.vm) (hB : ∀ q, B q → A q) : zST tt B U U.heap := by
  obtain ⟨⟨a1, a2⟩, ⟨b1, b2⟩, ⟨c1, c2⟩, d1, d2, f1, f2⟩ := h
  have hv := hW.alike
  rw [hU]
  exact ⟨⟨((a1.kept hS.2.1).narrow hB).moved hv, ((a2.kept hS.2.1).narrow hB).moved hv⟩, ⟨((b1.kept hS.2.1).narrow hB).moved hv, ((b2.kept hS.2.1).narrow hB).moved hv⟩, ⟨((c1.kept hS.2.1).narrow hB).moved hv, ((c2.kept hS.2.1).narrow hB).moved hv⟩, ((d1.kept hS.2.1).narrow hB).moved hv, fun i hi => vk_R.warm hW (d2 i hi), ((f1.kept hS.2.1).narrow hB).moved hv, f2.elim (fun z => Or.inl (((z.kept hS.2.1).narrow hB).moved hv)) (fun ⟨t, z⟩ => Or.inr ⟨t, ((z.kept hS.2.1).narrow hB).moved hv⟩)⟩
theorem zST.call {tt : Nat → Nat} {A : Nat → Prop} {U : State} {H : Heap} {g : JFrame} {mk : MethodId} {a : Array Value} (h : zST tt A U H) : zST tt A (U.calling g mk a) H := by
  obtain ⟨⟨a1, a2⟩, ⟨b1, b2⟩, ⟨c1, c2⟩, d1, d2, f1, f2⟩ := h
  have hv : U.vm.Alike (U.calling g mk a).vm := Vm.Alike.refl U.vm
  exact ⟨⟨a1.moved hv, a2.moved hv⟩, ⟨b1.moved hv, b2.moved hv⟩, ⟨c1.moved hv, c2.moved hv⟩, d1.moved hv, fun i hi => vk_R.same rfl (d2 i hi), f1.moved hv, f2.elim (fun z => Or.inl (z.moved hv)) (fun ⟨t, z⟩ => Or.inr ⟨t, z.moved hv⟩)⟩
/-- what stands all through a method -/
def zCx (p : Program) (m : MethodId) (c : Code) (s : State) (args : Array Value) (meth : Method) (cc : ByteArray) (nL : Nat) (own : String) (G : va_G) (cy : Nat → ClassId) (tt : Nat → Nat) (A : Nat → Prop) : Prop :=
  (p.tables.exec = Jvm.exec ∧ c.code = cc ∧ c.maxLocals = nL ∧ s.vm.findClass own = some m.cls ∧ ∀ w ∈ zTB, w.before args s = true) ∧ meth.locks = false ∧ va_K G vwCl (zTY cy) s ∧ zNW s ∧ zST tt A s s.heap ∧ ∀ q, s.heap.size ≤ q → A q
/-- the world -/
def zWd (G : va_G) (A : Nat → Prop) (H0 H : Heap) (locs : List Loc) (w : va_W) : Prop := va_P G vwCl w H ∧ va_D A w ∧ va_S A H0 H locs
def zPr (G : va_G) (cy : Nat → ClassId) (tt : Nat → Nat) (sz : Nat) (w : va_W) (U : State) : Prop := U.heap.size = sz ∧ va_P G vwCl w U.heap ∧ va_D (fun _ => True) w ∧ va_K G vwCl (zTY cy) U ∧ zNW U ∧ zST tt (va_A w sz) U U.heap
def zQ (G : va_G) (o : Option Value) (w' : va_W) (A : Nat → Prop) : Array Value → State → Outcome → State → Prop := fun _ st oc t => oc = .returned o ∧ va_P G vwCl w' t.heap ∧ va_D A w' ∧ va_F A st t
/-- a contract: with these arguments and this world it answers o and leaves w' -/
def zCT (l : Launch) (y : MethodName) (cc : ByteArray) (maxL : Nat) (ret : Option FieldType) (rm : Room) (G : va_G) (cy : Nat → ClassId) (tt : Nat → Nat) (av : List Value) (w : va_W) (o : Option Value) (w' : va_W) : Prop :=
  ∀ sz, Met l y (Cond.code y cc maxL ret :: zTB) rm (va_Pc av (zPr G cy tt sz w)) (zQ G o w' (va_A w sz)) 0 0 (va_A w sz)
theorem zk_start {l : Launch} {y : MethodName} {cc : ByteArray} {maxL : Nat} {ret : Option FieldType} {rm : Room} {G : va_G} {cy : Nat → ClassId} {tt : Nat → Nat} {av : List Value} {w : va_W} {o : Option Value} {w' : va_W} (hy : plainName y.cls = true) (hlen : (lg_sl av).length ≤ maxL)
    (body : ∀ (p : Program) (e : Env) (s : State) (m : MethodId) (args : Array Value) (below : List Frame) (meth : Method) (c : Code) (A : Nat → Prop) (ls : Array Slot) (Q : State → Prop), zCx p m c s args meth cc maxL y.cls G cy tt A → meth.sig.returnType = ret → Q = MQ below (zQ G o w' A) args s 0 0 A → zWd G A s.heap s.heap [] w → lv_has ls maxL (lv_args 0 av) →
      W p l e rm s m args below meth c s.heap [] 0 0 Q (F0 m 0 ls [])) : zCT l y cc maxL ret rm G cy tt av w o w' := by
  intro sz
  refine Met.ofW (cc := cc) (maxL := maxL) (ret := ret) hy rfl ?_
  intro p e s m args below meth c s₁ B hml hv
  obtain ⟨rfl, hsz, hP, hD0, hK, hN, hT⟩ := hv
  have hts := atoms_spec (ws := Cond.code y cc maxL ret :: zTB) B.pre
  have hown : s.vm.findClass y.cls = some m.cls := findClass_of_methodNamed B.named
  subst hsz
  have hD := hD0.self (sz := s.heap.size)
  generalize hAe : va_A w s.heap.size = A at hD hT ⊢
  have hA : ∀ q : Nat, s.heap.size ≤ q → A q := fun q h => by rw [← hAe]; exact Or.inr h
  have hl := lv_entry av (n := maxL) hlen
  rw [lg_entry_eq]
  generalize (lg_sl av ++ List.replicate (maxL - (lg_sl av).length) Slot.unset).toArray = ls at hl ⊢
  exact body p e s m av.toArray below meth c A ls _ ⟨⟨B.exec, B.bytes, hml, hown, fun w h => hts w (List.mem_cons_of_mem _ h)⟩, B.notSynchronized, hK, hN, hT, hA⟩ B.returns rfl ⟨hP, hD, va_S.rf⟩ hl
theorem zput_D {A : Nat → Prop} {w w' : va_W} (hD : va_D A w) (h : w'.map (fun q => q.1) = w.map (fun q => q.1)) : va_D A w' := by
  have hg : ∀ (k : Nat) (q : Nat × va_E), w'[k]? = some q → ∃ q2, w[k]? = some q2 ∧ q2.1 = q.1 := by
    intro k q hk
    have h1 : (w'.map (fun q => q.1))[k]? = some q.1 := by rw [List.getElem?_map, hk]; rfl
    rw [h, List.getElem?_map] at h1
    cases hw : w[k]? with
    | none => rw [hw] at h1; cases h1
    | some q2 => rw [hw] at h1; exact ⟨q2, rfl, Option.some.inj h1⟩
  refine ⟨fun i j p q hi hj e => ?_, fun k q hk => ?_⟩
  · obtain ⟨p2, g1, g2⟩ := hg i p hi
    obtain ⟨q2, g3, g4⟩ := hg j q hj
    exact hD.1 i j p2 q2 g1 g3 (by rw [g2, g4, e])
  · obtain ⟨q2, g1, g2⟩ := hg k q hk
    rw [← g2]
    exact hD.2 k q2 g1
section ZK
variable {p : Program} {l : Launch} {e : Env} {R : Room} {s : State} {m : MethodId} {args : Array Value} {below : List Frame} {meth : Method} {c : Code} {H : Heap} {locs : List Loc} {cells slots : Nat} {Q : State → Prop} {cc : ByteArray} {pc nL : Nat} {ls : Array Slot} {rest : List Value} {G : va_G} {cy : Nat → ClassId} {tt : Nat → Nat} {A : Nat → Prop} {a : Nat} {w w' wc wc' : va_W} {own : String}
theorem zk_pre {av : List Value} (C : zCx p m c s args meth cc nL own G cy tt A) (hw : zWd G A s.heap H locs w) (isC : List Nat) (hC : isC.map (fun i => w[i]?) = wc.map some) (hnd : va_nd isC = true) : FrameBlind (va_Pc av (zPr G cy tt H.size wc)) ∧ ∀ U : State, U.heap = H → s.WarmedH U.vm → va_Pc av (zPr G cy tt H.size wc) av.toArray U := by
  obtain ⟨hP, hD, hS⟩ := hw
  refine ⟨fun a U g mk q => ?_, fun U hU hW => ?_⟩
  · obtain ⟨q0, q1, qP, qD, qK, qN, qT⟩ := q
    exact ⟨q0, q1, qP, qD, va_K.moved (u := U) (U := U.calling g mk a) (Vm.Alike.refl U.vm) qK, zNW.same (u := U) (U := U.calling g mk a) rfl qN, qT.call⟩
  · refine ⟨rfl, by rw [hU], ?_, (hD.sub isC hnd hC).weaken (fun _ _ _ _ => trivial), va_K.moved hW.alike C.2.2.1, zNW.warm hW C.2.2.2.1, C.2.2.2.2.1.go hS hU hW (va_free hD hS C.2.2.2.2.2 isC hC)⟩
    rw [hU]
    intro k q hq
    have h1 : (isC.map (fun i => w[i]?))[k]? = some (some q) := by rw [hC, List.getElem?_map, hq]; rfl
    rw [List.getElem?_map] at h1
    cases hi : isC[k]? with
    | none => rw [hi] at h1; cases h1
    | some i => rw [hi] at h1; exact hP i q (Option.some.inj h1)
variable {y : MethodName} {bytes : ByteArray} {maxL n idx : Nat} {ret : Option FieldType} {rm : Room} {o : Option Value} {b : Nat} {As : List Value}
theorem zk_gt {ci k : Nat} {fs : List Value} {v : Value} (C : zCx p m c s args meth cc nL own G cy tt A) (hw : zWd G A s.heap H locs w) (hL : zFL own idx ci k) (q0 : Nat) (he : w[q0]? = some (a, .inr (ci, fs))) (hv : fs[k]? = some v) (hdg : decode cc pc = .ok (.getfield idx, 3))
    (kk : W p l e R s m args below meth c H locs cells slots Q (F0 m (pc + 3) ls (v :: rest))) : W p l e R s m args below meth c H locs cells slots Q (F0 m pc ls (.ref a :: rest)) := by
  obtain ⟨C0, T, N, h1, h2, h3, h4, h5⟩ := hL
  exact va_get (C := C0) (T := T) (N := N) C.1.1 C.1.2.1 C.1.2.2.2.2 h4 C.1.2.2.2.1 C.2.2.1 hw.1 q0 he h1 k h2 (C.1.2.2.2.2 _ h3) (fun x h => by rw [h5] at h; exact h) hv hdg kk
theorem zk_put {ci k : Nat} {fs : List Value} {v : Value} {ty : FieldType} (C : zCx p m c s args meth cc nL own G cy tt A) (hw : zWd G A s.heap H locs w) (hL : zFP own idx ci k ty) (q0 : Nat) (he : w[q0]? = some (a, .inr (ci, fs))) (hn : narrow ty v = v) (hfit : fits ty v = true) (hl : k < fs.length) (hset : w.set q0 (a, .inr (ci, fs.set k v)) = w') (hdg : decode cc pc = .ok (.putfield idx, 3))
    (kk : ∀ (H : Heap) (locs : List Loc), zWd G A s.heap H locs w' → W p l e R s m args below meth c H locs cells slots Q (F0 m (pc + 3) ls rest)) : W p l e R s m args below meth c H locs cells slots Q (F0 m pc ls (v :: .ref a :: rest)) := by
  obtain ⟨C0, T, N, ty0, h1, h2, h3, h4, h5, h6, h7, h8, h9⟩ := hL
  subst h8
  exact va_put (C := C0) (T := T) (N := N) C.1.1 C.1.2.1 C.1.2.2.2.2 h4 ty0 h6 h7 C.1.2.2.2.1 C.2.2.1 hw.1 hw.2.1 hw.2.2 q0 he h1 k h2 (C.1.2.2.2.2 _ h3) (fun x h => by rw [h5] at h; exact h) h9 (h6 k h2) hn hfit hl hdg (fun H1 l1 g1 g2 g3 => kk H1 l1 (by rw [← hset]; exact ⟨g1, g2, g3⟩))
theorem zk_iald {n : Nat} {f : Nat → Int32} {i : Int32} (C : zCx p m c s args meth cc nL own G cy tt A) (hw : zWd G A s.heap H locs w) (q0 : Nat) (ha : w[q0]? = some (a, .inl (cy 0, n, .inl f))) (hin : ix i n = true) (hdg : decode cc pc = .ok (.iaload, 1))
    (kk : W p l e R s m args below meth c H locs cells slots Q (F0 m (pc + 1) ls (.int (f i.toNatClampNeg) :: rest))) : W p l e R s m args below meth c H locs cells slots Q (F0 m pc ls (.int i :: .ref a :: rest)) :=
  va_iald C.1.1 C.1.2.1 C.2.2.1 hw.1 q0 0 ha rfl (ix_in hin) hdg kk
theorem zk_iast {n : Nat} {f : Nat → Int32} {i x : Int32} (C : zCx p m c s args meth cc nL own G cy tt A) (hw : zWd G A s.heap H locs w) (q0 : Nat) (ha : w[q0]? = some (a, .inl (cy 0, n, .inl f))) (hin : ix i n = true) (hset : w.set q0 (a, .inl (cy 0, n, .inl (upd f i.toNatClampNeg x))) = w') (hdg : decode cc pc = .ok (.iastore, 1))
    (kk : ∀ (H : Heap) (locs : List Loc), zWd G A s.heap H locs w' → W p l e R s m args below meth c H locs cells slots Q (F0 m (pc + 1) ls rest)) : W p l e R s m args below meth c H locs cells slots Q (F0 m pc ls (.int x :: .int i :: .ref a :: rest)) :=
  va_iast C.1.1 C.1.2.1 C.2.2.1 hw.1 hw.2.1 hw.2.2 q0 0 ha rfl (ix_in hin) hdg (fun H1 l1 g1 g2 g3 => kk H1 l1 (by rw [← hset]; exact ⟨g1, g2, g3⟩))
theorem zk_lald {n : Nat} {f : Nat → Int64} {i : Int32} (C : zCx p m c s args meth cc nL own G cy tt A) (hw : zWd G A s.heap H locs w) (q0 : Nat) (ha : w[q0]? = some (a, .inl (cy 1, n, .inr (.inl f)))) (hin : ix i n = true) (hdg : decode cc pc = .ok (.laload, 1))
    (kk : W p l e R s m args below meth c H locs cells slots Q (F0 m (pc + 1) ls (.long (f i.toNatClampNeg) :: rest))) : W p l e R s m args below meth c H locs cells slots Q (F0 m pc ls (.int i :: .ref a :: rest)) :=
  va_lald C.1.1 C.1.2.1 C.2.2.1 hw.1 q0 1 ha rfl (ix_in hin) hdg kk
theorem zk_last {n : Nat} {f : Nat → Int64} {i : Int32} {x : Int64} (C : zCx p m c s args meth cc nL own G cy tt A) (hw : zWd G A s.heap H locs w) (q0 : Nat) (ha : w[q0]? = some (a, .inl (cy 1, n, .inr (.inl f)))) (hin : ix i n = true) (hset : w.set q0 (a, .inl (cy 1, n, .inr (.inl (vp_updL f i.toNatClampNeg x)))) = w') (hdg : decode cc pc = .ok (.lastore, 1))
    (kk : ∀ (H : Heap) (locs : List Loc), zWd G A s.heap H locs w' → W p l e R s m args below meth c H locs cells slots Q (F0 m (pc + 1) ls rest)) : W p l e R s m args below meth c H locs cells slots Q (F0 m pc ls (.long x :: .int i :: .ref a :: rest)) :=
  va_last C.1.1 C.1.2.1 C.2.2.1 hw.1 hw.2.1 hw.2.2 q0 1 ha rfl (ix_in hin) hdg (fun H1 l1 g1 g2 g3 => kk H1 l1 (by rw [← hset]; exact ⟨g1, g2, g3⟩))
theorem zk_alen {x : vp_A} {v : Int32} (C : zCx p m c s args meth cc nL own G cy tt A) (hw : zWd G A s.heap H locs w) (q0 t0 : Nat) {cA : ClassId} {ty : FieldType} (ha : w[q0]? = some (a, .inl (cA, x))) (ht : (zTY cy)[t0]? = some (cA, ty)) (hv : Int32.ofNat x.1 = v) (hdg : decode cc pc = .ok (.arraylength, 1))
    (kk : W p l e R s m args below meth c H locs cells slots Q (F0 m (pc + 1) ls (.int v :: rest))) : W p l e R s m args below meth c H locs cells slots Q (F0 m pc ls (.ref a :: rest)) :=
  va_alen C.1.1 C.1.2.1 C.2.2.1 hw.1 q0 t0 ha ht hv hdg kk
theorem zk_ifz {b : Bool} {off : Int} {tgt : Nat} (hx : p.tables.exec = Jvm.exec) (hb : c.code = cc) (hdg : decode cc pc = .ok (.ifCond .eq off, 3)) (ht : (pc : Int) + off = (tgt : Int))
    (kt : ¬ b = true → W p l e R s m args below meth c H locs cells slots Q (F0 m tgt ls rest)) (kf : b = true → W p l e R s m args below meth c H locs cells slots Q (F0 m (pc + 3) ls rest)) : W p l e R s m args below meth c H locs cells slots Q (F0 m pc ls (.int (bI b) :: rest)) :=
  lv_if_eq hx hb hdg ht (fun q => kt (bI_0.mp q)) (fun q => kf (by cases b with | true => rfl | false => exact absurd rfl q))
theorem zk_ifnz {b : Bool} {off : Int} {tgt : Nat} (hx : p.tables.exec = Jvm.exec) (hb : c.code = cc) (hdg : decode cc pc = .ok (.ifCond .ne off, 3)) (ht : (pc : Int) + off = (tgt : Int))
    (kt : b = true → W p l e R s m args below meth c H locs cells slots Q (F0 m tgt ls rest)) (kf : ¬ b = true → W p l e R s m args below meth c H locs cells slots Q (F0 m (pc + 3) ls rest)) : W p l e R s m args below meth c H locs cells slots Q (F0 m pc ls (.int (bI b) :: rest)) :=
  lv_if_ne hx hb hdg ht (fun q => kt (by cases b with | true => rfl | false => exact absurd rfl q)) (fun q => kf (bI_0.mp q))
theorem zk_reti {v : Int32} {ww : va_W} (C : zCx p m c s args meth cc nL own G cy tt A) (hw : zWd G A s.heap H locs ww) (hr : meth.sig.returnType = some .int) (hQ : Q = MQ below (zQ G (some (.int v)) ww A) args s cells slots A) (hdg : decode cc pc = .ok (.ireturn, 1)) : W p l e R s m args below meth c H locs cells slots Q (F0 m pc ls [.int v]) := by
  subst hQ
  exact W.iret C.1.1 C.1.2.1 hr (fun t ht _ => ⟨rfl, by rw [ht]; exact hw.1, hw.2.1, hw.2.2.F ht⟩) hw.2.2.2.2 hdg C.2.1
theorem zk_retz {b : Bool} {ww : va_W} (C : zCx p m c s args meth cc nL own G cy tt A) (hw : zWd G A s.heap H locs ww) (hr : meth.sig.returnType = some .boolean) (hQ : Q = MQ below (zQ G (some (.int (bI b))) ww A) args s cells slots A) (hdg : decode cc pc = .ok (.ireturn, 1)) : W p l e R s m args below meth c H locs cells slots Q (F0 m pc ls [.int (bI b)]) := by
  subst hQ
  exact W.zret C.1.1 C.1.2.1 hr (bI_nar b) (fun t ht _ => ⟨rfl, by rw [ht]; exact hw.1, hw.2.1, hw.2.2.F ht⟩) hw.2.2.2.2 hdg C.2.1
theorem zk_retl {v : Int64} {ww : va_W} (C : zCx p m c s args meth cc nL own G cy tt A) (hw : zWd G A s.heap H locs ww) (hr : meth.sig.returnType = some .long) (hQ : Q = MQ below (zQ G (some (.long v)) ww A) args s cells slots A) (hdg : decode cc pc = .ok (.lreturn, 1)) : W p l e R s m args below meth c H locs cells slots Q (F0 m pc ls [.long v]) := by
  subst hQ
  exact W.lret C.1.1 C.1.2.1 hr (fun t ht _ => ⟨rfl, by rw [ht]; exact hw.1, hw.2.1, hw.2.2.F ht⟩) hw.2.2.2.2 hdg C.2.1
theorem zk_retv {ww : va_W} (C : zCx p m c s args meth cc nL own G cy tt A) (hw : zWd G A s.heap H locs ww) (hr : meth.sig.returnType = none) (hQ : Q = MQ below (zQ G none ww A) args s cells slots A) (hdg : decode cc pc = .ok (.return_, 1)) : W p l e R s m args below meth c H locs cells slots Q (F0 m pc ls []) := by
  subst hQ
  exact W.vret C.1.1 C.1.2.1 hr (fun t ht _ => ⟨rfl, by rw [ht]; exact hw.1, hw.2.1, hw.2.2.F ht⟩) hw.2.2.2.2 hdg C.2.1
theorem zk_zald {n : Nat} {f : Nat → Int32} {i : Int32} (C : zCx p m c s args meth cc nL own G cy tt A) (hw : zWd G A s.heap H locs w) (q0 : Nat) (ha : w[q0]? = some (a, .inl (cy 2, n, .inl f))) (hin : ix i n = true) (hdg : decode cc pc = .ok (.baload, 1))
    (kk : W p l e R s m args below meth c H locs cells slots Q (F0 m (pc + 1) ls (.int (f i.toNatClampNeg) :: rest))) : W p l e R s m args below meth c H locs cells slots Q (F0 m pc ls (.int i :: .ref a :: rest)) :=
  va_zald C.1.1 C.1.2.1 C.2.2.1 hw.1 q0 2 ha rfl (ix_in hin) hdg kk
theorem bI_vn (b : Bool) : vp_nar .boolean (bI b) = bI b := by cases b <;> rfl
theorem zk_zast {n : Nat} {f : Nat → Int32} {i : Int32} {bb : Bool} (C : zCx p m c s args meth cc nL own G cy tt A) (hw : zWd G A s.heap H locs w) (q0 : Nat) (ha : w[q0]? = some (a, .inl (cy 2, n, .inl f))) (hin : ix i n = true) (hset : w.set q0 (a, .inl (cy 2, n, .inl (upd f i.toNatClampNeg (bI bb)))) = w') (hdg : decode cc pc = .ok (.bastore, 1))
    (kk : ∀ (H : Heap) (locs : List Loc), zWd G A s.heap H locs w' → W p l e R s m args below meth c H locs cells slots Q (F0 m (pc + 1) ls rest)) : W p l e R s m args below meth c H locs cells slots Q (F0 m pc ls (.int (bI bb) :: .int i :: .ref a :: rest)) :=
  va_zast C.1.1 C.1.2.1 C.2.2.1 hw.1 hw.2.1 hw.2.2 q0 2 ha rfl (ix_in hin) hdg (fun H1 l1 g1 g2 g3 => kk H1 l1 (by rw [bI_vn] at g1 g2; rw [← hset]; exact ⟨g1, g2, g3⟩))
theorem zk_cald {n : Nat} {f : Nat → Int32} {i : Int32} (C : zCx p m c s args meth cc nL own G cy tt A) (hw : zWd G A s.heap H locs w) (q0 : Nat) (ha : w[q0]? = some (a, .inl (cy 3, n, .inl f))) (hin : ix i n = true) (hdg : decode cc pc = .ok (.caload, 1))
    (kk : W p l e R s m args below meth c H locs cells slots Q (F0 m (pc + 1) ls (.int (f i.toNatClampNeg) :: rest))) : W p l e R s m args below meth c H locs cells slots Q (F0 m pc ls (.int i :: .ref a :: rest)) :=
  va_cald C.1.1 C.1.2.1 C.2.2.1 hw.1 q0 3 ha rfl (ix_in hin) hdg kk
theorem zk_eqi {x v : Int32} (h : x = v) (k : W p l e R s m args below meth c H locs cells slots Q (F0 m pc ls (.int v :: rest))) : W p l e R s m args below meth c H locs cells slots Q (F0 m pc ls (.int x :: rest)) := by rw [h]; exact k
end ZK
/-! pictures of the objects, and more rows -/
abbrev TTe : Type := Int32 × Int32 × Int32 × Int32 × Int32 × Bool × Int32
abbrev TSt : Type := Int32 × (Nat → Int32) × (Nat → Int32) × (Nat → Int32) × (Nat → Int32)
abbrev TTy : Type := Int32 × Int32 × Int32
abbrev TTa : Type := Int32 × (Nat → Int32) × Int32 × Int32 × Int32 × Int32
abbrev TWa : Type := TTe × Int32 × Int32 × Int32 × Int32 × Int32 × Int32 × Int32 × Int32
abbrev TSh : Type := (Nat → Int32) × (Nat → Int32) × (Nat → Nat → Int64)
abbrev TSe : Type := Int32 × Int32 × Bool × (Nat → Int32) × (Nat → Int32) × (Nat → TTe)
abbrev xTe (a : Nat) (t : TTe) : Nat × va_E := (a, .inr (5, [.int t.1, .int t.2.1, .int t.2.2.1, .int t.2.2.2.1, .int t.2.2.2.2.1, .int (bI t.2.2.2.2.2.1), .int t.2.2.2.2.2.2]))
abbrev xSt (a b1 b2 b3 b4 : Nat) (n : Int32) : Nat × va_E := (a, .inr (2, [.int n, .ref b1, .ref b2, .ref b3, .ref b4]))
abbrev xTy (a : Nat) (t : TTy) : Nat × va_E := (a, .inr (3, [.int t.1, .int t.2.1, .int t.2.2]))
abbrev xTa (a b : Nat) (n1 n2 n3 n4 n5 : Int32) : Nat × va_E := (a, .inr (4, [.int n1, .ref b, .int n2, .int n3, .int n4, .int n5]))
abbrev xWa (a b : Nat) (n1 n2 n3 n4 n5 n6 n7 n8 : Int32) : Nat × va_E := (a, .inr (6, [.ref b, .int n1, .int n2, .int n3, .int n4, .int n5, .int n6, .int n7, .int n8]))
abbrev xSh (a b1 b2 b3 : Nat) : Nat × va_E := (a, .inr (1, [.ref b1, .ref b2, .ref b3]))
abbrev xSe (a b1 b2 b3 : Nat) (n1 n2 : Int32) (f : Bool) : Nat × va_E := (a, .inr (0, [.int n1, .int n2, .int (bI f), .ref b1, .ref b2, .ref b3]))
abbrev xI (cy : Nat → ClassId) (a n : Nat) (f : Nat → Int32) : Nat × va_E := (a, .inl (cy 0, n, .inl f))
abbrev xJ (cy : Nat → ClassId) (a n : Nat) (f : Nat → Int64) : Nat × va_E := (a, .inl (cy 1, n, .inr (.inl f)))
abbrev xZ (cy : Nat → ClassId) (a n : Nat) (f : Nat → Int32) : Nat × va_E := (a, .inl (cy 2, n, .inl f))
abbrev xC (cy : Nat → ClassId) (a n : Nat) (f : Nat → Int32) : Nat × va_E := (a, .inl (cy 3, n, .inl f))
abbrev xRT (cy : Nat → ClassId) (a n : Nat) (f : Nat → Option Nat) : Nat × va_E := (a, .inl (cy 4, n, .inr (.inr (.inr (.inr f)))))
abbrev xRJ (cy : Nat → ClassId) (a n : Nat) (f : Nat → Option Nat) : Nat × va_E := (a, .inl (cy 5, n, .inr (.inr (.inr (.inr f)))))
abbrev xU (L : Nat → Nat) (s k : Int32) (z : Bool) : Nat × va_E := (L 0, .inr (7, [.ref (L 1), .ref (L 2), .ref (L 3), .ref (L 4), .ref (L 5), .ref (L 10), .ref (L 15), .ref (L 20), .ref (L 32), .ref (L 34), .ref (L 36), .ref (L 45), .ref (L 46), .ref (L 47), .ref (L 48), .int s, .int k, .int (bI z)]))
abbrev xM (M : Nat → Nat) (z : Bool) (n1 n2 n3 n4 : Int32) (z2 : Bool) (n5 n6 n7 n8 : Int32) (j1 j2 : Int64) : Nat × va_E := (M 0, .inr (8, [.ref (M 1), .ref (M 2), .ref (M 3), .ref (M 4), .int (bI z), .ref (M 5), .int n1, .int n2, .int n3, .int n4, .ref (M 6), .int (bI z2), .ref (M 7), .ref (M 8), .ref (M 9), .ref (M 10), .ref (M 11), .ref (M 12), .int n5, .int n6, .ref (M 13), .int n7, .int n8, .ref (M 14), .long j1, .long j2]))
/-- more turns than any loop takes -/
def FU : Nat := 2000
theorem i32_ne {x K : Int32} {n : Int} (hK : K.toInt = n) (q : ¬ x = K) : x.toInt ≠ n := fun h => q (Int32.toInt_inj.mp (h.trans hK.symm))
theorem ck0 {α : Type} {y : Int32} {x : Option α} {r : α} (h : (if y = 0 then none else x) = some r) : ¬ y = 0 ∧ x = some r := by
  by_cases q : y = 0
  · rw [if_pos q] at h; cases h
  · rw [if_neg q] at h; exact ⟨q, h⟩
theorem ck0l {α : Type} {y : Int64} {x : Option α} {r : α} (h : (if y = 0 then none else x) = some r) : ¬ y = 0 ∧ x = some r := by
  by_cases q : y = 0
  · rw [if_pos q] at h; cases h
  · rw [if_neg q] at h; exact ⟨q, h⟩
theorem zn_X0 : plainName RX0 = true := by decide +kernel
theorem zn_X1 : plainName RX1 = true := by decide +kernel
theorem zn_X2 : plainName RX2 = true := by decide +kernel
theorem zn_X3 : plainName RX3 = true := by decide +kernel
theorem zn_X4 : plainName RX4 = true := by decide +kernel
theorem zn_X5 : plainName RX5 = true := by decide +kernel
theorem zn_X6 : plainName RX6 = true := by decide +kernel
theorem zn_X7 : plainName RX7 = true := by decide +kernel
theorem zn_X8 : plainName RX8 = true := by decide +kernel
/-- cells put at their places, one pass -/
def zsel : va_W → List (Option (Nat × va_E)) → va_W
  | x :: xs, none :: ms => x :: zsel xs ms
  | _ :: xs, some y :: ms => y :: zsel xs ms
  | xs, [] => xs
  | [], _ => []
def zmk (isC : List Nat) : Nat → List (Option (Nat × va_E)) → Bool
  | i, none :: ms => zmk isC (i + 1) ms
  | i, some _ :: ms => isC.contains i && zmk isC (i + 1) ms
  | _, [] => true
theorem zsel_at {isC : List Nat} : ∀ (ms : List (Option (Nat × va_E))) (w : va_W) (i : Nat), zmk isC i ms = true → ∀ k, (i + k) ∉ isC → (zsel w ms)[k]? = w[k]?
  | [], w, i, _, k, _ => by cases w <;> rfl
  | none :: ms, [], i, _, k, _ => rfl
  | some y :: ms, [], i, _, k, _ => rfl
  | none :: ms, x :: xs, i, h, 0, _ => rfl
  | none :: ms, x :: xs, i, h, k + 1, hk => by
    have := zsel_at ms xs (i + 1) h k (by rw [Nat.add_assoc, Nat.add_comm 1 k]; exact hk)
    simpa [zsel] using this
  | some y :: ms, x :: xs, i, h, 0, hk => by
    simp only [zmk, Bool.and_eq_true, List.contains_iff_mem] at h
    exact absurd h.1 hk
  | some y :: ms, x :: xs, i, h, k + 1, hk => by
    simp only [zmk, Bool.and_eq_true] at h
    have := zsel_at ms xs (i + 1) h.2 k (by rw [Nat.add_assoc, Nat.add_comm 1 k]; exact hk)
    simpa [zsel] using this
section ZA
variable {p : Program} {l : Launch} {e : Env} {R : Room} {s : State} {m : MethodId} {args : Array Value} {below : List Frame} {meth : Method} {c : Code} {H : Heap} {locs : List Loc} {cells slots : Nat} {Q : State → Prop} {cc : ByteArray} {pc nL : Nat} {ls : Array Slot} {rest : List Value} {G : va_G} {cy : Nat → ClassId} {tt : Nat → Nat} {A : Nat → Prop} {a : Nat} {w w' wc wc' : va_W} {own : String}
theorem zk_af {o : Option Value} {st0 st1 : List Value} (hst1 : o.toList ++ rest = st1) (C : zCx p m c s args meth cc nL own G cy tt A) (hw : zWd G A s.heap H locs w) (isC : List Nat) (hC : isC.map (fun i => w[i]?) = wc.map some) (hC' : isC.map (fun i => w'[i]?) = wc'.map some) {mk : List (Option (Nat × va_E))} (hput : zsel w mk = w') (hmk : zmk isC 0 mk = true) (hadr : w'.map (fun q => q.1) = w.map (fun q => q.1))
    {av : Array Value} (hr : va_Run p l e R s m args below meth c H locs cells slots 0 0 (F0 m pc ls st0) rest (zQ G o wc' (va_A wc H.size) av) (va_A wc H.size))
    (kk : ∀ (H : Heap) (locs : List Loc), zWd G A s.heap H locs w' → W p l e R s m args below meth c H locs cells slots Q (F0 m (pc + 3) ls st1)) : W p l e R s m args below meth c H locs cells slots Q (F0 m pc ls st0) := by
  subst hst1
  obtain ⟨hP, hD, hS⟩ := hw
  have hF := va_free (wc := wc) hD hS C.2.2.2.2.2 isC hC
  intro T hT X
  obtain ⟨v, st₀, t, T', L, h0, X', hL, e1, e2, ⟨hv, hP1, hD1, hz, hk⟩, st⟩ := hr T hT X
  cases hv
  rw [h0] at hz hk
  rw [← e1] at hP1 hz hk
  have at' : ∀ (k : Nat) (q : Nat × va_E), wc[k]? = some q → ∃ i, isC[k]? = some i ∧ w[i]? = some q := by
    intro k q hq
    have h1 : (isC.map (fun i => w[i]?))[k]? = some (some q) := by rw [hC, List.getElem?_map, hq]; rfl
    rw [List.getElem?_map] at h1
    cases hi : isC[k]? with
    | none => rw [hi] at h1; cases h1
    | some i => rw [hi] at h1; exact ⟨i, rfl, Option.some.inj h1⟩
  have hPn : va_P G vwCl w' T'.heap := by
    intro k q hq
    by_cases hi : k ∈ isC
    · obtain ⟨j, hj⟩ := List.getElem?_of_mem hi
      have h1 : (isC.map (fun i => w'[i]?))[j]? = some (some q) := by rw [List.getElem?_map, hj]; exact congrArg some hq
      rw [hC', List.getElem?_map] at h1
      cases hx : wc'[j]? with
      | none => rw [hx] at h1; cases h1
      | some x =>
        rw [hx] at h1
        have e9 : x = q := Option.some.inj (Option.some.inj h1)
        subst e9
        exact hP1 j x hx
    · have hq : w[k]? = some q := by
        rw [← zsel_at mk w 0 hmk k (by rw [Nat.zero_add]; exact hi), hput]
        exact hq
      refine (hP k q hq).kept (hk q.1 (hP k q hq).lt (fun h => ?_))
      rcases h with ⟨k2, e9, h⟩ | h
      · obtain ⟨j, h3, h4⟩ := at' k2 (q.1, e9) h
        have hij := hD.1 k j q (q.1, e9) hq h4 rfl
        subst hij
        exact hi (List.mem_of_getElem? h3)
      · have := (hP k q hq).lt
        omega
  obtain ⟨t2, a1, b1⟩ := kk T'.heap (locs ++ L) ⟨hPn, zput_D hD hadr, ⟨Nat.le_trans hS.1 hz, fun q h1 h2 => by rw [hk q (Nat.lt_of_lt_of_le h1 hS.1) (fun z => h2 (hF q z))]; exact hS.2.1 q h1 h2, fun q hq => by
      rcases List.mem_append.mp hq with h | h
      · exact hS.2.2 q h
      · exact hF _ (hL q h)⟩⟩ T' rfl X'
  exact ⟨t2, st t2 a1, b1⟩
variable {y : MethodName} {bytes : ByteArray} {maxL n idx : Nat} {ret : Option FieldType} {rm : Room} {o : Option Value} {b : Nat} {As : List Value}
theorem zk_cV {C0 : String} {ci q0 : Nat} {q : vw_C} {fs : List Value} (C : zCx p m c s args meth cc nL own G cy tt A) (hw : zWd G A s.heap H locs w) (hM : zCT l y bytes maxL ret rm G cy tt (.ref b :: As) wc o wc') (hY : zMY C0 y bytes maxL ret n) (hlink : Cond.methodLink own idx y ∈ zTB)
    (hcl : vwCl[ci]? = some q) (hq : q.1 = C0) (he : w[q0]? = some (b, .inr (ci, fs))) (isC : List Nat) (hC : isC.map (fun i => w[i]?) = wc.map some) (hnd : va_nd isC = true) (hC' : isC.map (fun i => w'[i]?) = wc'.map some) {mk : List (Option (Nat × va_E))} (hput : zsel w mk = w') (hmk : zmk isC 0 mk = true) (hadr : w'.map (fun q => q.1) = w.map (fun q => q.1))
    {st0 st1 : List Value} (hst : st0 = As.reverse ++ .ref b :: rest) (hst1 : o.toList ++ rest = st1) (hl : ls.size = nL) (hrm : rm.cells = 0 ∧ rm.slots = 0) (hR : rm.frames + 1 ≤ R.frames ∧ 8 + (maxL + 11) + rm.locals ≤ R.locals) (hn : As.length = n) (hroom : (rest.map fun v => v.category).sum ≤ 8) (hcs : cells ≤ R.cells ∧ slots ≤ R.slots) (hdg : decode cc pc = .ok (.invokevirtual idx, 3))
    (kk : ∀ (H : Heap) (locs : List Loc), zWd G A s.heap H locs w' → W p l e R s m args below meth c H locs cells slots Q (F0 m (pc + 3) ls st1)) : W p l e R s m args below meth c H locs cells slots Q (F0 m pc ls st0) := by
  obtain ⟨y1, y2, y3, y4, y5⟩ := hY
  have hts := C.1.2.2.2.2
  have hpre := zk_pre (av := .ref b :: As) C hw isC hC hnd
  have hrc := va_recv C.2.2.1 hw.1 hcl he
  rw [hq] at hrc
  exact zk_af hst1 C hw isC hC hC' hput hmk hadr (va_runV (C := C0) (n := n) (Ts := zTB) C.1 (hM H.size) ⟨callB_of n hts (zt_inT y4) rfl hrm.1 hrm.2 (hts _ y3) (hts _ hlink) y5 hR, hts _ y1, hts _ y2⟩ ⟨hpre.1, hrc, hpre.2⟩ rfl hn hl hst (lv_room hroom) hdg hcs) kk
theorem zk_cVN {C0 host : String} {ci q0 : Nat} {q : vw_C} {fs : List Value} (C : zCx p m c s args meth cc nL own G cy tt A) (hw : zWd G A s.heap H locs w) (hM : zCT l y bytes maxL ret rm G cy tt (.ref b :: As) wc o wc') (hY : zMY C0 y bytes maxL ret n) (hlink : Cond.methodLinkNest own idx y host ∈ zNL)
    (hcl : vwCl[ci]? = some q) (hq : q.1 = C0) (he : w[q0]? = some (b, .inr (ci, fs))) (isC : List Nat) (hC : isC.map (fun i => w[i]?) = wc.map some) (hnd : va_nd isC = true) (hC' : isC.map (fun i => w'[i]?) = wc'.map some) {mk : List (Option (Nat × va_E))} (hput : zsel w mk = w') (hmk : zmk isC 0 mk = true) (hadr : w'.map (fun q => q.1) = w.map (fun q => q.1))
    {st0 st1 : List Value} (hst : st0 = As.reverse ++ .ref b :: rest) (hst1 : o.toList ++ rest = st1) (hl : ls.size = nL) (hrm : rm.cells = 0 ∧ rm.slots = 0) (hR : rm.frames + 1 ≤ R.frames ∧ 8 + (maxL + 11) + rm.locals ≤ R.locals) (hn : As.length = n) (hroom : (rest.map fun v => v.category).sum ≤ 8) (hcs : cells ≤ R.cells ∧ slots ≤ R.slots) (hdg : decode cc pc = .ok (.invokevirtual idx, 3))
    (kk : ∀ (H : Heap) (locs : List Loc), zWd G A s.heap H locs w' → W p l e R s m args below meth c H locs cells slots Q (F0 m (pc + 3) ls st1)) : W p l e R s m args below meth c H locs cells slots Q (F0 m pc ls st0) := by
  obtain ⟨y1, y2, y3, y4, y5⟩ := hY
  have hts := C.1.2.2.2.2
  have hpre := zk_pre (av := .ref b :: As) C hw isC hC hnd
  have hrc := va_recv C.2.2.1 hw.1 hcl he
  rw [hq] at hrc
  exact zk_af hst1 C hw isC hC hC' hput hmk hadr (va_runVN (C := C0) (n := n) (Ts := zTB) C.1 (hM H.size) ⟨va_cnB n hts (zt_inT y4) rfl hrm.1 hrm.2 (C.2.2.2.1 _ hlink) (hts _ y3) y5 hR, hts _ y1, hts _ y2⟩ ⟨hpre.1, hrc, hpre.2⟩ rfl hn hl hst (lv_room hroom) hdg hcs) kk
theorem zk_cS (C : zCx p m c s args meth cc nL own G cy tt A) (hw : zWd G A s.heap H locs w) (hM : zCT l y bytes maxL ret rm G cy tt As wc o wc') (hY : zMS y bytes maxL ret n) (hlink : Cond.methodLink own idx y ∈ zTB)
    (isC : List Nat) (hC : isC.map (fun i => w[i]?) = wc.map some) (hnd : va_nd isC = true) (hC' : isC.map (fun i => w'[i]?) = wc'.map some) {mk : List (Option (Nat × va_E))} (hput : zsel w mk = w') (hmk : zmk isC 0 mk = true) (hadr : w'.map (fun q => q.1) = w.map (fun q => q.1))
    {st0 st1 : List Value} (hst : st0 = As.reverse ++ rest) (hst1 : o.toList ++ rest = st1) (hl : ls.size = nL) (hrm : rm.cells = 0 ∧ rm.slots = 0) (hR : rm.frames + 1 ≤ R.frames ∧ 8 + (maxL + 11) + rm.locals ≤ R.locals) (hn : As.length = n) (hroom : (rest.map fun v => v.category).sum ≤ 8) (hcs : cells ≤ R.cells ∧ slots ≤ R.slots) (hdg : decode cc pc = .ok (.invokestatic idx, 3))
    (kk : ∀ (H : Heap) (locs : List Loc), zWd G A s.heap H locs w' → W p l e R s m args below meth c H locs cells slots Q (F0 m (pc + 3) ls st1)) : W p l e R s m args below meth c H locs cells slots Q (F0 m pc ls st0) := by
  obtain ⟨y1, y3, y4, y5⟩ := hY
  have hts := C.1.2.2.2.2
  have hpre := zk_pre (av := As) C hw isC hC hnd
  exact zk_af hst1 C hw isC hC hC' hput hmk hadr (va_runS (n := n) (Ts := zTB) C.1 (hM H.size) ⟨callB_of n hts (zt_inT y4) rfl hrm.1 hrm.2 (hts _ y3) (hts _ hlink) y5 hR, hts _ y1⟩ ⟨hpre.1, hpre.2⟩ rfl hn hl hst (lv_room hroom) hdg hcs) kk
theorem zk_cSN {host : String} (C : zCx p m c s args meth cc nL own G cy tt A) (hw : zWd G A s.heap H locs w) (hM : zCT l y bytes maxL ret rm G cy tt As wc o wc') (hY : zMS y bytes maxL ret n) (hlink : Cond.methodLinkNest own idx y host ∈ zNL)
    (isC : List Nat) (hC : isC.map (fun i => w[i]?) = wc.map some) (hnd : va_nd isC = true) (hC' : isC.map (fun i => w'[i]?) = wc'.map some) {mk : List (Option (Nat × va_E))} (hput : zsel w mk = w') (hmk : zmk isC 0 mk = true) (hadr : w'.map (fun q => q.1) = w.map (fun q => q.1))
    {st0 st1 : List Value} (hst : st0 = As.reverse ++ rest) (hst1 : o.toList ++ rest = st1) (hl : ls.size = nL) (hrm : rm.cells = 0 ∧ rm.slots = 0) (hR : rm.frames + 1 ≤ R.frames ∧ 8 + (maxL + 11) + rm.locals ≤ R.locals) (hn : As.length = n) (hroom : (rest.map fun v => v.category).sum ≤ 8) (hcs : cells ≤ R.cells ∧ slots ≤ R.slots) (hdg : decode cc pc = .ok (.invokestatic idx, 3))
    (kk : ∀ (H : Heap) (locs : List Loc), zWd G A s.heap H locs w' → W p l e R s m args below meth c H locs cells slots Q (F0 m (pc + 3) ls st1)) : W p l e R s m args below meth c H locs cells slots Q (F0 m pc ls st0) := by
  obtain ⟨y1, y3, y4, y5⟩ := hY
  have hts := C.1.2.2.2.2
  have hpre := zk_pre (av := As) C hw isC hC hnd
  exact zk_af hst1 C hw isC hC hC' hput hmk hadr (va_runSN (n := n) (Ts := zTB) C.1 (hM H.size) ⟨va_cnB n hts (zt_inT y4) rfl hrm.1 hrm.2 (C.2.2.2.1 _ hlink) (hts _ y3) y5 hR, hts _ y1, trivial⟩ ⟨hpre.1, hpre.2⟩ rfl hn hl hst (lv_room hroom) hdg hcs) kk
end ZA
section ZR
variable {p : Program} {l : Launch} {e : Env} {R : Room} {s : State} {m : MethodId} {args : Array Value} {below : List Frame} {meth : Method} {c : Code} {H : Heap} {locs : List Loc} {cells slots : Nat} {Q : State → Prop} {cc : ByteArray} {pc nL idx : Nat} {ls : Array Slot} {rest : List Value} {G : va_G} {cy : Nat → ClassId} {tt : Nat → Nat} {A : Nat → Prop} {a : Nat} {w w' wc wc' : va_W} {own : String}
theorem zk_ialdK {n : Nat} {f : Nat → Int32} {i : Int32} (k : Nat) (hk : i.toNatClampNeg = k) (C : zCx p m c s args meth cc nL own G cy tt A) (hw : zWd G A s.heap H locs w) (q0 : Nat) (ha : w[q0]? = some (a, .inl (cy 0, n, .inl f))) (hin : ix i n = true) (hdg : decode cc pc = .ok (.iaload, 1))
    (kk : W p l e R s m args below meth c H locs cells slots Q (F0 m (pc + 1) ls (.int (f k) :: rest))) : W p l e R s m args below meth c H locs cells slots Q (F0 m pc ls (.int i :: .ref a :: rest)) := by
  subst hk
  exact zk_iald C hw q0 ha hin hdg kk
theorem zk_iastK {n : Nat} {f : Nat → Int32} {i x : Int32} (k : Nat) (hk : i.toNatClampNeg = k) (C : zCx p m c s args meth cc nL own G cy tt A) (hw : zWd G A s.heap H locs w) (q0 : Nat) (ha : w[q0]? = some (a, .inl (cy 0, n, .inl f))) (hin : ix i n = true) (hset : w.set q0 (a, .inl (cy 0, n, .inl (upd f k x))) = w') (hdg : decode cc pc = .ok (.iastore, 1))
    (kk : ∀ (H : Heap) (locs : List Loc), zWd G A s.heap H locs w' → W p l e R s m args below meth c H locs cells slots Q (F0 m (pc + 1) ls rest)) : W p l e R s m args below meth c H locs cells slots Q (F0 m pc ls (.int x :: .int i :: .ref a :: rest)) := by
  subst hk
  exact zk_iast C hw q0 ha hin hset hdg kk
theorem zk_tabIn {x K : Int32} {dflt lo hi : Int} {offs : Array Int} {len : Nat} {off : Int} {tgt : Nat} (q : x = K) (C : zCx p m c s args meth cc nL own G cy tt A) (hdg : decode cc pc = .ok (.tableswitch dflt lo hi offs, len)) (h1 : ¬ K.toInt < lo) (h2 : ¬ hi < K.toInt) (ho : offs[(K.toInt - lo).toNat]? = some off) (ht : (pc : Int) + off = (tgt : Int))
    (k : W p l e R s m args below meth c H locs cells slots Q (F0 m tgt ls rest)) : W p l e R s m args below meth c H locs cells slots Q (F0 m pc ls (.int x :: rest)) := by
  subst q
  exact lv_tableIn C.1.1 C.1.2.1 hdg h1 h2 ho ht k
theorem zk_lkIn {x K : Int32} {dflt : Int} {ps : Array (Int × Int)} {len : Nat} {off : Int} {tgt : Nat} (q : x = K) (C : zCx p m c s args meth cc nL own G cy tt A) (hdg : decode cc pc = .ok (.lookupswitch dflt ps, len)) (hp : (ps.toList.zip (ps.toList.drop 1)).all (fun (a, next) => a.1 < next.1) = true) (ho : Op.lookupswitch.offset ps.toList dflt K.toInt = off) (ht : (pc : Int) + off = (tgt : Int))
    (k : W p l e R s m args below meth c H locs cells slots Q (F0 m tgt ls rest)) : W p l e R s m args below meth c H locs cells slots Q (F0 m pc ls (.int x :: rest)) := by
  subst q
  exact lv_lookup C.1.1 C.1.2.1 hdg hp ho ht k
theorem zk_max {x y : Int32} (C : zCx p m c s args meth cc nL own G cy tt A) (hl : ls.size = nL) (hlink : Cond.methodLink own idx Lib.Math.max.name ∈ zTB) (hR : 1 ≤ R.frames ∧ (rest.map fun v => v.category).sum + 13 ≤ R.locals) (hcs : cells ≤ R.cells ∧ slots ≤ R.slots) (hdg : decode cc pc = .ok (.invokestatic idx, 3))
    (kk : W p l e R s m args below meth c H locs cells slots Q (F0 m (pc + 3) ls (.int (if x < y then y else x) :: rest))) : W p l e R s m args below meth c H locs cells slots Q (F0 m pc ls (.int y :: .int x :: rest)) :=
  va_mmax C.1.1 C.1.2.1 (C.1.2.2.1.trans hl.symm) C.1.2.2.2.1 (C.1.2.2.2.2 _ hlink) (C.1.2.2.2.2 _ (zt_mem 495 (by decide +kernel) (by decide +kernel))) (C.1.2.2.2.2 _ (zt_mem 91 (by decide +kernel) (by decide +kernel))) (C.1.2.2.2.2 _ (zt_mem 496 (by decide +kernel) (by decide +kernel))) hR.1 hR.2 hcs.1 hcs.2 hdg kk
theorem zk_min {x y : Int32} (C : zCx p m c s args meth cc nL own G cy tt A) (hl : ls.size = nL) (hlink : Cond.methodLink own idx Lib.Math.min.name ∈ zTB) (hR : 1 ≤ R.frames ∧ (rest.map fun v => v.category).sum + 13 ≤ R.locals) (hcs : cells ≤ R.cells ∧ slots ≤ R.slots) (hdg : decode cc pc = .ok (.invokestatic idx, 3))
    (kk : W p l e R s m args below meth c H locs cells slots Q (F0 m (pc + 3) ls (.int (if y < x then y else x) :: rest))) : W p l e R s m args below meth c H locs cells slots Q (F0 m pc ls (.int y :: .int x :: rest)) :=
  va_mmin C.1.1 C.1.2.1 (C.1.2.2.1.trans hl.symm) C.1.2.2.2.1 (C.1.2.2.2.2 _ hlink) (C.1.2.2.2.2 _ (zt_mem 492 (by decide +kernel) (by decide +kernel))) (C.1.2.2.2.2 _ (zt_mem 91 (by decide +kernel) (by decide +kernel))) (C.1.2.2.2.2 _ (zt_mem 493 (by decide +kernel) (by decide +kernel))) hR.1 hR.2 hcs.1 hcs.2 hdg kk
theorem zk_sti {N : Nat} {f : Nat → Int32} {i : Int32} {t : Nat} (C : zCx p m c s args meth cc nL own G cy tt A) (hw : zWd G A s.heap H locs w) (hT : va_T .int t N (fun j => .int (f j)) A s s.heap) (hin : ix i N = true) (hdg : decode cc pc = .ok (.iaload, 1))
    (kk : W p l e R s m args below meth c H locs cells slots Q (F0 m (pc + 1) ls (.int (f i.toNatClampNeg) :: rest))) : W p l e R s m args below meth c H locs cells slots Q (F0 m pc ls (.int i :: .ref t :: rest)) :=
  va_ti C.1.1 C.1.2.1 hT hw.2.2 (ix_in hin) rfl hdg kk
theorem zk_stl {N : Nat} {f : Nat → Value} {v : Int32} {t : Nat} (C : zCx p m c s args meth cc nL own G cy tt A) (hw : zWd G A s.heap H locs w) (hT : va_T .int t N f A s s.heap) (hv : Int32.ofNat N = v) (hdg : decode cc pc = .ok (.arraylength, 1))
    (kk : W p l e R s m args below meth c H locs cells slots Q (F0 m (pc + 1) ls (.int v :: rest))) : W p l e R s m args below meth c H locs cells slots Q (F0 m pc ls (.ref t :: rest)) :=
  va_tlen C.1.1 C.1.2.1 hT hw.2.2 hv hdg kk
theorem zk_aaldT {n a' : Nat} {f : Nat → Option Nat} {i : Int32} (k : Nat) (hk : i.toNatClampNeg = k) (C : zCx p m c s args meth cc nL own G cy tt A) (hw : zWd G A s.heap H locs w) (q0 : Nat) (ha : w[q0]? = some (a, .inl (cy 4, n, .inr (.inr (.inr (.inr f)))))) (hin : ix i n = true) (hf : f k = some a') (hdg : decode cc pc = .ok (.aaload, 1))
    (kk : W p l e R s m args below meth c H locs cells slots Q (F0 m (pc + 1) ls (.ref a' :: rest))) : W p l e R s m args below meth c H locs cells slots Q (F0 m pc ls (.int i :: .ref a :: rest)) := by
  subst hk
  refine va_aldq C.1.1 C.1.2.1 C.2.2.1 hw.1 q0 4 ha rfl (ix_in hin) hdg ?_
  rw [hf]
  exact kk
theorem zk_aaldJ {n a' : Nat} {f : Nat → Option Nat} {i : Int32} (k : Nat) (hk : i.toNatClampNeg = k) (C : zCx p m c s args meth cc nL own G cy tt A) (hw : zWd G A s.heap H locs w) (q0 : Nat) (ha : w[q0]? = some (a, .inl (cy 5, n, .inr (.inr (.inr (.inr f)))))) (hin : ix i n = true) (hf : f k = some a') (hdg : decode cc pc = .ok (.aaload, 1))
    (kk : W p l e R s m args below meth c H locs cells slots Q (F0 m (pc + 1) ls (.ref a' :: rest))) : W p l e R s m args below meth c H locs cells slots Q (F0 m pc ls (.int i :: .ref a :: rest)) := by
  subst hk
  have hi := ix_in hin
  have hlt : i.toNatClampNeg < n := Nat.not_le.mp fun q => hi (Or.inr q)
  refine W.aald (v := va_rf (f i.toNatClampNeg)) (ty := .array .long) C.1.1 C.1.2.1 (hw.1 q0 _ ha) ((C.2.2.1.2 5 _ rfl).1 n (fun j => va_rf (f j))) rfl (fun q => by cases q) (by show ¬ (i < 0 ∨ (arrV _ _ _).slots.size ≤ _); rw [arrV_size]; exact hi) (by show (arrV _ _ _).slots[_]? = _; rw [arrV_read _ _ hlt]) rfl rfl hdg ?_
  rw [hf]
  exact kk
theorem ix8 {i : Int32} (h : ix i 8 = true) : i.toNatClampNeg = 0 ∨ i.toNatClampNeg = 1 ∨ i.toNatClampNeg = 2 ∨ i.toNatClampNeg = 3 ∨ i.toNatClampNeg = 4 ∨ i.toNatClampNeg = 5 ∨ i.toNatClampNeg = 6 ∨ i.toNatClampNeg = 7 := by
  have hi := ix_in h
  have hlt : i.toNatClampNeg < 8 := Nat.not_le.mp fun q => hi (Or.inr q)
  omega
/-- arraycopy stays within both rows -/
def cpOk (sp dp n : Int32) (n0 n1 : Nat) : Bool := decide (0 ≤ sp.toInt ∧ 0 ≤ dp.toInt ∧ 0 ≤ n.toInt ∧ sp.toInt + n.toInt ≤ n0 ∧ dp.toInt + n.toInt ≤ n1)
theorem zk_copyJ {n0 n1 a0 : Nat} {f g : Nat → Int64} {sp dp n : Int32} (C : zCx p m c s args meth cc nL own G cy tt A) (hw : zWd G A s.heap H locs w) (hl : ls.size = nL) (hlink : Cond.methodLink own idx arraycopyName ∈ zTB) (q0 q1 : Nat) (ha0 : w[q0]? = some (a0, .inl (cy 1, n0, .inr (.inl f)))) (ha1 : w[q1]? = some (a, .inl (cy 1, n1, .inr (.inl g)))) (hok : cpOk sp dp n n0 n1 = true)
    (hR : 1 ≤ R.frames ∧ (rest.map fun v => v.category).sum + (nativeFrameWords "java/lang/System" "arraycopy" 5 + 11) ≤ R.locals) (hset : w.set q1 (a, .inl (cy 1, n1, .inr (.inl (va_cpy f g sp.toNatClampNeg dp.toNatClampNeg n.toNatClampNeg)))) = w') (hdg : decode cc pc = .ok (.invokestatic idx, 3))
    (kk : ∀ (H : Heap) (locs : List Loc), zWd G A s.heap H locs w' → W p l e R s m args below meth c H locs cells slots Q (F0 m (pc + 3) ls rest)) : W p l e R s m args below meth c H locs cells slots Q (F0 m pc ls (.int n :: .int dp :: .ref a :: .int sp :: .ref a0 :: rest)) := by
  obtain ⟨k1, k2, k3, k4, k5⟩ : 0 ≤ sp.toInt ∧ 0 ≤ dp.toInt ∧ 0 ≤ n.toInt ∧ sp.toInt + n.toInt ≤ n0 ∧ dp.toInt + n.toInt ≤ n1 := of_decide_eq_true hok
  have nn : ∀ z : Int32, 0 ≤ z.toInt → z.toInt = (z.toNatClampNeg : Int) := fun z hz => by
    show z.toInt = ((z.toInt.toNat : Nat) : Int)
    omega
  have ng : ∀ z : Int32, 0 ≤ z.toInt → ¬ z < 0 := fun z hz h => by
    have h := Int32.lt_iff_toInt_lt.mp h
    have h0 : (0 : Int32).toInt = 0 := rfl
    omega
  have e1 := nn sp k1
  have e2 := nn dp k2
  have e3 := nn n k3
  exact va_copyl C.1.1 C.1.2.1 (C.1.2.2.1.trans hl.symm) C.1.2.2.2.1 (C.1.2.2.2.2 _ hlink) (C.1.2.2.2.2 _ (zt_mem 440 (by decide +kernel) (by decide +kernel))) (C.1.2.2.2.2 _ (zt_mem 439 (by decide +kernel) (by decide +kernel))) (C.1.2.2.2.2 _ (zt_mem 90 (by decide +kernel) (by decide +kernel))) C.2.2.1 hw.1 hw.2.1 hw.2.2 q0 q1 1 1 ha0 ha1 rfl rfl rfl (ng sp k1) (ng dp k2) (ng n k3) (by omega) (by omega) (fun _ _ => rfl) hR.1 hR.2 hdg (fun H1 l1 g1 g2 g3 => kk H1 l1 (by rw [← hset]; exact ⟨g1, g2, g3⟩))
/-- the k-th char of a text constant -/
def zCH (i k : Nat) : Int32 := (zBYT.getD i []).getD k 0
end ZR
theorem zm_X2_60 : Cond.methodLink RX2 60 Lib.Math.min.name ∈ zTB := zt_mem 491 (by decide +kernel) (by decide +kernel)
theorem zm_X2_66 : Cond.methodLink RX2 66 Lib.Math.max.name ∈ zTB := zt_mem 494 (by decide +kernel) (by decide +kernel)
theorem zm_X5_55 : Cond.methodLink RX5 55 Lib.Math.min.name ∈ zTB := zt_mem 749 (by decide +kernel) (by decide +kernel)
theorem zm_X5_61 : Cond.methodLink RX5 61 Lib.Math.max.name ∈ zTB := zt_mem 750 (by decide +kernel) (by decide +kernel)
theorem zm_X6_71 : Cond.methodLink RX6 71 Lib.Math.min.name ∈ zTB := zt_mem 798 (by decide +kernel) (by decide +kernel)
theorem zm_X7_406 : Cond.methodLink RX7 406 Lib.Math.max.name ∈ zTB := zt_mem 874 (by decide +kernel) (by decide +kernel)
theorem zm_X8_59 : Cond.methodLink RX8 59 Lib.Math.min.name ∈ zTB := zt_mem 1287 (by decide +kernel) (by decide +kernel)
theorem zm_X8_65 : Cond.methodLink RX8 65 Lib.Math.max.name ∈ zTB := zt_mem 1288 (by decide +kernel) (by decide +kernel)
theorem zm_X1_49 : Cond.methodLink RX1 49 arraycopyName ∈ zTB := zt_mem 438 (by decide +kernel) (by decide +kernel)
theorem zg_X7_390 : Cond.fieldLink RX7 390 "UnderNurseToTheTemper" "ABOVE" "[I" ∈ zTB := zt_mem 478 (by decide +kernel) (by decide +kernel)
theorem zg_X7_384 : Cond.fieldLink RX7 384 "UnderNurseToTheTemper" "LEAST" "[I" ∈ zTB := zt_mem 524 (by decide +kernel) (by decide +kernel)
theorem zg_X7_387 : Cond.fieldLink RX7 387 "UnderNurseToTheTemper" "MOST" "[I" ∈ zTB := zt_mem 526 (by decide +kernel) (by decide +kernel)
