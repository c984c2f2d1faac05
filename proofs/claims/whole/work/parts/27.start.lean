/-! THE CLAIM OUT OF ONE WALK OF THE LAW'S BODY. Your part is whole_start (and what it stands on); all else here is the same for every law, but numbers. -/
def R_law : String := "UnderNurseToTheTemperLaw"
def lw_P (b : Addr) (xs : List Int32) (args : Array Value) (s : State) : Prop := args = #[.ref b] ∧ s.IntsAt b xs ∧ xs.length ≤ 3072 ∧ (Jvm.Cond.and given_1 narrow_1).before args s = true
def lw_Q (_ : Array Value) (s : State) (o : Outcome) (t : State) : Prop := o = .returned (some (.int 1)) ∧ Framed s o t [] 600000 7302250
def lw_Z (below : List Frame) (a : Array Value) (s : State) : State → Prop := fun t => ∃ o, t.status = .running ∧ Ended t below o ∧ lw_Q a s o t
/-- the law's own end, with 1 on the stack, nothing written that was there before, its room as the claim has it -/
theorem lw_ret {p : Program} {l : Launch} {e : Env} {s : State} {m : MethodId} {below : List Frame} {meth : Method} {c : Code} {b : Nat} (hx : p.tables.exec = Jvm.exec) (hb : c.code = code) (hr : meth.sig.returnType = ret) (hlocks : meth.locks = false) {pc : Nat} {H : Heap} {ls : Array Slot} (hdg : decode code pc = .ok (.ireturn, 1)) : W p l e room_1 s m #[Value.ref b] below meth c H [] 600000 7302250 (lw_Z below #[Value.ref b] s) (F0 m pc ls [.int 1]) := by
  intro T hT X
  obtain ⟨fs, hret, hrun, hended, hW, hframe⟩ := X.leave (v := some (.int 1)) (hlocks := hlocks) (fun h => by rw [hr] at h; cases h)
  have hmeth' : T.vm.method? m = some meth := X.method'
  refine ⟨T.setFrames fs, ?_, .returned (some (.int 1)), hrun, hended, rfl, ⟨_, rfl⟩, hW, hframe⟩
  jvm_step X.here [X.here.top, hx, hb, hdg, hmeth', hr, ret, narrow_b1]
  (try refine ⟨rfl, ?_⟩); (try refine ⟨rfl, ?_⟩)
  first | (intro acts; rw [hret _ acts rfl rfl rfl]) | rw [hret _ _ rfl rfl rfl]
  exact Steps.refl _
/-- what holds at the law's entry: the machine, the code, the tables' words (any of lw_tbl by 'hts w (by decide +kernel)'), the script of L ints xs at the cell b, what the Statement gives of the start (any of its parts by flat_of_before) -/
def lw_At (p : Program) (s : State) (m : MethodId) (meth : Method) (c : Code) (b L : Nat) (xs : Nat → Int32) : Prop :=
  p.tables.exec = Jvm.exec ∧ c.code = code ∧ meth.sig.returnType = ret ∧ c.maxLocals = 4 ∧ s.vm.findClass R_law = some m.cls ∧ (∀ w ∈ lw_tbl, w.before #[Value.ref b] s = true) ∧ va_X b L xs s s.heap ∧ b < s.heap.size ∧ meth.locks = false ∧ (Jvm.Cond.and given_1 narrow_1).before #[Value.ref b] s = true
theorem zt_sub {w : Cond} (h : w ∈ zTB) : w ∈ lw_tbl := (List.mem_filter.mp h).1
section ST
variable {args : Array Value} {s : State}
abbrev zFL0 : List Cond := flatC (Jvm.Cond.and given_1 narrow_1)
theorem zS_arr (hf : ∀ c ∈ zFL0, c.before args s = true) (hts : ∀ w ∈ lw_tbl, w.before args s = true) {nm : String} {N : Nat} {g : Nat → Int32} (hN : N < 2 ^ 31) (h1 : Cond.arrayOf (.static "UnderNurseToTheTemper" nm "[I") .int ∈ zFL0) (h2 : Cond.eq (.length (.static "UnderNurseToTheTemper" nm "[I")) (.int (Int32.ofNat N)) ∈ zFL0) (h3 : ∀ j, j < N → Cond.eq (.elem (.static "UnderNurseToTheTemper" nm "[I") (.int (Int32.ofNat j))) (.int (g j)) ∈ zFL0) (h4 : Cond.laysStatic "UnderNurseToTheTemper" nm "[I" ∈ lw_tbl) (h5 : Cond.initialized "UnderNurseToTheTemper" ∈ lw_tbl) :
    ∃ t, va_Z "UnderNurseToTheTemper" nm "[I" (.ref t) (fun q => s.heap.size ≤ q) s s.heap ∧ va_T .int t N (fun j => .int (g j)) (fun q => s.heap.size ≤ q) s s.heap := by
  obtain ⟨t, e1, e2⟩ := va_Tof (f := fun j => .int (g j)) (A := fun q => s.heap.size ≤ q) hN (hf _ h1) (va_eqt (hf _ h2)) (fun j hj => va_eqt (hf _ (h3 j hj))) (fun a ha => Nat.not_le.mpr ha)
  exact ⟨t, va_Zof (hts _ h4) (hts _ h5) e1 (fun a ha => Nat.not_le.mpr ha), e2⟩
set_option maxRecDepth 100000 in
theorem zS_of (hgv : (Jvm.Cond.and given_1 narrow_1).before args s = true) (hts : ∀ w ∈ lw_tbl, w.before args s = true) : ∃ tt, zST tt (fun q => s.heap.size ≤ q) s s.heap := by
  have hf : ∀ c ∈ zFL0, c.before args s = true := flat_of_before _ hgv
  have hA : ∀ a : Nat, a < s.heap.size → ¬ (fun q => s.heap.size ≤ q) a := fun a ha => Nat.not_le.mpr ha
  obtain ⟨t0, a1, a2⟩ := zS_arr (nm := "ABOVE") (N := 6) (g := zABV) hf hts (by decide) (by decide +kernel) (by decide +kernel) (by decide +kernel) (by decide +kernel) (by decide +kernel)
  obtain ⟨t1, b1, b2⟩ := zS_arr (nm := "LEAST") (N := 5) (g := zLEA) hf hts (by decide) (by decide +kernel) (by decide +kernel) (by decide +kernel) (by decide +kernel) (by decide +kernel)
  obtain ⟨t2, c1, c2⟩ := zS_arr (nm := "MOST") (N := 5) (g := zMOS) hf hts (by decide) (by decide +kernel) (by decide +kernel) (by decide +kernel) (by decide +kernel) (by decide +kernel)
  have m1 : ∀ i, i < 7 → Cond.exactly (.string "UnderNurseToTheTemper$Tape" (zSIX i)) "java/lang/String" ∈ zFL0 := by decide +kernel
  have m2 : ∀ i, i < 7 → Cond.eq (.field (.string "UnderNurseToTheTemper$Tape" (zSIX i)) "java/lang/String" "coder" "B") (.int 0) ∈ zFL0 := by decide +kernel
  have m3 : ∀ i, i < 7 → Cond.arrayOf (.field (.string "UnderNurseToTheTemper$Tape" (zSIX i)) "java/lang/String" "value" "[B") .byte ∈ zFL0 := by decide +kernel
  have m4 : ∀ i, i < 7 → Cond.eq (.length (.field (.string "UnderNurseToTheTemper$Tape" (zSIX i)) "java/lang/String" "value" "[B")) (.int (Int32.ofNat (zLEN.getD i 0))) ∈ zFL0 := by decide +kernel
  have m5 : ∀ i, i < 7 → ∀ j, j < zLEN.getD i 0 → Cond.eq (.elem (.field (.string "UnderNurseToTheTemper$Tape" (zSIX i)) "java/lang/String" "value" "[B") (.int (Int32.ofNat j))) (.int ((zBYT.getD i []).getD j 0)) ∈ zFL0 := by decide +kernel
  have m6 : ∀ i, i < 7 → ∀ j, j < 7 → i ≠ j → (Cond.not (Cond.eq (.string "UnderNurseToTheTemper$Tape" (zSIX i)) (.string "UnderNurseToTheTemper$Tape" (zSIX j))) ∈ zFL0 ∨ Cond.not (Cond.eq (.string "UnderNurseToTheTemper$Tape" (zSIX j)) (.string "UnderNurseToTheTemper$Tape" (zSIX i))) ∈ zFL0) := by decide +kernel
  have m7 : ∀ i, i < 7 → Cond.stringRef "UnderNurseToTheTemper$Tape" (zSIX i) (zSTX i) ∈ lw_tbl := by decide +kernel
  obtain ⟨adK, adV, hs, hev⟩ := vk_Sof (N := 7) (tm := fun i => .string "UnderNurseToTheTemper$Tape" (zSIX i)) (len := zLEN) (byt := zBYT) (A := fun q => s.heap.size ≤ q) (by decide) (fun i hi => hf _ (m1 i hi)) (fun i hi => hf _ (m2 i hi)) (fun i hi => hf _ (m3 i hi)) (fun i hi => hf _ (m4 i hi)) (fun i hi j hj => hf _ (m5 i hi j hj)) (fun i j hi hj hne => (m6 i hi j hj hne).elim (fun h => Or.inl (hf _ h)) (fun h => Or.inr (hf _ h))) hA
  have k1 : va_Z "java/lang/String" "COMPACT_STRINGS" "Z" (.int 1) (fun q => s.heap.size ≤ q) s s.heap := va_Zof (hts _ (by decide +kernel)) (hts _ (by decide +kernel)) (va_eqi (hf _ (by decide +kernel))) hA
  have k2 : va_Zq "jdk/internal/util/Preconditions" "SIOOBE_FORMATTER" "Ljava/util/function/BiFunction;" (fun q => s.heap.size ≤ q) s s.heap := va_Zqof (hts _ (by decide +kernel)) (hts _ (by decide +kernel)) (hf _ (by decide +kernel)) hA
  obtain ⟨tt, htt⟩ : ∃ tt : Nat → Nat, tt = fun k => if k = 0 then t0 else if k = 1 then t1 else if k = 2 then t2 else if k < 20 then adK (k - 10) else adV (k - 20) := ⟨_, rfl⟩
  have e0 : tt 0 = t0 := by rw [htt]; rfl
  have e1 : tt 1 = t1 := by rw [htt]; rfl
  have e2 : tt 2 = t2 := by rw [htt]; rfl
  have eK : ∀ i, i < 7 → tt (10 + i) = adK i := fun i hi => by rw [htt]; show (if 10 + i = 0 then _ else _) = _; rw [if_neg (by omega), if_neg (by omega), if_neg (by omega), if_pos (by omega)]; congr 1; omega
  have eV : ∀ i, i < 7 → tt (20 + i) = adV i := fun i hi => by rw [htt]; show (if 20 + i = 0 then _ else _) = _; rw [if_neg (by omega), if_neg (by omega), if_neg (by omega), if_neg (by omega)]; congr 1; omega
  refine ⟨tt, ⟨by rw [e0]; exact a1, by rw [e0]; exact a2⟩, ⟨by rw [e1]; exact b1, by rw [e1]; exact b2⟩, ⟨by rw [e2]; exact c1, by rw [e2]; exact c2⟩, ⟨fun i hi => ?_, fun i j hi hj h => ?_⟩, fun i hi => ?_, k1, k2⟩
  · show va_O _ (tt (10 + i)) _ _ _ ∧ va_OF _ _ _ _ (tt (10 + i)) _ _ _ ∧ va_OF _ _ _ (.ref (tt (20 + i))) (tt (10 + i)) _ _ _ ∧ va_T _ (tt (20 + i)) _ _ _ _ _
    rw [eK i hi, eV i hi]
    exact hs.1 i hi
  · have h : tt (10 + i) = tt (10 + j) := h
    rw [eK i hi, eK j hj] at h
    exact hs.2 i j hi hj h
  · rw [eK i hi]
    exact vk_R.of (hts _ (m7 i hi)) (hev i hi)
theorem zA_of {ty : FieldType} (h : (Cond.arrayClass ty).before args s = true) : ∃ cA, ArrOfT s cA ty ∧ s.vm.findClass ("[" ++ ty.toString) = some cA := by
  obtain ⟨c, k, comp, h1, h2, h3⟩ := Cond.arrayClass_spec h
  exact ⟨c, fun n z => ⟨fun k h => (by cases h), k, h2, comp, h3⟩, h1⟩
end ST
set_option maxRecDepth 100000 in
theorem zC_of {p : Program} {s : State} {m : MethodId} {meth : Method} {c : Code} {b L : Nat} {xs : Nat → Int32} (C0 : lw_At p s m meth c b L xs) : ∃ (G : va_G) (cy : Nat → ClassId) (tt : Nat → Nat), zCx p m c s #[Value.ref b] meth cL_law 4 RL G cy tt (fun q => s.heap.size ≤ q) ∧ zAO s := by
  obtain ⟨hx, hb, hr, hml, hown, hts, hX, hbl, hlocks, hgv⟩ := C0
  obtain ⟨tt, hT⟩ := zS_of hgv hts
  have hsel : ∀ w ∈ zTB, w.before #[Value.ref b] s = true := fun w h => hts w (zt_sub h)
  obtain ⟨c0, i0, n0⟩ := u_known (C := RX0) (T := TX0) (N := 6) (n := 6) hsel zu_X0 (hsel (Cond.instantiable RX0 6) (zt_mem 266 (by decide +kernel) (by decide +kernel)))
  obtain ⟨c1, i1, n1⟩ := u_known (C := RX1) (T := TX1) (N := 3) (n := 3) hsel zu_X1 (hsel (Cond.instantiable RX1 3) (zt_mem 176 (by decide +kernel) (by decide +kernel)))
  obtain ⟨c2, i2, n2⟩ := u_known (C := RX2) (T := TX2) (N := 5) (n := 5) hsel zu_X2 (hsel (Cond.instantiable RX2 5) (zt_mem 150 (by decide +kernel) (by decide +kernel)))
  obtain ⟨c3, i3, n3⟩ := u_known (C := RX3) (T := TX3) (N := 3) (n := 3) hsel zu_X3 (hsel (Cond.instantiable RX3 3) (zt_mem 296 (by decide +kernel) (by decide +kernel)))
  obtain ⟨c4, i4, n4⟩ := u_known (C := RX4) (T := TX4) (N := 6) (n := 6) hsel zu_X4 (hsel (Cond.instantiable RX4 6) (zt_mem 195 (by decide +kernel) (by decide +kernel)))
  obtain ⟨c5, i5, n5⟩ := u_known (C := RX5) (T := TX5) (N := 7) (n := 7) hsel zu_X5 (hsel (Cond.instantiable RX5 7) (zt_mem 105 (by decide +kernel) (by decide +kernel)))
  obtain ⟨c6, i6, n6⟩ := u_known (C := RX6) (T := TX6) (N := 9) (n := 9) hsel zu_X6 (hsel (Cond.instantiable RX6 9) (zt_mem 221 (by decide +kernel) (by decide +kernel)))
  obtain ⟨c7, i7, n7⟩ := u_known (C := RX7) (T := TX7) (N := 18) (n := 18) hsel zu_X7 (hsel (Cond.instantiable RX7 18) (zt_mem 97 (by decide +kernel) (by decide +kernel)))
  obtain ⟨c8, i8, n8⟩ := u_known (C := RX8) (T := TX8) (N := 26) (n := 26) hsel zu_X8 (hsel (Cond.instantiable RX8 26) (zt_mem 1058 (by decide +kernel) (by decide +kernel)))
  obtain ⟨dC, dI, hKc⟩ : ∃ (dC : Nat → ClassId) (dI : Nat → Nat → Nat), ∀ (k : Nat) (q : vw_C), vwCl[k]? = some q → u_Kn s q.1 q.2.1 q.2.2 (dC k) (dI k) := by
    refine ⟨fun k => [c0, c1, c2, c3, c4, c5, c6, c7, c8].getD k c0, fun k => [i0, i1, i2, i3, i4, i5, i6, i7, i8].getD k i0, ?_⟩
    intro k q hq
    match k, hq with
    | 0, hq => cases hq; exact n0
    | 1, hq => cases hq; exact n1
    | 2, hq => cases hq; exact n2
    | 3, hq => cases hq; exact n3
    | 4, hq => cases hq; exact n4
    | 5, hq => cases hq; exact n5
    | 6, hq => cases hq; exact n6
    | 7, hq => cases hq; exact n7
    | 8, hq => cases hq; exact n8
    | k + 9, hq => simp at hq
  have hO : (Cond.arrayOver (.object "UnderNurseToTheTemper$Temper")).before #[Value.ref b] s = true := hts _ (by decide +kernel)
  have hOA : (Cond.arrayOver (.array .long)).before #[Value.ref b] s = true := hts _ (by decide +kernel)
  obtain ⟨aI, g0, f0⟩ := zA_of (hsel _ zac_int)
  obtain ⟨aJ, g1, f1⟩ := zA_of (hsel _ zac_long)
  obtain ⟨aZ, g2, f2⟩ := zA_of (hsel _ zac_boolean)
  obtain ⟨aC, g3, f3⟩ := zA_of (hsel _ zac_char)
  obtain ⟨oc, aT, ok, o1, -, o3, o4, o5⟩ := Cond.arrayOver_spec hO
  obtain ⟨pc, aJJ, pk, p1, p3, p4, p5⟩ := Cond.arrayOver_specA hOA
  refine ⟨(dC, dI), fun k => [aI, aJ, aZ, aC, aT, aJJ].getD k aI, tt, ⟨⟨hx, hb, hml, hown, hsel⟩, hlocks, ⟨hKc, fun k q hq => ?_⟩, fun w hw => ?_, hT, fun _ h => h⟩, hO, hOA⟩
  · match k, hq with
    | 0, hq => cases hq; exact ⟨g0, f0⟩
    | 1, hq => cases hq; exact ⟨g1, f1⟩
    | 2, hq => cases hq; exact ⟨g2, f2⟩
    | 3, hq => cases hq; exact ⟨g3, f3⟩
    | 4, hq => cases hq; exact ⟨fun n z => ⟨fun k h => (by cases h), ok, o3, oc, o4⟩, ok, oc, o3, o4, o1, o5⟩
    | 5, hq => cases hq; exact ⟨fun n z => ⟨fun k h => (by cases h), pk, p3, pc, p4⟩, p5⟩
    | k + 6, hq => simp at hq
  · have hin : ∀ w ∈ zNL, w ∈ lw_tbl ∧ w.onTables = true := by decide +kernel
    exact va_Nw.of (hin w hw).2 (hts w (hin w hw).1)
set_option maxHeartbeats 4000000 in
set_option maxRecDepth 100000 in
theorem law_loop (hp : PLA) {p : Program} {l : Launch} {e : Env} {s : State} {m : MethodId} {below : List Frame} {meth : Method} {c : Code} {cells slots : Nat} {G : va_G} {cy : Nat → ClassId} {tt : Nat → Nat} {L M : Nat → Nat} {b Ln : Nat} {xs : Nat → Int32} (C : zCx p m c s #[Value.ref b] meth cL_law 4 RL G cy tt (fun q => s.heap.size ≤ q)) (hr : meth.sig.returnType = ret) (hX : va_X b Ln xs s s.heap) (hbl : b < s.heap.size) (hL : Ln ≤ 3072) (hcs : cells ≤ 600000 ∧ slots ≤ 7302250) : ∀ (n j : Nat), Ln + 6 - 6 * j < n → 6 * j ≤ Ln + 6 → ∀ (σ : CS) (μ : MS) (H : Heap) (locs : List Loc) (ls : Array Slot), REL j σ μ → zWd G (fun q => s.heap.size ≤ q) s.heap H locs (zWU cy L σ ++ zWM cy M μ) → lv_has ls 4 [(0, .ref b), (1, .ref (L 0)), (2, .ref (M 0)), (3, .int (nI (6 * j)))] → W p l e room_1 s m #[Value.ref b] below meth c H locs cells slots (lw_Z below #[Value.ref b] s) (F0 m 18 ls []) := by
  intro n
  induction n with
  | zero => intro j h; omega
  | succ n ih =>
    intro j hn hj σ μ H locs ls hrel hw hl
    have hx := C.1.1
    have hb := C.1.2.1
    have hbA : ¬ (fun q => s.heap.size ≤ q) b := Nat.not_le.mpr hbl
    have eL : (Int32.ofNat Ln - 6).toInt = (Ln : Int) - 6 := pk_sub_toInt (a := Ln) (b := 6) (by omega) (by decide)
    have eJ : (nI (6 * j)).toInt = ((6 * j : Nat) : Int) := nI_toInt (by omega)
    refine lv_iload_n (pc := 18) hx hb dL_law_18 rfl (lv_at hl 3 rfl) ?_
    refine lv_aload_n (pc := 19) hx hb dL_law_19 rfl (lv_at hl 0 rfl) ?_
    refine va_slen (pc := 20) hx hb hX hbl hbA hw.2.2 dL_law_20 ?_
    refine lv_bipush (pc := 21) (v := 6) hx hb dL_law_21 (by decide) ?_
    refine lv_isub (pc := 23) hx hb dL_law_23 ?_
    refine lv_icmp_gt (pc := 24) (tgt := 1890) hx hb dL_law_24 (by decide) (fun q => ?_) (fun q => ?_)
    · refine lv_iconst (pc := 1890) (v := 1) hx hb dL_law_1890 (by decide) ?_
      refine va_forget (fun q hq => hw.2.2.2.2 q hq) ?_
      refine W.widen (k := 600000) (n := 7302250) hcs.1 hcs.2 ?_
      exact lw_ret hx hb hr C.2.1 dL_law_1891
    · have hle : 6 * j + 6 ≤ Ln := by
        have q2 : ¬ (Int32.ofNat Ln - 6).toInt < (nI (6 * j)).toInt := fun z => q (Int32.lt_iff_toInt_lt.mpr z)
        rw [eL, eJ] at q2
        omega
      have hin : ∀ k : Nat, k < 6 → vp_in (nI (6 * j) + nI k) Ln := fun k hk => by rw [nI_add]; exact vp_in_nI (by omega) (by omega)
      have hi : vp_in (nI (6 * j)) Ln ∧ vp_in (nI (6 * j) + 1) Ln ∧ vp_in (nI (6 * j) + 2) Ln ∧ vp_in (nI (6 * j) + 3) Ln ∧ vp_in (nI (6 * j) + 4) Ln ∧ vp_in (nI (6 * j) + 5) Ln := ⟨vp_in_nI (by omega) (by omega), hin 1 (by decide), hin 2 (by decide), hin 3 (by decide), hin 4 (by decide), hin 5 (by decide)⟩
      have K : ∀ (σ : CS) (μ : MS) (H : Heap) (locs : List Loc), REL (j + 1) σ μ → zWd G (fun q => s.heap.size ≤ q) s.heap H locs (zWU cy L σ ++ zWM cy M μ) → W p l e room_1 s m #[Value.ref b] below meth c H locs cells slots (lw_Z below #[Value.ref b] s) (F0 m 1884 ls []) := by
        intro σ μ H locs hrel hw
        refine lv_iinc (pc := 1884) (v := nI (6 * (j + 1))) (lv' := [(3, .int (nI (6 * (j + 1)))), (0, .ref b), (1, .ref (L 0)), (2, .ref (M 0))]) hx hb dL_law_1884 hl (k := 3) rfl (by rw [show Int32.ofInt 6 = nI 6 from rfl, nI_add]; rfl) (by decide) rfl (fun ls hl => ?_)
        refine lv_goto (pc := 1887) (tgt := 18) hx hb dL_law_1887 (by decide) ?_
        exact ih (j + 1) (by omega) (by omega) σ μ H locs ls hrel hw (lv_sub hl [1, 2, 3, 0] rfl)
      refine lv_aload_n (pc := 27) hx hb dL_law_27 rfl (lv_at hl 0 rfl) ?_
      refine lv_iload_n (pc := 28) hx hb dL_law_28 rfl (lv_at hl 3 rfl) ?_
      refine va_sld (pc := 29) hx hb hX hbl hbA hw.2.2 hi.1 dL_law_29 ?_
      refine lv_bipush (pc := 30) (v := 63) hx hb dL_law_30 (by decide) ?_
      refine lv_iand (pc := 32) hx hb dL_law_32 ?_
      refine lv_topi (fun y ey => ?_)
      have hcs2 : cells ≤ room_1.cells ∧ slots ≤ room_1.slots := hcs
      obtain ⟨p0, p1, p2, p3, p4, p5, p6, p7, p8, p9, p10, p11, p12, p13, p14, p15, p16, p17, p18, p19, p20, p21, p22, p23, p24, p25, p26, p27, p28, p29, p30, p31, p32, p33, p34, p35, p36, p37, p38, p39, p40, p41, p42, p43, p44, p45, p46, p47, p48, p49, p50, p51, p52, p53, p54⟩ := hp
      by_cases q0 : y = (0 : Int32)
      · refine zk_tabIn (pc := 33) (off := 235) (tgt := 268) q0 C dL_law_33 (by decide) (by decide) (by decide +kernel) (by decide) ?_
        exact lc_row p0 C hX hbl hbA hi hcs2 (by omega) hrel hw hl K
      by_cases q1 : y = (1 : Int32)
      · refine zk_tabIn (pc := 33) (off := 278) (tgt := 311) q1 C dL_law_33 (by decide) (by decide) (by decide +kernel) (by decide) ?_
        exact lc_set p1 C hX hbl hbA hi hcs2 (by omega) hrel hw hl K
      by_cases q2 : y = (2 : Int32)
      · refine zk_tabIn (pc := 33) (off := 351) (tgt := 384) q2 C dL_law_33 (by decide) (by decide) (by decide +kernel) (by decide) ?_
        exact lc_copy p2 C hX hbl hbA hi hcs2 (by omega) hrel hw hl K
      by_cases q3 : y = (3 : Int32)
      · refine zk_tabIn (pc := 33) (off := 414) (tgt := 447) q3 C dL_law_33 (by decide) (by decide) (by decide +kernel) (by decide) ?_
        exact lc_element p3 C hX hbl hbA hi hcs2 (by omega) hrel hw hl K
      by_cases q4 : y = (4 : Int32)
      · refine zk_tabIn (pc := 33) (off := 448) (tgt := 481) q4 C dL_law_33 (by decide) (by decide) (by decide +kernel) (by decide) ?_
        exact lc_holds p4 C hX hbl hbA hi hcs2 (by omega) hrel hw hl K
      by_cases q5 : y = (5 : Int32)
      · refine zk_tabIn (pc := 33) (off := 471) (tgt := 504) q5 C dL_law_33 (by decide) (by decide) (by decide +kernel) (by decide) ?_
        exact lc_show p5 C hX hbl hbA hi hcs2 (by omega) hrel hw hl K
      by_cases q6 : y = (6 : Int32)
      · refine zk_tabIn (pc := 33) (off := 504) (tgt := 537) q6 C dL_law_33 (by decide) (by decide) (by decide +kernel) (by decide) ?_
        exact lc_says p6 C hX hbl hbA hi hcs2 (by omega) hrel hw hl K
      by_cases q7 : y = (7 : Int32)
      · refine zk_tabIn (pc := 33) (off := 537) (tgt := 570) q7 C dL_law_33 (by decide) (by decide) (by decide +kernel) (by decide) ?_
        exact lc_keeper p7 C hX hbl hbA hi hcs2 (by omega) hrel hw hl K
      by_cases q8 : y = (8 : Int32)
      · refine zk_tabIn (pc := 33) (off := 580) (tgt := 613) q8 C dL_law_33 (by decide) (by decide) (by decide +kernel) (by decide) ?_
        exact lc_nerve p8 C hX hbl hbA hi hcs2 (by omega) hrel hw hl K
      by_cases q9 : y = (9 : Int32)
      · refine zk_tabIn (pc := 33) (off := 613) (tgt := 646) q9 C dL_law_33 (by decide) (by decide) (by decide +kernel) (by decide) ?_
        exact lc_tell p9 C hX hbl hbA hi hcs2 (by omega) hrel hw hl K
      by_cases q10 : y = (10 : Int32)
      · refine zk_tabIn (pc := 33) (off := 646) (tgt := 679) q10 C dL_law_33 (by decide) (by decide) (by decide +kernel) (by decide) ?_
        exact lc_feed p10 C hX hbl hbA hi hcs2 (by omega) hrel hw hl K
      by_cases q11 : y = (11 : Int32)
      · refine zk_tabIn (pc := 33) (off := 669) (tgt := 702) q11 C dL_law_33 (by decide) (by decide) (by decide +kernel) (by decide) ?_
        exact lc_wipe p11 C hX hbl hbA hi hcs2 (by omega) hrel hw hl K
      by_cases q12 : y = (12 : Int32)
      · refine zk_tabIn (pc := 33) (off := 682) (tgt := 715) q12 C dL_law_33 (by decide) (by decide) (by decide +kernel) (by decide) ?_
        exact lc_house p12 C hX hbl hbA hi hcs2 (by omega) hrel hw hl K
      by_cases q13 : y = (13 : Int32)
      · refine zk_tabIn (pc := 33) (off := 695) (tgt := 728) q13 C dL_law_33 (by decide) (by decide) (by decide +kernel) (by decide) ?_
        exact lc_keeperOf p13 C hX hbl hbA hi hcs2 (by omega) hrel hw hl K
      by_cases q14 : y = (14 : Int32)
      · refine zk_tabIn (pc := 33) (off := 728) (tgt := 761) q14 C dL_law_33 (by decide) (by decide) (by decide +kernel) (by decide) ?_
        exact lc_fright p14 C hX hbl hbA hi hcs2 (by omega) hrel hw hl K
      by_cases q15 : y = (15 : Int32)
      · refine zk_tabIn (pc := 33) (off := 741) (tgt := 774) q15 C dL_law_33 (by decide) (by decide) (by decide +kernel) (by decide) ?_
        exact lc_stays p15 C hX hbl hbA hi hcs2 (by omega) hrel hw hl K
      by_cases q16 : y = (16 : Int32)
      · refine zk_tabIn (pc := 33) (off := 764) (tgt := 797) q16 C dL_law_33 (by decide) (by decide) (by decide +kernel) (by decide) ?_
        exact lc_staying p16 C hX hbl hbA hi hcs2 (by omega) hrel hw hl K
      by_cases q17 : y = (17 : Int32)
      · refine zk_tabIn (pc := 33) (off := 777) (tgt := 810) q17 C dL_law_33 (by decide) (by decide) (by decide +kernel) (by decide) ?_
        exact lc_after p17 C hX hbl hbA hi hcs2 (by omega) hrel hw hl K
      by_cases q18 : y = (18 : Int32)
      · refine zk_tabIn (pc := 33) (off := 810) (tgt := 843) q18 C dL_law_33 (by decide) (by decide) (by decide +kernel) (by decide) ?_
        exact lc_bestNow p18 C hX hbl hbA hi hcs2 (by omega) hrel hw hl K
      by_cases q19 : y = (19 : Int32)
      · refine zk_tabIn (pc := 33) (off := 833) (tgt := 866) q19 C dL_law_33 (by decide) (by decide) (by decide +kernel) (by decide) ?_
        exact lc_behind p19 C hX hbl hbA hi hcs2 (by omega) hrel hw hl K
      by_cases q20 : y = (20 : Int32)
      · refine zk_tabIn (pc := 33) (off := 876) (tgt := 909) q20 C dL_law_33 (by decide) (by decide) (by decide +kernel) (by decide) ?_
        exact lc_unkept p20 C hX hbl hbA hi hcs2 (by omega) hrel hw hl K
      by_cases q21 : y = (21 : Int32)
      · refine zk_tabIn (pc := 33) (off := 909) (tgt := 942) q21 C dL_law_33 (by decide) (by decide) (by decide +kernel) (by decide) ?_
        exact lc_judge p21 C hX hbl hbA hi hcs2 (by omega) hrel hw hl K
      by_cases q22 : y = (22 : Int32)
      · refine zk_tabIn (pc := 33) (off := 942) (tgt := 975) q22 C dL_law_33 (by decide) (by decide) (by decide +kernel) (by decide) ?_
        exact lc_best p22 C hX hbl hbA hi hcs2 (by omega) hrel hw hl K
      by_cases q23 : y = (23 : Int32)
      · refine zk_tabIn (pc := 33) (off := 975) (tgt := 1008) q23 C dL_law_33 (by decide) (by decide) (by decide +kernel) (by decide) ?_
        exact lc_rages p23 C hX hbl hbA hi hcs2 (by omega) hrel hw hl K
      by_cases q24 : y = (24 : Int32)
      · refine zk_tabIn (pc := 33) (off := 1018) (tgt := 1051) q24 C dL_law_33 (by decide) (by decide) (by decide +kernel) (by decide) ?_
        exact lc_nerves p24 C hX hbl hbA hi hcs2 (by omega) hrel hw hl K
      by_cases q25 : y = (25 : Int32)
      · refine zk_tabIn (pc := 33) (off := 1071) (tgt := 1104) q25 C dL_law_33 (by decide) (by decide) (by decide +kernel) (by decide) ?_
        exact lc_send p25 C hX hbl hbA hi hcs2 (by omega) hrel hw hl K
      by_cases q26 : y = (26 : Int32)
      · refine zk_tabIn (pc := 33) (off := 1104) (tgt := 1137) q26 C dL_law_33 (by decide) (by decide) (by decide +kernel) (by decide) ?_
        exact lc_settles p26 C hX hbl hbA hi hcs2 (by omega) hrel hw hl K
      by_cases q27 : y = (27 : Int32)
      · refine zk_tabIn (pc := 33) (off := 1127) (tgt := 1160) q27 C dL_law_33 (by decide) (by decide) (by decide +kernel) (by decide) ?_
        exact lc_over p27 C hX hbl hbA hi hcs2 (by omega) hrel hw hl K
      by_cases q28 : y = (28 : Int32)
      · refine zk_tabIn (pc := 33) (off := 1160) (tgt := 1193) q28 C dL_law_33 (by decide) (by decide) (by decide +kernel) (by decide) ?_
        exact lc_safest p28 C hX hbl hbA hi hcs2 (by omega) hrel hw hl K
      by_cases q29 : y = (29 : Int32)
      · refine zk_tabIn (pc := 33) (off := 1173) (tgt := 1206) q29 C dL_law_33 (by decide) (by decide) (by decide +kernel) (by decide) ?_
        exact lc_odds p29 C hX hbl hbA hi hcs2 (by omega) hrel hw hl K
      by_cases q30 : y = (30 : Int32)
      · refine zk_tabIn (pc := 33) (off := 1206) (tgt := 1239) q30 C dL_law_33 (by decide) (by decide) (by decide +kernel) (by decide) ?_
        exact lc_flees p30 C hX hbl hbA hi hcs2 (by omega) hrel hw hl K
      by_cases q31 : y = (31 : Int32)
      · refine zk_tabIn (pc := 33) (off := 1229) (tgt := 1262) q31 C dL_law_33 (by decide) (by decide) (by decide +kernel) (by decide) ?_
        exact lc_needs p31 C hX hbl hbA hi hcs2 (by omega) hrel hw hl K
      by_cases q32 : y = (32 : Int32)
      · refine zk_tabIn (pc := 33) (off := 1252) (tgt := 1285) q32 C dL_law_33 (by decide) (by decide) (by decide +kernel) (by decide) ?_
        exact lc_until p32 C hX hbl hbA hi hcs2 (by omega) hrel hw hl K
      by_cases q33 : y = (33 : Int32)
      · refine zk_tabIn (pc := 33) (off := 1285) (tgt := 1318) q33 C dL_law_33 (by decide) (by decide) (by decide +kernel) (by decide) ?_
        exact lc_first p33 C hX hbl hbA hi hcs2 (by omega) hrel hw hl K
      by_cases q34 : y = (34 : Int32)
      · refine zk_tabIn (pc := 33) (off := 1318) (tgt := 1351) q34 C dL_law_33 (by decide) (by decide) (by decide +kernel) (by decide) ?_
        exact lc_meetings p34 C hX hbl hbA hi hcs2 (by omega) hrel hw hl K
      by_cases q35 : y = (35 : Int32)
      · refine zk_tabIn (pc := 33) (off := 1331) (tgt := 1364) q35 C dL_law_33 (by decide) (by decide) (by decide +kernel) (by decide) ?_
        exact lc_byTurns p35 C hX hbl hbA hi hcs2 (by omega) hrel hw hl K
      by_cases q36 : y = (36 : Int32)
      · refine zk_tabIn (pc := 33) (off := 1364) (tgt := 1397) q36 C dL_law_33 (by decide) (by decide) (by decide +kernel) (by decide) ?_
        exact lc_harms p36 C hX hbl hbA hi hcs2 (by omega) hrel hw hl K
      by_cases q37 : y = (37 : Int32)
      · refine zk_tabIn (pc := 33) (off := 1397) (tgt := 1430) q37 C dL_law_33 (by decide) (by decide) (by decide +kernel) (by decide) ?_
        exact lc_starts p37 C hX hbl hbA hi hcs2 (by omega) hrel hw hl K
      by_cases q38 : y = (38 : Int32)
      · refine zk_tabIn (pc := 33) (off := 1410) (tgt := 1443) q38 C dL_law_33 (by decide) (by decide) (by decide +kernel) (by decide) ?_
        exact lc_of p38 C hX hbl hbA hi hcs2 (by omega) hrel hw hl K
      by_cases q39 : y = (39 : Int32)
      · refine zk_tabIn (pc := 33) (off := 1433) (tgt := 1466) q39 C dL_law_33 (by decide) (by decide) (by decide +kernel) (by decide) ?_
        exact lc_way p39 C hX hbl hbA hi hcs2 (by omega) hrel hw hl K
      by_cases q40 : y = (40 : Int32)
      · refine zk_tabIn (pc := 33) (off := 1476) (tgt := 1509) q40 C dL_law_33 (by decide) (by decide) (by decide +kernel) (by decide) ?_
        exact lc_matters p40 C hX hbl hbA hi hcs2 (by omega) hrel hw hl K
      by_cases q41 : y = (41 : Int32)
      · refine zk_tabIn (pc := 33) (off := 1509) (tgt := 1542) q41 C dL_law_33 (by decide) (by decide) (by decide +kernel) (by decide) ?_
        exact lc_instead p41 C hX hbl hbA hi hcs2 (by omega) hrel hw hl K
      by_cases q42 : y = (42 : Int32)
      · refine zk_tabIn (pc := 33) (off := 1552) (tgt := 1585) q42 C dL_law_33 (by decide) (by decide) (by decide +kernel) (by decide) ?_
        exact lc_better p42 C hX hbl hbA hi hcs2 (by omega) hrel hw hl K
      by_cases q43 : y = (43 : Int32)
      · refine zk_tabIn (pc := 33) (off := 1585) (tgt := 1618) q43 C dL_law_33 (by decide) (by decide) (by decide +kernel) (by decide) ?_
        exact lc_still p43 C hX hbl hbA hi hcs2 (by omega) hrel hw hl K
      by_cases q44 : y = (44 : Int32)
      · refine zk_tabIn (pc := 33) (off := 1608) (tgt := 1641) q44 C dL_law_33 (by decide) (by decide) (by decide +kernel) (by decide) ?_
        exact lc_calmFor p44 C hX hbl hbA hi hcs2 (by omega) hrel hw hl K
      by_cases q45 : y = (45 : Int32)
      · refine zk_tabIn (pc := 33) (off := 1631) (tgt := 1664) q45 C dL_law_33 (by decide) (by decide) (by decide +kernel) (by decide) ?_
        exact lc_grown p45 C hX hbl hbA hi hcs2 (by omega) hrel hw hl K
      by_cases q46 : y = (46 : Int32)
      · refine zk_tabIn (pc := 33) (off := 1654) (tgt := 1687) q46 C dL_law_33 (by decide) (by decide) (by decide +kernel) (by decide) ?_
        exact lc_brave p46 C hX hbl hbA hi hcs2 (by omega) hrel hw hl K
      by_cases q47 : y = (47 : Int32)
      · refine zk_tabIn (pc := 33) (off := 1677) (tgt := 1710) q47 C dL_law_33 (by decide) (by decide) (by decide +kernel) (by decide) ?_
        exact lc_ofKind p47 C hX hbl hbA hi hcs2 (by omega) hrel hw hl K
      by_cases q48 : y = (48 : Int32)
      · refine zk_tabIn (pc := 33) (off := 1700) (tgt := 1733) q48 C dL_law_33 (by decide) (by decide) (by decide +kernel) (by decide) ?_
        exact lc_order p48 C hX hbl hbA hi hcs2 (by omega) hrel hw hl K
      by_cases q49 : y = (49 : Int32)
      · refine zk_tabIn (pc := 33) (off := 1723) (tgt := 1756) q49 C dL_law_33 (by decide) (by decide) (by decide +kernel) (by decide) ?_
        exact lc_done p49 C hX hbl hbA hi hcs2 (by omega) hrel hw hl K
      by_cases q50 : y = (50 : Int32)
      · refine zk_tabIn (pc := 33) (off := 1756) (tgt := 1789) q50 C dL_law_33 (by decide) (by decide) (by decide +kernel) (by decide) ?_
        exact lc_drawn p50 C hX hbl hbA hi hcs2 (by omega) hrel hw hl K
      by_cases q51 : y = (51 : Int32)
      · refine zk_tabIn (pc := 33) (off := 1779) (tgt := 1812) q51 C dL_law_33 (by decide) (by decide) (by decide +kernel) (by decide) ?_
        exact lc_seed p51 C hX hbl hbA hi hcs2 (by omega) hrel hw hl K
      by_cases q52 : y = (52 : Int32)
      · refine zk_tabIn (pc := 33) (off := 1802) (tgt := 1835) q52 C dL_law_33 (by decide) (by decide) (by decide +kernel) (by decide) ?_
        exact lc_image p52 C hX hbl hbA hi hcs2 (by omega) hrel hw hl K
      by_cases q53 : y = (53 : Int32)
      · refine zk_tabIn (pc := 33) (off := 1815) (tgt := 1848) q53 C dL_law_33 (by decide) (by decide) (by decide +kernel) (by decide) ?_
        exact lc_back p53 C hX hbl hbA hi hcs2 (by omega) hrel hw hl K
      by_cases q54 : y = (54 : Int32)
      · refine zk_tabIn (pc := 33) (off := 1828) (tgt := 1861) q54 C dL_law_33 (by decide) (by decide) (by decide +kernel) (by decide) ?_
        exact lc_status p54 C hX hbl hbA hi hcs2 (by omega) hrel hw hl K
      have e0 := i32_ne (n := 0) (by decide) q0
      have e1 := i32_ne (n := 1) (by decide) q1
      have e2 := i32_ne (n := 2) (by decide) q2
      have e3 := i32_ne (n := 3) (by decide) q3
      have e4 := i32_ne (n := 4) (by decide) q4
      have e5 := i32_ne (n := 5) (by decide) q5
      have e6 := i32_ne (n := 6) (by decide) q6
      have e7 := i32_ne (n := 7) (by decide) q7
      have e8 := i32_ne (n := 8) (by decide) q8
      have e9 := i32_ne (n := 9) (by decide) q9
      have e10 := i32_ne (n := 10) (by decide) q10
      have e11 := i32_ne (n := 11) (by decide) q11
      have e12 := i32_ne (n := 12) (by decide) q12
      have e13 := i32_ne (n := 13) (by decide) q13
      have e14 := i32_ne (n := 14) (by decide) q14
      have e15 := i32_ne (n := 15) (by decide) q15
      have e16 := i32_ne (n := 16) (by decide) q16
      have e17 := i32_ne (n := 17) (by decide) q17
      have e18 := i32_ne (n := 18) (by decide) q18
      have e19 := i32_ne (n := 19) (by decide) q19
      have e20 := i32_ne (n := 20) (by decide) q20
      have e21 := i32_ne (n := 21) (by decide) q21
      have e22 := i32_ne (n := 22) (by decide) q22
      have e23 := i32_ne (n := 23) (by decide) q23
      have e24 := i32_ne (n := 24) (by decide) q24
      have e25 := i32_ne (n := 25) (by decide) q25
      have e26 := i32_ne (n := 26) (by decide) q26
      have e27 := i32_ne (n := 27) (by decide) q27
      have e28 := i32_ne (n := 28) (by decide) q28
      have e29 := i32_ne (n := 29) (by decide) q29
      have e30 := i32_ne (n := 30) (by decide) q30
      have e31 := i32_ne (n := 31) (by decide) q31
      have e32 := i32_ne (n := 32) (by decide) q32
      have e33 := i32_ne (n := 33) (by decide) q33
      have e34 := i32_ne (n := 34) (by decide) q34
      have e35 := i32_ne (n := 35) (by decide) q35
      have e36 := i32_ne (n := 36) (by decide) q36
      have e37 := i32_ne (n := 37) (by decide) q37
      have e38 := i32_ne (n := 38) (by decide) q38
      have e39 := i32_ne (n := 39) (by decide) q39
      have e40 := i32_ne (n := 40) (by decide) q40
      have e41 := i32_ne (n := 41) (by decide) q41
      have e42 := i32_ne (n := 42) (by decide) q42
      have e43 := i32_ne (n := 43) (by decide) q43
      have e44 := i32_ne (n := 44) (by decide) q44
      have e45 := i32_ne (n := 45) (by decide) q45
      have e46 := i32_ne (n := 46) (by decide) q46
      have e47 := i32_ne (n := 47) (by decide) q47
      have e48 := i32_ne (n := 48) (by decide) q48
      have e49 := i32_ne (n := 49) (by decide) q49
      have e50 := i32_ne (n := 50) (by decide) q50
      have e51 := i32_ne (n := 51) (by decide) q51
      have e52 := i32_ne (n := 52) (by decide) q52
      have e53 := i32_ne (n := 53) (by decide) q53
      have e54 := i32_ne (n := 54) (by decide) q54
      refine lv_tableOut (pc := 33) (tgt := 1884) hx hb dL_law_33 (by omega) (by decide) ?_
      exact K σ μ H locs (REL_up hrel) hw
abbrev zC0 : CS := (zT0, zT0, zT0, zT0, (0, (fun _ => 0), (fun _ => 0), (fun _ => 0), (fun _ => 0)), (0, (fun _ => 0), (fun _ => 0), (fun _ => 0), (fun _ => 0)), (0, (fun _ => 0), (fun _ => 0), (fun _ => 0), (fun _ => 0)), ((upd (upd (upd (upd (upd (upd (upd (upd (fun _ => 0) 0 (-1)) 1 (-1)) 2 (-1)) 3 (-1)) 4 (-1)) 5 (-1)) 6 (-1)) 7 (-1)), (fun _ => 0), (fun _ _ => 0)), (0, (fun _ => 0), 0, 0, 0, 0), (zT0, 0, 0, -1, 0, 0, 0, 0, 0), (0, 0, false, (fun _ => 0), (fun _ => 0), (fun _ => zT0)), (0, -1, -1), (fun _ => 0), (fun _ => 0), (fun _ => 0), 1, 1, false)
abbrev zM0 : MS := ((fun _ => 0), zNOW0, (fun _ => 0), (fun _ => 0), false, (fun _ => 0), 0, 0, 0, 0, zWORDS, false, (upd (upd (upd (upd (upd (upd (upd (upd (fun _ => 0) 0 (-1)) 1 (-1)) 2 (-1)) 3 (-1)) 4 (-1)) 5 (-1)) 6 (-1)) 7 (-1)), (fun _ => 0), (fun _ => 0), (fun _ => 0), zABO0, (fun _ => 0), 0, 0, (fun _ => 0), 0, 0, (fun _ => 0), 0, 0)
theorem bnd_nI {n a b : Nat} (h : a ≤ n) (h2 : n ≤ b) : bnd (nI n) a b := ⟨n, h, h2, rfl⟩
theorem REL0 : REL 0 zC0 zM0 := by
  refine ⟨⟨⟨rfl, rfl, rfl, rfl, rfl, rfl, ?_⟩, ?_, rfl⟩, ⟨rfl, fun h => by cases h⟩, fun i _ => rfl, fun j hj => ?_, ⟨rfl, ⟨0, by decide, by decide, rfl⟩, fun j _ => ⟨rfl, ⟨0, by decide, by decide, rfl⟩⟩⟩, rfl, rfl, fun k hk => ?_, fun h => by cases h⟩
  · intro k hk
    have hk : k = 0 ∨ k = 1 ∨ k = 2 ∨ k = 3 ∨ k = 4 ∨ k = 5 ∨ k = 6 ∨ k = 7 := by omega
    rcases hk with rfl | rfl | rfl | rfl | rfl | rfl | rfl | rfl <;> exact ⟨rfl, rfl, rfl, rfl⟩
  · refine ⟨⟨0, by decide, by decide, rfl⟩, ⟨20, by decide, by decide, rfl⟩, ⟨60, by decide, by decide, rfl⟩, ⟨1, by decide, by decide, rfl⟩, ⟨50, by decide, by decide, rfl⟩, ⟨0, by decide, by decide, rfl⟩, fun k hk => ?_⟩
    have hk : k = 0 ∨ k = 1 ∨ k = 2 ∨ k = 3 ∨ k = 4 ∨ k = 5 ∨ k = 6 ∨ k = 7 := by omega
    rcases hk with rfl | rfl | rfl | rfl | rfl | rfl | rfl | rfl <;> exact ⟨⟨0, by decide, by decide, rfl⟩, ⟨0, by decide, by decide, rfl⟩, ⟨0, by decide, by decide, rfl⟩⟩
  · have hj : j = 0 ∨ j = 1 ∨ j = 2 ∨ j = 3 ∨ j = 4 ∨ j = 5 ∨ j = 6 ∨ j = 7 := by omega
    rcases hj with rfl | rfl | rfl | rfl | rfl | rfl | rfl | rfl <;> exact ⟨rfl, rfl, Or.inl rfl, ⟨0, by decide, by decide, rfl⟩, fun i _ => rfl⟩
  · have hk : k = 0 ∨ k = 1 ∨ k = 2 ∨ k = 3 ∨ k = 4 ∨ k = 5 ∨ k = 6 ∨ k = 7 := by omega
    rcases hk with rfl | rfl | rfl | rfl | rfl | rfl | rfl | rfl <;> exact ⟨0, by decide, by decide, rfl⟩
set_option maxHeartbeats 4000000 in
set_option maxRecDepth 100000 in
theorem whole_open (hp : PLA) {p : Program} {e : Env} {s : State} {m : MethodId} {below : List Frame} {meth : Method} {c : Code} (l : Launch) {b L : Nat} {xs : Nat → Int32} (hL : L ≤ 3072) (C0 : lw_At p s m meth c b L xs) : W p l e room_1 s m #[Value.ref b] below meth c s.heap [] 0 0 (lw_Z below #[Value.ref b] s) (entryFrame m ([Value.ref b] : List Value).toArray 4) := by
  obtain ⟨G, cy, tt, C, hAO⟩ := zC_of C0
  obtain ⟨-, -, hr, -, -, -, hX, hbl, -, -⟩ := C0
  have hx := C.1.1
  have hb := C.1.2.1
  have hw : zWd G (fun q => s.heap.size ≤ q) s.heap s.heap [] [] := ⟨fun k q h => by simp at h, ⟨fun i j p q h => by simp at h, fun k q h => by simp at h⟩, va_S.rf⟩
  have hl := lv_entry ([.ref b]) (n := 4) (Nat.le_of_ble_eq_true rfl)
  rw [lg_entry_eq]
  generalize (lg_sl ([.ref b]) ++ List.replicate (4 - (lg_sl ([.ref b])).length) Slot.unset).toArray = ls at hl ⊢
  have hl : lv_has ls 4 [(0, .ref b)] := hl
  refine zk_nw (pc := 0) C hw znb_X7 zcl_L_7 ⟨Nat.le_of_ble_eq_true rfl, Nat.le_of_ble_eq_true rfl⟩ dL_law_0 (fun q1 H hw => ?_)
  have hw : zWd G (fun q => s.heap.size ≤ q) s.heap H _ [(q1, .inr (7, [.null, .null, .null, .null, .null, .null, .null, .null, .null, .null, .null, .null, .null, .null, .null, .int 0, .int 0, .int 0]))] := hw
  refine lv_dup (pc := 3) hx hb dL_law_3 rfl ?_
  refine zk_cI0 (pc := 4) (rest := [.ref q1]) (wr := []) C hAO hw (ci_X7 l G cy tt q1) zy_X7_init zm_L_9 [0] [] rfl rfl rfl rfl (by decide) rfl hl.1 ⟨rfl, rfl⟩ ⟨Nat.le_of_ble_eq_true rfl, Nat.le_of_ble_eq_true rfl⟩ (Nat.le_of_ble_eq_true rfl) ⟨Nat.le_of_ble_eq_true rfl, Nat.le_of_ble_eq_true rfl⟩ dL_law_4 (fun d1 H locs hw => ?_)
  have hw : zWd G (fun q => s.heap.size ≤ q) s.heap H _ (zWU cy (zlift q1 d1) zC0) := hw
  refine lv_astore_n (pc := 7) (lv' := [(1, .ref q1), (0, .ref b)]) hx hb dL_law_7 rfl hl (by decide) rfl (fun ls hl => ?_)
  refine zk_nw (pc := 8) C hw znb_X8 zcl_L_10 ⟨Nat.le_of_ble_eq_true rfl, Nat.le_of_ble_eq_true rfl⟩ dL_law_8 (fun q2 H hw => ?_)
  refine lv_dup (pc := 11) hx hb dL_law_11 rfl ?_
  refine zk_cI0 (pc := 12) (rest := [.ref q2]) (wr := zWU cy (zlift q1 d1) zC0) C hAO hw (ci_X8 l G cy tt q2) zy_X8_init zm_L_12 [49] [0, 1, 2, 3, 4, 5, 6, 7, 8, 9, 10, 11, 12, 13, 14, 15, 16, 17, 18, 19, 20, 21, 22, 23, 24, 25, 26, 27, 28, 29, 30, 31, 32, 33, 34, 35, 36, 37, 38, 39, 40, 41, 42, 43, 44, 45, 46, 47, 48] rfl rfl rfl rfl (by decide) rfl hl.1 ⟨rfl, rfl⟩ ⟨Nat.le_of_ble_eq_true rfl, Nat.le_of_ble_eq_true rfl⟩ (Nat.le_of_ble_eq_true rfl) ⟨Nat.le_of_ble_eq_true rfl, Nat.le_of_ble_eq_true rfl⟩ dL_law_12 (fun d2 H locs hw => ?_)
  have hw : zWd G (fun q => s.heap.size ≤ q) s.heap H _ (zWU cy (zlift q1 d1) zC0 ++ zWM cy (zlift q2 d2) zM0) := hw
  refine lv_astore_n (pc := 15) (lv' := [(2, .ref q2), (1, .ref q1), (0, .ref b)]) hx hb dL_law_15 rfl hl (by decide) rfl (fun ls hl => ?_)
  refine lv_iconst (pc := 16) (v := 0) hx hb dL_law_16 (by decide) ?_
  refine lv_istore_n (pc := 17) (lv' := [(3, .int 0), (2, .ref q2), (1, .ref q1), (0, .ref b)]) hx hb dL_law_17 rfl hl (by decide) rfl (fun ls hl => ?_)
  refine W.widen (k := 600000) (n := 7302250) (Nat.le_of_ble_eq_true rfl) (Nat.le_of_ble_eq_true rfl) ?_
  exact law_loop hp C hr hX hbl hL ⟨Nat.le_refl _, Nat.le_refl _⟩ (L + 7) 0 (by omega) (by omega) zC0 zM0 H _ ls REL0 hw (lv_sub hl [3, 2, 1, 0] rfl)
