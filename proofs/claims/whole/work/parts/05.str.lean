abbrev cJ0_length_8abf5 : ByteArray := prog_12_method_54_code
def yJ0_length_8abf5 : MethodName := ⟨RJ0, "length", "()I"⟩
abbrev cJ0_charAt_5068e : ByteArray := prog_12_method_56_code
def yJ0_charAt_5068e : MethodName := ⟨RJ0, "charAt", "(I)C"⟩
abbrev cJ0_coder_7d493 : ByteArray := prog_12_method_152_code
def yJ0_coder_7d493 : MethodName := ⟨RJ0, "coder", "()B"⟩
abbrev cJ0_isLatin1_aae02 : ByteArray := prog_12_method_154_code
def yJ0_isLatin1_aae02 : MethodName := ⟨RJ0, "isLatin1", "()Z"⟩
abbrev cJ0_checkIndex_df160 : ByteArray := prog_12_method_155_code
def yJ0_checkIndex_df160 : MethodName := ⟨RJ0, "checkIndex", "(II)V"⟩
abbrev cJ1_charAt_3b067 : ByteArray := prog_13_method_2_code
def yJ1_charAt_3b067 : MethodName := ⟨RJ1, "charAt", "([BI)C"⟩
abbrev cJ3_checkIndex_8e157 : ByteArray := prog_16_method_11_code
def yJ3_checkIndex_8e157 : MethodName := ⟨RJ3, "checkIndex", "(IILjava/util/function/BiFunction;)I"⟩
theorem dJ0_length_8abf5_0 : decode cJ0_length_8abf5 0 = .ok (.aload_n 0, 1) := by decide +kernel
theorem dJ0_length_8abf5_1 : decode cJ0_length_8abf5 1 = .ok (.getfield 9, 3) := by decide +kernel
theorem dJ0_length_8abf5_4 : decode cJ0_length_8abf5 4 = .ok (.arraylength, 1) := by decide +kernel
theorem dJ0_length_8abf5_5 : decode cJ0_length_8abf5 5 = .ok (.aload_n 0, 1) := by decide +kernel
theorem dJ0_length_8abf5_6 : decode cJ0_length_8abf5 6 = .ok (.invokevirtual 335, 3) := by decide +kernel
theorem dJ0_length_8abf5_9 : decode cJ0_length_8abf5 9 = .ok (.ishr, 1) := by decide +kernel
theorem dJ0_length_8abf5_10 : decode cJ0_length_8abf5 10 = .ok (.ireturn, 1) := by decide +kernel
theorem dJ0_charAt_5068e_0 : decode cJ0_charAt_5068e 0 = .ok (.aload_n 0, 1) := by decide +kernel
theorem dJ0_charAt_5068e_1 : decode cJ0_charAt_5068e 1 = .ok (.invokevirtual 492, 3) := by decide +kernel
theorem dJ0_charAt_5068e_4 : decode cJ0_charAt_5068e 4 = .ok (.ifCond .eq 12, 3) := by decide +kernel
theorem dJ0_charAt_5068e_7 : decode cJ0_charAt_5068e 7 = .ok (.aload_n 0, 1) := by decide +kernel
theorem dJ0_charAt_5068e_8 : decode cJ0_charAt_5068e 8 = .ok (.getfield 9, 3) := by decide +kernel
theorem dJ0_charAt_5068e_11 : decode cJ0_charAt_5068e 11 = .ok (.iload_n 1, 1) := by decide +kernel
theorem dJ0_charAt_5068e_12 : decode cJ0_charAt_5068e 12 = .ok (.invokestatic 495, 3) := by decide +kernel
theorem dJ0_charAt_5068e_15 : decode cJ0_charAt_5068e 15 = .ok (.ireturn, 1) := by decide +kernel
theorem dJ0_charAt_5068e_16 : decode cJ0_charAt_5068e 16 = .ok (.aload_n 0, 1) := by decide +kernel
theorem dJ0_charAt_5068e_17 : decode cJ0_charAt_5068e 17 = .ok (.getfield 9, 3) := by decide +kernel
theorem dJ0_charAt_5068e_20 : decode cJ0_charAt_5068e 20 = .ok (.iload_n 1, 1) := by decide +kernel
theorem dJ0_charAt_5068e_21 : decode cJ0_charAt_5068e 21 = .ok (.invokestatic 498, 3) := by decide +kernel
theorem dJ0_charAt_5068e_24 : decode cJ0_charAt_5068e 24 = .ok (.ireturn, 1) := by decide +kernel
theorem dJ0_coder_7d493_0 : decode cJ0_coder_7d493 0 = .ok (.getstatic 38, 3) := by decide +kernel
theorem dJ0_coder_7d493_3 : decode cJ0_coder_7d493 3 = .ok (.ifCond .eq 10, 3) := by decide +kernel
theorem dJ0_coder_7d493_6 : decode cJ0_coder_7d493 6 = .ok (.aload_n 0, 1) := by decide +kernel
theorem dJ0_coder_7d493_7 : decode cJ0_coder_7d493 7 = .ok (.getfield 15, 3) := by decide +kernel
theorem dJ0_coder_7d493_10 : decode cJ0_coder_7d493 10 = .ok (.goto 4, 3) := by decide +kernel
theorem dJ0_coder_7d493_13 : decode cJ0_coder_7d493 13 = .ok (.iconst 1, 1) := by decide +kernel
theorem dJ0_coder_7d493_14 : decode cJ0_coder_7d493 14 = .ok (.ireturn, 1) := by decide +kernel
theorem dJ0_isLatin1_aae02_0 : decode cJ0_isLatin1_aae02 0 = .ok (.getstatic 38, 3) := by decide +kernel
theorem dJ0_isLatin1_aae02_3 : decode cJ0_isLatin1_aae02 3 = .ok (.ifCond .eq 14, 3) := by decide +kernel
theorem dJ0_isLatin1_aae02_6 : decode cJ0_isLatin1_aae02 6 = .ok (.aload_n 0, 1) := by decide +kernel
theorem dJ0_isLatin1_aae02_7 : decode cJ0_isLatin1_aae02 7 = .ok (.getfield 15, 3) := by decide +kernel
theorem dJ0_isLatin1_aae02_10 : decode cJ0_isLatin1_aae02 10 = .ok (.ifCond .ne 7, 3) := by decide +kernel
theorem dJ0_isLatin1_aae02_13 : decode cJ0_isLatin1_aae02 13 = .ok (.iconst 1, 1) := by decide +kernel
theorem dJ0_isLatin1_aae02_14 : decode cJ0_isLatin1_aae02 14 = .ok (.goto 4, 3) := by decide +kernel
theorem dJ0_isLatin1_aae02_17 : decode cJ0_isLatin1_aae02 17 = .ok (.iconst 0, 1) := by decide +kernel
theorem dJ0_isLatin1_aae02_18 : decode cJ0_isLatin1_aae02 18 = .ok (.ireturn, 1) := by decide +kernel
theorem dJ0_checkIndex_df160_0 : decode cJ0_checkIndex_df160 0 = .ok (.iload_n 0, 1) := by decide +kernel
theorem dJ0_checkIndex_df160_1 : decode cJ0_checkIndex_df160 1 = .ok (.iload_n 1, 1) := by decide +kernel
theorem dJ0_checkIndex_df160_2 : decode cJ0_checkIndex_df160 2 = .ok (.getstatic 1053, 3) := by decide +kernel
theorem dJ0_checkIndex_df160_5 : decode cJ0_checkIndex_df160 5 = .ok (.invokestatic 1059, 3) := by decide +kernel
theorem dJ0_checkIndex_df160_8 : decode cJ0_checkIndex_df160 8 = .ok (.pop, 1) := by decide +kernel
theorem dJ0_checkIndex_df160_9 : decode cJ0_checkIndex_df160 9 = .ok (.return_, 1) := by decide +kernel
theorem dJ1_charAt_3b067_0 : decode cJ1_charAt_3b067 0 = .ok (.iload_n 1, 1) := by decide +kernel
theorem dJ1_charAt_3b067_1 : decode cJ1_charAt_3b067 1 = .ok (.aload_n 0, 1) := by decide +kernel
theorem dJ1_charAt_3b067_2 : decode cJ1_charAt_3b067 2 = .ok (.arraylength, 1) := by decide +kernel
theorem dJ1_charAt_3b067_3 : decode cJ1_charAt_3b067 3 = .ok (.invokestatic 9, 3) := by decide +kernel
theorem dJ1_charAt_3b067_6 : decode cJ1_charAt_3b067 6 = .ok (.aload_n 0, 1) := by decide +kernel
theorem dJ1_charAt_3b067_7 : decode cJ1_charAt_3b067 7 = .ok (.iload_n 1, 1) := by decide +kernel
theorem dJ1_charAt_3b067_8 : decode cJ1_charAt_3b067 8 = .ok (.baload, 1) := by decide +kernel
theorem dJ1_charAt_3b067_9 : decode cJ1_charAt_3b067 9 = .ok (.sipush 255, 3) := by decide +kernel
theorem dJ1_charAt_3b067_12 : decode cJ1_charAt_3b067 12 = .ok (.iand, 1) := by decide +kernel
theorem dJ1_charAt_3b067_13 : decode cJ1_charAt_3b067 13 = .ok (.i2c, 1) := by decide +kernel
theorem dJ1_charAt_3b067_14 : decode cJ1_charAt_3b067 14 = .ok (.ireturn, 1) := by decide +kernel
theorem dJ3_checkIndex_8e157_0 : decode cJ3_checkIndex_8e157 0 = .ok (.iload_n 0, 1) := by decide +kernel
theorem dJ3_checkIndex_8e157_1 : decode cJ3_checkIndex_8e157 1 = .ok (.ifCond .lt 8, 3) := by decide +kernel
theorem dJ3_checkIndex_8e157_4 : decode cJ3_checkIndex_8e157 4 = .ok (.iload_n 0, 1) := by decide +kernel
theorem dJ3_checkIndex_8e157_5 : decode cJ3_checkIndex_8e157 5 = .ok (.iload_n 1, 1) := by decide +kernel
theorem dJ3_checkIndex_8e157_6 : decode cJ3_checkIndex_8e157 6 = .ok (.if_icmp .lt 10, 3) := by decide +kernel
theorem dJ3_checkIndex_8e157_9 : decode cJ3_checkIndex_8e157 9 = .ok (.aload_n 2, 1) := by decide +kernel
theorem dJ3_checkIndex_8e157_10 : decode cJ3_checkIndex_8e157 10 = .ok (.iload_n 0, 1) := by decide +kernel
theorem dJ3_checkIndex_8e157_11 : decode cJ3_checkIndex_8e157 11 = .ok (.iload_n 1, 1) := by decide +kernel
theorem dJ3_checkIndex_8e157_12 : decode cJ3_checkIndex_8e157 12 = .ok (.invokestatic 95, 3) := by decide +kernel
theorem dJ3_checkIndex_8e157_15 : decode cJ3_checkIndex_8e157 15 = .ok (.athrow, 1) := by decide +kernel
theorem dJ3_checkIndex_8e157_16 : decode cJ3_checkIndex_8e157 16 = .ok (.iload_n 0, 1) := by decide +kernel
theorem dJ3_checkIndex_8e157_17 : decode cJ3_checkIndex_8e157 17 = .ok (.ireturn, 1) := by decide +kernel
theorem zy_length : zMY RJ0 yJ0_length_8abf5 cJ0_length_8abf5 1 (some .int) 0 := ⟨zt_mem 593 (by decide +kernel) (by decide +kernel), zt_mem 594 (by decide +kernel) (by decide +kernel), zt_mem 92 (by decide +kernel) (by decide +kernel), zt_mem 595 (by decide +kernel) (by decide +kernel), by decide +kernel⟩
theorem zy_charAt : zMY RJ0 yJ0_charAt_5068e cJ0_charAt_5068e 2 (some .char) 1 := ⟨zt_mem 603 (by decide +kernel) (by decide +kernel), zt_mem 604 (by decide +kernel) (by decide +kernel), zt_mem 92 (by decide +kernel) (by decide +kernel), zt_mem 605 (by decide +kernel) (by decide +kernel), by decide +kernel⟩
theorem zy_coder : zMY RJ0 yJ0_coder_7d493 cJ0_coder_7d493 1 (some .byte) 0 := ⟨zt_mem 597 (by decide +kernel) (by decide +kernel), zt_mem 598 (by decide +kernel) (by decide +kernel), zt_mem 92 (by decide +kernel) (by decide +kernel), zt_mem 599 (by decide +kernel) (by decide +kernel), by decide +kernel⟩
theorem zy_isLatin1 : zMY RJ0 yJ0_isLatin1_aae02 cJ0_isLatin1_aae02 1 (some .boolean) 0 := ⟨zt_mem 607 (by decide +kernel) (by decide +kernel), zt_mem 608 (by decide +kernel) (by decide +kernel), zt_mem 92 (by decide +kernel) (by decide +kernel), zt_mem 609 (by decide +kernel) (by decide +kernel), by decide +kernel⟩
theorem zy_lcharAt : zMS yJ1_charAt_3b067 cJ1_charAt_3b067 2 (some .char) 2 := ⟨zt_mem 611 (by decide +kernel) (by decide +kernel), zt_mem 93 (by decide +kernel) (by decide +kernel), zt_mem 612 (by decide +kernel) (by decide +kernel), by decide +kernel⟩
theorem zy_scheck : zMS yJ0_checkIndex_df160 cJ0_checkIndex_df160 2 none 2 := ⟨zt_mem 614 (by decide +kernel) (by decide +kernel), zt_mem 92 (by decide +kernel) (by decide +kernel), zt_mem 615 (by decide +kernel) (by decide +kernel), by decide +kernel⟩
theorem zy_pcheck : zMS yJ3_checkIndex_8e157 cJ3_checkIndex_8e157 3 (some .int) 3 := ⟨zt_mem 619 (by decide +kernel) (by decide +kernel), zt_mem 94 (by decide +kernel) (by decide +kernel), zt_mem 620 (by decide +kernel) (by decide +kernel), by decide +kernel⟩
theorem zm_J0_335 : Cond.methodLink "java/lang/String" 335 yJ0_coder_7d493 ∈ zTB := zt_mem 596 (by decide +kernel) (by decide +kernel)
theorem zm_J0_492 : Cond.methodLink "java/lang/String" 492 yJ0_isLatin1_aae02 ∈ zTB := zt_mem 606 (by decide +kernel) (by decide +kernel)
theorem zm_J0_495 : Cond.methodLink "java/lang/String" 495 yJ1_charAt_3b067 ∈ zTB := zt_mem 610 (by decide +kernel) (by decide +kernel)
theorem zm_J1_9 : Cond.methodLink "java/lang/StringLatin1" 9 yJ0_checkIndex_df160 ∈ zTB := zt_mem 613 (by decide +kernel) (by decide +kernel)
theorem zm_J0_1059 : Cond.methodLink "java/lang/String" 1059 yJ3_checkIndex_8e157 ∈ zTB := zt_mem 618 (by decide +kernel) (by decide +kernel)
theorem zg_J0_9 : Cond.fieldLink "java/lang/String" 9 "java/lang/String" "value" "[B" ∈ zTB := zt_mem 1561 (by decide +kernel) (by decide +kernel)
theorem zg_J0_15 : Cond.fieldLink "java/lang/String" 15 "java/lang/String" "coder" "B" ∈ zTB := zt_mem 1562 (by decide +kernel) (by decide +kernel)
theorem zg_J0_38 : Cond.fieldLink "java/lang/String" 38 "java/lang/String" "COMPACT_STRINGS" "Z" ∈ zTB := zt_mem 600 (by decide +kernel) (by decide +kernel)
theorem zg_J0_1053 : Cond.fieldLink "java/lang/String" 1053 "jdk/internal/util/Preconditions" "SIOOBE_FORMATTER" "Ljava/util/function/BiFunction;" ∈ zTB := zt_mem 616 (by decide +kernel) (by decide +kernel)
theorem zm_X4_107 : Cond.methodLink RX4 107 yJ0_length_8abf5 ∈ zTB := zt_mem 592 (by decide +kernel) (by decide +kernel)
theorem zm_X4_116 : Cond.methodLink RX4 116 yJ0_charAt_5068e ∈ zTB := zt_mem 602 (by decide +kernel) (by decide +kernel)
theorem zsel_nil (w : va_W) : zsel w [] = w := by cases w <;> rfl
section ZS
variable {p : Program} {l : Launch} {e : Env} {R : Room} {s : State} {m : MethodId} {args : Array Value} {below : List Frame} {meth : Method} {c : Code} {H : Heap} {locs : List Loc} {cells slots : Nat} {Q : State → Prop} {cc : ByteArray} {pc nL idx : Nat} {ls : Array Slot} {rest : List Value} {G : va_G} {cy : Nat → ClassId} {tt : Nat → Nat} {A : Nat → Prop} {a : Nat} {w w' wc wc' : va_W} {own : String}
variable {y : MethodName} {bytes : ByteArray} {maxL n : Nat} {ret : Option FieldType} {rm : Room} {o : Option Value} {b : Nat} {As : List Value}
theorem zk_retn {ty : FieldType} {v : Int32} {ww : va_W} (hn : narrow ty (.int v) = .int v) (C : zCx p m c s args meth cc nL own G cy tt A) (hw : zWd G A s.heap H locs ww) (hr : meth.sig.returnType = some ty) (hQ : Q = MQ below (zQ G (some (.int v)) ww A) args s cells slots A) (hdg : decode cc pc = .ok (.ireturn, 1)) : W p l e R s m args below meth c H locs cells slots Q (F0 m pc ls [.int v]) := by
  subst hQ
  exact W.zret C.1.1 C.1.2.1 hr hn (fun t ht _ => ⟨rfl, by rw [ht]; exact hw.1, hw.2.1, hw.2.2.F ht⟩) hw.2.2.2.2 hdg C.2.1
/-- a method of a text constant, which touches no cell of ours -/
theorem zk_cVs {C0 : String} (C : zCx p m c s args meth cc nL own G cy tt A) (hw : zWd G A s.heap H locs w) (hM : zCT l y bytes maxL ret rm G cy tt (.ref b :: As) [] o []) (hY : zMY C0 y bytes maxL ret n) (hlink : Cond.methodLink own idx y ∈ zTB)
    (hrc : ∃ cell : Cell, H[b]? = some cell ∧ cell.vm.isStatics = false ∧ s.vm.findClass C0 = some cell.cls) {st0 st1 : List Value} (hst : st0 = As.reverse ++ .ref b :: rest) (hst1 : o.toList ++ rest = st1)
    (hl : ls.size = nL) (hrm : rm.cells = 0 ∧ rm.slots = 0) (hR : rm.frames + 1 ≤ R.frames ∧ 8 + (maxL + 11) + rm.locals ≤ R.locals) (hn : As.length = n) (hroom : (rest.map fun v => v.category).sum ≤ 8) (hcs : cells ≤ R.cells ∧ slots ≤ R.slots) (hdg : decode cc pc = .ok (.invokevirtual idx, 3))
    (kk : ∀ (H : Heap) (locs : List Loc), zWd G A s.heap H locs w → W p l e R s m args below meth c H locs cells slots Q (F0 m (pc + 3) ls st1)) : W p l e R s m args below meth c H locs cells slots Q (F0 m pc ls st0) := by
  obtain ⟨y1, y2, y3, y4, y5⟩ := hY
  have hts := C.1.2.2.2.2
  have hpre := zk_pre (av := .ref b :: As) (wc := []) C hw [] rfl rfl
  exact zk_af (wc := []) (wc' := []) (w' := w) hst1 C hw [] rfl rfl (zsel_nil w) rfl rfl (va_runV (C := C0) (n := n) (Ts := zTB) C.1 (hM H.size) ⟨callB_of n hts (zt_inT y4) rfl hrm.1 hrm.2 (hts _ y3) (hts _ hlink) y5 hR, hts _ y1, hts _ y2⟩ ⟨hpre.1, hrc, hpre.2⟩ rfl hn hl hst (lv_room hroom) hdg hcs) kk
end ZS
theorem zn_J0 : plainName RJ0 = true := by decide +kernel
theorem zn_J1 : plainName RJ1 = true := by decide +kernel
theorem zn_J3 : plainName RJ3 = true := by decide +kernel
abbrev zr_0 : Room := { frames := 0, cells := 0, slots := 0, locals := 0 }
abbrev zr_1 : Room := { frames := 1, cells := 0, slots := 0, locals := 40 }
abbrev zr_2 : Room := { frames := 2, cells := 0, slots := 0, locals := 80 }
abbrev zr_3 : Room := { frames := 3, cells := 0, slots := 0, locals := 120 }
set_option maxRecDepth 20000 in
theorem c_coder (l : Launch) (G : va_G) (cy : Nat → ClassId) (tt : Nat → Nat) (i : Nat) (hi : i < 7) : zCT l yJ0_coder_7d493 cJ0_coder_7d493 1 (some .byte) zr_0 G cy tt [.ref (tt (10 + i))] [] (some (.int 0)) [] := by
  refine zk_start zn_J0 (Nat.le_of_ble_eq_true rfl) ?_
  intro p e s m args below meth c A ls Q C hr hQ hw hl
  have hx := C.1.1
  have hb := C.1.2.1
  have hl : lv_has ls 1 [(0, .ref (tt (10 + i)))] := hl
  obtain ⟨-, -, -, hs, -, hz, -⟩ := C.2.2.2.2.1
  refine va_gets (pc := 0) hx hb hz hw.2.2 C.1.2.2.2.1 (C.1.2.2.2.2 _ zg_J0_38) (fun _ h => h) dJ0_coder_7d493_0 ?_
  refine lv_if_eq (pc := 3) (tgt := 13) hx hb dJ0_coder_7d493_3 (by decide) (fun q => absurd q (by decide)) (fun _ => ?_)
  refine lv_aload_n (pc := 6) hx hb dJ0_coder_7d493_6 rfl (lv_at hl 0 rfl) ?_
  refine vk_getf (pc := 7) hx hb (hs.1 i hi).2.1 hw.2.2 C.1.2.2.2.1 (C.1.2.2.2.2 _ zg_J0_15) (fun _ h => h) dJ0_coder_7d493_7 ?_
  refine lv_goto (pc := 10) (tgt := 14) hx hb dJ0_coder_7d493_10 (by decide) ?_
  exact zk_retn (pc := 14) (ww := []) rfl C hw hr hQ dJ0_coder_7d493_14
set_option maxRecDepth 20000 in
theorem c_isLatin1 (l : Launch) (G : va_G) (cy : Nat → ClassId) (tt : Nat → Nat) (i : Nat) (hi : i < 7) : zCT l yJ0_isLatin1_aae02 cJ0_isLatin1_aae02 1 (some .boolean) zr_0 G cy tt [.ref (tt (10 + i))] [] (some (.int 1)) [] := by
  refine zk_start zn_J0 (Nat.le_of_ble_eq_true rfl) ?_
  intro p e s m args below meth c A ls Q C hr hQ hw hl
  have hx := C.1.1
  have hb := C.1.2.1
  have hl : lv_has ls 1 [(0, .ref (tt (10 + i)))] := hl
  obtain ⟨-, -, -, hs, -, hz, -⟩ := C.2.2.2.2.1
  refine va_gets (pc := 0) hx hb hz hw.2.2 C.1.2.2.2.1 (C.1.2.2.2.2 _ zg_J0_38) (fun _ h => h) dJ0_isLatin1_aae02_0 ?_
  refine lv_if_eq (pc := 3) (tgt := 17) hx hb dJ0_isLatin1_aae02_3 (by decide) (fun q => absurd q (by decide)) (fun _ => ?_)
  refine lv_aload_n (pc := 6) hx hb dJ0_isLatin1_aae02_6 rfl (lv_at hl 0 rfl) ?_
  refine vk_getf (pc := 7) hx hb (hs.1 i hi).2.1 hw.2.2 C.1.2.2.2.1 (C.1.2.2.2.2 _ zg_J0_15) (fun _ h => h) dJ0_isLatin1_aae02_7 ?_
  refine lv_if_ne (pc := 10) (tgt := 17) hx hb dJ0_isLatin1_aae02_10 (by decide) (fun q => absurd rfl q) (fun _ => ?_)
  refine lv_iconst (pc := 13) (v := 1) hx hb dJ0_isLatin1_aae02_13 (by decide) ?_
  refine lv_goto (pc := 14) (tgt := 18) hx hb dJ0_isLatin1_aae02_14 (by decide) ?_
  exact zk_retn (pc := 18) (ww := []) rfl C hw hr hQ dJ0_isLatin1_aae02_18
set_option maxRecDepth 20000 in
theorem c_pcheck (l : Launch) (G : va_G) (cy : Nat → ClassId) (tt : Nat → Nat) (i n : Int32) (v : Value) (hv : v = .null ∨ ∃ t, v = .ref t) (h0 : ¬ i < 0) (h1 : i < n) : zCT l yJ3_checkIndex_8e157 cJ3_checkIndex_8e157 3 (some .int) zr_0 G cy tt [.int i, .int n, v] [] (some (.int i)) [] := by
  rcases hv with rfl | ⟨t, rfl⟩
  · refine zk_start zn_J3 (Nat.le_of_ble_eq_true rfl) ?_
    intro p e s m args below meth c A ls Q C hr hQ hw hl
    have hx := C.1.1
    have hb := C.1.2.1
    have hl : lv_has ls 3 [(0, .int i), (1, .int n), (2, .null)] := hl
    refine lv_iload_n (pc := 0) hx hb dJ3_checkIndex_8e157_0 rfl (lv_at hl 0 rfl) ?_
    refine lv_if_lt (pc := 1) (tgt := 9) hx hb dJ3_checkIndex_8e157_1 (by decide) (fun q => absurd q h0) (fun _ => ?_)
    refine lv_iload_n (pc := 4) hx hb dJ3_checkIndex_8e157_4 rfl (lv_at hl 0 rfl) ?_
    refine lv_iload_n (pc := 5) hx hb dJ3_checkIndex_8e157_5 rfl (lv_at hl 1 rfl) ?_
    refine lv_icmp_lt (pc := 6) (tgt := 16) hx hb dJ3_checkIndex_8e157_6 (by decide) (fun _ => ?_) (fun q => absurd h1 q)
    refine lv_iload_n (pc := 16) hx hb dJ3_checkIndex_8e157_16 rfl (lv_at hl 0 rfl) ?_
    exact zk_reti (pc := 17) (ww := []) C hw hr hQ dJ3_checkIndex_8e157_17
  · refine zk_start zn_J3 (Nat.le_of_ble_eq_true rfl) ?_
    intro p e s m args below meth c A ls Q C hr hQ hw hl
    have hx := C.1.1
    have hb := C.1.2.1
    have hl : lv_has ls 3 [(0, .int i), (1, .int n), (2, .ref t)] := hl
    refine lv_iload_n (pc := 0) hx hb dJ3_checkIndex_8e157_0 rfl (lv_at hl 0 rfl) ?_
    refine lv_if_lt (pc := 1) (tgt := 9) hx hb dJ3_checkIndex_8e157_1 (by decide) (fun q => absurd q h0) (fun _ => ?_)
    refine lv_iload_n (pc := 4) hx hb dJ3_checkIndex_8e157_4 rfl (lv_at hl 0 rfl) ?_
    refine lv_iload_n (pc := 5) hx hb dJ3_checkIndex_8e157_5 rfl (lv_at hl 1 rfl) ?_
    refine lv_icmp_lt (pc := 6) (tgt := 16) hx hb dJ3_checkIndex_8e157_6 (by decide) (fun _ => ?_) (fun q => absurd h1 q)
    refine lv_iload_n (pc := 16) hx hb dJ3_checkIndex_8e157_16 rfl (lv_at hl 0 rfl) ?_
    exact zk_reti (pc := 17) (ww := []) C hw hr hQ dJ3_checkIndex_8e157_17
set_option maxRecDepth 20000 in
theorem c_scheck (l : Launch) (G : va_G) (cy : Nat → ClassId) (tt : Nat → Nat) (i n : Int32) (h0 : ¬ i < 0) (h1 : i < n) : zCT l yJ0_checkIndex_df160 cJ0_checkIndex_df160 2 none zr_1 G cy tt [.int i, .int n] [] none [] := by
  refine zk_start zn_J0 (Nat.le_of_ble_eq_true rfl) ?_
  intro p e s m args below meth c A ls Q C hr hQ hw hl
  have hx := C.1.1
  have hb := C.1.2.1
  have hl : lv_has ls 2 [(0, .int i), (1, .int n)] := hl
  have C : zCx p m c s args meth cJ0_checkIndex_df160 2 RJ0 G cy tt A := C
  obtain ⟨-, -, -, -, -, -, hz⟩ := C.2.2.2.2.1
  refine lv_iload_n (pc := 0) hx hb dJ0_checkIndex_df160_0 rfl (lv_at hl 0 rfl) ?_
  refine lv_iload_n (pc := 1) hx hb dJ0_checkIndex_df160_1 rfl (lv_at hl 1 rfl) ?_
  rcases hz with hz | ⟨t, hz⟩
  · refine va_gets (pc := 2) hx hb hz hw.2.2 C.1.2.2.2.1 (C.1.2.2.2.2 _ zg_J0_1053) (fun _ h => h) dJ0_checkIndex_df160_2 ?_
    refine zk_cS (pc := 5) (rest := []) (st1 := [.int i]) (w' := []) (mk := []) C hw (c_pcheck l G cy tt i n .null (Or.inl rfl) h0 h1) zy_pcheck zm_J0_1059 [] rfl rfl rfl rfl rfl rfl rfl rfl hl.1 ⟨rfl, rfl⟩ ⟨Nat.le_of_ble_eq_true rfl, Nat.le_of_ble_eq_true rfl⟩ rfl (Nat.le_of_ble_eq_true rfl) ⟨Nat.zero_le _, Nat.zero_le _⟩ dJ0_checkIndex_df160_5 (fun H locs hw => ?_)
    refine lv_pop (pc := 8) hx hb dJ0_checkIndex_df160_8 rfl ?_
    exact zk_retv (pc := 9) (ww := []) C hw hr hQ dJ0_checkIndex_df160_9
  · refine va_gets (pc := 2) hx hb hz hw.2.2 C.1.2.2.2.1 (C.1.2.2.2.2 _ zg_J0_1053) (fun _ h => h) dJ0_checkIndex_df160_2 ?_
    refine zk_cS (pc := 5) (rest := []) (st1 := [.int i]) (w' := []) (mk := []) C hw (c_pcheck l G cy tt i n (.ref t) (Or.inr ⟨t, rfl⟩) h0 h1) zy_pcheck zm_J0_1059 [] rfl rfl rfl rfl rfl rfl rfl rfl hl.1 ⟨rfl, rfl⟩ ⟨Nat.le_of_ble_eq_true rfl, Nat.le_of_ble_eq_true rfl⟩ rfl (Nat.le_of_ble_eq_true rfl) ⟨Nat.zero_le _, Nat.zero_le _⟩ dJ0_checkIndex_df160_5 (fun H locs hw => ?_)
    refine lv_pop (pc := 8) hx hb dJ0_checkIndex_df160_8 rfl ?_
    exact zk_retv (pc := 9) (ww := []) C hw hr hQ dJ0_checkIndex_df160_9
theorem zCH_ok : ∀ i, i < 7 → ∀ k, k < zLEN.getD i 0 → (((zBYT.getD i []).getD k 0 &&& 255).toUInt32 % 65536).toInt32 = zCH i k ∧ narrow .char (.int (zCH i k)) = .int (zCH i k) := by decide +kernel
theorem zLEN_lt : ∀ i, i < 7 → zLEN.getD i 0 < 8 := by decide +kernel
theorem ix_lt {k : Int32} {n : Nat} (h : ix k n = true) (hn : n < 2 ^ 31) : ¬ k < 0 ∧ k < Int32.ofNat n ∧ k.toNatClampNeg < n := by
  have hi := ix_in h
  obtain ⟨h1, h2⟩ : 0 ≤ k.toInt ∧ k.toInt < n := of_decide_eq_true h
  refine ⟨fun q => hi (Or.inl q), ?_, Nat.not_le.mp fun q => hi (Or.inr q)⟩
  have e : (Int32.ofNat n).toInt = n := nI_toInt hn
  exact Int32.lt_iff_toInt_lt.mpr (by rw [e]; exact h2)
set_option maxRecDepth 20000 in
theorem c_lcharAt (l : Launch) (G : va_G) (cy : Nat → ClassId) (tt : Nat → Nat) (i : Nat) (hi : i < 7) (k : Int32) (hk : ix k (zLEN.getD i 0) = true) : zCT l yJ1_charAt_3b067 cJ1_charAt_3b067 2 (some .char) zr_2 G cy tt [.ref (tt (20 + i)), .int k] [] (some (.int (zCH i k.toNatClampNeg))) [] := by
  refine zk_start zn_J1 (Nat.le_of_ble_eq_true rfl) ?_
  intro p e s m args below meth c A ls Q C hr hQ hw hl
  have hx := C.1.1
  have hb := C.1.2.1
  have hl : lv_has ls 2 [(0, .ref (tt (20 + i))), (1, .int k)] := hl
  have C : zCx p m c s args meth cJ1_charAt_3b067 2 RJ1 G cy tt A := C
  obtain ⟨-, -, -, hs, -, -, -⟩ := C.2.2.2.2.1
  obtain ⟨h0, h1, h2⟩ := ix_lt hk (Nat.lt_trans (zLEN_lt i hi) (by decide))
  obtain ⟨c1, c2⟩ := zCH_ok i hi _ h2
  refine lv_iload_n (pc := 0) hx hb dJ1_charAt_3b067_0 rfl (lv_at hl 1 rfl) ?_
  refine lv_aload_n (pc := 1) hx hb dJ1_charAt_3b067_1 rfl (lv_at hl 0 rfl) ?_
  refine va_tlen (pc := 2) (v := Int32.ofNat (zLEN.getD i 0)) hx hb (hs.1 i hi).2.2.2 hw.2.2 rfl dJ1_charAt_3b067_2 ?_
  refine zk_cS (pc := 3) (rest := []) (st1 := []) (w' := []) (mk := []) C hw (c_scheck l G cy tt k _ h0 h1) zy_scheck zm_J1_9 [] rfl rfl rfl rfl rfl rfl rfl rfl hl.1 ⟨rfl, rfl⟩ ⟨Nat.le_of_ble_eq_true rfl, Nat.le_of_ble_eq_true rfl⟩ rfl (Nat.le_of_ble_eq_true rfl) ⟨Nat.zero_le _, Nat.zero_le _⟩ dJ1_charAt_3b067_3 (fun H locs hw => ?_)
  refine lv_aload_n (pc := 6) hx hb dJ1_charAt_3b067_6 rfl (lv_at hl 0 rfl) ?_
  refine lv_iload_n (pc := 7) hx hb dJ1_charAt_3b067_7 rfl (lv_at hl 1 rfl) ?_
  refine va_tb (pc := 8) hx hb (hs.1 i hi).2.2.2 hw.2.2 (ix_in hk) rfl dJ1_charAt_3b067_8 ?_
  refine lv_sipush (pc := 9) (v := 255) hx hb dJ1_charAt_3b067_9 (by decide) ?_
  refine lv_iand (pc := 12) hx hb dJ1_charAt_3b067_12 ?_
  refine lv_i2c (pc := 13) (v := zCH i k.toNatClampNeg) hx hb dJ1_charAt_3b067_13 c1 ?_
  exact zk_retn (pc := 14) (ww := []) c2 C hw hr hQ dJ1_charAt_3b067_14
set_option maxRecDepth 20000 in
theorem c_length (l : Launch) (G : va_G) (cy : Nat → ClassId) (tt : Nat → Nat) (i : Nat) (hi : i < 7) : zCT l yJ0_length_8abf5 cJ0_length_8abf5 1 (some .int) zr_1 G cy tt [.ref (tt (10 + i))] [] (some (.int (Int32.ofNat (zLEN.getD i 0)))) [] := by
  refine zk_start zn_J0 (Nat.le_of_ble_eq_true rfl) ?_
  intro p e s m args below meth c A ls Q C hr hQ hw hl
  have hx := C.1.1
  have hb := C.1.2.1
  have hl : lv_has ls 1 [(0, .ref (tt (10 + i)))] := hl
  have C : zCx p m c s args meth cJ0_length_8abf5 1 RJ0 G cy tt A := C
  obtain ⟨-, -, -, hs, -, -, -⟩ := C.2.2.2.2.1
  have hsh : ∀ i, i < 7 → Int32.ofNat (zLEN.getD i 0) >>> ((0 : Int32) &&& 31) = Int32.ofNat (zLEN.getD i 0) := by decide +kernel
  refine lv_aload_n (pc := 0) hx hb dJ0_length_8abf5_0 rfl (lv_at hl 0 rfl) ?_
  refine vk_getf (pc := 1) hx hb (hs.1 i hi).2.2.1 hw.2.2 C.1.2.2.2.1 (C.1.2.2.2.2 _ zg_J0_9) (fun _ h => h) dJ0_length_8abf5_1 ?_
  refine va_tlen (pc := 4) (v := Int32.ofNat (zLEN.getD i 0)) hx hb (hs.1 i hi).2.2.2 hw.2.2 rfl dJ0_length_8abf5_4 ?_
  refine lv_aload_n (pc := 5) hx hb dJ0_length_8abf5_5 rfl (lv_at hl 0 rfl) ?_
  refine zk_cVs (pc := 6) (rest := [.int (Int32.ofNat (zLEN.getD i 0))]) (st1 := [.int 0, .int (Int32.ofNat (zLEN.getD i 0))]) (w := []) C hw (c_coder l G cy tt i hi) zy_coder zm_J0_335 (vk_recv (adK := fun i => tt (10 + i)) (i := i) hs hi hw.2.2) rfl rfl hl.1 ⟨rfl, rfl⟩ ⟨Nat.le_of_ble_eq_true rfl, Nat.le_of_ble_eq_true rfl⟩ rfl (Nat.le_of_ble_eq_true rfl) ⟨Nat.zero_le _, Nat.zero_le _⟩ dJ0_length_8abf5_6 (fun H locs hw => ?_)
  refine lv_ishr (pc := 9) hx hb dJ0_length_8abf5_9 ?_
  refine zk_eqi (hsh i hi) ?_
  exact zk_reti (pc := 10) (ww := []) C hw hr hQ dJ0_length_8abf5_10
set_option maxRecDepth 20000 in
theorem c_charAt (l : Launch) (G : va_G) (cy : Nat → ClassId) (tt : Nat → Nat) (i : Nat) (hi : i < 7) (k : Int32) (hk : ix k (zLEN.getD i 0) = true) : zCT l yJ0_charAt_5068e cJ0_charAt_5068e 2 (some .char) zr_3 G cy tt [.ref (tt (10 + i)), .int k] [] (some (.int (zCH i k.toNatClampNeg))) [] := by
  refine zk_start zn_J0 (Nat.le_of_ble_eq_true rfl) ?_
  intro p e s m args below meth c A ls Q C hr hQ hw hl
  have hx := C.1.1
  have hb := C.1.2.1
  have hl : lv_has ls 2 [(0, .ref (tt (10 + i))), (1, .int k)] := hl
  have C : zCx p m c s args meth cJ0_charAt_5068e 2 RJ0 G cy tt A := C
  obtain ⟨-, -, -, hs, -, -, -⟩ := C.2.2.2.2.1
  obtain ⟨h0, h1, h2⟩ := ix_lt hk (Nat.lt_trans (zLEN_lt i hi) (by decide))
  obtain ⟨c1, c2⟩ := zCH_ok i hi _ h2
  refine lv_aload_n (pc := 0) hx hb dJ0_charAt_5068e_0 rfl (lv_at hl 0 rfl) ?_
  refine zk_cVs (pc := 1) (rest := []) (st1 := [.int 1]) (w := []) C hw (c_isLatin1 l G cy tt i hi) zy_isLatin1 zm_J0_492 (vk_recv (adK := fun i => tt (10 + i)) (i := i) hs hi hw.2.2) rfl rfl hl.1 ⟨rfl, rfl⟩ ⟨Nat.le_of_ble_eq_true rfl, Nat.le_of_ble_eq_true rfl⟩ rfl (Nat.le_of_ble_eq_true rfl) ⟨Nat.zero_le _, Nat.zero_le _⟩ dJ0_charAt_5068e_1 (fun H locs hw => ?_)
  refine lv_if_eq (pc := 4) (tgt := 16) hx hb dJ0_charAt_5068e_4 (by decide) (fun q => absurd q (by decide)) (fun _ => ?_)
  refine lv_aload_n (pc := 7) hx hb dJ0_charAt_5068e_7 rfl (lv_at hl 0 rfl) ?_
  refine vk_getf (pc := 8) hx hb (hs.1 i hi).2.2.1 hw.2.2 C.1.2.2.2.1 (C.1.2.2.2.2 _ zg_J0_9) (fun _ h => h) dJ0_charAt_5068e_8 ?_
  refine lv_iload_n (pc := 11) hx hb dJ0_charAt_5068e_11 rfl (lv_at hl 1 rfl) ?_
  refine zk_cS (pc := 12) (rest := []) (st1 := [.int (zCH i k.toNatClampNeg)]) (w' := []) (mk := []) C hw (c_lcharAt l G cy tt i hi k hk) zy_lcharAt zm_J0_495 [] rfl rfl rfl rfl rfl rfl rfl rfl hl.1 ⟨rfl, rfl⟩ ⟨Nat.le_of_ble_eq_true rfl, Nat.le_of_ble_eq_true rfl⟩ rfl (Nat.le_of_ble_eq_true rfl) ⟨Nat.zero_le _, Nat.zero_le _⟩ dJ0_charAt_5068e_12 (fun H locs hw => ?_)
  exact zk_retn (pc := 15) (ww := []) c2 C hw hr hQ dJ0_charAt_5068e_15
section ZS2
variable {p : Program} {l : Launch} {e : Env} {R : Room} {s : State} {m : MethodId} {args : Array Value} {below : List Frame} {meth : Method} {c : Code} {H : Heap} {locs : List Loc} {cells slots : Nat} {Q : State → Prop} {cc : ByteArray} {pc nL idx : Nat} {ls : Array Slot} {rest : List Value} {G : va_G} {cy : Nat → ClassId} {tt : Nat → Nat} {A : Nat → Prop} {w : va_W} {own : String}
theorem zk_slen {i : Nat} {v : Int32} (hi : i < 7) (hv : Int32.ofNat (zLEN.getD i 0) = v) (C : zCx p m c s args meth cc nL own G cy tt A) (hw : zWd G A s.heap H locs w) (hl : ls.size = nL) (hR : 8 ≤ R.frames ∧ 300 ≤ R.locals) (hroom : (rest.map fun v => v.category).sum ≤ 8) (hcs : cells ≤ R.cells ∧ slots ≤ R.slots) (hlink : Cond.methodLink own idx yJ0_length_8abf5 ∈ zTB) (hdg : decode cc pc = .ok (.invokevirtual idx, 3))
    (kk : ∀ (H : Heap) (locs : List Loc), zWd G A s.heap H locs w → W p l e R s m args below meth c H locs cells slots Q (F0 m (pc + 3) ls (.int v :: rest))) : W p l e R s m args below meth c H locs cells slots Q (F0 m pc ls (.ref (tt (10 + i)) :: rest)) := by
  subst hv
  exact zk_cVs (rest := rest) C hw (c_length l G cy tt i hi) zy_length hlink (vk_recv (adK := fun i => tt (10 + i)) (i := i) C.2.2.2.2.1.2.2.2.1 hi hw.2.2) rfl rfl hl ⟨rfl, rfl⟩ ⟨Nat.le_trans (by decide) hR.1, Nat.le_trans (by decide) hR.2⟩ rfl hroom hcs hdg kk
theorem zk_schr {i : Nat} {k : Int32} (hi : i < 7) (hin : ix k (zLEN.getD i 0) = true) (C : zCx p m c s args meth cc nL own G cy tt A) (hw : zWd G A s.heap H locs w) (hl : ls.size = nL) (hR : 8 ≤ R.frames ∧ 300 ≤ R.locals) (hroom : (rest.map fun v => v.category).sum ≤ 8) (hcs : cells ≤ R.cells ∧ slots ≤ R.slots) (hlink : Cond.methodLink own idx yJ0_charAt_5068e ∈ zTB) (hdg : decode cc pc = .ok (.invokevirtual idx, 3))
    (kk : ∀ (H : Heap) (locs : List Loc), zWd G A s.heap H locs w → W p l e R s m args below meth c H locs cells slots Q (F0 m (pc + 3) ls (.int (zCH i k.toNatClampNeg) :: rest))) : W p l e R s m args below meth c H locs cells slots Q (F0 m pc ls (.int k :: .ref (tt (10 + i)) :: rest)) :=
  zk_cVs (rest := rest) (As := [.int k]) C hw (c_charAt l G cy tt i hi k hin) zy_charAt hlink (vk_recv (adK := fun i => tt (10 + i)) (i := i) C.2.2.2.2.1.2.2.2.1 hi hw.2.2) rfl rfl hl ⟨rfl, rfl⟩ ⟨Nat.le_trans (by decide) hR.1, Nat.le_trans (by decide) hR.2⟩ rfl hroom hcs hdg kk
end ZS2
